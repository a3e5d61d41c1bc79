theorem dX7_refuse_0 : decode cX7_refuse 0 = .ok (.iload_n 1, 1) := by decide +kernel
theorem dX7_refuse_1 : decode cX7_refuse 1 = .ok (.bipush (-2), 2) := by decide +kernel
theorem dX7_refuse_3 : decode cX7_refuse 3 = .ok (.if_icmp .ne 16, 3) := by decide +kernel
theorem dX7_refuse_6 : decode cX7_refuse 6 = .ok (.aload_n 0, 1) := by decide +kernel
theorem dX7_refuse_7 : decode cX7_refuse 7 = .ok (.dup, 1) := by decide +kernel
theorem dX7_refuse_8 : decode cX7_refuse 8 = .ok (.getfield 55, 3) := by decide +kernel
theorem dX7_refuse_11 : decode cX7_refuse 11 = .ok (.iconst 1, 1) := by decide +kernel
theorem dX7_refuse_12 : decode cX7_refuse 12 = .ok (.iadd, 1) := by decide +kernel
theorem dX7_refuse_13 : decode cX7_refuse 13 = .ok (.putfield 55, 3) := by decide +kernel
theorem dX7_refuse_16 : decode cX7_refuse 16 = .ok (.goto 32, 3) := by decide +kernel
theorem dX7_refuse_19 : decode cX7_refuse 19 = .ok (.iload_n 1, 1) := by decide +kernel
theorem dX7_refuse_20 : decode cX7_refuse 20 = .ok (.bipush (-3), 2) := by decide +kernel
theorem dX7_refuse_22 : decode cX7_refuse 22 = .ok (.if_icmp .ne 16, 3) := by decide +kernel
theorem dX7_refuse_25 : decode cX7_refuse 25 = .ok (.aload_n 0, 1) := by decide +kernel
theorem dX7_refuse_26 : decode cX7_refuse 26 = .ok (.dup, 1) := by decide +kernel
theorem dX7_refuse_27 : decode cX7_refuse 27 = .ok (.getfield 59, 3) := by decide +kernel
theorem dX7_refuse_30 : decode cX7_refuse 30 = .ok (.iconst 1, 1) := by decide +kernel
theorem dX7_refuse_31 : decode cX7_refuse 31 = .ok (.iadd, 1) := by decide +kernel
theorem dX7_refuse_32 : decode cX7_refuse 32 = .ok (.putfield 59, 3) := by decide +kernel
theorem dX7_refuse_35 : decode cX7_refuse 35 = .ok (.goto 13, 3) := by decide +kernel
theorem dX7_refuse_38 : decode cX7_refuse 38 = .ok (.aload_n 0, 1) := by decide +kernel
theorem dX7_refuse_39 : decode cX7_refuse 39 = .ok (.dup, 1) := by decide +kernel
theorem dX7_refuse_40 : decode cX7_refuse 40 = .ok (.getfield 62, 3) := by decide +kernel
theorem dX7_refuse_43 : decode cX7_refuse 43 = .ok (.iconst 1, 1) := by decide +kernel
theorem dX7_refuse_44 : decode cX7_refuse 44 = .ok (.iadd, 1) := by decide +kernel
theorem dX7_refuse_45 : decode cX7_refuse 45 = .ok (.putfield 62, 3) := by decide +kernel
theorem dX7_refuse_48 : decode cX7_refuse 48 = .ok (.iload_n 1, 1) := by decide +kernel
theorem dX7_refuse_49 : decode cX7_refuse 49 = .ok (.ireturn, 1) := by decide +kernel
theorem dX7_isSet_0 : decode cX7_isSet 0 = .ok (.iload_n 1, 1) := by decide +kernel
theorem dX7_isSet_1 : decode cX7_isSet 1 = .ok (.ifCond .lt 20, 3) := by decide +kernel
theorem dX7_isSet_4 : decode cX7_isSet 4 = .ok (.iload_n 1, 1) := by decide +kernel
theorem dX7_isSet_5 : decode cX7_isSet 5 = .ok (.iconst 1, 1) := by decide +kernel
theorem dX7_isSet_6 : decode cX7_isSet 6 = .ok (.aload_n 0, 1) := by decide +kernel
theorem dX7_isSet_7 : decode cX7_isSet 7 = .ok (.getfield 10, 3) := by decide +kernel
theorem dX7_isSet_10 : decode cX7_isSet 10 = .ok (.getfield 69, 3) := by decide +kernel
theorem dX7_isSet_13 : decode cX7_isSet 13 = .ok (.ishl, 1) := by decide +kernel
theorem dX7_isSet_14 : decode cX7_isSet 14 = .ok (.if_icmp .ge 7, 3) := by decide +kernel
theorem dX7_isSet_17 : decode cX7_isSet 17 = .ok (.iconst 1, 1) := by decide +kernel
theorem dX7_isSet_18 : decode cX7_isSet 18 = .ok (.goto 4, 3) := by decide +kernel
theorem dX7_isSet_21 : decode cX7_isSet 21 = .ok (.iconst 0, 1) := by decide +kernel
theorem dX7_isSet_22 : decode cX7_isSet 22 = .ok (.ireturn, 1) := by decide +kernel
theorem dX7_keepState_0 : decode cX7_keepState 0 = .ok (.aload_n 0, 1) := by decide +kernel
theorem dX7_keepState_1 : decode cX7_keepState 1 = .ok (.getfield 19, 3) := by decide +kernel
theorem dX7_keepState_4 : decode cX7_keepState 4 = .ok (.aload_n 0, 1) := by decide +kernel
theorem dX7_keepState_5 : decode cX7_keepState 5 = .ok (.getfield 10, 3) := by decide +kernel
theorem dX7_keepState_8 : decode cX7_keepState 8 = .ok (.invokevirtual 187, 3) := by decide +kernel
theorem dX7_keepState_11 : decode cX7_keepState 11 = .ok (.aload_n 0, 1) := by decide +kernel
theorem dX7_keepState_12 : decode cX7_keepState 12 = .ok (.iconst 0, 1) := by decide +kernel
theorem dX7_keepState_13 : decode cX7_keepState 13 = .ok (.putfield 51, 3) := by decide +kernel
theorem dX7_keepState_16 : decode cX7_keepState 16 = .ok (.return_, 1) := by decide +kernel
theorem dX7_fit_0 : decode cX7_fit 0 = .ok (.aload_n 0, 1) := by decide +kernel
theorem dX7_fit_1 : decode cX7_fit 1 = .ok (.getfield 51, 3) := by decide +kernel
theorem dX7_fit_4 : decode cX7_fit 4 = .ok (.ifCond .ne 37, 3) := by decide +kernel
theorem dX7_fit_7 : decode cX7_fit 7 = .ok (.aload_n 0, 1) := by decide +kernel
theorem dX7_fit_8 : decode cX7_fit 8 = .ok (.getfield 40, 3) := by decide +kernel
theorem dX7_fit_11 : decode cX7_fit 11 = .ok (.aload_n 0, 1) := by decide +kernel
theorem dX7_fit_12 : decode cX7_fit 12 = .ok (.getfield 10, 3) := by decide +kernel
theorem dX7_fit_15 : decode cX7_fit 15 = .ok (.invokevirtual 190, 3) := by decide +kernel
theorem dX7_fit_18 : decode cX7_fit 18 = .ok (.aload_n 0, 1) := by decide +kernel
theorem dX7_fit_19 : decode cX7_fit 19 = .ok (.getfield 47, 3) := by decide +kernel
theorem dX7_fit_22 : decode cX7_fit 22 = .ok (.aload_n 0, 1) := by decide +kernel
theorem dX7_fit_23 : decode cX7_fit 23 = .ok (.getfield 40, 3) := by decide +kernel
theorem dX7_fit_26 : decode cX7_fit 26 = .ok (.aload_n 0, 1) := by decide +kernel
theorem dX7_fit_27 : decode cX7_fit 27 = .ok (.getfield 10, 3) := by decide +kernel
theorem dX7_fit_30 : decode cX7_fit 30 = .ok (.getfield 69, 3) := by decide +kernel
theorem dX7_fit_33 : decode cX7_fit 33 = .ok (.invokevirtual 193, 3) := by decide +kernel
theorem dX7_fit_36 : decode cX7_fit 36 = .ok (.aload_n 0, 1) := by decide +kernel
theorem dX7_fit_37 : decode cX7_fit 37 = .ok (.iconst 1, 1) := by decide +kernel
theorem dX7_fit_38 : decode cX7_fit 38 = .ok (.putfield 51, 3) := by decide +kernel
theorem dX7_fit_41 : decode cX7_fit 41 = .ok (.return_, 1) := by decide +kernel
theorem dX7_tellPoint_0 : decode cX7_tellPoint 0 = .ok (.iload_n 2, 1) := by decide +kernel
theorem dX7_tellPoint_1 : decode cX7_tellPoint 1 = .ok (.lookupswitch 45 #[(0, 27), (1, 36)], 27) := by decide +kernel
theorem dX7_tellPoint_28 : decode cX7_tellPoint 28 = .ok (.aload_n 0, 1) := by decide +kernel
theorem dX7_tellPoint_29 : decode cX7_tellPoint 29 = .ok (.getfield 47, 3) := by decide +kernel
theorem dX7_tellPoint_32 : decode cX7_tellPoint 32 = .ok (.iload_n 1, 1) := by decide +kernel
theorem dX7_tellPoint_33 : decode cX7_tellPoint 33 = .ok (.invokevirtual 196, 3) := by decide +kernel
theorem dX7_tellPoint_36 : decode cX7_tellPoint 36 = .ok (.ireturn, 1) := by decide +kernel
theorem dX7_tellPoint_37 : decode cX7_tellPoint 37 = .ok (.aload_n 0, 1) := by decide +kernel
theorem dX7_tellPoint_38 : decode cX7_tellPoint 38 = .ok (.getfield 40, 3) := by decide +kernel
theorem dX7_tellPoint_41 : decode cX7_tellPoint 41 = .ok (.iload_n 1, 1) := by decide +kernel
theorem dX7_tellPoint_42 : decode cX7_tellPoint 42 = .ok (.invokevirtual 199, 3) := by decide +kernel
theorem dX7_tellPoint_45 : decode cX7_tellPoint 45 = .ok (.ireturn, 1) := by decide +kernel
theorem dX7_tellPoint_46 : decode cX7_tellPoint 46 = .ok (.aload_n 0, 1) := by decide +kernel
theorem dX7_tellPoint_47 : decode cX7_tellPoint 47 = .ok (.getfield 47, 3) := by decide +kernel
theorem dX7_tellPoint_50 : decode cX7_tellPoint 50 = .ok (.iload_n 1, 1) := by decide +kernel
theorem dX7_tellPoint_51 : decode cX7_tellPoint 51 = .ok (.invokevirtual 202, 3) := by decide +kernel
theorem dX7_tellPoint_54 : decode cX7_tellPoint 54 = .ok (.ireturn, 1) := by decide +kernel
theorem dX7_tell_0 : decode cX7_tell 0 = .ok (.iload_n 1, 1) := by decide +kernel
theorem dX7_tell_1 : decode cX7_tell 1 = .ok (.tableswitch 78 0 5 #[39, 44, 49, 54, 62, 70], 39) := by decide +kernel
theorem dX7_tell_40 : decode cX7_tell 40 = .ok (.aload_n 0, 1) := by decide +kernel
theorem dX7_tell_41 : decode cX7_tell 41 = .ok (.getfield 55, 3) := by decide +kernel
theorem dX7_tell_44 : decode cX7_tell 44 = .ok (.ireturn, 1) := by decide +kernel
theorem dX7_tell_45 : decode cX7_tell 45 = .ok (.aload_n 0, 1) := by decide +kernel
theorem dX7_tell_46 : decode cX7_tell 46 = .ok (.getfield 59, 3) := by decide +kernel
theorem dX7_tell_49 : decode cX7_tell 49 = .ok (.ireturn, 1) := by decide +kernel
theorem dX7_tell_50 : decode cX7_tell 50 = .ok (.aload_n 0, 1) := by decide +kernel
theorem dX7_tell_51 : decode cX7_tell 51 = .ok (.getfield 62, 3) := by decide +kernel
theorem dX7_tell_54 : decode cX7_tell 54 = .ok (.ireturn, 1) := by decide +kernel
theorem dX7_tell_55 : decode cX7_tell 55 = .ok (.aload_n 0, 1) := by decide +kernel
theorem dX7_tell_56 : decode cX7_tell 56 = .ok (.getfield 26, 3) := by decide +kernel
theorem dX7_tell_59 : decode cX7_tell 59 = .ok (.getfield 147, 3) := by decide +kernel
theorem dX7_tell_62 : decode cX7_tell 62 = .ok (.ireturn, 1) := by decide +kernel
theorem dX7_tell_63 : decode cX7_tell 63 = .ok (.aload_n 0, 1) := by decide +kernel
theorem dX7_tell_64 : decode cX7_tell 64 = .ok (.getfield 10, 3) := by decide +kernel
theorem dX7_tell_67 : decode cX7_tell 67 = .ok (.getfield 69, 3) := by decide +kernel
theorem dX7_tell_70 : decode cX7_tell 70 = .ok (.ireturn, 1) := by decide +kernel
theorem dX7_tell_71 : decode cX7_tell 71 = .ok (.aload_n 0, 1) := by decide +kernel
theorem dX7_tell_72 : decode cX7_tell 72 = .ok (.getfield 10, 3) := by decide +kernel
theorem dX7_tell_75 : decode cX7_tell 75 = .ok (.getfield 85, 3) := by decide +kernel
theorem dX7_tell_78 : decode cX7_tell 78 = .ok (.ireturn, 1) := by decide +kernel
theorem dX7_tell_79 : decode cX7_tell 79 = .ok (.aload_n 0, 1) := by decide +kernel
theorem dX7_tell_80 : decode cX7_tell 80 = .ok (.getfield 19, 3) := by decide +kernel
theorem dX7_tell_83 : decode cX7_tell 83 = .ok (.getfield 169, 3) := by decide +kernel
theorem dX7_tell_86 : decode cX7_tell 86 = .ok (.ireturn, 1) := by decide +kernel
theorem dX7_points_0 : decode cX7_points 0 = .ok (.iload_n 1, 1) := by decide +kernel
theorem dX7_points_1 : decode cX7_points 1 = .ok (.iconst 1, 1) := by decide +kernel
theorem dX7_points_2 : decode cX7_points 2 = .ok (.if_icmp .lt 9, 3) := by decide +kernel
theorem dX7_points_5 : decode cX7_points 5 = .ok (.iload_n 1, 1) := by decide +kernel
theorem dX7_points_6 : decode cX7_points 6 = .ok (.bipush 8, 2) := by decide +kernel
theorem dX7_points_8 : decode cX7_points 8 = .ok (.if_icmp .le 10, 3) := by decide +kernel
theorem dX7_points_11 : decode cX7_points 11 = .ok (.aload_n 0, 1) := by decide +kernel
theorem dX7_points_12 : decode cX7_points 12 = .ok (.bipush (-2), 2) := by decide +kernel
theorem dX7_points_14 : decode cX7_points 14 = .ok (.invokevirtual 65, 3) := by decide +kernel
theorem dX7_points_17 : decode cX7_points 17 = .ok (.ireturn, 1) := by decide +kernel
theorem dX7_points_18 : decode cX7_points 18 = .ok (.aload_n 0, 1) := by decide +kernel
theorem dX7_points_19 : decode cX7_points 19 = .ok (.getfield 10, 3) := by decide +kernel
theorem dX7_points_22 : decode cX7_points 22 = .ok (.getfield 69, 3) := by decide +kernel
theorem dX7_points_25 : decode cX7_points 25 = .ok (.istore_n 2, 1) := by decide +kernel
theorem dX7_points_26 : decode cX7_points 26 = .ok (.aload_n 0, 1) := by decide +kernel
theorem dX7_points_27 : decode cX7_points 27 = .ok (.invokevirtual 72, 3) := by decide +kernel
theorem dX7_points_30 : decode cX7_points 30 = .ok (.aload_n 0, 1) := by decide +kernel
theorem dX7_points_31 : decode cX7_points 31 = .ok (.getfield 10, 3) := by decide +kernel
theorem dX7_points_34 : decode cX7_points 34 = .ok (.iload_n 1, 1) := by decide +kernel
theorem dX7_points_35 : decode cX7_points 35 = .ok (.invokevirtual 75, 3) := by decide +kernel
theorem dX7_points_38 : decode cX7_points 38 = .ok (.iload_n 2, 1) := by decide +kernel
theorem dX7_points_39 : decode cX7_points 39 = .ok (.ireturn, 1) := by decide +kernel
theorem dX7_moves_0 : decode cX7_moves 0 = .ok (.iload_n 1, 1) := by decide +kernel
theorem dX7_moves_1 : decode cX7_moves 1 = .ok (.aload_n 0, 1) := by decide +kernel
theorem dX7_moves_2 : decode cX7_moves 2 = .ok (.getfield 10, 3) := by decide +kernel
theorem dX7_moves_5 : decode cX7_moves 5 = .ok (.getfield 69, 3) := by decide +kernel
theorem dX7_moves_8 : decode cX7_moves 8 = .ok (.invokestatic 79, 3) := by decide +kernel
theorem dX7_moves_11 : decode cX7_moves 11 = .ok (.istore_n 2, 1) := by decide +kernel
theorem dX7_moves_12 : decode cX7_moves 12 = .ok (.iload_n 2, 1) := by decide +kernel
theorem dX7_moves_13 : decode cX7_moves 13 = .ok (.iconst (-1), 1) := by decide +kernel
theorem dX7_moves_14 : decode cX7_moves 14 = .ok (.if_icmp .ne 10, 3) := by decide +kernel
theorem dX7_moves_17 : decode cX7_moves 17 = .ok (.aload_n 0, 1) := by decide +kernel
theorem dX7_moves_18 : decode cX7_moves 18 = .ok (.bipush (-2), 2) := by decide +kernel
theorem dX7_moves_20 : decode cX7_moves 20 = .ok (.invokevirtual 65, 3) := by decide +kernel
theorem dX7_moves_23 : decode cX7_moves 23 = .ok (.ireturn, 1) := by decide +kernel
theorem dX7_moves_24 : decode cX7_moves 24 = .ok (.aload_n 0, 1) := by decide +kernel
theorem dX7_moves_25 : decode cX7_moves 25 = .ok (.getfield 10, 3) := by decide +kernel
theorem dX7_moves_28 : decode cX7_moves 28 = .ok (.getfield 85, 3) := by decide +kernel
theorem dX7_moves_31 : decode cX7_moves 31 = .ok (.iconst 3, 1) := by decide +kernel
theorem dX7_moves_32 : decode cX7_moves 32 = .ok (.if_icmp .lt 10, 3) := by decide +kernel
theorem dX7_moves_35 : decode cX7_moves 35 = .ok (.aload_n 0, 1) := by decide +kernel
theorem dX7_moves_36 : decode cX7_moves 36 = .ok (.bipush (-4), 2) := by decide +kernel
theorem dX7_moves_38 : decode cX7_moves 38 = .ok (.invokevirtual 65, 3) := by decide +kernel
theorem dX7_moves_41 : decode cX7_moves 41 = .ok (.ireturn, 1) := by decide +kernel
theorem dX7_moves_42 : decode cX7_moves 42 = .ok (.aload_n 0, 1) := by decide +kernel
theorem dX7_moves_43 : decode cX7_moves 43 = .ok (.invokevirtual 72, 3) := by decide +kernel
theorem dX7_moves_46 : decode cX7_moves 46 = .ok (.aload_n 0, 1) := by decide +kernel
theorem dX7_moves_47 : decode cX7_moves 47 = .ok (.getfield 10, 3) := by decide +kernel
theorem dX7_moves_50 : decode cX7_moves 50 = .ok (.iload_n 2, 1) := by decide +kernel
theorem dX7_moves_51 : decode cX7_moves 51 = .ok (.invokevirtual 88, 3) := by decide +kernel
theorem dX7_moves_54 : decode cX7_moves 54 = .ok (.pop, 1) := by decide +kernel
theorem dX7_moves_55 : decode cX7_moves 55 = .ok (.aload_n 0, 1) := by decide +kernel
theorem dX7_moves_56 : decode cX7_moves 56 = .ok (.getfield 10, 3) := by decide +kernel
theorem dX7_moves_59 : decode cX7_moves 59 = .ok (.getfield 85, 3) := by decide +kernel
theorem dX7_moves_62 : decode cX7_moves 62 = .ok (.iconst 1, 1) := by decide +kernel
theorem dX7_moves_63 : decode cX7_moves 63 = .ok (.isub, 1) := by decide +kernel
theorem dX7_moves_64 : decode cX7_moves 64 = .ok (.ireturn, 1) := by decide +kernel
theorem dX7_drops_0 : decode cX7_drops 0 = .ok (.iload_n 1, 1) := by decide +kernel
theorem dX7_drops_1 : decode cX7_drops 1 = .ok (.ifCond .lt 14, 3) := by decide +kernel
theorem dX7_drops_4 : decode cX7_drops 4 = .ok (.iload_n 1, 1) := by decide +kernel
theorem dX7_drops_5 : decode cX7_drops 5 = .ok (.aload_n 0, 1) := by decide +kernel
theorem dX7_drops_6 : decode cX7_drops 6 = .ok (.getfield 10, 3) := by decide +kernel
theorem dX7_drops_9 : decode cX7_drops 9 = .ok (.getfield 85, 3) := by decide +kernel
theorem dX7_drops_12 : decode cX7_drops 12 = .ok (.if_icmp .lt 10, 3) := by decide +kernel
theorem dX7_drops_15 : decode cX7_drops 15 = .ok (.aload_n 0, 1) := by decide +kernel
theorem dX7_drops_16 : decode cX7_drops 16 = .ok (.bipush (-2), 2) := by decide +kernel
theorem dX7_drops_18 : decode cX7_drops 18 = .ok (.invokevirtual 65, 3) := by decide +kernel
theorem dX7_drops_21 : decode cX7_drops 21 = .ok (.ireturn, 1) := by decide +kernel
theorem dX7_drops_22 : decode cX7_drops 22 = .ok (.aload_n 0, 1) := by decide +kernel
theorem dX7_drops_23 : decode cX7_drops 23 = .ok (.invokevirtual 72, 3) := by decide +kernel
theorem dX7_drops_26 : decode cX7_drops 26 = .ok (.aload_n 0, 1) := by decide +kernel
theorem dX7_drops_27 : decode cX7_drops 27 = .ok (.getfield 10, 3) := by decide +kernel
theorem dX7_drops_30 : decode cX7_drops 30 = .ok (.iload_n 1, 1) := by decide +kernel
theorem dX7_drops_31 : decode cX7_drops 31 = .ok (.invokevirtual 92, 3) := by decide +kernel
theorem dX7_drops_34 : decode cX7_drops 34 = .ok (.pop, 1) := by decide +kernel
theorem dX7_drops_35 : decode cX7_drops 35 = .ok (.aload_n 0, 1) := by decide +kernel
theorem dX7_drops_36 : decode cX7_drops 36 = .ok (.getfield 10, 3) := by decide +kernel
theorem dX7_drops_39 : decode cX7_drops 39 = .ok (.getfield 85, 3) := by decide +kernel
theorem dX7_drops_42 : decode cX7_drops 42 = .ok (.ireturn, 1) := by decide +kernel
theorem dX7_order_0 : decode cX7_order 0 = .ok (.aload_n 0, 1) := by decide +kernel
theorem dX7_order_1 : decode cX7_order 1 = .ok (.invokevirtual 95, 3) := by decide +kernel
theorem dX7_order_4 : decode cX7_order 4 = .ok (.aload_n 0, 1) := by decide +kernel
theorem dX7_order_5 : decode cX7_order 5 = .ok (.getfield 40, 3) := by decide +kernel
theorem dX7_order_8 : decode cX7_order 8 = .ok (.invokevirtual 98, 3) := by decide +kernel
theorem dX7_order_11 : decode cX7_order 11 = .ok (.ireturn, 1) := by decide +kernel
theorem dX7_of_0 : decode cX7_of 0 = .ok (.iload_n 1, 1) := by decide +kernel
theorem dX7_of_1 : decode cX7_of 1 = .ok (.ifCond .lt 23, 3) := by decide +kernel
theorem dX7_of_4 : decode cX7_of 4 = .ok (.iload_n 1, 1) := by decide +kernel
theorem dX7_of_5 : decode cX7_of 5 = .ok (.aload_n 0, 1) := by decide +kernel
theorem dX7_of_6 : decode cX7_of 6 = .ok (.getfield 10, 3) := by decide +kernel
theorem dX7_of_9 : decode cX7_of 9 = .ok (.getfield 69, 3) := by decide +kernel
theorem dX7_of_12 : decode cX7_of 12 = .ok (.if_icmp .ge 12, 3) := by decide +kernel
theorem dX7_of_15 : decode cX7_of 15 = .ok (.iload_n 2, 1) := by decide +kernel
theorem dX7_of_16 : decode cX7_of 16 = .ok (.ifCond .lt 8, 3) := by decide +kernel
theorem dX7_of_19 : decode cX7_of 19 = .ok (.iload_n 2, 1) := by decide +kernel
theorem dX7_of_20 : decode cX7_of 20 = .ok (.iconst 2, 1) := by decide +kernel
theorem dX7_of_21 : decode cX7_of 21 = .ok (.if_icmp .le 10, 3) := by decide +kernel
theorem dX7_of_24 : decode cX7_of 24 = .ok (.aload_n 0, 1) := by decide +kernel
theorem dX7_of_25 : decode cX7_of 25 = .ok (.bipush (-2), 2) := by decide +kernel
theorem dX7_of_27 : decode cX7_of 27 = .ok (.invokevirtual 65, 3) := by decide +kernel
theorem dX7_of_30 : decode cX7_of 30 = .ok (.ireturn, 1) := by decide +kernel
theorem dX7_of_31 : decode cX7_of 31 = .ok (.aload_n 0, 1) := by decide +kernel
theorem dX7_of_32 : decode cX7_of 32 = .ok (.invokevirtual 95, 3) := by decide +kernel
theorem dX7_of_35 : decode cX7_of 35 = .ok (.aload_n 0, 1) := by decide +kernel
theorem dX7_of_36 : decode cX7_of 36 = .ok (.iload_n 1, 1) := by decide +kernel
theorem dX7_of_37 : decode cX7_of 37 = .ok (.iload_n 2, 1) := by decide +kernel
theorem dX7_of_38 : decode cX7_of 38 = .ok (.invokevirtual 102, 3) := by decide +kernel
theorem dX7_of_41 : decode cX7_of 41 = .ok (.ireturn, 1) := by decide +kernel
theorem dX7_number_0 : decode cX7_number 0 = .ok (.iload_n 1, 1) := by decide +kernel
theorem dX7_number_1 : decode cX7_number 1 = .ok (.aload_n 0, 1) := by decide +kernel
theorem dX7_number_2 : decode cX7_number 2 = .ok (.getfield 10, 3) := by decide +kernel
theorem dX7_number_5 : decode cX7_number 5 = .ok (.getfield 69, 3) := by decide +kernel
theorem dX7_number_8 : decode cX7_number 8 = .ok (.invokestatic 79, 3) := by decide +kernel
theorem dX7_number_11 : decode cX7_number 11 = .ok (.istore_n 2, 1) := by decide +kernel
theorem dX7_number_12 : decode cX7_number 12 = .ok (.iload_n 2, 1) := by decide +kernel
theorem dX7_number_13 : decode cX7_number 13 = .ok (.iconst (-1), 1) := by decide +kernel
theorem dX7_number_14 : decode cX7_number 14 = .ok (.if_icmp .ne 10, 3) := by decide +kernel
theorem dX7_number_17 : decode cX7_number 17 = .ok (.aload_n 0, 1) := by decide +kernel
theorem dX7_number_18 : decode cX7_number 18 = .ok (.bipush (-2), 2) := by decide +kernel
theorem dX7_number_20 : decode cX7_number 20 = .ok (.invokevirtual 65, 3) := by decide +kernel
theorem dX7_number_23 : decode cX7_number 23 = .ok (.ireturn, 1) := by decide +kernel
theorem dX7_number_24 : decode cX7_number 24 = .ok (.aload_n 0, 1) := by decide +kernel
theorem dX7_number_25 : decode cX7_number 25 = .ok (.invokevirtual 95, 3) := by decide +kernel
theorem dX7_number_28 : decode cX7_number 28 = .ok (.aload_n 0, 1) := by decide +kernel
theorem dX7_number_29 : decode cX7_number 29 = .ok (.getfield 40, 3) := by decide +kernel
theorem dX7_number_32 : decode cX7_number 32 = .ok (.iload_n 2, 1) := by decide +kernel
theorem dX7_number_33 : decode cX7_number 33 = .ok (.invokevirtual 105, 3) := by decide +kernel
theorem dX7_number_36 : decode cX7_number 36 = .ok (.ireturn, 1) := by decide +kernel
theorem dX7_element_0 : decode cX7_element 0 = .ok (.iload_n 1, 1) := by decide +kernel
theorem dX7_element_1 : decode cX7_element 1 = .ok (.ifCond .ge 10, 3) := by decide +kernel
theorem dX7_element_4 : decode cX7_element 4 = .ok (.aload_n 0, 1) := by decide +kernel
theorem dX7_element_5 : decode cX7_element 5 = .ok (.bipush (-2), 2) := by decide +kernel
theorem dX7_element_7 : decode cX7_element 7 = .ok (.invokevirtual 65, 3) := by decide +kernel
theorem dX7_element_10 : decode cX7_element 10 = .ok (.ireturn, 1) := by decide +kernel
theorem dX7_element_11 : decode cX7_element 11 = .ok (.aload_n 0, 1) := by decide +kernel
theorem dX7_element_12 : decode cX7_element 12 = .ok (.invokevirtual 95, 3) := by decide +kernel
theorem dX7_element_15 : decode cX7_element 15 = .ok (.iload_n 1, 1) := by decide +kernel
theorem dX7_element_16 : decode cX7_element 16 = .ok (.aload_n 0, 1) := by decide +kernel
theorem dX7_element_17 : decode cX7_element 17 = .ok (.getfield 40, 3) := by decide +kernel
theorem dX7_element_20 : decode cX7_element 20 = .ok (.invokevirtual 98, 3) := by decide +kernel
theorem dX7_element_23 : decode cX7_element 23 = .ok (.if_icmp .lt 10, 3) := by decide +kernel
theorem dX7_element_26 : decode cX7_element 26 = .ok (.aload_n 0, 1) := by decide +kernel
theorem dX7_element_27 : decode cX7_element 27 = .ok (.bipush (-3), 2) := by decide +kernel
theorem dX7_element_29 : decode cX7_element 29 = .ok (.invokevirtual 65, 3) := by decide +kernel
theorem dX7_element_32 : decode cX7_element 32 = .ok (.ireturn, 1) := by decide +kernel
theorem dX7_element_33 : decode cX7_element 33 = .ok (.aload_n 0, 1) := by decide +kernel
theorem dX7_element_34 : decode cX7_element 34 = .ok (.getfield 40, 3) := by decide +kernel
theorem dX7_element_37 : decode cX7_element 37 = .ok (.iload_n 1, 1) := by decide +kernel
theorem dX7_element_38 : decode cX7_element 38 = .ok (.invokevirtual 108, 3) := by decide +kernel
theorem dX7_element_41 : decode cX7_element 41 = .ok (.aload_n 0, 1) := by decide +kernel
theorem dX7_element_42 : decode cX7_element 42 = .ok (.getfield 10, 3) := by decide +kernel
theorem dX7_element_45 : decode cX7_element 45 = .ok (.getfield 69, 3) := by decide +kernel
theorem dX7_element_48 : decode cX7_element 48 = .ok (.invokestatic 111, 3) := by decide +kernel
theorem dX7_element_51 : decode cX7_element 51 = .ok (.ireturn, 1) := by decide +kernel
theorem dX7_image_0 : decode cX7_image 0 = .ok (.iload_n 2, 1) := by decide +kernel
theorem dX7_image_1 : decode cX7_image 1 = .ok (.aload_n 0, 1) := by decide +kernel
theorem dX7_image_2 : decode cX7_image 2 = .ok (.getfield 10, 3) := by decide +kernel
theorem dX7_image_5 : decode cX7_image 5 = .ok (.getfield 69, 3) := by decide +kernel
theorem dX7_image_8 : decode cX7_image 8 = .ok (.invokestatic 79, 3) := by decide +kernel
theorem dX7_image_11 : decode cX7_image 11 = .ok (.istore_n 3, 1) := by decide +kernel
theorem dX7_image_12 : decode cX7_image 12 = .ok (.aload_n 0, 1) := by decide +kernel
theorem dX7_image_13 : decode cX7_image 13 = .ok (.iload_n 1, 1) := by decide +kernel
theorem dX7_image_14 : decode cX7_image 14 = .ok (.invokevirtual 114, 3) := by decide +kernel
theorem dX7_image_17 : decode cX7_image 17 = .ok (.ifCond .eq 8, 3) := by decide +kernel
theorem dX7_image_20 : decode cX7_image 20 = .ok (.iload_n 3, 1) := by decide +kernel
theorem dX7_image_21 : decode cX7_image 21 = .ok (.iconst (-1), 1) := by decide +kernel
theorem dX7_image_22 : decode cX7_image 22 = .ok (.if_icmp .ne 10, 3) := by decide +kernel
theorem dX7_image_25 : decode cX7_image 25 = .ok (.aload_n 0, 1) := by decide +kernel
theorem dX7_image_26 : decode cX7_image 26 = .ok (.bipush (-2), 2) := by decide +kernel
theorem dX7_image_28 : decode cX7_image 28 = .ok (.invokevirtual 65, 3) := by decide +kernel
theorem dX7_image_31 : decode cX7_image 31 = .ok (.ireturn, 1) := by decide +kernel
theorem dX7_image_32 : decode cX7_image 32 = .ok (.iload_n 1, 1) := by decide +kernel
theorem dX7_image_33 : decode cX7_image 33 = .ok (.iload_n 3, 1) := by decide +kernel
theorem dX7_image_34 : decode cX7_image 34 = .ok (.invokestatic 117, 3) := by decide +kernel
theorem dX7_image_37 : decode cX7_image 37 = .ok (.ireturn, 1) := by decide +kernel
theorem dX7_least_0 : decode cX7_least 0 = .ok (.aload_n 0, 1) := by decide +kernel
theorem dX7_least_1 : decode cX7_least 1 = .ok (.iload_n 1, 1) := by decide +kernel
theorem dX7_least_2 : decode cX7_least 2 = .ok (.invokevirtual 114, 3) := by decide +kernel
theorem dX7_least_5 : decode cX7_least 5 = .ok (.ifCond .ne 10, 3) := by decide +kernel
theorem dX7_least_8 : decode cX7_least 8 = .ok (.aload_n 0, 1) := by decide +kernel
theorem dX7_least_9 : decode cX7_least 9 = .ok (.bipush (-2), 2) := by decide +kernel
theorem dX7_least_11 : decode cX7_least 11 = .ok (.invokevirtual 65, 3) := by decide +kernel
theorem dX7_least_14 : decode cX7_least 14 = .ok (.ireturn, 1) := by decide +kernel
theorem dX7_least_15 : decode cX7_least 15 = .ok (.aload_n 0, 1) := by decide +kernel
theorem dX7_least_16 : decode cX7_least 16 = .ok (.invokevirtual 95, 3) := by decide +kernel
theorem dX7_least_19 : decode cX7_least 19 = .ok (.aload_n 0, 1) := by decide +kernel
theorem dX7_least_20 : decode cX7_least 20 = .ok (.getfield 47, 3) := by decide +kernel
theorem dX7_least_23 : decode cX7_least 23 = .ok (.iload_n 1, 1) := by decide +kernel
theorem dX7_least_24 : decode cX7_least 24 = .ok (.invokevirtual 120, 3) := by decide +kernel
theorem dX7_least_27 : decode cX7_least 27 = .ok (.ireturn, 1) := by decide +kernel
theorem dX7_images_0 : decode cX7_images 0 = .ok (.aload_n 0, 1) := by decide +kernel
theorem dX7_images_1 : decode cX7_images 1 = .ok (.iload_n 1, 1) := by decide +kernel
theorem dX7_images_2 : decode cX7_images 2 = .ok (.invokevirtual 114, 3) := by decide +kernel
theorem dX7_images_5 : decode cX7_images 5 = .ok (.ifCond .eq 8, 3) := by decide +kernel
theorem dX7_images_8 : decode cX7_images 8 = .ok (.iload_n 2, 1) := by decide +kernel
theorem dX7_images_9 : decode cX7_images 9 = .ok (.iconst (-1), 1) := by decide +kernel
theorem dX7_images_10 : decode cX7_images 10 = .ok (.if_icmp .ge 10, 3) := by decide +kernel
theorem dX7_images_13 : decode cX7_images 13 = .ok (.aload_n 0, 1) := by decide +kernel
theorem dX7_images_14 : decode cX7_images 14 = .ok (.bipush (-2), 2) := by decide +kernel
theorem dX7_images_16 : decode cX7_images 16 = .ok (.invokevirtual 65, 3) := by decide +kernel
theorem dX7_images_19 : decode cX7_images 19 = .ok (.ireturn, 1) := by decide +kernel
theorem dX7_images_20 : decode cX7_images 20 = .ok (.aload_n 0, 1) := by decide +kernel
theorem dX7_images_21 : decode cX7_images 21 = .ok (.invokevirtual 95, 3) := by decide +kernel
theorem dX7_images_24 : decode cX7_images 24 = .ok (.iload_n 2, 1) := by decide +kernel
theorem dX7_images_25 : decode cX7_images 25 = .ok (.iconst (-1), 1) := by decide +kernel
theorem dX7_images_26 : decode cX7_images 26 = .ok (.if_icmp .ne 14, 3) := by decide +kernel
theorem dX7_images_29 : decode cX7_images 29 = .ok (.aload_n 0, 1) := by decide +kernel
theorem dX7_images_30 : decode cX7_images 30 = .ok (.getfield 47, 3) := by decide +kernel
theorem dX7_images_33 : decode cX7_images 33 = .ok (.iload_n 1, 1) := by decide +kernel
theorem dX7_images_34 : decode cX7_images 34 = .ok (.invokevirtual 123, 3) := by decide +kernel
theorem dX7_images_37 : decode cX7_images 37 = .ok (.goto 12, 3) := by decide +kernel
theorem dX7_images_40 : decode cX7_images 40 = .ok (.aload_n 0, 1) := by decide +kernel
theorem dX7_images_41 : decode cX7_images 41 = .ok (.getfield 47, 3) := by decide +kernel
theorem dX7_images_44 : decode cX7_images 44 = .ok (.iload_n 1, 1) := by decide +kernel
theorem dX7_images_45 : decode cX7_images 45 = .ok (.iload_n 2, 1) := by decide +kernel
theorem dX7_images_46 : decode cX7_images 46 = .ok (.invokevirtual 126, 3) := by decide +kernel
theorem dX7_images_49 : decode cX7_images 49 = .ok (.ireturn, 1) := by decide +kernel
theorem dX7_carrier_0 : decode cX7_carrier 0 = .ok (.aload_n 0, 1) := by decide +kernel
theorem dX7_carrier_1 : decode cX7_carrier 1 = .ok (.iload_n 1, 1) := by decide +kernel
theorem dX7_carrier_2 : decode cX7_carrier 2 = .ok (.invokevirtual 114, 3) := by decide +kernel
theorem dX7_carrier_5 : decode cX7_carrier 5 = .ok (.ifCond .eq 22, 3) := by decide +kernel
theorem dX7_carrier_8 : decode cX7_carrier 8 = .ok (.aload_n 0, 1) := by decide +kernel
theorem dX7_carrier_9 : decode cX7_carrier 9 = .ok (.iload_n 2, 1) := by decide +kernel
theorem dX7_carrier_10 : decode cX7_carrier 10 = .ok (.invokevirtual 114, 3) := by decide +kernel
theorem dX7_carrier_13 : decode cX7_carrier 13 = .ok (.ifCond .eq 14, 3) := by decide +kernel
theorem dX7_carrier_16 : decode cX7_carrier 16 = .ok (.iload_n 1, 1) := by decide +kernel
theorem dX7_carrier_17 : decode cX7_carrier 17 = .ok (.invokestatic 129, 3) := by decide +kernel
theorem dX7_carrier_20 : decode cX7_carrier 20 = .ok (.iload_n 2, 1) := by decide +kernel
theorem dX7_carrier_21 : decode cX7_carrier 21 = .ok (.invokestatic 129, 3) := by decide +kernel
theorem dX7_carrier_24 : decode cX7_carrier 24 = .ok (.if_icmp .eq 10, 3) := by decide +kernel
theorem dX7_carrier_27 : decode cX7_carrier 27 = .ok (.aload_n 0, 1) := by decide +kernel
theorem dX7_carrier_28 : decode cX7_carrier 28 = .ok (.bipush (-2), 2) := by decide +kernel
theorem dX7_carrier_30 : decode cX7_carrier 30 = .ok (.invokevirtual 65, 3) := by decide +kernel
theorem dX7_carrier_33 : decode cX7_carrier 33 = .ok (.ireturn, 1) := by decide +kernel
theorem dX7_carrier_34 : decode cX7_carrier 34 = .ok (.aload_n 0, 1) := by decide +kernel
theorem dX7_carrier_35 : decode cX7_carrier 35 = .ok (.invokevirtual 95, 3) := by decide +kernel
theorem dX7_carrier_38 : decode cX7_carrier 38 = .ok (.aload_n 0, 1) := by decide +kernel
theorem dX7_carrier_39 : decode cX7_carrier 39 = .ok (.getfield 47, 3) := by decide +kernel
theorem dX7_carrier_42 : decode cX7_carrier 42 = .ok (.aload_n 0, 1) := by decide +kernel
theorem dX7_carrier_43 : decode cX7_carrier 43 = .ok (.getfield 40, 3) := by decide +kernel
theorem dX7_carrier_46 : decode cX7_carrier 46 = .ok (.iload_n 1, 1) := by decide +kernel
theorem dX7_carrier_47 : decode cX7_carrier 47 = .ok (.iload_n 2, 1) := by decide +kernel
theorem dX7_carrier_48 : decode cX7_carrier 48 = .ok (.invokevirtual 134, 3) := by decide +kernel
theorem dX7_carrier_51 : decode cX7_carrier 51 = .ok (.istore_n 3, 1) := by decide +kernel
theorem dX7_carrier_52 : decode cX7_carrier 52 = .ok (.iload_n 3, 1) := by decide +kernel
theorem dX7_carrier_53 : decode cX7_carrier 53 = .ok (.iconst (-1), 1) := by decide +kernel
theorem dX7_carrier_54 : decode cX7_carrier 54 = .ok (.if_icmp .ne 7, 3) := by decide +kernel
theorem dX7_carrier_57 : decode cX7_carrier 57 = .ok (.iconst (-1), 1) := by decide +kernel
theorem dX7_carrier_58 : decode cX7_carrier 58 = .ok (.goto 14, 3) := by decide +kernel
theorem dX7_carrier_61 : decode cX7_carrier 61 = .ok (.iload_n 3, 1) := by decide +kernel
theorem dX7_carrier_62 : decode cX7_carrier 62 = .ok (.aload_n 0, 1) := by decide +kernel
theorem dX7_carrier_63 : decode cX7_carrier 63 = .ok (.getfield 10, 3) := by decide +kernel
theorem dX7_carrier_66 : decode cX7_carrier 66 = .ok (.getfield 69, 3) := by decide +kernel
theorem dX7_carrier_69 : decode cX7_carrier 69 = .ok (.invokestatic 111, 3) := by decide +kernel
theorem dX7_carrier_72 : decode cX7_carrier 72 = .ok (.ireturn, 1) := by decide +kernel
theorem dX7_holds_0 : decode cX7_holds 0 = .ok (.aload_n 0, 1) := by decide +kernel
theorem dX7_holds_1 : decode cX7_holds 1 = .ok (.iload_n 1, 1) := by decide +kernel
theorem dX7_holds_2 : decode cX7_holds 2 = .ok (.invokevirtual 114, 3) := by decide +kernel
theorem dX7_holds_5 : decode cX7_holds 5 = .ok (.ifCond .ne 10, 3) := by decide +kernel
theorem dX7_holds_8 : decode cX7_holds 8 = .ok (.aload_n 0, 1) := by decide +kernel
theorem dX7_holds_9 : decode cX7_holds 9 = .ok (.bipush (-2), 2) := by decide +kernel
theorem dX7_holds_11 : decode cX7_holds 11 = .ok (.invokevirtual 65, 3) := by decide +kernel
theorem dX7_holds_14 : decode cX7_holds 14 = .ok (.ireturn, 1) := by decide +kernel
theorem dX7_holds_15 : decode cX7_holds 15 = .ok (.aload_n 0, 1) := by decide +kernel
theorem dX7_holds_16 : decode cX7_holds 16 = .ok (.invokevirtual 95, 3) := by decide +kernel
theorem dX7_holds_19 : decode cX7_holds 19 = .ok (.aload_n 0, 1) := by decide +kernel
theorem dX7_holds_20 : decode cX7_holds 20 = .ok (.getfield 47, 3) := by decide +kernel
theorem dX7_holds_23 : decode cX7_holds 23 = .ok (.iload_n 1, 1) := by decide +kernel
theorem dX7_holds_24 : decode cX7_holds 24 = .ok (.invokevirtual 123, 3) := by decide +kernel
theorem dX7_holds_27 : decode cX7_holds 27 = .ok (.istore_n 2, 1) := by decide +kernel
theorem dX7_holds_28 : decode cX7_holds 28 = .ok (.iload_n 2, 1) := by decide +kernel
theorem dX7_holds_29 : decode cX7_holds 29 = .ok (.ifCond .le 15, 3) := by decide +kernel
theorem dX7_holds_32 : decode cX7_holds 32 = .ok (.aload_n 0, 1) := by decide +kernel
theorem dX7_holds_33 : decode cX7_holds 33 = .ok (.getfield 40, 3) := by decide +kernel
theorem dX7_holds_36 : decode cX7_holds 36 = .ok (.invokevirtual 98, 3) := by decide +kernel
theorem dX7_holds_39 : decode cX7_holds 39 = .ok (.iload_n 2, 1) := by decide +kernel
theorem dX7_holds_40 : decode cX7_holds 40 = .ok (.idiv, 1) := by decide +kernel
theorem dX7_holds_41 : decode cX7_holds 41 = .ok (.goto 4, 3) := by decide +kernel
theorem dX7_holds_44 : decode cX7_holds 44 = .ok (.iconst 0, 1) := by decide +kernel
theorem dX7_holds_45 : decode cX7_holds 45 = .ok (.ireturn, 1) := by decide +kernel
theorem dX7_heads_0 : decode cX7_heads 0 = .ok (.iload_n 1, 1) := by decide +kernel
theorem dX7_heads_1 : decode cX7_heads 1 = .ok (.ifCond .lt 19, 3) := by decide +kernel
theorem dX7_heads_4 : decode cX7_heads 4 = .ok (.iload_n 1, 1) := by decide +kernel
theorem dX7_heads_5 : decode cX7_heads 5 = .ok (.aload_n 0, 1) := by decide +kernel
theorem dX7_heads_6 : decode cX7_heads 6 = .ok (.getfield 10, 3) := by decide +kernel
theorem dX7_heads_9 : decode cX7_heads 9 = .ok (.getfield 69, 3) := by decide +kernel
theorem dX7_heads_12 : decode cX7_heads 12 = .ok (.if_icmp .gt 8, 3) := by decide +kernel
theorem dX7_heads_15 : decode cX7_heads 15 = .ok (.iload_n 2, 1) := by decide +kernel
theorem dX7_heads_16 : decode cX7_heads 16 = .ok (.iconst (-1), 1) := by decide +kernel
theorem dX7_heads_17 : decode cX7_heads 17 = .ok (.if_icmp .ge 10, 3) := by decide +kernel
theorem dX7_heads_20 : decode cX7_heads 20 = .ok (.aload_n 0, 1) := by decide +kernel
theorem dX7_heads_21 : decode cX7_heads 21 = .ok (.bipush (-2), 2) := by decide +kernel
theorem dX7_heads_23 : decode cX7_heads 23 = .ok (.invokevirtual 65, 3) := by decide +kernel
theorem dX7_heads_26 : decode cX7_heads 26 = .ok (.ireturn, 1) := by decide +kernel
theorem dX7_heads_27 : decode cX7_heads 27 = .ok (.aload_n 0, 1) := by decide +kernel
theorem dX7_heads_28 : decode cX7_heads 28 = .ok (.invokevirtual 95, 3) := by decide +kernel
theorem dX7_heads_31 : decode cX7_heads 31 = .ok (.iload_n 2, 1) := by decide +kernel
theorem dX7_heads_32 : decode cX7_heads 32 = .ok (.iconst (-1), 1) := by decide +kernel
theorem dX7_heads_33 : decode cX7_heads 33 = .ok (.if_icmp .ne 14, 3) := by decide +kernel
theorem dX7_heads_36 : decode cX7_heads 36 = .ok (.aload_n 0, 1) := by decide +kernel
theorem dX7_heads_37 : decode cX7_heads 37 = .ok (.getfield 47, 3) := by decide +kernel
theorem dX7_heads_40 : decode cX7_heads 40 = .ok (.iload_n 1, 1) := by decide +kernel
theorem dX7_heads_41 : decode cX7_heads 41 = .ok (.invokevirtual 138, 3) := by decide +kernel
theorem dX7_heads_44 : decode cX7_heads 44 = .ok (.goto 12, 3) := by decide +kernel
theorem dX7_heads_47 : decode cX7_heads 47 = .ok (.aload_n 0, 1) := by decide +kernel
theorem dX7_heads_48 : decode cX7_heads 48 = .ok (.getfield 47, 3) := by decide +kernel
theorem dX7_heads_51 : decode cX7_heads 51 = .ok (.iload_n 1, 1) := by decide +kernel
theorem dX7_heads_52 : decode cX7_heads 52 = .ok (.iload_n 2, 1) := by decide +kernel
theorem dX7_heads_53 : decode cX7_heads 53 = .ok (.invokevirtual 141, 3) := by decide +kernel
theorem dX7_heads_56 : decode cX7_heads 56 = .ok (.ireturn, 1) := by decide +kernel
theorem dX7_head_0 : decode cX7_head 0 = .ok (.aload_n 0, 1) := by decide +kernel
theorem dX7_head_1 : decode cX7_head 1 = .ok (.iload_n 1, 1) := by decide +kernel
theorem dX7_head_2 : decode cX7_head 2 = .ok (.invokevirtual 114, 3) := by decide +kernel
theorem dX7_head_5 : decode cX7_head 5 = .ok (.ifCond .ne 10, 3) := by decide +kernel
theorem dX7_head_8 : decode cX7_head 8 = .ok (.aload_n 0, 1) := by decide +kernel
theorem dX7_head_9 : decode cX7_head 9 = .ok (.bipush (-2), 2) := by decide +kernel
theorem dX7_head_11 : decode cX7_head 11 = .ok (.invokevirtual 65, 3) := by decide +kernel
theorem dX7_head_14 : decode cX7_head 14 = .ok (.ireturn, 1) := by decide +kernel
theorem dX7_head_15 : decode cX7_head 15 = .ok (.aload_n 0, 1) := by decide +kernel
theorem dX7_head_16 : decode cX7_head 16 = .ok (.invokevirtual 95, 3) := by decide +kernel
theorem dX7_head_19 : decode cX7_head 19 = .ok (.aload_n 0, 1) := by decide +kernel
theorem dX7_head_20 : decode cX7_head 20 = .ok (.getfield 47, 3) := by decide +kernel
theorem dX7_head_23 : decode cX7_head 23 = .ok (.iload_n 1, 1) := by decide +kernel
theorem dX7_head_24 : decode cX7_head 24 = .ok (.invokevirtual 144, 3) := by decide +kernel
theorem dX7_head_27 : decode cX7_head 27 = .ok (.ireturn, 1) := by decide +kernel
theorem dX7_type_0 : decode cX7_type 0 = .ok (.iload_n 1, 1) := by decide +kernel
theorem dX7_type_1 : decode cX7_type 1 = .ok (.ifCond .lt 9, 3) := by decide +kernel
theorem dX7_type_4 : decode cX7_type 4 = .ok (.iload_n 1, 1) := by decide +kernel
theorem dX7_type_5 : decode cX7_type 5 = .ok (.bipush 127, 2) := by decide +kernel
theorem dX7_type_7 : decode cX7_type 7 = .ok (.if_icmp .le 10, 3) := by decide +kernel
theorem dX7_type_10 : decode cX7_type 10 = .ok (.aload_n 0, 1) := by decide +kernel
theorem dX7_type_11 : decode cX7_type 11 = .ok (.bipush (-2), 2) := by decide +kernel
theorem dX7_type_13 : decode cX7_type 13 = .ok (.invokevirtual 65, 3) := by decide +kernel
theorem dX7_type_16 : decode cX7_type 16 = .ok (.ireturn, 1) := by decide +kernel
theorem dX7_type_17 : decode cX7_type 17 = .ok (.aload_n 0, 1) := by decide +kernel
theorem dX7_type_18 : decode cX7_type 18 = .ok (.getfield 26, 3) := by decide +kernel
theorem dX7_type_21 : decode cX7_type 21 = .ok (.getfield 147, 3) := by decide +kernel
theorem dX7_type_24 : decode cX7_type 24 = .ok (.bipush 80, 2) := by decide +kernel
theorem dX7_type_26 : decode cX7_type 26 = .ok (.if_icmp .lt 10, 3) := by decide +kernel
theorem dX7_type_29 : decode cX7_type 29 = .ok (.aload_n 0, 1) := by decide +kernel
theorem dX7_type_30 : decode cX7_type 30 = .ok (.bipush (-4), 2) := by decide +kernel
theorem dX7_type_32 : decode cX7_type 32 = .ok (.invokevirtual 65, 3) := by decide +kernel
theorem dX7_type_35 : decode cX7_type 35 = .ok (.ireturn, 1) := by decide +kernel
theorem dX7_type_36 : decode cX7_type 36 = .ok (.aload_n 0, 1) := by decide +kernel
theorem dX7_type_37 : decode cX7_type 37 = .ok (.getfield 26, 3) := by decide +kernel
theorem dX7_type_40 : decode cX7_type 40 = .ok (.iload_n 1, 1) := by decide +kernel
theorem dX7_type_41 : decode cX7_type 41 = .ok (.invokevirtual 150, 3) := by decide +kernel
theorem dX7_type_44 : decode cX7_type 44 = .ok (.aload_n 0, 1) := by decide +kernel
theorem dX7_type_45 : decode cX7_type 45 = .ok (.getfield 26, 3) := by decide +kernel
theorem dX7_type_48 : decode cX7_type 48 = .ok (.getfield 147, 3) := by decide +kernel
theorem dX7_type_51 : decode cX7_type 51 = .ok (.ireturn, 1) := by decide +kernel
theorem dX7_clear_0 : decode cX7_clear 0 = .ok (.aload_n 0, 1) := by decide +kernel
theorem dX7_clear_1 : decode cX7_clear 1 = .ok (.getfield 26, 3) := by decide +kernel
theorem dX7_clear_4 : decode cX7_clear 4 = .ok (.getfield 147, 3) := by decide +kernel
theorem dX7_clear_7 : decode cX7_clear 7 = .ok (.istore_n 1, 1) := by decide +kernel
theorem dX7_clear_8 : decode cX7_clear 8 = .ok (.aload_n 0, 1) := by decide +kernel
theorem dX7_clear_9 : decode cX7_clear 9 = .ok (.getfield 26, 3) := by decide +kernel
theorem dX7_clear_12 : decode cX7_clear 12 = .ok (.iconst 0, 1) := by decide +kernel
theorem dX7_clear_13 : decode cX7_clear 13 = .ok (.putfield 147, 3) := by decide +kernel
theorem dX7_clear_16 : decode cX7_clear 16 = .ok (.iload_n 1, 1) := by decide +kernel
theorem dX7_clear_17 : decode cX7_clear 17 = .ok (.ireturn, 1) := by decide +kernel
theorem dX7_reads_0 : decode cX7_reads 0 = .ok (.aload_n 0, 1) := by decide +kernel
theorem dX7_reads_1 : decode cX7_reads 1 = .ok (.getfield 33, 3) := by decide +kernel
theorem dX7_reads_4 : decode cX7_reads 4 = .ok (.aload_n 0, 1) := by decide +kernel
theorem dX7_reads_5 : decode cX7_reads 5 = .ok (.getfield 26, 3) := by decide +kernel
theorem dX7_reads_8 : decode cX7_reads 8 = .ok (.aload_n 0, 1) := by decide +kernel
theorem dX7_reads_9 : decode cX7_reads 9 = .ok (.getfield 10, 3) := by decide +kernel
theorem dX7_reads_12 : decode cX7_reads 12 = .ok (.invokevirtual 153, 3) := by decide +kernel
theorem dX7_reads_15 : decode cX7_reads 15 = .ok (.istore_n 1, 1) := by decide +kernel
theorem dX7_reads_16 : decode cX7_reads 16 = .ok (.iload_n 1, 1) := by decide +kernel
theorem dX7_reads_17 : decode cX7_reads 17 = .ok (.iconst (-1), 1) := by decide +kernel
theorem dX7_reads_18 : decode cX7_reads 18 = .ok (.if_icmp .eq 8, 3) := by decide +kernel
theorem dX7_reads_21 : decode cX7_reads 21 = .ok (.bipush (-10), 2) := by decide +kernel
theorem dX7_reads_23 : decode cX7_reads 23 = .ok (.iload_n 1, 1) := by decide +kernel
theorem dX7_reads_24 : decode cX7_reads 24 = .ok (.isub, 1) := by decide +kernel
theorem dX7_reads_25 : decode cX7_reads 25 = .ok (.ireturn, 1) := by decide +kernel
theorem dX7_reads_26 : decode cX7_reads 26 = .ok (.aload_n 0, 1) := by decide +kernel
theorem dX7_reads_27 : decode cX7_reads 27 = .ok (.getfield 33, 3) := by decide +kernel
theorem dX7_reads_30 : decode cX7_reads 30 = .ok (.getfield 156, 3) := by decide +kernel
theorem dX7_reads_33 : decode cX7_reads 33 = .ok (.iconst (-1), 1) := by decide +kernel
theorem dX7_reads_34 : decode cX7_reads 34 = .ok (.if_icmp .eq 15, 3) := by decide +kernel
theorem dX7_reads_37 : decode cX7_reads 37 = .ok (.sipush (-1000), 3) := by decide +kernel
theorem dX7_reads_40 : decode cX7_reads 40 = .ok (.aload_n 0, 1) := by decide +kernel
theorem dX7_reads_41 : decode cX7_reads 41 = .ok (.getfield 33, 3) := by decide +kernel
theorem dX7_reads_44 : decode cX7_reads 44 = .ok (.getfield 156, 3) := by decide +kernel
theorem dX7_reads_47 : decode cX7_reads 47 = .ok (.isub, 1) := by decide +kernel
theorem dX7_reads_48 : decode cX7_reads 48 = .ok (.ireturn, 1) := by decide +kernel
theorem dX7_reads_49 : decode cX7_reads 49 = .ok (.aload_n 0, 1) := by decide +kernel
theorem dX7_reads_50 : decode cX7_reads 50 = .ok (.invokevirtual 72, 3) := by decide +kernel
theorem dX7_reads_53 : decode cX7_reads 53 = .ok (.aload_n 0, 1) := by decide +kernel
theorem dX7_reads_54 : decode cX7_reads 54 = .ok (.getfield 10, 3) := by decide +kernel
theorem dX7_reads_57 : decode cX7_reads 57 = .ok (.aload_n 0, 1) := by decide +kernel
theorem dX7_reads_58 : decode cX7_reads 58 = .ok (.getfield 33, 3) := by decide +kernel
theorem dX7_reads_61 : decode cX7_reads 61 = .ok (.getfield 159, 3) := by decide +kernel
theorem dX7_reads_64 : decode cX7_reads 64 = .ok (.invokevirtual 162, 3) := by decide +kernel
theorem dX7_reads_67 : decode cX7_reads 67 = .ok (.aload_n 0, 1) := by decide +kernel
theorem dX7_reads_68 : decode cX7_reads 68 = .ok (.getfield 33, 3) := by decide +kernel
theorem dX7_reads_71 : decode cX7_reads 71 = .ok (.getfield 166, 3) := by decide +kernel
theorem dX7_reads_74 : decode cX7_reads 74 = .ok (.ireturn, 1) := by decide +kernel
theorem dX7_back_0 : decode cX7_back 0 = .ok (.aload_n 0, 1) := by decide +kernel
theorem dX7_back_1 : decode cX7_back 1 = .ok (.getfield 19, 3) := by decide +kernel
theorem dX7_back_4 : decode cX7_back 4 = .ok (.getfield 169, 3) := by decide +kernel
theorem dX7_back_7 : decode cX7_back 7 = .ok (.ifCond .gt 10, 3) := by decide +kernel
theorem dX7_back_10 : decode cX7_back 10 = .ok (.aload_n 0, 1) := by decide +kernel
theorem dX7_back_11 : decode cX7_back 11 = .ok (.bipush (-3), 2) := by decide +kernel
theorem dX7_back_13 : decode cX7_back 13 = .ok (.invokevirtual 65, 3) := by decide +kernel
theorem dX7_back_16 : decode cX7_back 16 = .ok (.ireturn, 1) := by decide +kernel
theorem dX7_back_17 : decode cX7_back 17 = .ok (.aload_n 0, 1) := by decide +kernel
theorem dX7_back_18 : decode cX7_back 18 = .ok (.getfield 19, 3) := by decide +kernel
theorem dX7_back_21 : decode cX7_back 21 = .ok (.aload_n 0, 1) := by decide +kernel
theorem dX7_back_22 : decode cX7_back 22 = .ok (.getfield 10, 3) := by decide +kernel
theorem dX7_back_25 : decode cX7_back 25 = .ok (.invokevirtual 170, 3) := by decide +kernel
theorem dX7_back_28 : decode cX7_back 28 = .ok (.aload_n 0, 1) := by decide +kernel
theorem dX7_back_29 : decode cX7_back 29 = .ok (.iconst 0, 1) := by decide +kernel
theorem dX7_back_30 : decode cX7_back 30 = .ok (.putfield 51, 3) := by decide +kernel
theorem dX7_back_33 : decode cX7_back 33 = .ok (.aload_n 0, 1) := by decide +kernel
theorem dX7_back_34 : decode cX7_back 34 = .ok (.getfield 19, 3) := by decide +kernel
theorem dX7_back_37 : decode cX7_back 37 = .ok (.getfield 169, 3) := by decide +kernel
theorem dX7_back_40 : decode cX7_back 40 = .ok (.ireturn, 1) := by decide +kernel
theorem dX7_told_0 : decode cX7_told 0 = .ok (.iload_n 1, 1) := by decide +kernel
theorem dX7_told_1 : decode cX7_told 1 = .ok (.ifCond .lt 9, 3) := by decide +kernel
theorem dX7_told_4 : decode cX7_told 4 = .ok (.iload_n 1, 1) := by decide +kernel
theorem dX7_told_5 : decode cX7_told 5 = .ok (.bipush 6, 2) := by decide +kernel
theorem dX7_told_7 : decode cX7_told 7 = .ok (.if_icmp .le 12, 3) := by decide +kernel
theorem dX7_told_10 : decode cX7_told 10 = .ok (.aload_n 0, 1) := by decide +kernel
theorem dX7_told_11 : decode cX7_told 11 = .ok (.bipush (-2), 2) := by decide +kernel
theorem dX7_told_13 : decode cX7_told 13 = .ok (.invokevirtual 65, 3) := by decide +kernel
theorem dX7_told_16 : decode cX7_told 16 = .ok (.goto 8, 3) := by decide +kernel
theorem dX7_told_19 : decode cX7_told 19 = .ok (.aload_n 0, 1) := by decide +kernel
theorem dX7_told_20 : decode cX7_told 20 = .ok (.iload_n 1, 1) := by decide +kernel
theorem dX7_told_21 : decode cX7_told 21 = .ok (.invokevirtual 173, 3) := by decide +kernel
theorem dX7_told_24 : decode cX7_told 24 = .ok (.ireturn, 1) := by decide +kernel
theorem dX7_digest_0 : decode cX7_digest 0 = .ok (.aload_n 0, 1) := by decide +kernel
theorem dX7_digest_1 : decode cX7_digest 1 = .ok (.invokevirtual 95, 3) := by decide +kernel
theorem dX7_digest_4 : decode cX7_digest 4 = .ok (.ldc2_w 176, 3) := by decide +kernel
theorem dX7_digest_7 : decode cX7_digest 7 = .ok (.lstore_n 1, 1) := by decide +kernel
theorem dX7_digest_8 : decode cX7_digest 8 = .ok (.iconst 0, 1) := by decide +kernel
theorem dX7_digest_9 : decode cX7_digest 9 = .ok (.istore_n 3, 1) := by decide +kernel
theorem dX7_digest_10 : decode cX7_digest 10 = .ok (.iload_n 3, 1) := by decide +kernel
theorem dX7_digest_11 : decode cX7_digest 11 = .ok (.bipush 6, 2) := by decide +kernel
theorem dX7_digest_13 : decode cX7_digest 13 = .ok (.if_icmp .gt 22, 3) := by decide +kernel
theorem dX7_digest_16 : decode cX7_digest 16 = .ok (.ldc2_w 178, 3) := by decide +kernel
theorem dX7_digest_19 : decode cX7_digest 19 = .ok (.lload_n 1, 1) := by decide +kernel
theorem dX7_digest_20 : decode cX7_digest 20 = .ok (.lmul, 1) := by decide +kernel
theorem dX7_digest_21 : decode cX7_digest 21 = .ok (.aload_n 0, 1) := by decide +kernel
theorem dX7_digest_22 : decode cX7_digest 22 = .ok (.iload_n 3, 1) := by decide +kernel
theorem dX7_digest_23 : decode cX7_digest 23 = .ok (.invokevirtual 173, 3) := by decide +kernel
theorem dX7_digest_26 : decode cX7_digest 26 = .ok (.i2l, 1) := by decide +kernel
theorem dX7_digest_27 : decode cX7_digest 27 = .ok (.ladd, 1) := by decide +kernel
theorem dX7_digest_28 : decode cX7_digest 28 = .ok (.lstore_n 1, 1) := by decide +kernel
theorem dX7_digest_29 : decode cX7_digest 29 = .ok (.iinc 3 1, 3) := by decide +kernel
theorem dX7_digest_32 : decode cX7_digest 32 = .ok (.goto (-22), 3) := by decide +kernel
theorem dX7_digest_35 : decode cX7_digest 35 = .ok (.iconst 0, 1) := by decide +kernel
theorem dX7_digest_36 : decode cX7_digest 36 = .ok (.istore_n 3, 1) := by decide +kernel
theorem dX7_digest_37 : decode cX7_digest 37 = .ok (.iload_n 3, 1) := by decide +kernel
theorem dX7_digest_38 : decode cX7_digest 38 = .ok (.aload_n 0, 1) := by decide +kernel
theorem dX7_digest_39 : decode cX7_digest 39 = .ok (.getfield 10, 3) := by decide +kernel
theorem dX7_digest_42 : decode cX7_digest 42 = .ok (.getfield 85, 3) := by decide +kernel
theorem dX7_digest_45 : decode cX7_digest 45 = .ok (.if_icmp .ge 35, 3) := by decide +kernel
theorem dX7_digest_48 : decode cX7_digest 48 = .ok (.ldc2_w 178, 3) := by decide +kernel
theorem dX7_digest_51 : decode cX7_digest 51 = .ok (.lload_n 1, 1) := by decide +kernel
theorem dX7_digest_52 : decode cX7_digest 52 = .ok (.lmul, 1) := by decide +kernel
theorem dX7_digest_53 : decode cX7_digest 53 = .ok (.aload_n 0, 1) := by decide +kernel
theorem dX7_digest_54 : decode cX7_digest 54 = .ok (.getfield 10, 3) := by decide +kernel
theorem dX7_digest_57 : decode cX7_digest 57 = .ok (.iload_n 3, 1) := by decide +kernel
theorem dX7_digest_58 : decode cX7_digest 58 = .ok (.invokevirtual 180, 3) := by decide +kernel
theorem dX7_digest_61 : decode cX7_digest 61 = .ok (.aload_n 0, 1) := by decide +kernel
theorem dX7_digest_62 : decode cX7_digest 62 = .ok (.getfield 10, 3) := by decide +kernel
theorem dX7_digest_65 : decode cX7_digest 65 = .ok (.getfield 69, 3) := by decide +kernel
theorem dX7_digest_68 : decode cX7_digest 68 = .ok (.invokestatic 111, 3) := by decide +kernel
theorem dX7_digest_71 : decode cX7_digest 71 = .ok (.i2l, 1) := by decide +kernel
theorem dX7_digest_72 : decode cX7_digest 72 = .ok (.ladd, 1) := by decide +kernel
theorem dX7_digest_73 : decode cX7_digest 73 = .ok (.lstore_n 1, 1) := by decide +kernel
theorem dX7_digest_74 : decode cX7_digest 74 = .ok (.iinc 3 1, 3) := by decide +kernel
theorem dX7_digest_77 : decode cX7_digest 77 = .ok (.goto (-40), 3) := by decide +kernel
theorem dX7_digest_80 : decode cX7_digest 80 = .ok (.ldc2_w 178, 3) := by decide +kernel
theorem dX7_digest_83 : decode cX7_digest 83 = .ok (.lload_n 1, 1) := by decide +kernel
theorem dX7_digest_84 : decode cX7_digest 84 = .ok (.lmul, 1) := by decide +kernel
theorem dX7_digest_85 : decode cX7_digest 85 = .ok (.aload_n 0, 1) := by decide +kernel
theorem dX7_digest_86 : decode cX7_digest 86 = .ok (.getfield 40, 3) := by decide +kernel
theorem dX7_digest_89 : decode cX7_digest 89 = .ok (.invokevirtual 98, 3) := by decide +kernel
theorem dX7_digest_92 : decode cX7_digest 92 = .ok (.i2l, 1) := by decide +kernel
theorem dX7_digest_93 : decode cX7_digest 93 = .ok (.ladd, 1) := by decide +kernel
theorem dX7_digest_94 : decode cX7_digest 94 = .ok (.lstore_n 1, 1) := by decide +kernel
theorem dX7_digest_95 : decode cX7_digest 95 = .ok (.iconst 0, 1) := by decide +kernel
theorem dX7_digest_96 : decode cX7_digest 96 = .ok (.istore_n 3, 1) := by decide +kernel
theorem dX7_digest_97 : decode cX7_digest 97 = .ok (.iload_n 3, 1) := by decide +kernel
theorem dX7_digest_98 : decode cX7_digest 98 = .ok (.aload_n 0, 1) := by decide +kernel
theorem dX7_digest_99 : decode cX7_digest 99 = .ok (.getfield 10, 3) := by decide +kernel
theorem dX7_digest_102 : decode cX7_digest 102 = .ok (.getfield 69, 3) := by decide +kernel
theorem dX7_digest_105 : decode cX7_digest 105 = .ok (.if_icmp .ge 39, 3) := by decide +kernel
theorem dX7_digest_108 : decode cX7_digest 108 = .ok (.iconst 0, 1) := by decide +kernel
theorem dX7_digest_109 : decode cX7_digest 109 = .ok (.istore 4, 2) := by decide +kernel
theorem dX7_digest_111 : decode cX7_digest 111 = .ok (.iload 4, 2) := by decide +kernel
theorem dX7_digest_113 : decode cX7_digest 113 = .ok (.iconst 2, 1) := by decide +kernel
theorem dX7_digest_114 : decode cX7_digest 114 = .ok (.if_icmp .gt 24, 3) := by decide +kernel
theorem dX7_digest_117 : decode cX7_digest 117 = .ok (.ldc2_w 178, 3) := by decide +kernel
theorem dX7_digest_120 : decode cX7_digest 120 = .ok (.lload_n 1, 1) := by decide +kernel
theorem dX7_digest_121 : decode cX7_digest 121 = .ok (.lmul, 1) := by decide +kernel
theorem dX7_digest_122 : decode cX7_digest 122 = .ok (.aload_n 0, 1) := by decide +kernel
theorem dX7_digest_123 : decode cX7_digest 123 = .ok (.iload_n 3, 1) := by decide +kernel
theorem dX7_digest_124 : decode cX7_digest 124 = .ok (.iload 4, 2) := by decide +kernel
theorem dX7_digest_126 : decode cX7_digest 126 = .ok (.invokevirtual 102, 3) := by decide +kernel
theorem dX7_digest_129 : decode cX7_digest 129 = .ok (.i2l, 1) := by decide +kernel
theorem dX7_digest_130 : decode cX7_digest 130 = .ok (.ladd, 1) := by decide +kernel
theorem dX7_digest_131 : decode cX7_digest 131 = .ok (.lstore_n 1, 1) := by decide +kernel
theorem dX7_digest_132 : decode cX7_digest 132 = .ok (.iinc 4 1, 3) := by decide +kernel
theorem dX7_digest_135 : decode cX7_digest 135 = .ok (.goto (-24), 3) := by decide +kernel
theorem dX7_digest_138 : decode cX7_digest 138 = .ok (.iinc 3 1, 3) := by decide +kernel
theorem dX7_digest_141 : decode cX7_digest 141 = .ok (.goto (-44), 3) := by decide +kernel
theorem dX7_digest_144 : decode cX7_digest 144 = .ok (.iconst 0, 1) := by decide +kernel
theorem dX7_digest_145 : decode cX7_digest 145 = .ok (.istore_n 3, 1) := by decide +kernel
theorem dX7_digest_146 : decode cX7_digest 146 = .ok (.iload_n 3, 1) := by decide +kernel
theorem dX7_digest_147 : decode cX7_digest 147 = .ok (.aload_n 0, 1) := by decide +kernel
theorem dX7_digest_148 : decode cX7_digest 148 = .ok (.getfield 10, 3) := by decide +kernel
theorem dX7_digest_151 : decode cX7_digest 151 = .ok (.getfield 69, 3) := by decide +kernel
theorem dX7_digest_154 : decode cX7_digest 154 = .ok (.if_icmp .gt 19, 3) := by decide +kernel
theorem dX7_digest_157 : decode cX7_digest 157 = .ok (.aload_n 0, 1) := by decide +kernel
theorem dX7_digest_158 : decode cX7_digest 158 = .ok (.getfield 47, 3) := by decide +kernel
theorem dX7_digest_161 : decode cX7_digest 161 = .ok (.iload_n 3, 1) := by decide +kernel
theorem dX7_digest_162 : decode cX7_digest 162 = .ok (.lload_n 1, 1) := by decide +kernel
theorem dX7_digest_163 : decode cX7_digest 163 = .ok (.invokevirtual 183, 3) := by decide +kernel
theorem dX7_digest_166 : decode cX7_digest 166 = .ok (.lstore_n 1, 1) := by decide +kernel
theorem dX7_digest_167 : decode cX7_digest 167 = .ok (.iinc 3 1, 3) := by decide +kernel
theorem dX7_digest_170 : decode cX7_digest 170 = .ok (.goto (-24), 3) := by decide +kernel
theorem dX7_digest_173 : decode cX7_digest 173 = .ok (.lload_n 1, 1) := by decide +kernel
theorem dX7_digest_174 : decode cX7_digest 174 = .ok (.lreturn, 1) := by decide +kernel
theorem gc_X7_187 : GoodIn xtb (wsV RX7 187 yX5_push.cls yX5_push (xW yX5_push cX5_push 2 none)) := x_good lkM_X7_187 wI_X5_push wS_X5_push wN_X5 wC_X5_push
theorem gc_X7_190 : GoodIn xtb (wsV RX7 190 yX1_make.cls yX1_make (xW yX1_make cX1_make 3 none)) := x_good lkM_X7_190 wI_X1_make wS_X1_make wN_X1 wC_X1_make
theorem gc_X7_193 : GoodIn xtb (wsV RX7 193 yX0_make.cls yX0_make (xW yX0_make cX0_make 6 none)) := x_good lkM_X7_193 wI_X0_make wS_X0_make wN_X0 wC_X0_make
theorem gc_X7_196 : GoodIn xtb (wsV RX7 196 yX0_orbit.cls yX0_orbit (xW yX0_orbit cX0_orbit 4 (some .int))) := x_good lkM_X7_196 wI_X0_orbit wS_X0_orbit wN_X0 wC_X0_orbit
theorem gc_X7_199 : GoodIn xtb (wsV RX7 199 yX1_chain.cls yX1_chain (xW yX1_chain cX1_chain 2 (some .int))) := x_good lkM_X7_199 wI_X1_chain wS_X1_chain wN_X1 wC_X1_chain
theorem gc_X7_202 : GoodIn xtb (wsV RX7 202 yX0_leastPoint.cls yX0_leastPoint (xW yX0_leastPoint cX0_leastPoint 3 (some .int))) := x_good lkM_X7_202 wI_X0_leastPoint wS_X0_leastPoint wN_X0 wC_X0_leastPoint
theorem gc_X7_65 : GoodIn xtb (wsV RX7 65 yX7_refuse.cls yX7_refuse (xW yX7_refuse cX7_refuse 2 (some .int))) := x_good lkM_X7_65 wI_X7_refuse wS_X7_refuse wN_X7 wC_X7_refuse
theorem gc_X7_72 : GoodIn xtb (wsV RX7 72 yX7_keepState.cls yX7_keepState (xW yX7_keepState cX7_keepState 1 none)) := x_good lkM_X7_72 wI_X7_keepState wS_X7_keepState wN_X7 wC_X7_keepState
theorem gc_X7_75 : GoodIn xtb (wsV RX7 75 yX4_start.cls yX4_start (xW yX4_start cX4_start 2 none)) := x_good lkM_X7_75 wI_X4_start wS_X4_start wN_X4 wC_X4_start
theorem gc_X7_79 : GoodIn xtb (va_wsS RX7 79 yX2_read (xW yX2_read cX2_read 7 (some .int))) := x_goodS lkM_X7_79 wT_X2_read wN_X2 wC_X2_read
theorem gc_X7_88 : GoodIn xtb (wsV RX7 88 yX4_adds.cls yX4_adds (xW yX4_adds cX4_adds 2 (some .boolean))) := x_good lkM_X7_88 wI_X4_adds wS_X4_adds wN_X4 wC_X4_adds
theorem gc_X7_92 : GoodIn xtb (wsV RX7 92 yX4_loses.cls yX4_loses (xW yX4_loses cX4_loses 3 (some .boolean))) := x_good lkM_X7_92 wI_X4_loses wS_X4_loses wN_X4 wC_X4_loses
theorem gc_X7_95 : GoodIn xtb (wsV RX7 95 yX7_fit.cls yX7_fit (xW yX7_fit cX7_fit 1 none)) := x_good lkM_X7_95 wI_X7_fit wS_X7_fit wN_X7 wC_X7_fit
theorem gc_X7_98 : GoodIn xtb (wsV RX7 98 yX1_howMany.cls yX1_howMany (xW yX1_howMany cX1_howMany 1 (some .int))) := x_good lkM_X7_98 wI_X1_howMany wS_X1_howMany wN_X1 wC_X1_howMany
theorem gc_X7_102 : GoodIn xtb (wsV RX7 102 yX7_tellPoint.cls yX7_tellPoint (xW yX7_tellPoint cX7_tellPoint 3 (some .int))) := x_good lkM_X7_102 wI_X7_tellPoint wS_X7_tellPoint wN_X7 wC_X7_tellPoint
theorem gc_X7_105 : GoodIn xtb (wsV RX7 105 yX1_rank.cls yX1_rank (xW yX1_rank cX1_rank 7 (some .int))) := x_good lkM_X7_105 wI_X1_rank wS_X1_rank wN_X1 wC_X1_rank
theorem gc_X7_108 : GoodIn xtb (wsV RX7 108 yX1_withRank.cls yX1_withRank (xW yX1_withRank cX1_withRank 7 (some .int))) := x_good lkM_X7_108 wI_X1_withRank wS_X1_withRank wN_X1 wC_X1_withRank
theorem gc_X7_111 : GoodIn xtb (va_wsS RX7 111 yX2_write (xW yX2_write cX2_write 4 (some .int))) := x_goodS lkM_X7_111 wT_X2_write wN_X2 wC_X2_write
theorem gc_X7_114 : GoodIn xtb (wsV RX7 114 yX7_isSet.cls yX7_isSet (xW yX7_isSet cX7_isSet 2 (some .boolean))) := x_good lkM_X7_114 wI_X7_isSet wS_X7_isSet wN_X7 wC_X7_isSet
theorem gc_X7_117 : GoodIn xtb (va_wsS RX7 117 yX2_carry (xW yX2_carry cX2_carry 5 (some .int))) := x_goodS lkM_X7_117 wT_X2_carry wN_X2 wC_X2_carry
theorem gc_X7_120 : GoodIn xtb (wsV RX7 120 yX0_first.cls yX0_first (xW yX0_first cX0_first 2 (some .int))) := x_good lkM_X7_120 wI_X0_first wS_X0_first wN_X0 wC_X0_first
theorem gc_X7_123 : GoodIn xtb (wsV RX7 123 yX0_countWith.cls yX0_countWith (xW yX0_countWith cX0_countWith 6 (some .int))) := x_good lkM_X7_123 wI_X0_countWith wS_X0_countWith wN_X0 wC_X0_countWith
theorem gc_X7_126 : GoodIn xtb (wsV RX7 126 yX0_nthWith.cls yX0_nthWith (xW yX0_nthWith cX0_nthWith 7 (some .int))) := x_good lkM_X7_126 wI_X0_nthWith wS_X0_nthWith wN_X0 wC_X0_nthWith
theorem gc_X7_129 : GoodIn xtb (va_wsS RX7 129 yJ6_bitCount_0f7a4 (xW yJ6_bitCount_0f7a4 cJ6_bitCount_0f7a4 1 (some .int))) := x_goodS lkM_X7_129 wT_J6_bitCount_0f7a4 wN_J6 wC_J6_bitCount_0f7a4
theorem gc_X7_134 : GoodIn xtb (wsV RX7 134 yX0_firstMove.cls yX0_firstMove (xW yX0_firstMove cX0_firstMove 6 (some .int))) := x_good lkM_X7_134 wI_X0_firstMove wS_X0_firstMove wN_X0 wC_X0_firstMove
theorem gc_X7_138 : GoodIn xtb (wsV RX7 138 yX0_countFirsts.cls yX0_countFirsts (xW yX0_countFirsts cX0_countFirsts 4 (some .int))) := x_good lkM_X7_138 wI_X0_countFirsts wS_X0_countFirsts wN_X0 wC_X0_countFirsts
theorem gc_X7_141 : GoodIn xtb (wsV RX7 141 yX0_nthFirst.cls yX0_nthFirst (xW yX0_nthFirst cX0_nthFirst 5 (some .int))) := x_good lkM_X7_141 wI_X0_nthFirst wS_X0_nthFirst wN_X0 wC_X0_nthFirst
theorem gc_X7_144 : GoodIn xtb (wsV RX7 144 yX0_placeOfFirst.cls yX0_placeOfFirst (xW yX0_placeOfFirst cX0_placeOfFirst 5 (some .int))) := x_good lkM_X7_144 wI_X0_placeOfFirst wS_X0_placeOfFirst wN_X0 wC_X0_placeOfFirst
theorem gc_X7_150 : GoodIn xtb (wsV RX7 150 yX6_add.cls yX6_add (xW yX6_add cX6_add 2 none)) := x_good lkM_X7_150 wI_X6_add wS_X6_add wN_X6 wC_X6_add
theorem gc_X7_153 : GoodIn xtb (wsV RX7 153 yX3_read.cls yX3_read (xW yX3_read cX3_read 5 (some .int))) := x_good lkM_X7_153 wI_X3_read wS_X3_read wN_X3 wC_X3_read
theorem gc_X7_162 : GoodIn xtb (wsV RX7 162 yX4_copy.cls yX4_copy (xW yX4_copy cX4_copy 2 none)) := x_good lkM_X7_162 wI_X4_copy wS_X4_copy wN_X4 wC_X4_copy
theorem gc_X7_170 : GoodIn xtb (wsV RX7 170 yX5_pop.cls yX5_pop (xW yX5_pop cX5_pop 2 none)) := x_good lkM_X7_170 wI_X5_pop wS_X5_pop wN_X5 wC_X5_pop
theorem gc_X7_173 : GoodIn xtb (wsV RX7 173 yX7_tell.cls yX7_tell (xW yX7_tell cX7_tell 2 (some .int))) := x_good lkM_X7_173 wI_X7_tell wS_X7_tell wN_X7 wC_X7_tell
theorem gc_X7_180 : GoodIn xtb (wsV RX7 180 yX4_generator.cls yX4_generator (xW yX4_generator cX4_generator 2 (some .int))) := x_good lkM_X7_180 wI_X4_generator wS_X4_generator wN_X4 wC_X4_generator
theorem gc_X7_183 : GoodIn xtb (wsV RX7 183 yX0_digestFirsts.cls yX0_digestFirsts (xW yX0_digestFirsts cX0_digestFirsts 7 (some .long))) := x_good lkM_X7_183 wI_X0_digestFirsts wS_X0_digestFirsts wN_X0 wC_X0_digestFirsts
theorem ds_X7_refuse : xDs yX7_refuse 1 := by decide +kernel
theorem ds_X7_isSet : xDs yX7_isSet 1 := by decide +kernel
theorem ds_X7_keepState : xDs yX7_keepState 0 := by decide +kernel
theorem ds_X7_fit : xDs yX7_fit 0 := by decide +kernel
theorem ds_X7_tellPoint : xDs yX7_tellPoint 2 := by decide +kernel
theorem ds_X7_tell : xDs yX7_tell 1 := by decide +kernel
theorem ds_X7_points : xDs yX7_points 1 := by decide +kernel
theorem ds_X7_moves : xDs yX7_moves 1 := by decide +kernel
theorem ds_X7_drops : xDs yX7_drops 1 := by decide +kernel
theorem ds_X7_order : xDs yX7_order 0 := by decide +kernel
theorem ds_X7_of : xDs yX7_of 2 := by decide +kernel
theorem ds_X7_number : xDs yX7_number 1 := by decide +kernel
theorem ds_X7_element : xDs yX7_element 1 := by decide +kernel
theorem ds_X7_image : xDs yX7_image 2 := by decide +kernel
theorem ds_X7_least : xDs yX7_least 1 := by decide +kernel
theorem ds_X7_images : xDs yX7_images 2 := by decide +kernel
theorem ds_X7_carrier : xDs yX7_carrier 2 := by decide +kernel
theorem ds_X7_holds : xDs yX7_holds 1 := by decide +kernel
theorem ds_X7_heads : xDs yX7_heads 2 := by decide +kernel
theorem ds_X7_head : xDs yX7_head 1 := by decide +kernel
theorem ds_X7_type : xDs yX7_type 1 := by decide +kernel
theorem ds_X7_clear : xDs yX7_clear 0 := by decide +kernel
theorem ds_X7_reads : xDs yX7_reads 0 := by decide +kernel
theorem ds_X7_back : xDs yX7_back 0 := by decide +kernel
theorem ds_X7_told : xDs yX7_told 1 := by decide +kernel
theorem ds_X7_digest : xDs yX7_digest 0 := by decide +kernel
noncomputable def f_X7_refuse (c_refusedBad : Int32) (c_refusedNo : Int32) (c_refusedFull : Int32) (v1 : Int32) : Option (Int32 × Int32 × Int32 × Int32) := xb (v1 = (-2 : Int32)) (some ((c_refusedBad + (1 : Int32)), c_refusedNo, c_refusedFull, v1)) (xb (v1 = (-3 : Int32)) (some (c_refusedBad, (c_refusedNo + (1 : Int32)), c_refusedFull, v1)) (some (c_refusedBad, c_refusedNo, (c_refusedFull + (1 : Int32)), v1)))
set_option maxHeartbeats 4000000 in
set_option maxRecDepth 100000 in
theorem c_X7_refuse (l : Launch) (dC : Nat → ClassId) (dI : Nat → Nat → Nat) (cI cZ cB cO : ClassId) (c_ad : Nat) (c_p : Nat → Nat) (c_fits : Int32) (c_refusedBad : Int32) (c_refusedNo : Int32) (c_refusedFull : Int32) (v1 : Int32) (o : Int32 × Int32 × Int32 × Int32) (h : f_X7_refuse c_refusedBad c_refusedNo c_refusedFull v1 = some o) (sz : Nat) : Met l yX7_refuse (xW yX7_refuse cX7_refuse 2 (some .int)) { frames := 0, cells := 0, slots := 0, locals := 0 } (xPre dC dI (xT cI cZ cB cO) [.ref c_ad, .int v1] (wC cI cZ cB cO c_ad c_p c_fits c_refusedBad c_refusedNo c_refusedFull) sz) (xQi dC dI (xT cI cZ cB cO) o.2.2.2 (wC cI cZ cB cO c_ad c_p c_fits c_refusedBad c_refusedNo c_refusedFull) (wC cI cZ cB cO c_ad c_p c_fits o.1 o.2.1 o.2.2.1) sz) 0 0 (va_A (wC cI cZ cB cO c_ad c_p c_fits c_refusedBad c_refusedNo c_refusedFull) sz) := by
  refine x_met (by decide) (Nat.le_of_ble_eq_true rfl) ?_
  intro p e s m args below meth c R Q A hR hsz hA hQ hin C hw ls hl
  have hx := C.1
  have hb := C.2.1
  have hown := C.2.2.2.1
  have htb := C.2.2.2.2.1
  have hl : lv_has ls 2 [(0, .ref c_ad), (1, .int v1)] := hl
  refine lv_iload_n hx hb dX7_refuse_0 rfl (lv_at hl 1 rfl) ?_
  refine lv_bipush (v := (-2 : Int32)) hx hb dX7_refuse_1 (by decide) ?_
  refine lv_icmp_ne (tgt := 19) hx hb dX7_refuse_3 (by decide) (fun b1 => ?_) (fun b1 => ?_)
  · replace h := xb_ff b1 h
    refine lv_iload_n hx hb dX7_refuse_19 rfl (lv_at hl 1 rfl) ?_
    refine lv_bipush (v := (-3 : Int32)) hx hb dX7_refuse_20 (by decide) ?_
    refine lv_icmp_ne (tgt := 38) hx hb dX7_refuse_22 (by decide) (fun b2 => ?_) (fun b2 => ?_)
    · replace h := xb_ff b2 h
      refine lv_aload_n hx hb dX7_refuse_38 rfl (lv_at hl 0 rfl) ?_
      refine lv_dup hx hb dX7_refuse_39 rfl ?_
      refine x_get (ci := 6) C hw inX7 rfl 9 (by decide) lkF_X7_62 rfl 0 rfl rfl dX7_refuse_40 ?_
      refine lv_iconst (v := (1 : Int32)) hx hb dX7_refuse_43 (by decide) ?_
      refine lv_iadd hx hb dX7_refuse_44 ?_
      refine x_put (ci := 6) C hw inX7 tyX7 tyX7_ok nmX7 rfl 9 (by decide) lkF_X7_62 rfl rfl 0 rfl rfl rfl (Nat.le_of_ble_eq_true rfl) dX7_refuse_45 (fun H locs hw => ?_)
      have hw : xWd (dC, dI) A s.heap H locs (wC cI cZ cB cO c_ad c_p c_fits c_refusedBad c_refusedNo (c_refusedFull + (1 : Int32))) := hw
      refine lv_iload_n hx hb dX7_refuse_48 rfl (lv_at hl 1 rfl) ?_
      obtain rfl := Option.some.inj h
      exact x_reti C hQ hA hw dX7_refuse_49
    · replace h := xb_tt b2 h
      refine lv_aload_n hx hb dX7_refuse_25 rfl (lv_at hl 0 rfl) ?_
      refine lv_dup hx hb dX7_refuse_26 rfl ?_
      refine x_get (ci := 6) C hw inX7 rfl 8 (by decide) lkF_X7_59 rfl 0 rfl rfl dX7_refuse_27 ?_
      refine lv_iconst (v := (1 : Int32)) hx hb dX7_refuse_30 (by decide) ?_
      refine lv_iadd hx hb dX7_refuse_31 ?_
      refine x_put (ci := 6) C hw inX7 tyX7 tyX7_ok nmX7 rfl 8 (by decide) lkF_X7_59 rfl rfl 0 rfl rfl rfl (Nat.le_of_ble_eq_true rfl) dX7_refuse_32 (fun H locs hw => ?_)
      have hw : xWd (dC, dI) A s.heap H locs (wC cI cZ cB cO c_ad c_p c_fits c_refusedBad (c_refusedNo + (1 : Int32)) c_refusedFull) := hw
      refine lv_goto (tgt := 48) hx hb dX7_refuse_35 (by decide) ?_
      refine lv_iload_n hx hb dX7_refuse_48 rfl (lv_at hl 1 rfl) ?_
      obtain rfl := Option.some.inj h
      exact x_reti C hQ hA hw dX7_refuse_49
  · replace h := xb_tt b1 h
    refine lv_aload_n hx hb dX7_refuse_6 rfl (lv_at hl 0 rfl) ?_
    refine lv_dup hx hb dX7_refuse_7 rfl ?_
    refine x_get (ci := 6) C hw inX7 rfl 7 (by decide) lkF_X7_55 rfl 0 rfl rfl dX7_refuse_8 ?_
    refine lv_iconst (v := (1 : Int32)) hx hb dX7_refuse_11 (by decide) ?_
    refine lv_iadd hx hb dX7_refuse_12 ?_
    refine x_put (ci := 6) C hw inX7 tyX7 tyX7_ok nmX7 rfl 7 (by decide) lkF_X7_55 rfl rfl 0 rfl rfl rfl (Nat.le_of_ble_eq_true rfl) dX7_refuse_13 (fun H locs hw => ?_)
    have hw : xWd (dC, dI) A s.heap H locs (wC cI cZ cB cO c_ad c_p c_fits (c_refusedBad + (1 : Int32)) c_refusedNo c_refusedFull) := hw
    refine lv_goto (tgt := 48) hx hb dX7_refuse_16 (by decide) ?_
    refine lv_iload_n hx hb dX7_refuse_48 rfl (lv_at hl 1 rfl) ?_
    obtain rfl := Option.some.inj h
    exact x_reti C hQ hA hw dX7_refuse_49
noncomputable def f_X7_isSet (n_n : Int32) (v1 : Int32) : Option (Int32) := xb (v1 < 0) (some (0 : Int32)) (xb (((1 : Int32) <<< (n_n &&& 31)) ≤ v1) (some (0 : Int32)) (some (1 : Int32)))
set_option maxHeartbeats 4000000 in
set_option maxRecDepth 100000 in
theorem c_X7_isSet (l : Launch) (dC : Nat → ClassId) (dI : Nat → Nat → Nat) (cI cZ cB cO : ClassId) (c_ad : Nat) (c_p : Nat → Nat) (n_p : Nat → Nat) (c_fits : Int32) (c_refusedBad : Int32) (c_refusedNo : Int32) (c_refusedFull : Int32) (n_n : Int32) (n_count : Int32) (n_generators : (Nat → Int32)) (v1 : Int32) (o : Int32) (h : f_X7_isSet n_n v1 = some o) (sz : Nat) : Met l yX7_isSet (xW yX7_isSet cX7_isSet 2 (some .boolean)) { frames := 0, cells := 0, slots := 0, locals := 0 } (xPre dC dI (xT cI cZ cB cO) [.ref c_ad, .int v1] ((wC cI cZ cB cO c_ad c_p c_fits c_refusedBad c_refusedNo c_refusedFull) ++ (wS cI cZ cB cO (c_p 0) n_p n_n n_count n_generators)) sz) (xQi dC dI (xT cI cZ cB cO) o ((wC cI cZ cB cO c_ad c_p c_fits c_refusedBad c_refusedNo c_refusedFull) ++ (wS cI cZ cB cO (c_p 0) n_p n_n n_count n_generators)) ((wC cI cZ cB cO c_ad c_p c_fits c_refusedBad c_refusedNo c_refusedFull) ++ (wS cI cZ cB cO (c_p 0) n_p n_n n_count n_generators)) sz) 0 0 (va_A ((wC cI cZ cB cO c_ad c_p c_fits c_refusedBad c_refusedNo c_refusedFull) ++ (wS cI cZ cB cO (c_p 0) n_p n_n n_count n_generators)) sz) := by
  refine x_met (by decide) (Nat.le_of_ble_eq_true rfl) ?_
  intro p e s m args below meth c R Q A hR hsz hA hQ hin C hw ls hl
  have hx := C.1
  have hb := C.2.1
  have hown := C.2.2.2.1
  have htb := C.2.2.2.2.1
  have hl : lv_has ls 2 [(0, .ref c_ad), (1, .int v1)] := hl
  refine lv_iload_n hx hb dX7_isSet_0 rfl (lv_at hl 1 rfl) ?_
  refine lv_if_lt (tgt := 21) hx hb dX7_isSet_1 (by decide) (fun b1 => ?_) (fun b1 => ?_)
  · replace h := xb_tt b1 h
    refine lv_iconst (v := (0 : Int32)) hx hb dX7_isSet_21 (by decide) ?_
    obtain rfl := Option.some.inj h
    exact x_retz C hQ hA hw (by decide) dX7_isSet_22
  · replace h := xb_ff b1 h
    refine lv_iload_n hx hb dX7_isSet_4 rfl (lv_at hl 1 rfl) ?_
    refine lv_iconst (v := (1 : Int32)) hx hb dX7_isSet_5 (by decide) ?_
    refine lv_aload_n hx hb dX7_isSet_6 rfl (lv_at hl 0 rfl) ?_
    refine x_get (ci := 6) C hw inX7 rfl 0 (by decide) lkF_X7_10 rfl 0 rfl rfl dX7_isSet_7 ?_
    refine x_get (ci := 3) C hw inX4 rfl 0 (by decide) lkF_X7_69 rfl 1 rfl rfl dX7_isSet_10 ?_
    refine lv_ishl hx hb dX7_isSet_13 ?_
    refine lv_icmp_ge (tgt := 21) hx hb dX7_isSet_14 (by decide) (fun b2 => ?_) (fun b2 => ?_)
    · replace h := xb_tt b2 h
      refine lv_iconst (v := (0 : Int32)) hx hb dX7_isSet_21 (by decide) ?_
      obtain rfl := Option.some.inj h
      exact x_retz C hQ hA hw (by decide) dX7_isSet_22
    · replace h := xb_ff b2 h
      refine lv_iconst (v := (1 : Int32)) hx hb dX7_isSet_17 (by decide) ?_
      refine lv_goto (tgt := 22) hx hb dX7_isSet_18 (by decide) ?_
      obtain rfl := Option.some.inj h
      exact x_retz C hQ hA hw (by decide) dX7_isSet_22
noncomputable def f_X7_keepState (c_fits : Int32) (n_n : Int32) (n_count : Int32) (n_generators : (Nat → Int32)) (z_count : Int32) (z_ra : (Nat → Nat)) (z_rb : (Nat → Nat)) (z_rn : (Nat → Int32)) (z_rc : (Nat → Int32)) (z_rg : (Nat → Nat → Int32)) : Option (Int32 × Int32 × (Nat → Nat) × (Nat → Nat) × (Nat → Int32) × (Nat → Int32) × (Nat → Nat → Int32)) := xn (f_X5_push z_count z_ra z_rb z_rn z_rc z_rg n_n n_count n_generators) (fun (z : Int32 × (Nat → Nat) × (Nat → Nat) × (Nat → Int32) × (Nat → Int32) × (Nat → Nat → Int32)) => match z with | (z_count_1, z_ra_2, z_rb_3, z_rn_4, z_rc_5, z_rg_6) => some ((0 : Int32), z_count_1, z_ra_2, z_rb_3, z_rn_4, z_rc_5, z_rg_6))
set_option maxHeartbeats 4000000 in
set_option maxRecDepth 100000 in
theorem c_X7_keepState (l : Launch) (dC : Nat → ClassId) (dI : Nat → Nat → Nat) (cI cZ cB cO : ClassId) (c_ad : Nat) (c_p : Nat → Nat) (n_p : Nat → Nat) (z_p : Nat → Nat) (c_fits : Int32) (c_refusedBad : Int32) (c_refusedNo : Int32) (c_refusedFull : Int32) (n_n : Int32) (n_count : Int32) (n_generators : (Nat → Int32)) (z_count : Int32) (z_ra : (Nat → Nat)) (z_rb : (Nat → Nat)) (z_rn : (Nat → Int32)) (z_rc : (Nat → Int32)) (z_rg : (Nat → Nat → Int32)) (o : Int32 × Int32 × (Nat → Nat) × (Nat → Nat) × (Nat → Int32) × (Nat → Int32) × (Nat → Nat → Int32)) (h : f_X7_keepState c_fits n_n n_count n_generators z_count z_ra z_rb z_rn z_rc z_rg = some o) (sz : Nat) : Met l yX7_keepState (xW yX7_keepState cX7_keepState 1 none) { frames := 3, cells := 0, slots := 0, locals := 82 } (xPre dC dI (xT cI cZ cB cO) [.ref c_ad] ((wC cI cZ cB cO c_ad c_p c_fits c_refusedBad c_refusedNo c_refusedFull) ++ ((wS cI cZ cB cO (c_p 0) n_p n_n n_count n_generators) ++ (wZ cI cZ cB cO (c_p 1) z_p z_count z_ra z_rb z_rn z_rc z_rg))) sz) (xQv dC dI (xT cI cZ cB cO) ((wC cI cZ cB cO c_ad c_p c_fits c_refusedBad c_refusedNo c_refusedFull) ++ ((wS cI cZ cB cO (c_p 0) n_p n_n n_count n_generators) ++ (wZ cI cZ cB cO (c_p 1) z_p z_count z_ra z_rb z_rn z_rc z_rg))) ((wC cI cZ cB cO c_ad c_p o.1 c_refusedBad c_refusedNo c_refusedFull) ++ ((wS cI cZ cB cO (c_p 0) n_p n_n n_count n_generators) ++ (wZ cI cZ cB cO (c_p 1) z_p o.2.1 o.2.2.1 o.2.2.2.1 o.2.2.2.2.1 o.2.2.2.2.2.1 o.2.2.2.2.2.2))) sz) 0 0 (va_A ((wC cI cZ cB cO c_ad c_p c_fits c_refusedBad c_refusedNo c_refusedFull) ++ ((wS cI cZ cB cO (c_p 0) n_p n_n n_count n_generators) ++ (wZ cI cZ cB cO (c_p 1) z_p z_count z_ra z_rb z_rn z_rc z_rg))) sz) := by
  refine x_met (by decide) (Nat.le_of_ble_eq_true rfl) ?_
  intro p e s m args below meth c R Q A hR hsz hA hQ hin C hw ls hl
  have hx := C.1
  have hb := C.2.1
  have hown := C.2.2.2.1
  have htb := C.2.2.2.2.1
  have hl : lv_has ls 1 [(0, .ref c_ad)] := hl
  refine lv_aload_n hx hb dX7_keepState_0 rfl (lv_at hl 0 rfl) ?_
  refine x_get (ci := 6) C hw inX7 rfl 1 (by decide) lkF_X7_19 rfl 0 rfl rfl dX7_keepState_1 ?_
  refine lv_aload_n hx hb dX7_keepState_4 rfl (lv_at hl 0 rfl) ?_
  refine x_get (ci := 6) C hw inX7 rfl 0 (by decide) lkF_X7_10 rfl 0 rfl rfl dX7_keepState_5 ?_
  obtain ⟨⟨z_count_1, z_ra_2, z_rb_3, z_rn_4, z_rc_5, z_rg_6⟩, q1, h⟩ := xn_i h
  refine x_callVv (As := [.ref (c_p 0)]) (rest := []) C hw gc_X7_187 ⟨rfl, rfl, ds_X5_push, (by rw [hR]; exact Nat.le_of_ble_eq_true rfl), (by rw [hR]; exact Nat.le_of_ble_eq_true rfl), Nat.zero_le _, Nat.zero_le _⟩ (c_X5_push l dC dI cI cZ cB cO (c_p 1) z_p (c_p 0) n_p z_count z_ra z_rb z_rn z_rc z_rg n_n n_count n_generators _ q1 _) [3, 4, 5, 6, 7, 8, 9, 10, 11, 12, 13, 14, 1, 2] [0] (by decide) rfl rfl (by decide) (by decide) rfl rfl rfl hl.1 rfl (Nat.le_of_ble_eq_true rfl) dX7_keepState_8 (fun H locs hw => ?_)
  have hw : xWd (dC, dI) A s.heap H locs ((wC cI cZ cB cO c_ad c_p c_fits c_refusedBad c_refusedNo c_refusedFull) ++ ((wS cI cZ cB cO (c_p 0) n_p n_n n_count n_generators) ++ (wZ cI cZ cB cO (c_p 1) z_p z_count_1 z_ra_2 z_rb_3 z_rn_4 z_rc_5 z_rg_6))) := hw.sub [0, 13, 14, 1, 2, 3, 4, 5, 6, 7, 8, 9, 10, 11, 12] (by decide) rfl
  refine lv_aload_n hx hb dX7_keepState_11 rfl (lv_at hl 0 rfl) ?_
  refine lv_iconst (v := (0 : Int32)) hx hb dX7_keepState_12 (by decide) ?_
  refine x_put (ci := 6) C hw inX7 tyX7 tyX7_ok nmX7 rfl 6 (by decide) lkF_X7_51 rfl rfl 0 rfl rfl rfl (Nat.le_of_ble_eq_true rfl) dX7_keepState_13 (fun H locs hw => ?_)
  have hw : xWd (dC, dI) A s.heap H locs ((wC cI cZ cB cO c_ad c_p (0 : Int32) c_refusedBad c_refusedNo c_refusedFull) ++ ((wS cI cZ cB cO (c_p 0) n_p n_n n_count n_generators) ++ (wZ cI cZ cB cO (c_p 1) z_p z_count_1 z_ra_2 z_rb_3 z_rn_4 z_rc_5 z_rg_6))) := hw
  obtain rfl := Option.some.inj h
  exact x_retv C hQ hA hw dX7_keepState_16
noncomputable def f_X7_fit (c_fits : Int32) (n_n : Int32) (n_count : Int32) (n_generators : (Nat → Int32)) (e_n : Int32) (e_steps : (Nat → Int32)) (e_undoing : (Nat → Int32)) (e_chains : (Nat → Int32)) (e_leaving : (Nat → Int32)) (e_found : (Nat → Int32)) (e_foundAt : (Nat → Int32)) (e_foundCount : Int32) (k_n : Int32) (k_inOrder : (Nat → Int32)) (k_starts : (Nat → Int32)) (k_firsts : (Nat → Int32)) (k_reached : (Nat → Int32)) (k_reachedAt : (Nat → Int32)) (k_reachedCount : Int32) : Option (Int32 × Int32 × (Nat → Int32) × (Nat → Int32) × (Nat → Int32) × (Nat → Int32) × (Nat → Int32) × (Nat → Int32) × Int32 × Int32 × (Nat → Int32) × (Nat → Int32) × (Nat → Int32) × (Nat → Int32) × (Nat → Int32) × Int32) := xb (c_fits = 0) (xn (f_X1_make e_n e_steps e_undoing e_chains e_leaving e_found e_foundAt e_foundCount n_n n_count n_generators) (fun (z : Int32 × (Nat → Int32) × (Nat → Int32) × (Nat → Int32) × (Nat → Int32) × (Nat → Int32) × (Nat → Int32) × Int32) => match z with | (e_n_1, e_steps_2, e_undoing_3, e_chains_4, e_leaving_5, e_found_6, e_foundAt_7, e_foundCount_8) => xn (f_X0_make k_n k_inOrder k_starts k_firsts k_reached k_reachedAt k_reachedCount e_steps_2 e_chains_4 n_n) (fun (z : Int32 × (Nat → Int32) × (Nat → Int32) × (Nat → Int32) × (Nat → Int32) × (Nat → Int32) × Int32) => match z with | (k_n_9, k_inOrder_10, k_starts_11, k_firsts_12, k_reached_13, k_reachedAt_14, k_reachedCount_15) => some ((1 : Int32), e_n_1, e_steps_2, e_undoing_3, e_chains_4, e_leaving_5, e_found_6, e_foundAt_7, e_foundCount_8, k_n_9, k_inOrder_10, k_starts_11, k_firsts_12, k_reached_13, k_reachedAt_14, k_reachedCount_15)))) (some (c_fits, e_n, e_steps, e_undoing, e_chains, e_leaving, e_found, e_foundAt, e_foundCount, k_n, k_inOrder, k_starts, k_firsts, k_reached, k_reachedAt, k_reachedCount))
set_option maxHeartbeats 4000000 in
set_option maxRecDepth 100000 in
theorem c_X7_fit (l : Launch) (dC : Nat → ClassId) (dI : Nat → Nat → Nat) (cI cZ cB cO : ClassId) (c_ad : Nat) (c_p : Nat → Nat) (n_p : Nat → Nat) (e_p : Nat → Nat) (k_p : Nat → Nat) (c_fits : Int32) (c_refusedBad : Int32) (c_refusedNo : Int32) (c_refusedFull : Int32) (n_n : Int32) (n_count : Int32) (n_generators : (Nat → Int32)) (e_n : Int32) (e_steps : (Nat → Int32)) (e_undoing : (Nat → Int32)) (e_chains : (Nat → Int32)) (e_leaving : (Nat → Int32)) (e_found : (Nat → Int32)) (e_foundAt : (Nat → Int32)) (e_foundCount : Int32) (k_n : Int32) (k_inOrder : (Nat → Int32)) (k_starts : (Nat → Int32)) (k_firsts : (Nat → Int32)) (k_reached : (Nat → Int32)) (k_reachedAt : (Nat → Int32)) (k_reachedCount : Int32) (o : Int32 × Int32 × (Nat → Int32) × (Nat → Int32) × (Nat → Int32) × (Nat → Int32) × (Nat → Int32) × (Nat → Int32) × Int32 × Int32 × (Nat → Int32) × (Nat → Int32) × (Nat → Int32) × (Nat → Int32) × (Nat → Int32) × Int32) (h : f_X7_fit c_fits n_n n_count n_generators e_n e_steps e_undoing e_chains e_leaving e_found e_foundAt e_foundCount k_n k_inOrder k_starts k_firsts k_reached k_reachedAt k_reachedCount = some o) (sz : Nat) : Met l yX7_fit (xW yX7_fit cX7_fit 1 none) { frames := 5, cells := 0, slots := 0, locals := 113 } (xPre dC dI (xT cI cZ cB cO) [.ref c_ad] ((wC cI cZ cB cO c_ad c_p c_fits c_refusedBad c_refusedNo c_refusedFull) ++ ((wS cI cZ cB cO (c_p 0) n_p n_n n_count n_generators) ++ ((wE cI cZ cB cO (c_p 4) e_p e_n e_steps e_undoing e_chains e_leaving e_found e_foundAt e_foundCount) ++ (wK cI cZ cB cO (c_p 5) k_p k_n k_inOrder k_starts k_firsts k_reached k_reachedAt k_reachedCount)))) sz) (xQv dC dI (xT cI cZ cB cO) ((wC cI cZ cB cO c_ad c_p c_fits c_refusedBad c_refusedNo c_refusedFull) ++ ((wS cI cZ cB cO (c_p 0) n_p n_n n_count n_generators) ++ ((wE cI cZ cB cO (c_p 4) e_p e_n e_steps e_undoing e_chains e_leaving e_found e_foundAt e_foundCount) ++ (wK cI cZ cB cO (c_p 5) k_p k_n k_inOrder k_starts k_firsts k_reached k_reachedAt k_reachedCount)))) ((wC cI cZ cB cO c_ad c_p o.1 c_refusedBad c_refusedNo c_refusedFull) ++ ((wS cI cZ cB cO (c_p 0) n_p n_n n_count n_generators) ++ ((wE cI cZ cB cO (c_p 4) e_p o.2.1 o.2.2.1 o.2.2.2.1 o.2.2.2.2.1 o.2.2.2.2.2.1 o.2.2.2.2.2.2.1 o.2.2.2.2.2.2.2.1 o.2.2.2.2.2.2.2.2.1) ++ (wK cI cZ cB cO (c_p 5) k_p o.2.2.2.2.2.2.2.2.2.1 o.2.2.2.2.2.2.2.2.2.2.1 o.2.2.2.2.2.2.2.2.2.2.2.1 o.2.2.2.2.2.2.2.2.2.2.2.2.1 o.2.2.2.2.2.2.2.2.2.2.2.2.2.1 o.2.2.2.2.2.2.2.2.2.2.2.2.2.2.1 o.2.2.2.2.2.2.2.2.2.2.2.2.2.2.2)))) sz) 0 0 (va_A ((wC cI cZ cB cO c_ad c_p c_fits c_refusedBad c_refusedNo c_refusedFull) ++ ((wS cI cZ cB cO (c_p 0) n_p n_n n_count n_generators) ++ ((wE cI cZ cB cO (c_p 4) e_p e_n e_steps e_undoing e_chains e_leaving e_found e_foundAt e_foundCount) ++ (wK cI cZ cB cO (c_p 5) k_p k_n k_inOrder k_starts k_firsts k_reached k_reachedAt k_reachedCount)))) sz) := by
  refine x_met (by decide) (Nat.le_of_ble_eq_true rfl) ?_
  intro p e s m args below meth c R Q A hR hsz hA hQ hin C hw ls hl
  have hx := C.1
  have hb := C.2.1
  have hown := C.2.2.2.1
  have htb := C.2.2.2.2.1
  have hl : lv_has ls 1 [(0, .ref c_ad)] := hl
  refine lv_aload_n hx hb dX7_fit_0 rfl (lv_at hl 0 rfl) ?_
  refine x_get (ci := 6) C hw inX7 rfl 6 (by decide) lkF_X7_51 rfl 0 rfl rfl dX7_fit_1 ?_
  refine lv_if_ne (tgt := 41) hx hb dX7_fit_4 (by decide) (fun b1 => ?_) (fun b1 => ?_)
  · replace h := xb_ff b1 h
    obtain rfl := Option.some.inj h
    exact x_retv C hQ hA hw dX7_fit_41
  · replace h := xb_tt b1 h
    refine lv_aload_n hx hb dX7_fit_7 rfl (lv_at hl 0 rfl) ?_
    refine x_get (ci := 6) C hw inX7 rfl 4 (by decide) lkF_X7_40 rfl 0 rfl rfl dX7_fit_8 ?_
    refine lv_aload_n hx hb dX7_fit_11 rfl (lv_at hl 0 rfl) ?_
    refine x_get (ci := 6) C hw inX7 rfl 0 (by decide) lkF_X7_10 rfl 0 rfl rfl dX7_fit_12 ?_
    obtain ⟨⟨e_n_1, e_steps_2, e_undoing_3, e_chains_4, e_leaving_5, e_found_6, e_foundAt_7, e_foundCount_8⟩, q2, h⟩ := xn_i h
    refine x_callVv (As := [.ref (c_p 0)]) (rest := []) C hw gc_X7_190 ⟨rfl, rfl, ds_X1_make, (by rw [hR]; exact Nat.le_of_ble_eq_true rfl), (by rw [hR]; exact Nat.le_of_ble_eq_true rfl), Nat.zero_le _, Nat.zero_le _⟩ (c_X1_make l dC dI cI cZ cB cO (c_p 4) e_p (c_p 0) n_p e_n e_steps e_undoing e_chains e_leaving e_found e_foundAt e_foundCount n_n n_count n_generators _ q2 _) [3, 4, 5, 6, 7, 8, 9, 1, 2] [0, 10, 11, 12, 13, 14, 15] (by decide) rfl rfl (by decide) (by decide) rfl rfl rfl hl.1 rfl (Nat.le_of_ble_eq_true rfl) dX7_fit_15 (fun H locs hw => ?_)
    have hw : xWd (dC, dI) A s.heap H locs ((wC cI cZ cB cO c_ad c_p c_fits c_refusedBad c_refusedNo c_refusedFull) ++ ((wS cI cZ cB cO (c_p 0) n_p n_n n_count n_generators) ++ ((wE cI cZ cB cO (c_p 4) e_p e_n_1 e_steps_2 e_undoing_3 e_chains_4 e_leaving_5 e_found_6 e_foundAt_7 e_foundCount_8) ++ (wK cI cZ cB cO (c_p 5) k_p k_n k_inOrder k_starts k_firsts k_reached k_reachedAt k_reachedCount)))) := hw.sub [0, 14, 15, 7, 8, 9, 10, 11, 12, 13, 1, 2, 3, 4, 5, 6] (by decide) rfl
    refine lv_aload_n hx hb dX7_fit_18 rfl (lv_at hl 0 rfl) ?_
    refine x_get (ci := 6) C hw inX7 rfl 5 (by decide) lkF_X7_47 rfl 0 rfl rfl dX7_fit_19 ?_
    refine lv_aload_n hx hb dX7_fit_22 rfl (lv_at hl 0 rfl) ?_
    refine x_get (ci := 6) C hw inX7 rfl 4 (by decide) lkF_X7_40 rfl 0 rfl rfl dX7_fit_23 ?_
    refine lv_aload_n hx hb dX7_fit_26 rfl (lv_at hl 0 rfl) ?_
    refine x_get (ci := 6) C hw inX7 rfl 0 (by decide) lkF_X7_10 rfl 0 rfl rfl dX7_fit_27 ?_
    refine x_get (ci := 3) C hw inX4 rfl 0 (by decide) lkF_X7_69 rfl 1 rfl rfl dX7_fit_30 ?_
    obtain ⟨⟨k_n_9, k_inOrder_10, k_starts_11, k_firsts_12, k_reached_13, k_reachedAt_14, k_reachedCount_15⟩, q3, h⟩ := xn_i h
    refine x_callVv (As := [.ref (c_p 4), .int n_n]) (rest := []) C hw gc_X7_193 ⟨rfl, rfl, ds_X0_make, (by rw [hR]; exact Nat.le_of_ble_eq_true rfl), (by rw [hR]; exact Nat.le_of_ble_eq_true rfl), Nat.zero_le _, Nat.zero_le _⟩ (c_X0_make l dC dI cI cZ cB cO (c_p 5) k_p (c_p 4) e_p k_n k_inOrder k_starts k_firsts k_reached k_reachedAt k_reachedCount e_n_1 e_steps_2 e_undoing_3 e_chains_4 e_leaving_5 e_found_6 e_foundAt_7 e_foundCount_8 n_n _ q3 _) [10, 11, 12, 13, 14, 15, 3, 4, 5, 6, 7, 8, 9] [0, 1, 2] (by decide) rfl rfl (by decide) (by decide) rfl rfl rfl hl.1 rfl (Nat.le_of_ble_eq_true rfl) dX7_fit_33 (fun H locs hw => ?_)
    have hw : xWd (dC, dI) A s.heap H locs ((wC cI cZ cB cO c_ad c_p c_fits c_refusedBad c_refusedNo c_refusedFull) ++ ((wS cI cZ cB cO (c_p 0) n_p n_n n_count n_generators) ++ ((wE cI cZ cB cO (c_p 4) e_p e_n_1 e_steps_2 e_undoing_3 e_chains_4 e_leaving_5 e_found_6 e_foundAt_7 e_foundCount_8) ++ (wK cI cZ cB cO (c_p 5) k_p k_n_9 k_inOrder_10 k_starts_11 k_firsts_12 k_reached_13 k_reachedAt_14 k_reachedCount_15)))) := hw.sub [0, 1, 2, 9, 10, 11, 12, 13, 14, 15, 3, 4, 5, 6, 7, 8] (by decide) rfl
    refine lv_aload_n hx hb dX7_fit_36 rfl (lv_at hl 0 rfl) ?_
    refine lv_iconst (v := (1 : Int32)) hx hb dX7_fit_37 (by decide) ?_
    refine x_put (ci := 6) C hw inX7 tyX7 tyX7_ok nmX7 rfl 6 (by decide) lkF_X7_51 rfl rfl 0 rfl rfl rfl (Nat.le_of_ble_eq_true rfl) dX7_fit_38 (fun H locs hw => ?_)
    have hw : xWd (dC, dI) A s.heap H locs ((wC cI cZ cB cO c_ad c_p (1 : Int32) c_refusedBad c_refusedNo c_refusedFull) ++ ((wS cI cZ cB cO (c_p 0) n_p n_n n_count n_generators) ++ ((wE cI cZ cB cO (c_p 4) e_p e_n_1 e_steps_2 e_undoing_3 e_chains_4 e_leaving_5 e_found_6 e_foundAt_7 e_foundCount_8) ++ (wK cI cZ cB cO (c_p 5) k_p k_n_9 k_inOrder_10 k_starts_11 k_firsts_12 k_reached_13 k_reachedAt_14 k_reachedCount_15)))) := hw
    obtain rfl := Option.some.inj h
    exact x_retv C hQ hA hw dX7_fit_41
noncomputable def f_X7_tellPoint (e_chains : (Nat → Int32)) (k_n : Int32) (k_firsts : (Nat → Int32)) (v1 : Int32) (v2 : Int32) : Option (Int32) := xb (v2 = (0 : Int32)) (xn (f_X0_orbit k_n k_firsts v1) (fun (r_1 : Int32) => some r_1)) (xb (v2 = (1 : Int32)) (xn (f_X1_chain e_chains v1) (fun (r_2 : Int32) => some r_2)) (xn (f_X0_leastPoint k_firsts v1) (fun (r_3 : Int32) => some r_3)))
set_option maxHeartbeats 4000000 in
set_option maxRecDepth 100000 in
theorem c_X7_tellPoint (l : Launch) (dC : Nat → ClassId) (dI : Nat → Nat → Nat) (cI cZ cB cO : ClassId) (c_ad : Nat) (c_p : Nat → Nat) (e_p : Nat → Nat) (k_p : Nat → Nat) (c_fits : Int32) (c_refusedBad : Int32) (c_refusedNo : Int32) (c_refusedFull : Int32) (e_n : Int32) (e_steps : (Nat → Int32)) (e_undoing : (Nat → Int32)) (e_chains : (Nat → Int32)) (e_leaving : (Nat → Int32)) (e_found : (Nat → Int32)) (e_foundAt : (Nat → Int32)) (e_foundCount : Int32) (k_n : Int32) (k_inOrder : (Nat → Int32)) (k_starts : (Nat → Int32)) (k_firsts : (Nat → Int32)) (k_reached : (Nat → Int32)) (k_reachedAt : (Nat → Int32)) (k_reachedCount : Int32) (v1 : Int32) (v2 : Int32) (o : Int32) (h : f_X7_tellPoint e_chains k_n k_firsts v1 v2 = some o) (sz : Nat) : Met l yX7_tellPoint (xW yX7_tellPoint cX7_tellPoint 3 (some .int)) { frames := 2, cells := 0, slots := 0, locals := 44 } (xPre dC dI (xT cI cZ cB cO) [.ref c_ad, .int v1, .int v2] ((wC cI cZ cB cO c_ad c_p c_fits c_refusedBad c_refusedNo c_refusedFull) ++ ((wE cI cZ cB cO (c_p 4) e_p e_n e_steps e_undoing e_chains e_leaving e_found e_foundAt e_foundCount) ++ (wK cI cZ cB cO (c_p 5) k_p k_n k_inOrder k_starts k_firsts k_reached k_reachedAt k_reachedCount))) sz) (xQi dC dI (xT cI cZ cB cO) o ((wC cI cZ cB cO c_ad c_p c_fits c_refusedBad c_refusedNo c_refusedFull) ++ ((wE cI cZ cB cO (c_p 4) e_p e_n e_steps e_undoing e_chains e_leaving e_found e_foundAt e_foundCount) ++ (wK cI cZ cB cO (c_p 5) k_p k_n k_inOrder k_starts k_firsts k_reached k_reachedAt k_reachedCount))) ((wC cI cZ cB cO c_ad c_p c_fits c_refusedBad c_refusedNo c_refusedFull) ++ ((wE cI cZ cB cO (c_p 4) e_p e_n e_steps e_undoing e_chains e_leaving e_found e_foundAt e_foundCount) ++ (wK cI cZ cB cO (c_p 5) k_p k_n k_inOrder k_starts k_firsts k_reached k_reachedAt k_reachedCount))) sz) 0 0 (va_A ((wC cI cZ cB cO c_ad c_p c_fits c_refusedBad c_refusedNo c_refusedFull) ++ ((wE cI cZ cB cO (c_p 4) e_p e_n e_steps e_undoing e_chains e_leaving e_found e_foundAt e_foundCount) ++ (wK cI cZ cB cO (c_p 5) k_p k_n k_inOrder k_starts k_firsts k_reached k_reachedAt k_reachedCount))) sz) := by
  refine x_met (by decide) (Nat.le_of_ble_eq_true rfl) ?_
  intro p e s m args below meth c R Q A hR hsz hA hQ hin C hw ls hl
  have hx := C.1
  have hb := C.2.1
  have hown := C.2.2.2.1
  have htb := C.2.2.2.2.1
  have hl : lv_has ls 3 [(0, .ref c_ad), (1, .int v1), (2, .int v2)] := hl
  refine lv_iload_n hx hb dX7_tellPoint_0 rfl (lv_at hl 2 rfl) ?_
  rcases Classical.em (v2 = (0 : Int32)) with b1 | b1
  · replace h := xb_tt b1 h
    refine lv_lookup (off := 27) (tgt := 28) hx hb dX7_tellPoint_1 (by decide) (by rw [b1]; rfl) (by decide) ?_
    refine lv_aload_n hx hb dX7_tellPoint_28 rfl (lv_at hl 0 rfl) ?_
    refine x_get (ci := 6) C hw inX7 rfl 5 (by decide) lkF_X7_47 rfl 0 rfl rfl dX7_tellPoint_29 ?_
    refine lv_iload_n hx hb dX7_tellPoint_32 rfl (lv_at hl 1 rfl) ?_
    obtain ⟨r_1, q3, h⟩ := xn_i h
    refine x_callVi (As := [.int v1]) (rest := []) C hw gc_X7_196 ⟨rfl, rfl, ds_X0_orbit, (by rw [hR]; exact Nat.le_of_ble_eq_true rfl), (by rw [hR]; exact Nat.le_of_ble_eq_true rfl), Nat.zero_le _, Nat.zero_le _⟩ (c_X0_orbit l dC dI cI cZ cB cO (c_p 5) k_p k_n k_inOrder k_starts k_firsts k_reached k_reachedAt k_reachedCount v1 _ q3 _) [8, 9, 10, 11, 12, 13] [0, 1, 2, 3, 4, 5, 6, 7] (by decide) rfl rfl (by decide) (by decide) rfl rfl rfl hl.1 rfl (Nat.le_of_ble_eq_true rfl) dX7_tellPoint_33 (fun H locs hw => ?_)
    have hw : xWd (dC, dI) A s.heap H locs ((wC cI cZ cB cO c_ad c_p c_fits c_refusedBad c_refusedNo c_refusedFull) ++ ((wE cI cZ cB cO (c_p 4) e_p e_n e_steps e_undoing e_chains e_leaving e_found e_foundAt e_foundCount) ++ (wK cI cZ cB cO (c_p 5) k_p k_n k_inOrder k_starts k_firsts k_reached k_reachedAt k_reachedCount))) := hw
    obtain rfl := Option.some.inj h
    exact x_reti C hQ hA hw dX7_tellPoint_36
  · replace h := xb_ff b1 h
    rcases Classical.em (v2 = (1 : Int32)) with b2 | b2
    · replace h := xb_tt b2 h
      refine lv_lookup (off := 36) (tgt := 37) hx hb dX7_tellPoint_1 (by decide) ((lv_osw b1 (by decide)).trans (by rw [b2]; rfl)) (by decide) ?_
      refine lv_aload_n hx hb dX7_tellPoint_37 rfl (lv_at hl 0 rfl) ?_
      refine x_get (ci := 6) C hw inX7 rfl 4 (by decide) lkF_X7_40 rfl 0 rfl rfl dX7_tellPoint_38 ?_
      refine lv_iload_n hx hb dX7_tellPoint_41 rfl (lv_at hl 1 rfl) ?_
      obtain ⟨r_2, q4, h⟩ := xn_i h
      refine x_callVi (As := [.int v1]) (rest := []) C hw gc_X7_199 ⟨rfl, rfl, ds_X1_chain, (by rw [hR]; exact Nat.le_of_ble_eq_true rfl), (by rw [hR]; exact Nat.le_of_ble_eq_true rfl), Nat.zero_le _, Nat.zero_le _⟩ (c_X1_chain l dC dI cI cZ cB cO (c_p 4) e_p e_n e_steps e_undoing e_chains e_leaving e_found e_foundAt e_foundCount v1 _ q4 _) [1, 2, 3, 4, 5, 6, 7] [0, 8, 9, 10, 11, 12, 13] (by decide) rfl rfl (by decide) (by decide) rfl rfl rfl hl.1 rfl (Nat.le_of_ble_eq_true rfl) dX7_tellPoint_42 (fun H locs hw => ?_)
      have hw : xWd (dC, dI) A s.heap H locs ((wC cI cZ cB cO c_ad c_p c_fits c_refusedBad c_refusedNo c_refusedFull) ++ ((wE cI cZ cB cO (c_p 4) e_p e_n e_steps e_undoing e_chains e_leaving e_found e_foundAt e_foundCount) ++ (wK cI cZ cB cO (c_p 5) k_p k_n k_inOrder k_starts k_firsts k_reached k_reachedAt k_reachedCount))) := hw.sub [0, 7, 8, 9, 10, 11, 12, 13, 1, 2, 3, 4, 5, 6] (by decide) rfl
      obtain rfl := Option.some.inj h
      exact x_reti C hQ hA hw dX7_tellPoint_45
    · replace h := xb_ff b2 h
      refine lv_lookup (off := 45) (tgt := 46) hx hb dX7_tellPoint_1 (by decide) ((lv_osw b1 (by decide)).trans ((lv_osw b2 (by decide)).trans (rfl))) (by decide) ?_
      refine lv_aload_n hx hb dX7_tellPoint_46 rfl (lv_at hl 0 rfl) ?_
      refine x_get (ci := 6) C hw inX7 rfl 5 (by decide) lkF_X7_47 rfl 0 rfl rfl dX7_tellPoint_47 ?_
      refine lv_iload_n hx hb dX7_tellPoint_50 rfl (lv_at hl 1 rfl) ?_
      obtain ⟨r_3, q5, h⟩ := xn_i h
      refine x_callVi (As := [.int v1]) (rest := []) C hw gc_X7_202 ⟨rfl, rfl, ds_X0_leastPoint, (by rw [hR]; exact Nat.le_of_ble_eq_true rfl), (by rw [hR]; exact Nat.le_of_ble_eq_true rfl), Nat.zero_le _, Nat.zero_le _⟩ (c_X0_leastPoint l dC dI cI cZ cB cO (c_p 5) k_p k_n k_inOrder k_starts k_firsts k_reached k_reachedAt k_reachedCount v1 _ q5 _) [8, 9, 10, 11, 12, 13] [0, 1, 2, 3, 4, 5, 6, 7] (by decide) rfl rfl (by decide) (by decide) rfl rfl rfl hl.1 rfl (Nat.le_of_ble_eq_true rfl) dX7_tellPoint_51 (fun H locs hw => ?_)
      have hw : xWd (dC, dI) A s.heap H locs ((wC cI cZ cB cO c_ad c_p c_fits c_refusedBad c_refusedNo c_refusedFull) ++ ((wE cI cZ cB cO (c_p 4) e_p e_n e_steps e_undoing e_chains e_leaving e_found e_foundAt e_foundCount) ++ (wK cI cZ cB cO (c_p 5) k_p k_n k_inOrder k_starts k_firsts k_reached k_reachedAt k_reachedCount))) := hw
      obtain rfl := Option.some.inj h
      exact x_reti C hQ hA hw dX7_tellPoint_54
noncomputable def f_X7_tell (c_refusedBad : Int32) (c_refusedNo : Int32) (c_refusedFull : Int32) (n_n : Int32) (n_count : Int32) (z_count : Int32) (t_length : Int32) (v1 : Int32) : Option (Int32) := xb (v1 = (0 : Int32)) (some c_refusedBad) (xb (v1 = (1 : Int32)) (some c_refusedNo) (xb (v1 = (2 : Int32)) (some c_refusedFull) (xb (v1 = (3 : Int32)) (some t_length) (xb (v1 = (4 : Int32)) (some n_n) (xb (v1 = (5 : Int32)) (some n_count) (some z_count))))))
set_option maxHeartbeats 4000000 in
set_option maxRecDepth 100000 in
theorem c_X7_tell (l : Launch) (dC : Nat → ClassId) (dI : Nat → Nat → Nat) (cI cZ cB cO : ClassId) (c_ad : Nat) (c_p : Nat → Nat) (n_p : Nat → Nat) (z_p : Nat → Nat) (t_p : Nat → Nat) (c_fits : Int32) (c_refusedBad : Int32) (c_refusedNo : Int32) (c_refusedFull : Int32) (n_n : Int32) (n_count : Int32) (n_generators : (Nat → Int32)) (z_count : Int32) (z_ra : (Nat → Nat)) (z_rb : (Nat → Nat)) (z_rn : (Nat → Int32)) (z_rc : (Nat → Int32)) (z_rg : (Nat → Nat → Int32)) (t_length : Int32) (t_bytes : (Nat → Int32)) (v1 : Int32) (o : Int32) (h : f_X7_tell c_refusedBad c_refusedNo c_refusedFull n_n n_count z_count t_length v1 = some o) (sz : Nat) : Met l yX7_tell (xW yX7_tell cX7_tell 2 (some .int)) { frames := 0, cells := 0, slots := 0, locals := 0 } (xPre dC dI (xT cI cZ cB cO) [.ref c_ad, .int v1] ((wC cI cZ cB cO c_ad c_p c_fits c_refusedBad c_refusedNo c_refusedFull) ++ ((wS cI cZ cB cO (c_p 0) n_p n_n n_count n_generators) ++ ((wZ cI cZ cB cO (c_p 1) z_p z_count z_ra z_rb z_rn z_rc z_rg) ++ (wT cI cZ cB cO (c_p 2) t_p t_length t_bytes)))) sz) (xQi dC dI (xT cI cZ cB cO) o ((wC cI cZ cB cO c_ad c_p c_fits c_refusedBad c_refusedNo c_refusedFull) ++ ((wS cI cZ cB cO (c_p 0) n_p n_n n_count n_generators) ++ ((wZ cI cZ cB cO (c_p 1) z_p z_count z_ra z_rb z_rn z_rc z_rg) ++ (wT cI cZ cB cO (c_p 2) t_p t_length t_bytes)))) ((wC cI cZ cB cO c_ad c_p c_fits c_refusedBad c_refusedNo c_refusedFull) ++ ((wS cI cZ cB cO (c_p 0) n_p n_n n_count n_generators) ++ ((wZ cI cZ cB cO (c_p 1) z_p z_count z_ra z_rb z_rn z_rc z_rg) ++ (wT cI cZ cB cO (c_p 2) t_p t_length t_bytes)))) sz) 0 0 (va_A ((wC cI cZ cB cO c_ad c_p c_fits c_refusedBad c_refusedNo c_refusedFull) ++ ((wS cI cZ cB cO (c_p 0) n_p n_n n_count n_generators) ++ ((wZ cI cZ cB cO (c_p 1) z_p z_count z_ra z_rb z_rn z_rc z_rg) ++ (wT cI cZ cB cO (c_p 2) t_p t_length t_bytes)))) sz) := by
  refine x_met (by decide) (Nat.le_of_ble_eq_true rfl) ?_
  intro p e s m args below meth c R Q A hR hsz hA hQ hin C hw ls hl
  have hx := C.1
  have hb := C.2.1
  have hown := C.2.2.2.1
  have htb := C.2.2.2.2.1
  have hl : lv_has ls 2 [(0, .ref c_ad), (1, .int v1)] := hl
  refine lv_iload_n hx hb dX7_tell_0 rfl (lv_at hl 1 rfl) ?_
  rcases Classical.em (v1 = (0 : Int32)) with b1 | b1
  · replace h := xb_tt b1 h
    refine lv_tableIn (off := 39) (tgt := 40) hx hb dX7_tell_1 (by rw [b1]; decide) (by rw [b1]; decide) (by rw [b1]; rfl) (by decide) ?_
    refine lv_aload_n hx hb dX7_tell_40 rfl (lv_at hl 0 rfl) ?_
    refine x_get (ci := 6) C hw inX7 rfl 7 (by decide) lkF_X7_55 rfl 0 rfl rfl dX7_tell_41 ?_
    obtain rfl := Option.some.inj h
    exact x_reti C hQ hA hw dX7_tell_44
  · replace h := xb_ff b1 h
    rcases Classical.em (v1 = (1 : Int32)) with b2 | b2
    · replace h := xb_tt b2 h
      refine lv_tableIn (off := 44) (tgt := 45) hx hb dX7_tell_1 (by rw [b2]; decide) (by rw [b2]; decide) (by rw [b2]; rfl) (by decide) ?_
      refine lv_aload_n hx hb dX7_tell_45 rfl (lv_at hl 0 rfl) ?_
      refine x_get (ci := 6) C hw inX7 rfl 8 (by decide) lkF_X7_59 rfl 0 rfl rfl dX7_tell_46 ?_
      obtain rfl := Option.some.inj h
      exact x_reti C hQ hA hw dX7_tell_49
    · replace h := xb_ff b2 h
      rcases Classical.em (v1 = (2 : Int32)) with b3 | b3
      · replace h := xb_tt b3 h
        refine lv_tableIn (off := 49) (tgt := 50) hx hb dX7_tell_1 (by rw [b3]; decide) (by rw [b3]; decide) (by rw [b3]; rfl) (by decide) ?_
        refine lv_aload_n hx hb dX7_tell_50 rfl (lv_at hl 0 rfl) ?_
        refine x_get (ci := 6) C hw inX7 rfl 9 (by decide) lkF_X7_62 rfl 0 rfl rfl dX7_tell_51 ?_
        obtain rfl := Option.some.inj h
        exact x_reti C hQ hA hw dX7_tell_54
      · replace h := xb_ff b3 h
        rcases Classical.em (v1 = (3 : Int32)) with b4 | b4
        · replace h := xb_tt b4 h
          refine lv_tableIn (off := 54) (tgt := 55) hx hb dX7_tell_1 (by rw [b4]; decide) (by rw [b4]; decide) (by rw [b4]; rfl) (by decide) ?_
          refine lv_aload_n hx hb dX7_tell_55 rfl (lv_at hl 0 rfl) ?_
          refine x_get (ci := 6) C hw inX7 rfl 2 (by decide) lkF_X7_26 rfl 0 rfl rfl dX7_tell_56 ?_
          refine x_get (ci := 5) C hw inX6 rfl 0 (by decide) lkF_X7_147 rfl 15 rfl rfl dX7_tell_59 ?_
          obtain rfl := Option.some.inj h
          exact x_reti C hQ hA hw dX7_tell_62
        · replace h := xb_ff b4 h
          rcases Classical.em (v1 = (4 : Int32)) with b5 | b5
          · replace h := xb_tt b5 h
            refine lv_tableIn (off := 62) (tgt := 63) hx hb dX7_tell_1 (by rw [b5]; decide) (by rw [b5]; decide) (by rw [b5]; rfl) (by decide) ?_
            refine lv_aload_n hx hb dX7_tell_63 rfl (lv_at hl 0 rfl) ?_
            refine x_get (ci := 6) C hw inX7 rfl 0 (by decide) lkF_X7_10 rfl 0 rfl rfl dX7_tell_64 ?_
            refine x_get (ci := 3) C hw inX4 rfl 0 (by decide) lkF_X7_69 rfl 1 rfl rfl dX7_tell_67 ?_
            obtain rfl := Option.some.inj h
            exact x_reti C hQ hA hw dX7_tell_70
          · replace h := xb_ff b5 h
            rcases Classical.em (v1 = (5 : Int32)) with b6 | b6
            · replace h := xb_tt b6 h
              refine lv_tableIn (off := 70) (tgt := 71) hx hb dX7_tell_1 (by rw [b6]; decide) (by rw [b6]; decide) (by rw [b6]; rfl) (by decide) ?_
              refine lv_aload_n hx hb dX7_tell_71 rfl (lv_at hl 0 rfl) ?_
              refine x_get (ci := 6) C hw inX7 rfl 0 (by decide) lkF_X7_10 rfl 0 rfl rfl dX7_tell_72 ?_
              refine x_get (ci := 3) C hw inX4 rfl 1 (by decide) lkF_X7_85 rfl 1 rfl rfl dX7_tell_75 ?_
              obtain rfl := Option.some.inj h
              exact x_reti C hQ hA hw dX7_tell_78
            · replace h := xb_ff b6 h
              refine lv_tableOut (tgt := 79) hx hb dX7_tell_1 (x_tabOut (lo := 0) (hi := 5) (by intro q hq1 hq2; have e0 := x_ne b1 (a := 0) (by decide); have e1 := x_ne b2 (a := 1) (by decide); have e2 := x_ne b3 (a := 2) (by decide); have e3 := x_ne b4 (a := 3) (by decide); have e4 := x_ne b5 (a := 4) (by decide); have e5 := x_ne b6 (a := 5) (by decide); omega)) (by decide) ?_
              refine lv_aload_n hx hb dX7_tell_79 rfl (lv_at hl 0 rfl) ?_
              refine x_get (ci := 6) C hw inX7 rfl 1 (by decide) lkF_X7_19 rfl 0 rfl rfl dX7_tell_80 ?_
              refine x_get (ci := 4) C hw inX5 rfl 0 (by decide) lkF_X7_169 rfl 3 rfl rfl dX7_tell_83 ?_
              obtain rfl := Option.some.inj h
              exact x_reti C hQ hA hw dX7_tell_86
noncomputable def f_X7_points (c_fits : Int32) (c_refusedBad : Int32) (c_refusedNo : Int32) (c_refusedFull : Int32) (n_n : Int32) (n_count : Int32) (n_generators : (Nat → Int32)) (z_count : Int32) (z_ra : (Nat → Nat)) (z_rb : (Nat → Nat)) (z_rn : (Nat → Int32)) (z_rc : (Nat → Int32)) (z_rg : (Nat → Nat → Int32)) (v1 : Int32) : Option (Int32 × Int32 × Int32 × Int32 × Int32 × Int32 × Int32 × (Nat → Nat) × (Nat → Nat) × (Nat → Int32) × (Nat → Int32) × (Nat → Nat → Int32) × Int32) := xb (v1 < (1 : Int32)) (xn (f_X7_refuse c_refusedBad c_refusedNo c_refusedFull (-2 : Int32)) (fun (z : Int32 × Int32 × Int32 × Int32) => match z with | (c_refusedBad_1, c_refusedNo_2, c_refusedFull_3, r_4) => some (c_fits, c_refusedBad_1, c_refusedNo_2, c_refusedFull_3, n_n, n_count, z_count, z_ra, z_rb, z_rn, z_rc, z_rg, r_4))) (xb (v1 ≤ (8 : Int32)) (xn (f_X7_keepState c_fits n_n n_count n_generators z_count z_ra z_rb z_rn z_rc z_rg) (fun (z : Int32 × Int32 × (Nat → Nat) × (Nat → Nat) × (Nat → Int32) × (Nat → Int32) × (Nat → Nat → Int32)) => match z with | (c_fits_5, z_count_6, z_ra_7, z_rb_8, z_rn_9, z_rc_10, z_rg_11) => xn (f_X4_start n_n n_count v1) (fun (z : Int32 × Int32) => match z with | (n_n_12, n_count_13) => some (c_fits_5, c_refusedBad, c_refusedNo, c_refusedFull, n_n_12, n_count_13, z_count_6, z_ra_7, z_rb_8, z_rn_9, z_rc_10, z_rg_11, n_n)))) (xn (f_X7_refuse c_refusedBad c_refusedNo c_refusedFull (-2 : Int32)) (fun (z : Int32 × Int32 × Int32 × Int32) => match z with | (c_refusedBad_14, c_refusedNo_15, c_refusedFull_16, r_17) => some (c_fits, c_refusedBad_14, c_refusedNo_15, c_refusedFull_16, n_n, n_count, z_count, z_ra, z_rb, z_rn, z_rc, z_rg, r_17))))
set_option maxHeartbeats 4000000 in
set_option maxRecDepth 100000 in
theorem c_X7_points (l : Launch) (dC : Nat → ClassId) (dI : Nat → Nat → Nat) (cI cZ cB cO : ClassId) (c_ad : Nat) (c_p : Nat → Nat) (n_p : Nat → Nat) (z_p : Nat → Nat) (c_fits : Int32) (c_refusedBad : Int32) (c_refusedNo : Int32) (c_refusedFull : Int32) (n_n : Int32) (n_count : Int32) (n_generators : (Nat → Int32)) (z_count : Int32) (z_ra : (Nat → Nat)) (z_rb : (Nat → Nat)) (z_rn : (Nat → Int32)) (z_rc : (Nat → Int32)) (z_rg : (Nat → Nat → Int32)) (v1 : Int32) (o : Int32 × Int32 × Int32 × Int32 × Int32 × Int32 × Int32 × (Nat → Nat) × (Nat → Nat) × (Nat → Int32) × (Nat → Int32) × (Nat → Nat → Int32) × Int32) (h : f_X7_points c_fits c_refusedBad c_refusedNo c_refusedFull n_n n_count n_generators z_count z_ra z_rb z_rn z_rc z_rg v1 = some o) (sz : Nat) : Met l yX7_points (xW yX7_points cX7_points 3 (some .int)) { frames := 4, cells := 0, slots := 0, locals := 102 } (xPre dC dI (xT cI cZ cB cO) [.ref c_ad, .int v1] ((wC cI cZ cB cO c_ad c_p c_fits c_refusedBad c_refusedNo c_refusedFull) ++ ((wS cI cZ cB cO (c_p 0) n_p n_n n_count n_generators) ++ (wZ cI cZ cB cO (c_p 1) z_p z_count z_ra z_rb z_rn z_rc z_rg))) sz) (xQi dC dI (xT cI cZ cB cO) o.2.2.2.2.2.2.2.2.2.2.2.2 ((wC cI cZ cB cO c_ad c_p c_fits c_refusedBad c_refusedNo c_refusedFull) ++ ((wS cI cZ cB cO (c_p 0) n_p n_n n_count n_generators) ++ (wZ cI cZ cB cO (c_p 1) z_p z_count z_ra z_rb z_rn z_rc z_rg))) ((wC cI cZ cB cO c_ad c_p o.1 o.2.1 o.2.2.1 o.2.2.2.1) ++ ((wS cI cZ cB cO (c_p 0) n_p o.2.2.2.2.1 o.2.2.2.2.2.1 n_generators) ++ (wZ cI cZ cB cO (c_p 1) z_p o.2.2.2.2.2.2.1 o.2.2.2.2.2.2.2.1 o.2.2.2.2.2.2.2.2.1 o.2.2.2.2.2.2.2.2.2.1 o.2.2.2.2.2.2.2.2.2.2.1 o.2.2.2.2.2.2.2.2.2.2.2.1))) sz) 0 0 (va_A ((wC cI cZ cB cO c_ad c_p c_fits c_refusedBad c_refusedNo c_refusedFull) ++ ((wS cI cZ cB cO (c_p 0) n_p n_n n_count n_generators) ++ (wZ cI cZ cB cO (c_p 1) z_p z_count z_ra z_rb z_rn z_rc z_rg))) sz) := by
  refine x_met (by decide) (Nat.le_of_ble_eq_true rfl) ?_
  intro p e s m args below meth c R Q A hR hsz hA hQ hin C hw ls hl
  have hx := C.1
  have hb := C.2.1
  have hown := C.2.2.2.1
  have htb := C.2.2.2.2.1
  have hl : lv_has ls 3 [(0, .ref c_ad), (1, .int v1)] := hl
  refine lv_iload_n hx hb dX7_points_0 rfl (lv_at hl 1 rfl) ?_
  refine lv_iconst (v := (1 : Int32)) hx hb dX7_points_1 (by decide) ?_
  refine lv_icmp_lt (tgt := 11) hx hb dX7_points_2 (by decide) (fun b1 => ?_) (fun b1 => ?_)
  · replace h := xb_tt b1 h
    refine lv_aload_n hx hb dX7_points_11 rfl (lv_at hl 0 rfl) ?_
    refine lv_bipush (v := (-2 : Int32)) hx hb dX7_points_12 (by decide) ?_
    obtain ⟨⟨c_refusedBad_1, c_refusedNo_2, c_refusedFull_3, r_4⟩, q2, h⟩ := xn_i h
    refine x_callVi (As := [.int (-2 : Int32)]) (rest := []) C hw gc_X7_65 ⟨rfl, rfl, ds_X7_refuse, (by rw [hR]; exact Nat.le_of_ble_eq_true rfl), (by rw [hR]; exact Nat.le_of_ble_eq_true rfl), Nat.zero_le _, Nat.zero_le _⟩ (c_X7_refuse l dC dI cI cZ cB cO c_ad c_p c_fits c_refusedBad c_refusedNo c_refusedFull (-2 : Int32) _ q2 _) [0] [1, 2, 3, 4, 5, 6, 7, 8, 9, 10, 11, 12, 13, 14] (by decide) rfl rfl (by decide) (by decide) rfl rfl rfl hl.1 rfl (Nat.le_of_ble_eq_true rfl) dX7_points_14 (fun H locs hw => ?_)
    have hw : xWd (dC, dI) A s.heap H locs ((wC cI cZ cB cO c_ad c_p c_fits c_refusedBad_1 c_refusedNo_2 c_refusedFull_3) ++ ((wS cI cZ cB cO (c_p 0) n_p n_n n_count n_generators) ++ (wZ cI cZ cB cO (c_p 1) z_p z_count z_ra z_rb z_rn z_rc z_rg))) := hw.sub [14, 0, 1, 2, 3, 4, 5, 6, 7, 8, 9, 10, 11, 12, 13] (by decide) rfl
    obtain rfl := Option.some.inj h
    exact x_reti C hQ hA hw dX7_points_17
  · replace h := xb_ff b1 h
    refine lv_iload_n hx hb dX7_points_5 rfl (lv_at hl 1 rfl) ?_
    refine lv_bipush (v := (8 : Int32)) hx hb dX7_points_6 (by decide) ?_
    refine lv_icmp_le (tgt := 18) hx hb dX7_points_8 (by decide) (fun b3 => ?_) (fun b3 => ?_)
    · replace h := xb_tt b3 h
      refine lv_aload_n hx hb dX7_points_18 rfl (lv_at hl 0 rfl) ?_
      refine x_get (ci := 6) C hw inX7 rfl 0 (by decide) lkF_X7_10 rfl 0 rfl rfl dX7_points_19 ?_
      refine x_get (ci := 3) C hw inX4 rfl 0 (by decide) lkF_X7_69 rfl 1 rfl rfl dX7_points_22 ?_
      refine lv_istore_n (lv' := [(2, .int n_n), (0, .ref c_ad), (1, .int v1)]) hx hb dX7_points_25 rfl hl (by decide) rfl (fun ls hl => ?_)
      refine lv_aload_n hx hb dX7_points_26 rfl (lv_at hl 1 rfl) ?_
      obtain ⟨⟨c_fits_5, z_count_6, z_ra_7, z_rb_8, z_rn_9, z_rc_10, z_rg_11⟩, q4, h⟩ := xn_i h
      refine x_callVv (As := []) (rest := []) C hw gc_X7_72 ⟨rfl, rfl, ds_X7_keepState, (by rw [hR]; exact Nat.le_of_ble_eq_true rfl), (by rw [hR]; exact Nat.le_of_ble_eq_true rfl), Nat.zero_le _, Nat.zero_le _⟩ (c_X7_keepState l dC dI cI cZ cB cO c_ad c_p n_p z_p c_fits c_refusedBad c_refusedNo c_refusedFull n_n n_count n_generators z_count z_ra z_rb z_rn z_rc z_rg _ q4 _) [0, 1, 2, 3, 4, 5, 6, 7, 8, 9, 10, 11, 12, 13, 14] [] (by decide) rfl rfl (by decide) (by decide) rfl rfl rfl hl.1 rfl (Nat.le_of_ble_eq_true rfl) dX7_points_27 (fun H locs hw => ?_)
      have hw : xWd (dC, dI) A s.heap H locs ((wC cI cZ cB cO c_ad c_p c_fits_5 c_refusedBad c_refusedNo c_refusedFull) ++ ((wS cI cZ cB cO (c_p 0) n_p n_n n_count n_generators) ++ (wZ cI cZ cB cO (c_p 1) z_p z_count_6 z_ra_7 z_rb_8 z_rn_9 z_rc_10 z_rg_11))) := hw
      refine lv_aload_n hx hb dX7_points_30 rfl (lv_at hl 1 rfl) ?_
      refine x_get (ci := 6) C hw inX7 rfl 0 (by decide) lkF_X7_10 rfl 0 rfl rfl dX7_points_31 ?_
      refine lv_iload_n hx hb dX7_points_34 rfl (lv_at hl 2 rfl) ?_
      obtain ⟨⟨n_n_12, n_count_13⟩, q5, h⟩ := xn_i h
      refine x_callVv (As := [.int v1]) (rest := []) C hw gc_X7_75 ⟨rfl, rfl, ds_X4_start, (by rw [hR]; exact Nat.le_of_ble_eq_true rfl), (by rw [hR]; exact Nat.le_of_ble_eq_true rfl), Nat.zero_le _, Nat.zero_le _⟩ (c_X4_start l dC dI cI cZ cB cO (c_p 0) n_p n_n n_count n_generators v1 _ q5 _) [1, 2] [0, 3, 4, 5, 6, 7, 8, 9, 10, 11, 12, 13, 14] (by decide) rfl rfl (by decide) (by decide) rfl rfl rfl hl.1 rfl (Nat.le_of_ble_eq_true rfl) dX7_points_35 (fun H locs hw => ?_)
      have hw : xWd (dC, dI) A s.heap H locs ((wC cI cZ cB cO c_ad c_p c_fits_5 c_refusedBad c_refusedNo c_refusedFull) ++ ((wS cI cZ cB cO (c_p 0) n_p n_n_12 n_count_13 n_generators) ++ (wZ cI cZ cB cO (c_p 1) z_p z_count_6 z_ra_7 z_rb_8 z_rn_9 z_rc_10 z_rg_11))) := hw.sub [0, 13, 14, 1, 2, 3, 4, 5, 6, 7, 8, 9, 10, 11, 12] (by decide) rfl
      refine lv_iload_n hx hb dX7_points_38 rfl (lv_at hl 0 rfl) ?_
      obtain rfl := Option.some.inj h
      exact x_reti C hQ hA hw dX7_points_39
    · replace h := xb_ff b3 h
      refine lv_aload_n hx hb dX7_points_11 rfl (lv_at hl 0 rfl) ?_
      refine lv_bipush (v := (-2 : Int32)) hx hb dX7_points_12 (by decide) ?_
      obtain ⟨⟨c_refusedBad_14, c_refusedNo_15, c_refusedFull_16, r_17⟩, q6, h⟩ := xn_i h
      refine x_callVi (As := [.int (-2 : Int32)]) (rest := []) C hw gc_X7_65 ⟨rfl, rfl, ds_X7_refuse, (by rw [hR]; exact Nat.le_of_ble_eq_true rfl), (by rw [hR]; exact Nat.le_of_ble_eq_true rfl), Nat.zero_le _, Nat.zero_le _⟩ (c_X7_refuse l dC dI cI cZ cB cO c_ad c_p c_fits c_refusedBad c_refusedNo c_refusedFull (-2 : Int32) _ q6 _) [0] [1, 2, 3, 4, 5, 6, 7, 8, 9, 10, 11, 12, 13, 14] (by decide) rfl rfl (by decide) (by decide) rfl rfl rfl hl.1 rfl (Nat.le_of_ble_eq_true rfl) dX7_points_14 (fun H locs hw => ?_)
      have hw : xWd (dC, dI) A s.heap H locs ((wC cI cZ cB cO c_ad c_p c_fits c_refusedBad_14 c_refusedNo_15 c_refusedFull_16) ++ ((wS cI cZ cB cO (c_p 0) n_p n_n n_count n_generators) ++ (wZ cI cZ cB cO (c_p 1) z_p z_count z_ra z_rb z_rn z_rc z_rg))) := hw.sub [14, 0, 1, 2, 3, 4, 5, 6, 7, 8, 9, 10, 11, 12, 13] (by decide) rfl
      obtain rfl := Option.some.inj h
      exact x_reti C hQ hA hw dX7_points_17
noncomputable def f_X7_moves (c_fits : Int32) (c_refusedBad : Int32) (c_refusedNo : Int32) (c_refusedFull : Int32) (n_n : Int32) (n_count : Int32) (n_generators : (Nat → Int32)) (z_count : Int32) (z_ra : (Nat → Nat)) (z_rb : (Nat → Nat)) (z_rn : (Nat → Int32)) (z_rc : (Nat → Int32)) (z_rg : (Nat → Nat → Int32)) (v1 : Int32) : Option (Int32 × Int32 × Int32 × Int32 × Int32 × (Nat → Int32) × Int32 × (Nat → Nat) × (Nat → Nat) × (Nat → Int32) × (Nat → Int32) × (Nat → Nat → Int32) × Int32) := xn (f_X2_read v1 n_n) (fun (r_1 : Int32) => xb (r_1 = (-1 : Int32)) (xn (f_X7_refuse c_refusedBad c_refusedNo c_refusedFull (-2 : Int32)) (fun (z : Int32 × Int32 × Int32 × Int32) => match z with | (c_refusedBad_16, c_refusedNo_17, c_refusedFull_18, r_19) => some (c_fits, c_refusedBad_16, c_refusedNo_17, c_refusedFull_18, n_count, n_generators, z_count, z_ra, z_rb, z_rn, z_rc, z_rg, r_19))) (xb (n_count < (3 : Int32)) (xn (f_X7_keepState c_fits n_n n_count n_generators z_count z_ra z_rb z_rn z_rc z_rg) (fun (z : Int32 × Int32 × (Nat → Nat) × (Nat → Nat) × (Nat → Int32) × (Nat → Int32) × (Nat → Nat → Int32)) => match z with | (c_fits_2, z_count_3, z_ra_4, z_rb_5, z_rn_6, z_rc_7, z_rg_8) => xn (f_X4_adds n_count n_generators r_1) (fun (z : Int32 × (Nat → Int32) × Int32) => match z with | (n_count_9, n_generators_10, r_11) => some (c_fits_2, c_refusedBad, c_refusedNo, c_refusedFull, n_count_9, n_generators_10, z_count_3, z_ra_4, z_rb_5, z_rn_6, z_rc_7, z_rg_8, (n_count_9 - (1 : Int32)))))) (xn (f_X7_refuse c_refusedBad c_refusedNo c_refusedFull (-4 : Int32)) (fun (z : Int32 × Int32 × Int32 × Int32) => match z with | (c_refusedBad_12, c_refusedNo_13, c_refusedFull_14, r_15) => some (c_fits, c_refusedBad_12, c_refusedNo_13, c_refusedFull_14, n_count, n_generators, z_count, z_ra, z_rb, z_rn, z_rc, z_rg, r_15)))))
set_option maxHeartbeats 4000000 in
set_option maxRecDepth 100000 in
theorem c_X7_moves (l : Launch) (dC : Nat → ClassId) (dI : Nat → Nat → Nat) (cI cZ cB cO : ClassId) (c_ad : Nat) (c_p : Nat → Nat) (n_p : Nat → Nat) (z_p : Nat → Nat) (c_fits : Int32) (c_refusedBad : Int32) (c_refusedNo : Int32) (c_refusedFull : Int32) (n_n : Int32) (n_count : Int32) (n_generators : (Nat → Int32)) (z_count : Int32) (z_ra : (Nat → Nat)) (z_rb : (Nat → Nat)) (z_rn : (Nat → Int32)) (z_rc : (Nat → Int32)) (z_rg : (Nat → Nat → Int32)) (v1 : Int32) (o : Int32 × Int32 × Int32 × Int32 × Int32 × (Nat → Int32) × Int32 × (Nat → Nat) × (Nat → Nat) × (Nat → Int32) × (Nat → Int32) × (Nat → Nat → Int32) × Int32) (h : f_X7_moves c_fits c_refusedBad c_refusedNo c_refusedFull n_n n_count n_generators z_count z_ra z_rb z_rn z_rc z_rg v1 = some o) (sz : Nat) : Met l yX7_moves (xW yX7_moves cX7_moves 3 (some .int)) { frames := 4, cells := 0, slots := 0, locals := 102 } (xPre dC dI (xT cI cZ cB cO) [.ref c_ad, .int v1] ((wC cI cZ cB cO c_ad c_p c_fits c_refusedBad c_refusedNo c_refusedFull) ++ ((wS cI cZ cB cO (c_p 0) n_p n_n n_count n_generators) ++ (wZ cI cZ cB cO (c_p 1) z_p z_count z_ra z_rb z_rn z_rc z_rg))) sz) (xQi dC dI (xT cI cZ cB cO) o.2.2.2.2.2.2.2.2.2.2.2.2 ((wC cI cZ cB cO c_ad c_p c_fits c_refusedBad c_refusedNo c_refusedFull) ++ ((wS cI cZ cB cO (c_p 0) n_p n_n n_count n_generators) ++ (wZ cI cZ cB cO (c_p 1) z_p z_count z_ra z_rb z_rn z_rc z_rg))) ((wC cI cZ cB cO c_ad c_p o.1 o.2.1 o.2.2.1 o.2.2.2.1) ++ ((wS cI cZ cB cO (c_p 0) n_p n_n o.2.2.2.2.1 o.2.2.2.2.2.1) ++ (wZ cI cZ cB cO (c_p 1) z_p o.2.2.2.2.2.2.1 o.2.2.2.2.2.2.2.1 o.2.2.2.2.2.2.2.2.1 o.2.2.2.2.2.2.2.2.2.1 o.2.2.2.2.2.2.2.2.2.2.1 o.2.2.2.2.2.2.2.2.2.2.2.1))) sz) 0 0 (va_A ((wC cI cZ cB cO c_ad c_p c_fits c_refusedBad c_refusedNo c_refusedFull) ++ ((wS cI cZ cB cO (c_p 0) n_p n_n n_count n_generators) ++ (wZ cI cZ cB cO (c_p 1) z_p z_count z_ra z_rb z_rn z_rc z_rg))) sz) := by
  refine x_met (by decide) (Nat.le_of_ble_eq_true rfl) ?_
  intro p e s m args below meth c R Q A hR hsz hA hQ hin C hw ls hl
  have hx := C.1
  have hb := C.2.1
  have hown := C.2.2.2.1
  have htb := C.2.2.2.2.1
  have hl : lv_has ls 3 [(0, .ref c_ad), (1, .int v1)] := hl
  refine lv_iload_n hx hb dX7_moves_0 rfl (lv_at hl 1 rfl) ?_
  refine lv_aload_n hx hb dX7_moves_1 rfl (lv_at hl 0 rfl) ?_
  refine x_get (ci := 6) C hw inX7 rfl 0 (by decide) lkF_X7_10 rfl 0 rfl rfl dX7_moves_2 ?_
  refine x_get (ci := 3) C hw inX4 rfl 0 (by decide) lkF_X7_69 rfl 1 rfl rfl dX7_moves_5 ?_
  obtain ⟨r_1, q1, h⟩ := xn_i h
  refine x_callSi (As := [.int v1, .int n_n]) (rest := []) C hw gc_X7_79 ds_X2_read (by rw [hR]; exact Nat.le_of_ble_eq_true rfl) (by rw [hR]; exact Nat.le_of_ble_eq_true rfl) rfl rfl (Nat.zero_le _) (Nat.zero_le _) (c_X2_read l dC dI cI cZ cB cO v1 n_n _ q1 _) [] [0, 1, 2, 3, 4, 5, 6, 7, 8, 9, 10, 11, 12, 13, 14] (by decide) rfl rfl (by decide) (by decide) rfl hl.1 rfl (Nat.le_of_ble_eq_true rfl) dX7_moves_8 (fun H locs hw => ?_)
  have hw : xWd (dC, dI) A s.heap H locs ((wC cI cZ cB cO c_ad c_p c_fits c_refusedBad c_refusedNo c_refusedFull) ++ ((wS cI cZ cB cO (c_p 0) n_p n_n n_count n_generators) ++ (wZ cI cZ cB cO (c_p 1) z_p z_count z_ra z_rb z_rn z_rc z_rg))) := hw.sub [0, 1, 2, 3, 4, 5, 6, 7, 8, 9, 10, 11, 12, 13, 14] (by decide) rfl
  refine lv_istore_n (lv' := [(2, .int r_1), (0, .ref c_ad), (1, .int v1)]) hx hb dX7_moves_11 rfl hl (by decide) rfl (fun ls hl => ?_)
  refine lv_iload_n hx hb dX7_moves_12 rfl (lv_at hl 0 rfl) ?_
  refine lv_iconst (v := (-1 : Int32)) hx hb dX7_moves_13 (by decide) ?_
  refine lv_icmp_ne (tgt := 24) hx hb dX7_moves_14 (by decide) (fun b2 => ?_) (fun b2 => ?_)
  · replace h := xb_ff b2 h
    refine lv_aload_n hx hb dX7_moves_24 rfl (lv_at hl 1 rfl) ?_
    refine x_get (ci := 6) C hw inX7 rfl 0 (by decide) lkF_X7_10 rfl 0 rfl rfl dX7_moves_25 ?_
    refine x_get (ci := 3) C hw inX4 rfl 1 (by decide) lkF_X7_85 rfl 1 rfl rfl dX7_moves_28 ?_
    refine lv_iconst (v := (3 : Int32)) hx hb dX7_moves_31 (by decide) ?_
    refine lv_icmp_lt (tgt := 42) hx hb dX7_moves_32 (by decide) (fun b3 => ?_) (fun b3 => ?_)
    · replace h := xb_tt b3 h
      refine lv_aload_n hx hb dX7_moves_42 rfl (lv_at hl 1 rfl) ?_
      obtain ⟨⟨c_fits_2, z_count_3, z_ra_4, z_rb_5, z_rn_6, z_rc_7, z_rg_8⟩, q4, h⟩ := xn_i h
      refine x_callVv (As := []) (rest := []) C hw gc_X7_72 ⟨rfl, rfl, ds_X7_keepState, (by rw [hR]; exact Nat.le_of_ble_eq_true rfl), (by rw [hR]; exact Nat.le_of_ble_eq_true rfl), Nat.zero_le _, Nat.zero_le _⟩ (c_X7_keepState l dC dI cI cZ cB cO c_ad c_p n_p z_p c_fits c_refusedBad c_refusedNo c_refusedFull n_n n_count n_generators z_count z_ra z_rb z_rn z_rc z_rg _ q4 _) [0, 1, 2, 3, 4, 5, 6, 7, 8, 9, 10, 11, 12, 13, 14] [] (by decide) rfl rfl (by decide) (by decide) rfl rfl rfl hl.1 rfl (Nat.le_of_ble_eq_true rfl) dX7_moves_43 (fun H locs hw => ?_)
      have hw : xWd (dC, dI) A s.heap H locs ((wC cI cZ cB cO c_ad c_p c_fits_2 c_refusedBad c_refusedNo c_refusedFull) ++ ((wS cI cZ cB cO (c_p 0) n_p n_n n_count n_generators) ++ (wZ cI cZ cB cO (c_p 1) z_p z_count_3 z_ra_4 z_rb_5 z_rn_6 z_rc_7 z_rg_8))) := hw
      refine lv_aload_n hx hb dX7_moves_46 rfl (lv_at hl 1 rfl) ?_
      refine x_get (ci := 6) C hw inX7 rfl 0 (by decide) lkF_X7_10 rfl 0 rfl rfl dX7_moves_47 ?_
      refine lv_iload_n hx hb dX7_moves_50 rfl (lv_at hl 0 rfl) ?_
      obtain ⟨⟨n_count_9, n_generators_10, r_11⟩, q5, h⟩ := xn_i h
      refine x_callVi (As := [.int r_1]) (rest := []) C hw gc_X7_88 ⟨rfl, rfl, ds_X4_adds, (by rw [hR]; exact Nat.le_of_ble_eq_true rfl), (by rw [hR]; exact Nat.le_of_ble_eq_true rfl), Nat.zero_le _, Nat.zero_le _⟩ (c_X4_adds l dC dI cI cZ cB cO (c_p 0) n_p n_n n_count n_generators r_1 _ q5 _) [1, 2] [0, 3, 4, 5, 6, 7, 8, 9, 10, 11, 12, 13, 14] (by decide) rfl rfl (by decide) (by decide) rfl rfl rfl hl.1 rfl (Nat.le_of_ble_eq_true rfl) dX7_moves_51 (fun H locs hw => ?_)
      have hw : xWd (dC, dI) A s.heap H locs ((wC cI cZ cB cO c_ad c_p c_fits_2 c_refusedBad c_refusedNo c_refusedFull) ++ ((wS cI cZ cB cO (c_p 0) n_p n_n n_count_9 n_generators_10) ++ (wZ cI cZ cB cO (c_p 1) z_p z_count_3 z_ra_4 z_rb_5 z_rn_6 z_rc_7 z_rg_8))) := hw.sub [0, 13, 14, 1, 2, 3, 4, 5, 6, 7, 8, 9, 10, 11, 12] (by decide) rfl
      refine lv_pop hx hb dX7_moves_54 rfl ?_
      refine lv_aload_n hx hb dX7_moves_55 rfl (lv_at hl 1 rfl) ?_
      refine x_get (ci := 6) C hw inX7 rfl 0 (by decide) lkF_X7_10 rfl 0 rfl rfl dX7_moves_56 ?_
      refine x_get (ci := 3) C hw inX4 rfl 1 (by decide) lkF_X7_85 rfl 1 rfl rfl dX7_moves_59 ?_
      refine lv_iconst (v := (1 : Int32)) hx hb dX7_moves_62 (by decide) ?_
      refine lv_isub hx hb dX7_moves_63 ?_
      obtain rfl := Option.some.inj h
      exact x_reti C hQ hA hw dX7_moves_64
    · replace h := xb_ff b3 h
      refine lv_aload_n hx hb dX7_moves_35 rfl (lv_at hl 1 rfl) ?_
      refine lv_bipush (v := (-4 : Int32)) hx hb dX7_moves_36 (by decide) ?_
      obtain ⟨⟨c_refusedBad_12, c_refusedNo_13, c_refusedFull_14, r_15⟩, q6, h⟩ := xn_i h
      refine x_callVi (As := [.int (-4 : Int32)]) (rest := []) C hw gc_X7_65 ⟨rfl, rfl, ds_X7_refuse, (by rw [hR]; exact Nat.le_of_ble_eq_true rfl), (by rw [hR]; exact Nat.le_of_ble_eq_true rfl), Nat.zero_le _, Nat.zero_le _⟩ (c_X7_refuse l dC dI cI cZ cB cO c_ad c_p c_fits c_refusedBad c_refusedNo c_refusedFull (-4 : Int32) _ q6 _) [0] [1, 2, 3, 4, 5, 6, 7, 8, 9, 10, 11, 12, 13, 14] (by decide) rfl rfl (by decide) (by decide) rfl rfl rfl hl.1 rfl (Nat.le_of_ble_eq_true rfl) dX7_moves_38 (fun H locs hw => ?_)
      have hw : xWd (dC, dI) A s.heap H locs ((wC cI cZ cB cO c_ad c_p c_fits c_refusedBad_12 c_refusedNo_13 c_refusedFull_14) ++ ((wS cI cZ cB cO (c_p 0) n_p n_n n_count n_generators) ++ (wZ cI cZ cB cO (c_p 1) z_p z_count z_ra z_rb z_rn z_rc z_rg))) := hw.sub [14, 0, 1, 2, 3, 4, 5, 6, 7, 8, 9, 10, 11, 12, 13] (by decide) rfl
      obtain rfl := Option.some.inj h
      exact x_reti C hQ hA hw dX7_moves_41
  · replace h := xb_tt b2 h
    refine lv_aload_n hx hb dX7_moves_17 rfl (lv_at hl 1 rfl) ?_
    refine lv_bipush (v := (-2 : Int32)) hx hb dX7_moves_18 (by decide) ?_
    obtain ⟨⟨c_refusedBad_16, c_refusedNo_17, c_refusedFull_18, r_19⟩, q7, h⟩ := xn_i h
    refine x_callVi (As := [.int (-2 : Int32)]) (rest := []) C hw gc_X7_65 ⟨rfl, rfl, ds_X7_refuse, (by rw [hR]; exact Nat.le_of_ble_eq_true rfl), (by rw [hR]; exact Nat.le_of_ble_eq_true rfl), Nat.zero_le _, Nat.zero_le _⟩ (c_X7_refuse l dC dI cI cZ cB cO c_ad c_p c_fits c_refusedBad c_refusedNo c_refusedFull (-2 : Int32) _ q7 _) [0] [1, 2, 3, 4, 5, 6, 7, 8, 9, 10, 11, 12, 13, 14] (by decide) rfl rfl (by decide) (by decide) rfl rfl rfl hl.1 rfl (Nat.le_of_ble_eq_true rfl) dX7_moves_20 (fun H locs hw => ?_)
    have hw : xWd (dC, dI) A s.heap H locs ((wC cI cZ cB cO c_ad c_p c_fits c_refusedBad_16 c_refusedNo_17 c_refusedFull_18) ++ ((wS cI cZ cB cO (c_p 0) n_p n_n n_count n_generators) ++ (wZ cI cZ cB cO (c_p 1) z_p z_count z_ra z_rb z_rn z_rc z_rg))) := hw.sub [14, 0, 1, 2, 3, 4, 5, 6, 7, 8, 9, 10, 11, 12, 13] (by decide) rfl
    obtain rfl := Option.some.inj h
    exact x_reti C hQ hA hw dX7_moves_23
noncomputable def f_X7_drops (c_fits : Int32) (c_refusedBad : Int32) (c_refusedNo : Int32) (c_refusedFull : Int32) (n_n : Int32) (n_count : Int32) (n_generators : (Nat → Int32)) (z_count : Int32) (z_ra : (Nat → Nat)) (z_rb : (Nat → Nat)) (z_rn : (Nat → Int32)) (z_rc : (Nat → Int32)) (z_rg : (Nat → Nat → Int32)) (v1 : Int32) : Option (Int32 × Int32 × Int32 × Int32 × Int32 × (Nat → Int32) × Int32 × (Nat → Nat) × (Nat → Nat) × (Nat → Int32) × (Nat → Int32) × (Nat → Nat → Int32) × Int32) := xb (v1 < 0) (xn (f_X7_refuse c_refusedBad c_refusedNo c_refusedFull (-2 : Int32)) (fun (z : Int32 × Int32 × Int32 × Int32) => match z with | (c_refusedBad_1, c_refusedNo_2, c_refusedFull_3, r_4) => some (c_fits, c_refusedBad_1, c_refusedNo_2, c_refusedFull_3, n_count, n_generators, z_count, z_ra, z_rb, z_rn, z_rc, z_rg, r_4))) (xb (v1 < n_count) (xn (f_X7_keepState c_fits n_n n_count n_generators z_count z_ra z_rb z_rn z_rc z_rg) (fun (z : Int32 × Int32 × (Nat → Nat) × (Nat → Nat) × (Nat → Int32) × (Nat → Int32) × (Nat → Nat → Int32)) => match z with | (c_fits_5, z_count_6, z_ra_7, z_rb_8, z_rn_9, z_rc_10, z_rg_11) => xn (f_X4_loses n_count n_generators v1) (fun (z : Int32 × (Nat → Int32) × Int32) => match z with | (n_count_12, n_generators_13, r_14) => some (c_fits_5, c_refusedBad, c_refusedNo, c_refusedFull, n_count_12, n_generators_13, z_count_6, z_ra_7, z_rb_8, z_rn_9, z_rc_10, z_rg_11, n_count_12)))) (xn (f_X7_refuse c_refusedBad c_refusedNo c_refusedFull (-2 : Int32)) (fun (z : Int32 × Int32 × Int32 × Int32) => match z with | (c_refusedBad_15, c_refusedNo_16, c_refusedFull_17, r_18) => some (c_fits, c_refusedBad_15, c_refusedNo_16, c_refusedFull_17, n_count, n_generators, z_count, z_ra, z_rb, z_rn, z_rc, z_rg, r_18))))
set_option maxHeartbeats 4000000 in
set_option maxRecDepth 100000 in
theorem c_X7_drops (l : Launch) (dC : Nat → ClassId) (dI : Nat → Nat → Nat) (cI cZ cB cO : ClassId) (c_ad : Nat) (c_p : Nat → Nat) (n_p : Nat → Nat) (z_p : Nat → Nat) (c_fits : Int32) (c_refusedBad : Int32) (c_refusedNo : Int32) (c_refusedFull : Int32) (n_n : Int32) (n_count : Int32) (n_generators : (Nat → Int32)) (z_count : Int32) (z_ra : (Nat → Nat)) (z_rb : (Nat → Nat)) (z_rn : (Nat → Int32)) (z_rc : (Nat → Int32)) (z_rg : (Nat → Nat → Int32)) (v1 : Int32) (o : Int32 × Int32 × Int32 × Int32 × Int32 × (Nat → Int32) × Int32 × (Nat → Nat) × (Nat → Nat) × (Nat → Int32) × (Nat → Int32) × (Nat → Nat → Int32) × Int32) (h : f_X7_drops c_fits c_refusedBad c_refusedNo c_refusedFull n_n n_count n_generators z_count z_ra z_rb z_rn z_rc z_rg v1 = some o) (sz : Nat) : Met l yX7_drops (xW yX7_drops cX7_drops 2 (some .int)) { frames := 4, cells := 0, slots := 0, locals := 102 } (xPre dC dI (xT cI cZ cB cO) [.ref c_ad, .int v1] ((wC cI cZ cB cO c_ad c_p c_fits c_refusedBad c_refusedNo c_refusedFull) ++ ((wS cI cZ cB cO (c_p 0) n_p n_n n_count n_generators) ++ (wZ cI cZ cB cO (c_p 1) z_p z_count z_ra z_rb z_rn z_rc z_rg))) sz) (xQi dC dI (xT cI cZ cB cO) o.2.2.2.2.2.2.2.2.2.2.2.2 ((wC cI cZ cB cO c_ad c_p c_fits c_refusedBad c_refusedNo c_refusedFull) ++ ((wS cI cZ cB cO (c_p 0) n_p n_n n_count n_generators) ++ (wZ cI cZ cB cO (c_p 1) z_p z_count z_ra z_rb z_rn z_rc z_rg))) ((wC cI cZ cB cO c_ad c_p o.1 o.2.1 o.2.2.1 o.2.2.2.1) ++ ((wS cI cZ cB cO (c_p 0) n_p n_n o.2.2.2.2.1 o.2.2.2.2.2.1) ++ (wZ cI cZ cB cO (c_p 1) z_p o.2.2.2.2.2.2.1 o.2.2.2.2.2.2.2.1 o.2.2.2.2.2.2.2.2.1 o.2.2.2.2.2.2.2.2.2.1 o.2.2.2.2.2.2.2.2.2.2.1 o.2.2.2.2.2.2.2.2.2.2.2.1))) sz) 0 0 (va_A ((wC cI cZ cB cO c_ad c_p c_fits c_refusedBad c_refusedNo c_refusedFull) ++ ((wS cI cZ cB cO (c_p 0) n_p n_n n_count n_generators) ++ (wZ cI cZ cB cO (c_p 1) z_p z_count z_ra z_rb z_rn z_rc z_rg))) sz) := by
  refine x_met (by decide) (Nat.le_of_ble_eq_true rfl) ?_
  intro p e s m args below meth c R Q A hR hsz hA hQ hin C hw ls hl
  have hx := C.1
  have hb := C.2.1
  have hown := C.2.2.2.1
  have htb := C.2.2.2.2.1
  have hl : lv_has ls 2 [(0, .ref c_ad), (1, .int v1)] := hl
  refine lv_iload_n hx hb dX7_drops_0 rfl (lv_at hl 1 rfl) ?_
  refine lv_if_lt (tgt := 15) hx hb dX7_drops_1 (by decide) (fun b1 => ?_) (fun b1 => ?_)
  · replace h := xb_tt b1 h
    refine lv_aload_n hx hb dX7_drops_15 rfl (lv_at hl 0 rfl) ?_
    refine lv_bipush (v := (-2 : Int32)) hx hb dX7_drops_16 (by decide) ?_
    obtain ⟨⟨c_refusedBad_1, c_refusedNo_2, c_refusedFull_3, r_4⟩, q2, h⟩ := xn_i h
    refine x_callVi (As := [.int (-2 : Int32)]) (rest := []) C hw gc_X7_65 ⟨rfl, rfl, ds_X7_refuse, (by rw [hR]; exact Nat.le_of_ble_eq_true rfl), (by rw [hR]; exact Nat.le_of_ble_eq_true rfl), Nat.zero_le _, Nat.zero_le _⟩ (c_X7_refuse l dC dI cI cZ cB cO c_ad c_p c_fits c_refusedBad c_refusedNo c_refusedFull (-2 : Int32) _ q2 _) [0] [1, 2, 3, 4, 5, 6, 7, 8, 9, 10, 11, 12, 13, 14] (by decide) rfl rfl (by decide) (by decide) rfl rfl rfl hl.1 rfl (Nat.le_of_ble_eq_true rfl) dX7_drops_18 (fun H locs hw => ?_)
    have hw : xWd (dC, dI) A s.heap H locs ((wC cI cZ cB cO c_ad c_p c_fits c_refusedBad_1 c_refusedNo_2 c_refusedFull_3) ++ ((wS cI cZ cB cO (c_p 0) n_p n_n n_count n_generators) ++ (wZ cI cZ cB cO (c_p 1) z_p z_count z_ra z_rb z_rn z_rc z_rg))) := hw.sub [14, 0, 1, 2, 3, 4, 5, 6, 7, 8, 9, 10, 11, 12, 13] (by decide) rfl
    obtain rfl := Option.some.inj h
    exact x_reti C hQ hA hw dX7_drops_21
  · replace h := xb_ff b1 h
    refine lv_iload_n hx hb dX7_drops_4 rfl (lv_at hl 1 rfl) ?_
    refine lv_aload_n hx hb dX7_drops_5 rfl (lv_at hl 0 rfl) ?_
    refine x_get (ci := 6) C hw inX7 rfl 0 (by decide) lkF_X7_10 rfl 0 rfl rfl dX7_drops_6 ?_
    refine x_get (ci := 3) C hw inX4 rfl 1 (by decide) lkF_X7_85 rfl 1 rfl rfl dX7_drops_9 ?_
    refine lv_icmp_lt (tgt := 22) hx hb dX7_drops_12 (by decide) (fun b3 => ?_) (fun b3 => ?_)
    · replace h := xb_tt b3 h
      refine lv_aload_n hx hb dX7_drops_22 rfl (lv_at hl 0 rfl) ?_
      obtain ⟨⟨c_fits_5, z_count_6, z_ra_7, z_rb_8, z_rn_9, z_rc_10, z_rg_11⟩, q4, h⟩ := xn_i h
      refine x_callVv (As := []) (rest := []) C hw gc_X7_72 ⟨rfl, rfl, ds_X7_keepState, (by rw [hR]; exact Nat.le_of_ble_eq_true rfl), (by rw [hR]; exact Nat.le_of_ble_eq_true rfl), Nat.zero_le _, Nat.zero_le _⟩ (c_X7_keepState l dC dI cI cZ cB cO c_ad c_p n_p z_p c_fits c_refusedBad c_refusedNo c_refusedFull n_n n_count n_generators z_count z_ra z_rb z_rn z_rc z_rg _ q4 _) [0, 1, 2, 3, 4, 5, 6, 7, 8, 9, 10, 11, 12, 13, 14] [] (by decide) rfl rfl (by decide) (by decide) rfl rfl rfl hl.1 rfl (Nat.le_of_ble_eq_true rfl) dX7_drops_23 (fun H locs hw => ?_)
      have hw : xWd (dC, dI) A s.heap H locs ((wC cI cZ cB cO c_ad c_p c_fits_5 c_refusedBad c_refusedNo c_refusedFull) ++ ((wS cI cZ cB cO (c_p 0) n_p n_n n_count n_generators) ++ (wZ cI cZ cB cO (c_p 1) z_p z_count_6 z_ra_7 z_rb_8 z_rn_9 z_rc_10 z_rg_11))) := hw
      refine lv_aload_n hx hb dX7_drops_26 rfl (lv_at hl 0 rfl) ?_
      refine x_get (ci := 6) C hw inX7 rfl 0 (by decide) lkF_X7_10 rfl 0 rfl rfl dX7_drops_27 ?_
      refine lv_iload_n hx hb dX7_drops_30 rfl (lv_at hl 1 rfl) ?_
      obtain ⟨⟨n_count_12, n_generators_13, r_14⟩, q5, h⟩ := xn_i h
      refine x_callVi (As := [.int v1]) (rest := []) C hw gc_X7_92 ⟨rfl, rfl, ds_X4_loses, (by rw [hR]; exact Nat.le_of_ble_eq_true rfl), (by rw [hR]; exact Nat.le_of_ble_eq_true rfl), Nat.zero_le _, Nat.zero_le _⟩ (c_X4_loses l dC dI cI cZ cB cO (c_p 0) n_p n_n n_count n_generators v1 _ q5 _) [1, 2] [0, 3, 4, 5, 6, 7, 8, 9, 10, 11, 12, 13, 14] (by decide) rfl rfl (by decide) (by decide) rfl rfl rfl hl.1 rfl (Nat.le_of_ble_eq_true rfl) dX7_drops_31 (fun H locs hw => ?_)
      have hw : xWd (dC, dI) A s.heap H locs ((wC cI cZ cB cO c_ad c_p c_fits_5 c_refusedBad c_refusedNo c_refusedFull) ++ ((wS cI cZ cB cO (c_p 0) n_p n_n n_count_12 n_generators_13) ++ (wZ cI cZ cB cO (c_p 1) z_p z_count_6 z_ra_7 z_rb_8 z_rn_9 z_rc_10 z_rg_11))) := hw.sub [0, 13, 14, 1, 2, 3, 4, 5, 6, 7, 8, 9, 10, 11, 12] (by decide) rfl
      refine lv_pop hx hb dX7_drops_34 rfl ?_
      refine lv_aload_n hx hb dX7_drops_35 rfl (lv_at hl 0 rfl) ?_
      refine x_get (ci := 6) C hw inX7 rfl 0 (by decide) lkF_X7_10 rfl 0 rfl rfl dX7_drops_36 ?_
      refine x_get (ci := 3) C hw inX4 rfl 1 (by decide) lkF_X7_85 rfl 1 rfl rfl dX7_drops_39 ?_
      obtain rfl := Option.some.inj h
      exact x_reti C hQ hA hw dX7_drops_42
    · replace h := xb_ff b3 h
      refine lv_aload_n hx hb dX7_drops_15 rfl (lv_at hl 0 rfl) ?_
      refine lv_bipush (v := (-2 : Int32)) hx hb dX7_drops_16 (by decide) ?_
      obtain ⟨⟨c_refusedBad_15, c_refusedNo_16, c_refusedFull_17, r_18⟩, q6, h⟩ := xn_i h
      refine x_callVi (As := [.int (-2 : Int32)]) (rest := []) C hw gc_X7_65 ⟨rfl, rfl, ds_X7_refuse, (by rw [hR]; exact Nat.le_of_ble_eq_true rfl), (by rw [hR]; exact Nat.le_of_ble_eq_true rfl), Nat.zero_le _, Nat.zero_le _⟩ (c_X7_refuse l dC dI cI cZ cB cO c_ad c_p c_fits c_refusedBad c_refusedNo c_refusedFull (-2 : Int32) _ q6 _) [0] [1, 2, 3, 4, 5, 6, 7, 8, 9, 10, 11, 12, 13, 14] (by decide) rfl rfl (by decide) (by decide) rfl rfl rfl hl.1 rfl (Nat.le_of_ble_eq_true rfl) dX7_drops_18 (fun H locs hw => ?_)
      have hw : xWd (dC, dI) A s.heap H locs ((wC cI cZ cB cO c_ad c_p c_fits c_refusedBad_15 c_refusedNo_16 c_refusedFull_17) ++ ((wS cI cZ cB cO (c_p 0) n_p n_n n_count n_generators) ++ (wZ cI cZ cB cO (c_p 1) z_p z_count z_ra z_rb z_rn z_rc z_rg))) := hw.sub [14, 0, 1, 2, 3, 4, 5, 6, 7, 8, 9, 10, 11, 12, 13] (by decide) rfl
      obtain rfl := Option.some.inj h
      exact x_reti C hQ hA hw dX7_drops_21
noncomputable def f_X7_order (c_fits : Int32) (n_n : Int32) (n_count : Int32) (n_generators : (Nat → Int32)) (e_n : Int32) (e_steps : (Nat → Int32)) (e_undoing : (Nat → Int32)) (e_chains : (Nat → Int32)) (e_leaving : (Nat → Int32)) (e_found : (Nat → Int32)) (e_foundAt : (Nat → Int32)) (e_foundCount : Int32) (k_n : Int32) (k_inOrder : (Nat → Int32)) (k_starts : (Nat → Int32)) (k_firsts : (Nat → Int32)) (k_reached : (Nat → Int32)) (k_reachedAt : (Nat → Int32)) (k_reachedCount : Int32) : Option (Int32 × Int32 × (Nat → Int32) × (Nat → Int32) × (Nat → Int32) × (Nat → Int32) × (Nat → Int32) × (Nat → Int32) × Int32 × Int32 × (Nat → Int32) × (Nat → Int32) × (Nat → Int32) × (Nat → Int32) × (Nat → Int32) × Int32 × Int32) := xn (f_X7_fit c_fits n_n n_count n_generators e_n e_steps e_undoing e_chains e_leaving e_found e_foundAt e_foundCount k_n k_inOrder k_starts k_firsts k_reached k_reachedAt k_reachedCount) (fun (z : Int32 × Int32 × (Nat → Int32) × (Nat → Int32) × (Nat → Int32) × (Nat → Int32) × (Nat → Int32) × (Nat → Int32) × Int32 × Int32 × (Nat → Int32) × (Nat → Int32) × (Nat → Int32) × (Nat → Int32) × (Nat → Int32) × Int32) => match z with | (c_fits_1, e_n_2, e_steps_3, e_undoing_4, e_chains_5, e_leaving_6, e_found_7, e_foundAt_8, e_foundCount_9, k_n_10, k_inOrder_11, k_starts_12, k_firsts_13, k_reached_14, k_reachedAt_15, k_reachedCount_16) => xn (f_X1_howMany e_leaving_6) (fun (r_17 : Int32) => some (c_fits_1, e_n_2, e_steps_3, e_undoing_4, e_chains_5, e_leaving_6, e_found_7, e_foundAt_8, e_foundCount_9, k_n_10, k_inOrder_11, k_starts_12, k_firsts_13, k_reached_14, k_reachedAt_15, k_reachedCount_16, r_17)))
set_option maxHeartbeats 4000000 in
set_option maxRecDepth 100000 in
theorem c_X7_order (l : Launch) (dC : Nat → ClassId) (dI : Nat → Nat → Nat) (cI cZ cB cO : ClassId) (c_ad : Nat) (c_p : Nat → Nat) (n_p : Nat → Nat) (e_p : Nat → Nat) (k_p : Nat → Nat) (c_fits : Int32) (c_refusedBad : Int32) (c_refusedNo : Int32) (c_refusedFull : Int32) (n_n : Int32) (n_count : Int32) (n_generators : (Nat → Int32)) (e_n : Int32) (e_steps : (Nat → Int32)) (e_undoing : (Nat → Int32)) (e_chains : (Nat → Int32)) (e_leaving : (Nat → Int32)) (e_found : (Nat → Int32)) (e_foundAt : (Nat → Int32)) (e_foundCount : Int32) (k_n : Int32) (k_inOrder : (Nat → Int32)) (k_starts : (Nat → Int32)) (k_firsts : (Nat → Int32)) (k_reached : (Nat → Int32)) (k_reachedAt : (Nat → Int32)) (k_reachedCount : Int32) (o : Int32 × Int32 × (Nat → Int32) × (Nat → Int32) × (Nat → Int32) × (Nat → Int32) × (Nat → Int32) × (Nat → Int32) × Int32 × Int32 × (Nat → Int32) × (Nat → Int32) × (Nat → Int32) × (Nat → Int32) × (Nat → Int32) × Int32 × Int32) (h : f_X7_order c_fits n_n n_count n_generators e_n e_steps e_undoing e_chains e_leaving e_found e_foundAt e_foundCount k_n k_inOrder k_starts k_firsts k_reached k_reachedAt k_reachedCount = some o) (sz : Nat) : Met l yX7_order (xW yX7_order cX7_order 1 (some .int)) { frames := 6, cells := 0, slots := 0, locals := 133 } (xPre dC dI (xT cI cZ cB cO) [.ref c_ad] ((wC cI cZ cB cO c_ad c_p c_fits c_refusedBad c_refusedNo c_refusedFull) ++ ((wS cI cZ cB cO (c_p 0) n_p n_n n_count n_generators) ++ ((wE cI cZ cB cO (c_p 4) e_p e_n e_steps e_undoing e_chains e_leaving e_found e_foundAt e_foundCount) ++ (wK cI cZ cB cO (c_p 5) k_p k_n k_inOrder k_starts k_firsts k_reached k_reachedAt k_reachedCount)))) sz) (xQi dC dI (xT cI cZ cB cO) o.2.2.2.2.2.2.2.2.2.2.2.2.2.2.2.2 ((wC cI cZ cB cO c_ad c_p c_fits c_refusedBad c_refusedNo c_refusedFull) ++ ((wS cI cZ cB cO (c_p 0) n_p n_n n_count n_generators) ++ ((wE cI cZ cB cO (c_p 4) e_p e_n e_steps e_undoing e_chains e_leaving e_found e_foundAt e_foundCount) ++ (wK cI cZ cB cO (c_p 5) k_p k_n k_inOrder k_starts k_firsts k_reached k_reachedAt k_reachedCount)))) ((wC cI cZ cB cO c_ad c_p o.1 c_refusedBad c_refusedNo c_refusedFull) ++ ((wS cI cZ cB cO (c_p 0) n_p n_n n_count n_generators) ++ ((wE cI cZ cB cO (c_p 4) e_p o.2.1 o.2.2.1 o.2.2.2.1 o.2.2.2.2.1 o.2.2.2.2.2.1 o.2.2.2.2.2.2.1 o.2.2.2.2.2.2.2.1 o.2.2.2.2.2.2.2.2.1) ++ (wK cI cZ cB cO (c_p 5) k_p o.2.2.2.2.2.2.2.2.2.1 o.2.2.2.2.2.2.2.2.2.2.1 o.2.2.2.2.2.2.2.2.2.2.2.1 o.2.2.2.2.2.2.2.2.2.2.2.2.1 o.2.2.2.2.2.2.2.2.2.2.2.2.2.1 o.2.2.2.2.2.2.2.2.2.2.2.2.2.2.1 o.2.2.2.2.2.2.2.2.2.2.2.2.2.2.2.1)))) sz) 0 0 (va_A ((wC cI cZ cB cO c_ad c_p c_fits c_refusedBad c_refusedNo c_refusedFull) ++ ((wS cI cZ cB cO (c_p 0) n_p n_n n_count n_generators) ++ ((wE cI cZ cB cO (c_p 4) e_p e_n e_steps e_undoing e_chains e_leaving e_found e_foundAt e_foundCount) ++ (wK cI cZ cB cO (c_p 5) k_p k_n k_inOrder k_starts k_firsts k_reached k_reachedAt k_reachedCount)))) sz) := by
  refine x_met (by decide) (Nat.le_of_ble_eq_true rfl) ?_
  intro p e s m args below meth c R Q A hR hsz hA hQ hin C hw ls hl
  have hx := C.1
  have hb := C.2.1
  have hown := C.2.2.2.1
  have htb := C.2.2.2.2.1
  have hl : lv_has ls 1 [(0, .ref c_ad)] := hl
  refine lv_aload_n hx hb dX7_order_0 rfl (lv_at hl 0 rfl) ?_
  obtain ⟨⟨c_fits_1, e_n_2, e_steps_3, e_undoing_4, e_chains_5, e_leaving_6, e_found_7, e_foundAt_8, e_foundCount_9, k_n_10, k_inOrder_11, k_starts_12, k_firsts_13, k_reached_14, k_reachedAt_15, k_reachedCount_16⟩, q1, h⟩ := xn_i h
  refine x_callVv (As := []) (rest := []) C hw gc_X7_95 ⟨rfl, rfl, ds_X7_fit, (by rw [hR]; exact Nat.le_of_ble_eq_true rfl), (by rw [hR]; exact Nat.le_of_ble_eq_true rfl), Nat.zero_le _, Nat.zero_le _⟩ (c_X7_fit l dC dI cI cZ cB cO c_ad c_p n_p e_p k_p c_fits c_refusedBad c_refusedNo c_refusedFull n_n n_count n_generators e_n e_steps e_undoing e_chains e_leaving e_found e_foundAt e_foundCount k_n k_inOrder k_starts k_firsts k_reached k_reachedAt k_reachedCount _ q1 _) [0, 1, 2, 3, 4, 5, 6, 7, 8, 9, 10, 11, 12, 13, 14, 15] [] (by decide) rfl rfl (by decide) (by decide) rfl rfl rfl hl.1 rfl (Nat.le_of_ble_eq_true rfl) dX7_order_1 (fun H locs hw => ?_)
  have hw : xWd (dC, dI) A s.heap H locs ((wC cI cZ cB cO c_ad c_p c_fits_1 c_refusedBad c_refusedNo c_refusedFull) ++ ((wS cI cZ cB cO (c_p 0) n_p n_n n_count n_generators) ++ ((wE cI cZ cB cO (c_p 4) e_p e_n_2 e_steps_3 e_undoing_4 e_chains_5 e_leaving_6 e_found_7 e_foundAt_8 e_foundCount_9) ++ (wK cI cZ cB cO (c_p 5) k_p k_n_10 k_inOrder_11 k_starts_12 k_firsts_13 k_reached_14 k_reachedAt_15 k_reachedCount_16)))) := hw
  refine lv_aload_n hx hb dX7_order_4 rfl (lv_at hl 0 rfl) ?_
  refine x_get (ci := 6) C hw inX7 rfl 4 (by decide) lkF_X7_40 rfl 0 rfl rfl dX7_order_5 ?_
  obtain ⟨r_17, q2, h⟩ := xn_i h
  refine x_callVi (As := []) (rest := []) C hw gc_X7_98 ⟨rfl, rfl, ds_X1_howMany, (by rw [hR]; exact Nat.le_of_ble_eq_true rfl), (by rw [hR]; exact Nat.le_of_ble_eq_true rfl), Nat.zero_le _, Nat.zero_le _⟩ (c_X1_howMany l dC dI cI cZ cB cO (c_p 4) e_p e_n_2 e_steps_3 e_undoing_4 e_chains_5 e_leaving_6 e_found_7 e_foundAt_8 e_foundCount_9 _ q2 _) [3, 4, 5, 6, 7, 8, 9] [0, 1, 2, 10, 11, 12, 13, 14, 15] (by decide) rfl rfl (by decide) (by decide) rfl rfl rfl hl.1 rfl (Nat.le_of_ble_eq_true rfl) dX7_order_8 (fun H locs hw => ?_)
  have hw : xWd (dC, dI) A s.heap H locs ((wC cI cZ cB cO c_ad c_p c_fits_1 c_refusedBad c_refusedNo c_refusedFull) ++ ((wS cI cZ cB cO (c_p 0) n_p n_n n_count n_generators) ++ ((wE cI cZ cB cO (c_p 4) e_p e_n_2 e_steps_3 e_undoing_4 e_chains_5 e_leaving_6 e_found_7 e_foundAt_8 e_foundCount_9) ++ (wK cI cZ cB cO (c_p 5) k_p k_n_10 k_inOrder_11 k_starts_12 k_firsts_13 k_reached_14 k_reachedAt_15 k_reachedCount_16)))) := hw.sub [0, 1, 2, 9, 10, 11, 12, 13, 14, 15, 3, 4, 5, 6, 7, 8] (by decide) rfl
  obtain rfl := Option.some.inj h
  exact x_reti C hQ hA hw dX7_order_11
noncomputable def f_X7_of (c_fits : Int32) (c_refusedBad : Int32) (c_refusedNo : Int32) (c_refusedFull : Int32) (n_n : Int32) (n_count : Int32) (n_generators : (Nat → Int32)) (e_n : Int32) (e_steps : (Nat → Int32)) (e_undoing : (Nat → Int32)) (e_chains : (Nat → Int32)) (e_leaving : (Nat → Int32)) (e_found : (Nat → Int32)) (e_foundAt : (Nat → Int32)) (e_foundCount : Int32) (k_n : Int32) (k_inOrder : (Nat → Int32)) (k_starts : (Nat → Int32)) (k_firsts : (Nat → Int32)) (k_reached : (Nat → Int32)) (k_reachedAt : (Nat → Int32)) (k_reachedCount : Int32) (v1 : Int32) (v2 : Int32) : Option (Int32 × Int32 × Int32 × Int32 × Int32 × (Nat → Int32) × (Nat → Int32) × (Nat → Int32) × (Nat → Int32) × (Nat → Int32) × (Nat → Int32) × Int32 × Int32 × (Nat → Int32) × (Nat → Int32) × (Nat → Int32) × (Nat → Int32) × (Nat → Int32) × Int32 × Int32) := xb (v1 < 0) (xn (f_X7_refuse c_refusedBad c_refusedNo c_refusedFull (-2 : Int32)) (fun (z : Int32 × Int32 × Int32 × Int32) => match z with | (c_refusedBad_1, c_refusedNo_2, c_refusedFull_3, r_4) => some (c_fits, c_refusedBad_1, c_refusedNo_2, c_refusedFull_3, e_n, e_steps, e_undoing, e_chains, e_leaving, e_found, e_foundAt, e_foundCount, k_n, k_inOrder, k_starts, k_firsts, k_reached, k_reachedAt, k_reachedCount, r_4))) (xb (n_n ≤ v1) (xn (f_X7_refuse c_refusedBad c_refusedNo c_refusedFull (-2 : Int32)) (fun (z : Int32 × Int32 × Int32 × Int32) => match z with | (c_refusedBad_5, c_refusedNo_6, c_refusedFull_7, r_8) => some (c_fits, c_refusedBad_5, c_refusedNo_6, c_refusedFull_7, e_n, e_steps, e_undoing, e_chains, e_leaving, e_found, e_foundAt, e_foundCount, k_n, k_inOrder, k_starts, k_firsts, k_reached, k_reachedAt, k_reachedCount, r_8))) (xb (v2 < 0) (xn (f_X7_refuse c_refusedBad c_refusedNo c_refusedFull (-2 : Int32)) (fun (z : Int32 × Int32 × Int32 × Int32) => match z with | (c_refusedBad_9, c_refusedNo_10, c_refusedFull_11, r_12) => some (c_fits, c_refusedBad_9, c_refusedNo_10, c_refusedFull_11, e_n, e_steps, e_undoing, e_chains, e_leaving, e_found, e_foundAt, e_foundCount, k_n, k_inOrder, k_starts, k_firsts, k_reached, k_reachedAt, k_reachedCount, r_12))) (xb (v2 ≤ (2 : Int32)) (xn (f_X7_fit c_fits n_n n_count n_generators e_n e_steps e_undoing e_chains e_leaving e_found e_foundAt e_foundCount k_n k_inOrder k_starts k_firsts k_reached k_reachedAt k_reachedCount) (fun (z : Int32 × Int32 × (Nat → Int32) × (Nat → Int32) × (Nat → Int32) × (Nat → Int32) × (Nat → Int32) × (Nat → Int32) × Int32 × Int32 × (Nat → Int32) × (Nat → Int32) × (Nat → Int32) × (Nat → Int32) × (Nat → Int32) × Int32) => match z with | (c_fits_13, e_n_14, e_steps_15, e_undoing_16, e_chains_17, e_leaving_18, e_found_19, e_foundAt_20, e_foundCount_21, k_n_22, k_inOrder_23, k_starts_24, k_firsts_25, k_reached_26, k_reachedAt_27, k_reachedCount_28) => xn (f_X7_tellPoint e_chains_17 k_n_22 k_firsts_25 v1 v2) (fun (r_29 : Int32) => some (c_fits_13, c_refusedBad, c_refusedNo, c_refusedFull, e_n_14, e_steps_15, e_undoing_16, e_chains_17, e_leaving_18, e_found_19, e_foundAt_20, e_foundCount_21, k_n_22, k_inOrder_23, k_starts_24, k_firsts_25, k_reached_26, k_reachedAt_27, k_reachedCount_28, r_29)))) (xn (f_X7_refuse c_refusedBad c_refusedNo c_refusedFull (-2 : Int32)) (fun (z : Int32 × Int32 × Int32 × Int32) => match z with | (c_refusedBad_30, c_refusedNo_31, c_refusedFull_32, r_33) => some (c_fits, c_refusedBad_30, c_refusedNo_31, c_refusedFull_32, e_n, e_steps, e_undoing, e_chains, e_leaving, e_found, e_foundAt, e_foundCount, k_n, k_inOrder, k_starts, k_firsts, k_reached, k_reachedAt, k_reachedCount, r_33))))))
set_option maxHeartbeats 4000000 in
set_option maxRecDepth 100000 in
theorem c_X7_of (l : Launch) (dC : Nat → ClassId) (dI : Nat → Nat → Nat) (cI cZ cB cO : ClassId) (c_ad : Nat) (c_p : Nat → Nat) (n_p : Nat → Nat) (e_p : Nat → Nat) (k_p : Nat → Nat) (c_fits : Int32) (c_refusedBad : Int32) (c_refusedNo : Int32) (c_refusedFull : Int32) (n_n : Int32) (n_count : Int32) (n_generators : (Nat → Int32)) (e_n : Int32) (e_steps : (Nat → Int32)) (e_undoing : (Nat → Int32)) (e_chains : (Nat → Int32)) (e_leaving : (Nat → Int32)) (e_found : (Nat → Int32)) (e_foundAt : (Nat → Int32)) (e_foundCount : Int32) (k_n : Int32) (k_inOrder : (Nat → Int32)) (k_starts : (Nat → Int32)) (k_firsts : (Nat → Int32)) (k_reached : (Nat → Int32)) (k_reachedAt : (Nat → Int32)) (k_reachedCount : Int32) (v1 : Int32) (v2 : Int32) (o : Int32 × Int32 × Int32 × Int32 × Int32 × (Nat → Int32) × (Nat → Int32) × (Nat → Int32) × (Nat → Int32) × (Nat → Int32) × (Nat → Int32) × Int32 × Int32 × (Nat → Int32) × (Nat → Int32) × (Nat → Int32) × (Nat → Int32) × (Nat → Int32) × Int32 × Int32) (h : f_X7_of c_fits c_refusedBad c_refusedNo c_refusedFull n_n n_count n_generators e_n e_steps e_undoing e_chains e_leaving e_found e_foundAt e_foundCount k_n k_inOrder k_starts k_firsts k_reached k_reachedAt k_reachedCount v1 v2 = some o) (sz : Nat) : Met l yX7_of (xW yX7_of cX7_of 3 (some .int)) { frames := 6, cells := 0, slots := 0, locals := 133 } (xPre dC dI (xT cI cZ cB cO) [.ref c_ad, .int v1, .int v2] ((wC cI cZ cB cO c_ad c_p c_fits c_refusedBad c_refusedNo c_refusedFull) ++ ((wS cI cZ cB cO (c_p 0) n_p n_n n_count n_generators) ++ ((wE cI cZ cB cO (c_p 4) e_p e_n e_steps e_undoing e_chains e_leaving e_found e_foundAt e_foundCount) ++ (wK cI cZ cB cO (c_p 5) k_p k_n k_inOrder k_starts k_firsts k_reached k_reachedAt k_reachedCount)))) sz) (xQi dC dI (xT cI cZ cB cO) o.2.2.2.2.2.2.2.2.2.2.2.2.2.2.2.2.2.2.2 ((wC cI cZ cB cO c_ad c_p c_fits c_refusedBad c_refusedNo c_refusedFull) ++ ((wS cI cZ cB cO (c_p 0) n_p n_n n_count n_generators) ++ ((wE cI cZ cB cO (c_p 4) e_p e_n e_steps e_undoing e_chains e_leaving e_found e_foundAt e_foundCount) ++ (wK cI cZ cB cO (c_p 5) k_p k_n k_inOrder k_starts k_firsts k_reached k_reachedAt k_reachedCount)))) ((wC cI cZ cB cO c_ad c_p o.1 o.2.1 o.2.2.1 o.2.2.2.1) ++ ((wS cI cZ cB cO (c_p 0) n_p n_n n_count n_generators) ++ ((wE cI cZ cB cO (c_p 4) e_p o.2.2.2.2.1 o.2.2.2.2.2.1 o.2.2.2.2.2.2.1 o.2.2.2.2.2.2.2.1 o.2.2.2.2.2.2.2.2.1 o.2.2.2.2.2.2.2.2.2.1 o.2.2.2.2.2.2.2.2.2.2.1 o.2.2.2.2.2.2.2.2.2.2.2.1) ++ (wK cI cZ cB cO (c_p 5) k_p o.2.2.2.2.2.2.2.2.2.2.2.2.1 o.2.2.2.2.2.2.2.2.2.2.2.2.2.1 o.2.2.2.2.2.2.2.2.2.2.2.2.2.2.1 o.2.2.2.2.2.2.2.2.2.2.2.2.2.2.2.1 o.2.2.2.2.2.2.2.2.2.2.2.2.2.2.2.2.1 o.2.2.2.2.2.2.2.2.2.2.2.2.2.2.2.2.2.1 o.2.2.2.2.2.2.2.2.2.2.2.2.2.2.2.2.2.2.1)))) sz) 0 0 (va_A ((wC cI cZ cB cO c_ad c_p c_fits c_refusedBad c_refusedNo c_refusedFull) ++ ((wS cI cZ cB cO (c_p 0) n_p n_n n_count n_generators) ++ ((wE cI cZ cB cO (c_p 4) e_p e_n e_steps e_undoing e_chains e_leaving e_found e_foundAt e_foundCount) ++ (wK cI cZ cB cO (c_p 5) k_p k_n k_inOrder k_starts k_firsts k_reached k_reachedAt k_reachedCount)))) sz) := by
  refine x_met (by decide) (Nat.le_of_ble_eq_true rfl) ?_
  intro p e s m args below meth c R Q A hR hsz hA hQ hin C hw ls hl
  have hx := C.1
  have hb := C.2.1
  have hown := C.2.2.2.1
  have htb := C.2.2.2.2.1
  have hl : lv_has ls 3 [(0, .ref c_ad), (1, .int v1), (2, .int v2)] := hl
  refine lv_iload_n hx hb dX7_of_0 rfl (lv_at hl 1 rfl) ?_
  refine lv_if_lt (tgt := 24) hx hb dX7_of_1 (by decide) (fun b1 => ?_) (fun b1 => ?_)
  · replace h := xb_tt b1 h
    refine lv_aload_n hx hb dX7_of_24 rfl (lv_at hl 0 rfl) ?_
    refine lv_bipush (v := (-2 : Int32)) hx hb dX7_of_25 (by decide) ?_
    obtain ⟨⟨c_refusedBad_1, c_refusedNo_2, c_refusedFull_3, r_4⟩, q2, h⟩ := xn_i h
    refine x_callVi (As := [.int (-2 : Int32)]) (rest := []) C hw gc_X7_65 ⟨rfl, rfl, ds_X7_refuse, (by rw [hR]; exact Nat.le_of_ble_eq_true rfl), (by rw [hR]; exact Nat.le_of_ble_eq_true rfl), Nat.zero_le _, Nat.zero_le _⟩ (c_X7_refuse l dC dI cI cZ cB cO c_ad c_p c_fits c_refusedBad c_refusedNo c_refusedFull (-2 : Int32) _ q2 _) [0] [1, 2, 3, 4, 5, 6, 7, 8, 9, 10, 11, 12, 13, 14, 15] (by decide) rfl rfl (by decide) (by decide) rfl rfl rfl hl.1 rfl (Nat.le_of_ble_eq_true rfl) dX7_of_27 (fun H locs hw => ?_)
    have hw : xWd (dC, dI) A s.heap H locs ((wC cI cZ cB cO c_ad c_p c_fits c_refusedBad_1 c_refusedNo_2 c_refusedFull_3) ++ ((wS cI cZ cB cO (c_p 0) n_p n_n n_count n_generators) ++ ((wE cI cZ cB cO (c_p 4) e_p e_n e_steps e_undoing e_chains e_leaving e_found e_foundAt e_foundCount) ++ (wK cI cZ cB cO (c_p 5) k_p k_n k_inOrder k_starts k_firsts k_reached k_reachedAt k_reachedCount)))) := hw.sub [15, 0, 1, 2, 3, 4, 5, 6, 7, 8, 9, 10, 11, 12, 13, 14] (by decide) rfl
    obtain rfl := Option.some.inj h
    exact x_reti C hQ hA hw dX7_of_30
  · replace h := xb_ff b1 h
    refine lv_iload_n hx hb dX7_of_4 rfl (lv_at hl 1 rfl) ?_
    refine lv_aload_n hx hb dX7_of_5 rfl (lv_at hl 0 rfl) ?_
    refine x_get (ci := 6) C hw inX7 rfl 0 (by decide) lkF_X7_10 rfl 0 rfl rfl dX7_of_6 ?_
    refine x_get (ci := 3) C hw inX4 rfl 0 (by decide) lkF_X7_69 rfl 1 rfl rfl dX7_of_9 ?_
    refine lv_icmp_ge (tgt := 24) hx hb dX7_of_12 (by decide) (fun b3 => ?_) (fun b3 => ?_)
    · replace h := xb_tt b3 h
      refine lv_aload_n hx hb dX7_of_24 rfl (lv_at hl 0 rfl) ?_
      refine lv_bipush (v := (-2 : Int32)) hx hb dX7_of_25 (by decide) ?_
      obtain ⟨⟨c_refusedBad_5, c_refusedNo_6, c_refusedFull_7, r_8⟩, q4, h⟩ := xn_i h
      refine x_callVi (As := [.int (-2 : Int32)]) (rest := []) C hw gc_X7_65 ⟨rfl, rfl, ds_X7_refuse, (by rw [hR]; exact Nat.le_of_ble_eq_true rfl), (by rw [hR]; exact Nat.le_of_ble_eq_true rfl), Nat.zero_le _, Nat.zero_le _⟩ (c_X7_refuse l dC dI cI cZ cB cO c_ad c_p c_fits c_refusedBad c_refusedNo c_refusedFull (-2 : Int32) _ q4 _) [0] [1, 2, 3, 4, 5, 6, 7, 8, 9, 10, 11, 12, 13, 14, 15] (by decide) rfl rfl (by decide) (by decide) rfl rfl rfl hl.1 rfl (Nat.le_of_ble_eq_true rfl) dX7_of_27 (fun H locs hw => ?_)
      have hw : xWd (dC, dI) A s.heap H locs ((wC cI cZ cB cO c_ad c_p c_fits c_refusedBad_5 c_refusedNo_6 c_refusedFull_7) ++ ((wS cI cZ cB cO (c_p 0) n_p n_n n_count n_generators) ++ ((wE cI cZ cB cO (c_p 4) e_p e_n e_steps e_undoing e_chains e_leaving e_found e_foundAt e_foundCount) ++ (wK cI cZ cB cO (c_p 5) k_p k_n k_inOrder k_starts k_firsts k_reached k_reachedAt k_reachedCount)))) := hw.sub [15, 0, 1, 2, 3, 4, 5, 6, 7, 8, 9, 10, 11, 12, 13, 14] (by decide) rfl
      obtain rfl := Option.some.inj h
      exact x_reti C hQ hA hw dX7_of_30
    · replace h := xb_ff b3 h
      refine lv_iload_n hx hb dX7_of_15 rfl (lv_at hl 2 rfl) ?_
      refine lv_if_lt (tgt := 24) hx hb dX7_of_16 (by decide) (fun b5 => ?_) (fun b5 => ?_)
      · replace h := xb_tt b5 h
        refine lv_aload_n hx hb dX7_of_24 rfl (lv_at hl 0 rfl) ?_
        refine lv_bipush (v := (-2 : Int32)) hx hb dX7_of_25 (by decide) ?_
        obtain ⟨⟨c_refusedBad_9, c_refusedNo_10, c_refusedFull_11, r_12⟩, q6, h⟩ := xn_i h
        refine x_callVi (As := [.int (-2 : Int32)]) (rest := []) C hw gc_X7_65 ⟨rfl, rfl, ds_X7_refuse, (by rw [hR]; exact Nat.le_of_ble_eq_true rfl), (by rw [hR]; exact Nat.le_of_ble_eq_true rfl), Nat.zero_le _, Nat.zero_le _⟩ (c_X7_refuse l dC dI cI cZ cB cO c_ad c_p c_fits c_refusedBad c_refusedNo c_refusedFull (-2 : Int32) _ q6 _) [0] [1, 2, 3, 4, 5, 6, 7, 8, 9, 10, 11, 12, 13, 14, 15] (by decide) rfl rfl (by decide) (by decide) rfl rfl rfl hl.1 rfl (Nat.le_of_ble_eq_true rfl) dX7_of_27 (fun H locs hw => ?_)
        have hw : xWd (dC, dI) A s.heap H locs ((wC cI cZ cB cO c_ad c_p c_fits c_refusedBad_9 c_refusedNo_10 c_refusedFull_11) ++ ((wS cI cZ cB cO (c_p 0) n_p n_n n_count n_generators) ++ ((wE cI cZ cB cO (c_p 4) e_p e_n e_steps e_undoing e_chains e_leaving e_found e_foundAt e_foundCount) ++ (wK cI cZ cB cO (c_p 5) k_p k_n k_inOrder k_starts k_firsts k_reached k_reachedAt k_reachedCount)))) := hw.sub [15, 0, 1, 2, 3, 4, 5, 6, 7, 8, 9, 10, 11, 12, 13, 14] (by decide) rfl
        obtain rfl := Option.some.inj h
        exact x_reti C hQ hA hw dX7_of_30
      · replace h := xb_ff b5 h
        refine lv_iload_n hx hb dX7_of_19 rfl (lv_at hl 2 rfl) ?_
        refine lv_iconst (v := (2 : Int32)) hx hb dX7_of_20 (by decide) ?_
        refine lv_icmp_le (tgt := 31) hx hb dX7_of_21 (by decide) (fun b7 => ?_) (fun b7 => ?_)
        · replace h := xb_tt b7 h
          refine lv_aload_n hx hb dX7_of_31 rfl (lv_at hl 0 rfl) ?_
          obtain ⟨⟨c_fits_13, e_n_14, e_steps_15, e_undoing_16, e_chains_17, e_leaving_18, e_found_19, e_foundAt_20, e_foundCount_21, k_n_22, k_inOrder_23, k_starts_24, k_firsts_25, k_reached_26, k_reachedAt_27, k_reachedCount_28⟩, q8, h⟩ := xn_i h
          refine x_callVv (As := []) (rest := []) C hw gc_X7_95 ⟨rfl, rfl, ds_X7_fit, (by rw [hR]; exact Nat.le_of_ble_eq_true rfl), (by rw [hR]; exact Nat.le_of_ble_eq_true rfl), Nat.zero_le _, Nat.zero_le _⟩ (c_X7_fit l dC dI cI cZ cB cO c_ad c_p n_p e_p k_p c_fits c_refusedBad c_refusedNo c_refusedFull n_n n_count n_generators e_n e_steps e_undoing e_chains e_leaving e_found e_foundAt e_foundCount k_n k_inOrder k_starts k_firsts k_reached k_reachedAt k_reachedCount _ q8 _) [0, 1, 2, 3, 4, 5, 6, 7, 8, 9, 10, 11, 12, 13, 14, 15] [] (by decide) rfl rfl (by decide) (by decide) rfl rfl rfl hl.1 rfl (Nat.le_of_ble_eq_true rfl) dX7_of_32 (fun H locs hw => ?_)
          have hw : xWd (dC, dI) A s.heap H locs ((wC cI cZ cB cO c_ad c_p c_fits_13 c_refusedBad c_refusedNo c_refusedFull) ++ ((wS cI cZ cB cO (c_p 0) n_p n_n n_count n_generators) ++ ((wE cI cZ cB cO (c_p 4) e_p e_n_14 e_steps_15 e_undoing_16 e_chains_17 e_leaving_18 e_found_19 e_foundAt_20 e_foundCount_21) ++ (wK cI cZ cB cO (c_p 5) k_p k_n_22 k_inOrder_23 k_starts_24 k_firsts_25 k_reached_26 k_reachedAt_27 k_reachedCount_28)))) := hw
          refine lv_aload_n hx hb dX7_of_35 rfl (lv_at hl 0 rfl) ?_
          refine lv_iload_n hx hb dX7_of_36 rfl (lv_at hl 1 rfl) ?_
          refine lv_iload_n hx hb dX7_of_37 rfl (lv_at hl 2 rfl) ?_
          obtain ⟨r_29, q9, h⟩ := xn_i h
          refine x_callVi (As := [.int v1, .int v2]) (rest := []) C hw gc_X7_102 ⟨rfl, rfl, ds_X7_tellPoint, (by rw [hR]; exact Nat.le_of_ble_eq_true rfl), (by rw [hR]; exact Nat.le_of_ble_eq_true rfl), Nat.zero_le _, Nat.zero_le _⟩ (c_X7_tellPoint l dC dI cI cZ cB cO c_ad c_p e_p k_p c_fits_13 c_refusedBad c_refusedNo c_refusedFull e_n_14 e_steps_15 e_undoing_16 e_chains_17 e_leaving_18 e_found_19 e_foundAt_20 e_foundCount_21 k_n_22 k_inOrder_23 k_starts_24 k_firsts_25 k_reached_26 k_reachedAt_27 k_reachedCount_28 v1 v2 _ q9 _) [0, 3, 4, 5, 6, 7, 8, 9, 10, 11, 12, 13, 14, 15] [1, 2] (by decide) rfl rfl (by decide) (by decide) rfl rfl rfl hl.1 rfl (Nat.le_of_ble_eq_true rfl) dX7_of_38 (fun H locs hw => ?_)
          have hw : xWd (dC, dI) A s.heap H locs ((wC cI cZ cB cO c_ad c_p c_fits_13 c_refusedBad c_refusedNo c_refusedFull) ++ ((wS cI cZ cB cO (c_p 0) n_p n_n n_count n_generators) ++ ((wE cI cZ cB cO (c_p 4) e_p e_n_14 e_steps_15 e_undoing_16 e_chains_17 e_leaving_18 e_found_19 e_foundAt_20 e_foundCount_21) ++ (wK cI cZ cB cO (c_p 5) k_p k_n_22 k_inOrder_23 k_starts_24 k_firsts_25 k_reached_26 k_reachedAt_27 k_reachedCount_28)))) := hw.sub [2, 0, 1, 3, 4, 5, 6, 7, 8, 9, 10, 11, 12, 13, 14, 15] (by decide) rfl
          obtain rfl := Option.some.inj h
          exact x_reti C hQ hA hw dX7_of_41
        · replace h := xb_ff b7 h
          refine lv_aload_n hx hb dX7_of_24 rfl (lv_at hl 0 rfl) ?_
          refine lv_bipush (v := (-2 : Int32)) hx hb dX7_of_25 (by decide) ?_
          obtain ⟨⟨c_refusedBad_30, c_refusedNo_31, c_refusedFull_32, r_33⟩, q10, h⟩ := xn_i h
          refine x_callVi (As := [.int (-2 : Int32)]) (rest := []) C hw gc_X7_65 ⟨rfl, rfl, ds_X7_refuse, (by rw [hR]; exact Nat.le_of_ble_eq_true rfl), (by rw [hR]; exact Nat.le_of_ble_eq_true rfl), Nat.zero_le _, Nat.zero_le _⟩ (c_X7_refuse l dC dI cI cZ cB cO c_ad c_p c_fits c_refusedBad c_refusedNo c_refusedFull (-2 : Int32) _ q10 _) [0] [1, 2, 3, 4, 5, 6, 7, 8, 9, 10, 11, 12, 13, 14, 15] (by decide) rfl rfl (by decide) (by decide) rfl rfl rfl hl.1 rfl (Nat.le_of_ble_eq_true rfl) dX7_of_27 (fun H locs hw => ?_)
          have hw : xWd (dC, dI) A s.heap H locs ((wC cI cZ cB cO c_ad c_p c_fits c_refusedBad_30 c_refusedNo_31 c_refusedFull_32) ++ ((wS cI cZ cB cO (c_p 0) n_p n_n n_count n_generators) ++ ((wE cI cZ cB cO (c_p 4) e_p e_n e_steps e_undoing e_chains e_leaving e_found e_foundAt e_foundCount) ++ (wK cI cZ cB cO (c_p 5) k_p k_n k_inOrder k_starts k_firsts k_reached k_reachedAt k_reachedCount)))) := hw.sub [15, 0, 1, 2, 3, 4, 5, 6, 7, 8, 9, 10, 11, 12, 13, 14] (by decide) rfl
          obtain rfl := Option.some.inj h
          exact x_reti C hQ hA hw dX7_of_30
noncomputable def f_X7_number (c_fits : Int32) (c_refusedBad : Int32) (c_refusedNo : Int32) (c_refusedFull : Int32) (n_n : Int32) (n_count : Int32) (n_generators : (Nat → Int32)) (e_n : Int32) (e_steps : (Nat → Int32)) (e_undoing : (Nat → Int32)) (e_chains : (Nat → Int32)) (e_leaving : (Nat → Int32)) (e_found : (Nat → Int32)) (e_foundAt : (Nat → Int32)) (e_foundCount : Int32) (k_n : Int32) (k_inOrder : (Nat → Int32)) (k_starts : (Nat → Int32)) (k_firsts : (Nat → Int32)) (k_reached : (Nat → Int32)) (k_reachedAt : (Nat → Int32)) (k_reachedCount : Int32) (v1 : Int32) : Option (Int32 × Int32 × Int32 × Int32 × Int32 × (Nat → Int32) × (Nat → Int32) × (Nat → Int32) × (Nat → Int32) × (Nat → Int32) × (Nat → Int32) × Int32 × Int32 × (Nat → Int32) × (Nat → Int32) × (Nat → Int32) × (Nat → Int32) × (Nat → Int32) × Int32 × Int32) := xn (f_X2_read v1 n_n) (fun (r_1 : Int32) => xb (r_1 = (-1 : Int32)) (xn (f_X7_refuse c_refusedBad c_refusedNo c_refusedFull (-2 : Int32)) (fun (z : Int32 × Int32 × Int32 × Int32) => match z with | (c_refusedBad_19, c_refusedNo_20, c_refusedFull_21, r_22) => some (c_fits, c_refusedBad_19, c_refusedNo_20, c_refusedFull_21, e_n, e_steps, e_undoing, e_chains, e_leaving, e_found, e_foundAt, e_foundCount, k_n, k_inOrder, k_starts, k_firsts, k_reached, k_reachedAt, k_reachedCount, r_22))) (xn (f_X7_fit c_fits n_n n_count n_generators e_n e_steps e_undoing e_chains e_leaving e_found e_foundAt e_foundCount k_n k_inOrder k_starts k_firsts k_reached k_reachedAt k_reachedCount) (fun (z : Int32 × Int32 × (Nat → Int32) × (Nat → Int32) × (Nat → Int32) × (Nat → Int32) × (Nat → Int32) × (Nat → Int32) × Int32 × Int32 × (Nat → Int32) × (Nat → Int32) × (Nat → Int32) × (Nat → Int32) × (Nat → Int32) × Int32) => match z with | (c_fits_2, e_n_3, e_steps_4, e_undoing_5, e_chains_6, e_leaving_7, e_found_8, e_foundAt_9, e_foundCount_10, k_n_11, k_inOrder_12, k_starts_13, k_firsts_14, k_reached_15, k_reachedAt_16, k_reachedCount_17) => xn (f_X1_rank e_n_3 e_steps_4 e_chains_6 e_leaving_7 r_1) (fun (r_18 : Int32) => some (c_fits_2, c_refusedBad, c_refusedNo, c_refusedFull, e_n_3, e_steps_4, e_undoing_5, e_chains_6, e_leaving_7, e_found_8, e_foundAt_9, e_foundCount_10, k_n_11, k_inOrder_12, k_starts_13, k_firsts_14, k_reached_15, k_reachedAt_16, k_reachedCount_17, r_18)))))
set_option maxHeartbeats 4000000 in
set_option maxRecDepth 100000 in
theorem c_X7_number (l : Launch) (dC : Nat → ClassId) (dI : Nat → Nat → Nat) (cI cZ cB cO : ClassId) (c_ad : Nat) (c_p : Nat → Nat) (n_p : Nat → Nat) (e_p : Nat → Nat) (k_p : Nat → Nat) (c_fits : Int32) (c_refusedBad : Int32) (c_refusedNo : Int32) (c_refusedFull : Int32) (n_n : Int32) (n_count : Int32) (n_generators : (Nat → Int32)) (e_n : Int32) (e_steps : (Nat → Int32)) (e_undoing : (Nat → Int32)) (e_chains : (Nat → Int32)) (e_leaving : (Nat → Int32)) (e_found : (Nat → Int32)) (e_foundAt : (Nat → Int32)) (e_foundCount : Int32) (k_n : Int32) (k_inOrder : (Nat → Int32)) (k_starts : (Nat → Int32)) (k_firsts : (Nat → Int32)) (k_reached : (Nat → Int32)) (k_reachedAt : (Nat → Int32)) (k_reachedCount : Int32) (v1 : Int32) (o : Int32 × Int32 × Int32 × Int32 × Int32 × (Nat → Int32) × (Nat → Int32) × (Nat → Int32) × (Nat → Int32) × (Nat → Int32) × (Nat → Int32) × Int32 × Int32 × (Nat → Int32) × (Nat → Int32) × (Nat → Int32) × (Nat → Int32) × (Nat → Int32) × Int32 × Int32) (h : f_X7_number c_fits c_refusedBad c_refusedNo c_refusedFull n_n n_count n_generators e_n e_steps e_undoing e_chains e_leaving e_found e_foundAt e_foundCount k_n k_inOrder k_starts k_firsts k_reached k_reachedAt k_reachedCount v1 = some o) (sz : Nat) : Met l yX7_number (xW yX7_number cX7_number 3 (some .int)) { frames := 6, cells := 0, slots := 0, locals := 133 } (xPre dC dI (xT cI cZ cB cO) [.ref c_ad, .int v1] ((wC cI cZ cB cO c_ad c_p c_fits c_refusedBad c_refusedNo c_refusedFull) ++ ((wS cI cZ cB cO (c_p 0) n_p n_n n_count n_generators) ++ ((wE cI cZ cB cO (c_p 4) e_p e_n e_steps e_undoing e_chains e_leaving e_found e_foundAt e_foundCount) ++ (wK cI cZ cB cO (c_p 5) k_p k_n k_inOrder k_starts k_firsts k_reached k_reachedAt k_reachedCount)))) sz) (xQi dC dI (xT cI cZ cB cO) o.2.2.2.2.2.2.2.2.2.2.2.2.2.2.2.2.2.2.2 ((wC cI cZ cB cO c_ad c_p c_fits c_refusedBad c_refusedNo c_refusedFull) ++ ((wS cI cZ cB cO (c_p 0) n_p n_n n_count n_generators) ++ ((wE cI cZ cB cO (c_p 4) e_p e_n e_steps e_undoing e_chains e_leaving e_found e_foundAt e_foundCount) ++ (wK cI cZ cB cO (c_p 5) k_p k_n k_inOrder k_starts k_firsts k_reached k_reachedAt k_reachedCount)))) ((wC cI cZ cB cO c_ad c_p o.1 o.2.1 o.2.2.1 o.2.2.2.1) ++ ((wS cI cZ cB cO (c_p 0) n_p n_n n_count n_generators) ++ ((wE cI cZ cB cO (c_p 4) e_p o.2.2.2.2.1 o.2.2.2.2.2.1 o.2.2.2.2.2.2.1 o.2.2.2.2.2.2.2.1 o.2.2.2.2.2.2.2.2.1 o.2.2.2.2.2.2.2.2.2.1 o.2.2.2.2.2.2.2.2.2.2.1 o.2.2.2.2.2.2.2.2.2.2.2.1) ++ (wK cI cZ cB cO (c_p 5) k_p o.2.2.2.2.2.2.2.2.2.2.2.2.1 o.2.2.2.2.2.2.2.2.2.2.2.2.2.1 o.2.2.2.2.2.2.2.2.2.2.2.2.2.2.1 o.2.2.2.2.2.2.2.2.2.2.2.2.2.2.2.1 o.2.2.2.2.2.2.2.2.2.2.2.2.2.2.2.2.1 o.2.2.2.2.2.2.2.2.2.2.2.2.2.2.2.2.2.1 o.2.2.2.2.2.2.2.2.2.2.2.2.2.2.2.2.2.2.1)))) sz) 0 0 (va_A ((wC cI cZ cB cO c_ad c_p c_fits c_refusedBad c_refusedNo c_refusedFull) ++ ((wS cI cZ cB cO (c_p 0) n_p n_n n_count n_generators) ++ ((wE cI cZ cB cO (c_p 4) e_p e_n e_steps e_undoing e_chains e_leaving e_found e_foundAt e_foundCount) ++ (wK cI cZ cB cO (c_p 5) k_p k_n k_inOrder k_starts k_firsts k_reached k_reachedAt k_reachedCount)))) sz) := by
  refine x_met (by decide) (Nat.le_of_ble_eq_true rfl) ?_
  intro p e s m args below meth c R Q A hR hsz hA hQ hin C hw ls hl
  have hx := C.1
  have hb := C.2.1
  have hown := C.2.2.2.1
  have htb := C.2.2.2.2.1
  have hl : lv_has ls 3 [(0, .ref c_ad), (1, .int v1)] := hl
  refine lv_iload_n hx hb dX7_number_0 rfl (lv_at hl 1 rfl) ?_
  refine lv_aload_n hx hb dX7_number_1 rfl (lv_at hl 0 rfl) ?_
  refine x_get (ci := 6) C hw inX7 rfl 0 (by decide) lkF_X7_10 rfl 0 rfl rfl dX7_number_2 ?_
  refine x_get (ci := 3) C hw inX4 rfl 0 (by decide) lkF_X7_69 rfl 1 rfl rfl dX7_number_5 ?_
  obtain ⟨r_1, q1, h⟩ := xn_i h
  refine x_callSi (As := [.int v1, .int n_n]) (rest := []) C hw gc_X7_79 ds_X2_read (by rw [hR]; exact Nat.le_of_ble_eq_true rfl) (by rw [hR]; exact Nat.le_of_ble_eq_true rfl) rfl rfl (Nat.zero_le _) (Nat.zero_le _) (c_X2_read l dC dI cI cZ cB cO v1 n_n _ q1 _) [] [0, 1, 2, 3, 4, 5, 6, 7, 8, 9, 10, 11, 12, 13, 14, 15] (by decide) rfl rfl (by decide) (by decide) rfl hl.1 rfl (Nat.le_of_ble_eq_true rfl) dX7_number_8 (fun H locs hw => ?_)
  have hw : xWd (dC, dI) A s.heap H locs ((wC cI cZ cB cO c_ad c_p c_fits c_refusedBad c_refusedNo c_refusedFull) ++ ((wS cI cZ cB cO (c_p 0) n_p n_n n_count n_generators) ++ ((wE cI cZ cB cO (c_p 4) e_p e_n e_steps e_undoing e_chains e_leaving e_found e_foundAt e_foundCount) ++ (wK cI cZ cB cO (c_p 5) k_p k_n k_inOrder k_starts k_firsts k_reached k_reachedAt k_reachedCount)))) := hw.sub [0, 1, 2, 3, 4, 5, 6, 7, 8, 9, 10, 11, 12, 13, 14, 15] (by decide) rfl
  refine lv_istore_n (lv' := [(2, .int r_1), (0, .ref c_ad), (1, .int v1)]) hx hb dX7_number_11 rfl hl (by decide) rfl (fun ls hl => ?_)
  refine lv_iload_n hx hb dX7_number_12 rfl (lv_at hl 0 rfl) ?_
  refine lv_iconst (v := (-1 : Int32)) hx hb dX7_number_13 (by decide) ?_
  refine lv_icmp_ne (tgt := 24) hx hb dX7_number_14 (by decide) (fun b2 => ?_) (fun b2 => ?_)
  · replace h := xb_ff b2 h
    refine lv_aload_n hx hb dX7_number_24 rfl (lv_at hl 1 rfl) ?_
    obtain ⟨⟨c_fits_2, e_n_3, e_steps_4, e_undoing_5, e_chains_6, e_leaving_7, e_found_8, e_foundAt_9, e_foundCount_10, k_n_11, k_inOrder_12, k_starts_13, k_firsts_14, k_reached_15, k_reachedAt_16, k_reachedCount_17⟩, q3, h⟩ := xn_i h
    refine x_callVv (As := []) (rest := []) C hw gc_X7_95 ⟨rfl, rfl, ds_X7_fit, (by rw [hR]; exact Nat.le_of_ble_eq_true rfl), (by rw [hR]; exact Nat.le_of_ble_eq_true rfl), Nat.zero_le _, Nat.zero_le _⟩ (c_X7_fit l dC dI cI cZ cB cO c_ad c_p n_p e_p k_p c_fits c_refusedBad c_refusedNo c_refusedFull n_n n_count n_generators e_n e_steps e_undoing e_chains e_leaving e_found e_foundAt e_foundCount k_n k_inOrder k_starts k_firsts k_reached k_reachedAt k_reachedCount _ q3 _) [0, 1, 2, 3, 4, 5, 6, 7, 8, 9, 10, 11, 12, 13, 14, 15] [] (by decide) rfl rfl (by decide) (by decide) rfl rfl rfl hl.1 rfl (Nat.le_of_ble_eq_true rfl) dX7_number_25 (fun H locs hw => ?_)
    have hw : xWd (dC, dI) A s.heap H locs ((wC cI cZ cB cO c_ad c_p c_fits_2 c_refusedBad c_refusedNo c_refusedFull) ++ ((wS cI cZ cB cO (c_p 0) n_p n_n n_count n_generators) ++ ((wE cI cZ cB cO (c_p 4) e_p e_n_3 e_steps_4 e_undoing_5 e_chains_6 e_leaving_7 e_found_8 e_foundAt_9 e_foundCount_10) ++ (wK cI cZ cB cO (c_p 5) k_p k_n_11 k_inOrder_12 k_starts_13 k_firsts_14 k_reached_15 k_reachedAt_16 k_reachedCount_17)))) := hw
    refine lv_aload_n hx hb dX7_number_28 rfl (lv_at hl 1 rfl) ?_
    refine x_get (ci := 6) C hw inX7 rfl 4 (by decide) lkF_X7_40 rfl 0 rfl rfl dX7_number_29 ?_
    refine lv_iload_n hx hb dX7_number_32 rfl (lv_at hl 0 rfl) ?_
    obtain ⟨r_18, q4, h⟩ := xn_i h
    refine x_callVi (As := [.int r_1]) (rest := []) C hw gc_X7_105 ⟨rfl, rfl, ds_X1_rank, (by rw [hR]; exact Nat.le_of_ble_eq_true rfl), (by rw [hR]; exact Nat.le_of_ble_eq_true rfl), Nat.zero_le _, Nat.zero_le _⟩ (c_X1_rank l dC dI cI cZ cB cO (c_p 4) e_p e_n_3 e_steps_4 e_undoing_5 e_chains_6 e_leaving_7 e_found_8 e_foundAt_9 e_foundCount_10 r_1 _ q4 _) [3, 4, 5, 6, 7, 8, 9] [0, 1, 2, 10, 11, 12, 13, 14, 15] (by decide) rfl rfl (by decide) (by decide) rfl rfl rfl hl.1 rfl (Nat.le_of_ble_eq_true rfl) dX7_number_33 (fun H locs hw => ?_)
    have hw : xWd (dC, dI) A s.heap H locs ((wC cI cZ cB cO c_ad c_p c_fits_2 c_refusedBad c_refusedNo c_refusedFull) ++ ((wS cI cZ cB cO (c_p 0) n_p n_n n_count n_generators) ++ ((wE cI cZ cB cO (c_p 4) e_p e_n_3 e_steps_4 e_undoing_5 e_chains_6 e_leaving_7 e_found_8 e_foundAt_9 e_foundCount_10) ++ (wK cI cZ cB cO (c_p 5) k_p k_n_11 k_inOrder_12 k_starts_13 k_firsts_14 k_reached_15 k_reachedAt_16 k_reachedCount_17)))) := hw.sub [0, 1, 2, 9, 10, 11, 12, 13, 14, 15, 3, 4, 5, 6, 7, 8] (by decide) rfl
    obtain rfl := Option.some.inj h
    exact x_reti C hQ hA hw dX7_number_36
  · replace h := xb_tt b2 h
    refine lv_aload_n hx hb dX7_number_17 rfl (lv_at hl 1 rfl) ?_
    refine lv_bipush (v := (-2 : Int32)) hx hb dX7_number_18 (by decide) ?_
    obtain ⟨⟨c_refusedBad_19, c_refusedNo_20, c_refusedFull_21, r_22⟩, q5, h⟩ := xn_i h
    refine x_callVi (As := [.int (-2 : Int32)]) (rest := []) C hw gc_X7_65 ⟨rfl, rfl, ds_X7_refuse, (by rw [hR]; exact Nat.le_of_ble_eq_true rfl), (by rw [hR]; exact Nat.le_of_ble_eq_true rfl), Nat.zero_le _, Nat.zero_le _⟩ (c_X7_refuse l dC dI cI cZ cB cO c_ad c_p c_fits c_refusedBad c_refusedNo c_refusedFull (-2 : Int32) _ q5 _) [0] [1, 2, 3, 4, 5, 6, 7, 8, 9, 10, 11, 12, 13, 14, 15] (by decide) rfl rfl (by decide) (by decide) rfl rfl rfl hl.1 rfl (Nat.le_of_ble_eq_true rfl) dX7_number_20 (fun H locs hw => ?_)
    have hw : xWd (dC, dI) A s.heap H locs ((wC cI cZ cB cO c_ad c_p c_fits c_refusedBad_19 c_refusedNo_20 c_refusedFull_21) ++ ((wS cI cZ cB cO (c_p 0) n_p n_n n_count n_generators) ++ ((wE cI cZ cB cO (c_p 4) e_p e_n e_steps e_undoing e_chains e_leaving e_found e_foundAt e_foundCount) ++ (wK cI cZ cB cO (c_p 5) k_p k_n k_inOrder k_starts k_firsts k_reached k_reachedAt k_reachedCount)))) := hw.sub [15, 0, 1, 2, 3, 4, 5, 6, 7, 8, 9, 10, 11, 12, 13, 14] (by decide) rfl
    obtain rfl := Option.some.inj h
    exact x_reti C hQ hA hw dX7_number_23
noncomputable def f_X7_element (c_fits : Int32) (c_refusedBad : Int32) (c_refusedNo : Int32) (c_refusedFull : Int32) (n_n : Int32) (n_count : Int32) (n_generators : (Nat → Int32)) (e_n : Int32) (e_steps : (Nat → Int32)) (e_undoing : (Nat → Int32)) (e_chains : (Nat → Int32)) (e_leaving : (Nat → Int32)) (e_found : (Nat → Int32)) (e_foundAt : (Nat → Int32)) (e_foundCount : Int32) (k_n : Int32) (k_inOrder : (Nat → Int32)) (k_starts : (Nat → Int32)) (k_firsts : (Nat → Int32)) (k_reached : (Nat → Int32)) (k_reachedAt : (Nat → Int32)) (k_reachedCount : Int32) (v1 : Int32) : Option (Int32 × Int32 × Int32 × Int32 × Int32 × (Nat → Int32) × (Nat → Int32) × (Nat → Int32) × (Nat → Int32) × (Nat → Int32) × (Nat → Int32) × Int32 × Int32 × (Nat → Int32) × (Nat → Int32) × (Nat → Int32) × (Nat → Int32) × (Nat → Int32) × Int32 × Int32) := xb (0 ≤ v1) (xn (f_X7_fit c_fits n_n n_count n_generators e_n e_steps e_undoing e_chains e_leaving e_found e_foundAt e_foundCount k_n k_inOrder k_starts k_firsts k_reached k_reachedAt k_reachedCount) (fun (z : Int32 × Int32 × (Nat → Int32) × (Nat → Int32) × (Nat → Int32) × (Nat → Int32) × (Nat → Int32) × (Nat → Int32) × Int32 × Int32 × (Nat → Int32) × (Nat → Int32) × (Nat → Int32) × (Nat → Int32) × (Nat → Int32) × Int32) => match z with | (c_fits_1, e_n_2, e_steps_3, e_undoing_4, e_chains_5, e_leaving_6, e_found_7, e_foundAt_8, e_foundCount_9, k_n_10, k_inOrder_11, k_starts_12, k_firsts_13, k_reached_14, k_reachedAt_15, k_reachedCount_16) => xn (f_X1_howMany e_leaving_6) (fun (r_17 : Int32) => xb (v1 < r_17) (xn (f_X1_withRank e_n_2 e_steps_3 e_chains_5 e_leaving_6 v1) (fun (r_18 : Int32) => xn (f_X2_write r_18 n_n) (fun (r_19 : Int32) => some (c_fits_1, c_refusedBad, c_refusedNo, c_refusedFull, e_n_2, e_steps_3, e_undoing_4, e_chains_5, e_leaving_6, e_found_7, e_foundAt_8, e_foundCount_9, k_n_10, k_inOrder_11, k_starts_12, k_firsts_13, k_reached_14, k_reachedAt_15, k_reachedCount_16, r_19)))) (xn (f_X7_refuse c_refusedBad c_refusedNo c_refusedFull (-3 : Int32)) (fun (z : Int32 × Int32 × Int32 × Int32) => match z with | (c_refusedBad_20, c_refusedNo_21, c_refusedFull_22, r_23) => some (c_fits_1, c_refusedBad_20, c_refusedNo_21, c_refusedFull_22, e_n_2, e_steps_3, e_undoing_4, e_chains_5, e_leaving_6, e_found_7, e_foundAt_8, e_foundCount_9, k_n_10, k_inOrder_11, k_starts_12, k_firsts_13, k_reached_14, k_reachedAt_15, k_reachedCount_16, r_23)))))) (xn (f_X7_refuse c_refusedBad c_refusedNo c_refusedFull (-2 : Int32)) (fun (z : Int32 × Int32 × Int32 × Int32) => match z with | (c_refusedBad_24, c_refusedNo_25, c_refusedFull_26, r_27) => some (c_fits, c_refusedBad_24, c_refusedNo_25, c_refusedFull_26, e_n, e_steps, e_undoing, e_chains, e_leaving, e_found, e_foundAt, e_foundCount, k_n, k_inOrder, k_starts, k_firsts, k_reached, k_reachedAt, k_reachedCount, r_27)))
set_option maxHeartbeats 4000000 in
set_option maxRecDepth 100000 in
theorem c_X7_element (l : Launch) (dC : Nat → ClassId) (dI : Nat → Nat → Nat) (cI cZ cB cO : ClassId) (c_ad : Nat) (c_p : Nat → Nat) (n_p : Nat → Nat) (e_p : Nat → Nat) (k_p : Nat → Nat) (c_fits : Int32) (c_refusedBad : Int32) (c_refusedNo : Int32) (c_refusedFull : Int32) (n_n : Int32) (n_count : Int32) (n_generators : (Nat → Int32)) (e_n : Int32) (e_steps : (Nat → Int32)) (e_undoing : (Nat → Int32)) (e_chains : (Nat → Int32)) (e_leaving : (Nat → Int32)) (e_found : (Nat → Int32)) (e_foundAt : (Nat → Int32)) (e_foundCount : Int32) (k_n : Int32) (k_inOrder : (Nat → Int32)) (k_starts : (Nat → Int32)) (k_firsts : (Nat → Int32)) (k_reached : (Nat → Int32)) (k_reachedAt : (Nat → Int32)) (k_reachedCount : Int32) (v1 : Int32) (o : Int32 × Int32 × Int32 × Int32 × Int32 × (Nat → Int32) × (Nat → Int32) × (Nat → Int32) × (Nat → Int32) × (Nat → Int32) × (Nat → Int32) × Int32 × Int32 × (Nat → Int32) × (Nat → Int32) × (Nat → Int32) × (Nat → Int32) × (Nat → Int32) × Int32 × Int32) (h : f_X7_element c_fits c_refusedBad c_refusedNo c_refusedFull n_n n_count n_generators e_n e_steps e_undoing e_chains e_leaving e_found e_foundAt e_foundCount k_n k_inOrder k_starts k_firsts k_reached k_reachedAt k_reachedCount v1 = some o) (sz : Nat) : Met l yX7_element (xW yX7_element cX7_element 2 (some .int)) { frames := 6, cells := 0, slots := 0, locals := 133 } (xPre dC dI (xT cI cZ cB cO) [.ref c_ad, .int v1] ((wC cI cZ cB cO c_ad c_p c_fits c_refusedBad c_refusedNo c_refusedFull) ++ ((wS cI cZ cB cO (c_p 0) n_p n_n n_count n_generators) ++ ((wE cI cZ cB cO (c_p 4) e_p e_n e_steps e_undoing e_chains e_leaving e_found e_foundAt e_foundCount) ++ (wK cI cZ cB cO (c_p 5) k_p k_n k_inOrder k_starts k_firsts k_reached k_reachedAt k_reachedCount)))) sz) (xQi dC dI (xT cI cZ cB cO) o.2.2.2.2.2.2.2.2.2.2.2.2.2.2.2.2.2.2.2 ((wC cI cZ cB cO c_ad c_p c_fits c_refusedBad c_refusedNo c_refusedFull) ++ ((wS cI cZ cB cO (c_p 0) n_p n_n n_count n_generators) ++ ((wE cI cZ cB cO (c_p 4) e_p e_n e_steps e_undoing e_chains e_leaving e_found e_foundAt e_foundCount) ++ (wK cI cZ cB cO (c_p 5) k_p k_n k_inOrder k_starts k_firsts k_reached k_reachedAt k_reachedCount)))) ((wC cI cZ cB cO c_ad c_p o.1 o.2.1 o.2.2.1 o.2.2.2.1) ++ ((wS cI cZ cB cO (c_p 0) n_p n_n n_count n_generators) ++ ((wE cI cZ cB cO (c_p 4) e_p o.2.2.2.2.1 o.2.2.2.2.2.1 o.2.2.2.2.2.2.1 o.2.2.2.2.2.2.2.1 o.2.2.2.2.2.2.2.2.1 o.2.2.2.2.2.2.2.2.2.1 o.2.2.2.2.2.2.2.2.2.2.1 o.2.2.2.2.2.2.2.2.2.2.2.1) ++ (wK cI cZ cB cO (c_p 5) k_p o.2.2.2.2.2.2.2.2.2.2.2.2.1 o.2.2.2.2.2.2.2.2.2.2.2.2.2.1 o.2.2.2.2.2.2.2.2.2.2.2.2.2.2.1 o.2.2.2.2.2.2.2.2.2.2.2.2.2.2.2.1 o.2.2.2.2.2.2.2.2.2.2.2.2.2.2.2.2.1 o.2.2.2.2.2.2.2.2.2.2.2.2.2.2.2.2.2.1 o.2.2.2.2.2.2.2.2.2.2.2.2.2.2.2.2.2.2.1)))) sz) 0 0 (va_A ((wC cI cZ cB cO c_ad c_p c_fits c_refusedBad c_refusedNo c_refusedFull) ++ ((wS cI cZ cB cO (c_p 0) n_p n_n n_count n_generators) ++ ((wE cI cZ cB cO (c_p 4) e_p e_n e_steps e_undoing e_chains e_leaving e_found e_foundAt e_foundCount) ++ (wK cI cZ cB cO (c_p 5) k_p k_n k_inOrder k_starts k_firsts k_reached k_reachedAt k_reachedCount)))) sz) := by
  refine x_met (by decide) (Nat.le_of_ble_eq_true rfl) ?_
  intro p e s m args below meth c R Q A hR hsz hA hQ hin C hw ls hl
  have hx := C.1
  have hb := C.2.1
  have hown := C.2.2.2.1
  have htb := C.2.2.2.2.1
  have hl : lv_has ls 2 [(0, .ref c_ad), (1, .int v1)] := hl
  refine lv_iload_n hx hb dX7_element_0 rfl (lv_at hl 1 rfl) ?_
  refine lv_if_ge (tgt := 11) hx hb dX7_element_1 (by decide) (fun b1 => ?_) (fun b1 => ?_)
  · replace h := xb_tt b1 h
    refine lv_aload_n hx hb dX7_element_11 rfl (lv_at hl 0 rfl) ?_
    obtain ⟨⟨c_fits_1, e_n_2, e_steps_3, e_undoing_4, e_chains_5, e_leaving_6, e_found_7, e_foundAt_8, e_foundCount_9, k_n_10, k_inOrder_11, k_starts_12, k_firsts_13, k_reached_14, k_reachedAt_15, k_reachedCount_16⟩, q2, h⟩ := xn_i h
    refine x_callVv (As := []) (rest := []) C hw gc_X7_95 ⟨rfl, rfl, ds_X7_fit, (by rw [hR]; exact Nat.le_of_ble_eq_true rfl), (by rw [hR]; exact Nat.le_of_ble_eq_true rfl), Nat.zero_le _, Nat.zero_le _⟩ (c_X7_fit l dC dI cI cZ cB cO c_ad c_p n_p e_p k_p c_fits c_refusedBad c_refusedNo c_refusedFull n_n n_count n_generators e_n e_steps e_undoing e_chains e_leaving e_found e_foundAt e_foundCount k_n k_inOrder k_starts k_firsts k_reached k_reachedAt k_reachedCount _ q2 _) [0, 1, 2, 3, 4, 5, 6, 7, 8, 9, 10, 11, 12, 13, 14, 15] [] (by decide) rfl rfl (by decide) (by decide) rfl rfl rfl hl.1 rfl (Nat.le_of_ble_eq_true rfl) dX7_element_12 (fun H locs hw => ?_)
    have hw : xWd (dC, dI) A s.heap H locs ((wC cI cZ cB cO c_ad c_p c_fits_1 c_refusedBad c_refusedNo c_refusedFull) ++ ((wS cI cZ cB cO (c_p 0) n_p n_n n_count n_generators) ++ ((wE cI cZ cB cO (c_p 4) e_p e_n_2 e_steps_3 e_undoing_4 e_chains_5 e_leaving_6 e_found_7 e_foundAt_8 e_foundCount_9) ++ (wK cI cZ cB cO (c_p 5) k_p k_n_10 k_inOrder_11 k_starts_12 k_firsts_13 k_reached_14 k_reachedAt_15 k_reachedCount_16)))) := hw
    refine lv_iload_n hx hb dX7_element_15 rfl (lv_at hl 1 rfl) ?_
    refine lv_aload_n hx hb dX7_element_16 rfl (lv_at hl 0 rfl) ?_
    refine x_get (ci := 6) C hw inX7 rfl 4 (by decide) lkF_X7_40 rfl 0 rfl rfl dX7_element_17 ?_
    obtain ⟨r_17, q3, h⟩ := xn_i h
    refine x_callVi (As := []) (rest := [.int v1]) C hw gc_X7_98 ⟨rfl, rfl, ds_X1_howMany, (by rw [hR]; exact Nat.le_of_ble_eq_true rfl), (by rw [hR]; exact Nat.le_of_ble_eq_true rfl), Nat.zero_le _, Nat.zero_le _⟩ (c_X1_howMany l dC dI cI cZ cB cO (c_p 4) e_p e_n_2 e_steps_3 e_undoing_4 e_chains_5 e_leaving_6 e_found_7 e_foundAt_8 e_foundCount_9 _ q3 _) [3, 4, 5, 6, 7, 8, 9] [0, 1, 2, 10, 11, 12, 13, 14, 15] (by decide) rfl rfl (by decide) (by decide) rfl rfl rfl hl.1 rfl (Nat.le_of_ble_eq_true rfl) dX7_element_20 (fun H locs hw => ?_)
    have hw : xWd (dC, dI) A s.heap H locs ((wC cI cZ cB cO c_ad c_p c_fits_1 c_refusedBad c_refusedNo c_refusedFull) ++ ((wS cI cZ cB cO (c_p 0) n_p n_n n_count n_generators) ++ ((wE cI cZ cB cO (c_p 4) e_p e_n_2 e_steps_3 e_undoing_4 e_chains_5 e_leaving_6 e_found_7 e_foundAt_8 e_foundCount_9) ++ (wK cI cZ cB cO (c_p 5) k_p k_n_10 k_inOrder_11 k_starts_12 k_firsts_13 k_reached_14 k_reachedAt_15 k_reachedCount_16)))) := hw.sub [0, 1, 2, 9, 10, 11, 12, 13, 14, 15, 3, 4, 5, 6, 7, 8] (by decide) rfl
    refine lv_icmp_lt (tgt := 33) hx hb dX7_element_23 (by decide) (fun b4 => ?_) (fun b4 => ?_)
    · replace h := xb_tt b4 h
      refine lv_aload_n hx hb dX7_element_33 rfl (lv_at hl 0 rfl) ?_
      refine x_get (ci := 6) C hw inX7 rfl 4 (by decide) lkF_X7_40 rfl 0 rfl rfl dX7_element_34 ?_
      refine lv_iload_n hx hb dX7_element_37 rfl (lv_at hl 1 rfl) ?_
      obtain ⟨r_18, q5, h⟩ := xn_i h
      refine x_callVi (As := [.int v1]) (rest := []) C hw gc_X7_108 ⟨rfl, rfl, ds_X1_withRank, (by rw [hR]; exact Nat.le_of_ble_eq_true rfl), (by rw [hR]; exact Nat.le_of_ble_eq_true rfl), Nat.zero_le _, Nat.zero_le _⟩ (c_X1_withRank l dC dI cI cZ cB cO (c_p 4) e_p e_n_2 e_steps_3 e_undoing_4 e_chains_5 e_leaving_6 e_found_7 e_foundAt_8 e_foundCount_9 v1 _ q5 _) [3, 4, 5, 6, 7, 8, 9] [0, 1, 2, 10, 11, 12, 13, 14, 15] (by decide) rfl rfl (by decide) (by decide) rfl rfl rfl hl.1 rfl (Nat.le_of_ble_eq_true rfl) dX7_element_38 (fun H locs hw => ?_)
      have hw : xWd (dC, dI) A s.heap H locs ((wC cI cZ cB cO c_ad c_p c_fits_1 c_refusedBad c_refusedNo c_refusedFull) ++ ((wS cI cZ cB cO (c_p 0) n_p n_n n_count n_generators) ++ ((wE cI cZ cB cO (c_p 4) e_p e_n_2 e_steps_3 e_undoing_4 e_chains_5 e_leaving_6 e_found_7 e_foundAt_8 e_foundCount_9) ++ (wK cI cZ cB cO (c_p 5) k_p k_n_10 k_inOrder_11 k_starts_12 k_firsts_13 k_reached_14 k_reachedAt_15 k_reachedCount_16)))) := hw.sub [0, 1, 2, 9, 10, 11, 12, 13, 14, 15, 3, 4, 5, 6, 7, 8] (by decide) rfl
      refine lv_aload_n hx hb dX7_element_41 rfl (lv_at hl 0 rfl) ?_
      refine x_get (ci := 6) C hw inX7 rfl 0 (by decide) lkF_X7_10 rfl 0 rfl rfl dX7_element_42 ?_
      refine x_get (ci := 3) C hw inX4 rfl 0 (by decide) lkF_X7_69 rfl 1 rfl rfl dX7_element_45 ?_
      obtain ⟨r_19, q6, h⟩ := xn_i h
      refine x_callSi (As := [.int r_18, .int n_n]) (rest := []) C hw gc_X7_111 ds_X2_write (by rw [hR]; exact Nat.le_of_ble_eq_true rfl) (by rw [hR]; exact Nat.le_of_ble_eq_true rfl) rfl rfl (Nat.zero_le _) (Nat.zero_le _) (c_X2_write l dC dI cI cZ cB cO r_18 n_n _ q6 _) [] [0, 1, 2, 3, 4, 5, 6, 7, 8, 9, 10, 11, 12, 13, 14, 15] (by decide) rfl rfl (by decide) (by decide) rfl hl.1 rfl (Nat.le_of_ble_eq_true rfl) dX7_element_48 (fun H locs hw => ?_)
      have hw : xWd (dC, dI) A s.heap H locs ((wC cI cZ cB cO c_ad c_p c_fits_1 c_refusedBad c_refusedNo c_refusedFull) ++ ((wS cI cZ cB cO (c_p 0) n_p n_n n_count n_generators) ++ ((wE cI cZ cB cO (c_p 4) e_p e_n_2 e_steps_3 e_undoing_4 e_chains_5 e_leaving_6 e_found_7 e_foundAt_8 e_foundCount_9) ++ (wK cI cZ cB cO (c_p 5) k_p k_n_10 k_inOrder_11 k_starts_12 k_firsts_13 k_reached_14 k_reachedAt_15 k_reachedCount_16)))) := hw.sub [0, 1, 2, 3, 4, 5, 6, 7, 8, 9, 10, 11, 12, 13, 14, 15] (by decide) rfl
      obtain rfl := Option.some.inj h
      exact x_reti C hQ hA hw dX7_element_51
    · replace h := xb_ff b4 h
      refine lv_aload_n hx hb dX7_element_26 rfl (lv_at hl 0 rfl) ?_
      refine lv_bipush (v := (-3 : Int32)) hx hb dX7_element_27 (by decide) ?_
      obtain ⟨⟨c_refusedBad_20, c_refusedNo_21, c_refusedFull_22, r_23⟩, q7, h⟩ := xn_i h
      refine x_callVi (As := [.int (-3 : Int32)]) (rest := []) C hw gc_X7_65 ⟨rfl, rfl, ds_X7_refuse, (by rw [hR]; exact Nat.le_of_ble_eq_true rfl), (by rw [hR]; exact Nat.le_of_ble_eq_true rfl), Nat.zero_le _, Nat.zero_le _⟩ (c_X7_refuse l dC dI cI cZ cB cO c_ad c_p c_fits_1 c_refusedBad c_refusedNo c_refusedFull (-3 : Int32) _ q7 _) [0] [1, 2, 3, 4, 5, 6, 7, 8, 9, 10, 11, 12, 13, 14, 15] (by decide) rfl rfl (by decide) (by decide) rfl rfl rfl hl.1 rfl (Nat.le_of_ble_eq_true rfl) dX7_element_29 (fun H locs hw => ?_)
      have hw : xWd (dC, dI) A s.heap H locs ((wC cI cZ cB cO c_ad c_p c_fits_1 c_refusedBad_20 c_refusedNo_21 c_refusedFull_22) ++ ((wS cI cZ cB cO (c_p 0) n_p n_n n_count n_generators) ++ ((wE cI cZ cB cO (c_p 4) e_p e_n_2 e_steps_3 e_undoing_4 e_chains_5 e_leaving_6 e_found_7 e_foundAt_8 e_foundCount_9) ++ (wK cI cZ cB cO (c_p 5) k_p k_n_10 k_inOrder_11 k_starts_12 k_firsts_13 k_reached_14 k_reachedAt_15 k_reachedCount_16)))) := hw.sub [15, 0, 1, 2, 3, 4, 5, 6, 7, 8, 9, 10, 11, 12, 13, 14] (by decide) rfl
      obtain rfl := Option.some.inj h
      exact x_reti C hQ hA hw dX7_element_32
  · replace h := xb_ff b1 h
    refine lv_aload_n hx hb dX7_element_4 rfl (lv_at hl 0 rfl) ?_
    refine lv_bipush (v := (-2 : Int32)) hx hb dX7_element_5 (by decide) ?_
    obtain ⟨⟨c_refusedBad_24, c_refusedNo_25, c_refusedFull_26, r_27⟩, q8, h⟩ := xn_i h
    refine x_callVi (As := [.int (-2 : Int32)]) (rest := []) C hw gc_X7_65 ⟨rfl, rfl, ds_X7_refuse, (by rw [hR]; exact Nat.le_of_ble_eq_true rfl), (by rw [hR]; exact Nat.le_of_ble_eq_true rfl), Nat.zero_le _, Nat.zero_le _⟩ (c_X7_refuse l dC dI cI cZ cB cO c_ad c_p c_fits c_refusedBad c_refusedNo c_refusedFull (-2 : Int32) _ q8 _) [0] [1, 2, 3, 4, 5, 6, 7, 8, 9, 10, 11, 12, 13, 14, 15] (by decide) rfl rfl (by decide) (by decide) rfl rfl rfl hl.1 rfl (Nat.le_of_ble_eq_true rfl) dX7_element_7 (fun H locs hw => ?_)
    have hw : xWd (dC, dI) A s.heap H locs ((wC cI cZ cB cO c_ad c_p c_fits c_refusedBad_24 c_refusedNo_25 c_refusedFull_26) ++ ((wS cI cZ cB cO (c_p 0) n_p n_n n_count n_generators) ++ ((wE cI cZ cB cO (c_p 4) e_p e_n e_steps e_undoing e_chains e_leaving e_found e_foundAt e_foundCount) ++ (wK cI cZ cB cO (c_p 5) k_p k_n k_inOrder k_starts k_firsts k_reached k_reachedAt k_reachedCount)))) := hw.sub [15, 0, 1, 2, 3, 4, 5, 6, 7, 8, 9, 10, 11, 12, 13, 14] (by decide) rfl
    obtain rfl := Option.some.inj h
    exact x_reti C hQ hA hw dX7_element_10
noncomputable def f_X7_image (c_refusedBad : Int32) (c_refusedNo : Int32) (c_refusedFull : Int32) (n_n : Int32) (v1 : Int32) (v2 : Int32) : Option (Int32 × Int32 × Int32 × Int32) := xn (f_X2_read v2 n_n) (fun (r_1 : Int32) => xn (f_X7_isSet n_n v1) (fun (r_2 : Int32) => xb (r_2 = 0) (xn (f_X7_refuse c_refusedBad c_refusedNo c_refusedFull (-2 : Int32)) (fun (z : Int32 × Int32 × Int32 × Int32) => match z with | (c_refusedBad_3, c_refusedNo_4, c_refusedFull_5, r_6) => some (c_refusedBad_3, c_refusedNo_4, c_refusedFull_5, r_6))) (xb (r_1 = (-1 : Int32)) (xn (f_X7_refuse c_refusedBad c_refusedNo c_refusedFull (-2 : Int32)) (fun (z : Int32 × Int32 × Int32 × Int32) => match z with | (c_refusedBad_8, c_refusedNo_9, c_refusedFull_10, r_11) => some (c_refusedBad_8, c_refusedNo_9, c_refusedFull_10, r_11))) (xn (f_X2_carry v1 r_1) (fun (r_7 : Int32) => some (c_refusedBad, c_refusedNo, c_refusedFull, r_7))))))
set_option maxHeartbeats 4000000 in
set_option maxRecDepth 100000 in
theorem c_X7_image (l : Launch) (dC : Nat → ClassId) (dI : Nat → Nat → Nat) (cI cZ cB cO : ClassId) (c_ad : Nat) (c_p : Nat → Nat) (n_p : Nat → Nat) (c_fits : Int32) (c_refusedBad : Int32) (c_refusedNo : Int32) (c_refusedFull : Int32) (n_n : Int32) (n_count : Int32) (n_generators : (Nat → Int32)) (v1 : Int32) (v2 : Int32) (o : Int32 × Int32 × Int32 × Int32) (h : f_X7_image c_refusedBad c_refusedNo c_refusedFull n_n v1 v2 = some o) (sz : Nat) : Met l yX7_image (xW yX7_image cX7_image 4 (some .int)) { frames := 1, cells := 0, slots := 0, locals := 26 } (xPre dC dI (xT cI cZ cB cO) [.ref c_ad, .int v1, .int v2] ((wC cI cZ cB cO c_ad c_p c_fits c_refusedBad c_refusedNo c_refusedFull) ++ (wS cI cZ cB cO (c_p 0) n_p n_n n_count n_generators)) sz) (xQi dC dI (xT cI cZ cB cO) o.2.2.2 ((wC cI cZ cB cO c_ad c_p c_fits c_refusedBad c_refusedNo c_refusedFull) ++ (wS cI cZ cB cO (c_p 0) n_p n_n n_count n_generators)) ((wC cI cZ cB cO c_ad c_p c_fits o.1 o.2.1 o.2.2.1) ++ (wS cI cZ cB cO (c_p 0) n_p n_n n_count n_generators)) sz) 0 0 (va_A ((wC cI cZ cB cO c_ad c_p c_fits c_refusedBad c_refusedNo c_refusedFull) ++ (wS cI cZ cB cO (c_p 0) n_p n_n n_count n_generators)) sz) := by
  refine x_met (by decide) (Nat.le_of_ble_eq_true rfl) ?_
  intro p e s m args below meth c R Q A hR hsz hA hQ hin C hw ls hl
  have hx := C.1
  have hb := C.2.1
  have hown := C.2.2.2.1
  have htb := C.2.2.2.2.1
  have hl : lv_has ls 4 [(0, .ref c_ad), (1, .int v1), (2, .int v2)] := hl
  refine lv_iload_n hx hb dX7_image_0 rfl (lv_at hl 2 rfl) ?_
  refine lv_aload_n hx hb dX7_image_1 rfl (lv_at hl 0 rfl) ?_
  refine x_get (ci := 6) C hw inX7 rfl 0 (by decide) lkF_X7_10 rfl 0 rfl rfl dX7_image_2 ?_
  refine x_get (ci := 3) C hw inX4 rfl 0 (by decide) lkF_X7_69 rfl 1 rfl rfl dX7_image_5 ?_
  obtain ⟨r_1, q1, h⟩ := xn_i h
  refine x_callSi (As := [.int v2, .int n_n]) (rest := []) C hw gc_X7_79 ds_X2_read (by rw [hR]; exact Nat.le_of_ble_eq_true rfl) (by rw [hR]; exact Nat.le_of_ble_eq_true rfl) rfl rfl (Nat.zero_le _) (Nat.zero_le _) (c_X2_read l dC dI cI cZ cB cO v2 n_n _ q1 _) [] [0, 1, 2] (by decide) rfl rfl (by decide) (by decide) rfl hl.1 rfl (Nat.le_of_ble_eq_true rfl) dX7_image_8 (fun H locs hw => ?_)
  have hw : xWd (dC, dI) A s.heap H locs ((wC cI cZ cB cO c_ad c_p c_fits c_refusedBad c_refusedNo c_refusedFull) ++ (wS cI cZ cB cO (c_p 0) n_p n_n n_count n_generators)) := hw.sub [0, 1, 2] (by decide) rfl
  refine lv_istore_n (lv' := [(3, .int r_1), (0, .ref c_ad), (1, .int v1), (2, .int v2)]) hx hb dX7_image_11 rfl hl (by decide) rfl (fun ls hl => ?_)
  refine lv_aload_n hx hb dX7_image_12 rfl (lv_at hl 1 rfl) ?_
  refine lv_iload_n hx hb dX7_image_13 rfl (lv_at hl 2 rfl) ?_
  obtain ⟨r_2, q2, h⟩ := xn_i h
  refine x_callVi (As := [.int v1]) (rest := []) C hw gc_X7_114 ⟨rfl, rfl, ds_X7_isSet, (by rw [hR]; exact Nat.le_of_ble_eq_true rfl), (by rw [hR]; exact Nat.le_of_ble_eq_true rfl), Nat.zero_le _, Nat.zero_le _⟩ (c_X7_isSet l dC dI cI cZ cB cO c_ad c_p n_p c_fits c_refusedBad c_refusedNo c_refusedFull n_n n_count n_generators v1 _ q2 _) [0, 1, 2] [] (by decide) rfl rfl (by decide) (by decide) rfl rfl rfl hl.1 rfl (Nat.le_of_ble_eq_true rfl) dX7_image_14 (fun H locs hw => ?_)
  have hw : xWd (dC, dI) A s.heap H locs ((wC cI cZ cB cO c_ad c_p c_fits c_refusedBad c_refusedNo c_refusedFull) ++ (wS cI cZ cB cO (c_p 0) n_p n_n n_count n_generators)) := hw
  refine lv_if_eq (tgt := 25) hx hb dX7_image_17 (by decide) (fun b3 => ?_) (fun b3 => ?_)
  · replace h := xb_tt b3 h
    refine lv_aload_n hx hb dX7_image_25 rfl (lv_at hl 1 rfl) ?_
    refine lv_bipush (v := (-2 : Int32)) hx hb dX7_image_26 (by decide) ?_
    obtain ⟨⟨c_refusedBad_3, c_refusedNo_4, c_refusedFull_5, r_6⟩, q4, h⟩ := xn_i h
    refine x_callVi (As := [.int (-2 : Int32)]) (rest := []) C hw gc_X7_65 ⟨rfl, rfl, ds_X7_refuse, (by rw [hR]; exact Nat.le_of_ble_eq_true rfl), (by rw [hR]; exact Nat.le_of_ble_eq_true rfl), Nat.zero_le _, Nat.zero_le _⟩ (c_X7_refuse l dC dI cI cZ cB cO c_ad c_p c_fits c_refusedBad c_refusedNo c_refusedFull (-2 : Int32) _ q4 _) [0] [1, 2] (by decide) rfl rfl (by decide) (by decide) rfl rfl rfl hl.1 rfl (Nat.le_of_ble_eq_true rfl) dX7_image_28 (fun H locs hw => ?_)
    have hw : xWd (dC, dI) A s.heap H locs ((wC cI cZ cB cO c_ad c_p c_fits c_refusedBad_3 c_refusedNo_4 c_refusedFull_5) ++ (wS cI cZ cB cO (c_p 0) n_p n_n n_count n_generators)) := hw.sub [2, 0, 1] (by decide) rfl
    obtain rfl := Option.some.inj h
    exact x_reti C hQ hA hw dX7_image_31
  · replace h := xb_ff b3 h
    refine lv_iload_n hx hb dX7_image_20 rfl (lv_at hl 0 rfl) ?_
    refine lv_iconst (v := (-1 : Int32)) hx hb dX7_image_21 (by decide) ?_
    refine lv_icmp_ne (tgt := 32) hx hb dX7_image_22 (by decide) (fun b5 => ?_) (fun b5 => ?_)
    · replace h := xb_ff b5 h
      refine lv_iload_n hx hb dX7_image_32 rfl (lv_at hl 2 rfl) ?_
      refine lv_iload_n hx hb dX7_image_33 rfl (lv_at hl 0 rfl) ?_
      obtain ⟨r_7, q6, h⟩ := xn_i h
      refine x_callSi (As := [.int v1, .int r_1]) (rest := []) C hw gc_X7_117 ds_X2_carry (by rw [hR]; exact Nat.le_of_ble_eq_true rfl) (by rw [hR]; exact Nat.le_of_ble_eq_true rfl) rfl rfl (Nat.zero_le _) (Nat.zero_le _) (c_X2_carry l dC dI cI cZ cB cO v1 r_1 _ q6 _) [] [0, 1, 2] (by decide) rfl rfl (by decide) (by decide) rfl hl.1 rfl (Nat.le_of_ble_eq_true rfl) dX7_image_34 (fun H locs hw => ?_)
      have hw : xWd (dC, dI) A s.heap H locs ((wC cI cZ cB cO c_ad c_p c_fits c_refusedBad c_refusedNo c_refusedFull) ++ (wS cI cZ cB cO (c_p 0) n_p n_n n_count n_generators)) := hw.sub [0, 1, 2] (by decide) rfl
      obtain rfl := Option.some.inj h
      exact x_reti C hQ hA hw dX7_image_37
    · replace h := xb_tt b5 h
      refine lv_aload_n hx hb dX7_image_25 rfl (lv_at hl 1 rfl) ?_
      refine lv_bipush (v := (-2 : Int32)) hx hb dX7_image_26 (by decide) ?_
      obtain ⟨⟨c_refusedBad_8, c_refusedNo_9, c_refusedFull_10, r_11⟩, q7, h⟩ := xn_i h
      refine x_callVi (As := [.int (-2 : Int32)]) (rest := []) C hw gc_X7_65 ⟨rfl, rfl, ds_X7_refuse, (by rw [hR]; exact Nat.le_of_ble_eq_true rfl), (by rw [hR]; exact Nat.le_of_ble_eq_true rfl), Nat.zero_le _, Nat.zero_le _⟩ (c_X7_refuse l dC dI cI cZ cB cO c_ad c_p c_fits c_refusedBad c_refusedNo c_refusedFull (-2 : Int32) _ q7 _) [0] [1, 2] (by decide) rfl rfl (by decide) (by decide) rfl rfl rfl hl.1 rfl (Nat.le_of_ble_eq_true rfl) dX7_image_28 (fun H locs hw => ?_)
      have hw : xWd (dC, dI) A s.heap H locs ((wC cI cZ cB cO c_ad c_p c_fits c_refusedBad_8 c_refusedNo_9 c_refusedFull_10) ++ (wS cI cZ cB cO (c_p 0) n_p n_n n_count n_generators)) := hw.sub [2, 0, 1] (by decide) rfl
      obtain rfl := Option.some.inj h
      exact x_reti C hQ hA hw dX7_image_31
noncomputable def f_X7_least (c_fits : Int32) (c_refusedBad : Int32) (c_refusedNo : Int32) (c_refusedFull : Int32) (n_n : Int32) (n_count : Int32) (n_generators : (Nat → Int32)) (e_n : Int32) (e_steps : (Nat → Int32)) (e_undoing : (Nat → Int32)) (e_chains : (Nat → Int32)) (e_leaving : (Nat → Int32)) (e_found : (Nat → Int32)) (e_foundAt : (Nat → Int32)) (e_foundCount : Int32) (k_n : Int32) (k_inOrder : (Nat → Int32)) (k_starts : (Nat → Int32)) (k_firsts : (Nat → Int32)) (k_reached : (Nat → Int32)) (k_reachedAt : (Nat → Int32)) (k_reachedCount : Int32) (v1 : Int32) : Option (Int32 × Int32 × Int32 × Int32 × Int32 × (Nat → Int32) × (Nat → Int32) × (Nat → Int32) × (Nat → Int32) × (Nat → Int32) × (Nat → Int32) × Int32 × Int32 × (Nat → Int32) × (Nat → Int32) × (Nat → Int32) × (Nat → Int32) × (Nat → Int32) × Int32 × Int32) := xn (f_X7_isSet n_n v1) (fun (r_1 : Int32) => xb (r_1 = 0) (xn (f_X7_refuse c_refusedBad c_refusedNo c_refusedFull (-2 : Int32)) (fun (z : Int32 × Int32 × Int32 × Int32) => match z with | (c_refusedBad_19, c_refusedNo_20, c_refusedFull_21, r_22) => some (c_fits, c_refusedBad_19, c_refusedNo_20, c_refusedFull_21, e_n, e_steps, e_undoing, e_chains, e_leaving, e_found, e_foundAt, e_foundCount, k_n, k_inOrder, k_starts, k_firsts, k_reached, k_reachedAt, k_reachedCount, r_22))) (xn (f_X7_fit c_fits n_n n_count n_generators e_n e_steps e_undoing e_chains e_leaving e_found e_foundAt e_foundCount k_n k_inOrder k_starts k_firsts k_reached k_reachedAt k_reachedCount) (fun (z : Int32 × Int32 × (Nat → Int32) × (Nat → Int32) × (Nat → Int32) × (Nat → Int32) × (Nat → Int32) × (Nat → Int32) × Int32 × Int32 × (Nat → Int32) × (Nat → Int32) × (Nat → Int32) × (Nat → Int32) × (Nat → Int32) × Int32) => match z with | (c_fits_2, e_n_3, e_steps_4, e_undoing_5, e_chains_6, e_leaving_7, e_found_8, e_foundAt_9, e_foundCount_10, k_n_11, k_inOrder_12, k_starts_13, k_firsts_14, k_reached_15, k_reachedAt_16, k_reachedCount_17) => xn (f_X0_first k_firsts_14 v1) (fun (r_18 : Int32) => some (c_fits_2, c_refusedBad, c_refusedNo, c_refusedFull, e_n_3, e_steps_4, e_undoing_5, e_chains_6, e_leaving_7, e_found_8, e_foundAt_9, e_foundCount_10, k_n_11, k_inOrder_12, k_starts_13, k_firsts_14, k_reached_15, k_reachedAt_16, k_reachedCount_17, r_18)))))
set_option maxHeartbeats 4000000 in
set_option maxRecDepth 100000 in
theorem c_X7_least (l : Launch) (dC : Nat → ClassId) (dI : Nat → Nat → Nat) (cI cZ cB cO : ClassId) (c_ad : Nat) (c_p : Nat → Nat) (n_p : Nat → Nat) (e_p : Nat → Nat) (k_p : Nat → Nat) (c_fits : Int32) (c_refusedBad : Int32) (c_refusedNo : Int32) (c_refusedFull : Int32) (n_n : Int32) (n_count : Int32) (n_generators : (Nat → Int32)) (e_n : Int32) (e_steps : (Nat → Int32)) (e_undoing : (Nat → Int32)) (e_chains : (Nat → Int32)) (e_leaving : (Nat → Int32)) (e_found : (Nat → Int32)) (e_foundAt : (Nat → Int32)) (e_foundCount : Int32) (k_n : Int32) (k_inOrder : (Nat → Int32)) (k_starts : (Nat → Int32)) (k_firsts : (Nat → Int32)) (k_reached : (Nat → Int32)) (k_reachedAt : (Nat → Int32)) (k_reachedCount : Int32) (v1 : Int32) (o : Int32 × Int32 × Int32 × Int32 × Int32 × (Nat → Int32) × (Nat → Int32) × (Nat → Int32) × (Nat → Int32) × (Nat → Int32) × (Nat → Int32) × Int32 × Int32 × (Nat → Int32) × (Nat → Int32) × (Nat → Int32) × (Nat → Int32) × (Nat → Int32) × Int32 × Int32) (h : f_X7_least c_fits c_refusedBad c_refusedNo c_refusedFull n_n n_count n_generators e_n e_steps e_undoing e_chains e_leaving e_found e_foundAt e_foundCount k_n k_inOrder k_starts k_firsts k_reached k_reachedAt k_reachedCount v1 = some o) (sz : Nat) : Met l yX7_least (xW yX7_least cX7_least 2 (some .int)) { frames := 6, cells := 0, slots := 0, locals := 133 } (xPre dC dI (xT cI cZ cB cO) [.ref c_ad, .int v1] ((wC cI cZ cB cO c_ad c_p c_fits c_refusedBad c_refusedNo c_refusedFull) ++ ((wS cI cZ cB cO (c_p 0) n_p n_n n_count n_generators) ++ ((wE cI cZ cB cO (c_p 4) e_p e_n e_steps e_undoing e_chains e_leaving e_found e_foundAt e_foundCount) ++ (wK cI cZ cB cO (c_p 5) k_p k_n k_inOrder k_starts k_firsts k_reached k_reachedAt k_reachedCount)))) sz) (xQi dC dI (xT cI cZ cB cO) o.2.2.2.2.2.2.2.2.2.2.2.2.2.2.2.2.2.2.2 ((wC cI cZ cB cO c_ad c_p c_fits c_refusedBad c_refusedNo c_refusedFull) ++ ((wS cI cZ cB cO (c_p 0) n_p n_n n_count n_generators) ++ ((wE cI cZ cB cO (c_p 4) e_p e_n e_steps e_undoing e_chains e_leaving e_found e_foundAt e_foundCount) ++ (wK cI cZ cB cO (c_p 5) k_p k_n k_inOrder k_starts k_firsts k_reached k_reachedAt k_reachedCount)))) ((wC cI cZ cB cO c_ad c_p o.1 o.2.1 o.2.2.1 o.2.2.2.1) ++ ((wS cI cZ cB cO (c_p 0) n_p n_n n_count n_generators) ++ ((wE cI cZ cB cO (c_p 4) e_p o.2.2.2.2.1 o.2.2.2.2.2.1 o.2.2.2.2.2.2.1 o.2.2.2.2.2.2.2.1 o.2.2.2.2.2.2.2.2.1 o.2.2.2.2.2.2.2.2.2.1 o.2.2.2.2.2.2.2.2.2.2.1 o.2.2.2.2.2.2.2.2.2.2.2.1) ++ (wK cI cZ cB cO (c_p 5) k_p o.2.2.2.2.2.2.2.2.2.2.2.2.1 o.2.2.2.2.2.2.2.2.2.2.2.2.2.1 o.2.2.2.2.2.2.2.2.2.2.2.2.2.2.1 o.2.2.2.2.2.2.2.2.2.2.2.2.2.2.2.1 o.2.2.2.2.2.2.2.2.2.2.2.2.2.2.2.2.1 o.2.2.2.2.2.2.2.2.2.2.2.2.2.2.2.2.2.1 o.2.2.2.2.2.2.2.2.2.2.2.2.2.2.2.2.2.2.1)))) sz) 0 0 (va_A ((wC cI cZ cB cO c_ad c_p c_fits c_refusedBad c_refusedNo c_refusedFull) ++ ((wS cI cZ cB cO (c_p 0) n_p n_n n_count n_generators) ++ ((wE cI cZ cB cO (c_p 4) e_p e_n e_steps e_undoing e_chains e_leaving e_found e_foundAt e_foundCount) ++ (wK cI cZ cB cO (c_p 5) k_p k_n k_inOrder k_starts k_firsts k_reached k_reachedAt k_reachedCount)))) sz) := by
  refine x_met (by decide) (Nat.le_of_ble_eq_true rfl) ?_
  intro p e s m args below meth c R Q A hR hsz hA hQ hin C hw ls hl
  have hx := C.1
  have hb := C.2.1
  have hown := C.2.2.2.1
  have htb := C.2.2.2.2.1
  have hl : lv_has ls 2 [(0, .ref c_ad), (1, .int v1)] := hl
  refine lv_aload_n hx hb dX7_least_0 rfl (lv_at hl 0 rfl) ?_
  refine lv_iload_n hx hb dX7_least_1 rfl (lv_at hl 1 rfl) ?_
  obtain ⟨r_1, q1, h⟩ := xn_i h
  refine x_callVi (As := [.int v1]) (rest := []) C hw gc_X7_114 ⟨rfl, rfl, ds_X7_isSet, (by rw [hR]; exact Nat.le_of_ble_eq_true rfl), (by rw [hR]; exact Nat.le_of_ble_eq_true rfl), Nat.zero_le _, Nat.zero_le _⟩ (c_X7_isSet l dC dI cI cZ cB cO c_ad c_p n_p c_fits c_refusedBad c_refusedNo c_refusedFull n_n n_count n_generators v1 _ q1 _) [0, 1, 2] [3, 4, 5, 6, 7, 8, 9, 10, 11, 12, 13, 14, 15] (by decide) rfl rfl (by decide) (by decide) rfl rfl rfl hl.1 rfl (Nat.le_of_ble_eq_true rfl) dX7_least_2 (fun H locs hw => ?_)
  have hw : xWd (dC, dI) A s.heap H locs ((wC cI cZ cB cO c_ad c_p c_fits c_refusedBad c_refusedNo c_refusedFull) ++ ((wS cI cZ cB cO (c_p 0) n_p n_n n_count n_generators) ++ ((wE cI cZ cB cO (c_p 4) e_p e_n e_steps e_undoing e_chains e_leaving e_found e_foundAt e_foundCount) ++ (wK cI cZ cB cO (c_p 5) k_p k_n k_inOrder k_starts k_firsts k_reached k_reachedAt k_reachedCount)))) := hw.sub [13, 14, 15, 0, 1, 2, 3, 4, 5, 6, 7, 8, 9, 10, 11, 12] (by decide) rfl
  refine lv_if_ne (tgt := 15) hx hb dX7_least_5 (by decide) (fun b2 => ?_) (fun b2 => ?_)
  · replace h := xb_ff b2 h
    refine lv_aload_n hx hb dX7_least_15 rfl (lv_at hl 0 rfl) ?_
    obtain ⟨⟨c_fits_2, e_n_3, e_steps_4, e_undoing_5, e_chains_6, e_leaving_7, e_found_8, e_foundAt_9, e_foundCount_10, k_n_11, k_inOrder_12, k_starts_13, k_firsts_14, k_reached_15, k_reachedAt_16, k_reachedCount_17⟩, q3, h⟩ := xn_i h
    refine x_callVv (As := []) (rest := []) C hw gc_X7_95 ⟨rfl, rfl, ds_X7_fit, (by rw [hR]; exact Nat.le_of_ble_eq_true rfl), (by rw [hR]; exact Nat.le_of_ble_eq_true rfl), Nat.zero_le _, Nat.zero_le _⟩ (c_X7_fit l dC dI cI cZ cB cO c_ad c_p n_p e_p k_p c_fits c_refusedBad c_refusedNo c_refusedFull n_n n_count n_generators e_n e_steps e_undoing e_chains e_leaving e_found e_foundAt e_foundCount k_n k_inOrder k_starts k_firsts k_reached k_reachedAt k_reachedCount _ q3 _) [0, 1, 2, 3, 4, 5, 6, 7, 8, 9, 10, 11, 12, 13, 14, 15] [] (by decide) rfl rfl (by decide) (by decide) rfl rfl rfl hl.1 rfl (Nat.le_of_ble_eq_true rfl) dX7_least_16 (fun H locs hw => ?_)
    have hw : xWd (dC, dI) A s.heap H locs ((wC cI cZ cB cO c_ad c_p c_fits_2 c_refusedBad c_refusedNo c_refusedFull) ++ ((wS cI cZ cB cO (c_p 0) n_p n_n n_count n_generators) ++ ((wE cI cZ cB cO (c_p 4) e_p e_n_3 e_steps_4 e_undoing_5 e_chains_6 e_leaving_7 e_found_8 e_foundAt_9 e_foundCount_10) ++ (wK cI cZ cB cO (c_p 5) k_p k_n_11 k_inOrder_12 k_starts_13 k_firsts_14 k_reached_15 k_reachedAt_16 k_reachedCount_17)))) := hw
    refine lv_aload_n hx hb dX7_least_19 rfl (lv_at hl 0 rfl) ?_
    refine x_get (ci := 6) C hw inX7 rfl 5 (by decide) lkF_X7_47 rfl 0 rfl rfl dX7_least_20 ?_
    refine lv_iload_n hx hb dX7_least_23 rfl (lv_at hl 1 rfl) ?_
    obtain ⟨r_18, q4, h⟩ := xn_i h
    refine x_callVi (As := [.int v1]) (rest := []) C hw gc_X7_120 ⟨rfl, rfl, ds_X0_first, (by rw [hR]; exact Nat.le_of_ble_eq_true rfl), (by rw [hR]; exact Nat.le_of_ble_eq_true rfl), Nat.zero_le _, Nat.zero_le _⟩ (c_X0_first l dC dI cI cZ cB cO (c_p 5) k_p k_n_11 k_inOrder_12 k_starts_13 k_firsts_14 k_reached_15 k_reachedAt_16 k_reachedCount_17 v1 _ q4 _) [10, 11, 12, 13, 14, 15] [0, 1, 2, 3, 4, 5, 6, 7, 8, 9] (by decide) rfl rfl (by decide) (by decide) rfl rfl rfl hl.1 rfl (Nat.le_of_ble_eq_true rfl) dX7_least_24 (fun H locs hw => ?_)
    have hw : xWd (dC, dI) A s.heap H locs ((wC cI cZ cB cO c_ad c_p c_fits_2 c_refusedBad c_refusedNo c_refusedFull) ++ ((wS cI cZ cB cO (c_p 0) n_p n_n n_count n_generators) ++ ((wE cI cZ cB cO (c_p 4) e_p e_n_3 e_steps_4 e_undoing_5 e_chains_6 e_leaving_7 e_found_8 e_foundAt_9 e_foundCount_10) ++ (wK cI cZ cB cO (c_p 5) k_p k_n_11 k_inOrder_12 k_starts_13 k_firsts_14 k_reached_15 k_reachedAt_16 k_reachedCount_17)))) := hw
    obtain rfl := Option.some.inj h
    exact x_reti C hQ hA hw dX7_least_27
  · replace h := xb_tt b2 h
    refine lv_aload_n hx hb dX7_least_8 rfl (lv_at hl 0 rfl) ?_
    refine lv_bipush (v := (-2 : Int32)) hx hb dX7_least_9 (by decide) ?_
    obtain ⟨⟨c_refusedBad_19, c_refusedNo_20, c_refusedFull_21, r_22⟩, q5, h⟩ := xn_i h
    refine x_callVi (As := [.int (-2 : Int32)]) (rest := []) C hw gc_X7_65 ⟨rfl, rfl, ds_X7_refuse, (by rw [hR]; exact Nat.le_of_ble_eq_true rfl), (by rw [hR]; exact Nat.le_of_ble_eq_true rfl), Nat.zero_le _, Nat.zero_le _⟩ (c_X7_refuse l dC dI cI cZ cB cO c_ad c_p c_fits c_refusedBad c_refusedNo c_refusedFull (-2 : Int32) _ q5 _) [0] [1, 2, 3, 4, 5, 6, 7, 8, 9, 10, 11, 12, 13, 14, 15] (by decide) rfl rfl (by decide) (by decide) rfl rfl rfl hl.1 rfl (Nat.le_of_ble_eq_true rfl) dX7_least_11 (fun H locs hw => ?_)
    have hw : xWd (dC, dI) A s.heap H locs ((wC cI cZ cB cO c_ad c_p c_fits c_refusedBad_19 c_refusedNo_20 c_refusedFull_21) ++ ((wS cI cZ cB cO (c_p 0) n_p n_n n_count n_generators) ++ ((wE cI cZ cB cO (c_p 4) e_p e_n e_steps e_undoing e_chains e_leaving e_found e_foundAt e_foundCount) ++ (wK cI cZ cB cO (c_p 5) k_p k_n k_inOrder k_starts k_firsts k_reached k_reachedAt k_reachedCount)))) := hw.sub [15, 0, 1, 2, 3, 4, 5, 6, 7, 8, 9, 10, 11, 12, 13, 14] (by decide) rfl
    obtain rfl := Option.some.inj h
    exact x_reti C hQ hA hw dX7_least_14
noncomputable def f_X7_images (c_fits : Int32) (c_refusedBad : Int32) (c_refusedNo : Int32) (c_refusedFull : Int32) (n_n : Int32) (n_count : Int32) (n_generators : (Nat → Int32)) (e_n : Int32) (e_steps : (Nat → Int32)) (e_undoing : (Nat → Int32)) (e_chains : (Nat → Int32)) (e_leaving : (Nat → Int32)) (e_found : (Nat → Int32)) (e_foundAt : (Nat → Int32)) (e_foundCount : Int32) (k_n : Int32) (k_inOrder : (Nat → Int32)) (k_starts : (Nat → Int32)) (k_firsts : (Nat → Int32)) (k_reached : (Nat → Int32)) (k_reachedAt : (Nat → Int32)) (k_reachedCount : Int32) (v1 : Int32) (v2 : Int32) : Option (Int32 × Int32 × Int32 × Int32 × Int32 × (Nat → Int32) × (Nat → Int32) × (Nat → Int32) × (Nat → Int32) × (Nat → Int32) × (Nat → Int32) × Int32 × Int32 × (Nat → Int32) × (Nat → Int32) × (Nat → Int32) × (Nat → Int32) × (Nat → Int32) × Int32 × Int32) := xn (f_X7_isSet n_n v1) (fun (r_1 : Int32) => xb (r_1 = 0) (xn (f_X7_refuse c_refusedBad c_refusedNo c_refusedFull (-2 : Int32)) (fun (z : Int32 × Int32 × Int32 × Int32) => match z with | (c_refusedBad_2, c_refusedNo_3, c_refusedFull_4, r_5) => some (c_fits, c_refusedBad_2, c_refusedNo_3, c_refusedFull_4, e_n, e_steps, e_undoing, e_chains, e_leaving, e_found, e_foundAt, e_foundCount, k_n, k_inOrder, k_starts, k_firsts, k_reached, k_reachedAt, k_reachedCount, r_5))) (xb ((-1 : Int32) ≤ v2) (xn (f_X7_fit c_fits n_n n_count n_generators e_n e_steps e_undoing e_chains e_leaving e_found e_foundAt e_foundCount k_n k_inOrder k_starts k_firsts k_reached k_reachedAt k_reachedCount) (fun (z : Int32 × Int32 × (Nat → Int32) × (Nat → Int32) × (Nat → Int32) × (Nat → Int32) × (Nat → Int32) × (Nat → Int32) × Int32 × Int32 × (Nat → Int32) × (Nat → Int32) × (Nat → Int32) × (Nat → Int32) × (Nat → Int32) × Int32) => match z with | (c_fits_6, e_n_7, e_steps_8, e_undoing_9, e_chains_10, e_leaving_11, e_found_12, e_foundAt_13, e_foundCount_14, k_n_15, k_inOrder_16, k_starts_17, k_firsts_18, k_reached_19, k_reachedAt_20, k_reachedCount_21) => xb (v2 = (-1 : Int32)) (xn (f_X0_countWith k_n_15 k_inOrder_16 k_starts_17 k_firsts_18 v1) (fun (r_23 : Int32) => some (c_fits_6, c_refusedBad, c_refusedNo, c_refusedFull, e_n_7, e_steps_8, e_undoing_9, e_chains_10, e_leaving_11, e_found_12, e_foundAt_13, e_foundCount_14, k_n_15, k_inOrder_16, k_starts_17, k_firsts_18, k_reached_19, k_reachedAt_20, k_reachedCount_21, r_23))) (xn (f_X0_nthWith k_n_15 k_inOrder_16 k_starts_17 k_firsts_18 v1 v2) (fun (r_22 : Int32) => some (c_fits_6, c_refusedBad, c_refusedNo, c_refusedFull, e_n_7, e_steps_8, e_undoing_9, e_chains_10, e_leaving_11, e_found_12, e_foundAt_13, e_foundCount_14, k_n_15, k_inOrder_16, k_starts_17, k_firsts_18, k_reached_19, k_reachedAt_20, k_reachedCount_21, r_22))))) (xn (f_X7_refuse c_refusedBad c_refusedNo c_refusedFull (-2 : Int32)) (fun (z : Int32 × Int32 × Int32 × Int32) => match z with | (c_refusedBad_24, c_refusedNo_25, c_refusedFull_26, r_27) => some (c_fits, c_refusedBad_24, c_refusedNo_25, c_refusedFull_26, e_n, e_steps, e_undoing, e_chains, e_leaving, e_found, e_foundAt, e_foundCount, k_n, k_inOrder, k_starts, k_firsts, k_reached, k_reachedAt, k_reachedCount, r_27)))))
set_option maxHeartbeats 4000000 in
set_option maxRecDepth 100000 in
theorem c_X7_images (l : Launch) (dC : Nat → ClassId) (dI : Nat → Nat → Nat) (cI cZ cB cO : ClassId) (c_ad : Nat) (c_p : Nat → Nat) (n_p : Nat → Nat) (e_p : Nat → Nat) (k_p : Nat → Nat) (c_fits : Int32) (c_refusedBad : Int32) (c_refusedNo : Int32) (c_refusedFull : Int32) (n_n : Int32) (n_count : Int32) (n_generators : (Nat → Int32)) (e_n : Int32) (e_steps : (Nat → Int32)) (e_undoing : (Nat → Int32)) (e_chains : (Nat → Int32)) (e_leaving : (Nat → Int32)) (e_found : (Nat → Int32)) (e_foundAt : (Nat → Int32)) (e_foundCount : Int32) (k_n : Int32) (k_inOrder : (Nat → Int32)) (k_starts : (Nat → Int32)) (k_firsts : (Nat → Int32)) (k_reached : (Nat → Int32)) (k_reachedAt : (Nat → Int32)) (k_reachedCount : Int32) (v1 : Int32) (v2 : Int32) (o : Int32 × Int32 × Int32 × Int32 × Int32 × (Nat → Int32) × (Nat → Int32) × (Nat → Int32) × (Nat → Int32) × (Nat → Int32) × (Nat → Int32) × Int32 × Int32 × (Nat → Int32) × (Nat → Int32) × (Nat → Int32) × (Nat → Int32) × (Nat → Int32) × Int32 × Int32) (h : f_X7_images c_fits c_refusedBad c_refusedNo c_refusedFull n_n n_count n_generators e_n e_steps e_undoing e_chains e_leaving e_found e_foundAt e_foundCount k_n k_inOrder k_starts k_firsts k_reached k_reachedAt k_reachedCount v1 v2 = some o) (sz : Nat) : Met l yX7_images (xW yX7_images cX7_images 3 (some .int)) { frames := 6, cells := 0, slots := 0, locals := 133 } (xPre dC dI (xT cI cZ cB cO) [.ref c_ad, .int v1, .int v2] ((wC cI cZ cB cO c_ad c_p c_fits c_refusedBad c_refusedNo c_refusedFull) ++ ((wS cI cZ cB cO (c_p 0) n_p n_n n_count n_generators) ++ ((wE cI cZ cB cO (c_p 4) e_p e_n e_steps e_undoing e_chains e_leaving e_found e_foundAt e_foundCount) ++ (wK cI cZ cB cO (c_p 5) k_p k_n k_inOrder k_starts k_firsts k_reached k_reachedAt k_reachedCount)))) sz) (xQi dC dI (xT cI cZ cB cO) o.2.2.2.2.2.2.2.2.2.2.2.2.2.2.2.2.2.2.2 ((wC cI cZ cB cO c_ad c_p c_fits c_refusedBad c_refusedNo c_refusedFull) ++ ((wS cI cZ cB cO (c_p 0) n_p n_n n_count n_generators) ++ ((wE cI cZ cB cO (c_p 4) e_p e_n e_steps e_undoing e_chains e_leaving e_found e_foundAt e_foundCount) ++ (wK cI cZ cB cO (c_p 5) k_p k_n k_inOrder k_starts k_firsts k_reached k_reachedAt k_reachedCount)))) ((wC cI cZ cB cO c_ad c_p o.1 o.2.1 o.2.2.1 o.2.2.2.1) ++ ((wS cI cZ cB cO (c_p 0) n_p n_n n_count n_generators) ++ ((wE cI cZ cB cO (c_p 4) e_p o.2.2.2.2.1 o.2.2.2.2.2.1 o.2.2.2.2.2.2.1 o.2.2.2.2.2.2.2.1 o.2.2.2.2.2.2.2.2.1 o.2.2.2.2.2.2.2.2.2.1 o.2.2.2.2.2.2.2.2.2.2.1 o.2.2.2.2.2.2.2.2.2.2.2.1) ++ (wK cI cZ cB cO (c_p 5) k_p o.2.2.2.2.2.2.2.2.2.2.2.2.1 o.2.2.2.2.2.2.2.2.2.2.2.2.2.1 o.2.2.2.2.2.2.2.2.2.2.2.2.2.2.1 o.2.2.2.2.2.2.2.2.2.2.2.2.2.2.2.1 o.2.2.2.2.2.2.2.2.2.2.2.2.2.2.2.2.1 o.2.2.2.2.2.2.2.2.2.2.2.2.2.2.2.2.2.1 o.2.2.2.2.2.2.2.2.2.2.2.2.2.2.2.2.2.2.1)))) sz) 0 0 (va_A ((wC cI cZ cB cO c_ad c_p c_fits c_refusedBad c_refusedNo c_refusedFull) ++ ((wS cI cZ cB cO (c_p 0) n_p n_n n_count n_generators) ++ ((wE cI cZ cB cO (c_p 4) e_p e_n e_steps e_undoing e_chains e_leaving e_found e_foundAt e_foundCount) ++ (wK cI cZ cB cO (c_p 5) k_p k_n k_inOrder k_starts k_firsts k_reached k_reachedAt k_reachedCount)))) sz) := by
  refine x_met (by decide) (Nat.le_of_ble_eq_true rfl) ?_
  intro p e s m args below meth c R Q A hR hsz hA hQ hin C hw ls hl
  have hx := C.1
  have hb := C.2.1
  have hown := C.2.2.2.1
  have htb := C.2.2.2.2.1
  have hl : lv_has ls 3 [(0, .ref c_ad), (1, .int v1), (2, .int v2)] := hl
  refine lv_aload_n hx hb dX7_images_0 rfl (lv_at hl 0 rfl) ?_
  refine lv_iload_n hx hb dX7_images_1 rfl (lv_at hl 1 rfl) ?_
  obtain ⟨r_1, q1, h⟩ := xn_i h
  refine x_callVi (As := [.int v1]) (rest := []) C hw gc_X7_114 ⟨rfl, rfl, ds_X7_isSet, (by rw [hR]; exact Nat.le_of_ble_eq_true rfl), (by rw [hR]; exact Nat.le_of_ble_eq_true rfl), Nat.zero_le _, Nat.zero_le _⟩ (c_X7_isSet l dC dI cI cZ cB cO c_ad c_p n_p c_fits c_refusedBad c_refusedNo c_refusedFull n_n n_count n_generators v1 _ q1 _) [0, 1, 2] [3, 4, 5, 6, 7, 8, 9, 10, 11, 12, 13, 14, 15] (by decide) rfl rfl (by decide) (by decide) rfl rfl rfl hl.1 rfl (Nat.le_of_ble_eq_true rfl) dX7_images_2 (fun H locs hw => ?_)
  have hw : xWd (dC, dI) A s.heap H locs ((wC cI cZ cB cO c_ad c_p c_fits c_refusedBad c_refusedNo c_refusedFull) ++ ((wS cI cZ cB cO (c_p 0) n_p n_n n_count n_generators) ++ ((wE cI cZ cB cO (c_p 4) e_p e_n e_steps e_undoing e_chains e_leaving e_found e_foundAt e_foundCount) ++ (wK cI cZ cB cO (c_p 5) k_p k_n k_inOrder k_starts k_firsts k_reached k_reachedAt k_reachedCount)))) := hw.sub [13, 14, 15, 0, 1, 2, 3, 4, 5, 6, 7, 8, 9, 10, 11, 12] (by decide) rfl
  refine lv_if_eq (tgt := 13) hx hb dX7_images_5 (by decide) (fun b2 => ?_) (fun b2 => ?_)
  · replace h := xb_tt b2 h
    refine lv_aload_n hx hb dX7_images_13 rfl (lv_at hl 0 rfl) ?_
    refine lv_bipush (v := (-2 : Int32)) hx hb dX7_images_14 (by decide) ?_
    obtain ⟨⟨c_refusedBad_2, c_refusedNo_3, c_refusedFull_4, r_5⟩, q3, h⟩ := xn_i h
    refine x_callVi (As := [.int (-2 : Int32)]) (rest := []) C hw gc_X7_65 ⟨rfl, rfl, ds_X7_refuse, (by rw [hR]; exact Nat.le_of_ble_eq_true rfl), (by rw [hR]; exact Nat.le_of_ble_eq_true rfl), Nat.zero_le _, Nat.zero_le _⟩ (c_X7_refuse l dC dI cI cZ cB cO c_ad c_p c_fits c_refusedBad c_refusedNo c_refusedFull (-2 : Int32) _ q3 _) [0] [1, 2, 3, 4, 5, 6, 7, 8, 9, 10, 11, 12, 13, 14, 15] (by decide) rfl rfl (by decide) (by decide) rfl rfl rfl hl.1 rfl (Nat.le_of_ble_eq_true rfl) dX7_images_16 (fun H locs hw => ?_)
    have hw : xWd (dC, dI) A s.heap H locs ((wC cI cZ cB cO c_ad c_p c_fits c_refusedBad_2 c_refusedNo_3 c_refusedFull_4) ++ ((wS cI cZ cB cO (c_p 0) n_p n_n n_count n_generators) ++ ((wE cI cZ cB cO (c_p 4) e_p e_n e_steps e_undoing e_chains e_leaving e_found e_foundAt e_foundCount) ++ (wK cI cZ cB cO (c_p 5) k_p k_n k_inOrder k_starts k_firsts k_reached k_reachedAt k_reachedCount)))) := hw.sub [15, 0, 1, 2, 3, 4, 5, 6, 7, 8, 9, 10, 11, 12, 13, 14] (by decide) rfl
    obtain rfl := Option.some.inj h
    exact x_reti C hQ hA hw dX7_images_19
  · replace h := xb_ff b2 h
    refine lv_iload_n hx hb dX7_images_8 rfl (lv_at hl 2 rfl) ?_
    refine lv_iconst (v := (-1 : Int32)) hx hb dX7_images_9 (by decide) ?_
    refine lv_icmp_ge (tgt := 20) hx hb dX7_images_10 (by decide) (fun b4 => ?_) (fun b4 => ?_)
    · replace h := xb_tt b4 h
      refine lv_aload_n hx hb dX7_images_20 rfl (lv_at hl 0 rfl) ?_
      obtain ⟨⟨c_fits_6, e_n_7, e_steps_8, e_undoing_9, e_chains_10, e_leaving_11, e_found_12, e_foundAt_13, e_foundCount_14, k_n_15, k_inOrder_16, k_starts_17, k_firsts_18, k_reached_19, k_reachedAt_20, k_reachedCount_21⟩, q5, h⟩ := xn_i h
      refine x_callVv (As := []) (rest := []) C hw gc_X7_95 ⟨rfl, rfl, ds_X7_fit, (by rw [hR]; exact Nat.le_of_ble_eq_true rfl), (by rw [hR]; exact Nat.le_of_ble_eq_true rfl), Nat.zero_le _, Nat.zero_le _⟩ (c_X7_fit l dC dI cI cZ cB cO c_ad c_p n_p e_p k_p c_fits c_refusedBad c_refusedNo c_refusedFull n_n n_count n_generators e_n e_steps e_undoing e_chains e_leaving e_found e_foundAt e_foundCount k_n k_inOrder k_starts k_firsts k_reached k_reachedAt k_reachedCount _ q5 _) [0, 1, 2, 3, 4, 5, 6, 7, 8, 9, 10, 11, 12, 13, 14, 15] [] (by decide) rfl rfl (by decide) (by decide) rfl rfl rfl hl.1 rfl (Nat.le_of_ble_eq_true rfl) dX7_images_21 (fun H locs hw => ?_)
      have hw : xWd (dC, dI) A s.heap H locs ((wC cI cZ cB cO c_ad c_p c_fits_6 c_refusedBad c_refusedNo c_refusedFull) ++ ((wS cI cZ cB cO (c_p 0) n_p n_n n_count n_generators) ++ ((wE cI cZ cB cO (c_p 4) e_p e_n_7 e_steps_8 e_undoing_9 e_chains_10 e_leaving_11 e_found_12 e_foundAt_13 e_foundCount_14) ++ (wK cI cZ cB cO (c_p 5) k_p k_n_15 k_inOrder_16 k_starts_17 k_firsts_18 k_reached_19 k_reachedAt_20 k_reachedCount_21)))) := hw
      refine lv_iload_n hx hb dX7_images_24 rfl (lv_at hl 2 rfl) ?_
      refine lv_iconst (v := (-1 : Int32)) hx hb dX7_images_25 (by decide) ?_
      refine lv_icmp_ne (tgt := 40) hx hb dX7_images_26 (by decide) (fun b6 => ?_) (fun b6 => ?_)
      · replace h := xb_ff b6 h
        refine lv_aload_n hx hb dX7_images_40 rfl (lv_at hl 0 rfl) ?_
        refine x_get (ci := 6) C hw inX7 rfl 5 (by decide) lkF_X7_47 rfl 0 rfl rfl dX7_images_41 ?_
        refine lv_iload_n hx hb dX7_images_44 rfl (lv_at hl 1 rfl) ?_
        refine lv_iload_n hx hb dX7_images_45 rfl (lv_at hl 2 rfl) ?_
        obtain ⟨r_22, q7, h⟩ := xn_i h
        refine x_callVi (As := [.int v1, .int v2]) (rest := []) C hw gc_X7_126 ⟨rfl, rfl, ds_X0_nthWith, (by rw [hR]; exact Nat.le_of_ble_eq_true rfl), (by rw [hR]; exact Nat.le_of_ble_eq_true rfl), Nat.zero_le _, Nat.zero_le _⟩ (c_X0_nthWith l dC dI cI cZ cB cO (c_p 5) k_p k_n_15 k_inOrder_16 k_starts_17 k_firsts_18 k_reached_19 k_reachedAt_20 k_reachedCount_21 v1 v2 _ q7 _) [10, 11, 12, 13, 14, 15] [0, 1, 2, 3, 4, 5, 6, 7, 8, 9] (by decide) rfl rfl (by decide) (by decide) rfl rfl rfl hl.1 rfl (Nat.le_of_ble_eq_true rfl) dX7_images_46 (fun H locs hw => ?_)
        have hw : xWd (dC, dI) A s.heap H locs ((wC cI cZ cB cO c_ad c_p c_fits_6 c_refusedBad c_refusedNo c_refusedFull) ++ ((wS cI cZ cB cO (c_p 0) n_p n_n n_count n_generators) ++ ((wE cI cZ cB cO (c_p 4) e_p e_n_7 e_steps_8 e_undoing_9 e_chains_10 e_leaving_11 e_found_12 e_foundAt_13 e_foundCount_14) ++ (wK cI cZ cB cO (c_p 5) k_p k_n_15 k_inOrder_16 k_starts_17 k_firsts_18 k_reached_19 k_reachedAt_20 k_reachedCount_21)))) := hw
        obtain rfl := Option.some.inj h
        exact x_reti C hQ hA hw dX7_images_49
      · replace h := xb_tt b6 h
        refine lv_aload_n hx hb dX7_images_29 rfl (lv_at hl 0 rfl) ?_
        refine x_get (ci := 6) C hw inX7 rfl 5 (by decide) lkF_X7_47 rfl 0 rfl rfl dX7_images_30 ?_
        refine lv_iload_n hx hb dX7_images_33 rfl (lv_at hl 1 rfl) ?_
        obtain ⟨r_23, q8, h⟩ := xn_i h
        refine x_callVi (As := [.int v1]) (rest := []) C hw gc_X7_123 ⟨rfl, rfl, ds_X0_countWith, (by rw [hR]; exact Nat.le_of_ble_eq_true rfl), (by rw [hR]; exact Nat.le_of_ble_eq_true rfl), Nat.zero_le _, Nat.zero_le _⟩ (c_X0_countWith l dC dI cI cZ cB cO (c_p 5) k_p k_n_15 k_inOrder_16 k_starts_17 k_firsts_18 k_reached_19 k_reachedAt_20 k_reachedCount_21 v1 _ q8 _) [10, 11, 12, 13, 14, 15] [0, 1, 2, 3, 4, 5, 6, 7, 8, 9] (by decide) rfl rfl (by decide) (by decide) rfl rfl rfl hl.1 rfl (Nat.le_of_ble_eq_true rfl) dX7_images_34 (fun H locs hw => ?_)
        have hw : xWd (dC, dI) A s.heap H locs ((wC cI cZ cB cO c_ad c_p c_fits_6 c_refusedBad c_refusedNo c_refusedFull) ++ ((wS cI cZ cB cO (c_p 0) n_p n_n n_count n_generators) ++ ((wE cI cZ cB cO (c_p 4) e_p e_n_7 e_steps_8 e_undoing_9 e_chains_10 e_leaving_11 e_found_12 e_foundAt_13 e_foundCount_14) ++ (wK cI cZ cB cO (c_p 5) k_p k_n_15 k_inOrder_16 k_starts_17 k_firsts_18 k_reached_19 k_reachedAt_20 k_reachedCount_21)))) := hw
        refine lv_goto (tgt := 49) hx hb dX7_images_37 (by decide) ?_
        obtain rfl := Option.some.inj h
        exact x_reti C hQ hA hw dX7_images_49
    · replace h := xb_ff b4 h
      refine lv_aload_n hx hb dX7_images_13 rfl (lv_at hl 0 rfl) ?_
      refine lv_bipush (v := (-2 : Int32)) hx hb dX7_images_14 (by decide) ?_
      obtain ⟨⟨c_refusedBad_24, c_refusedNo_25, c_refusedFull_26, r_27⟩, q9, h⟩ := xn_i h
      refine x_callVi (As := [.int (-2 : Int32)]) (rest := []) C hw gc_X7_65 ⟨rfl, rfl, ds_X7_refuse, (by rw [hR]; exact Nat.le_of_ble_eq_true rfl), (by rw [hR]; exact Nat.le_of_ble_eq_true rfl), Nat.zero_le _, Nat.zero_le _⟩ (c_X7_refuse l dC dI cI cZ cB cO c_ad c_p c_fits c_refusedBad c_refusedNo c_refusedFull (-2 : Int32) _ q9 _) [0] [1, 2, 3, 4, 5, 6, 7, 8, 9, 10, 11, 12, 13, 14, 15] (by decide) rfl rfl (by decide) (by decide) rfl rfl rfl hl.1 rfl (Nat.le_of_ble_eq_true rfl) dX7_images_16 (fun H locs hw => ?_)
      have hw : xWd (dC, dI) A s.heap H locs ((wC cI cZ cB cO c_ad c_p c_fits c_refusedBad_24 c_refusedNo_25 c_refusedFull_26) ++ ((wS cI cZ cB cO (c_p 0) n_p n_n n_count n_generators) ++ ((wE cI cZ cB cO (c_p 4) e_p e_n e_steps e_undoing e_chains e_leaving e_found e_foundAt e_foundCount) ++ (wK cI cZ cB cO (c_p 5) k_p k_n k_inOrder k_starts k_firsts k_reached k_reachedAt k_reachedCount)))) := hw.sub [15, 0, 1, 2, 3, 4, 5, 6, 7, 8, 9, 10, 11, 12, 13, 14] (by decide) rfl
      obtain rfl := Option.some.inj h
      exact x_reti C hQ hA hw dX7_images_19
noncomputable def f_X7_carrier (c_fits : Int32) (c_refusedBad : Int32) (c_refusedNo : Int32) (c_refusedFull : Int32) (n_n : Int32) (n_count : Int32) (n_generators : (Nat → Int32)) (e_n : Int32) (e_steps : (Nat → Int32)) (e_undoing : (Nat → Int32)) (e_chains : (Nat → Int32)) (e_leaving : (Nat → Int32)) (e_found : (Nat → Int32)) (e_foundAt : (Nat → Int32)) (e_foundCount : Int32) (k_n : Int32) (k_inOrder : (Nat → Int32)) (k_starts : (Nat → Int32)) (k_firsts : (Nat → Int32)) (k_reached : (Nat → Int32)) (k_reachedAt : (Nat → Int32)) (k_reachedCount : Int32) (v1 : Int32) (v2 : Int32) : Option (Int32 × Int32 × Int32 × Int32 × Int32 × (Nat → Int32) × (Nat → Int32) × (Nat → Int32) × (Nat → Int32) × (Nat → Int32) × (Nat → Int32) × Int32 × Int32 × (Nat → Int32) × (Nat → Int32) × (Nat → Int32) × (Nat → Int32) × (Nat → Int32) × Int32 × Int32) := xn (f_X7_isSet n_n v1) (fun (r_1 : Int32) => xb (r_1 = 0) (xn (f_X7_refuse c_refusedBad c_refusedNo c_refusedFull (-2 : Int32)) (fun (z : Int32 × Int32 × Int32 × Int32) => match z with | (c_refusedBad_2, c_refusedNo_3, c_refusedFull_4, r_5) => some (c_fits, c_refusedBad_2, c_refusedNo_3, c_refusedFull_4, e_n, e_steps, e_undoing, e_chains, e_leaving, e_found, e_foundAt, e_foundCount, k_n, k_inOrder, k_starts, k_firsts, k_reached, k_reachedAt, k_reachedCount, r_5))) (xn (f_X7_isSet n_n v2) (fun (r_6 : Int32) => xb (r_6 = 0) (xn (f_X7_refuse c_refusedBad c_refusedNo c_refusedFull (-2 : Int32)) (fun (z : Int32 × Int32 × Int32 × Int32) => match z with | (c_refusedBad_7, c_refusedNo_8, c_refusedFull_9, r_10) => some (c_fits, c_refusedBad_7, c_refusedNo_8, c_refusedFull_9, e_n, e_steps, e_undoing, e_chains, e_leaving, e_found, e_foundAt, e_foundCount, k_n, k_inOrder, k_starts, k_firsts, k_reached, k_reachedAt, k_reachedCount, r_10))) (xn (f_J6_bitCount_0f7a4 v1) (fun (r_11 : Int32) => xn (f_J6_bitCount_0f7a4 v2) (fun (r_12 : Int32) => xb (r_11 = r_12) (xn (f_X7_fit c_fits n_n n_count n_generators e_n e_steps e_undoing e_chains e_leaving e_found e_foundAt e_foundCount k_n k_inOrder k_starts k_firsts k_reached k_reachedAt k_reachedCount) (fun (z : Int32 × Int32 × (Nat → Int32) × (Nat → Int32) × (Nat → Int32) × (Nat → Int32) × (Nat → Int32) × (Nat → Int32) × Int32 × Int32 × (Nat → Int32) × (Nat → Int32) × (Nat → Int32) × (Nat → Int32) × (Nat → Int32) × Int32) => match z with | (c_fits_13, e_n_14, e_steps_15, e_undoing_16, e_chains_17, e_leaving_18, e_found_19, e_foundAt_20, e_foundCount_21, k_n_22, k_inOrder_23, k_starts_24, k_firsts_25, k_reached_26, k_reachedAt_27, k_reachedCount_28) => xn (f_X0_firstMove k_n_22 k_reached_26 k_reachedAt_27 k_reachedCount_28 e_steps_15 e_chains_17 v1 v2) (fun (z : (Nat → Int32) × (Nat → Int32) × Int32 × Int32) => match z with | (k_reached_29, k_reachedAt_30, k_reachedCount_31, r_32) => xb (r_32 = (-1 : Int32)) (some (c_fits_13, c_refusedBad, c_refusedNo, c_refusedFull, e_n_14, e_steps_15, e_undoing_16, e_chains_17, e_leaving_18, e_found_19, e_foundAt_20, e_foundCount_21, k_n_22, k_inOrder_23, k_starts_24, k_firsts_25, k_reached_29, k_reachedAt_30, k_reachedCount_31, (-1 : Int32))) (xn (f_X2_write r_32 n_n) (fun (r_33 : Int32) => some (c_fits_13, c_refusedBad, c_refusedNo, c_refusedFull, e_n_14, e_steps_15, e_undoing_16, e_chains_17, e_leaving_18, e_found_19, e_foundAt_20, e_foundCount_21, k_n_22, k_inOrder_23, k_starts_24, k_firsts_25, k_reached_29, k_reachedAt_30, k_reachedCount_31, r_33)))))) (xn (f_X7_refuse c_refusedBad c_refusedNo c_refusedFull (-2 : Int32)) (fun (z : Int32 × Int32 × Int32 × Int32) => match z with | (c_refusedBad_34, c_refusedNo_35, c_refusedFull_36, r_37) => some (c_fits, c_refusedBad_34, c_refusedNo_35, c_refusedFull_36, e_n, e_steps, e_undoing, e_chains, e_leaving, e_found, e_foundAt, e_foundCount, k_n, k_inOrder, k_starts, k_firsts, k_reached, k_reachedAt, k_reachedCount, r_37)))))))))
set_option maxHeartbeats 4000000 in
set_option maxRecDepth 100000 in
theorem c_X7_carrier (l : Launch) (dC : Nat → ClassId) (dI : Nat → Nat → Nat) (cI cZ cB cO : ClassId) (c_ad : Nat) (c_p : Nat → Nat) (n_p : Nat → Nat) (e_p : Nat → Nat) (k_p : Nat → Nat) (c_fits : Int32) (c_refusedBad : Int32) (c_refusedNo : Int32) (c_refusedFull : Int32) (n_n : Int32) (n_count : Int32) (n_generators : (Nat → Int32)) (e_n : Int32) (e_steps : (Nat → Int32)) (e_undoing : (Nat → Int32)) (e_chains : (Nat → Int32)) (e_leaving : (Nat → Int32)) (e_found : (Nat → Int32)) (e_foundAt : (Nat → Int32)) (e_foundCount : Int32) (k_n : Int32) (k_inOrder : (Nat → Int32)) (k_starts : (Nat → Int32)) (k_firsts : (Nat → Int32)) (k_reached : (Nat → Int32)) (k_reachedAt : (Nat → Int32)) (k_reachedCount : Int32) (v1 : Int32) (v2 : Int32) (o : Int32 × Int32 × Int32 × Int32 × Int32 × (Nat → Int32) × (Nat → Int32) × (Nat → Int32) × (Nat → Int32) × (Nat → Int32) × (Nat → Int32) × Int32 × Int32 × (Nat → Int32) × (Nat → Int32) × (Nat → Int32) × (Nat → Int32) × (Nat → Int32) × Int32 × Int32) (h : f_X7_carrier c_fits c_refusedBad c_refusedNo c_refusedFull n_n n_count n_generators e_n e_steps e_undoing e_chains e_leaving e_found e_foundAt e_foundCount k_n k_inOrder k_starts k_firsts k_reached k_reachedAt k_reachedCount v1 v2 = some o) (sz : Nat) : Met l yX7_carrier (xW yX7_carrier cX7_carrier 4 (some .int)) { frames := 6, cells := 0, slots := 0, locals := 133 } (xPre dC dI (xT cI cZ cB cO) [.ref c_ad, .int v1, .int v2] ((wC cI cZ cB cO c_ad c_p c_fits c_refusedBad c_refusedNo c_refusedFull) ++ ((wS cI cZ cB cO (c_p 0) n_p n_n n_count n_generators) ++ ((wE cI cZ cB cO (c_p 4) e_p e_n e_steps e_undoing e_chains e_leaving e_found e_foundAt e_foundCount) ++ (wK cI cZ cB cO (c_p 5) k_p k_n k_inOrder k_starts k_firsts k_reached k_reachedAt k_reachedCount)))) sz) (xQi dC dI (xT cI cZ cB cO) o.2.2.2.2.2.2.2.2.2.2.2.2.2.2.2.2.2.2.2 ((wC cI cZ cB cO c_ad c_p c_fits c_refusedBad c_refusedNo c_refusedFull) ++ ((wS cI cZ cB cO (c_p 0) n_p n_n n_count n_generators) ++ ((wE cI cZ cB cO (c_p 4) e_p e_n e_steps e_undoing e_chains e_leaving e_found e_foundAt e_foundCount) ++ (wK cI cZ cB cO (c_p 5) k_p k_n k_inOrder k_starts k_firsts k_reached k_reachedAt k_reachedCount)))) ((wC cI cZ cB cO c_ad c_p o.1 o.2.1 o.2.2.1 o.2.2.2.1) ++ ((wS cI cZ cB cO (c_p 0) n_p n_n n_count n_generators) ++ ((wE cI cZ cB cO (c_p 4) e_p o.2.2.2.2.1 o.2.2.2.2.2.1 o.2.2.2.2.2.2.1 o.2.2.2.2.2.2.2.1 o.2.2.2.2.2.2.2.2.1 o.2.2.2.2.2.2.2.2.2.1 o.2.2.2.2.2.2.2.2.2.2.1 o.2.2.2.2.2.2.2.2.2.2.2.1) ++ (wK cI cZ cB cO (c_p 5) k_p o.2.2.2.2.2.2.2.2.2.2.2.2.1 o.2.2.2.2.2.2.2.2.2.2.2.2.2.1 o.2.2.2.2.2.2.2.2.2.2.2.2.2.2.1 o.2.2.2.2.2.2.2.2.2.2.2.2.2.2.2.1 o.2.2.2.2.2.2.2.2.2.2.2.2.2.2.2.2.1 o.2.2.2.2.2.2.2.2.2.2.2.2.2.2.2.2.2.1 o.2.2.2.2.2.2.2.2.2.2.2.2.2.2.2.2.2.2.1)))) sz) 0 0 (va_A ((wC cI cZ cB cO c_ad c_p c_fits c_refusedBad c_refusedNo c_refusedFull) ++ ((wS cI cZ cB cO (c_p 0) n_p n_n n_count n_generators) ++ ((wE cI cZ cB cO (c_p 4) e_p e_n e_steps e_undoing e_chains e_leaving e_found e_foundAt e_foundCount) ++ (wK cI cZ cB cO (c_p 5) k_p k_n k_inOrder k_starts k_firsts k_reached k_reachedAt k_reachedCount)))) sz) := by
  refine x_met (by decide) (Nat.le_of_ble_eq_true rfl) ?_
  intro p e s m args below meth c R Q A hR hsz hA hQ hin C hw ls hl
  have hx := C.1
  have hb := C.2.1
  have hown := C.2.2.2.1
  have htb := C.2.2.2.2.1
  have hl : lv_has ls 4 [(0, .ref c_ad), (1, .int v1), (2, .int v2)] := hl
  refine lv_aload_n hx hb dX7_carrier_0 rfl (lv_at hl 0 rfl) ?_
  refine lv_iload_n hx hb dX7_carrier_1 rfl (lv_at hl 1 rfl) ?_
  obtain ⟨r_1, q1, h⟩ := xn_i h
  refine x_callVi (As := [.int v1]) (rest := []) C hw gc_X7_114 ⟨rfl, rfl, ds_X7_isSet, (by rw [hR]; exact Nat.le_of_ble_eq_true rfl), (by rw [hR]; exact Nat.le_of_ble_eq_true rfl), Nat.zero_le _, Nat.zero_le _⟩ (c_X7_isSet l dC dI cI cZ cB cO c_ad c_p n_p c_fits c_refusedBad c_refusedNo c_refusedFull n_n n_count n_generators v1 _ q1 _) [0, 1, 2] [3, 4, 5, 6, 7, 8, 9, 10, 11, 12, 13, 14, 15] (by decide) rfl rfl (by decide) (by decide) rfl rfl rfl hl.1 rfl (Nat.le_of_ble_eq_true rfl) dX7_carrier_2 (fun H locs hw => ?_)
  have hw : xWd (dC, dI) A s.heap H locs ((wC cI cZ cB cO c_ad c_p c_fits c_refusedBad c_refusedNo c_refusedFull) ++ ((wS cI cZ cB cO (c_p 0) n_p n_n n_count n_generators) ++ ((wE cI cZ cB cO (c_p 4) e_p e_n e_steps e_undoing e_chains e_leaving e_found e_foundAt e_foundCount) ++ (wK cI cZ cB cO (c_p 5) k_p k_n k_inOrder k_starts k_firsts k_reached k_reachedAt k_reachedCount)))) := hw.sub [13, 14, 15, 0, 1, 2, 3, 4, 5, 6, 7, 8, 9, 10, 11, 12] (by decide) rfl
  refine lv_if_eq (tgt := 27) hx hb dX7_carrier_5 (by decide) (fun b2 => ?_) (fun b2 => ?_)
  · replace h := xb_tt b2 h
    refine lv_aload_n hx hb dX7_carrier_27 rfl (lv_at hl 0 rfl) ?_
    refine lv_bipush (v := (-2 : Int32)) hx hb dX7_carrier_28 (by decide) ?_
    obtain ⟨⟨c_refusedBad_2, c_refusedNo_3, c_refusedFull_4, r_5⟩, q3, h⟩ := xn_i h
    refine x_callVi (As := [.int (-2 : Int32)]) (rest := []) C hw gc_X7_65 ⟨rfl, rfl, ds_X7_refuse, (by rw [hR]; exact Nat.le_of_ble_eq_true rfl), (by rw [hR]; exact Nat.le_of_ble_eq_true rfl), Nat.zero_le _, Nat.zero_le _⟩ (c_X7_refuse l dC dI cI cZ cB cO c_ad c_p c_fits c_refusedBad c_refusedNo c_refusedFull (-2 : Int32) _ q3 _) [0] [1, 2, 3, 4, 5, 6, 7, 8, 9, 10, 11, 12, 13, 14, 15] (by decide) rfl rfl (by decide) (by decide) rfl rfl rfl hl.1 rfl (Nat.le_of_ble_eq_true rfl) dX7_carrier_30 (fun H locs hw => ?_)
    have hw : xWd (dC, dI) A s.heap H locs ((wC cI cZ cB cO c_ad c_p c_fits c_refusedBad_2 c_refusedNo_3 c_refusedFull_4) ++ ((wS cI cZ cB cO (c_p 0) n_p n_n n_count n_generators) ++ ((wE cI cZ cB cO (c_p 4) e_p e_n e_steps e_undoing e_chains e_leaving e_found e_foundAt e_foundCount) ++ (wK cI cZ cB cO (c_p 5) k_p k_n k_inOrder k_starts k_firsts k_reached k_reachedAt k_reachedCount)))) := hw.sub [15, 0, 1, 2, 3, 4, 5, 6, 7, 8, 9, 10, 11, 12, 13, 14] (by decide) rfl
    obtain rfl := Option.some.inj h
    exact x_reti C hQ hA hw dX7_carrier_33
  · replace h := xb_ff b2 h
    refine lv_aload_n hx hb dX7_carrier_8 rfl (lv_at hl 0 rfl) ?_
    refine lv_iload_n hx hb dX7_carrier_9 rfl (lv_at hl 2 rfl) ?_
    obtain ⟨r_6, q4, h⟩ := xn_i h
    refine x_callVi (As := [.int v2]) (rest := []) C hw gc_X7_114 ⟨rfl, rfl, ds_X7_isSet, (by rw [hR]; exact Nat.le_of_ble_eq_true rfl), (by rw [hR]; exact Nat.le_of_ble_eq_true rfl), Nat.zero_le _, Nat.zero_le _⟩ (c_X7_isSet l dC dI cI cZ cB cO c_ad c_p n_p c_fits c_refusedBad c_refusedNo c_refusedFull n_n n_count n_generators v2 _ q4 _) [0, 1, 2] [3, 4, 5, 6, 7, 8, 9, 10, 11, 12, 13, 14, 15] (by decide) rfl rfl (by decide) (by decide) rfl rfl rfl hl.1 rfl (Nat.le_of_ble_eq_true rfl) dX7_carrier_10 (fun H locs hw => ?_)
    have hw : xWd (dC, dI) A s.heap H locs ((wC cI cZ cB cO c_ad c_p c_fits c_refusedBad c_refusedNo c_refusedFull) ++ ((wS cI cZ cB cO (c_p 0) n_p n_n n_count n_generators) ++ ((wE cI cZ cB cO (c_p 4) e_p e_n e_steps e_undoing e_chains e_leaving e_found e_foundAt e_foundCount) ++ (wK cI cZ cB cO (c_p 5) k_p k_n k_inOrder k_starts k_firsts k_reached k_reachedAt k_reachedCount)))) := hw.sub [13, 14, 15, 0, 1, 2, 3, 4, 5, 6, 7, 8, 9, 10, 11, 12] (by decide) rfl
    refine lv_if_eq (tgt := 27) hx hb dX7_carrier_13 (by decide) (fun b5 => ?_) (fun b5 => ?_)
    · replace h := xb_tt b5 h
      refine lv_aload_n hx hb dX7_carrier_27 rfl (lv_at hl 0 rfl) ?_
      refine lv_bipush (v := (-2 : Int32)) hx hb dX7_carrier_28 (by decide) ?_
      obtain ⟨⟨c_refusedBad_7, c_refusedNo_8, c_refusedFull_9, r_10⟩, q6, h⟩ := xn_i h
      refine x_callVi (As := [.int (-2 : Int32)]) (rest := []) C hw gc_X7_65 ⟨rfl, rfl, ds_X7_refuse, (by rw [hR]; exact Nat.le_of_ble_eq_true rfl), (by rw [hR]; exact Nat.le_of_ble_eq_true rfl), Nat.zero_le _, Nat.zero_le _⟩ (c_X7_refuse l dC dI cI cZ cB cO c_ad c_p c_fits c_refusedBad c_refusedNo c_refusedFull (-2 : Int32) _ q6 _) [0] [1, 2, 3, 4, 5, 6, 7, 8, 9, 10, 11, 12, 13, 14, 15] (by decide) rfl rfl (by decide) (by decide) rfl rfl rfl hl.1 rfl (Nat.le_of_ble_eq_true rfl) dX7_carrier_30 (fun H locs hw => ?_)
      have hw : xWd (dC, dI) A s.heap H locs ((wC cI cZ cB cO c_ad c_p c_fits c_refusedBad_7 c_refusedNo_8 c_refusedFull_9) ++ ((wS cI cZ cB cO (c_p 0) n_p n_n n_count n_generators) ++ ((wE cI cZ cB cO (c_p 4) e_p e_n e_steps e_undoing e_chains e_leaving e_found e_foundAt e_foundCount) ++ (wK cI cZ cB cO (c_p 5) k_p k_n k_inOrder k_starts k_firsts k_reached k_reachedAt k_reachedCount)))) := hw.sub [15, 0, 1, 2, 3, 4, 5, 6, 7, 8, 9, 10, 11, 12, 13, 14] (by decide) rfl
      obtain rfl := Option.some.inj h
      exact x_reti C hQ hA hw dX7_carrier_33
    · replace h := xb_ff b5 h
      refine lv_iload_n hx hb dX7_carrier_16 rfl (lv_at hl 1 rfl) ?_
      obtain ⟨r_11, q7, h⟩ := xn_i h
      refine x_callSi (As := [.int v1]) (rest := []) C hw gc_X7_129 ds_J6_bitCount_0f7a4 (by rw [hR]; exact Nat.le_of_ble_eq_true rfl) (by rw [hR]; exact Nat.le_of_ble_eq_true rfl) rfl rfl (Nat.zero_le _) (Nat.zero_le _) (c_J6_bitCount_0f7a4 l dC dI cI cZ cB cO v1 _ q7 _) [] [0, 1, 2, 3, 4, 5, 6, 7, 8, 9, 10, 11, 12, 13, 14, 15] (by decide) rfl rfl (by decide) (by decide) rfl hl.1 rfl (Nat.le_of_ble_eq_true rfl) dX7_carrier_17 (fun H locs hw => ?_)
      have hw : xWd (dC, dI) A s.heap H locs ((wC cI cZ cB cO c_ad c_p c_fits c_refusedBad c_refusedNo c_refusedFull) ++ ((wS cI cZ cB cO (c_p 0) n_p n_n n_count n_generators) ++ ((wE cI cZ cB cO (c_p 4) e_p e_n e_steps e_undoing e_chains e_leaving e_found e_foundAt e_foundCount) ++ (wK cI cZ cB cO (c_p 5) k_p k_n k_inOrder k_starts k_firsts k_reached k_reachedAt k_reachedCount)))) := hw.sub [0, 1, 2, 3, 4, 5, 6, 7, 8, 9, 10, 11, 12, 13, 14, 15] (by decide) rfl
      refine lv_iload_n hx hb dX7_carrier_20 rfl (lv_at hl 2 rfl) ?_
      obtain ⟨r_12, q8, h⟩ := xn_i h
      refine x_callSi (As := [.int v2]) (rest := [.int r_11]) C hw gc_X7_129 ds_J6_bitCount_0f7a4 (by rw [hR]; exact Nat.le_of_ble_eq_true rfl) (by rw [hR]; exact Nat.le_of_ble_eq_true rfl) rfl rfl (Nat.zero_le _) (Nat.zero_le _) (c_J6_bitCount_0f7a4 l dC dI cI cZ cB cO v2 _ q8 _) [] [0, 1, 2, 3, 4, 5, 6, 7, 8, 9, 10, 11, 12, 13, 14, 15] (by decide) rfl rfl (by decide) (by decide) rfl hl.1 rfl (Nat.le_of_ble_eq_true rfl) dX7_carrier_21 (fun H locs hw => ?_)
      have hw : xWd (dC, dI) A s.heap H locs ((wC cI cZ cB cO c_ad c_p c_fits c_refusedBad c_refusedNo c_refusedFull) ++ ((wS cI cZ cB cO (c_p 0) n_p n_n n_count n_generators) ++ ((wE cI cZ cB cO (c_p 4) e_p e_n e_steps e_undoing e_chains e_leaving e_found e_foundAt e_foundCount) ++ (wK cI cZ cB cO (c_p 5) k_p k_n k_inOrder k_starts k_firsts k_reached k_reachedAt k_reachedCount)))) := hw.sub [0, 1, 2, 3, 4, 5, 6, 7, 8, 9, 10, 11, 12, 13, 14, 15] (by decide) rfl
      refine lv_icmp_eq (tgt := 34) hx hb dX7_carrier_24 (by decide) (fun b9 => ?_) (fun b9 => ?_)
      · replace h := xb_tt b9 h
        refine lv_aload_n hx hb dX7_carrier_34 rfl (lv_at hl 0 rfl) ?_
        obtain ⟨⟨c_fits_13, e_n_14, e_steps_15, e_undoing_16, e_chains_17, e_leaving_18, e_found_19, e_foundAt_20, e_foundCount_21, k_n_22, k_inOrder_23, k_starts_24, k_firsts_25, k_reached_26, k_reachedAt_27, k_reachedCount_28⟩, q10, h⟩ := xn_i h
        refine x_callVv (As := []) (rest := []) C hw gc_X7_95 ⟨rfl, rfl, ds_X7_fit, (by rw [hR]; exact Nat.le_of_ble_eq_true rfl), (by rw [hR]; exact Nat.le_of_ble_eq_true rfl), Nat.zero_le _, Nat.zero_le _⟩ (c_X7_fit l dC dI cI cZ cB cO c_ad c_p n_p e_p k_p c_fits c_refusedBad c_refusedNo c_refusedFull n_n n_count n_generators e_n e_steps e_undoing e_chains e_leaving e_found e_foundAt e_foundCount k_n k_inOrder k_starts k_firsts k_reached k_reachedAt k_reachedCount _ q10 _) [0, 1, 2, 3, 4, 5, 6, 7, 8, 9, 10, 11, 12, 13, 14, 15] [] (by decide) rfl rfl (by decide) (by decide) rfl rfl rfl hl.1 rfl (Nat.le_of_ble_eq_true rfl) dX7_carrier_35 (fun H locs hw => ?_)
        have hw : xWd (dC, dI) A s.heap H locs ((wC cI cZ cB cO c_ad c_p c_fits_13 c_refusedBad c_refusedNo c_refusedFull) ++ ((wS cI cZ cB cO (c_p 0) n_p n_n n_count n_generators) ++ ((wE cI cZ cB cO (c_p 4) e_p e_n_14 e_steps_15 e_undoing_16 e_chains_17 e_leaving_18 e_found_19 e_foundAt_20 e_foundCount_21) ++ (wK cI cZ cB cO (c_p 5) k_p k_n_22 k_inOrder_23 k_starts_24 k_firsts_25 k_reached_26 k_reachedAt_27 k_reachedCount_28)))) := hw
        refine lv_aload_n hx hb dX7_carrier_38 rfl (lv_at hl 0 rfl) ?_
        refine x_get (ci := 6) C hw inX7 rfl 5 (by decide) lkF_X7_47 rfl 0 rfl rfl dX7_carrier_39 ?_
        refine lv_aload_n hx hb dX7_carrier_42 rfl (lv_at hl 0 rfl) ?_
        refine x_get (ci := 6) C hw inX7 rfl 4 (by decide) lkF_X7_40 rfl 0 rfl rfl dX7_carrier_43 ?_
        refine lv_iload_n hx hb dX7_carrier_46 rfl (lv_at hl 1 rfl) ?_
        refine lv_iload_n hx hb dX7_carrier_47 rfl (lv_at hl 2 rfl) ?_
        obtain ⟨⟨k_reached_29, k_reachedAt_30, k_reachedCount_31, r_32⟩, q11, h⟩ := xn_i h
        refine x_callVi (As := [.ref (c_p 4), .int v1, .int v2]) (rest := []) C hw gc_X7_134 ⟨rfl, rfl, ds_X0_firstMove, (by rw [hR]; exact Nat.le_of_ble_eq_true rfl), (by rw [hR]; exact Nat.le_of_ble_eq_true rfl), Nat.zero_le _, Nat.zero_le _⟩ (c_X0_firstMove l dC dI cI cZ cB cO (c_p 5) k_p (c_p 4) e_p k_n_22 k_inOrder_23 k_starts_24 k_firsts_25 k_reached_26 k_reachedAt_27 k_reachedCount_28 e_n_14 e_steps_15 e_undoing_16 e_chains_17 e_leaving_18 e_found_19 e_foundAt_20 e_foundCount_21 v1 v2 _ q11 _) [10, 11, 12, 13, 14, 15, 3, 4, 5, 6, 7, 8, 9] [0, 1, 2] (by decide) rfl rfl (by decide) (by decide) rfl rfl rfl hl.1 rfl (Nat.le_of_ble_eq_true rfl) dX7_carrier_48 (fun H locs hw => ?_)
        have hw : xWd (dC, dI) A s.heap H locs ((wC cI cZ cB cO c_ad c_p c_fits_13 c_refusedBad c_refusedNo c_refusedFull) ++ ((wS cI cZ cB cO (c_p 0) n_p n_n n_count n_generators) ++ ((wE cI cZ cB cO (c_p 4) e_p e_n_14 e_steps_15 e_undoing_16 e_chains_17 e_leaving_18 e_found_19 e_foundAt_20 e_foundCount_21) ++ (wK cI cZ cB cO (c_p 5) k_p k_n_22 k_inOrder_23 k_starts_24 k_firsts_25 k_reached_29 k_reachedAt_30 k_reachedCount_31)))) := hw.sub [0, 1, 2, 9, 10, 11, 12, 13, 14, 15, 3, 4, 5, 6, 7, 8] (by decide) rfl
        refine lv_istore_n (lv' := [(3, .int r_32), (0, .ref c_ad), (1, .int v1), (2, .int v2)]) hx hb dX7_carrier_51 rfl hl (by decide) rfl (fun ls hl => ?_)
        refine lv_iload_n hx hb dX7_carrier_52 rfl (lv_at hl 0 rfl) ?_
        refine lv_iconst (v := (-1 : Int32)) hx hb dX7_carrier_53 (by decide) ?_
        refine lv_icmp_ne (tgt := 61) hx hb dX7_carrier_54 (by decide) (fun b12 => ?_) (fun b12 => ?_)
        · replace h := xb_ff b12 h
          refine lv_iload_n hx hb dX7_carrier_61 rfl (lv_at hl 0 rfl) ?_
          refine lv_aload_n hx hb dX7_carrier_62 rfl (lv_at hl 1 rfl) ?_
          refine x_get (ci := 6) C hw inX7 rfl 0 (by decide) lkF_X7_10 rfl 0 rfl rfl dX7_carrier_63 ?_
          refine x_get (ci := 3) C hw inX4 rfl 0 (by decide) lkF_X7_69 rfl 1 rfl rfl dX7_carrier_66 ?_
          obtain ⟨r_33, q13, h⟩ := xn_i h
          refine x_callSi (As := [.int r_32, .int n_n]) (rest := []) C hw gc_X7_111 ds_X2_write (by rw [hR]; exact Nat.le_of_ble_eq_true rfl) (by rw [hR]; exact Nat.le_of_ble_eq_true rfl) rfl rfl (Nat.zero_le _) (Nat.zero_le _) (c_X2_write l dC dI cI cZ cB cO r_32 n_n _ q13 _) [] [0, 1, 2, 3, 4, 5, 6, 7, 8, 9, 10, 11, 12, 13, 14, 15] (by decide) rfl rfl (by decide) (by decide) rfl hl.1 rfl (Nat.le_of_ble_eq_true rfl) dX7_carrier_69 (fun H locs hw => ?_)
          have hw : xWd (dC, dI) A s.heap H locs ((wC cI cZ cB cO c_ad c_p c_fits_13 c_refusedBad c_refusedNo c_refusedFull) ++ ((wS cI cZ cB cO (c_p 0) n_p n_n n_count n_generators) ++ ((wE cI cZ cB cO (c_p 4) e_p e_n_14 e_steps_15 e_undoing_16 e_chains_17 e_leaving_18 e_found_19 e_foundAt_20 e_foundCount_21) ++ (wK cI cZ cB cO (c_p 5) k_p k_n_22 k_inOrder_23 k_starts_24 k_firsts_25 k_reached_29 k_reachedAt_30 k_reachedCount_31)))) := hw.sub [0, 1, 2, 3, 4, 5, 6, 7, 8, 9, 10, 11, 12, 13, 14, 15] (by decide) rfl
          obtain rfl := Option.some.inj h
          exact x_reti C hQ hA hw dX7_carrier_72
        · replace h := xb_tt b12 h
          refine lv_iconst (v := (-1 : Int32)) hx hb dX7_carrier_57 (by decide) ?_
          refine lv_goto (tgt := 72) hx hb dX7_carrier_58 (by decide) ?_
          obtain rfl := Option.some.inj h
          exact x_reti C hQ hA hw dX7_carrier_72
      · replace h := xb_ff b9 h
        refine lv_aload_n hx hb dX7_carrier_27 rfl (lv_at hl 0 rfl) ?_
        refine lv_bipush (v := (-2 : Int32)) hx hb dX7_carrier_28 (by decide) ?_
        obtain ⟨⟨c_refusedBad_34, c_refusedNo_35, c_refusedFull_36, r_37⟩, q14, h⟩ := xn_i h
        refine x_callVi (As := [.int (-2 : Int32)]) (rest := []) C hw gc_X7_65 ⟨rfl, rfl, ds_X7_refuse, (by rw [hR]; exact Nat.le_of_ble_eq_true rfl), (by rw [hR]; exact Nat.le_of_ble_eq_true rfl), Nat.zero_le _, Nat.zero_le _⟩ (c_X7_refuse l dC dI cI cZ cB cO c_ad c_p c_fits c_refusedBad c_refusedNo c_refusedFull (-2 : Int32) _ q14 _) [0] [1, 2, 3, 4, 5, 6, 7, 8, 9, 10, 11, 12, 13, 14, 15] (by decide) rfl rfl (by decide) (by decide) rfl rfl rfl hl.1 rfl (Nat.le_of_ble_eq_true rfl) dX7_carrier_30 (fun H locs hw => ?_)
        have hw : xWd (dC, dI) A s.heap H locs ((wC cI cZ cB cO c_ad c_p c_fits c_refusedBad_34 c_refusedNo_35 c_refusedFull_36) ++ ((wS cI cZ cB cO (c_p 0) n_p n_n n_count n_generators) ++ ((wE cI cZ cB cO (c_p 4) e_p e_n e_steps e_undoing e_chains e_leaving e_found e_foundAt e_foundCount) ++ (wK cI cZ cB cO (c_p 5) k_p k_n k_inOrder k_starts k_firsts k_reached k_reachedAt k_reachedCount)))) := hw.sub [15, 0, 1, 2, 3, 4, 5, 6, 7, 8, 9, 10, 11, 12, 13, 14] (by decide) rfl
        obtain rfl := Option.some.inj h
        exact x_reti C hQ hA hw dX7_carrier_33
noncomputable def f_X7_holds (c_fits : Int32) (c_refusedBad : Int32) (c_refusedNo : Int32) (c_refusedFull : Int32) (n_n : Int32) (n_count : Int32) (n_generators : (Nat → Int32)) (e_n : Int32) (e_steps : (Nat → Int32)) (e_undoing : (Nat → Int32)) (e_chains : (Nat → Int32)) (e_leaving : (Nat → Int32)) (e_found : (Nat → Int32)) (e_foundAt : (Nat → Int32)) (e_foundCount : Int32) (k_n : Int32) (k_inOrder : (Nat → Int32)) (k_starts : (Nat → Int32)) (k_firsts : (Nat → Int32)) (k_reached : (Nat → Int32)) (k_reachedAt : (Nat → Int32)) (k_reachedCount : Int32) (v1 : Int32) : Option (Int32 × Int32 × Int32 × Int32 × Int32 × (Nat → Int32) × (Nat → Int32) × (Nat → Int32) × (Nat → Int32) × (Nat → Int32) × (Nat → Int32) × Int32 × Int32 × (Nat → Int32) × (Nat → Int32) × (Nat → Int32) × (Nat → Int32) × (Nat → Int32) × Int32 × Int32) := xn (f_X7_isSet n_n v1) (fun (r_1 : Int32) => xb (r_1 = 0) (xn (f_X7_refuse c_refusedBad c_refusedNo c_refusedFull (-2 : Int32)) (fun (z : Int32 × Int32 × Int32 × Int32) => match z with | (c_refusedBad_20, c_refusedNo_21, c_refusedFull_22, r_23) => some (c_fits, c_refusedBad_20, c_refusedNo_21, c_refusedFull_22, e_n, e_steps, e_undoing, e_chains, e_leaving, e_found, e_foundAt, e_foundCount, k_n, k_inOrder, k_starts, k_firsts, k_reached, k_reachedAt, k_reachedCount, r_23))) (xn (f_X7_fit c_fits n_n n_count n_generators e_n e_steps e_undoing e_chains e_leaving e_found e_foundAt e_foundCount k_n k_inOrder k_starts k_firsts k_reached k_reachedAt k_reachedCount) (fun (z : Int32 × Int32 × (Nat → Int32) × (Nat → Int32) × (Nat → Int32) × (Nat → Int32) × (Nat → Int32) × (Nat → Int32) × Int32 × Int32 × (Nat → Int32) × (Nat → Int32) × (Nat → Int32) × (Nat → Int32) × (Nat → Int32) × Int32) => match z with | (c_fits_2, e_n_3, e_steps_4, e_undoing_5, e_chains_6, e_leaving_7, e_found_8, e_foundAt_9, e_foundCount_10, k_n_11, k_inOrder_12, k_starts_13, k_firsts_14, k_reached_15, k_reachedAt_16, k_reachedCount_17) => xn (f_X0_countWith k_n_11 k_inOrder_12 k_starts_13 k_firsts_14 v1) (fun (r_18 : Int32) => xb (r_18 ≤ 0) (some (c_fits_2, c_refusedBad, c_refusedNo, c_refusedFull, e_n_3, e_steps_4, e_undoing_5, e_chains_6, e_leaving_7, e_found_8, e_foundAt_9, e_foundCount_10, k_n_11, k_inOrder_12, k_starts_13, k_firsts_14, k_reached_15, k_reachedAt_16, k_reachedCount_17, (0 : Int32))) (xn (f_X1_howMany e_leaving_7) (fun (r_19 : Int32) => xk (¬ r_18 = 0) (some (c_fits_2, c_refusedBad, c_refusedNo, c_refusedFull, e_n_3, e_steps_4, e_undoing_5, e_chains_6, e_leaving_7, e_found_8, e_foundAt_9, e_foundCount_10, k_n_11, k_inOrder_12, k_starts_13, k_firsts_14, k_reached_15, k_reachedAt_16, k_reachedCount_17, (r_19 / r_18)))))))))
set_option maxHeartbeats 4000000 in
set_option maxRecDepth 100000 in
theorem c_X7_holds (l : Launch) (dC : Nat → ClassId) (dI : Nat → Nat → Nat) (cI cZ cB cO : ClassId) (c_ad : Nat) (c_p : Nat → Nat) (n_p : Nat → Nat) (e_p : Nat → Nat) (k_p : Nat → Nat) (c_fits : Int32) (c_refusedBad : Int32) (c_refusedNo : Int32) (c_refusedFull : Int32) (n_n : Int32) (n_count : Int32) (n_generators : (Nat → Int32)) (e_n : Int32) (e_steps : (Nat → Int32)) (e_undoing : (Nat → Int32)) (e_chains : (Nat → Int32)) (e_leaving : (Nat → Int32)) (e_found : (Nat → Int32)) (e_foundAt : (Nat → Int32)) (e_foundCount : Int32) (k_n : Int32) (k_inOrder : (Nat → Int32)) (k_starts : (Nat → Int32)) (k_firsts : (Nat → Int32)) (k_reached : (Nat → Int32)) (k_reachedAt : (Nat → Int32)) (k_reachedCount : Int32) (v1 : Int32) (o : Int32 × Int32 × Int32 × Int32 × Int32 × (Nat → Int32) × (Nat → Int32) × (Nat → Int32) × (Nat → Int32) × (Nat → Int32) × (Nat → Int32) × Int32 × Int32 × (Nat → Int32) × (Nat → Int32) × (Nat → Int32) × (Nat → Int32) × (Nat → Int32) × Int32 × Int32) (h : f_X7_holds c_fits c_refusedBad c_refusedNo c_refusedFull n_n n_count n_generators e_n e_steps e_undoing e_chains e_leaving e_found e_foundAt e_foundCount k_n k_inOrder k_starts k_firsts k_reached k_reachedAt k_reachedCount v1 = some o) (sz : Nat) : Met l yX7_holds (xW yX7_holds cX7_holds 3 (some .int)) { frames := 6, cells := 0, slots := 0, locals := 133 } (xPre dC dI (xT cI cZ cB cO) [.ref c_ad, .int v1] ((wC cI cZ cB cO c_ad c_p c_fits c_refusedBad c_refusedNo c_refusedFull) ++ ((wS cI cZ cB cO (c_p 0) n_p n_n n_count n_generators) ++ ((wE cI cZ cB cO (c_p 4) e_p e_n e_steps e_undoing e_chains e_leaving e_found e_foundAt e_foundCount) ++ (wK cI cZ cB cO (c_p 5) k_p k_n k_inOrder k_starts k_firsts k_reached k_reachedAt k_reachedCount)))) sz) (xQi dC dI (xT cI cZ cB cO) o.2.2.2.2.2.2.2.2.2.2.2.2.2.2.2.2.2.2.2 ((wC cI cZ cB cO c_ad c_p c_fits c_refusedBad c_refusedNo c_refusedFull) ++ ((wS cI cZ cB cO (c_p 0) n_p n_n n_count n_generators) ++ ((wE cI cZ cB cO (c_p 4) e_p e_n e_steps e_undoing e_chains e_leaving e_found e_foundAt e_foundCount) ++ (wK cI cZ cB cO (c_p 5) k_p k_n k_inOrder k_starts k_firsts k_reached k_reachedAt k_reachedCount)))) ((wC cI cZ cB cO c_ad c_p o.1 o.2.1 o.2.2.1 o.2.2.2.1) ++ ((wS cI cZ cB cO (c_p 0) n_p n_n n_count n_generators) ++ ((wE cI cZ cB cO (c_p 4) e_p o.2.2.2.2.1 o.2.2.2.2.2.1 o.2.2.2.2.2.2.1 o.2.2.2.2.2.2.2.1 o.2.2.2.2.2.2.2.2.1 o.2.2.2.2.2.2.2.2.2.1 o.2.2.2.2.2.2.2.2.2.2.1 o.2.2.2.2.2.2.2.2.2.2.2.1) ++ (wK cI cZ cB cO (c_p 5) k_p o.2.2.2.2.2.2.2.2.2.2.2.2.1 o.2.2.2.2.2.2.2.2.2.2.2.2.2.1 o.2.2.2.2.2.2.2.2.2.2.2.2.2.2.1 o.2.2.2.2.2.2.2.2.2.2.2.2.2.2.2.1 o.2.2.2.2.2.2.2.2.2.2.2.2.2.2.2.2.1 o.2.2.2.2.2.2.2.2.2.2.2.2.2.2.2.2.2.1 o.2.2.2.2.2.2.2.2.2.2.2.2.2.2.2.2.2.2.1)))) sz) 0 0 (va_A ((wC cI cZ cB cO c_ad c_p c_fits c_refusedBad c_refusedNo c_refusedFull) ++ ((wS cI cZ cB cO (c_p 0) n_p n_n n_count n_generators) ++ ((wE cI cZ cB cO (c_p 4) e_p e_n e_steps e_undoing e_chains e_leaving e_found e_foundAt e_foundCount) ++ (wK cI cZ cB cO (c_p 5) k_p k_n k_inOrder k_starts k_firsts k_reached k_reachedAt k_reachedCount)))) sz) := by
  refine x_met (by decide) (Nat.le_of_ble_eq_true rfl) ?_
  intro p e s m args below meth c R Q A hR hsz hA hQ hin C hw ls hl
  have hx := C.1
  have hb := C.2.1
  have hown := C.2.2.2.1
  have htb := C.2.2.2.2.1
  have hl : lv_has ls 3 [(0, .ref c_ad), (1, .int v1)] := hl
  refine lv_aload_n hx hb dX7_holds_0 rfl (lv_at hl 0 rfl) ?_
  refine lv_iload_n hx hb dX7_holds_1 rfl (lv_at hl 1 rfl) ?_
  obtain ⟨r_1, q1, h⟩ := xn_i h
  refine x_callVi (As := [.int v1]) (rest := []) C hw gc_X7_114 ⟨rfl, rfl, ds_X7_isSet, (by rw [hR]; exact Nat.le_of_ble_eq_true rfl), (by rw [hR]; exact Nat.le_of_ble_eq_true rfl), Nat.zero_le _, Nat.zero_le _⟩ (c_X7_isSet l dC dI cI cZ cB cO c_ad c_p n_p c_fits c_refusedBad c_refusedNo c_refusedFull n_n n_count n_generators v1 _ q1 _) [0, 1, 2] [3, 4, 5, 6, 7, 8, 9, 10, 11, 12, 13, 14, 15] (by decide) rfl rfl (by decide) (by decide) rfl rfl rfl hl.1 rfl (Nat.le_of_ble_eq_true rfl) dX7_holds_2 (fun H locs hw => ?_)
  have hw : xWd (dC, dI) A s.heap H locs ((wC cI cZ cB cO c_ad c_p c_fits c_refusedBad c_refusedNo c_refusedFull) ++ ((wS cI cZ cB cO (c_p 0) n_p n_n n_count n_generators) ++ ((wE cI cZ cB cO (c_p 4) e_p e_n e_steps e_undoing e_chains e_leaving e_found e_foundAt e_foundCount) ++ (wK cI cZ cB cO (c_p 5) k_p k_n k_inOrder k_starts k_firsts k_reached k_reachedAt k_reachedCount)))) := hw.sub [13, 14, 15, 0, 1, 2, 3, 4, 5, 6, 7, 8, 9, 10, 11, 12] (by decide) rfl
  refine lv_if_ne (tgt := 15) hx hb dX7_holds_5 (by decide) (fun b2 => ?_) (fun b2 => ?_)
  · replace h := xb_ff b2 h
    refine lv_aload_n hx hb dX7_holds_15 rfl (lv_at hl 0 rfl) ?_
    obtain ⟨⟨c_fits_2, e_n_3, e_steps_4, e_undoing_5, e_chains_6, e_leaving_7, e_found_8, e_foundAt_9, e_foundCount_10, k_n_11, k_inOrder_12, k_starts_13, k_firsts_14, k_reached_15, k_reachedAt_16, k_reachedCount_17⟩, q3, h⟩ := xn_i h
    refine x_callVv (As := []) (rest := []) C hw gc_X7_95 ⟨rfl, rfl, ds_X7_fit, (by rw [hR]; exact Nat.le_of_ble_eq_true rfl), (by rw [hR]; exact Nat.le_of_ble_eq_true rfl), Nat.zero_le _, Nat.zero_le _⟩ (c_X7_fit l dC dI cI cZ cB cO c_ad c_p n_p e_p k_p c_fits c_refusedBad c_refusedNo c_refusedFull n_n n_count n_generators e_n e_steps e_undoing e_chains e_leaving e_found e_foundAt e_foundCount k_n k_inOrder k_starts k_firsts k_reached k_reachedAt k_reachedCount _ q3 _) [0, 1, 2, 3, 4, 5, 6, 7, 8, 9, 10, 11, 12, 13, 14, 15] [] (by decide) rfl rfl (by decide) (by decide) rfl rfl rfl hl.1 rfl (Nat.le_of_ble_eq_true rfl) dX7_holds_16 (fun H locs hw => ?_)
    have hw : xWd (dC, dI) A s.heap H locs ((wC cI cZ cB cO c_ad c_p c_fits_2 c_refusedBad c_refusedNo c_refusedFull) ++ ((wS cI cZ cB cO (c_p 0) n_p n_n n_count n_generators) ++ ((wE cI cZ cB cO (c_p 4) e_p e_n_3 e_steps_4 e_undoing_5 e_chains_6 e_leaving_7 e_found_8 e_foundAt_9 e_foundCount_10) ++ (wK cI cZ cB cO (c_p 5) k_p k_n_11 k_inOrder_12 k_starts_13 k_firsts_14 k_reached_15 k_reachedAt_16 k_reachedCount_17)))) := hw
    refine lv_aload_n hx hb dX7_holds_19 rfl (lv_at hl 0 rfl) ?_
    refine x_get (ci := 6) C hw inX7 rfl 5 (by decide) lkF_X7_47 rfl 0 rfl rfl dX7_holds_20 ?_
    refine lv_iload_n hx hb dX7_holds_23 rfl (lv_at hl 1 rfl) ?_
    obtain ⟨r_18, q4, h⟩ := xn_i h
    refine x_callVi (As := [.int v1]) (rest := []) C hw gc_X7_123 ⟨rfl, rfl, ds_X0_countWith, (by rw [hR]; exact Nat.le_of_ble_eq_true rfl), (by rw [hR]; exact Nat.le_of_ble_eq_true rfl), Nat.zero_le _, Nat.zero_le _⟩ (c_X0_countWith l dC dI cI cZ cB cO (c_p 5) k_p k_n_11 k_inOrder_12 k_starts_13 k_firsts_14 k_reached_15 k_reachedAt_16 k_reachedCount_17 v1 _ q4 _) [10, 11, 12, 13, 14, 15] [0, 1, 2, 3, 4, 5, 6, 7, 8, 9] (by decide) rfl rfl (by decide) (by decide) rfl rfl rfl hl.1 rfl (Nat.le_of_ble_eq_true rfl) dX7_holds_24 (fun H locs hw => ?_)
    have hw : xWd (dC, dI) A s.heap H locs ((wC cI cZ cB cO c_ad c_p c_fits_2 c_refusedBad c_refusedNo c_refusedFull) ++ ((wS cI cZ cB cO (c_p 0) n_p n_n n_count n_generators) ++ ((wE cI cZ cB cO (c_p 4) e_p e_n_3 e_steps_4 e_undoing_5 e_chains_6 e_leaving_7 e_found_8 e_foundAt_9 e_foundCount_10) ++ (wK cI cZ cB cO (c_p 5) k_p k_n_11 k_inOrder_12 k_starts_13 k_firsts_14 k_reached_15 k_reachedAt_16 k_reachedCount_17)))) := hw
    refine lv_istore_n (lv' := [(2, .int r_18), (0, .ref c_ad), (1, .int v1)]) hx hb dX7_holds_27 rfl hl (by decide) rfl (fun ls hl => ?_)
    refine lv_iload_n hx hb dX7_holds_28 rfl (lv_at hl 0 rfl) ?_
    refine lv_if_le (tgt := 44) hx hb dX7_holds_29 (by decide) (fun b5 => ?_) (fun b5 => ?_)
    · replace h := xb_tt b5 h
      refine lv_iconst (v := (0 : Int32)) hx hb dX7_holds_44 (by decide) ?_
      obtain rfl := Option.some.inj h
      exact x_reti C hQ hA hw dX7_holds_45
    · replace h := xb_ff b5 h
      refine lv_aload_n hx hb dX7_holds_32 rfl (lv_at hl 1 rfl) ?_
      refine x_get (ci := 6) C hw inX7 rfl 4 (by decide) lkF_X7_40 rfl 0 rfl rfl dX7_holds_33 ?_
      obtain ⟨r_19, q6, h⟩ := xn_i h
      refine x_callVi (As := []) (rest := []) C hw gc_X7_98 ⟨rfl, rfl, ds_X1_howMany, (by rw [hR]; exact Nat.le_of_ble_eq_true rfl), (by rw [hR]; exact Nat.le_of_ble_eq_true rfl), Nat.zero_le _, Nat.zero_le _⟩ (c_X1_howMany l dC dI cI cZ cB cO (c_p 4) e_p e_n_3 e_steps_4 e_undoing_5 e_chains_6 e_leaving_7 e_found_8 e_foundAt_9 e_foundCount_10 _ q6 _) [3, 4, 5, 6, 7, 8, 9] [0, 1, 2, 10, 11, 12, 13, 14, 15] (by decide) rfl rfl (by decide) (by decide) rfl rfl rfl hl.1 rfl (Nat.le_of_ble_eq_true rfl) dX7_holds_36 (fun H locs hw => ?_)
      have hw : xWd (dC, dI) A s.heap H locs ((wC cI cZ cB cO c_ad c_p c_fits_2 c_refusedBad c_refusedNo c_refusedFull) ++ ((wS cI cZ cB cO (c_p 0) n_p n_n n_count n_generators) ++ ((wE cI cZ cB cO (c_p 4) e_p e_n_3 e_steps_4 e_undoing_5 e_chains_6 e_leaving_7 e_found_8 e_foundAt_9 e_foundCount_10) ++ (wK cI cZ cB cO (c_p 5) k_p k_n_11 k_inOrder_12 k_starts_13 k_firsts_14 k_reached_15 k_reachedAt_16 k_reachedCount_17)))) := hw.sub [0, 1, 2, 9, 10, 11, 12, 13, 14, 15, 3, 4, 5, 6, 7, 8] (by decide) rfl
      refine lv_iload_n hx hb dX7_holds_39 rfl (lv_at hl 0 rfl) ?_
      obtain ⟨b7, h⟩ := xk_i h
      refine lv_idiv hx hb dX7_holds_40 b7 ?_
      refine lv_goto (tgt := 45) hx hb dX7_holds_41 (by decide) ?_
      obtain rfl := Option.some.inj h
      exact x_reti C hQ hA hw dX7_holds_45
  · replace h := xb_tt b2 h
    refine lv_aload_n hx hb dX7_holds_8 rfl (lv_at hl 0 rfl) ?_
    refine lv_bipush (v := (-2 : Int32)) hx hb dX7_holds_9 (by decide) ?_
    obtain ⟨⟨c_refusedBad_20, c_refusedNo_21, c_refusedFull_22, r_23⟩, q8, h⟩ := xn_i h
    refine x_callVi (As := [.int (-2 : Int32)]) (rest := []) C hw gc_X7_65 ⟨rfl, rfl, ds_X7_refuse, (by rw [hR]; exact Nat.le_of_ble_eq_true rfl), (by rw [hR]; exact Nat.le_of_ble_eq_true rfl), Nat.zero_le _, Nat.zero_le _⟩ (c_X7_refuse l dC dI cI cZ cB cO c_ad c_p c_fits c_refusedBad c_refusedNo c_refusedFull (-2 : Int32) _ q8 _) [0] [1, 2, 3, 4, 5, 6, 7, 8, 9, 10, 11, 12, 13, 14, 15] (by decide) rfl rfl (by decide) (by decide) rfl rfl rfl hl.1 rfl (Nat.le_of_ble_eq_true rfl) dX7_holds_11 (fun H locs hw => ?_)
    have hw : xWd (dC, dI) A s.heap H locs ((wC cI cZ cB cO c_ad c_p c_fits c_refusedBad_20 c_refusedNo_21 c_refusedFull_22) ++ ((wS cI cZ cB cO (c_p 0) n_p n_n n_count n_generators) ++ ((wE cI cZ cB cO (c_p 4) e_p e_n e_steps e_undoing e_chains e_leaving e_found e_foundAt e_foundCount) ++ (wK cI cZ cB cO (c_p 5) k_p k_n k_inOrder k_starts k_firsts k_reached k_reachedAt k_reachedCount)))) := hw.sub [15, 0, 1, 2, 3, 4, 5, 6, 7, 8, 9, 10, 11, 12, 13, 14] (by decide) rfl
    obtain rfl := Option.some.inj h
    exact x_reti C hQ hA hw dX7_holds_14
noncomputable def f_X7_heads (c_fits : Int32) (c_refusedBad : Int32) (c_refusedNo : Int32) (c_refusedFull : Int32) (n_n : Int32) (n_count : Int32) (n_generators : (Nat → Int32)) (e_n : Int32) (e_steps : (Nat → Int32)) (e_undoing : (Nat → Int32)) (e_chains : (Nat → Int32)) (e_leaving : (Nat → Int32)) (e_found : (Nat → Int32)) (e_foundAt : (Nat → Int32)) (e_foundCount : Int32) (k_n : Int32) (k_inOrder : (Nat → Int32)) (k_starts : (Nat → Int32)) (k_firsts : (Nat → Int32)) (k_reached : (Nat → Int32)) (k_reachedAt : (Nat → Int32)) (k_reachedCount : Int32) (v1 : Int32) (v2 : Int32) : Option (Int32 × Int32 × Int32 × Int32 × Int32 × (Nat → Int32) × (Nat → Int32) × (Nat → Int32) × (Nat → Int32) × (Nat → Int32) × (Nat → Int32) × Int32 × Int32 × (Nat → Int32) × (Nat → Int32) × (Nat → Int32) × (Nat → Int32) × (Nat → Int32) × Int32 × Int32) := xb (v1 < 0) (xn (f_X7_refuse c_refusedBad c_refusedNo c_refusedFull (-2 : Int32)) (fun (z : Int32 × Int32 × Int32 × Int32) => match z with | (c_refusedBad_1, c_refusedNo_2, c_refusedFull_3, r_4) => some (c_fits, c_refusedBad_1, c_refusedNo_2, c_refusedFull_3, e_n, e_steps, e_undoing, e_chains, e_leaving, e_found, e_foundAt, e_foundCount, k_n, k_inOrder, k_starts, k_firsts, k_reached, k_reachedAt, k_reachedCount, r_4))) (xb (n_n < v1) (xn (f_X7_refuse c_refusedBad c_refusedNo c_refusedFull (-2 : Int32)) (fun (z : Int32 × Int32 × Int32 × Int32) => match z with | (c_refusedBad_5, c_refusedNo_6, c_refusedFull_7, r_8) => some (c_fits, c_refusedBad_5, c_refusedNo_6, c_refusedFull_7, e_n, e_steps, e_undoing, e_chains, e_leaving, e_found, e_foundAt, e_foundCount, k_n, k_inOrder, k_starts, k_firsts, k_reached, k_reachedAt, k_reachedCount, r_8))) (xb ((-1 : Int32) ≤ v2) (xn (f_X7_fit c_fits n_n n_count n_generators e_n e_steps e_undoing e_chains e_leaving e_found e_foundAt e_foundCount k_n k_inOrder k_starts k_firsts k_reached k_reachedAt k_reachedCount) (fun (z : Int32 × Int32 × (Nat → Int32) × (Nat → Int32) × (Nat → Int32) × (Nat → Int32) × (Nat → Int32) × (Nat → Int32) × Int32 × Int32 × (Nat → Int32) × (Nat → Int32) × (Nat → Int32) × (Nat → Int32) × (Nat → Int32) × Int32) => match z with | (c_fits_9, e_n_10, e_steps_11, e_undoing_12, e_chains_13, e_leaving_14, e_found_15, e_foundAt_16, e_foundCount_17, k_n_18, k_inOrder_19, k_starts_20, k_firsts_21, k_reached_22, k_reachedAt_23, k_reachedCount_24) => xb (v2 = (-1 : Int32)) (xn (f_X0_countFirsts k_n_18 k_inOrder_19 k_starts_20 k_firsts_21 v1) (fun (r_26 : Int32) => some (c_fits_9, c_refusedBad, c_refusedNo, c_refusedFull, e_n_10, e_steps_11, e_undoing_12, e_chains_13, e_leaving_14, e_found_15, e_foundAt_16, e_foundCount_17, k_n_18, k_inOrder_19, k_starts_20, k_firsts_21, k_reached_22, k_reachedAt_23, k_reachedCount_24, r_26))) (xn (f_X0_nthFirst k_n_18 k_inOrder_19 k_starts_20 k_firsts_21 v1 v2) (fun (r_25 : Int32) => some (c_fits_9, c_refusedBad, c_refusedNo, c_refusedFull, e_n_10, e_steps_11, e_undoing_12, e_chains_13, e_leaving_14, e_found_15, e_foundAt_16, e_foundCount_17, k_n_18, k_inOrder_19, k_starts_20, k_firsts_21, k_reached_22, k_reachedAt_23, k_reachedCount_24, r_25))))) (xn (f_X7_refuse c_refusedBad c_refusedNo c_refusedFull (-2 : Int32)) (fun (z : Int32 × Int32 × Int32 × Int32) => match z with | (c_refusedBad_27, c_refusedNo_28, c_refusedFull_29, r_30) => some (c_fits, c_refusedBad_27, c_refusedNo_28, c_refusedFull_29, e_n, e_steps, e_undoing, e_chains, e_leaving, e_found, e_foundAt, e_foundCount, k_n, k_inOrder, k_starts, k_firsts, k_reached, k_reachedAt, k_reachedCount, r_30)))))
set_option maxHeartbeats 4000000 in
set_option maxRecDepth 100000 in
theorem c_X7_heads (l : Launch) (dC : Nat → ClassId) (dI : Nat → Nat → Nat) (cI cZ cB cO : ClassId) (c_ad : Nat) (c_p : Nat → Nat) (n_p : Nat → Nat) (e_p : Nat → Nat) (k_p : Nat → Nat) (c_fits : Int32) (c_refusedBad : Int32) (c_refusedNo : Int32) (c_refusedFull : Int32) (n_n : Int32) (n_count : Int32) (n_generators : (Nat → Int32)) (e_n : Int32) (e_steps : (Nat → Int32)) (e_undoing : (Nat → Int32)) (e_chains : (Nat → Int32)) (e_leaving : (Nat → Int32)) (e_found : (Nat → Int32)) (e_foundAt : (Nat → Int32)) (e_foundCount : Int32) (k_n : Int32) (k_inOrder : (Nat → Int32)) (k_starts : (Nat → Int32)) (k_firsts : (Nat → Int32)) (k_reached : (Nat → Int32)) (k_reachedAt : (Nat → Int32)) (k_reachedCount : Int32) (v1 : Int32) (v2 : Int32) (o : Int32 × Int32 × Int32 × Int32 × Int32 × (Nat → Int32) × (Nat → Int32) × (Nat → Int32) × (Nat → Int32) × (Nat → Int32) × (Nat → Int32) × Int32 × Int32 × (Nat → Int32) × (Nat → Int32) × (Nat → Int32) × (Nat → Int32) × (Nat → Int32) × Int32 × Int32) (h : f_X7_heads c_fits c_refusedBad c_refusedNo c_refusedFull n_n n_count n_generators e_n e_steps e_undoing e_chains e_leaving e_found e_foundAt e_foundCount k_n k_inOrder k_starts k_firsts k_reached k_reachedAt k_reachedCount v1 v2 = some o) (sz : Nat) : Met l yX7_heads (xW yX7_heads cX7_heads 3 (some .int)) { frames := 6, cells := 0, slots := 0, locals := 133 } (xPre dC dI (xT cI cZ cB cO) [.ref c_ad, .int v1, .int v2] ((wC cI cZ cB cO c_ad c_p c_fits c_refusedBad c_refusedNo c_refusedFull) ++ ((wS cI cZ cB cO (c_p 0) n_p n_n n_count n_generators) ++ ((wE cI cZ cB cO (c_p 4) e_p e_n e_steps e_undoing e_chains e_leaving e_found e_foundAt e_foundCount) ++ (wK cI cZ cB cO (c_p 5) k_p k_n k_inOrder k_starts k_firsts k_reached k_reachedAt k_reachedCount)))) sz) (xQi dC dI (xT cI cZ cB cO) o.2.2.2.2.2.2.2.2.2.2.2.2.2.2.2.2.2.2.2 ((wC cI cZ cB cO c_ad c_p c_fits c_refusedBad c_refusedNo c_refusedFull) ++ ((wS cI cZ cB cO (c_p 0) n_p n_n n_count n_generators) ++ ((wE cI cZ cB cO (c_p 4) e_p e_n e_steps e_undoing e_chains e_leaving e_found e_foundAt e_foundCount) ++ (wK cI cZ cB cO (c_p 5) k_p k_n k_inOrder k_starts k_firsts k_reached k_reachedAt k_reachedCount)))) ((wC cI cZ cB cO c_ad c_p o.1 o.2.1 o.2.2.1 o.2.2.2.1) ++ ((wS cI cZ cB cO (c_p 0) n_p n_n n_count n_generators) ++ ((wE cI cZ cB cO (c_p 4) e_p o.2.2.2.2.1 o.2.2.2.2.2.1 o.2.2.2.2.2.2.1 o.2.2.2.2.2.2.2.1 o.2.2.2.2.2.2.2.2.1 o.2.2.2.2.2.2.2.2.2.1 o.2.2.2.2.2.2.2.2.2.2.1 o.2.2.2.2.2.2.2.2.2.2.2.1) ++ (wK cI cZ cB cO (c_p 5) k_p o.2.2.2.2.2.2.2.2.2.2.2.2.1 o.2.2.2.2.2.2.2.2.2.2.2.2.2.1 o.2.2.2.2.2.2.2.2.2.2.2.2.2.2.1 o.2.2.2.2.2.2.2.2.2.2.2.2.2.2.2.1 o.2.2.2.2.2.2.2.2.2.2.2.2.2.2.2.2.1 o.2.2.2.2.2.2.2.2.2.2.2.2.2.2.2.2.2.1 o.2.2.2.2.2.2.2.2.2.2.2.2.2.2.2.2.2.2.1)))) sz) 0 0 (va_A ((wC cI cZ cB cO c_ad c_p c_fits c_refusedBad c_refusedNo c_refusedFull) ++ ((wS cI cZ cB cO (c_p 0) n_p n_n n_count n_generators) ++ ((wE cI cZ cB cO (c_p 4) e_p e_n e_steps e_undoing e_chains e_leaving e_found e_foundAt e_foundCount) ++ (wK cI cZ cB cO (c_p 5) k_p k_n k_inOrder k_starts k_firsts k_reached k_reachedAt k_reachedCount)))) sz) := by
  refine x_met (by decide) (Nat.le_of_ble_eq_true rfl) ?_
  intro p e s m args below meth c R Q A hR hsz hA hQ hin C hw ls hl
  have hx := C.1
  have hb := C.2.1
  have hown := C.2.2.2.1
  have htb := C.2.2.2.2.1
  have hl : lv_has ls 3 [(0, .ref c_ad), (1, .int v1), (2, .int v2)] := hl
  refine lv_iload_n hx hb dX7_heads_0 rfl (lv_at hl 1 rfl) ?_
  refine lv_if_lt (tgt := 20) hx hb dX7_heads_1 (by decide) (fun b1 => ?_) (fun b1 => ?_)
  · replace h := xb_tt b1 h
    refine lv_aload_n hx hb dX7_heads_20 rfl (lv_at hl 0 rfl) ?_
    refine lv_bipush (v := (-2 : Int32)) hx hb dX7_heads_21 (by decide) ?_
    obtain ⟨⟨c_refusedBad_1, c_refusedNo_2, c_refusedFull_3, r_4⟩, q2, h⟩ := xn_i h
    refine x_callVi (As := [.int (-2 : Int32)]) (rest := []) C hw gc_X7_65 ⟨rfl, rfl, ds_X7_refuse, (by rw [hR]; exact Nat.le_of_ble_eq_true rfl), (by rw [hR]; exact Nat.le_of_ble_eq_true rfl), Nat.zero_le _, Nat.zero_le _⟩ (c_X7_refuse l dC dI cI cZ cB cO c_ad c_p c_fits c_refusedBad c_refusedNo c_refusedFull (-2 : Int32) _ q2 _) [0] [1, 2, 3, 4, 5, 6, 7, 8, 9, 10, 11, 12, 13, 14, 15] (by decide) rfl rfl (by decide) (by decide) rfl rfl rfl hl.1 rfl (Nat.le_of_ble_eq_true rfl) dX7_heads_23 (fun H locs hw => ?_)
    have hw : xWd (dC, dI) A s.heap H locs ((wC cI cZ cB cO c_ad c_p c_fits c_refusedBad_1 c_refusedNo_2 c_refusedFull_3) ++ ((wS cI cZ cB cO (c_p 0) n_p n_n n_count n_generators) ++ ((wE cI cZ cB cO (c_p 4) e_p e_n e_steps e_undoing e_chains e_leaving e_found e_foundAt e_foundCount) ++ (wK cI cZ cB cO (c_p 5) k_p k_n k_inOrder k_starts k_firsts k_reached k_reachedAt k_reachedCount)))) := hw.sub [15, 0, 1, 2, 3, 4, 5, 6, 7, 8, 9, 10, 11, 12, 13, 14] (by decide) rfl
    obtain rfl := Option.some.inj h
    exact x_reti C hQ hA hw dX7_heads_26
  · replace h := xb_ff b1 h
    refine lv_iload_n hx hb dX7_heads_4 rfl (lv_at hl 1 rfl) ?_
    refine lv_aload_n hx hb dX7_heads_5 rfl (lv_at hl 0 rfl) ?_
    refine x_get (ci := 6) C hw inX7 rfl 0 (by decide) lkF_X7_10 rfl 0 rfl rfl dX7_heads_6 ?_
    refine x_get (ci := 3) C hw inX4 rfl 0 (by decide) lkF_X7_69 rfl 1 rfl rfl dX7_heads_9 ?_
    refine lv_icmp_gt (tgt := 20) hx hb dX7_heads_12 (by decide) (fun b3 => ?_) (fun b3 => ?_)
    · replace h := xb_tt b3 h
      refine lv_aload_n hx hb dX7_heads_20 rfl (lv_at hl 0 rfl) ?_
      refine lv_bipush (v := (-2 : Int32)) hx hb dX7_heads_21 (by decide) ?_
      obtain ⟨⟨c_refusedBad_5, c_refusedNo_6, c_refusedFull_7, r_8⟩, q4, h⟩ := xn_i h
      refine x_callVi (As := [.int (-2 : Int32)]) (rest := []) C hw gc_X7_65 ⟨rfl, rfl, ds_X7_refuse, (by rw [hR]; exact Nat.le_of_ble_eq_true rfl), (by rw [hR]; exact Nat.le_of_ble_eq_true rfl), Nat.zero_le _, Nat.zero_le _⟩ (c_X7_refuse l dC dI cI cZ cB cO c_ad c_p c_fits c_refusedBad c_refusedNo c_refusedFull (-2 : Int32) _ q4 _) [0] [1, 2, 3, 4, 5, 6, 7, 8, 9, 10, 11, 12, 13, 14, 15] (by decide) rfl rfl (by decide) (by decide) rfl rfl rfl hl.1 rfl (Nat.le_of_ble_eq_true rfl) dX7_heads_23 (fun H locs hw => ?_)
      have hw : xWd (dC, dI) A s.heap H locs ((wC cI cZ cB cO c_ad c_p c_fits c_refusedBad_5 c_refusedNo_6 c_refusedFull_7) ++ ((wS cI cZ cB cO (c_p 0) n_p n_n n_count n_generators) ++ ((wE cI cZ cB cO (c_p 4) e_p e_n e_steps e_undoing e_chains e_leaving e_found e_foundAt e_foundCount) ++ (wK cI cZ cB cO (c_p 5) k_p k_n k_inOrder k_starts k_firsts k_reached k_reachedAt k_reachedCount)))) := hw.sub [15, 0, 1, 2, 3, 4, 5, 6, 7, 8, 9, 10, 11, 12, 13, 14] (by decide) rfl
      obtain rfl := Option.some.inj h
      exact x_reti C hQ hA hw dX7_heads_26
    · replace h := xb_ff b3 h
      refine lv_iload_n hx hb dX7_heads_15 rfl (lv_at hl 2 rfl) ?_
      refine lv_iconst (v := (-1 : Int32)) hx hb dX7_heads_16 (by decide) ?_
      refine lv_icmp_ge (tgt := 27) hx hb dX7_heads_17 (by decide) (fun b5 => ?_) (fun b5 => ?_)
      · replace h := xb_tt b5 h
        refine lv_aload_n hx hb dX7_heads_27 rfl (lv_at hl 0 rfl) ?_
        obtain ⟨⟨c_fits_9, e_n_10, e_steps_11, e_undoing_12, e_chains_13, e_leaving_14, e_found_15, e_foundAt_16, e_foundCount_17, k_n_18, k_inOrder_19, k_starts_20, k_firsts_21, k_reached_22, k_reachedAt_23, k_reachedCount_24⟩, q6, h⟩ := xn_i h
        refine x_callVv (As := []) (rest := []) C hw gc_X7_95 ⟨rfl, rfl, ds_X7_fit, (by rw [hR]; exact Nat.le_of_ble_eq_true rfl), (by rw [hR]; exact Nat.le_of_ble_eq_true rfl), Nat.zero_le _, Nat.zero_le _⟩ (c_X7_fit l dC dI cI cZ cB cO c_ad c_p n_p e_p k_p c_fits c_refusedBad c_refusedNo c_refusedFull n_n n_count n_generators e_n e_steps e_undoing e_chains e_leaving e_found e_foundAt e_foundCount k_n k_inOrder k_starts k_firsts k_reached k_reachedAt k_reachedCount _ q6 _) [0, 1, 2, 3, 4, 5, 6, 7, 8, 9, 10, 11, 12, 13, 14, 15] [] (by decide) rfl rfl (by decide) (by decide) rfl rfl rfl hl.1 rfl (Nat.le_of_ble_eq_true rfl) dX7_heads_28 (fun H locs hw => ?_)
        have hw : xWd (dC, dI) A s.heap H locs ((wC cI cZ cB cO c_ad c_p c_fits_9 c_refusedBad c_refusedNo c_refusedFull) ++ ((wS cI cZ cB cO (c_p 0) n_p n_n n_count n_generators) ++ ((wE cI cZ cB cO (c_p 4) e_p e_n_10 e_steps_11 e_undoing_12 e_chains_13 e_leaving_14 e_found_15 e_foundAt_16 e_foundCount_17) ++ (wK cI cZ cB cO (c_p 5) k_p k_n_18 k_inOrder_19 k_starts_20 k_firsts_21 k_reached_22 k_reachedAt_23 k_reachedCount_24)))) := hw
        refine lv_iload_n hx hb dX7_heads_31 rfl (lv_at hl 2 rfl) ?_
        refine lv_iconst (v := (-1 : Int32)) hx hb dX7_heads_32 (by decide) ?_
        refine lv_icmp_ne (tgt := 47) hx hb dX7_heads_33 (by decide) (fun b7 => ?_) (fun b7 => ?_)
        · replace h := xb_ff b7 h
          refine lv_aload_n hx hb dX7_heads_47 rfl (lv_at hl 0 rfl) ?_
          refine x_get (ci := 6) C hw inX7 rfl 5 (by decide) lkF_X7_47 rfl 0 rfl rfl dX7_heads_48 ?_
          refine lv_iload_n hx hb dX7_heads_51 rfl (lv_at hl 1 rfl) ?_
          refine lv_iload_n hx hb dX7_heads_52 rfl (lv_at hl 2 rfl) ?_
          obtain ⟨r_25, q8, h⟩ := xn_i h
          refine x_callVi (As := [.int v1, .int v2]) (rest := []) C hw gc_X7_141 ⟨rfl, rfl, ds_X0_nthFirst, (by rw [hR]; exact Nat.le_of_ble_eq_true rfl), (by rw [hR]; exact Nat.le_of_ble_eq_true rfl), Nat.zero_le _, Nat.zero_le _⟩ (c_X0_nthFirst l dC dI cI cZ cB cO (c_p 5) k_p k_n_18 k_inOrder_19 k_starts_20 k_firsts_21 k_reached_22 k_reachedAt_23 k_reachedCount_24 v1 v2 _ q8 _) [10, 11, 12, 13, 14, 15] [0, 1, 2, 3, 4, 5, 6, 7, 8, 9] (by decide) rfl rfl (by decide) (by decide) rfl rfl rfl hl.1 rfl (Nat.le_of_ble_eq_true rfl) dX7_heads_53 (fun H locs hw => ?_)
          have hw : xWd (dC, dI) A s.heap H locs ((wC cI cZ cB cO c_ad c_p c_fits_9 c_refusedBad c_refusedNo c_refusedFull) ++ ((wS cI cZ cB cO (c_p 0) n_p n_n n_count n_generators) ++ ((wE cI cZ cB cO (c_p 4) e_p e_n_10 e_steps_11 e_undoing_12 e_chains_13 e_leaving_14 e_found_15 e_foundAt_16 e_foundCount_17) ++ (wK cI cZ cB cO (c_p 5) k_p k_n_18 k_inOrder_19 k_starts_20 k_firsts_21 k_reached_22 k_reachedAt_23 k_reachedCount_24)))) := hw
          obtain rfl := Option.some.inj h
          exact x_reti C hQ hA hw dX7_heads_56
        · replace h := xb_tt b7 h
          refine lv_aload_n hx hb dX7_heads_36 rfl (lv_at hl 0 rfl) ?_
          refine x_get (ci := 6) C hw inX7 rfl 5 (by decide) lkF_X7_47 rfl 0 rfl rfl dX7_heads_37 ?_
          refine lv_iload_n hx hb dX7_heads_40 rfl (lv_at hl 1 rfl) ?_
          obtain ⟨r_26, q9, h⟩ := xn_i h
          refine x_callVi (As := [.int v1]) (rest := []) C hw gc_X7_138 ⟨rfl, rfl, ds_X0_countFirsts, (by rw [hR]; exact Nat.le_of_ble_eq_true rfl), (by rw [hR]; exact Nat.le_of_ble_eq_true rfl), Nat.zero_le _, Nat.zero_le _⟩ (c_X0_countFirsts l dC dI cI cZ cB cO (c_p 5) k_p k_n_18 k_inOrder_19 k_starts_20 k_firsts_21 k_reached_22 k_reachedAt_23 k_reachedCount_24 v1 _ q9 _) [10, 11, 12, 13, 14, 15] [0, 1, 2, 3, 4, 5, 6, 7, 8, 9] (by decide) rfl rfl (by decide) (by decide) rfl rfl rfl hl.1 rfl (Nat.le_of_ble_eq_true rfl) dX7_heads_41 (fun H locs hw => ?_)
          have hw : xWd (dC, dI) A s.heap H locs ((wC cI cZ cB cO c_ad c_p c_fits_9 c_refusedBad c_refusedNo c_refusedFull) ++ ((wS cI cZ cB cO (c_p 0) n_p n_n n_count n_generators) ++ ((wE cI cZ cB cO (c_p 4) e_p e_n_10 e_steps_11 e_undoing_12 e_chains_13 e_leaving_14 e_found_15 e_foundAt_16 e_foundCount_17) ++ (wK cI cZ cB cO (c_p 5) k_p k_n_18 k_inOrder_19 k_starts_20 k_firsts_21 k_reached_22 k_reachedAt_23 k_reachedCount_24)))) := hw
          refine lv_goto (tgt := 56) hx hb dX7_heads_44 (by decide) ?_
          obtain rfl := Option.some.inj h
          exact x_reti C hQ hA hw dX7_heads_56
      · replace h := xb_ff b5 h
        refine lv_aload_n hx hb dX7_heads_20 rfl (lv_at hl 0 rfl) ?_
        refine lv_bipush (v := (-2 : Int32)) hx hb dX7_heads_21 (by decide) ?_
        obtain ⟨⟨c_refusedBad_27, c_refusedNo_28, c_refusedFull_29, r_30⟩, q10, h⟩ := xn_i h
        refine x_callVi (As := [.int (-2 : Int32)]) (rest := []) C hw gc_X7_65 ⟨rfl, rfl, ds_X7_refuse, (by rw [hR]; exact Nat.le_of_ble_eq_true rfl), (by rw [hR]; exact Nat.le_of_ble_eq_true rfl), Nat.zero_le _, Nat.zero_le _⟩ (c_X7_refuse l dC dI cI cZ cB cO c_ad c_p c_fits c_refusedBad c_refusedNo c_refusedFull (-2 : Int32) _ q10 _) [0] [1, 2, 3, 4, 5, 6, 7, 8, 9, 10, 11, 12, 13, 14, 15] (by decide) rfl rfl (by decide) (by decide) rfl rfl rfl hl.1 rfl (Nat.le_of_ble_eq_true rfl) dX7_heads_23 (fun H locs hw => ?_)
        have hw : xWd (dC, dI) A s.heap H locs ((wC cI cZ cB cO c_ad c_p c_fits c_refusedBad_27 c_refusedNo_28 c_refusedFull_29) ++ ((wS cI cZ cB cO (c_p 0) n_p n_n n_count n_generators) ++ ((wE cI cZ cB cO (c_p 4) e_p e_n e_steps e_undoing e_chains e_leaving e_found e_foundAt e_foundCount) ++ (wK cI cZ cB cO (c_p 5) k_p k_n k_inOrder k_starts k_firsts k_reached k_reachedAt k_reachedCount)))) := hw.sub [15, 0, 1, 2, 3, 4, 5, 6, 7, 8, 9, 10, 11, 12, 13, 14] (by decide) rfl
        obtain rfl := Option.some.inj h
        exact x_reti C hQ hA hw dX7_heads_26
noncomputable def f_X7_head (c_fits : Int32) (c_refusedBad : Int32) (c_refusedNo : Int32) (c_refusedFull : Int32) (n_n : Int32) (n_count : Int32) (n_generators : (Nat → Int32)) (e_n : Int32) (e_steps : (Nat → Int32)) (e_undoing : (Nat → Int32)) (e_chains : (Nat → Int32)) (e_leaving : (Nat → Int32)) (e_found : (Nat → Int32)) (e_foundAt : (Nat → Int32)) (e_foundCount : Int32) (k_n : Int32) (k_inOrder : (Nat → Int32)) (k_starts : (Nat → Int32)) (k_firsts : (Nat → Int32)) (k_reached : (Nat → Int32)) (k_reachedAt : (Nat → Int32)) (k_reachedCount : Int32) (v1 : Int32) : Option (Int32 × Int32 × Int32 × Int32 × Int32 × (Nat → Int32) × (Nat → Int32) × (Nat → Int32) × (Nat → Int32) × (Nat → Int32) × (Nat → Int32) × Int32 × Int32 × (Nat → Int32) × (Nat → Int32) × (Nat → Int32) × (Nat → Int32) × (Nat → Int32) × Int32 × Int32) := xn (f_X7_isSet n_n v1) (fun (r_1 : Int32) => xb (r_1 = 0) (xn (f_X7_refuse c_refusedBad c_refusedNo c_refusedFull (-2 : Int32)) (fun (z : Int32 × Int32 × Int32 × Int32) => match z with | (c_refusedBad_19, c_refusedNo_20, c_refusedFull_21, r_22) => some (c_fits, c_refusedBad_19, c_refusedNo_20, c_refusedFull_21, e_n, e_steps, e_undoing, e_chains, e_leaving, e_found, e_foundAt, e_foundCount, k_n, k_inOrder, k_starts, k_firsts, k_reached, k_reachedAt, k_reachedCount, r_22))) (xn (f_X7_fit c_fits n_n n_count n_generators e_n e_steps e_undoing e_chains e_leaving e_found e_foundAt e_foundCount k_n k_inOrder k_starts k_firsts k_reached k_reachedAt k_reachedCount) (fun (z : Int32 × Int32 × (Nat → Int32) × (Nat → Int32) × (Nat → Int32) × (Nat → Int32) × (Nat → Int32) × (Nat → Int32) × Int32 × Int32 × (Nat → Int32) × (Nat → Int32) × (Nat → Int32) × (Nat → Int32) × (Nat → Int32) × Int32) => match z with | (c_fits_2, e_n_3, e_steps_4, e_undoing_5, e_chains_6, e_leaving_7, e_found_8, e_foundAt_9, e_foundCount_10, k_n_11, k_inOrder_12, k_starts_13, k_firsts_14, k_reached_15, k_reachedAt_16, k_reachedCount_17) => xn (f_X0_placeOfFirst k_n_11 k_inOrder_12 k_starts_13 k_firsts_14 v1) (fun (r_18 : Int32) => some (c_fits_2, c_refusedBad, c_refusedNo, c_refusedFull, e_n_3, e_steps_4, e_undoing_5, e_chains_6, e_leaving_7, e_found_8, e_foundAt_9, e_foundCount_10, k_n_11, k_inOrder_12, k_starts_13, k_firsts_14, k_reached_15, k_reachedAt_16, k_reachedCount_17, r_18)))))
set_option maxHeartbeats 4000000 in
set_option maxRecDepth 100000 in
theorem c_X7_head (l : Launch) (dC : Nat → ClassId) (dI : Nat → Nat → Nat) (cI cZ cB cO : ClassId) (c_ad : Nat) (c_p : Nat → Nat) (n_p : Nat → Nat) (e_p : Nat → Nat) (k_p : Nat → Nat) (c_fits : Int32) (c_refusedBad : Int32) (c_refusedNo : Int32) (c_refusedFull : Int32) (n_n : Int32) (n_count : Int32) (n_generators : (Nat → Int32)) (e_n : Int32) (e_steps : (Nat → Int32)) (e_undoing : (Nat → Int32)) (e_chains : (Nat → Int32)) (e_leaving : (Nat → Int32)) (e_found : (Nat → Int32)) (e_foundAt : (Nat → Int32)) (e_foundCount : Int32) (k_n : Int32) (k_inOrder : (Nat → Int32)) (k_starts : (Nat → Int32)) (k_firsts : (Nat → Int32)) (k_reached : (Nat → Int32)) (k_reachedAt : (Nat → Int32)) (k_reachedCount : Int32) (v1 : Int32) (o : Int32 × Int32 × Int32 × Int32 × Int32 × (Nat → Int32) × (Nat → Int32) × (Nat → Int32) × (Nat → Int32) × (Nat → Int32) × (Nat → Int32) × Int32 × Int32 × (Nat → Int32) × (Nat → Int32) × (Nat → Int32) × (Nat → Int32) × (Nat → Int32) × Int32 × Int32) (h : f_X7_head c_fits c_refusedBad c_refusedNo c_refusedFull n_n n_count n_generators e_n e_steps e_undoing e_chains e_leaving e_found e_foundAt e_foundCount k_n k_inOrder k_starts k_firsts k_reached k_reachedAt k_reachedCount v1 = some o) (sz : Nat) : Met l yX7_head (xW yX7_head cX7_head 2 (some .int)) { frames := 6, cells := 0, slots := 0, locals := 133 } (xPre dC dI (xT cI cZ cB cO) [.ref c_ad, .int v1] ((wC cI cZ cB cO c_ad c_p c_fits c_refusedBad c_refusedNo c_refusedFull) ++ ((wS cI cZ cB cO (c_p 0) n_p n_n n_count n_generators) ++ ((wE cI cZ cB cO (c_p 4) e_p e_n e_steps e_undoing e_chains e_leaving e_found e_foundAt e_foundCount) ++ (wK cI cZ cB cO (c_p 5) k_p k_n k_inOrder k_starts k_firsts k_reached k_reachedAt k_reachedCount)))) sz) (xQi dC dI (xT cI cZ cB cO) o.2.2.2.2.2.2.2.2.2.2.2.2.2.2.2.2.2.2.2 ((wC cI cZ cB cO c_ad c_p c_fits c_refusedBad c_refusedNo c_refusedFull) ++ ((wS cI cZ cB cO (c_p 0) n_p n_n n_count n_generators) ++ ((wE cI cZ cB cO (c_p 4) e_p e_n e_steps e_undoing e_chains e_leaving e_found e_foundAt e_foundCount) ++ (wK cI cZ cB cO (c_p 5) k_p k_n k_inOrder k_starts k_firsts k_reached k_reachedAt k_reachedCount)))) ((wC cI cZ cB cO c_ad c_p o.1 o.2.1 o.2.2.1 o.2.2.2.1) ++ ((wS cI cZ cB cO (c_p 0) n_p n_n n_count n_generators) ++ ((wE cI cZ cB cO (c_p 4) e_p o.2.2.2.2.1 o.2.2.2.2.2.1 o.2.2.2.2.2.2.1 o.2.2.2.2.2.2.2.1 o.2.2.2.2.2.2.2.2.1 o.2.2.2.2.2.2.2.2.2.1 o.2.2.2.2.2.2.2.2.2.2.1 o.2.2.2.2.2.2.2.2.2.2.2.1) ++ (wK cI cZ cB cO (c_p 5) k_p o.2.2.2.2.2.2.2.2.2.2.2.2.1 o.2.2.2.2.2.2.2.2.2.2.2.2.2.1 o.2.2.2.2.2.2.2.2.2.2.2.2.2.2.1 o.2.2.2.2.2.2.2.2.2.2.2.2.2.2.2.1 o.2.2.2.2.2.2.2.2.2.2.2.2.2.2.2.2.1 o.2.2.2.2.2.2.2.2.2.2.2.2.2.2.2.2.2.1 o.2.2.2.2.2.2.2.2.2.2.2.2.2.2.2.2.2.2.1)))) sz) 0 0 (va_A ((wC cI cZ cB cO c_ad c_p c_fits c_refusedBad c_refusedNo c_refusedFull) ++ ((wS cI cZ cB cO (c_p 0) n_p n_n n_count n_generators) ++ ((wE cI cZ cB cO (c_p 4) e_p e_n e_steps e_undoing e_chains e_leaving e_found e_foundAt e_foundCount) ++ (wK cI cZ cB cO (c_p 5) k_p k_n k_inOrder k_starts k_firsts k_reached k_reachedAt k_reachedCount)))) sz) := by
  refine x_met (by decide) (Nat.le_of_ble_eq_true rfl) ?_
  intro p e s m args below meth c R Q A hR hsz hA hQ hin C hw ls hl
  have hx := C.1
  have hb := C.2.1
  have hown := C.2.2.2.1
  have htb := C.2.2.2.2.1
  have hl : lv_has ls 2 [(0, .ref c_ad), (1, .int v1)] := hl
  refine lv_aload_n hx hb dX7_head_0 rfl (lv_at hl 0 rfl) ?_
  refine lv_iload_n hx hb dX7_head_1 rfl (lv_at hl 1 rfl) ?_
  obtain ⟨r_1, q1, h⟩ := xn_i h
  refine x_callVi (As := [.int v1]) (rest := []) C hw gc_X7_114 ⟨rfl, rfl, ds_X7_isSet, (by rw [hR]; exact Nat.le_of_ble_eq_true rfl), (by rw [hR]; exact Nat.le_of_ble_eq_true rfl), Nat.zero_le _, Nat.zero_le _⟩ (c_X7_isSet l dC dI cI cZ cB cO c_ad c_p n_p c_fits c_refusedBad c_refusedNo c_refusedFull n_n n_count n_generators v1 _ q1 _) [0, 1, 2] [3, 4, 5, 6, 7, 8, 9, 10, 11, 12, 13, 14, 15] (by decide) rfl rfl (by decide) (by decide) rfl rfl rfl hl.1 rfl (Nat.le_of_ble_eq_true rfl) dX7_head_2 (fun H locs hw => ?_)
  have hw : xWd (dC, dI) A s.heap H locs ((wC cI cZ cB cO c_ad c_p c_fits c_refusedBad c_refusedNo c_refusedFull) ++ ((wS cI cZ cB cO (c_p 0) n_p n_n n_count n_generators) ++ ((wE cI cZ cB cO (c_p 4) e_p e_n e_steps e_undoing e_chains e_leaving e_found e_foundAt e_foundCount) ++ (wK cI cZ cB cO (c_p 5) k_p k_n k_inOrder k_starts k_firsts k_reached k_reachedAt k_reachedCount)))) := hw.sub [13, 14, 15, 0, 1, 2, 3, 4, 5, 6, 7, 8, 9, 10, 11, 12] (by decide) rfl
  refine lv_if_ne (tgt := 15) hx hb dX7_head_5 (by decide) (fun b2 => ?_) (fun b2 => ?_)
  · replace h := xb_ff b2 h
    refine lv_aload_n hx hb dX7_head_15 rfl (lv_at hl 0 rfl) ?_
    obtain ⟨⟨c_fits_2, e_n_3, e_steps_4, e_undoing_5, e_chains_6, e_leaving_7, e_found_8, e_foundAt_9, e_foundCount_10, k_n_11, k_inOrder_12, k_starts_13, k_firsts_14, k_reached_15, k_reachedAt_16, k_reachedCount_17⟩, q3, h⟩ := xn_i h
    refine x_callVv (As := []) (rest := []) C hw gc_X7_95 ⟨rfl, rfl, ds_X7_fit, (by rw [hR]; exact Nat.le_of_ble_eq_true rfl), (by rw [hR]; exact Nat.le_of_ble_eq_true rfl), Nat.zero_le _, Nat.zero_le _⟩ (c_X7_fit l dC dI cI cZ cB cO c_ad c_p n_p e_p k_p c_fits c_refusedBad c_refusedNo c_refusedFull n_n n_count n_generators e_n e_steps e_undoing e_chains e_leaving e_found e_foundAt e_foundCount k_n k_inOrder k_starts k_firsts k_reached k_reachedAt k_reachedCount _ q3 _) [0, 1, 2, 3, 4, 5, 6, 7, 8, 9, 10, 11, 12, 13, 14, 15] [] (by decide) rfl rfl (by decide) (by decide) rfl rfl rfl hl.1 rfl (Nat.le_of_ble_eq_true rfl) dX7_head_16 (fun H locs hw => ?_)
    have hw : xWd (dC, dI) A s.heap H locs ((wC cI cZ cB cO c_ad c_p c_fits_2 c_refusedBad c_refusedNo c_refusedFull) ++ ((wS cI cZ cB cO (c_p 0) n_p n_n n_count n_generators) ++ ((wE cI cZ cB cO (c_p 4) e_p e_n_3 e_steps_4 e_undoing_5 e_chains_6 e_leaving_7 e_found_8 e_foundAt_9 e_foundCount_10) ++ (wK cI cZ cB cO (c_p 5) k_p k_n_11 k_inOrder_12 k_starts_13 k_firsts_14 k_reached_15 k_reachedAt_16 k_reachedCount_17)))) := hw
    refine lv_aload_n hx hb dX7_head_19 rfl (lv_at hl 0 rfl) ?_
    refine x_get (ci := 6) C hw inX7 rfl 5 (by decide) lkF_X7_47 rfl 0 rfl rfl dX7_head_20 ?_
    refine lv_iload_n hx hb dX7_head_23 rfl (lv_at hl 1 rfl) ?_
    obtain ⟨r_18, q4, h⟩ := xn_i h
    refine x_callVi (As := [.int v1]) (rest := []) C hw gc_X7_144 ⟨rfl, rfl, ds_X0_placeOfFirst, (by rw [hR]; exact Nat.le_of_ble_eq_true rfl), (by rw [hR]; exact Nat.le_of_ble_eq_true rfl), Nat.zero_le _, Nat.zero_le _⟩ (c_X0_placeOfFirst l dC dI cI cZ cB cO (c_p 5) k_p k_n_11 k_inOrder_12 k_starts_13 k_firsts_14 k_reached_15 k_reachedAt_16 k_reachedCount_17 v1 _ q4 _) [10, 11, 12, 13, 14, 15] [0, 1, 2, 3, 4, 5, 6, 7, 8, 9] (by decide) rfl rfl (by decide) (by decide) rfl rfl rfl hl.1 rfl (Nat.le_of_ble_eq_true rfl) dX7_head_24 (fun H locs hw => ?_)
    have hw : xWd (dC, dI) A s.heap H locs ((wC cI cZ cB cO c_ad c_p c_fits_2 c_refusedBad c_refusedNo c_refusedFull) ++ ((wS cI cZ cB cO (c_p 0) n_p n_n n_count n_generators) ++ ((wE cI cZ cB cO (c_p 4) e_p e_n_3 e_steps_4 e_undoing_5 e_chains_6 e_leaving_7 e_found_8 e_foundAt_9 e_foundCount_10) ++ (wK cI cZ cB cO (c_p 5) k_p k_n_11 k_inOrder_12 k_starts_13 k_firsts_14 k_reached_15 k_reachedAt_16 k_reachedCount_17)))) := hw
    obtain rfl := Option.some.inj h
    exact x_reti C hQ hA hw dX7_head_27
  · replace h := xb_tt b2 h
    refine lv_aload_n hx hb dX7_head_8 rfl (lv_at hl 0 rfl) ?_
    refine lv_bipush (v := (-2 : Int32)) hx hb dX7_head_9 (by decide) ?_
    obtain ⟨⟨c_refusedBad_19, c_refusedNo_20, c_refusedFull_21, r_22⟩, q5, h⟩ := xn_i h
    refine x_callVi (As := [.int (-2 : Int32)]) (rest := []) C hw gc_X7_65 ⟨rfl, rfl, ds_X7_refuse, (by rw [hR]; exact Nat.le_of_ble_eq_true rfl), (by rw [hR]; exact Nat.le_of_ble_eq_true rfl), Nat.zero_le _, Nat.zero_le _⟩ (c_X7_refuse l dC dI cI cZ cB cO c_ad c_p c_fits c_refusedBad c_refusedNo c_refusedFull (-2 : Int32) _ q5 _) [0] [1, 2, 3, 4, 5, 6, 7, 8, 9, 10, 11, 12, 13, 14, 15] (by decide) rfl rfl (by decide) (by decide) rfl rfl rfl hl.1 rfl (Nat.le_of_ble_eq_true rfl) dX7_head_11 (fun H locs hw => ?_)
    have hw : xWd (dC, dI) A s.heap H locs ((wC cI cZ cB cO c_ad c_p c_fits c_refusedBad_19 c_refusedNo_20 c_refusedFull_21) ++ ((wS cI cZ cB cO (c_p 0) n_p n_n n_count n_generators) ++ ((wE cI cZ cB cO (c_p 4) e_p e_n e_steps e_undoing e_chains e_leaving e_found e_foundAt e_foundCount) ++ (wK cI cZ cB cO (c_p 5) k_p k_n k_inOrder k_starts k_firsts k_reached k_reachedAt k_reachedCount)))) := hw.sub [15, 0, 1, 2, 3, 4, 5, 6, 7, 8, 9, 10, 11, 12, 13, 14] (by decide) rfl
    obtain rfl := Option.some.inj h
    exact x_reti C hQ hA hw dX7_head_14
noncomputable def f_X7_type (c_refusedBad : Int32) (c_refusedNo : Int32) (c_refusedFull : Int32) (t_length : Int32) (t_bytes : (Nat → Int32)) (v1 : Int32) : Option (Int32 × Int32 × Int32 × Int32 × (Nat → Int32) × Int32) := xb (v1 < 0) (xn (f_X7_refuse c_refusedBad c_refusedNo c_refusedFull (-2 : Int32)) (fun (z : Int32 × Int32 × Int32 × Int32) => match z with | (c_refusedBad_1, c_refusedNo_2, c_refusedFull_3, r_4) => some (c_refusedBad_1, c_refusedNo_2, c_refusedFull_3, t_length, t_bytes, r_4))) (xb (v1 ≤ (127 : Int32)) (xb (t_length < (80 : Int32)) (xn (f_X6_add t_length t_bytes v1) (fun (z : Int32 × (Nat → Int32)) => match z with | (t_length_5, t_bytes_6) => some (c_refusedBad, c_refusedNo, c_refusedFull, t_length_5, t_bytes_6, t_length_5))) (xn (f_X7_refuse c_refusedBad c_refusedNo c_refusedFull (-4 : Int32)) (fun (z : Int32 × Int32 × Int32 × Int32) => match z with | (c_refusedBad_7, c_refusedNo_8, c_refusedFull_9, r_10) => some (c_refusedBad_7, c_refusedNo_8, c_refusedFull_9, t_length, t_bytes, r_10)))) (xn (f_X7_refuse c_refusedBad c_refusedNo c_refusedFull (-2 : Int32)) (fun (z : Int32 × Int32 × Int32 × Int32) => match z with | (c_refusedBad_11, c_refusedNo_12, c_refusedFull_13, r_14) => some (c_refusedBad_11, c_refusedNo_12, c_refusedFull_13, t_length, t_bytes, r_14))))
set_option maxHeartbeats 4000000 in
set_option maxRecDepth 100000 in
theorem c_X7_type (l : Launch) (dC : Nat → ClassId) (dI : Nat → Nat → Nat) (cI cZ cB cO : ClassId) (c_ad : Nat) (c_p : Nat → Nat) (t_p : Nat → Nat) (c_fits : Int32) (c_refusedBad : Int32) (c_refusedNo : Int32) (c_refusedFull : Int32) (t_length : Int32) (t_bytes : (Nat → Int32)) (v1 : Int32) (o : Int32 × Int32 × Int32 × Int32 × (Nat → Int32) × Int32) (h : f_X7_type c_refusedBad c_refusedNo c_refusedFull t_length t_bytes v1 = some o) (sz : Nat) : Met l yX7_type (xW yX7_type cX7_type 2 (some .int)) { frames := 1, cells := 0, slots := 0, locals := 21 } (xPre dC dI (xT cI cZ cB cO) [.ref c_ad, .int v1] ((wC cI cZ cB cO c_ad c_p c_fits c_refusedBad c_refusedNo c_refusedFull) ++ (wT cI cZ cB cO (c_p 2) t_p t_length t_bytes)) sz) (xQi dC dI (xT cI cZ cB cO) o.2.2.2.2.2 ((wC cI cZ cB cO c_ad c_p c_fits c_refusedBad c_refusedNo c_refusedFull) ++ (wT cI cZ cB cO (c_p 2) t_p t_length t_bytes)) ((wC cI cZ cB cO c_ad c_p c_fits o.1 o.2.1 o.2.2.1) ++ (wT cI cZ cB cO (c_p 2) t_p o.2.2.2.1 o.2.2.2.2.1)) sz) 0 0 (va_A ((wC cI cZ cB cO c_ad c_p c_fits c_refusedBad c_refusedNo c_refusedFull) ++ (wT cI cZ cB cO (c_p 2) t_p t_length t_bytes)) sz) := by
  refine x_met (by decide) (Nat.le_of_ble_eq_true rfl) ?_
  intro p e s m args below meth c R Q A hR hsz hA hQ hin C hw ls hl
  have hx := C.1
  have hb := C.2.1
  have hown := C.2.2.2.1
  have htb := C.2.2.2.2.1
  have hl : lv_has ls 2 [(0, .ref c_ad), (1, .int v1)] := hl
  refine lv_iload_n hx hb dX7_type_0 rfl (lv_at hl 1 rfl) ?_
  refine lv_if_lt (tgt := 10) hx hb dX7_type_1 (by decide) (fun b1 => ?_) (fun b1 => ?_)
  · replace h := xb_tt b1 h
    refine lv_aload_n hx hb dX7_type_10 rfl (lv_at hl 0 rfl) ?_
    refine lv_bipush (v := (-2 : Int32)) hx hb dX7_type_11 (by decide) ?_
    obtain ⟨⟨c_refusedBad_1, c_refusedNo_2, c_refusedFull_3, r_4⟩, q2, h⟩ := xn_i h
    refine x_callVi (As := [.int (-2 : Int32)]) (rest := []) C hw gc_X7_65 ⟨rfl, rfl, ds_X7_refuse, (by rw [hR]; exact Nat.le_of_ble_eq_true rfl), (by rw [hR]; exact Nat.le_of_ble_eq_true rfl), Nat.zero_le _, Nat.zero_le _⟩ (c_X7_refuse l dC dI cI cZ cB cO c_ad c_p c_fits c_refusedBad c_refusedNo c_refusedFull (-2 : Int32) _ q2 _) [0] [1, 2] (by decide) rfl rfl (by decide) (by decide) rfl rfl rfl hl.1 rfl (Nat.le_of_ble_eq_true rfl) dX7_type_13 (fun H locs hw => ?_)
    have hw : xWd (dC, dI) A s.heap H locs ((wC cI cZ cB cO c_ad c_p c_fits c_refusedBad_1 c_refusedNo_2 c_refusedFull_3) ++ (wT cI cZ cB cO (c_p 2) t_p t_length t_bytes)) := hw.sub [2, 0, 1] (by decide) rfl
    obtain rfl := Option.some.inj h
    exact x_reti C hQ hA hw dX7_type_16
  · replace h := xb_ff b1 h
    refine lv_iload_n hx hb dX7_type_4 rfl (lv_at hl 1 rfl) ?_
    refine lv_bipush (v := (127 : Int32)) hx hb dX7_type_5 (by decide) ?_
    refine lv_icmp_le (tgt := 17) hx hb dX7_type_7 (by decide) (fun b3 => ?_) (fun b3 => ?_)
    · replace h := xb_tt b3 h
      refine lv_aload_n hx hb dX7_type_17 rfl (lv_at hl 0 rfl) ?_
      refine x_get (ci := 6) C hw inX7 rfl 2 (by decide) lkF_X7_26 rfl 0 rfl rfl dX7_type_18 ?_
      refine x_get (ci := 5) C hw inX6 rfl 0 (by decide) lkF_X7_147 rfl 1 rfl rfl dX7_type_21 ?_
      refine lv_bipush (v := (80 : Int32)) hx hb dX7_type_24 (by decide) ?_
      refine lv_icmp_lt (tgt := 36) hx hb dX7_type_26 (by decide) (fun b4 => ?_) (fun b4 => ?_)
      · replace h := xb_tt b4 h
        refine lv_aload_n hx hb dX7_type_36 rfl (lv_at hl 0 rfl) ?_
        refine x_get (ci := 6) C hw inX7 rfl 2 (by decide) lkF_X7_26 rfl 0 rfl rfl dX7_type_37 ?_
        refine lv_iload_n hx hb dX7_type_40 rfl (lv_at hl 1 rfl) ?_
        obtain ⟨⟨t_length_5, t_bytes_6⟩, q5, h⟩ := xn_i h
        refine x_callVv (As := [.int v1]) (rest := []) C hw gc_X7_150 ⟨rfl, rfl, ds_X6_add, (by rw [hR]; exact Nat.le_of_ble_eq_true rfl), (by rw [hR]; exact Nat.le_of_ble_eq_true rfl), Nat.zero_le _, Nat.zero_le _⟩ (c_X6_add l dC dI cI cZ cB cO (c_p 2) t_p t_length t_bytes v1 _ q5 _) [1, 2] [0] (by decide) rfl rfl (by decide) (by decide) rfl rfl rfl hl.1 rfl (Nat.le_of_ble_eq_true rfl) dX7_type_41 (fun H locs hw => ?_)
        have hw : xWd (dC, dI) A s.heap H locs ((wC cI cZ cB cO c_ad c_p c_fits c_refusedBad c_refusedNo c_refusedFull) ++ (wT cI cZ cB cO (c_p 2) t_p t_length_5 t_bytes_6)) := hw
        refine lv_aload_n hx hb dX7_type_44 rfl (lv_at hl 0 rfl) ?_
        refine x_get (ci := 6) C hw inX7 rfl 2 (by decide) lkF_X7_26 rfl 0 rfl rfl dX7_type_45 ?_
        refine x_get (ci := 5) C hw inX6 rfl 0 (by decide) lkF_X7_147 rfl 1 rfl rfl dX7_type_48 ?_
        obtain rfl := Option.some.inj h
        exact x_reti C hQ hA hw dX7_type_51
      · replace h := xb_ff b4 h
        refine lv_aload_n hx hb dX7_type_29 rfl (lv_at hl 0 rfl) ?_
        refine lv_bipush (v := (-4 : Int32)) hx hb dX7_type_30 (by decide) ?_
        obtain ⟨⟨c_refusedBad_7, c_refusedNo_8, c_refusedFull_9, r_10⟩, q6, h⟩ := xn_i h
        refine x_callVi (As := [.int (-4 : Int32)]) (rest := []) C hw gc_X7_65 ⟨rfl, rfl, ds_X7_refuse, (by rw [hR]; exact Nat.le_of_ble_eq_true rfl), (by rw [hR]; exact Nat.le_of_ble_eq_true rfl), Nat.zero_le _, Nat.zero_le _⟩ (c_X7_refuse l dC dI cI cZ cB cO c_ad c_p c_fits c_refusedBad c_refusedNo c_refusedFull (-4 : Int32) _ q6 _) [0] [1, 2] (by decide) rfl rfl (by decide) (by decide) rfl rfl rfl hl.1 rfl (Nat.le_of_ble_eq_true rfl) dX7_type_32 (fun H locs hw => ?_)
        have hw : xWd (dC, dI) A s.heap H locs ((wC cI cZ cB cO c_ad c_p c_fits c_refusedBad_7 c_refusedNo_8 c_refusedFull_9) ++ (wT cI cZ cB cO (c_p 2) t_p t_length t_bytes)) := hw.sub [2, 0, 1] (by decide) rfl
        obtain rfl := Option.some.inj h
        exact x_reti C hQ hA hw dX7_type_35
    · replace h := xb_ff b3 h
      refine lv_aload_n hx hb dX7_type_10 rfl (lv_at hl 0 rfl) ?_
      refine lv_bipush (v := (-2 : Int32)) hx hb dX7_type_11 (by decide) ?_
      obtain ⟨⟨c_refusedBad_11, c_refusedNo_12, c_refusedFull_13, r_14⟩, q7, h⟩ := xn_i h
      refine x_callVi (As := [.int (-2 : Int32)]) (rest := []) C hw gc_X7_65 ⟨rfl, rfl, ds_X7_refuse, (by rw [hR]; exact Nat.le_of_ble_eq_true rfl), (by rw [hR]; exact Nat.le_of_ble_eq_true rfl), Nat.zero_le _, Nat.zero_le _⟩ (c_X7_refuse l dC dI cI cZ cB cO c_ad c_p c_fits c_refusedBad c_refusedNo c_refusedFull (-2 : Int32) _ q7 _) [0] [1, 2] (by decide) rfl rfl (by decide) (by decide) rfl rfl rfl hl.1 rfl (Nat.le_of_ble_eq_true rfl) dX7_type_13 (fun H locs hw => ?_)
      have hw : xWd (dC, dI) A s.heap H locs ((wC cI cZ cB cO c_ad c_p c_fits c_refusedBad_11 c_refusedNo_12 c_refusedFull_13) ++ (wT cI cZ cB cO (c_p 2) t_p t_length t_bytes)) := hw.sub [2, 0, 1] (by decide) rfl
      obtain rfl := Option.some.inj h
      exact x_reti C hQ hA hw dX7_type_16
noncomputable def f_X7_clear (t_length : Int32) : Option (Int32 × Int32) := some ((0 : Int32), t_length)
set_option maxHeartbeats 4000000 in
set_option maxRecDepth 100000 in
theorem c_X7_clear (l : Launch) (dC : Nat → ClassId) (dI : Nat → Nat → Nat) (cI cZ cB cO : ClassId) (c_ad : Nat) (c_p : Nat → Nat) (t_p : Nat → Nat) (c_fits : Int32) (c_refusedBad : Int32) (c_refusedNo : Int32) (c_refusedFull : Int32) (t_length : Int32) (t_bytes : (Nat → Int32)) (o : Int32 × Int32) (h : f_X7_clear t_length = some o) (sz : Nat) : Met l yX7_clear (xW yX7_clear cX7_clear 2 (some .int)) { frames := 0, cells := 0, slots := 0, locals := 0 } (xPre dC dI (xT cI cZ cB cO) [.ref c_ad] ((wC cI cZ cB cO c_ad c_p c_fits c_refusedBad c_refusedNo c_refusedFull) ++ (wT cI cZ cB cO (c_p 2) t_p t_length t_bytes)) sz) (xQi dC dI (xT cI cZ cB cO) o.2 ((wC cI cZ cB cO c_ad c_p c_fits c_refusedBad c_refusedNo c_refusedFull) ++ (wT cI cZ cB cO (c_p 2) t_p t_length t_bytes)) ((wC cI cZ cB cO c_ad c_p c_fits c_refusedBad c_refusedNo c_refusedFull) ++ (wT cI cZ cB cO (c_p 2) t_p o.1 t_bytes)) sz) 0 0 (va_A ((wC cI cZ cB cO c_ad c_p c_fits c_refusedBad c_refusedNo c_refusedFull) ++ (wT cI cZ cB cO (c_p 2) t_p t_length t_bytes)) sz) := by
  refine x_met (by decide) (Nat.le_of_ble_eq_true rfl) ?_
  intro p e s m args below meth c R Q A hR hsz hA hQ hin C hw ls hl
  have hx := C.1
  have hb := C.2.1
  have hown := C.2.2.2.1
  have htb := C.2.2.2.2.1
  have hl : lv_has ls 2 [(0, .ref c_ad)] := hl
  refine lv_aload_n hx hb dX7_clear_0 rfl (lv_at hl 0 rfl) ?_
  refine x_get (ci := 6) C hw inX7 rfl 2 (by decide) lkF_X7_26 rfl 0 rfl rfl dX7_clear_1 ?_
  refine x_get (ci := 5) C hw inX6 rfl 0 (by decide) lkF_X7_147 rfl 1 rfl rfl dX7_clear_4 ?_
  refine lv_istore_n (lv' := [(1, .int t_length), (0, .ref c_ad)]) hx hb dX7_clear_7 rfl hl (by decide) rfl (fun ls hl => ?_)
  refine lv_aload_n hx hb dX7_clear_8 rfl (lv_at hl 1 rfl) ?_
  refine x_get (ci := 6) C hw inX7 rfl 2 (by decide) lkF_X7_26 rfl 0 rfl rfl dX7_clear_9 ?_
  refine lv_iconst (v := (0 : Int32)) hx hb dX7_clear_12 (by decide) ?_
  refine x_put (ci := 5) C hw inX6 tyX6 tyX6_ok nmX6 rfl 0 (by decide) lkF_X7_147 rfl rfl 1 rfl rfl rfl (Nat.le_of_ble_eq_true rfl) dX7_clear_13 (fun H locs hw => ?_)
  have hw : xWd (dC, dI) A s.heap H locs ((wC cI cZ cB cO c_ad c_p c_fits c_refusedBad c_refusedNo c_refusedFull) ++ (wT cI cZ cB cO (c_p 2) t_p (0 : Int32) t_bytes)) := hw
  refine lv_iload_n hx hb dX7_clear_16 rfl (lv_at hl 0 rfl) ?_
  obtain rfl := Option.some.inj h
  exact x_reti C hQ hA hw dX7_clear_17
noncomputable def f_X7_reads (c_fits : Int32) (n_n : Int32) (n_count : Int32) (n_generators : (Nat → Int32)) (z_count : Int32) (z_ra : (Nat → Nat)) (z_rb : (Nat → Nat)) (z_rn : (Nat → Int32)) (z_rc : (Nat → Int32)) (z_rg : (Nat → Nat → Int32)) (t_length : Int32) (t_bytes : (Nat → Int32)) (r_done : Int32) (r_stopped : Int32) (r_due : Int32) (r_letter : Int32) (r_value : Int32) (r_figures : Int32) (r_seen : Int32) (rt_n : Int32) (rt_count : Int32) (rt_generators : (Nat → Int32)) : Option (Int32 × Int32 × Int32 × (Nat → Int32) × Int32 × (Nat → Nat) × (Nat → Nat) × (Nat → Int32) × (Nat → Int32) × (Nat → Nat → Int32) × Int32 × Int32 × Int32 × Int32 × Int32 × Int32 × Int32 × Int32 × Int32 × (Nat → Int32) × Int32) := xn (f_X3_read r_done r_stopped r_due r_letter r_value r_figures r_seen rt_n rt_count rt_generators t_length t_bytes n_n n_count n_generators) (fun (z : Int32 × Int32 × Int32 × Int32 × Int32 × Int32 × Int32 × Int32 × Int32 × (Nat → Int32) × Int32) => match z with | (r_done_1, r_stopped_2, r_due_3, r_letter_4, r_value_5, r_figures_6, r_seen_7, rt_n_8, rt_count_9, rt_generators_10, r_11) => xb (r_11 = (-1 : Int32)) (xb (r_stopped_2 = (-1 : Int32)) (xn (f_X7_keepState c_fits n_n n_count n_generators z_count z_ra z_rb z_rn z_rc z_rg) (fun (z : Int32 × Int32 × (Nat → Nat) × (Nat → Nat) × (Nat → Int32) × (Nat → Int32) × (Nat → Nat → Int32)) => match z with | (c_fits_12, z_count_13, z_ra_14, z_rb_15, z_rn_16, z_rc_17, z_rg_18) => xn (f_X4_copy n_n n_count n_generators rt_n_8 rt_count_9 rt_generators_10) (fun (z : Int32 × Int32 × (Nat → Int32)) => match z with | (n_n_19, n_count_20, n_generators_21) => some (c_fits_12, n_n_19, n_count_20, n_generators_21, z_count_13, z_ra_14, z_rb_15, z_rn_16, z_rc_17, z_rg_18, r_done_1, r_stopped_2, r_due_3, r_letter_4, r_value_5, r_figures_6, r_seen_7, rt_n_8, rt_count_9, rt_generators_10, r_done_1)))) (some (c_fits, n_n, n_count, n_generators, z_count, z_ra, z_rb, z_rn, z_rc, z_rg, r_done_1, r_stopped_2, r_due_3, r_letter_4, r_value_5, r_figures_6, r_seen_7, rt_n_8, rt_count_9, rt_generators_10, ((-1000 : Int32) - r_stopped_2)))) (some (c_fits, n_n, n_count, n_generators, z_count, z_ra, z_rb, z_rn, z_rc, z_rg, r_done_1, r_stopped_2, r_due_3, r_letter_4, r_value_5, r_figures_6, r_seen_7, rt_n_8, rt_count_9, rt_generators_10, ((-10 : Int32) - r_11))))
set_option maxHeartbeats 4000000 in
set_option maxRecDepth 100000 in
theorem c_X7_reads (l : Launch) (dC : Nat → ClassId) (dI : Nat → Nat → Nat) (cI cZ cB cO : ClassId) (c_ad : Nat) (c_p : Nat → Nat) (n_p : Nat → Nat) (z_p : Nat → Nat) (t_p : Nat → Nat) (r_p : Nat → Nat) (rt_p : Nat → Nat) (c_fits : Int32) (c_refusedBad : Int32) (c_refusedNo : Int32) (c_refusedFull : Int32) (n_n : Int32) (n_count : Int32) (n_generators : (Nat → Int32)) (z_count : Int32) (z_ra : (Nat → Nat)) (z_rb : (Nat → Nat)) (z_rn : (Nat → Int32)) (z_rc : (Nat → Int32)) (z_rg : (Nat → Nat → Int32)) (t_length : Int32) (t_bytes : (Nat → Int32)) (r_done : Int32) (r_stopped : Int32) (r_due : Int32) (r_letter : Int32) (r_value : Int32) (r_figures : Int32) (r_seen : Int32) (rt_n : Int32) (rt_count : Int32) (rt_generators : (Nat → Int32)) (o : Int32 × Int32 × Int32 × (Nat → Int32) × Int32 × (Nat → Nat) × (Nat → Nat) × (Nat → Int32) × (Nat → Int32) × (Nat → Nat → Int32) × Int32 × Int32 × Int32 × Int32 × Int32 × Int32 × Int32 × Int32 × Int32 × (Nat → Int32) × Int32) (h : f_X7_reads c_fits n_n n_count n_generators z_count z_ra z_rb z_rn z_rc z_rg t_length t_bytes r_done r_stopped r_due r_letter r_value r_figures r_seen rt_n rt_count rt_generators = some o) (sz : Nat) : Met l yX7_reads (xW yX7_reads cX7_reads 2 (some .int)) { frames := 5, cells := 0, slots := 0, locals := 112 } (xPre dC dI (xT cI cZ cB cO) [.ref c_ad] ((wC cI cZ cB cO c_ad c_p c_fits c_refusedBad c_refusedNo c_refusedFull) ++ ((wS cI cZ cB cO (c_p 0) n_p n_n n_count n_generators) ++ ((wZ cI cZ cB cO (c_p 1) z_p z_count z_ra z_rb z_rn z_rc z_rg) ++ ((wT cI cZ cB cO (c_p 2) t_p t_length t_bytes) ++ ((wR cI cZ cB cO (c_p 3) r_p r_done r_stopped r_due r_letter r_value r_figures r_seen) ++ (wS cI cZ cB cO (r_p 0) rt_p rt_n rt_count rt_generators)))))) sz) (xQi dC dI (xT cI cZ cB cO) o.2.2.2.2.2.2.2.2.2.2.2.2.2.2.2.2.2.2.2.2 ((wC cI cZ cB cO c_ad c_p c_fits c_refusedBad c_refusedNo c_refusedFull) ++ ((wS cI cZ cB cO (c_p 0) n_p n_n n_count n_generators) ++ ((wZ cI cZ cB cO (c_p 1) z_p z_count z_ra z_rb z_rn z_rc z_rg) ++ ((wT cI cZ cB cO (c_p 2) t_p t_length t_bytes) ++ ((wR cI cZ cB cO (c_p 3) r_p r_done r_stopped r_due r_letter r_value r_figures r_seen) ++ (wS cI cZ cB cO (r_p 0) rt_p rt_n rt_count rt_generators)))))) ((wC cI cZ cB cO c_ad c_p o.1 c_refusedBad c_refusedNo c_refusedFull) ++ ((wS cI cZ cB cO (c_p 0) n_p o.2.1 o.2.2.1 o.2.2.2.1) ++ ((wZ cI cZ cB cO (c_p 1) z_p o.2.2.2.2.1 o.2.2.2.2.2.1 o.2.2.2.2.2.2.1 o.2.2.2.2.2.2.2.1 o.2.2.2.2.2.2.2.2.1 o.2.2.2.2.2.2.2.2.2.1) ++ ((wT cI cZ cB cO (c_p 2) t_p t_length t_bytes) ++ ((wR cI cZ cB cO (c_p 3) r_p o.2.2.2.2.2.2.2.2.2.2.1 o.2.2.2.2.2.2.2.2.2.2.2.1 o.2.2.2.2.2.2.2.2.2.2.2.2.1 o.2.2.2.2.2.2.2.2.2.2.2.2.2.1 o.2.2.2.2.2.2.2.2.2.2.2.2.2.2.1 o.2.2.2.2.2.2.2.2.2.2.2.2.2.2.2.1 o.2.2.2.2.2.2.2.2.2.2.2.2.2.2.2.2.1) ++ (wS cI cZ cB cO (r_p 0) rt_p o.2.2.2.2.2.2.2.2.2.2.2.2.2.2.2.2.2.1 o.2.2.2.2.2.2.2.2.2.2.2.2.2.2.2.2.2.2.1 o.2.2.2.2.2.2.2.2.2.2.2.2.2.2.2.2.2.2.2.1)))))) sz) 0 0 (va_A ((wC cI cZ cB cO c_ad c_p c_fits c_refusedBad c_refusedNo c_refusedFull) ++ ((wS cI cZ cB cO (c_p 0) n_p n_n n_count n_generators) ++ ((wZ cI cZ cB cO (c_p 1) z_p z_count z_ra z_rb z_rn z_rc z_rg) ++ ((wT cI cZ cB cO (c_p 2) t_p t_length t_bytes) ++ ((wR cI cZ cB cO (c_p 3) r_p r_done r_stopped r_due r_letter r_value r_figures r_seen) ++ (wS cI cZ cB cO (r_p 0) rt_p rt_n rt_count rt_generators)))))) sz) := by
  refine x_met (by decide) (Nat.le_of_ble_eq_true rfl) ?_
  intro p e s m args below meth c R Q A hR hsz hA hQ hin C hw ls hl
  have hx := C.1
  have hb := C.2.1
  have hown := C.2.2.2.1
  have htb := C.2.2.2.2.1
  have hl : lv_has ls 2 [(0, .ref c_ad)] := hl
  refine lv_aload_n hx hb dX7_reads_0 rfl (lv_at hl 0 rfl) ?_
  refine x_get (ci := 6) C hw inX7 rfl 3 (by decide) lkF_X7_33 rfl 0 rfl rfl dX7_reads_1 ?_
  refine lv_aload_n hx hb dX7_reads_4 rfl (lv_at hl 0 rfl) ?_
  refine x_get (ci := 6) C hw inX7 rfl 2 (by decide) lkF_X7_26 rfl 0 rfl rfl dX7_reads_5 ?_
  refine lv_aload_n hx hb dX7_reads_8 rfl (lv_at hl 0 rfl) ?_
  refine x_get (ci := 6) C hw inX7 rfl 0 (by decide) lkF_X7_10 rfl 0 rfl rfl dX7_reads_9 ?_
  obtain ⟨⟨r_done_1, r_stopped_2, r_due_3, r_letter_4, r_value_5, r_figures_6, r_seen_7, rt_n_8, rt_count_9, rt_generators_10, r_11⟩, q1, h⟩ := xn_i h
  refine x_callVi (As := [.ref (c_p 2), .ref (c_p 0)]) (rest := []) C hw gc_X7_153 ⟨rfl, rfl, ds_X3_read, (by rw [hR]; exact Nat.le_of_ble_eq_true rfl), (by rw [hR]; exact Nat.le_of_ble_eq_true rfl), Nat.zero_le _, Nat.zero_le _⟩ (c_X3_read l dC dI cI cZ cB cO (c_p 3) r_p rt_p (c_p 2) t_p (c_p 0) n_p r_done r_stopped r_due r_letter r_value r_figures r_seen rt_n rt_count rt_generators t_length t_bytes n_n n_count n_generators _ q1 _) [17, 18, 19, 15, 16, 1, 2] [0, 3, 4, 5, 6, 7, 8, 9, 10, 11, 12, 13, 14] (by decide) rfl rfl (by decide) (by decide) rfl rfl rfl hl.1 rfl (Nat.le_of_ble_eq_true rfl) dX7_reads_12 (fun H locs hw => ?_)
  have hw : xWd (dC, dI) A s.heap H locs ((wC cI cZ cB cO c_ad c_p c_fits c_refusedBad c_refusedNo c_refusedFull) ++ ((wS cI cZ cB cO (c_p 0) n_p n_n n_count n_generators) ++ ((wZ cI cZ cB cO (c_p 1) z_p z_count z_ra z_rb z_rn z_rc z_rg) ++ ((wT cI cZ cB cO (c_p 2) t_p t_length t_bytes) ++ ((wR cI cZ cB cO (c_p 3) r_p r_done_1 r_stopped_2 r_due_3 r_letter_4 r_value_5 r_figures_6 r_seen_7) ++ (wS cI cZ cB cO (r_p 0) rt_p rt_n_8 rt_count_9 rt_generators_10)))))) := hw.sub [0, 18, 19, 1, 2, 3, 4, 5, 6, 7, 8, 9, 10, 11, 12, 16, 17, 13, 14, 15] (by decide) rfl
  refine lv_istore_n (lv' := [(1, .int r_11), (0, .ref c_ad)]) hx hb dX7_reads_15 rfl hl (by decide) rfl (fun ls hl => ?_)
  refine lv_iload_n hx hb dX7_reads_16 rfl (lv_at hl 0 rfl) ?_
  refine lv_iconst (v := (-1 : Int32)) hx hb dX7_reads_17 (by decide) ?_
  refine lv_icmp_eq (tgt := 26) hx hb dX7_reads_18 (by decide) (fun b2 => ?_) (fun b2 => ?_)
  · replace h := xb_tt b2 h
    refine lv_aload_n hx hb dX7_reads_26 rfl (lv_at hl 1 rfl) ?_
    refine x_get (ci := 6) C hw inX7 rfl 3 (by decide) lkF_X7_33 rfl 0 rfl rfl dX7_reads_27 ?_
    refine x_get (ci := 2) C hw inX3 rfl 2 (by decide) lkF_X7_156 rfl 17 rfl rfl dX7_reads_30 ?_
    refine lv_iconst (v := (-1 : Int32)) hx hb dX7_reads_33 (by decide) ?_
    refine lv_icmp_eq (tgt := 49) hx hb dX7_reads_34 (by decide) (fun b3 => ?_) (fun b3 => ?_)
    · replace h := xb_tt b3 h
      refine lv_aload_n hx hb dX7_reads_49 rfl (lv_at hl 1 rfl) ?_
      obtain ⟨⟨c_fits_12, z_count_13, z_ra_14, z_rb_15, z_rn_16, z_rc_17, z_rg_18⟩, q4, h⟩ := xn_i h
      refine x_callVv (As := []) (rest := []) C hw gc_X7_72 ⟨rfl, rfl, ds_X7_keepState, (by rw [hR]; exact Nat.le_of_ble_eq_true rfl), (by rw [hR]; exact Nat.le_of_ble_eq_true rfl), Nat.zero_le _, Nat.zero_le _⟩ (c_X7_keepState l dC dI cI cZ cB cO c_ad c_p n_p z_p c_fits c_refusedBad c_refusedNo c_refusedFull n_n n_count n_generators z_count z_ra z_rb z_rn z_rc z_rg _ q4 _) [0, 1, 2, 3, 4, 5, 6, 7, 8, 9, 10, 11, 12, 13, 14] [15, 16, 17, 18, 19] (by decide) rfl rfl (by decide) (by decide) rfl rfl rfl hl.1 rfl (Nat.le_of_ble_eq_true rfl) dX7_reads_50 (fun H locs hw => ?_)
      have hw : xWd (dC, dI) A s.heap H locs ((wC cI cZ cB cO c_ad c_p c_fits_12 c_refusedBad c_refusedNo c_refusedFull) ++ ((wS cI cZ cB cO (c_p 0) n_p n_n n_count n_generators) ++ ((wZ cI cZ cB cO (c_p 1) z_p z_count_13 z_ra_14 z_rb_15 z_rn_16 z_rc_17 z_rg_18) ++ ((wT cI cZ cB cO (c_p 2) t_p t_length t_bytes) ++ ((wR cI cZ cB cO (c_p 3) r_p r_done_1 r_stopped_2 r_due_3 r_letter_4 r_value_5 r_figures_6 r_seen_7) ++ (wS cI cZ cB cO (r_p 0) rt_p rt_n_8 rt_count_9 rt_generators_10)))))) := hw.sub [5, 6, 7, 8, 9, 10, 11, 12, 13, 14, 15, 16, 17, 18, 19, 0, 1, 2, 3, 4] (by decide) rfl
      refine lv_aload_n hx hb dX7_reads_53 rfl (lv_at hl 1 rfl) ?_
      refine x_get (ci := 6) C hw inX7 rfl 0 (by decide) lkF_X7_10 rfl 0 rfl rfl dX7_reads_54 ?_
      refine lv_aload_n hx hb dX7_reads_57 rfl (lv_at hl 1 rfl) ?_
      refine x_get (ci := 6) C hw inX7 rfl 3 (by decide) lkF_X7_33 rfl 0 rfl rfl dX7_reads_58 ?_
      refine x_get (ci := 2) C hw inX3 rfl 0 (by decide) lkF_X7_159 rfl 17 rfl rfl dX7_reads_61 ?_
      obtain ⟨⟨n_n_19, n_count_20, n_generators_21⟩, q5, h⟩ := xn_i h
      refine x_callVv (As := [.ref (r_p 0)]) (rest := []) C hw gc_X7_162 ⟨rfl, rfl, ds_X4_copy, (by rw [hR]; exact Nat.le_of_ble_eq_true rfl), (by rw [hR]; exact Nat.le_of_ble_eq_true rfl), Nat.zero_le _, Nat.zero_le _⟩ (c_X4_copy l dC dI cI cZ cB cO (c_p 0) n_p (r_p 0) rt_p n_n n_count n_generators rt_n_8 rt_count_9 rt_generators_10 _ q5 _) [1, 2, 18, 19] [0, 3, 4, 5, 6, 7, 8, 9, 10, 11, 12, 13, 14, 15, 16, 17] (by decide) rfl rfl (by decide) (by decide) rfl rfl rfl hl.1 rfl (Nat.le_of_ble_eq_true rfl) dX7_reads_64 (fun H locs hw => ?_)
      have hw : xWd (dC, dI) A s.heap H locs ((wC cI cZ cB cO c_ad c_p c_fits_12 c_refusedBad c_refusedNo c_refusedFull) ++ ((wS cI cZ cB cO (c_p 0) n_p n_n_19 n_count_20 n_generators_21) ++ ((wZ cI cZ cB cO (c_p 1) z_p z_count_13 z_ra_14 z_rb_15 z_rn_16 z_rc_17 z_rg_18) ++ ((wT cI cZ cB cO (c_p 2) t_p t_length t_bytes) ++ ((wR cI cZ cB cO (c_p 3) r_p r_done_1 r_stopped_2 r_due_3 r_letter_4 r_value_5 r_figures_6 r_seen_7) ++ (wS cI cZ cB cO (r_p 0) rt_p rt_n_8 rt_count_9 rt_generators_10)))))) := hw.sub [0, 16, 17, 1, 2, 3, 4, 5, 6, 7, 8, 9, 10, 11, 12, 13, 14, 15, 18, 19] (by decide) rfl
      refine lv_aload_n hx hb dX7_reads_67 rfl (lv_at hl 1 rfl) ?_
      refine x_get (ci := 6) C hw inX7 rfl 3 (by decide) lkF_X7_33 rfl 0 rfl rfl dX7_reads_68 ?_
      refine x_get (ci := 2) C hw inX3 rfl 1 (by decide) lkF_X7_166 rfl 17 rfl rfl dX7_reads_71 ?_
      obtain rfl := Option.some.inj h
      exact x_reti C hQ hA hw dX7_reads_74
    · replace h := xb_ff b3 h
      refine lv_sipush (v := (-1000 : Int32)) hx hb dX7_reads_37 (by decide) ?_
      refine lv_aload_n hx hb dX7_reads_40 rfl (lv_at hl 1 rfl) ?_
      refine x_get (ci := 6) C hw inX7 rfl 3 (by decide) lkF_X7_33 rfl 0 rfl rfl dX7_reads_41 ?_
      refine x_get (ci := 2) C hw inX3 rfl 2 (by decide) lkF_X7_156 rfl 17 rfl rfl dX7_reads_44 ?_
      refine lv_isub hx hb dX7_reads_47 ?_
      obtain rfl := Option.some.inj h
      exact x_reti C hQ hA hw dX7_reads_48
  · replace h := xb_ff b2 h
    refine lv_bipush (v := (-10 : Int32)) hx hb dX7_reads_21 (by decide) ?_
    refine lv_iload_n hx hb dX7_reads_23 rfl (lv_at hl 0 rfl) ?_
    refine lv_isub hx hb dX7_reads_24 ?_
    obtain rfl := Option.some.inj h
    exact x_reti C hQ hA hw dX7_reads_25
noncomputable def f_X7_back (c_fits : Int32) (c_refusedBad : Int32) (c_refusedNo : Int32) (c_refusedFull : Int32) (n_n : Int32) (n_count : Int32) (n_generators : (Nat → Int32)) (z_count : Int32) (z_ra : (Nat → Nat)) (z_rb : (Nat → Nat)) (z_rn : (Nat → Int32)) (z_rc : (Nat → Int32)) (z_rg : (Nat → Nat → Int32)) : Option (Int32 × Int32 × Int32 × Int32 × Int32 × Int32 × (Nat → Int32) × Int32 × Int32) := xb (0 < z_count) (xn (f_X5_pop z_count z_ra z_rb z_rn z_rc z_rg n_n n_count n_generators) (fun (z : Int32 × Int32 × Int32 × (Nat → Int32)) => match z with | (z_count_1, n_n_2, n_count_3, n_generators_4) => some ((0 : Int32), c_refusedBad, c_refusedNo, c_refusedFull, n_n_2, n_count_3, n_generators_4, z_count_1, z_count_1))) (xn (f_X7_refuse c_refusedBad c_refusedNo c_refusedFull (-3 : Int32)) (fun (z : Int32 × Int32 × Int32 × Int32) => match z with | (c_refusedBad_5, c_refusedNo_6, c_refusedFull_7, r_8) => some (c_fits, c_refusedBad_5, c_refusedNo_6, c_refusedFull_7, n_n, n_count, n_generators, z_count, r_8)))
set_option maxHeartbeats 4000000 in
set_option maxRecDepth 100000 in
theorem c_X7_back (l : Launch) (dC : Nat → ClassId) (dI : Nat → Nat → Nat) (cI cZ cB cO : ClassId) (c_ad : Nat) (c_p : Nat → Nat) (n_p : Nat → Nat) (z_p : Nat → Nat) (c_fits : Int32) (c_refusedBad : Int32) (c_refusedNo : Int32) (c_refusedFull : Int32) (n_n : Int32) (n_count : Int32) (n_generators : (Nat → Int32)) (z_count : Int32) (z_ra : (Nat → Nat)) (z_rb : (Nat → Nat)) (z_rn : (Nat → Int32)) (z_rc : (Nat → Int32)) (z_rg : (Nat → Nat → Int32)) (o : Int32 × Int32 × Int32 × Int32 × Int32 × Int32 × (Nat → Int32) × Int32 × Int32) (h : f_X7_back c_fits c_refusedBad c_refusedNo c_refusedFull n_n n_count n_generators z_count z_ra z_rb z_rn z_rc z_rg = some o) (sz : Nat) : Met l yX7_back (xW yX7_back cX7_back 1 (some .int)) { frames := 3, cells := 0, slots := 0, locals := 82 } (xPre dC dI (xT cI cZ cB cO) [.ref c_ad] ((wC cI cZ cB cO c_ad c_p c_fits c_refusedBad c_refusedNo c_refusedFull) ++ ((wS cI cZ cB cO (c_p 0) n_p n_n n_count n_generators) ++ (wZ cI cZ cB cO (c_p 1) z_p z_count z_ra z_rb z_rn z_rc z_rg))) sz) (xQi dC dI (xT cI cZ cB cO) o.2.2.2.2.2.2.2.2 ((wC cI cZ cB cO c_ad c_p c_fits c_refusedBad c_refusedNo c_refusedFull) ++ ((wS cI cZ cB cO (c_p 0) n_p n_n n_count n_generators) ++ (wZ cI cZ cB cO (c_p 1) z_p z_count z_ra z_rb z_rn z_rc z_rg))) ((wC cI cZ cB cO c_ad c_p o.1 o.2.1 o.2.2.1 o.2.2.2.1) ++ ((wS cI cZ cB cO (c_p 0) n_p o.2.2.2.2.1 o.2.2.2.2.2.1 o.2.2.2.2.2.2.1) ++ (wZ cI cZ cB cO (c_p 1) z_p o.2.2.2.2.2.2.2.1 z_ra z_rb z_rn z_rc z_rg))) sz) 0 0 (va_A ((wC cI cZ cB cO c_ad c_p c_fits c_refusedBad c_refusedNo c_refusedFull) ++ ((wS cI cZ cB cO (c_p 0) n_p n_n n_count n_generators) ++ (wZ cI cZ cB cO (c_p 1) z_p z_count z_ra z_rb z_rn z_rc z_rg))) sz) := by
  refine x_met (by decide) (Nat.le_of_ble_eq_true rfl) ?_
  intro p e s m args below meth c R Q A hR hsz hA hQ hin C hw ls hl
  have hx := C.1
  have hb := C.2.1
  have hown := C.2.2.2.1
  have htb := C.2.2.2.2.1
  have hl : lv_has ls 1 [(0, .ref c_ad)] := hl
  refine lv_aload_n hx hb dX7_back_0 rfl (lv_at hl 0 rfl) ?_
  refine x_get (ci := 6) C hw inX7 rfl 1 (by decide) lkF_X7_19 rfl 0 rfl rfl dX7_back_1 ?_
  refine x_get (ci := 4) C hw inX5 rfl 0 (by decide) lkF_X7_169 rfl 3 rfl rfl dX7_back_4 ?_
  refine lv_if_gt (tgt := 17) hx hb dX7_back_7 (by decide) (fun b1 => ?_) (fun b1 => ?_)
  · replace h := xb_tt b1 h
    refine lv_aload_n hx hb dX7_back_17 rfl (lv_at hl 0 rfl) ?_
    refine x_get (ci := 6) C hw inX7 rfl 1 (by decide) lkF_X7_19 rfl 0 rfl rfl dX7_back_18 ?_
    refine lv_aload_n hx hb dX7_back_21 rfl (lv_at hl 0 rfl) ?_
    refine x_get (ci := 6) C hw inX7 rfl 0 (by decide) lkF_X7_10 rfl 0 rfl rfl dX7_back_22 ?_
    obtain ⟨⟨z_count_1, n_n_2, n_count_3, n_generators_4⟩, q2, h⟩ := xn_i h
    refine x_callVv (As := [.ref (c_p 0)]) (rest := []) C hw gc_X7_170 ⟨rfl, rfl, ds_X5_pop, (by rw [hR]; exact Nat.le_of_ble_eq_true rfl), (by rw [hR]; exact Nat.le_of_ble_eq_true rfl), Nat.zero_le _, Nat.zero_le _⟩ (c_X5_pop l dC dI cI cZ cB cO (c_p 1) z_p (c_p 0) n_p z_count z_ra z_rb z_rn z_rc z_rg n_n n_count n_generators _ q2 _) [3, 4, 5, 6, 7, 8, 9, 10, 11, 12, 13, 14, 1, 2] [0] (by decide) rfl rfl (by decide) (by decide) rfl rfl rfl hl.1 rfl (Nat.le_of_ble_eq_true rfl) dX7_back_25 (fun H locs hw => ?_)
    have hw : xWd (dC, dI) A s.heap H locs ((wC cI cZ cB cO c_ad c_p c_fits c_refusedBad c_refusedNo c_refusedFull) ++ ((wS cI cZ cB cO (c_p 0) n_p n_n_2 n_count_3 n_generators_4) ++ (wZ cI cZ cB cO (c_p 1) z_p z_count_1 z_ra z_rb z_rn z_rc z_rg))) := hw.sub [0, 13, 14, 1, 2, 3, 4, 5, 6, 7, 8, 9, 10, 11, 12] (by decide) rfl
    refine lv_aload_n hx hb dX7_back_28 rfl (lv_at hl 0 rfl) ?_
    refine lv_iconst (v := (0 : Int32)) hx hb dX7_back_29 (by decide) ?_
    refine x_put (ci := 6) C hw inX7 tyX7 tyX7_ok nmX7 rfl 6 (by decide) lkF_X7_51 rfl rfl 0 rfl rfl rfl (Nat.le_of_ble_eq_true rfl) dX7_back_30 (fun H locs hw => ?_)
    have hw : xWd (dC, dI) A s.heap H locs ((wC cI cZ cB cO c_ad c_p (0 : Int32) c_refusedBad c_refusedNo c_refusedFull) ++ ((wS cI cZ cB cO (c_p 0) n_p n_n_2 n_count_3 n_generators_4) ++ (wZ cI cZ cB cO (c_p 1) z_p z_count_1 z_ra z_rb z_rn z_rc z_rg))) := hw
    refine lv_aload_n hx hb dX7_back_33 rfl (lv_at hl 0 rfl) ?_
    refine x_get (ci := 6) C hw inX7 rfl 1 (by decide) lkF_X7_19 rfl 0 rfl rfl dX7_back_34 ?_
    refine x_get (ci := 4) C hw inX5 rfl 0 (by decide) lkF_X7_169 rfl 3 rfl rfl dX7_back_37 ?_
    obtain rfl := Option.some.inj h
    exact x_reti C hQ hA hw dX7_back_40
  · replace h := xb_ff b1 h
    refine lv_aload_n hx hb dX7_back_10 rfl (lv_at hl 0 rfl) ?_
    refine lv_bipush (v := (-3 : Int32)) hx hb dX7_back_11 (by decide) ?_
    obtain ⟨⟨c_refusedBad_5, c_refusedNo_6, c_refusedFull_7, r_8⟩, q3, h⟩ := xn_i h
    refine x_callVi (As := [.int (-3 : Int32)]) (rest := []) C hw gc_X7_65 ⟨rfl, rfl, ds_X7_refuse, (by rw [hR]; exact Nat.le_of_ble_eq_true rfl), (by rw [hR]; exact Nat.le_of_ble_eq_true rfl), Nat.zero_le _, Nat.zero_le _⟩ (c_X7_refuse l dC dI cI cZ cB cO c_ad c_p c_fits c_refusedBad c_refusedNo c_refusedFull (-3 : Int32) _ q3 _) [0] [1, 2, 3, 4, 5, 6, 7, 8, 9, 10, 11, 12, 13, 14] (by decide) rfl rfl (by decide) (by decide) rfl rfl rfl hl.1 rfl (Nat.le_of_ble_eq_true rfl) dX7_back_13 (fun H locs hw => ?_)
    have hw : xWd (dC, dI) A s.heap H locs ((wC cI cZ cB cO c_ad c_p c_fits c_refusedBad_5 c_refusedNo_6 c_refusedFull_7) ++ ((wS cI cZ cB cO (c_p 0) n_p n_n n_count n_generators) ++ (wZ cI cZ cB cO (c_p 1) z_p z_count z_ra z_rb z_rn z_rc z_rg))) := hw.sub [14, 0, 1, 2, 3, 4, 5, 6, 7, 8, 9, 10, 11, 12, 13] (by decide) rfl
    obtain rfl := Option.some.inj h
    exact x_reti C hQ hA hw dX7_back_16
noncomputable def f_X7_told (c_refusedBad : Int32) (c_refusedNo : Int32) (c_refusedFull : Int32) (n_n : Int32) (n_count : Int32) (z_count : Int32) (t_length : Int32) (v1 : Int32) : Option (Int32 × Int32 × Int32 × Int32) := xb (v1 < 0) (xn (f_X7_refuse c_refusedBad c_refusedNo c_refusedFull (-2 : Int32)) (fun (z : Int32 × Int32 × Int32 × Int32) => match z with | (c_refusedBad_1, c_refusedNo_2, c_refusedFull_3, r_4) => some (c_refusedBad_1, c_refusedNo_2, c_refusedFull_3, r_4))) (xb (v1 ≤ (6 : Int32)) (xn (f_X7_tell c_refusedBad c_refusedNo c_refusedFull n_n n_count z_count t_length v1) (fun (r_5 : Int32) => some (c_refusedBad, c_refusedNo, c_refusedFull, r_5))) (xn (f_X7_refuse c_refusedBad c_refusedNo c_refusedFull (-2 : Int32)) (fun (z : Int32 × Int32 × Int32 × Int32) => match z with | (c_refusedBad_6, c_refusedNo_7, c_refusedFull_8, r_9) => some (c_refusedBad_6, c_refusedNo_7, c_refusedFull_8, r_9))))
set_option maxHeartbeats 4000000 in
set_option maxRecDepth 100000 in
theorem c_X7_told (l : Launch) (dC : Nat → ClassId) (dI : Nat → Nat → Nat) (cI cZ cB cO : ClassId) (c_ad : Nat) (c_p : Nat → Nat) (n_p : Nat → Nat) (z_p : Nat → Nat) (t_p : Nat → Nat) (c_fits : Int32) (c_refusedBad : Int32) (c_refusedNo : Int32) (c_refusedFull : Int32) (n_n : Int32) (n_count : Int32) (n_generators : (Nat → Int32)) (z_count : Int32) (z_ra : (Nat → Nat)) (z_rb : (Nat → Nat)) (z_rn : (Nat → Int32)) (z_rc : (Nat → Int32)) (z_rg : (Nat → Nat → Int32)) (t_length : Int32) (t_bytes : (Nat → Int32)) (v1 : Int32) (o : Int32 × Int32 × Int32 × Int32) (h : f_X7_told c_refusedBad c_refusedNo c_refusedFull n_n n_count z_count t_length v1 = some o) (sz : Nat) : Met l yX7_told (xW yX7_told cX7_told 2 (some .int)) { frames := 1, cells := 0, slots := 0, locals := 21 } (xPre dC dI (xT cI cZ cB cO) [.ref c_ad, .int v1] ((wC cI cZ cB cO c_ad c_p c_fits c_refusedBad c_refusedNo c_refusedFull) ++ ((wS cI cZ cB cO (c_p 0) n_p n_n n_count n_generators) ++ ((wZ cI cZ cB cO (c_p 1) z_p z_count z_ra z_rb z_rn z_rc z_rg) ++ (wT cI cZ cB cO (c_p 2) t_p t_length t_bytes)))) sz) (xQi dC dI (xT cI cZ cB cO) o.2.2.2 ((wC cI cZ cB cO c_ad c_p c_fits c_refusedBad c_refusedNo c_refusedFull) ++ ((wS cI cZ cB cO (c_p 0) n_p n_n n_count n_generators) ++ ((wZ cI cZ cB cO (c_p 1) z_p z_count z_ra z_rb z_rn z_rc z_rg) ++ (wT cI cZ cB cO (c_p 2) t_p t_length t_bytes)))) ((wC cI cZ cB cO c_ad c_p c_fits o.1 o.2.1 o.2.2.1) ++ ((wS cI cZ cB cO (c_p 0) n_p n_n n_count n_generators) ++ ((wZ cI cZ cB cO (c_p 1) z_p z_count z_ra z_rb z_rn z_rc z_rg) ++ (wT cI cZ cB cO (c_p 2) t_p t_length t_bytes)))) sz) 0 0 (va_A ((wC cI cZ cB cO c_ad c_p c_fits c_refusedBad c_refusedNo c_refusedFull) ++ ((wS cI cZ cB cO (c_p 0) n_p n_n n_count n_generators) ++ ((wZ cI cZ cB cO (c_p 1) z_p z_count z_ra z_rb z_rn z_rc z_rg) ++ (wT cI cZ cB cO (c_p 2) t_p t_length t_bytes)))) sz) := by
  refine x_met (by decide) (Nat.le_of_ble_eq_true rfl) ?_
  intro p e s m args below meth c R Q A hR hsz hA hQ hin C hw ls hl
  have hx := C.1
  have hb := C.2.1
  have hown := C.2.2.2.1
  have htb := C.2.2.2.2.1
  have hl : lv_has ls 2 [(0, .ref c_ad), (1, .int v1)] := hl
  refine lv_iload_n hx hb dX7_told_0 rfl (lv_at hl 1 rfl) ?_
  refine lv_if_lt (tgt := 10) hx hb dX7_told_1 (by decide) (fun b1 => ?_) (fun b1 => ?_)
  · replace h := xb_tt b1 h
    refine lv_aload_n hx hb dX7_told_10 rfl (lv_at hl 0 rfl) ?_
    refine lv_bipush (v := (-2 : Int32)) hx hb dX7_told_11 (by decide) ?_
    obtain ⟨⟨c_refusedBad_1, c_refusedNo_2, c_refusedFull_3, r_4⟩, q2, h⟩ := xn_i h
    refine x_callVi (As := [.int (-2 : Int32)]) (rest := []) C hw gc_X7_65 ⟨rfl, rfl, ds_X7_refuse, (by rw [hR]; exact Nat.le_of_ble_eq_true rfl), (by rw [hR]; exact Nat.le_of_ble_eq_true rfl), Nat.zero_le _, Nat.zero_le _⟩ (c_X7_refuse l dC dI cI cZ cB cO c_ad c_p c_fits c_refusedBad c_refusedNo c_refusedFull (-2 : Int32) _ q2 _) [0] [1, 2, 3, 4, 5, 6, 7, 8, 9, 10, 11, 12, 13, 14, 15, 16] (by decide) rfl rfl (by decide) (by decide) rfl rfl rfl hl.1 rfl (Nat.le_of_ble_eq_true rfl) dX7_told_13 (fun H locs hw => ?_)
    have hw : xWd (dC, dI) A s.heap H locs ((wC cI cZ cB cO c_ad c_p c_fits c_refusedBad_1 c_refusedNo_2 c_refusedFull_3) ++ ((wS cI cZ cB cO (c_p 0) n_p n_n n_count n_generators) ++ ((wZ cI cZ cB cO (c_p 1) z_p z_count z_ra z_rb z_rn z_rc z_rg) ++ (wT cI cZ cB cO (c_p 2) t_p t_length t_bytes)))) := hw.sub [16, 0, 1, 2, 3, 4, 5, 6, 7, 8, 9, 10, 11, 12, 13, 14, 15] (by decide) rfl
    refine lv_goto (tgt := 24) hx hb dX7_told_16 (by decide) ?_
    obtain rfl := Option.some.inj h
    exact x_reti C hQ hA hw dX7_told_24
  · replace h := xb_ff b1 h
    refine lv_iload_n hx hb dX7_told_4 rfl (lv_at hl 1 rfl) ?_
    refine lv_bipush (v := (6 : Int32)) hx hb dX7_told_5 (by decide) ?_
    refine lv_icmp_le (tgt := 19) hx hb dX7_told_7 (by decide) (fun b3 => ?_) (fun b3 => ?_)
    · replace h := xb_tt b3 h
      refine lv_aload_n hx hb dX7_told_19 rfl (lv_at hl 0 rfl) ?_
      refine lv_iload_n hx hb dX7_told_20 rfl (lv_at hl 1 rfl) ?_
      obtain ⟨r_5, q4, h⟩ := xn_i h
      refine x_callVi (As := [.int v1]) (rest := []) C hw gc_X7_173 ⟨rfl, rfl, ds_X7_tell, (by rw [hR]; exact Nat.le_of_ble_eq_true rfl), (by rw [hR]; exact Nat.le_of_ble_eq_true rfl), Nat.zero_le _, Nat.zero_le _⟩ (c_X7_tell l dC dI cI cZ cB cO c_ad c_p n_p z_p t_p c_fits c_refusedBad c_refusedNo c_refusedFull n_n n_count n_generators z_count z_ra z_rb z_rn z_rc z_rg t_length t_bytes v1 _ q4 _) [0, 1, 2, 3, 4, 5, 6, 7, 8, 9, 10, 11, 12, 13, 14, 15, 16] [] (by decide) rfl rfl (by decide) (by decide) rfl rfl rfl hl.1 rfl (Nat.le_of_ble_eq_true rfl) dX7_told_21 (fun H locs hw => ?_)
      have hw : xWd (dC, dI) A s.heap H locs ((wC cI cZ cB cO c_ad c_p c_fits c_refusedBad c_refusedNo c_refusedFull) ++ ((wS cI cZ cB cO (c_p 0) n_p n_n n_count n_generators) ++ ((wZ cI cZ cB cO (c_p 1) z_p z_count z_ra z_rb z_rn z_rc z_rg) ++ (wT cI cZ cB cO (c_p 2) t_p t_length t_bytes)))) := hw
      obtain rfl := Option.some.inj h
      exact x_reti C hQ hA hw dX7_told_24
    · replace h := xb_ff b3 h
      refine lv_aload_n hx hb dX7_told_10 rfl (lv_at hl 0 rfl) ?_
      refine lv_bipush (v := (-2 : Int32)) hx hb dX7_told_11 (by decide) ?_
      obtain ⟨⟨c_refusedBad_6, c_refusedNo_7, c_refusedFull_8, r_9⟩, q5, h⟩ := xn_i h
      refine x_callVi (As := [.int (-2 : Int32)]) (rest := []) C hw gc_X7_65 ⟨rfl, rfl, ds_X7_refuse, (by rw [hR]; exact Nat.le_of_ble_eq_true rfl), (by rw [hR]; exact Nat.le_of_ble_eq_true rfl), Nat.zero_le _, Nat.zero_le _⟩ (c_X7_refuse l dC dI cI cZ cB cO c_ad c_p c_fits c_refusedBad c_refusedNo c_refusedFull (-2 : Int32) _ q5 _) [0] [1, 2, 3, 4, 5, 6, 7, 8, 9, 10, 11, 12, 13, 14, 15, 16] (by decide) rfl rfl (by decide) (by decide) rfl rfl rfl hl.1 rfl (Nat.le_of_ble_eq_true rfl) dX7_told_13 (fun H locs hw => ?_)
      have hw : xWd (dC, dI) A s.heap H locs ((wC cI cZ cB cO c_ad c_p c_fits c_refusedBad_6 c_refusedNo_7 c_refusedFull_8) ++ ((wS cI cZ cB cO (c_p 0) n_p n_n n_count n_generators) ++ ((wZ cI cZ cB cO (c_p 1) z_p z_count z_ra z_rb z_rn z_rc z_rg) ++ (wT cI cZ cB cO (c_p 2) t_p t_length t_bytes)))) := hw.sub [16, 0, 1, 2, 3, 4, 5, 6, 7, 8, 9, 10, 11, 12, 13, 14, 15] (by decide) rfl
      refine lv_goto (tgt := 24) hx hb dX7_told_16 (by decide) ?_
      obtain rfl := Option.some.inj h
      exact x_reti C hQ hA hw dX7_told_24
noncomputable def f_X7_digest_L4 (e_chains_5 : (Nat → Int32)) (k_n_10 : Int32) (k_firsts_13 : (Nat → Int32)) (v3_28 : Int32) (z : Int64 × Int32) : Option ((Int64 × Int32) ⊕ (Int64)) := match z with
  | (v1_30, v4_31) => xb ((2 : Int32) < v4_31) (some (.inr v1_30)) (xn (f_X7_tellPoint e_chains_5 k_n_10 k_firsts_13 v3_28 v4_31) (fun (r_33 : Int32) => some (.inl ((((31 : Int64) * v1_30) + r_33.toInt64), (v4_31 + (1 : Int32))))))
noncomputable def f_X7_digest_L5 (n_n : Int32) (k_n_10 : Int32) (k_inOrder_11 : (Nat → Int32)) (k_starts_12 : (Nat → Int32)) (k_firsts_13 : (Nat → Int32)) (z : Int64 × Int32) : Option ((Int64 × Int32) ⊕ (Int64)) := match z with
  | (v1_34, v3_35) => xb (n_n < v3_35) (some (.inr v1_34)) (xn (f_X0_digestFirsts k_n_10 k_inOrder_11 k_starts_12 k_firsts_13 v3_35 v1_34) (fun (r_37 : Int64) => some (.inl (r_37, (v3_35 + (1 : Int32))))))
noncomputable def f_X7_digest_L3 (n_n : Int32) (e_chains_5 : (Nat → Int32)) (k_n_10 : Int32) (k_firsts_13 : (Nat → Int32)) (z : Int64 × Int32) : Option ((Int64 × Int32) ⊕ (Int64)) := match z with
  | (v1_27, v3_28) => xb (n_n ≤ v3_28) (some (.inr v1_27)) (xn (xL (f_X7_digest_L4 e_chains_5 k_n_10 k_firsts_13 v3_28) (v1_27, (0 : Int32))) (fun (v1_32 : Int64) => some (.inl (v1_32, (v3_28 + (1 : Int32))))))
noncomputable def f_X7_digest_L2 (n_count : Int32) (n_generators : (Nat → Int32)) (n_n : Int32) (z : Int64 × Int32) : Option ((Int64 × Int32) ⊕ (Int64)) := match z with
  | (v1_21, v3_22) => xb (n_count ≤ v3_22) (some (.inr v1_21)) (xn (f_X4_generator n_count n_generators v3_22) (fun (r_24 : Int32) => xn (f_X2_write r_24 n_n) (fun (r_25 : Int32) => some (.inl ((((31 : Int64) * v1_21) + r_25.toInt64), (v3_22 + (1 : Int32)))))))
noncomputable def f_X7_digest_L1 (c_refusedBad : Int32) (c_refusedNo : Int32) (c_refusedFull : Int32) (n_n : Int32) (n_count : Int32) (z_count : Int32) (t_length : Int32) (z : Int64 × Int32) : Option ((Int64 × Int32) ⊕ (Int64)) := match z with
  | (v1_17, v3_18) => xb ((6 : Int32) < v3_18) (some (.inr v1_17)) (xn (f_X7_tell c_refusedBad c_refusedNo c_refusedFull n_n n_count z_count t_length v3_18) (fun (r_20 : Int32) => some (.inl ((((31 : Int64) * v1_17) + r_20.toInt64), (v3_18 + (1 : Int32))))))
noncomputable def f_X7_digest (c_fits : Int32) (c_refusedBad : Int32) (c_refusedNo : Int32) (c_refusedFull : Int32) (n_n : Int32) (n_count : Int32) (n_generators : (Nat → Int32)) (z_count : Int32) (t_length : Int32) (e_n : Int32) (e_steps : (Nat → Int32)) (e_undoing : (Nat → Int32)) (e_chains : (Nat → Int32)) (e_leaving : (Nat → Int32)) (e_found : (Nat → Int32)) (e_foundAt : (Nat → Int32)) (e_foundCount : Int32) (k_n : Int32) (k_inOrder : (Nat → Int32)) (k_starts : (Nat → Int32)) (k_firsts : (Nat → Int32)) (k_reached : (Nat → Int32)) (k_reachedAt : (Nat → Int32)) (k_reachedCount : Int32) : Option (Int32 × Int32 × (Nat → Int32) × (Nat → Int32) × (Nat → Int32) × (Nat → Int32) × (Nat → Int32) × (Nat → Int32) × Int32 × Int32 × (Nat → Int32) × (Nat → Int32) × (Nat → Int32) × (Nat → Int32) × (Nat → Int32) × Int32 × Int64) := xn (f_X7_fit c_fits n_n n_count n_generators e_n e_steps e_undoing e_chains e_leaving e_found e_foundAt e_foundCount k_n k_inOrder k_starts k_firsts k_reached k_reachedAt k_reachedCount) (fun (z : Int32 × Int32 × (Nat → Int32) × (Nat → Int32) × (Nat → Int32) × (Nat → Int32) × (Nat → Int32) × (Nat → Int32) × Int32 × Int32 × (Nat → Int32) × (Nat → Int32) × (Nat → Int32) × (Nat → Int32) × (Nat → Int32) × Int32) => match z with | (c_fits_1, e_n_2, e_steps_3, e_undoing_4, e_chains_5, e_leaving_6, e_found_7, e_foundAt_8, e_foundCount_9, k_n_10, k_inOrder_11, k_starts_12, k_firsts_13, k_reached_14, k_reachedAt_15, k_reachedCount_16) => xn (xL (f_X7_digest_L1 c_refusedBad c_refusedNo c_refusedFull n_n n_count z_count t_length) ((2477 : Int64), (0 : Int32))) (fun (v1_19 : Int64) => xn (xL (f_X7_digest_L2 n_count n_generators n_n) (v1_19, (0 : Int32))) (fun (v1_23 : Int64) => xn (f_X1_howMany e_leaving_6) (fun (r_26 : Int32) => xn (xL (f_X7_digest_L3 n_n e_chains_5 k_n_10 k_firsts_13) ((((31 : Int64) * v1_23) + r_26.toInt64), (0 : Int32))) (fun (v1_29 : Int64) => xn (xL (f_X7_digest_L5 n_n k_n_10 k_inOrder_11 k_starts_12 k_firsts_13) (v1_29, (0 : Int32))) (fun (v1_36 : Int64) => some (c_fits_1, e_n_2, e_steps_3, e_undoing_4, e_chains_5, e_leaving_6, e_found_7, e_foundAt_8, e_foundCount_9, k_n_10, k_inOrder_11, k_starts_12, k_firsts_13, k_reached_14, k_reachedAt_15, k_reachedCount_16, v1_36)))))))
set_option maxHeartbeats 4000000 in
set_option maxRecDepth 100000 in
theorem c_X7_digest (l : Launch) (dC : Nat → ClassId) (dI : Nat → Nat → Nat) (cI cZ cB cO : ClassId) (c_ad : Nat) (c_p : Nat → Nat) (n_p : Nat → Nat) (z_p : Nat → Nat) (t_p : Nat → Nat) (e_p : Nat → Nat) (k_p : Nat → Nat) (c_fits : Int32) (c_refusedBad : Int32) (c_refusedNo : Int32) (c_refusedFull : Int32) (n_n : Int32) (n_count : Int32) (n_generators : (Nat → Int32)) (z_count : Int32) (z_ra : (Nat → Nat)) (z_rb : (Nat → Nat)) (z_rn : (Nat → Int32)) (z_rc : (Nat → Int32)) (z_rg : (Nat → Nat → Int32)) (t_length : Int32) (t_bytes : (Nat → Int32)) (e_n : Int32) (e_steps : (Nat → Int32)) (e_undoing : (Nat → Int32)) (e_chains : (Nat → Int32)) (e_leaving : (Nat → Int32)) (e_found : (Nat → Int32)) (e_foundAt : (Nat → Int32)) (e_foundCount : Int32) (k_n : Int32) (k_inOrder : (Nat → Int32)) (k_starts : (Nat → Int32)) (k_firsts : (Nat → Int32)) (k_reached : (Nat → Int32)) (k_reachedAt : (Nat → Int32)) (k_reachedCount : Int32) (o : Int32 × Int32 × (Nat → Int32) × (Nat → Int32) × (Nat → Int32) × (Nat → Int32) × (Nat → Int32) × (Nat → Int32) × Int32 × Int32 × (Nat → Int32) × (Nat → Int32) × (Nat → Int32) × (Nat → Int32) × (Nat → Int32) × Int32 × Int64) (h : f_X7_digest c_fits c_refusedBad c_refusedNo c_refusedFull n_n n_count n_generators z_count t_length e_n e_steps e_undoing e_chains e_leaving e_found e_foundAt e_foundCount k_n k_inOrder k_starts k_firsts k_reached k_reachedAt k_reachedCount = some o) (sz : Nat) : Met l yX7_digest (xW yX7_digest cX7_digest 5 (some .long)) { frames := 6, cells := 0, slots := 0, locals := 133 } (xPre dC dI (xT cI cZ cB cO) [.ref c_ad] ((wC cI cZ cB cO c_ad c_p c_fits c_refusedBad c_refusedNo c_refusedFull) ++ ((wS cI cZ cB cO (c_p 0) n_p n_n n_count n_generators) ++ ((wZ cI cZ cB cO (c_p 1) z_p z_count z_ra z_rb z_rn z_rc z_rg) ++ ((wT cI cZ cB cO (c_p 2) t_p t_length t_bytes) ++ ((wE cI cZ cB cO (c_p 4) e_p e_n e_steps e_undoing e_chains e_leaving e_found e_foundAt e_foundCount) ++ (wK cI cZ cB cO (c_p 5) k_p k_n k_inOrder k_starts k_firsts k_reached k_reachedAt k_reachedCount)))))) sz) (xQl dC dI (xT cI cZ cB cO) o.2.2.2.2.2.2.2.2.2.2.2.2.2.2.2.2 ((wC cI cZ cB cO c_ad c_p c_fits c_refusedBad c_refusedNo c_refusedFull) ++ ((wS cI cZ cB cO (c_p 0) n_p n_n n_count n_generators) ++ ((wZ cI cZ cB cO (c_p 1) z_p z_count z_ra z_rb z_rn z_rc z_rg) ++ ((wT cI cZ cB cO (c_p 2) t_p t_length t_bytes) ++ ((wE cI cZ cB cO (c_p 4) e_p e_n e_steps e_undoing e_chains e_leaving e_found e_foundAt e_foundCount) ++ (wK cI cZ cB cO (c_p 5) k_p k_n k_inOrder k_starts k_firsts k_reached k_reachedAt k_reachedCount)))))) ((wC cI cZ cB cO c_ad c_p o.1 c_refusedBad c_refusedNo c_refusedFull) ++ ((wS cI cZ cB cO (c_p 0) n_p n_n n_count n_generators) ++ ((wZ cI cZ cB cO (c_p 1) z_p z_count z_ra z_rb z_rn z_rc z_rg) ++ ((wT cI cZ cB cO (c_p 2) t_p t_length t_bytes) ++ ((wE cI cZ cB cO (c_p 4) e_p o.2.1 o.2.2.1 o.2.2.2.1 o.2.2.2.2.1 o.2.2.2.2.2.1 o.2.2.2.2.2.2.1 o.2.2.2.2.2.2.2.1 o.2.2.2.2.2.2.2.2.1) ++ (wK cI cZ cB cO (c_p 5) k_p o.2.2.2.2.2.2.2.2.2.1 o.2.2.2.2.2.2.2.2.2.2.1 o.2.2.2.2.2.2.2.2.2.2.2.1 o.2.2.2.2.2.2.2.2.2.2.2.2.1 o.2.2.2.2.2.2.2.2.2.2.2.2.2.1 o.2.2.2.2.2.2.2.2.2.2.2.2.2.2.1 o.2.2.2.2.2.2.2.2.2.2.2.2.2.2.2.1)))))) sz) 0 0 (va_A ((wC cI cZ cB cO c_ad c_p c_fits c_refusedBad c_refusedNo c_refusedFull) ++ ((wS cI cZ cB cO (c_p 0) n_p n_n n_count n_generators) ++ ((wZ cI cZ cB cO (c_p 1) z_p z_count z_ra z_rb z_rn z_rc z_rg) ++ ((wT cI cZ cB cO (c_p 2) t_p t_length t_bytes) ++ ((wE cI cZ cB cO (c_p 4) e_p e_n e_steps e_undoing e_chains e_leaving e_found e_foundAt e_foundCount) ++ (wK cI cZ cB cO (c_p 5) k_p k_n k_inOrder k_starts k_firsts k_reached k_reachedAt k_reachedCount)))))) sz) := by
  refine x_met (by decide) (Nat.le_of_ble_eq_true rfl) ?_
  intro p e s m args below meth c R Q A hR hsz hA hQ hin C hw ls hl
  have hx := C.1
  have hb := C.2.1
  have hown := C.2.2.2.1
  have htb := C.2.2.2.2.1
  have hl : lv_has ls 5 [(0, .ref c_ad)] := hl
  refine lv_aload_n hx hb dX7_digest_0 rfl (lv_at hl 0 rfl) ?_
  obtain ⟨⟨c_fits_1, e_n_2, e_steps_3, e_undoing_4, e_chains_5, e_leaving_6, e_found_7, e_foundAt_8, e_foundCount_9, k_n_10, k_inOrder_11, k_starts_12, k_firsts_13, k_reached_14, k_reachedAt_15, k_reachedCount_16⟩, q1, h⟩ := xn_i h
  refine x_callVv (As := []) (rest := []) C hw gc_X7_95 ⟨rfl, rfl, ds_X7_fit, (by rw [hR]; exact Nat.le_of_ble_eq_true rfl), (by rw [hR]; exact Nat.le_of_ble_eq_true rfl), Nat.zero_le _, Nat.zero_le _⟩ (c_X7_fit l dC dI cI cZ cB cO c_ad c_p n_p e_p k_p c_fits c_refusedBad c_refusedNo c_refusedFull n_n n_count n_generators e_n e_steps e_undoing e_chains e_leaving e_found e_foundAt e_foundCount k_n k_inOrder k_starts k_firsts k_reached k_reachedAt k_reachedCount _ q1 _) [0, 1, 2, 17, 18, 19, 20, 21, 22, 23, 24, 25, 26, 27, 28, 29] [3, 4, 5, 6, 7, 8, 9, 10, 11, 12, 13, 14, 15, 16] (by decide) rfl rfl (by decide) (by decide) rfl rfl rfl hl.1 rfl (Nat.le_of_ble_eq_true rfl) dX7_digest_1 (fun H locs hw => ?_)
  have hw : xWd (dC, dI) A s.heap H locs ((wC cI cZ cB cO c_ad c_p c_fits_1 c_refusedBad c_refusedNo c_refusedFull) ++ ((wS cI cZ cB cO (c_p 0) n_p n_n n_count n_generators) ++ ((wZ cI cZ cB cO (c_p 1) z_p z_count z_ra z_rb z_rn z_rc z_rg) ++ ((wT cI cZ cB cO (c_p 2) t_p t_length t_bytes) ++ ((wE cI cZ cB cO (c_p 4) e_p e_n_2 e_steps_3 e_undoing_4 e_chains_5 e_leaving_6 e_found_7 e_foundAt_8 e_foundCount_9) ++ (wK cI cZ cB cO (c_p 5) k_p k_n_10 k_inOrder_11 k_starts_12 k_firsts_13 k_reached_14 k_reachedAt_15 k_reachedCount_16)))))) := hw.sub [14, 15, 16, 0, 1, 2, 3, 4, 5, 6, 7, 8, 9, 10, 11, 12, 13, 17, 18, 19, 20, 21, 22, 23, 24, 25, 26, 27, 28, 29] (by decide) rfl
  refine lv_ldc2 hx hb hown (htb _ kJ_X7_176) dX7_digest_4 ?_
  refine lv_lstore_n (lv' := [(1, .long (2477 : Int64)), (0, .ref c_ad)]) hx hb dX7_digest_7 rfl hl (by decide) rfl (fun ls hl => ?_)
  refine lv_iconst (v := (0 : Int32)) hx hb dX7_digest_8 (by decide) ?_
  refine lv_istore_n (lv' := [(3, .int (0 : Int32)), (1, .long (2477 : Int64)), (0, .ref c_ad)]) hx hb dX7_digest_9 rfl hl (by decide) rfl (fun ls hl => ?_)
  obtain ⟨z, hr, h⟩ := xn_i h
  refine xL_w (fun (z : Int64 × Int32) => ∀ (H : Heap) (locs : List Loc) (ls : Array Slot), xWd (dC, dI) A s.heap H locs ((wC cI cZ cB cO c_ad c_p c_fits_1 c_refusedBad c_refusedNo c_refusedFull) ++ ((wS cI cZ cB cO (c_p 0) n_p n_n n_count n_generators) ++ ((wZ cI cZ cB cO (c_p 1) z_p z_count z_ra z_rb z_rn z_rc z_rg) ++ ((wT cI cZ cB cO (c_p 2) t_p t_length t_bytes) ++ ((wE cI cZ cB cO (c_p 4) e_p e_n_2 e_steps_3 e_undoing_4 e_chains_5 e_leaving_6 e_found_7 e_foundAt_8 e_foundCount_9) ++ (wK cI cZ cB cO (c_p 5) k_p k_n_10 k_inOrder_11 k_starts_12 k_firsts_13 k_reached_14 k_reachedAt_15 k_reachedCount_16)))))) → lv_has ls 5 [(0, .ref c_ad), (1, .long z.1), (3, .int z.2)] → W p l e R s m args below meth c H locs 0 0 Q (F0 m 10 ls [])) (fun (z : Int64) => ∀ (H : Heap) (locs : List Loc) (ls : Array Slot), xWd (dC, dI) A s.heap H locs ((wC cI cZ cB cO c_ad c_p c_fits_1 c_refusedBad c_refusedNo c_refusedFull) ++ ((wS cI cZ cB cO (c_p 0) n_p n_n n_count n_generators) ++ ((wZ cI cZ cB cO (c_p 1) z_p z_count z_ra z_rb z_rn z_rc z_rg) ++ ((wT cI cZ cB cO (c_p 2) t_p t_length t_bytes) ++ ((wE cI cZ cB cO (c_p 4) e_p e_n_2 e_steps_3 e_undoing_4 e_chains_5 e_leaving_6 e_found_7 e_foundAt_8 e_foundCount_9) ++ (wK cI cZ cB cO (c_p 5) k_p k_n_10 k_inOrder_11 k_starts_12 k_firsts_13 k_reached_14 k_reachedAt_15 k_reachedCount_16)))))) → lv_has ls 5 [(0, .ref c_ad), (1, .long z)] → W p l e R s m args below meth c H locs 0 0 Q (F0 m 35 ls [])) ?_ hr ?_ _ _ _ hw (lv_sub hl [2, 1, 0] rfl)
  · rintro ⟨v1_17, v3_18⟩ o h k H locs ls hw hl
    have hw : xWd (dC, dI) A s.heap H locs ((wC cI cZ cB cO c_ad c_p c_fits_1 c_refusedBad c_refusedNo c_refusedFull) ++ ((wS cI cZ cB cO (c_p 0) n_p n_n n_count n_generators) ++ ((wZ cI cZ cB cO (c_p 1) z_p z_count z_ra z_rb z_rn z_rc z_rg) ++ ((wT cI cZ cB cO (c_p 2) t_p t_length t_bytes) ++ ((wE cI cZ cB cO (c_p 4) e_p e_n_2 e_steps_3 e_undoing_4 e_chains_5 e_leaving_6 e_found_7 e_foundAt_8 e_foundCount_9) ++ (wK cI cZ cB cO (c_p 5) k_p k_n_10 k_inOrder_11 k_starts_12 k_firsts_13 k_reached_14 k_reachedAt_15 k_reachedCount_16)))))) := hw
    have hl : lv_has ls 5 [(0, .ref c_ad), (1, .long v1_17), (3, .int v3_18)] := hl
    refine lv_iload_n hx hb dX7_digest_10 rfl (lv_at hl 2 rfl) ?_
    refine lv_bipush (v := (6 : Int32)) hx hb dX7_digest_11 (by decide) ?_
    refine lv_icmp_gt (tgt := 35) hx hb dX7_digest_13 (by decide) (fun b2 => ?_) (fun b2 => ?_)
    · replace h := xb_tt b2 h
      obtain rfl := Option.some.inj h
      exact k _ _ _ hw (lv_sub hl [0, 1] rfl)
    · replace h := xb_ff b2 h
      refine lv_ldc2 hx hb hown (htb _ kJ_X7_178) dX7_digest_16 ?_
      refine lv_lload_n hx hb dX7_digest_19 rfl (lv_at hl 1 rfl) ?_
      refine lv_lmul hx hb dX7_digest_20 ?_
      refine lv_aload_n hx hb dX7_digest_21 rfl (lv_at hl 0 rfl) ?_
      refine lv_iload_n hx hb dX7_digest_22 rfl (lv_at hl 2 rfl) ?_
      obtain ⟨r_20, q3, h⟩ := xn_i h
      refine x_callVi (As := [.int v3_18]) (rest := [.long ((31 : Int64) * v1_17)]) C hw gc_X7_173 ⟨rfl, rfl, ds_X7_tell, (by rw [hR]; exact Nat.le_of_ble_eq_true rfl), (by rw [hR]; exact Nat.le_of_ble_eq_true rfl), Nat.zero_le _, Nat.zero_le _⟩ (c_X7_tell l dC dI cI cZ cB cO c_ad c_p n_p z_p t_p c_fits_1 c_refusedBad c_refusedNo c_refusedFull n_n n_count n_generators z_count z_ra z_rb z_rn z_rc z_rg t_length t_bytes v3_18 _ q3 _) [0, 1, 2, 3, 4, 5, 6, 7, 8, 9, 10, 11, 12, 13, 14, 15, 16] [17, 18, 19, 20, 21, 22, 23, 24, 25, 26, 27, 28, 29] (by decide) rfl rfl (by decide) (by decide) rfl rfl rfl hl.1 rfl (Nat.le_of_ble_eq_true rfl) dX7_digest_23 (fun H locs hw => ?_)
      have hw : xWd (dC, dI) A s.heap H locs ((wC cI cZ cB cO c_ad c_p c_fits_1 c_refusedBad c_refusedNo c_refusedFull) ++ ((wS cI cZ cB cO (c_p 0) n_p n_n n_count n_generators) ++ ((wZ cI cZ cB cO (c_p 1) z_p z_count z_ra z_rb z_rn z_rc z_rg) ++ ((wT cI cZ cB cO (c_p 2) t_p t_length t_bytes) ++ ((wE cI cZ cB cO (c_p 4) e_p e_n_2 e_steps_3 e_undoing_4 e_chains_5 e_leaving_6 e_found_7 e_foundAt_8 e_foundCount_9) ++ (wK cI cZ cB cO (c_p 5) k_p k_n_10 k_inOrder_11 k_starts_12 k_firsts_13 k_reached_14 k_reachedAt_15 k_reachedCount_16)))))) := hw.sub [13, 14, 15, 16, 17, 18, 19, 20, 21, 22, 23, 24, 25, 26, 27, 28, 29, 0, 1, 2, 3, 4, 5, 6, 7, 8, 9, 10, 11, 12] (by decide) rfl
      refine lv_i2l hx hb dX7_digest_26 rfl ?_
      refine lv_ladd hx hb dX7_digest_27 ?_
      refine lv_lstore_n (lv' := [(1, .long (((31 : Int64) * v1_17) + r_20.toInt64)), (0, .ref c_ad), (3, .int v3_18)]) hx hb dX7_digest_28 rfl hl (by decide) rfl (fun ls hl => ?_)
      refine lv_iinc (v := (v3_18 + (1 : Int32))) (lv' := [(3, .int (v3_18 + (1 : Int32))), (1, .long (((31 : Int64) * v1_17) + r_20.toInt64)), (0, .ref c_ad)]) hx hb dX7_digest_29 hl (k := 2) rfl (congrArg (fun q => v3_18 + q) (by decide)) (by decide) rfl (fun ls hl => ?_)
      refine lv_goto (tgt := 10) hx hb dX7_digest_32 (by decide) ?_
      obtain rfl := Option.some.inj h
      exact k _ _ _ hw (lv_sub hl [2, 1, 0] rfl)
  · obtain ⟨v1_19, hz⟩ : ∃ q, q = z := ⟨z, rfl⟩
    subst hz
    intro H locs ls hw hl
    have hw : xWd (dC, dI) A s.heap H locs ((wC cI cZ cB cO c_ad c_p c_fits_1 c_refusedBad c_refusedNo c_refusedFull) ++ ((wS cI cZ cB cO (c_p 0) n_p n_n n_count n_generators) ++ ((wZ cI cZ cB cO (c_p 1) z_p z_count z_ra z_rb z_rn z_rc z_rg) ++ ((wT cI cZ cB cO (c_p 2) t_p t_length t_bytes) ++ ((wE cI cZ cB cO (c_p 4) e_p e_n_2 e_steps_3 e_undoing_4 e_chains_5 e_leaving_6 e_found_7 e_foundAt_8 e_foundCount_9) ++ (wK cI cZ cB cO (c_p 5) k_p k_n_10 k_inOrder_11 k_starts_12 k_firsts_13 k_reached_14 k_reachedAt_15 k_reachedCount_16)))))) := hw
    have hl : lv_has ls 5 [(0, .ref c_ad), (1, .long v1_19)] := hl
    refine lv_iconst (v := (0 : Int32)) hx hb dX7_digest_35 (by decide) ?_
    refine lv_istore_n (lv' := [(3, .int (0 : Int32)), (0, .ref c_ad), (1, .long v1_19)]) hx hb dX7_digest_36 rfl hl (by decide) rfl (fun ls hl => ?_)
    obtain ⟨z, hr, h⟩ := xn_i h
    refine xL_w (fun (z : Int64 × Int32) => ∀ (H : Heap) (locs : List Loc) (ls : Array Slot), xWd (dC, dI) A s.heap H locs ((wC cI cZ cB cO c_ad c_p c_fits_1 c_refusedBad c_refusedNo c_refusedFull) ++ ((wS cI cZ cB cO (c_p 0) n_p n_n n_count n_generators) ++ ((wZ cI cZ cB cO (c_p 1) z_p z_count z_ra z_rb z_rn z_rc z_rg) ++ ((wT cI cZ cB cO (c_p 2) t_p t_length t_bytes) ++ ((wE cI cZ cB cO (c_p 4) e_p e_n_2 e_steps_3 e_undoing_4 e_chains_5 e_leaving_6 e_found_7 e_foundAt_8 e_foundCount_9) ++ (wK cI cZ cB cO (c_p 5) k_p k_n_10 k_inOrder_11 k_starts_12 k_firsts_13 k_reached_14 k_reachedAt_15 k_reachedCount_16)))))) → lv_has ls 5 [(0, .ref c_ad), (1, .long z.1), (3, .int z.2)] → W p l e R s m args below meth c H locs 0 0 Q (F0 m 37 ls [])) (fun (z : Int64) => ∀ (H : Heap) (locs : List Loc) (ls : Array Slot), xWd (dC, dI) A s.heap H locs ((wC cI cZ cB cO c_ad c_p c_fits_1 c_refusedBad c_refusedNo c_refusedFull) ++ ((wS cI cZ cB cO (c_p 0) n_p n_n n_count n_generators) ++ ((wZ cI cZ cB cO (c_p 1) z_p z_count z_ra z_rb z_rn z_rc z_rg) ++ ((wT cI cZ cB cO (c_p 2) t_p t_length t_bytes) ++ ((wE cI cZ cB cO (c_p 4) e_p e_n_2 e_steps_3 e_undoing_4 e_chains_5 e_leaving_6 e_found_7 e_foundAt_8 e_foundCount_9) ++ (wK cI cZ cB cO (c_p 5) k_p k_n_10 k_inOrder_11 k_starts_12 k_firsts_13 k_reached_14 k_reachedAt_15 k_reachedCount_16)))))) → lv_has ls 5 [(0, .ref c_ad), (1, .long z)] → W p l e R s m args below meth c H locs 0 0 Q (F0 m 80 ls [])) ?_ hr ?_ _ _ _ hw (lv_sub hl [1, 2, 0] rfl)
    · rintro ⟨v1_21, v3_22⟩ o h k H locs ls hw hl
      have hw : xWd (dC, dI) A s.heap H locs ((wC cI cZ cB cO c_ad c_p c_fits_1 c_refusedBad c_refusedNo c_refusedFull) ++ ((wS cI cZ cB cO (c_p 0) n_p n_n n_count n_generators) ++ ((wZ cI cZ cB cO (c_p 1) z_p z_count z_ra z_rb z_rn z_rc z_rg) ++ ((wT cI cZ cB cO (c_p 2) t_p t_length t_bytes) ++ ((wE cI cZ cB cO (c_p 4) e_p e_n_2 e_steps_3 e_undoing_4 e_chains_5 e_leaving_6 e_found_7 e_foundAt_8 e_foundCount_9) ++ (wK cI cZ cB cO (c_p 5) k_p k_n_10 k_inOrder_11 k_starts_12 k_firsts_13 k_reached_14 k_reachedAt_15 k_reachedCount_16)))))) := hw
      have hl : lv_has ls 5 [(0, .ref c_ad), (1, .long v1_21), (3, .int v3_22)] := hl
      refine lv_iload_n hx hb dX7_digest_37 rfl (lv_at hl 2 rfl) ?_
      refine lv_aload_n hx hb dX7_digest_38 rfl (lv_at hl 0 rfl) ?_
      refine x_get (ci := 6) C hw inX7 rfl 0 (by decide) lkF_X7_10 rfl 0 rfl rfl dX7_digest_39 ?_
      refine x_get (ci := 3) C hw inX4 rfl 1 (by decide) lkF_X7_85 rfl 1 rfl rfl dX7_digest_42 ?_
      refine lv_icmp_ge (tgt := 80) hx hb dX7_digest_45 (by decide) (fun b4 => ?_) (fun b4 => ?_)
      · replace h := xb_tt b4 h
        obtain rfl := Option.some.inj h
        exact k _ _ _ hw (lv_sub hl [0, 1] rfl)
      · replace h := xb_ff b4 h
        refine lv_ldc2 hx hb hown (htb _ kJ_X7_178) dX7_digest_48 ?_
        refine lv_lload_n hx hb dX7_digest_51 rfl (lv_at hl 1 rfl) ?_
        refine lv_lmul hx hb dX7_digest_52 ?_
        refine lv_aload_n hx hb dX7_digest_53 rfl (lv_at hl 0 rfl) ?_
        refine x_get (ci := 6) C hw inX7 rfl 0 (by decide) lkF_X7_10 rfl 0 rfl rfl dX7_digest_54 ?_
        refine lv_iload_n hx hb dX7_digest_57 rfl (lv_at hl 2 rfl) ?_
        obtain ⟨r_24, q5, h⟩ := xn_i h
        refine x_callVi (As := [.int v3_22]) (rest := [.long ((31 : Int64) * v1_21)]) C hw gc_X7_180 ⟨rfl, rfl, ds_X4_generator, (by rw [hR]; exact Nat.le_of_ble_eq_true rfl), (by rw [hR]; exact Nat.le_of_ble_eq_true rfl), Nat.zero_le _, Nat.zero_le _⟩ (c_X4_generator l dC dI cI cZ cB cO (c_p 0) n_p n_n n_count n_generators v3_22 _ q5 _) [1, 2] [0, 3, 4, 5, 6, 7, 8, 9, 10, 11, 12, 13, 14, 15, 16, 17, 18, 19, 20, 21, 22, 23, 24, 25, 26, 27, 28, 29] (by decide) rfl rfl (by decide) (by decide) rfl rfl rfl hl.1 rfl (Nat.le_of_ble_eq_true rfl) dX7_digest_58 (fun H locs hw => ?_)
        have hw : xWd (dC, dI) A s.heap H locs ((wC cI cZ cB cO c_ad c_p c_fits_1 c_refusedBad c_refusedNo c_refusedFull) ++ ((wS cI cZ cB cO (c_p 0) n_p n_n n_count n_generators) ++ ((wZ cI cZ cB cO (c_p 1) z_p z_count z_ra z_rb z_rn z_rc z_rg) ++ ((wT cI cZ cB cO (c_p 2) t_p t_length t_bytes) ++ ((wE cI cZ cB cO (c_p 4) e_p e_n_2 e_steps_3 e_undoing_4 e_chains_5 e_leaving_6 e_found_7 e_foundAt_8 e_foundCount_9) ++ (wK cI cZ cB cO (c_p 5) k_p k_n_10 k_inOrder_11 k_starts_12 k_firsts_13 k_reached_14 k_reachedAt_15 k_reachedCount_16)))))) := hw.sub [0, 28, 29, 1, 2, 3, 4, 5, 6, 7, 8, 9, 10, 11, 12, 13, 14, 15, 16, 17, 18, 19, 20, 21, 22, 23, 24, 25, 26, 27] (by decide) rfl
        refine lv_aload_n hx hb dX7_digest_61 rfl (lv_at hl 0 rfl) ?_
        refine x_get (ci := 6) C hw inX7 rfl 0 (by decide) lkF_X7_10 rfl 0 rfl rfl dX7_digest_62 ?_
        refine x_get (ci := 3) C hw inX4 rfl 0 (by decide) lkF_X7_69 rfl 1 rfl rfl dX7_digest_65 ?_
        obtain ⟨r_25, q6, h⟩ := xn_i h
        refine x_callSi (As := [.int r_24, .int n_n]) (rest := [.long ((31 : Int64) * v1_21)]) C hw gc_X7_111 ds_X2_write (by rw [hR]; exact Nat.le_of_ble_eq_true rfl) (by rw [hR]; exact Nat.le_of_ble_eq_true rfl) rfl rfl (Nat.zero_le _) (Nat.zero_le _) (c_X2_write l dC dI cI cZ cB cO r_24 n_n _ q6 _) [] [0, 1, 2, 3, 4, 5, 6, 7, 8, 9, 10, 11, 12, 13, 14, 15, 16, 17, 18, 19, 20, 21, 22, 23, 24, 25, 26, 27, 28, 29] (by decide) rfl rfl (by decide) (by decide) rfl hl.1 rfl (Nat.le_of_ble_eq_true rfl) dX7_digest_68 (fun H locs hw => ?_)
        have hw : xWd (dC, dI) A s.heap H locs ((wC cI cZ cB cO c_ad c_p c_fits_1 c_refusedBad c_refusedNo c_refusedFull) ++ ((wS cI cZ cB cO (c_p 0) n_p n_n n_count n_generators) ++ ((wZ cI cZ cB cO (c_p 1) z_p z_count z_ra z_rb z_rn z_rc z_rg) ++ ((wT cI cZ cB cO (c_p 2) t_p t_length t_bytes) ++ ((wE cI cZ cB cO (c_p 4) e_p e_n_2 e_steps_3 e_undoing_4 e_chains_5 e_leaving_6 e_found_7 e_foundAt_8 e_foundCount_9) ++ (wK cI cZ cB cO (c_p 5) k_p k_n_10 k_inOrder_11 k_starts_12 k_firsts_13 k_reached_14 k_reachedAt_15 k_reachedCount_16)))))) := hw.sub [0, 1, 2, 3, 4, 5, 6, 7, 8, 9, 10, 11, 12, 13, 14, 15, 16, 17, 18, 19, 20, 21, 22, 23, 24, 25, 26, 27, 28, 29] (by decide) rfl
        refine lv_i2l hx hb dX7_digest_71 rfl ?_
        refine lv_ladd hx hb dX7_digest_72 ?_
        refine lv_lstore_n (lv' := [(1, .long (((31 : Int64) * v1_21) + r_25.toInt64)), (0, .ref c_ad), (3, .int v3_22)]) hx hb dX7_digest_73 rfl hl (by decide) rfl (fun ls hl => ?_)
        refine lv_iinc (v := (v3_22 + (1 : Int32))) (lv' := [(3, .int (v3_22 + (1 : Int32))), (1, .long (((31 : Int64) * v1_21) + r_25.toInt64)), (0, .ref c_ad)]) hx hb dX7_digest_74 hl (k := 2) rfl (congrArg (fun q => v3_22 + q) (by decide)) (by decide) rfl (fun ls hl => ?_)
        refine lv_goto (tgt := 37) hx hb dX7_digest_77 (by decide) ?_
        obtain rfl := Option.some.inj h
        exact k _ _ _ hw (lv_sub hl [2, 1, 0] rfl)
    · obtain ⟨v1_23, hz⟩ : ∃ q, q = z := ⟨z, rfl⟩
      subst hz
      intro H locs ls hw hl
      have hw : xWd (dC, dI) A s.heap H locs ((wC cI cZ cB cO c_ad c_p c_fits_1 c_refusedBad c_refusedNo c_refusedFull) ++ ((wS cI cZ cB cO (c_p 0) n_p n_n n_count n_generators) ++ ((wZ cI cZ cB cO (c_p 1) z_p z_count z_ra z_rb z_rn z_rc z_rg) ++ ((wT cI cZ cB cO (c_p 2) t_p t_length t_bytes) ++ ((wE cI cZ cB cO (c_p 4) e_p e_n_2 e_steps_3 e_undoing_4 e_chains_5 e_leaving_6 e_found_7 e_foundAt_8 e_foundCount_9) ++ (wK cI cZ cB cO (c_p 5) k_p k_n_10 k_inOrder_11 k_starts_12 k_firsts_13 k_reached_14 k_reachedAt_15 k_reachedCount_16)))))) := hw
      have hl : lv_has ls 5 [(0, .ref c_ad), (1, .long v1_23)] := hl
      refine lv_ldc2 hx hb hown (htb _ kJ_X7_178) dX7_digest_80 ?_
      refine lv_lload_n hx hb dX7_digest_83 rfl (lv_at hl 1 rfl) ?_
      refine lv_lmul hx hb dX7_digest_84 ?_
      refine lv_aload_n hx hb dX7_digest_85 rfl (lv_at hl 0 rfl) ?_
      refine x_get (ci := 6) C hw inX7 rfl 4 (by decide) lkF_X7_40 rfl 0 rfl rfl dX7_digest_86 ?_
      obtain ⟨r_26, q7, h⟩ := xn_i h
      refine x_callVi (As := []) (rest := [.long ((31 : Int64) * v1_23)]) C hw gc_X7_98 ⟨rfl, rfl, ds_X1_howMany, (by rw [hR]; exact Nat.le_of_ble_eq_true rfl), (by rw [hR]; exact Nat.le_of_ble_eq_true rfl), Nat.zero_le _, Nat.zero_le _⟩ (c_X1_howMany l dC dI cI cZ cB cO (c_p 4) e_p e_n_2 e_steps_3 e_undoing_4 e_chains_5 e_leaving_6 e_found_7 e_foundAt_8 e_foundCount_9 _ q7 _) [17, 18, 19, 20, 21, 22, 23] [0, 1, 2, 3, 4, 5, 6, 7, 8, 9, 10, 11, 12, 13, 14, 15, 16, 24, 25, 26, 27, 28, 29] (by decide) rfl rfl (by decide) (by decide) rfl rfl rfl hl.1 rfl (Nat.le_of_ble_eq_true rfl) dX7_digest_89 (fun H locs hw => ?_)
      have hw : xWd (dC, dI) A s.heap H locs ((wC cI cZ cB cO c_ad c_p c_fits_1 c_refusedBad c_refusedNo c_refusedFull) ++ ((wS cI cZ cB cO (c_p 0) n_p n_n n_count n_generators) ++ ((wZ cI cZ cB cO (c_p 1) z_p z_count z_ra z_rb z_rn z_rc z_rg) ++ ((wT cI cZ cB cO (c_p 2) t_p t_length t_bytes) ++ ((wE cI cZ cB cO (c_p 4) e_p e_n_2 e_steps_3 e_undoing_4 e_chains_5 e_leaving_6 e_found_7 e_foundAt_8 e_foundCount_9) ++ (wK cI cZ cB cO (c_p 5) k_p k_n_10 k_inOrder_11 k_starts_12 k_firsts_13 k_reached_14 k_reachedAt_15 k_reachedCount_16)))))) := hw.sub [0, 1, 2, 3, 4, 5, 6, 7, 8, 9, 10, 11, 12, 13, 14, 15, 16, 23, 24, 25, 26, 27, 28, 29, 17, 18, 19, 20, 21, 22] (by decide) rfl
      refine lv_i2l hx hb dX7_digest_92 rfl ?_
      refine lv_ladd hx hb dX7_digest_93 ?_
      refine lv_lstore_n (lv' := [(1, .long (((31 : Int64) * v1_23) + r_26.toInt64)), (0, .ref c_ad)]) hx hb dX7_digest_94 rfl hl (by decide) rfl (fun ls hl => ?_)
      refine lv_iconst (v := (0 : Int32)) hx hb dX7_digest_95 (by decide) ?_
      refine lv_istore_n (lv' := [(3, .int (0 : Int32)), (1, .long (((31 : Int64) * v1_23) + r_26.toInt64)), (0, .ref c_ad)]) hx hb dX7_digest_96 rfl hl (by decide) rfl (fun ls hl => ?_)
      obtain ⟨z, hr, h⟩ := xn_i h
      refine xL_w (fun (z : Int64 × Int32) => ∀ (H : Heap) (locs : List Loc) (ls : Array Slot), xWd (dC, dI) A s.heap H locs ((wC cI cZ cB cO c_ad c_p c_fits_1 c_refusedBad c_refusedNo c_refusedFull) ++ ((wS cI cZ cB cO (c_p 0) n_p n_n n_count n_generators) ++ ((wZ cI cZ cB cO (c_p 1) z_p z_count z_ra z_rb z_rn z_rc z_rg) ++ ((wT cI cZ cB cO (c_p 2) t_p t_length t_bytes) ++ ((wE cI cZ cB cO (c_p 4) e_p e_n_2 e_steps_3 e_undoing_4 e_chains_5 e_leaving_6 e_found_7 e_foundAt_8 e_foundCount_9) ++ (wK cI cZ cB cO (c_p 5) k_p k_n_10 k_inOrder_11 k_starts_12 k_firsts_13 k_reached_14 k_reachedAt_15 k_reachedCount_16)))))) → lv_has ls 5 [(0, .ref c_ad), (1, .long z.1), (3, .int z.2)] → W p l e R s m args below meth c H locs 0 0 Q (F0 m 97 ls [])) (fun (z : Int64) => ∀ (H : Heap) (locs : List Loc) (ls : Array Slot), xWd (dC, dI) A s.heap H locs ((wC cI cZ cB cO c_ad c_p c_fits_1 c_refusedBad c_refusedNo c_refusedFull) ++ ((wS cI cZ cB cO (c_p 0) n_p n_n n_count n_generators) ++ ((wZ cI cZ cB cO (c_p 1) z_p z_count z_ra z_rb z_rn z_rc z_rg) ++ ((wT cI cZ cB cO (c_p 2) t_p t_length t_bytes) ++ ((wE cI cZ cB cO (c_p 4) e_p e_n_2 e_steps_3 e_undoing_4 e_chains_5 e_leaving_6 e_found_7 e_foundAt_8 e_foundCount_9) ++ (wK cI cZ cB cO (c_p 5) k_p k_n_10 k_inOrder_11 k_starts_12 k_firsts_13 k_reached_14 k_reachedAt_15 k_reachedCount_16)))))) → lv_has ls 5 [(0, .ref c_ad), (1, .long z)] → W p l e R s m args below meth c H locs 0 0 Q (F0 m 144 ls [])) ?_ hr ?_ _ _ _ hw (lv_sub hl [2, 1, 0] rfl)
      · rintro ⟨v1_27, v3_28⟩ o h k H locs ls hw hl
        have hw : xWd (dC, dI) A s.heap H locs ((wC cI cZ cB cO c_ad c_p c_fits_1 c_refusedBad c_refusedNo c_refusedFull) ++ ((wS cI cZ cB cO (c_p 0) n_p n_n n_count n_generators) ++ ((wZ cI cZ cB cO (c_p 1) z_p z_count z_ra z_rb z_rn z_rc z_rg) ++ ((wT cI cZ cB cO (c_p 2) t_p t_length t_bytes) ++ ((wE cI cZ cB cO (c_p 4) e_p e_n_2 e_steps_3 e_undoing_4 e_chains_5 e_leaving_6 e_found_7 e_foundAt_8 e_foundCount_9) ++ (wK cI cZ cB cO (c_p 5) k_p k_n_10 k_inOrder_11 k_starts_12 k_firsts_13 k_reached_14 k_reachedAt_15 k_reachedCount_16)))))) := hw
        have hl : lv_has ls 5 [(0, .ref c_ad), (1, .long v1_27), (3, .int v3_28)] := hl
        refine lv_iload_n hx hb dX7_digest_97 rfl (lv_at hl 2 rfl) ?_
        refine lv_aload_n hx hb dX7_digest_98 rfl (lv_at hl 0 rfl) ?_
        refine x_get (ci := 6) C hw inX7 rfl 0 (by decide) lkF_X7_10 rfl 0 rfl rfl dX7_digest_99 ?_
        refine x_get (ci := 3) C hw inX4 rfl 0 (by decide) lkF_X7_69 rfl 1 rfl rfl dX7_digest_102 ?_
        refine lv_icmp_ge (tgt := 144) hx hb dX7_digest_105 (by decide) (fun b8 => ?_) (fun b8 => ?_)
        · replace h := xb_tt b8 h
          obtain rfl := Option.some.inj h
          exact k _ _ _ hw (lv_sub hl [0, 1] rfl)
        · replace h := xb_ff b8 h
          refine lv_iconst (v := (0 : Int32)) hx hb dX7_digest_108 (by decide) ?_
          refine lv_istore (lv' := [(4, .int (0 : Int32)), (0, .ref c_ad), (1, .long v1_27), (3, .int v3_28)]) hx hb dX7_digest_109 hl (by decide) rfl (fun ls hl => ?_)
          obtain ⟨z, hr, h⟩ := xn_i h
          refine xL_w (fun (z : Int64 × Int32) => ∀ (H : Heap) (locs : List Loc) (ls : Array Slot), xWd (dC, dI) A s.heap H locs ((wC cI cZ cB cO c_ad c_p c_fits_1 c_refusedBad c_refusedNo c_refusedFull) ++ ((wS cI cZ cB cO (c_p 0) n_p n_n n_count n_generators) ++ ((wZ cI cZ cB cO (c_p 1) z_p z_count z_ra z_rb z_rn z_rc z_rg) ++ ((wT cI cZ cB cO (c_p 2) t_p t_length t_bytes) ++ ((wE cI cZ cB cO (c_p 4) e_p e_n_2 e_steps_3 e_undoing_4 e_chains_5 e_leaving_6 e_found_7 e_foundAt_8 e_foundCount_9) ++ (wK cI cZ cB cO (c_p 5) k_p k_n_10 k_inOrder_11 k_starts_12 k_firsts_13 k_reached_14 k_reachedAt_15 k_reachedCount_16)))))) → lv_has ls 5 [(0, .ref c_ad), (1, .long z.1), (3, .int v3_28), (4, .int z.2)] → W p l e R s m args below meth c H locs 0 0 Q (F0 m 111 ls [])) (fun (z : Int64) => ∀ (H : Heap) (locs : List Loc) (ls : Array Slot), xWd (dC, dI) A s.heap H locs ((wC cI cZ cB cO c_ad c_p c_fits_1 c_refusedBad c_refusedNo c_refusedFull) ++ ((wS cI cZ cB cO (c_p 0) n_p n_n n_count n_generators) ++ ((wZ cI cZ cB cO (c_p 1) z_p z_count z_ra z_rb z_rn z_rc z_rg) ++ ((wT cI cZ cB cO (c_p 2) t_p t_length t_bytes) ++ ((wE cI cZ cB cO (c_p 4) e_p e_n_2 e_steps_3 e_undoing_4 e_chains_5 e_leaving_6 e_found_7 e_foundAt_8 e_foundCount_9) ++ (wK cI cZ cB cO (c_p 5) k_p k_n_10 k_inOrder_11 k_starts_12 k_firsts_13 k_reached_14 k_reachedAt_15 k_reachedCount_16)))))) → lv_has ls 5 [(0, .ref c_ad), (1, .long z), (3, .int v3_28)] → W p l e R s m args below meth c H locs 0 0 Q (F0 m 138 ls [])) ?_ hr ?_ _ _ _ hw (lv_sub hl [1, 2, 3, 0] rfl)
          · rintro ⟨v1_30, v4_31⟩ o h k H locs ls hw hl
            have hw : xWd (dC, dI) A s.heap H locs ((wC cI cZ cB cO c_ad c_p c_fits_1 c_refusedBad c_refusedNo c_refusedFull) ++ ((wS cI cZ cB cO (c_p 0) n_p n_n n_count n_generators) ++ ((wZ cI cZ cB cO (c_p 1) z_p z_count z_ra z_rb z_rn z_rc z_rg) ++ ((wT cI cZ cB cO (c_p 2) t_p t_length t_bytes) ++ ((wE cI cZ cB cO (c_p 4) e_p e_n_2 e_steps_3 e_undoing_4 e_chains_5 e_leaving_6 e_found_7 e_foundAt_8 e_foundCount_9) ++ (wK cI cZ cB cO (c_p 5) k_p k_n_10 k_inOrder_11 k_starts_12 k_firsts_13 k_reached_14 k_reachedAt_15 k_reachedCount_16)))))) := hw
            have hl : lv_has ls 5 [(0, .ref c_ad), (1, .long v1_30), (3, .int v3_28), (4, .int v4_31)] := hl
            refine lv_iload hx hb dX7_digest_111 (lv_at hl 3 rfl) ?_
            refine lv_iconst (v := (2 : Int32)) hx hb dX7_digest_113 (by decide) ?_
            refine lv_icmp_gt (tgt := 138) hx hb dX7_digest_114 (by decide) (fun b9 => ?_) (fun b9 => ?_)
            · replace h := xb_tt b9 h
              obtain rfl := Option.some.inj h
              exact k _ _ _ hw (lv_sub hl [0, 1, 2] rfl)
            · replace h := xb_ff b9 h
              refine lv_ldc2 hx hb hown (htb _ kJ_X7_178) dX7_digest_117 ?_
              refine lv_lload_n hx hb dX7_digest_120 rfl (lv_at hl 1 rfl) ?_
              refine lv_lmul hx hb dX7_digest_121 ?_
              refine lv_aload_n hx hb dX7_digest_122 rfl (lv_at hl 0 rfl) ?_
              refine lv_iload_n hx hb dX7_digest_123 rfl (lv_at hl 2 rfl) ?_
              refine lv_iload hx hb dX7_digest_124 (lv_at hl 3 rfl) ?_
              obtain ⟨r_33, q10, h⟩ := xn_i h
              refine x_callVi (As := [.int v3_28, .int v4_31]) (rest := [.long ((31 : Int64) * v1_30)]) C hw gc_X7_102 ⟨rfl, rfl, ds_X7_tellPoint, (by rw [hR]; exact Nat.le_of_ble_eq_true rfl), (by rw [hR]; exact Nat.le_of_ble_eq_true rfl), Nat.zero_le _, Nat.zero_le _⟩ (c_X7_tellPoint l dC dI cI cZ cB cO c_ad c_p e_p k_p c_fits_1 c_refusedBad c_refusedNo c_refusedFull e_n_2 e_steps_3 e_undoing_4 e_chains_5 e_leaving_6 e_found_7 e_foundAt_8 e_foundCount_9 k_n_10 k_inOrder_11 k_starts_12 k_firsts_13 k_reached_14 k_reachedAt_15 k_reachedCount_16 v3_28 v4_31 _ q10 _) [0, 17, 18, 19, 20, 21, 22, 23, 24, 25, 26, 27, 28, 29] [1, 2, 3, 4, 5, 6, 7, 8, 9, 10, 11, 12, 13, 14, 15, 16] (by decide) rfl rfl (by decide) (by decide) rfl rfl rfl hl.1 rfl (Nat.le_of_ble_eq_true rfl) dX7_digest_126 (fun H locs hw => ?_)
              have hw : xWd (dC, dI) A s.heap H locs ((wC cI cZ cB cO c_ad c_p c_fits_1 c_refusedBad c_refusedNo c_refusedFull) ++ ((wS cI cZ cB cO (c_p 0) n_p n_n n_count n_generators) ++ ((wZ cI cZ cB cO (c_p 1) z_p z_count z_ra z_rb z_rn z_rc z_rg) ++ ((wT cI cZ cB cO (c_p 2) t_p t_length t_bytes) ++ ((wE cI cZ cB cO (c_p 4) e_p e_n_2 e_steps_3 e_undoing_4 e_chains_5 e_leaving_6 e_found_7 e_foundAt_8 e_foundCount_9) ++ (wK cI cZ cB cO (c_p 5) k_p k_n_10 k_inOrder_11 k_starts_12 k_firsts_13 k_reached_14 k_reachedAt_15 k_reachedCount_16)))))) := hw.sub [16, 0, 1, 2, 3, 4, 5, 6, 7, 8, 9, 10, 11, 12, 13, 14, 15, 17, 18, 19, 20, 21, 22, 23, 24, 25, 26, 27, 28, 29] (by decide) rfl
              refine lv_i2l hx hb dX7_digest_129 rfl ?_
              refine lv_ladd hx hb dX7_digest_130 ?_
              refine lv_lstore_n (lv' := [(1, .long (((31 : Int64) * v1_30) + r_33.toInt64)), (0, .ref c_ad), (3, .int v3_28), (4, .int v4_31)]) hx hb dX7_digest_131 rfl hl (by decide) rfl (fun ls hl => ?_)
              refine lv_iinc (v := (v4_31 + (1 : Int32))) (lv' := [(4, .int (v4_31 + (1 : Int32))), (1, .long (((31 : Int64) * v1_30) + r_33.toInt64)), (0, .ref c_ad), (3, .int v3_28)]) hx hb dX7_digest_132 hl (k := 3) rfl (congrArg (fun q => v4_31 + q) (by decide)) (by decide) rfl (fun ls hl => ?_)
              refine lv_goto (tgt := 111) hx hb dX7_digest_135 (by decide) ?_
              obtain rfl := Option.some.inj h
              exact k _ _ _ hw (lv_sub hl [2, 1, 3, 0] rfl)
          · obtain ⟨v1_32, hz⟩ : ∃ q, q = z := ⟨z, rfl⟩
            subst hz
            intro H locs ls hw hl
            have hw : xWd (dC, dI) A s.heap H locs ((wC cI cZ cB cO c_ad c_p c_fits_1 c_refusedBad c_refusedNo c_refusedFull) ++ ((wS cI cZ cB cO (c_p 0) n_p n_n n_count n_generators) ++ ((wZ cI cZ cB cO (c_p 1) z_p z_count z_ra z_rb z_rn z_rc z_rg) ++ ((wT cI cZ cB cO (c_p 2) t_p t_length t_bytes) ++ ((wE cI cZ cB cO (c_p 4) e_p e_n_2 e_steps_3 e_undoing_4 e_chains_5 e_leaving_6 e_found_7 e_foundAt_8 e_foundCount_9) ++ (wK cI cZ cB cO (c_p 5) k_p k_n_10 k_inOrder_11 k_starts_12 k_firsts_13 k_reached_14 k_reachedAt_15 k_reachedCount_16)))))) := hw
            have hl : lv_has ls 5 [(0, .ref c_ad), (1, .long v1_32), (3, .int v3_28)] := hl
            refine lv_iinc (v := (v3_28 + (1 : Int32))) (lv' := [(3, .int (v3_28 + (1 : Int32))), (0, .ref c_ad), (1, .long v1_32)]) hx hb dX7_digest_138 hl (k := 2) rfl (congrArg (fun q => v3_28 + q) (by decide)) (by decide) rfl (fun ls hl => ?_)
            refine lv_goto (tgt := 97) hx hb dX7_digest_141 (by decide) ?_
            obtain rfl := Option.some.inj h
            exact k _ _ _ hw (lv_sub hl [1, 2, 0] rfl)
      · obtain ⟨v1_29, hz⟩ : ∃ q, q = z := ⟨z, rfl⟩
        subst hz
        intro H locs ls hw hl
        have hw : xWd (dC, dI) A s.heap H locs ((wC cI cZ cB cO c_ad c_p c_fits_1 c_refusedBad c_refusedNo c_refusedFull) ++ ((wS cI cZ cB cO (c_p 0) n_p n_n n_count n_generators) ++ ((wZ cI cZ cB cO (c_p 1) z_p z_count z_ra z_rb z_rn z_rc z_rg) ++ ((wT cI cZ cB cO (c_p 2) t_p t_length t_bytes) ++ ((wE cI cZ cB cO (c_p 4) e_p e_n_2 e_steps_3 e_undoing_4 e_chains_5 e_leaving_6 e_found_7 e_foundAt_8 e_foundCount_9) ++ (wK cI cZ cB cO (c_p 5) k_p k_n_10 k_inOrder_11 k_starts_12 k_firsts_13 k_reached_14 k_reachedAt_15 k_reachedCount_16)))))) := hw
        have hl : lv_has ls 5 [(0, .ref c_ad), (1, .long v1_29)] := hl
        refine lv_iconst (v := (0 : Int32)) hx hb dX7_digest_144 (by decide) ?_
        refine lv_istore_n (lv' := [(3, .int (0 : Int32)), (0, .ref c_ad), (1, .long v1_29)]) hx hb dX7_digest_145 rfl hl (by decide) rfl (fun ls hl => ?_)
        obtain ⟨z, hr, h⟩ := xn_i h
        refine xL_w (fun (z : Int64 × Int32) => ∀ (H : Heap) (locs : List Loc) (ls : Array Slot), xWd (dC, dI) A s.heap H locs ((wC cI cZ cB cO c_ad c_p c_fits_1 c_refusedBad c_refusedNo c_refusedFull) ++ ((wS cI cZ cB cO (c_p 0) n_p n_n n_count n_generators) ++ ((wZ cI cZ cB cO (c_p 1) z_p z_count z_ra z_rb z_rn z_rc z_rg) ++ ((wT cI cZ cB cO (c_p 2) t_p t_length t_bytes) ++ ((wE cI cZ cB cO (c_p 4) e_p e_n_2 e_steps_3 e_undoing_4 e_chains_5 e_leaving_6 e_found_7 e_foundAt_8 e_foundCount_9) ++ (wK cI cZ cB cO (c_p 5) k_p k_n_10 k_inOrder_11 k_starts_12 k_firsts_13 k_reached_14 k_reachedAt_15 k_reachedCount_16)))))) → lv_has ls 5 [(0, .ref c_ad), (1, .long z.1), (3, .int z.2)] → W p l e R s m args below meth c H locs 0 0 Q (F0 m 146 ls [])) (fun (z : Int64) => ∀ (H : Heap) (locs : List Loc) (ls : Array Slot), xWd (dC, dI) A s.heap H locs ((wC cI cZ cB cO c_ad c_p c_fits_1 c_refusedBad c_refusedNo c_refusedFull) ++ ((wS cI cZ cB cO (c_p 0) n_p n_n n_count n_generators) ++ ((wZ cI cZ cB cO (c_p 1) z_p z_count z_ra z_rb z_rn z_rc z_rg) ++ ((wT cI cZ cB cO (c_p 2) t_p t_length t_bytes) ++ ((wE cI cZ cB cO (c_p 4) e_p e_n_2 e_steps_3 e_undoing_4 e_chains_5 e_leaving_6 e_found_7 e_foundAt_8 e_foundCount_9) ++ (wK cI cZ cB cO (c_p 5) k_p k_n_10 k_inOrder_11 k_starts_12 k_firsts_13 k_reached_14 k_reachedAt_15 k_reachedCount_16)))))) → lv_has ls 5 [(1, .long z)] → W p l e R s m args below meth c H locs 0 0 Q (F0 m 173 ls [])) ?_ hr ?_ _ _ _ hw (lv_sub hl [1, 2, 0] rfl)
        · rintro ⟨v1_34, v3_35⟩ o h k H locs ls hw hl
          have hw : xWd (dC, dI) A s.heap H locs ((wC cI cZ cB cO c_ad c_p c_fits_1 c_refusedBad c_refusedNo c_refusedFull) ++ ((wS cI cZ cB cO (c_p 0) n_p n_n n_count n_generators) ++ ((wZ cI cZ cB cO (c_p 1) z_p z_count z_ra z_rb z_rn z_rc z_rg) ++ ((wT cI cZ cB cO (c_p 2) t_p t_length t_bytes) ++ ((wE cI cZ cB cO (c_p 4) e_p e_n_2 e_steps_3 e_undoing_4 e_chains_5 e_leaving_6 e_found_7 e_foundAt_8 e_foundCount_9) ++ (wK cI cZ cB cO (c_p 5) k_p k_n_10 k_inOrder_11 k_starts_12 k_firsts_13 k_reached_14 k_reachedAt_15 k_reachedCount_16)))))) := hw
          have hl : lv_has ls 5 [(0, .ref c_ad), (1, .long v1_34), (3, .int v3_35)] := hl
          refine lv_iload_n hx hb dX7_digest_146 rfl (lv_at hl 2 rfl) ?_
          refine lv_aload_n hx hb dX7_digest_147 rfl (lv_at hl 0 rfl) ?_
          refine x_get (ci := 6) C hw inX7 rfl 0 (by decide) lkF_X7_10 rfl 0 rfl rfl dX7_digest_148 ?_
          refine x_get (ci := 3) C hw inX4 rfl 0 (by decide) lkF_X7_69 rfl 1 rfl rfl dX7_digest_151 ?_
          refine lv_icmp_gt (tgt := 173) hx hb dX7_digest_154 (by decide) (fun b11 => ?_) (fun b11 => ?_)
          · replace h := xb_tt b11 h
            obtain rfl := Option.some.inj h
            exact k _ _ _ hw (lv_sub hl [1] rfl)
          · replace h := xb_ff b11 h
            refine lv_aload_n hx hb dX7_digest_157 rfl (lv_at hl 0 rfl) ?_
            refine x_get (ci := 6) C hw inX7 rfl 5 (by decide) lkF_X7_47 rfl 0 rfl rfl dX7_digest_158 ?_
            refine lv_iload_n hx hb dX7_digest_161 rfl (lv_at hl 2 rfl) ?_
            refine lv_lload_n hx hb dX7_digest_162 rfl (lv_at hl 1 rfl) ?_
            obtain ⟨r_37, q12, h⟩ := xn_i h
            refine x_callVl (As := [.int v3_35, .long v1_34]) (rest := []) C hw gc_X7_183 ⟨rfl, rfl, ds_X0_digestFirsts, (by rw [hR]; exact Nat.le_of_ble_eq_true rfl), (by rw [hR]; exact Nat.le_of_ble_eq_true rfl), Nat.zero_le _, Nat.zero_le _⟩ (c_X0_digestFirsts l dC dI cI cZ cB cO (c_p 5) k_p k_n_10 k_inOrder_11 k_starts_12 k_firsts_13 k_reached_14 k_reachedAt_15 k_reachedCount_16 v3_35 v1_34 _ q12 _) [24, 25, 26, 27, 28, 29] [0, 1, 2, 3, 4, 5, 6, 7, 8, 9, 10, 11, 12, 13, 14, 15, 16, 17, 18, 19, 20, 21, 22, 23] (by decide) rfl rfl (by decide) (by decide) rfl rfl rfl hl.1 rfl (Nat.le_of_ble_eq_true rfl) dX7_digest_163 (fun H locs hw => ?_)
            have hw : xWd (dC, dI) A s.heap H locs ((wC cI cZ cB cO c_ad c_p c_fits_1 c_refusedBad c_refusedNo c_refusedFull) ++ ((wS cI cZ cB cO (c_p 0) n_p n_n n_count n_generators) ++ ((wZ cI cZ cB cO (c_p 1) z_p z_count z_ra z_rb z_rn z_rc z_rg) ++ ((wT cI cZ cB cO (c_p 2) t_p t_length t_bytes) ++ ((wE cI cZ cB cO (c_p 4) e_p e_n_2 e_steps_3 e_undoing_4 e_chains_5 e_leaving_6 e_found_7 e_foundAt_8 e_foundCount_9) ++ (wK cI cZ cB cO (c_p 5) k_p k_n_10 k_inOrder_11 k_starts_12 k_firsts_13 k_reached_14 k_reachedAt_15 k_reachedCount_16)))))) := hw
            refine lv_lstore_n (lv' := [(1, .long r_37), (0, .ref c_ad), (3, .int v3_35)]) hx hb dX7_digest_166 rfl hl (by decide) rfl (fun ls hl => ?_)
            refine lv_iinc (v := (v3_35 + (1 : Int32))) (lv' := [(3, .int (v3_35 + (1 : Int32))), (1, .long r_37), (0, .ref c_ad)]) hx hb dX7_digest_167 hl (k := 2) rfl (congrArg (fun q => v3_35 + q) (by decide)) (by decide) rfl (fun ls hl => ?_)
            refine lv_goto (tgt := 146) hx hb dX7_digest_170 (by decide) ?_
            obtain rfl := Option.some.inj h
            exact k _ _ _ hw (lv_sub hl [2, 1, 0] rfl)
        · obtain ⟨v1_36, hz⟩ : ∃ q, q = z := ⟨z, rfl⟩
          subst hz
          intro H locs ls hw hl
          have hw : xWd (dC, dI) A s.heap H locs ((wC cI cZ cB cO c_ad c_p c_fits_1 c_refusedBad c_refusedNo c_refusedFull) ++ ((wS cI cZ cB cO (c_p 0) n_p n_n n_count n_generators) ++ ((wZ cI cZ cB cO (c_p 1) z_p z_count z_ra z_rb z_rn z_rc z_rg) ++ ((wT cI cZ cB cO (c_p 2) t_p t_length t_bytes) ++ ((wE cI cZ cB cO (c_p 4) e_p e_n_2 e_steps_3 e_undoing_4 e_chains_5 e_leaving_6 e_found_7 e_foundAt_8 e_foundCount_9) ++ (wK cI cZ cB cO (c_p 5) k_p k_n_10 k_inOrder_11 k_starts_12 k_firsts_13 k_reached_14 k_reachedAt_15 k_reachedCount_16)))))) := hw
          have hl : lv_has ls 5 [(1, .long v1_36)] := hl
          refine lv_lload_n hx hb dX7_digest_173 rfl (lv_at hl 0 rfl) ?_
          obtain rfl := Option.some.inj h
          exact x_retl C hQ hA hw dX7_digest_174
