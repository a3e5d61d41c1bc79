theorem dX0_turnRound_0 : decode cX0_turnRound 0 = .ok (.iconst 0, 1) := by decide +kernel
theorem dX0_turnRound_1 : decode cX0_turnRound 1 = .ok (.istore_n 2, 1) := by decide +kernel
theorem dX0_turnRound_2 : decode cX0_turnRound 2 = .ok (.iconst 0, 1) := by decide +kernel
theorem dX0_turnRound_3 : decode cX0_turnRound 3 = .ok (.istore_n 3, 1) := by decide +kernel
theorem dX0_turnRound_4 : decode cX0_turnRound 4 = .ok (.iload_n 3, 1) := by decide +kernel
theorem dX0_turnRound_5 : decode cX0_turnRound 5 = .ok (.aload_n 0, 1) := by decide +kernel
theorem dX0_turnRound_6 : decode cX0_turnRound 6 = .ok (.getfield 9, 3) := by decide +kernel
theorem dX0_turnRound_9 : decode cX0_turnRound 9 = .ok (.if_icmp .ge 19, 3) := by decide +kernel
theorem dX0_turnRound_12 : decode cX0_turnRound 12 = .ok (.iload_n 2, 1) := by decide +kernel
theorem dX0_turnRound_13 : decode cX0_turnRound 13 = .ok (.iconst 1, 1) := by decide +kernel
theorem dX0_turnRound_14 : decode cX0_turnRound 14 = .ok (.ishl, 1) := by decide +kernel
theorem dX0_turnRound_15 : decode cX0_turnRound 15 = .ok (.iload_n 1, 1) := by decide +kernel
theorem dX0_turnRound_16 : decode cX0_turnRound 16 = .ok (.iload_n 3, 1) := by decide +kernel
theorem dX0_turnRound_17 : decode cX0_turnRound 17 = .ok (.ishr, 1) := by decide +kernel
theorem dX0_turnRound_18 : decode cX0_turnRound 18 = .ok (.iconst 1, 1) := by decide +kernel
theorem dX0_turnRound_19 : decode cX0_turnRound 19 = .ok (.iand, 1) := by decide +kernel
theorem dX0_turnRound_20 : decode cX0_turnRound 20 = .ok (.ior, 1) := by decide +kernel
theorem dX0_turnRound_21 : decode cX0_turnRound 21 = .ok (.istore_n 2, 1) := by decide +kernel
theorem dX0_turnRound_22 : decode cX0_turnRound 22 = .ok (.iinc 3 1, 3) := by decide +kernel
theorem dX0_turnRound_25 : decode cX0_turnRound 25 = .ok (.goto (-21), 3) := by decide +kernel
theorem dX0_turnRound_28 : decode cX0_turnRound 28 = .ok (.iload_n 2, 1) := by decide +kernel
theorem dX0_turnRound_29 : decode cX0_turnRound 29 = .ok (.ireturn, 1) := by decide +kernel
theorem dX0_arrange_0 : decode cX0_arrange 0 = .ok (.iconst 0, 1) := by decide +kernel
theorem dX0_arrange_1 : decode cX0_arrange 1 = .ok (.istore_n 1, 1) := by decide +kernel
theorem dX0_arrange_2 : decode cX0_arrange 2 = .ok (.iconst 0, 1) := by decide +kernel
theorem dX0_arrange_3 : decode cX0_arrange 3 = .ok (.istore_n 2, 1) := by decide +kernel
theorem dX0_arrange_4 : decode cX0_arrange 4 = .ok (.iload_n 2, 1) := by decide +kernel
theorem dX0_arrange_5 : decode cX0_arrange 5 = .ok (.aload_n 0, 1) := by decide +kernel
theorem dX0_arrange_6 : decode cX0_arrange 6 = .ok (.getfield 9, 3) := by decide +kernel
theorem dX0_arrange_9 : decode cX0_arrange 9 = .ok (.if_icmp .gt 57, 3) := by decide +kernel
theorem dX0_arrange_12 : decode cX0_arrange 12 = .ok (.aload_n 0, 1) := by decide +kernel
theorem dX0_arrange_13 : decode cX0_arrange 13 = .ok (.getfield 19, 3) := by decide +kernel
theorem dX0_arrange_16 : decode cX0_arrange 16 = .ok (.iload_n 2, 1) := by decide +kernel
theorem dX0_arrange_17 : decode cX0_arrange 17 = .ok (.iload_n 1, 1) := by decide +kernel
theorem dX0_arrange_18 : decode cX0_arrange 18 = .ok (.iastore, 1) := by decide +kernel
theorem dX0_arrange_19 : decode cX0_arrange 19 = .ok (.iconst 1, 1) := by decide +kernel
theorem dX0_arrange_20 : decode cX0_arrange 20 = .ok (.aload_n 0, 1) := by decide +kernel
theorem dX0_arrange_21 : decode cX0_arrange 21 = .ok (.getfield 9, 3) := by decide +kernel
theorem dX0_arrange_24 : decode cX0_arrange 24 = .ok (.ishl, 1) := by decide +kernel
theorem dX0_arrange_25 : decode cX0_arrange 25 = .ok (.iconst 1, 1) := by decide +kernel
theorem dX0_arrange_26 : decode cX0_arrange 26 = .ok (.isub, 1) := by decide +kernel
theorem dX0_arrange_27 : decode cX0_arrange 27 = .ok (.istore_n 3, 1) := by decide +kernel
theorem dX0_arrange_28 : decode cX0_arrange 28 = .ok (.iload_n 3, 1) := by decide +kernel
theorem dX0_arrange_29 : decode cX0_arrange 29 = .ok (.ifCond .lt 31, 3) := by decide +kernel
theorem dX0_arrange_32 : decode cX0_arrange 32 = .ok (.iload_n 3, 1) := by decide +kernel
theorem dX0_arrange_33 : decode cX0_arrange 33 = .ok (.invokestatic 47, 3) := by decide +kernel
theorem dX0_arrange_36 : decode cX0_arrange 36 = .ok (.iload_n 2, 1) := by decide +kernel
theorem dX0_arrange_37 : decode cX0_arrange 37 = .ok (.if_icmp .ne 17, 3) := by decide +kernel
theorem dX0_arrange_40 : decode cX0_arrange 40 = .ok (.aload_n 0, 1) := by decide +kernel
theorem dX0_arrange_41 : decode cX0_arrange 41 = .ok (.getfield 15, 3) := by decide +kernel
theorem dX0_arrange_44 : decode cX0_arrange 44 = .ok (.iload_n 1, 1) := by decide +kernel
theorem dX0_arrange_45 : decode cX0_arrange 45 = .ok (.aload_n 0, 1) := by decide +kernel
theorem dX0_arrange_46 : decode cX0_arrange 46 = .ok (.iload_n 3, 1) := by decide +kernel
theorem dX0_arrange_47 : decode cX0_arrange 47 = .ok (.invokevirtual 53, 3) := by decide +kernel
theorem dX0_arrange_50 : decode cX0_arrange 50 = .ok (.iastore, 1) := by decide +kernel
theorem dX0_arrange_51 : decode cX0_arrange 51 = .ok (.iinc 1 1, 3) := by decide +kernel
theorem dX0_arrange_54 : decode cX0_arrange 54 = .ok (.iinc 3 (-1), 3) := by decide +kernel
theorem dX0_arrange_57 : decode cX0_arrange 57 = .ok (.goto (-29), 3) := by decide +kernel
theorem dX0_arrange_60 : decode cX0_arrange 60 = .ok (.iinc 2 1, 3) := by decide +kernel
theorem dX0_arrange_63 : decode cX0_arrange 63 = .ok (.goto (-59), 3) := by decide +kernel
theorem dX0_arrange_66 : decode cX0_arrange 66 = .ok (.aload_n 0, 1) := by decide +kernel
theorem dX0_arrange_67 : decode cX0_arrange 67 = .ok (.getfield 19, 3) := by decide +kernel
theorem dX0_arrange_70 : decode cX0_arrange 70 = .ok (.aload_n 0, 1) := by decide +kernel
theorem dX0_arrange_71 : decode cX0_arrange 71 = .ok (.getfield 9, 3) := by decide +kernel
theorem dX0_arrange_74 : decode cX0_arrange 74 = .ok (.iconst 1, 1) := by decide +kernel
theorem dX0_arrange_75 : decode cX0_arrange 75 = .ok (.iadd, 1) := by decide +kernel
theorem dX0_arrange_76 : decode cX0_arrange 76 = .ok (.iload_n 1, 1) := by decide +kernel
theorem dX0_arrange_77 : decode cX0_arrange 77 = .ok (.iastore, 1) := by decide +kernel
theorem dX0_arrange_78 : decode cX0_arrange 78 = .ok (.return_, 1) := by decide +kernel
theorem dX0_reach_0 : decode cX0_reach 0 = .ok (.aload_n 0, 1) := by decide +kernel
theorem dX0_reach_1 : decode cX0_reach 1 = .ok (.getfield 28, 3) := by decide +kernel
theorem dX0_reach_4 : decode cX0_reach 4 = .ok (.iload_n 1, 1) := by decide +kernel
theorem dX0_reach_5 : decode cX0_reach 5 = .ok (.iaload, 1) := by decide +kernel
theorem dX0_reach_6 : decode cX0_reach 6 = .ok (.iconst (-1), 1) := by decide +kernel
theorem dX0_reach_7 : decode cX0_reach 7 = .ok (.if_icmp .ne 40, 3) := by decide +kernel
theorem dX0_reach_10 : decode cX0_reach 10 = .ok (.aload_n 0, 1) := by decide +kernel
theorem dX0_reach_11 : decode cX0_reach 11 = .ok (.getfield 31, 3) := by decide +kernel
theorem dX0_reach_14 : decode cX0_reach 14 = .ok (.sipush 256, 3) := by decide +kernel
theorem dX0_reach_17 : decode cX0_reach 17 = .ok (.if_icmp .ge 30, 3) := by decide +kernel
theorem dX0_reach_20 : decode cX0_reach 20 = .ok (.aload_n 0, 1) := by decide +kernel
theorem dX0_reach_21 : decode cX0_reach 21 = .ok (.getfield 28, 3) := by decide +kernel
theorem dX0_reach_24 : decode cX0_reach 24 = .ok (.iload_n 1, 1) := by decide +kernel
theorem dX0_reach_25 : decode cX0_reach 25 = .ok (.iload_n 2, 1) := by decide +kernel
theorem dX0_reach_26 : decode cX0_reach 26 = .ok (.iastore, 1) := by decide +kernel
theorem dX0_reach_27 : decode cX0_reach 27 = .ok (.aload_n 0, 1) := by decide +kernel
theorem dX0_reach_28 : decode cX0_reach 28 = .ok (.getfield 25, 3) := by decide +kernel
theorem dX0_reach_31 : decode cX0_reach 31 = .ok (.aload_n 0, 1) := by decide +kernel
theorem dX0_reach_32 : decode cX0_reach 32 = .ok (.getfield 31, 3) := by decide +kernel
theorem dX0_reach_35 : decode cX0_reach 35 = .ok (.iload_n 1, 1) := by decide +kernel
theorem dX0_reach_36 : decode cX0_reach 36 = .ok (.iastore, 1) := by decide +kernel
theorem dX0_reach_37 : decode cX0_reach 37 = .ok (.aload_n 0, 1) := by decide +kernel
theorem dX0_reach_38 : decode cX0_reach 38 = .ok (.dup, 1) := by decide +kernel
theorem dX0_reach_39 : decode cX0_reach 39 = .ok (.getfield 31, 3) := by decide +kernel
theorem dX0_reach_42 : decode cX0_reach 42 = .ok (.iconst 1, 1) := by decide +kernel
theorem dX0_reach_43 : decode cX0_reach 43 = .ok (.iadd, 1) := by decide +kernel
theorem dX0_reach_44 : decode cX0_reach 44 = .ok (.putfield 31, 3) := by decide +kernel
theorem dX0_reach_47 : decode cX0_reach 47 = .ok (.return_, 1) := by decide +kernel
theorem dX0_spreadBy_0 : decode cX0_spreadBy 0 = .ok (.iconst 0, 1) := by decide +kernel
theorem dX0_spreadBy_1 : decode cX0_spreadBy 1 = .ok (.istore 4, 2) := by decide +kernel
theorem dX0_spreadBy_3 : decode cX0_spreadBy 3 = .ok (.iload 4, 2) := by decide +kernel
theorem dX0_spreadBy_5 : decode cX0_spreadBy 5 = .ok (.iload_n 3, 1) := by decide +kernel
theorem dX0_spreadBy_6 : decode cX0_spreadBy 6 = .ok (.if_icmp .ge 25, 3) := by decide +kernel
theorem dX0_spreadBy_9 : decode cX0_spreadBy 9 = .ok (.aload_n 0, 1) := by decide +kernel
theorem dX0_spreadBy_10 : decode cX0_spreadBy 10 = .ok (.aload_n 0, 1) := by decide +kernel
theorem dX0_spreadBy_11 : decode cX0_spreadBy 11 = .ok (.getfield 25, 3) := by decide +kernel
theorem dX0_spreadBy_14 : decode cX0_spreadBy 14 = .ok (.iload 4, 2) := by decide +kernel
theorem dX0_spreadBy_16 : decode cX0_spreadBy 16 = .ok (.iaload, 1) := by decide +kernel
theorem dX0_spreadBy_17 : decode cX0_spreadBy 17 = .ok (.iload_n 1, 1) := by decide +kernel
theorem dX0_spreadBy_18 : decode cX0_spreadBy 18 = .ok (.invokestatic 73, 3) := by decide +kernel
theorem dX0_spreadBy_21 : decode cX0_spreadBy 21 = .ok (.iload_n 2, 1) := by decide +kernel
theorem dX0_spreadBy_22 : decode cX0_spreadBy 22 = .ok (.invokevirtual 56, 3) := by decide +kernel
theorem dX0_spreadBy_25 : decode cX0_spreadBy 25 = .ok (.iinc 4 1, 3) := by decide +kernel
theorem dX0_spreadBy_28 : decode cX0_spreadBy 28 = .ok (.goto (-25), 3) := by decide +kernel
theorem dX0_spreadBy_31 : decode cX0_spreadBy 31 = .ok (.return_, 1) := by decide +kernel
theorem dX0_spread_0 : decode cX0_spread 0 = .ok (.iconst 0, 1) := by decide +kernel
theorem dX0_spread_1 : decode cX0_spread 1 = .ok (.istore_n 3, 1) := by decide +kernel
theorem dX0_spread_2 : decode cX0_spread 2 = .ok (.iload_n 3, 1) := by decide +kernel
theorem dX0_spread_3 : decode cX0_spread 3 = .ok (.aload_n 0, 1) := by decide +kernel
theorem dX0_spread_4 : decode cX0_spread 4 = .ok (.getfield 31, 3) := by decide +kernel
theorem dX0_spread_7 : decode cX0_spread 7 = .ok (.if_icmp .ge 21, 3) := by decide +kernel
theorem dX0_spread_10 : decode cX0_spread 10 = .ok (.aload_n 0, 1) := by decide +kernel
theorem dX0_spread_11 : decode cX0_spread 11 = .ok (.getfield 28, 3) := by decide +kernel
theorem dX0_spread_14 : decode cX0_spread 14 = .ok (.aload_n 0, 1) := by decide +kernel
theorem dX0_spread_15 : decode cX0_spread 15 = .ok (.getfield 25, 3) := by decide +kernel
theorem dX0_spread_18 : decode cX0_spread 18 = .ok (.iload_n 3, 1) := by decide +kernel
theorem dX0_spread_19 : decode cX0_spread 19 = .ok (.iaload, 1) := by decide +kernel
theorem dX0_spread_20 : decode cX0_spread 20 = .ok (.iconst (-1), 1) := by decide +kernel
theorem dX0_spread_21 : decode cX0_spread 21 = .ok (.iastore, 1) := by decide +kernel
theorem dX0_spread_22 : decode cX0_spread 22 = .ok (.iinc 3 1, 3) := by decide +kernel
theorem dX0_spread_25 : decode cX0_spread 25 = .ok (.goto (-23), 3) := by decide +kernel
theorem dX0_spread_28 : decode cX0_spread 28 = .ok (.aload_n 0, 1) := by decide +kernel
theorem dX0_spread_29 : decode cX0_spread 29 = .ok (.iconst 0, 1) := by decide +kernel
theorem dX0_spread_30 : decode cX0_spread 30 = .ok (.putfield 31, 3) := by decide +kernel
theorem dX0_spread_33 : decode cX0_spread 33 = .ok (.aload_n 0, 1) := by decide +kernel
theorem dX0_spread_34 : decode cX0_spread 34 = .ok (.iload_n 2, 1) := by decide +kernel
theorem dX0_spread_35 : decode cX0_spread 35 = .ok (.aload_n 0, 1) := by decide +kernel
theorem dX0_spread_36 : decode cX0_spread 36 = .ok (.getfield 9, 3) := by decide +kernel
theorem dX0_spread_39 : decode cX0_spread 39 = .ok (.invokevirtual 56, 3) := by decide +kernel
theorem dX0_spread_42 : decode cX0_spread 42 = .ok (.aload_n 0, 1) := by decide +kernel
theorem dX0_spread_43 : decode cX0_spread 43 = .ok (.getfield 9, 3) := by decide +kernel
theorem dX0_spread_46 : decode cX0_spread 46 = .ok (.iconst 1, 1) := by decide +kernel
theorem dX0_spread_47 : decode cX0_spread 47 = .ok (.isub, 1) := by decide +kernel
theorem dX0_spread_48 : decode cX0_spread 48 = .ok (.istore_n 3, 1) := by decide +kernel
theorem dX0_spread_49 : decode cX0_spread 49 = .ok (.iload_n 3, 1) := by decide +kernel
theorem dX0_spread_50 : decode cX0_spread 50 = .ok (.ifCond .lt 77, 3) := by decide +kernel
theorem dX0_spread_53 : decode cX0_spread 53 = .ok (.aload_n 0, 1) := by decide +kernel
theorem dX0_spread_54 : decode cX0_spread 54 = .ok (.getfield 31, 3) := by decide +kernel
theorem dX0_spread_57 : decode cX0_spread 57 = .ok (.istore 4, 2) := by decide +kernel
theorem dX0_spread_59 : decode cX0_spread 59 = .ok (.aload_n 1, 1) := by decide +kernel
theorem dX0_spread_60 : decode cX0_spread 60 = .ok (.iload_n 3, 1) := by decide +kernel
theorem dX0_spread_61 : decode cX0_spread 61 = .ok (.invokevirtual 60, 3) := by decide +kernel
theorem dX0_spread_64 : decode cX0_spread 64 = .ok (.iconst 1, 1) := by decide +kernel
theorem dX0_spread_65 : decode cX0_spread 65 = .ok (.iload_n 3, 1) := by decide +kernel
theorem dX0_spread_66 : decode cX0_spread 66 = .ok (.ishl, 1) := by decide +kernel
theorem dX0_spread_67 : decode cX0_spread 67 = .ok (.iconst (-1), 1) := by decide +kernel
theorem dX0_spread_68 : decode cX0_spread 68 = .ok (.ixor, 1) := by decide +kernel
theorem dX0_spread_69 : decode cX0_spread 69 = .ok (.iand, 1) := by decide +kernel
theorem dX0_spread_70 : decode cX0_spread 70 = .ok (.istore 5, 2) := by decide +kernel
theorem dX0_spread_72 : decode cX0_spread 72 = .ok (.iload_n 3, 1) := by decide +kernel
theorem dX0_spread_73 : decode cX0_spread 73 = .ok (.iconst 1, 1) := by decide +kernel
theorem dX0_spread_74 : decode cX0_spread 74 = .ok (.iadd, 1) := by decide +kernel
theorem dX0_spread_75 : decode cX0_spread 75 = .ok (.istore 6, 2) := by decide +kernel
theorem dX0_spread_77 : decode cX0_spread 77 = .ok (.iload 6, 2) := by decide +kernel
theorem dX0_spread_79 : decode cX0_spread 79 = .ok (.aload_n 0, 1) := by decide +kernel
theorem dX0_spread_80 : decode cX0_spread 80 = .ok (.getfield 9, 3) := by decide +kernel
theorem dX0_spread_83 : decode cX0_spread 83 = .ok (.if_icmp .ge 38, 3) := by decide +kernel
theorem dX0_spread_86 : decode cX0_spread 86 = .ok (.iload 5, 2) := by decide +kernel
theorem dX0_spread_88 : decode cX0_spread 88 = .ok (.ifCond .eq 33, 3) := by decide +kernel
theorem dX0_spread_91 : decode cX0_spread 91 = .ok (.iload 5, 2) := by decide +kernel
theorem dX0_spread_93 : decode cX0_spread 93 = .ok (.iload 6, 2) := by decide +kernel
theorem dX0_spread_95 : decode cX0_spread 95 = .ok (.ishr, 1) := by decide +kernel
theorem dX0_spread_96 : decode cX0_spread 96 = .ok (.iconst 1, 1) := by decide +kernel
theorem dX0_spread_97 : decode cX0_spread 97 = .ok (.iand, 1) := by decide +kernel
theorem dX0_spread_98 : decode cX0_spread 98 = .ok (.ifCond .eq 17, 3) := by decide +kernel
theorem dX0_spread_101 : decode cX0_spread 101 = .ok (.aload_n 0, 1) := by decide +kernel
theorem dX0_spread_102 : decode cX0_spread 102 = .ok (.aload_n 1, 1) := by decide +kernel
theorem dX0_spread_103 : decode cX0_spread 103 = .ok (.iload_n 3, 1) := by decide +kernel
theorem dX0_spread_104 : decode cX0_spread 104 = .ok (.iload 6, 2) := by decide +kernel
theorem dX0_spread_106 : decode cX0_spread 106 = .ok (.invokevirtual 65, 3) := by decide +kernel
theorem dX0_spread_109 : decode cX0_spread 109 = .ok (.iload_n 3, 1) := by decide +kernel
theorem dX0_spread_110 : decode cX0_spread 110 = .ok (.iload 4, 2) := by decide +kernel
theorem dX0_spread_112 : decode cX0_spread 112 = .ok (.invokevirtual 69, 3) := by decide +kernel
theorem dX0_spread_115 : decode cX0_spread 115 = .ok (.iinc 6 1, 3) := by decide +kernel
theorem dX0_spread_118 : decode cX0_spread 118 = .ok (.goto (-41), 3) := by decide +kernel
theorem dX0_spread_121 : decode cX0_spread 121 = .ok (.iinc 3 (-1), 3) := by decide +kernel
theorem dX0_spread_124 : decode cX0_spread 124 = .ok (.goto (-75), 3) := by decide +kernel
theorem dX0_spread_127 : decode cX0_spread 127 = .ok (.return_, 1) := by decide +kernel
theorem dX0_make_0 : decode cX0_make 0 = .ok (.aload_n 0, 1) := by decide +kernel
theorem dX0_make_1 : decode cX0_make 1 = .ok (.getfield 9, 3) := by decide +kernel
theorem dX0_make_4 : decode cX0_make 4 = .ok (.iload_n 2, 1) := by decide +kernel
theorem dX0_make_5 : decode cX0_make 5 = .ok (.if_icmp .eq 12, 3) := by decide +kernel
theorem dX0_make_8 : decode cX0_make 8 = .ok (.aload_n 0, 1) := by decide +kernel
theorem dX0_make_9 : decode cX0_make 9 = .ok (.iload_n 2, 1) := by decide +kernel
theorem dX0_make_10 : decode cX0_make 10 = .ok (.putfield 9, 3) := by decide +kernel
theorem dX0_make_13 : decode cX0_make 13 = .ok (.aload_n 0, 1) := by decide +kernel
theorem dX0_make_14 : decode cX0_make 14 = .ok (.invokevirtual 40, 3) := by decide +kernel
theorem dX0_make_17 : decode cX0_make 17 = .ok (.aload_n 0, 1) := by decide +kernel
theorem dX0_make_18 : decode cX0_make 18 = .ok (.getfield 22, 3) := by decide +kernel
theorem dX0_make_21 : decode cX0_make 21 = .ok (.iconst (-1), 1) := by decide +kernel
theorem dX0_make_22 : decode cX0_make 22 = .ok (.invokestatic 34, 3) := by decide +kernel
theorem dX0_make_25 : decode cX0_make 25 = .ok (.iconst 0, 1) := by decide +kernel
theorem dX0_make_26 : decode cX0_make 26 = .ok (.istore_n 3, 1) := by decide +kernel
theorem dX0_make_27 : decode cX0_make 27 = .ok (.iload_n 3, 1) := by decide +kernel
theorem dX0_make_28 : decode cX0_make 28 = .ok (.iconst 1, 1) := by decide +kernel
theorem dX0_make_29 : decode cX0_make 29 = .ok (.aload_n 0, 1) := by decide +kernel
theorem dX0_make_30 : decode cX0_make 30 = .ok (.getfield 9, 3) := by decide +kernel
theorem dX0_make_33 : decode cX0_make 33 = .ok (.ishl, 1) := by decide +kernel
theorem dX0_make_34 : decode cX0_make 34 = .ok (.if_icmp .ge 67, 3) := by decide +kernel
theorem dX0_make_37 : decode cX0_make 37 = .ok (.aload_n 0, 1) := by decide +kernel
theorem dX0_make_38 : decode cX0_make 38 = .ok (.getfield 15, 3) := by decide +kernel
theorem dX0_make_41 : decode cX0_make 41 = .ok (.iload_n 3, 1) := by decide +kernel
theorem dX0_make_42 : decode cX0_make 42 = .ok (.iaload, 1) := by decide +kernel
theorem dX0_make_43 : decode cX0_make 43 = .ok (.istore 4, 2) := by decide +kernel
theorem dX0_make_45 : decode cX0_make 45 = .ok (.aload_n 0, 1) := by decide +kernel
theorem dX0_make_46 : decode cX0_make 46 = .ok (.getfield 22, 3) := by decide +kernel
theorem dX0_make_49 : decode cX0_make 49 = .ok (.iload 4, 2) := by decide +kernel
theorem dX0_make_51 : decode cX0_make 51 = .ok (.iaload, 1) := by decide +kernel
theorem dX0_make_52 : decode cX0_make 52 = .ok (.iconst (-1), 1) := by decide +kernel
theorem dX0_make_53 : decode cX0_make 53 = .ok (.if_icmp .ne 42, 3) := by decide +kernel
theorem dX0_make_56 : decode cX0_make 56 = .ok (.aload_n 0, 1) := by decide +kernel
theorem dX0_make_57 : decode cX0_make 57 = .ok (.aload_n 1, 1) := by decide +kernel
theorem dX0_make_58 : decode cX0_make 58 = .ok (.iload 4, 2) := by decide +kernel
theorem dX0_make_60 : decode cX0_make 60 = .ok (.invokevirtual 43, 3) := by decide +kernel
theorem dX0_make_63 : decode cX0_make 63 = .ok (.iconst 0, 1) := by decide +kernel
theorem dX0_make_64 : decode cX0_make 64 = .ok (.istore 5, 2) := by decide +kernel
theorem dX0_make_66 : decode cX0_make 66 = .ok (.iload 5, 2) := by decide +kernel
theorem dX0_make_68 : decode cX0_make 68 = .ok (.aload_n 0, 1) := by decide +kernel
theorem dX0_make_69 : decode cX0_make 69 = .ok (.getfield 31, 3) := by decide +kernel
theorem dX0_make_72 : decode cX0_make 72 = .ok (.if_icmp .ge 23, 3) := by decide +kernel
theorem dX0_make_75 : decode cX0_make 75 = .ok (.aload_n 0, 1) := by decide +kernel
theorem dX0_make_76 : decode cX0_make 76 = .ok (.getfield 22, 3) := by decide +kernel
theorem dX0_make_79 : decode cX0_make 79 = .ok (.aload_n 0, 1) := by decide +kernel
theorem dX0_make_80 : decode cX0_make 80 = .ok (.getfield 25, 3) := by decide +kernel
theorem dX0_make_83 : decode cX0_make 83 = .ok (.iload 5, 2) := by decide +kernel
theorem dX0_make_85 : decode cX0_make 85 = .ok (.iaload, 1) := by decide +kernel
theorem dX0_make_86 : decode cX0_make 86 = .ok (.iload 4, 2) := by decide +kernel
theorem dX0_make_88 : decode cX0_make 88 = .ok (.iastore, 1) := by decide +kernel
theorem dX0_make_89 : decode cX0_make 89 = .ok (.iinc 5 1, 3) := by decide +kernel
theorem dX0_make_92 : decode cX0_make 92 = .ok (.goto (-26), 3) := by decide +kernel
theorem dX0_make_95 : decode cX0_make 95 = .ok (.iinc 3 1, 3) := by decide +kernel
theorem dX0_make_98 : decode cX0_make 98 = .ok (.goto (-71), 3) := by decide +kernel
theorem dX0_make_101 : decode cX0_make 101 = .ok (.return_, 1) := by decide +kernel
theorem dX0_goOnTowards_0 : decode cX0_goOnTowards 0 = .ok (.aload_n 1, 1) := by decide +kernel
theorem dX0_goOnTowards_1 : decode cX0_goOnTowards 1 = .ok (.iload_n 2, 1) := by decide +kernel
theorem dX0_goOnTowards_2 : decode cX0_goOnTowards 2 = .ok (.iload_n 3, 1) := by decide +kernel
theorem dX0_goOnTowards_3 : decode cX0_goOnTowards 3 = .ok (.invokevirtual 83, 3) := by decide +kernel
theorem dX0_goOnTowards_6 : decode cX0_goOnTowards 6 = .ok (.istore 5, 2) := by decide +kernel
theorem dX0_goOnTowards_8 : decode cX0_goOnTowards 8 = .ok (.iconst 0, 1) := by decide +kernel
theorem dX0_goOnTowards_9 : decode cX0_goOnTowards 9 = .ok (.istore 6, 2) := by decide +kernel
theorem dX0_goOnTowards_11 : decode cX0_goOnTowards 11 = .ok (.iload 6, 2) := by decide +kernel
theorem dX0_goOnTowards_13 : decode cX0_goOnTowards 13 = .ok (.aload_n 0, 1) := by decide +kernel
theorem dX0_goOnTowards_14 : decode cX0_goOnTowards 14 = .ok (.getfield 9, 3) := by decide +kernel
theorem dX0_goOnTowards_17 : decode cX0_goOnTowards 17 = .ok (.if_icmp .ge 51, 3) := by decide +kernel
theorem dX0_goOnTowards_20 : decode cX0_goOnTowards 20 = .ok (.iload 5, 2) := by decide +kernel
theorem dX0_goOnTowards_22 : decode cX0_goOnTowards 22 = .ok (.iload 6, 2) := by decide +kernel
theorem dX0_goOnTowards_24 : decode cX0_goOnTowards 24 = .ok (.ishr, 1) := by decide +kernel
theorem dX0_goOnTowards_25 : decode cX0_goOnTowards 25 = .ok (.iconst 1, 1) := by decide +kernel
theorem dX0_goOnTowards_26 : decode cX0_goOnTowards 26 = .ok (.iand, 1) := by decide +kernel
theorem dX0_goOnTowards_27 : decode cX0_goOnTowards 27 = .ok (.ifCond .eq 35, 3) := by decide +kernel
theorem dX0_goOnTowards_30 : decode cX0_goOnTowards 30 = .ok (.aload_n 1, 1) := by decide +kernel
theorem dX0_goOnTowards_31 : decode cX0_goOnTowards 31 = .ok (.iload_n 2, 1) := by decide +kernel
theorem dX0_goOnTowards_32 : decode cX0_goOnTowards 32 = .ok (.iload_n 3, 1) := by decide +kernel
theorem dX0_goOnTowards_33 : decode cX0_goOnTowards 33 = .ok (.iload 6, 2) := by decide +kernel
theorem dX0_goOnTowards_35 : decode cX0_goOnTowards 35 = .ok (.invokevirtual 86, 3) := by decide +kernel
theorem dX0_goOnTowards_38 : decode cX0_goOnTowards 38 = .ok (.istore 7, 2) := by decide +kernel
theorem dX0_goOnTowards_40 : decode cX0_goOnTowards 40 = .ok (.aload_n 0, 1) := by decide +kernel
theorem dX0_goOnTowards_41 : decode cX0_goOnTowards 41 = .ok (.getfield 28, 3) := by decide +kernel
theorem dX0_goOnTowards_44 : decode cX0_goOnTowards 44 = .ok (.iload 4, 2) := by decide +kernel
theorem dX0_goOnTowards_46 : decode cX0_goOnTowards 46 = .ok (.iload 7, 2) := by decide +kernel
theorem dX0_goOnTowards_48 : decode cX0_goOnTowards 48 = .ok (.invokestatic 90, 3) := by decide +kernel
theorem dX0_goOnTowards_51 : decode cX0_goOnTowards 51 = .ok (.invokestatic 73, 3) := by decide +kernel
theorem dX0_goOnTowards_54 : decode cX0_goOnTowards 54 = .ok (.iaload, 1) := by decide +kernel
theorem dX0_goOnTowards_55 : decode cX0_goOnTowards 55 = .ok (.iload_n 3, 1) := by decide +kernel
theorem dX0_goOnTowards_56 : decode cX0_goOnTowards 56 = .ok (.if_icmp .le 6, 3) := by decide +kernel
theorem dX0_goOnTowards_59 : decode cX0_goOnTowards 59 = .ok (.iload 7, 2) := by decide +kernel
theorem dX0_goOnTowards_61 : decode cX0_goOnTowards 61 = .ok (.ireturn, 1) := by decide +kernel
theorem dX0_goOnTowards_62 : decode cX0_goOnTowards 62 = .ok (.iinc 6 1, 3) := by decide +kernel
theorem dX0_goOnTowards_65 : decode cX0_goOnTowards 65 = .ok (.goto (-54), 3) := by decide +kernel
theorem dX0_goOnTowards_68 : decode cX0_goOnTowards 68 = .ok (.iload_n 2, 1) := by decide +kernel
theorem dX0_goOnTowards_69 : decode cX0_goOnTowards 69 = .ok (.ireturn, 1) := by decide +kernel
theorem dX0_firstMove_0 : decode cX0_firstMove 0 = .ok (.aload_n 0, 1) := by decide +kernel
theorem dX0_firstMove_1 : decode cX0_firstMove 1 = .ok (.aload_n 1, 1) := by decide +kernel
theorem dX0_firstMove_2 : decode cX0_firstMove 2 = .ok (.iload_n 2, 1) := by decide +kernel
theorem dX0_firstMove_3 : decode cX0_firstMove 3 = .ok (.invokevirtual 43, 3) := by decide +kernel
theorem dX0_firstMove_6 : decode cX0_firstMove 6 = .ok (.aload_n 0, 1) := by decide +kernel
theorem dX0_firstMove_7 : decode cX0_firstMove 7 = .ok (.getfield 28, 3) := by decide +kernel
theorem dX0_firstMove_10 : decode cX0_firstMove 10 = .ok (.iload_n 3, 1) := by decide +kernel
theorem dX0_firstMove_11 : decode cX0_firstMove 11 = .ok (.iaload, 1) := by decide +kernel
theorem dX0_firstMove_12 : decode cX0_firstMove 12 = .ok (.iconst (-1), 1) := by decide +kernel
theorem dX0_firstMove_13 : decode cX0_firstMove 13 = .ok (.if_icmp .ne 5, 3) := by decide +kernel
theorem dX0_firstMove_16 : decode cX0_firstMove 16 = .ok (.iconst (-1), 1) := by decide +kernel
theorem dX0_firstMove_17 : decode cX0_firstMove 17 = .ok (.ireturn, 1) := by decide +kernel
theorem dX0_firstMove_18 : decode cX0_firstMove 18 = .ok (.ldc 78, 2) := by decide +kernel
theorem dX0_firstMove_20 : decode cX0_firstMove 20 = .ok (.istore 4, 2) := by decide +kernel
theorem dX0_firstMove_22 : decode cX0_firstMove 22 = .ok (.iconst 0, 1) := by decide +kernel
theorem dX0_firstMove_23 : decode cX0_firstMove 23 = .ok (.istore 5, 2) := by decide +kernel
theorem dX0_firstMove_25 : decode cX0_firstMove 25 = .ok (.iload 5, 2) := by decide +kernel
theorem dX0_firstMove_27 : decode cX0_firstMove 27 = .ok (.aload_n 0, 1) := by decide +kernel
theorem dX0_firstMove_28 : decode cX0_firstMove 28 = .ok (.getfield 9, 3) := by decide +kernel
theorem dX0_firstMove_31 : decode cX0_firstMove 31 = .ok (.if_icmp .ge 21, 3) := by decide +kernel
theorem dX0_firstMove_34 : decode cX0_firstMove 34 = .ok (.aload_n 0, 1) := by decide +kernel
theorem dX0_firstMove_35 : decode cX0_firstMove 35 = .ok (.aload_n 1, 1) := by decide +kernel
theorem dX0_firstMove_36 : decode cX0_firstMove 36 = .ok (.iload 4, 2) := by decide +kernel
theorem dX0_firstMove_38 : decode cX0_firstMove 38 = .ok (.iload 5, 2) := by decide +kernel
theorem dX0_firstMove_40 : decode cX0_firstMove 40 = .ok (.iload_n 3, 1) := by decide +kernel
theorem dX0_firstMove_41 : decode cX0_firstMove 41 = .ok (.invokevirtual 79, 3) := by decide +kernel
theorem dX0_firstMove_44 : decode cX0_firstMove 44 = .ok (.istore 4, 2) := by decide +kernel
theorem dX0_firstMove_46 : decode cX0_firstMove 46 = .ok (.iinc 5 1, 3) := by decide +kernel
theorem dX0_firstMove_49 : decode cX0_firstMove 49 = .ok (.goto (-24), 3) := by decide +kernel
theorem dX0_firstMove_52 : decode cX0_firstMove 52 = .ok (.iload 4, 2) := by decide +kernel
theorem dX0_firstMove_54 : decode cX0_firstMove 54 = .ok (.ireturn, 1) := by decide +kernel
theorem dX0_first_0 : decode cX0_first 0 = .ok (.aload_n 0, 1) := by decide +kernel
theorem dX0_first_1 : decode cX0_first 1 = .ok (.getfield 22, 3) := by decide +kernel
theorem dX0_first_4 : decode cX0_first 4 = .ok (.iload_n 1, 1) := by decide +kernel
theorem dX0_first_5 : decode cX0_first 5 = .ok (.sipush 255, 3) := by decide +kernel
theorem dX0_first_8 : decode cX0_first 8 = .ok (.iand, 1) := by decide +kernel
theorem dX0_first_9 : decode cX0_first 9 = .ok (.iaload, 1) := by decide +kernel
theorem dX0_first_10 : decode cX0_first 10 = .ok (.ireturn, 1) := by decide +kernel
theorem dX0_start_0 : decode cX0_start 0 = .ok (.aload_n 0, 1) := by decide +kernel
theorem dX0_start_1 : decode cX0_start 1 = .ok (.getfield 19, 3) := by decide +kernel
theorem dX0_start_4 : decode cX0_start 4 = .ok (.iconst 0, 1) := by decide +kernel
theorem dX0_start_5 : decode cX0_start 5 = .ok (.iload_n 1, 1) := by decide +kernel
theorem dX0_start_6 : decode cX0_start 6 = .ok (.aload_n 0, 1) := by decide +kernel
theorem dX0_start_7 : decode cX0_start 7 = .ok (.getfield 9, 3) := by decide +kernel
theorem dX0_start_10 : decode cX0_start 10 = .ok (.iconst 1, 1) := by decide +kernel
theorem dX0_start_11 : decode cX0_start 11 = .ok (.iadd, 1) := by decide +kernel
theorem dX0_start_12 : decode cX0_start 12 = .ok (.invokestatic 93, 3) := by decide +kernel
theorem dX0_start_15 : decode cX0_start 15 = .ok (.invokestatic 98, 3) := by decide +kernel
theorem dX0_start_18 : decode cX0_start 18 = .ok (.iaload, 1) := by decide +kernel
theorem dX0_start_19 : decode cX0_start 19 = .ok (.ireturn, 1) := by decide +kernel
theorem dX0_countWith_0 : decode cX0_countWith 0 = .ok (.iload_n 1, 1) := by decide +kernel
theorem dX0_countWith_1 : decode cX0_countWith 1 = .ok (.invokestatic 47, 3) := by decide +kernel
theorem dX0_countWith_4 : decode cX0_countWith 4 = .ok (.istore_n 2, 1) := by decide +kernel
theorem dX0_countWith_5 : decode cX0_countWith 5 = .ok (.aload_n 0, 1) := by decide +kernel
theorem dX0_countWith_6 : decode cX0_countWith 6 = .ok (.iload_n 1, 1) := by decide +kernel
theorem dX0_countWith_7 : decode cX0_countWith 7 = .ok (.invokevirtual 101, 3) := by decide +kernel
theorem dX0_countWith_10 : decode cX0_countWith 10 = .ok (.istore_n 3, 1) := by decide +kernel
theorem dX0_countWith_11 : decode cX0_countWith 11 = .ok (.iconst 0, 1) := by decide +kernel
theorem dX0_countWith_12 : decode cX0_countWith 12 = .ok (.istore 4, 2) := by decide +kernel
theorem dX0_countWith_14 : decode cX0_countWith 14 = .ok (.aload_n 0, 1) := by decide +kernel
theorem dX0_countWith_15 : decode cX0_countWith 15 = .ok (.iload_n 2, 1) := by decide +kernel
theorem dX0_countWith_16 : decode cX0_countWith 16 = .ok (.invokevirtual 104, 3) := by decide +kernel
theorem dX0_countWith_19 : decode cX0_countWith 19 = .ok (.istore 5, 2) := by decide +kernel
theorem dX0_countWith_21 : decode cX0_countWith 21 = .ok (.iload 5, 2) := by decide +kernel
theorem dX0_countWith_23 : decode cX0_countWith 23 = .ok (.aload_n 0, 1) := by decide +kernel
theorem dX0_countWith_24 : decode cX0_countWith 24 = .ok (.iload_n 2, 1) := by decide +kernel
theorem dX0_countWith_25 : decode cX0_countWith 25 = .ok (.iconst 1, 1) := by decide +kernel
theorem dX0_countWith_26 : decode cX0_countWith 26 = .ok (.iadd, 1) := by decide +kernel
theorem dX0_countWith_27 : decode cX0_countWith 27 = .ok (.invokevirtual 104, 3) := by decide +kernel
theorem dX0_countWith_30 : decode cX0_countWith 30 = .ok (.if_icmp .ge 27, 3) := by decide +kernel
theorem dX0_countWith_33 : decode cX0_countWith 33 = .ok (.aload_n 0, 1) := by decide +kernel
theorem dX0_countWith_34 : decode cX0_countWith 34 = .ok (.aload_n 0, 1) := by decide +kernel
theorem dX0_countWith_35 : decode cX0_countWith 35 = .ok (.getfield 15, 3) := by decide +kernel
theorem dX0_countWith_38 : decode cX0_countWith 38 = .ok (.iload 5, 2) := by decide +kernel
theorem dX0_countWith_40 : decode cX0_countWith 40 = .ok (.iaload, 1) := by decide +kernel
theorem dX0_countWith_41 : decode cX0_countWith 41 = .ok (.invokevirtual 101, 3) := by decide +kernel
theorem dX0_countWith_44 : decode cX0_countWith 44 = .ok (.iload_n 3, 1) := by decide +kernel
theorem dX0_countWith_45 : decode cX0_countWith 45 = .ok (.if_icmp .ne 6, 3) := by decide +kernel
theorem dX0_countWith_48 : decode cX0_countWith 48 = .ok (.iinc 4 1, 3) := by decide +kernel
theorem dX0_countWith_51 : decode cX0_countWith 51 = .ok (.iinc 5 1, 3) := by decide +kernel
theorem dX0_countWith_54 : decode cX0_countWith 54 = .ok (.goto (-33), 3) := by decide +kernel
theorem dX0_countWith_57 : decode cX0_countWith 57 = .ok (.iload 4, 2) := by decide +kernel
theorem dX0_countWith_59 : decode cX0_countWith 59 = .ok (.ireturn, 1) := by decide +kernel
theorem dX0_nthWith_0 : decode cX0_nthWith 0 = .ok (.iload_n 1, 1) := by decide +kernel
theorem dX0_nthWith_1 : decode cX0_nthWith 1 = .ok (.invokestatic 47, 3) := by decide +kernel
theorem dX0_nthWith_4 : decode cX0_nthWith 4 = .ok (.istore_n 3, 1) := by decide +kernel
theorem dX0_nthWith_5 : decode cX0_nthWith 5 = .ok (.aload_n 0, 1) := by decide +kernel
theorem dX0_nthWith_6 : decode cX0_nthWith 6 = .ok (.iload_n 1, 1) := by decide +kernel
theorem dX0_nthWith_7 : decode cX0_nthWith 7 = .ok (.invokevirtual 101, 3) := by decide +kernel
theorem dX0_nthWith_10 : decode cX0_nthWith 10 = .ok (.istore 4, 2) := by decide +kernel
theorem dX0_nthWith_12 : decode cX0_nthWith 12 = .ok (.iload_n 2, 1) := by decide +kernel
theorem dX0_nthWith_13 : decode cX0_nthWith 13 = .ok (.istore 5, 2) := by decide +kernel
theorem dX0_nthWith_15 : decode cX0_nthWith 15 = .ok (.aload_n 0, 1) := by decide +kernel
theorem dX0_nthWith_16 : decode cX0_nthWith 16 = .ok (.iload_n 3, 1) := by decide +kernel
theorem dX0_nthWith_17 : decode cX0_nthWith 17 = .ok (.invokevirtual 104, 3) := by decide +kernel
theorem dX0_nthWith_20 : decode cX0_nthWith 20 = .ok (.istore 6, 2) := by decide +kernel
theorem dX0_nthWith_22 : decode cX0_nthWith 22 = .ok (.iload 6, 2) := by decide +kernel
theorem dX0_nthWith_24 : decode cX0_nthWith 24 = .ok (.aload_n 0, 1) := by decide +kernel
theorem dX0_nthWith_25 : decode cX0_nthWith 25 = .ok (.iload_n 3, 1) := by decide +kernel
theorem dX0_nthWith_26 : decode cX0_nthWith 26 = .ok (.iconst 1, 1) := by decide +kernel
theorem dX0_nthWith_27 : decode cX0_nthWith 27 = .ok (.iadd, 1) := by decide +kernel
theorem dX0_nthWith_28 : decode cX0_nthWith 28 = .ok (.invokevirtual 104, 3) := by decide +kernel
theorem dX0_nthWith_31 : decode cX0_nthWith 31 = .ok (.if_icmp .ge 41, 3) := by decide +kernel
theorem dX0_nthWith_34 : decode cX0_nthWith 34 = .ok (.aload_n 0, 1) := by decide +kernel
theorem dX0_nthWith_35 : decode cX0_nthWith 35 = .ok (.aload_n 0, 1) := by decide +kernel
theorem dX0_nthWith_36 : decode cX0_nthWith 36 = .ok (.getfield 15, 3) := by decide +kernel
theorem dX0_nthWith_39 : decode cX0_nthWith 39 = .ok (.iload 6, 2) := by decide +kernel
theorem dX0_nthWith_41 : decode cX0_nthWith 41 = .ok (.iaload, 1) := by decide +kernel
theorem dX0_nthWith_42 : decode cX0_nthWith 42 = .ok (.invokevirtual 101, 3) := by decide +kernel
theorem dX0_nthWith_45 : decode cX0_nthWith 45 = .ok (.iload 4, 2) := by decide +kernel
theorem dX0_nthWith_47 : decode cX0_nthWith 47 = .ok (.if_icmp .ne 19, 3) := by decide +kernel
theorem dX0_nthWith_50 : decode cX0_nthWith 50 = .ok (.iload 5, 2) := by decide +kernel
theorem dX0_nthWith_52 : decode cX0_nthWith 52 = .ok (.ifCond .ne 11, 3) := by decide +kernel
theorem dX0_nthWith_55 : decode cX0_nthWith 55 = .ok (.aload_n 0, 1) := by decide +kernel
theorem dX0_nthWith_56 : decode cX0_nthWith 56 = .ok (.getfield 15, 3) := by decide +kernel
theorem dX0_nthWith_59 : decode cX0_nthWith 59 = .ok (.iload 6, 2) := by decide +kernel
theorem dX0_nthWith_61 : decode cX0_nthWith 61 = .ok (.iaload, 1) := by decide +kernel
theorem dX0_nthWith_62 : decode cX0_nthWith 62 = .ok (.ireturn, 1) := by decide +kernel
theorem dX0_nthWith_63 : decode cX0_nthWith 63 = .ok (.iinc 5 (-1), 3) := by decide +kernel
theorem dX0_nthWith_66 : decode cX0_nthWith 66 = .ok (.iinc 6 1, 3) := by decide +kernel
theorem dX0_nthWith_69 : decode cX0_nthWith 69 = .ok (.goto (-47), 3) := by decide +kernel
theorem dX0_nthWith_72 : decode cX0_nthWith 72 = .ok (.bipush (-5), 2) := by decide +kernel
theorem dX0_nthWith_74 : decode cX0_nthWith 74 = .ok (.ireturn, 1) := by decide +kernel
theorem dX0_isFirst_0 : decode cX0_isFirst 0 = .ok (.aload_n 0, 1) := by decide +kernel
theorem dX0_isFirst_1 : decode cX0_isFirst 1 = .ok (.iload_n 1, 1) := by decide +kernel
theorem dX0_isFirst_2 : decode cX0_isFirst 2 = .ok (.invokevirtual 101, 3) := by decide +kernel
theorem dX0_isFirst_5 : decode cX0_isFirst 5 = .ok (.iload_n 1, 1) := by decide +kernel
theorem dX0_isFirst_6 : decode cX0_isFirst 6 = .ok (.if_icmp .ne 7, 3) := by decide +kernel
theorem dX0_isFirst_9 : decode cX0_isFirst 9 = .ok (.iconst 1, 1) := by decide +kernel
theorem dX0_isFirst_10 : decode cX0_isFirst 10 = .ok (.goto 4, 3) := by decide +kernel
theorem dX0_isFirst_13 : decode cX0_isFirst 13 = .ok (.iconst 0, 1) := by decide +kernel
theorem dX0_isFirst_14 : decode cX0_isFirst 14 = .ok (.ireturn, 1) := by decide +kernel
theorem dX0_countFirsts_0 : decode cX0_countFirsts 0 = .ok (.iconst 0, 1) := by decide +kernel
theorem dX0_countFirsts_1 : decode cX0_countFirsts 1 = .ok (.istore_n 2, 1) := by decide +kernel
theorem dX0_countFirsts_2 : decode cX0_countFirsts 2 = .ok (.aload_n 0, 1) := by decide +kernel
theorem dX0_countFirsts_3 : decode cX0_countFirsts 3 = .ok (.iload_n 1, 1) := by decide +kernel
theorem dX0_countFirsts_4 : decode cX0_countFirsts 4 = .ok (.invokevirtual 104, 3) := by decide +kernel
theorem dX0_countFirsts_7 : decode cX0_countFirsts 7 = .ok (.istore_n 3, 1) := by decide +kernel
theorem dX0_countFirsts_8 : decode cX0_countFirsts 8 = .ok (.iload_n 3, 1) := by decide +kernel
theorem dX0_countFirsts_9 : decode cX0_countFirsts 9 = .ok (.aload_n 0, 1) := by decide +kernel
theorem dX0_countFirsts_10 : decode cX0_countFirsts 10 = .ok (.iload_n 1, 1) := by decide +kernel
theorem dX0_countFirsts_11 : decode cX0_countFirsts 11 = .ok (.iconst 1, 1) := by decide +kernel
theorem dX0_countFirsts_12 : decode cX0_countFirsts 12 = .ok (.iadd, 1) := by decide +kernel
theorem dX0_countFirsts_13 : decode cX0_countFirsts 13 = .ok (.invokevirtual 104, 3) := by decide +kernel
theorem dX0_countFirsts_16 : decode cX0_countFirsts 16 = .ok (.if_icmp .ge 25, 3) := by decide +kernel
theorem dX0_countFirsts_19 : decode cX0_countFirsts 19 = .ok (.aload_n 0, 1) := by decide +kernel
theorem dX0_countFirsts_20 : decode cX0_countFirsts 20 = .ok (.aload_n 0, 1) := by decide +kernel
theorem dX0_countFirsts_21 : decode cX0_countFirsts 21 = .ok (.getfield 15, 3) := by decide +kernel
theorem dX0_countFirsts_24 : decode cX0_countFirsts 24 = .ok (.iload_n 3, 1) := by decide +kernel
theorem dX0_countFirsts_25 : decode cX0_countFirsts 25 = .ok (.iaload, 1) := by decide +kernel
theorem dX0_countFirsts_26 : decode cX0_countFirsts 26 = .ok (.invokevirtual 107, 3) := by decide +kernel
theorem dX0_countFirsts_29 : decode cX0_countFirsts 29 = .ok (.ifCond .eq 6, 3) := by decide +kernel
theorem dX0_countFirsts_32 : decode cX0_countFirsts 32 = .ok (.iinc 2 1, 3) := by decide +kernel
theorem dX0_countFirsts_35 : decode cX0_countFirsts 35 = .ok (.iinc 3 1, 3) := by decide +kernel
theorem dX0_countFirsts_38 : decode cX0_countFirsts 38 = .ok (.goto (-30), 3) := by decide +kernel
theorem dX0_countFirsts_41 : decode cX0_countFirsts 41 = .ok (.iload_n 2, 1) := by decide +kernel
theorem dX0_countFirsts_42 : decode cX0_countFirsts 42 = .ok (.ireturn, 1) := by decide +kernel
theorem dX0_nthFirst_0 : decode cX0_nthFirst 0 = .ok (.iload_n 2, 1) := by decide +kernel
theorem dX0_nthFirst_1 : decode cX0_nthFirst 1 = .ok (.istore_n 3, 1) := by decide +kernel
theorem dX0_nthFirst_2 : decode cX0_nthFirst 2 = .ok (.aload_n 0, 1) := by decide +kernel
theorem dX0_nthFirst_3 : decode cX0_nthFirst 3 = .ok (.iload_n 1, 1) := by decide +kernel
theorem dX0_nthFirst_4 : decode cX0_nthFirst 4 = .ok (.invokevirtual 104, 3) := by decide +kernel
theorem dX0_nthFirst_7 : decode cX0_nthFirst 7 = .ok (.istore 4, 2) := by decide +kernel
theorem dX0_nthFirst_9 : decode cX0_nthFirst 9 = .ok (.iload 4, 2) := by decide +kernel
theorem dX0_nthFirst_11 : decode cX0_nthFirst 11 = .ok (.aload_n 0, 1) := by decide +kernel
theorem dX0_nthFirst_12 : decode cX0_nthFirst 12 = .ok (.iload_n 1, 1) := by decide +kernel
theorem dX0_nthFirst_13 : decode cX0_nthFirst 13 = .ok (.iconst 1, 1) := by decide +kernel
theorem dX0_nthFirst_14 : decode cX0_nthFirst 14 = .ok (.iadd, 1) := by decide +kernel
theorem dX0_nthFirst_15 : decode cX0_nthFirst 15 = .ok (.invokevirtual 104, 3) := by decide +kernel
theorem dX0_nthFirst_18 : decode cX0_nthFirst 18 = .ok (.if_icmp .ge 38, 3) := by decide +kernel
theorem dX0_nthFirst_21 : decode cX0_nthFirst 21 = .ok (.aload_n 0, 1) := by decide +kernel
theorem dX0_nthFirst_22 : decode cX0_nthFirst 22 = .ok (.aload_n 0, 1) := by decide +kernel
theorem dX0_nthFirst_23 : decode cX0_nthFirst 23 = .ok (.getfield 15, 3) := by decide +kernel
theorem dX0_nthFirst_26 : decode cX0_nthFirst 26 = .ok (.iload 4, 2) := by decide +kernel
theorem dX0_nthFirst_28 : decode cX0_nthFirst 28 = .ok (.iaload, 1) := by decide +kernel
theorem dX0_nthFirst_29 : decode cX0_nthFirst 29 = .ok (.invokevirtual 107, 3) := by decide +kernel
theorem dX0_nthFirst_32 : decode cX0_nthFirst 32 = .ok (.ifCond .eq 18, 3) := by decide +kernel
theorem dX0_nthFirst_35 : decode cX0_nthFirst 35 = .ok (.iload_n 3, 1) := by decide +kernel
theorem dX0_nthFirst_36 : decode cX0_nthFirst 36 = .ok (.ifCond .ne 11, 3) := by decide +kernel
theorem dX0_nthFirst_39 : decode cX0_nthFirst 39 = .ok (.aload_n 0, 1) := by decide +kernel
theorem dX0_nthFirst_40 : decode cX0_nthFirst 40 = .ok (.getfield 15, 3) := by decide +kernel
theorem dX0_nthFirst_43 : decode cX0_nthFirst 43 = .ok (.iload 4, 2) := by decide +kernel
theorem dX0_nthFirst_45 : decode cX0_nthFirst 45 = .ok (.iaload, 1) := by decide +kernel
theorem dX0_nthFirst_46 : decode cX0_nthFirst 46 = .ok (.ireturn, 1) := by decide +kernel
theorem dX0_nthFirst_47 : decode cX0_nthFirst 47 = .ok (.iinc 3 (-1), 3) := by decide +kernel
theorem dX0_nthFirst_50 : decode cX0_nthFirst 50 = .ok (.iinc 4 1, 3) := by decide +kernel
theorem dX0_nthFirst_53 : decode cX0_nthFirst 53 = .ok (.goto (-44), 3) := by decide +kernel
theorem dX0_nthFirst_56 : decode cX0_nthFirst 56 = .ok (.bipush (-5), 2) := by decide +kernel
theorem dX0_nthFirst_58 : decode cX0_nthFirst 58 = .ok (.ireturn, 1) := by decide +kernel
theorem dX0_placeOfFirst_0 : decode cX0_placeOfFirst 0 = .ok (.iload_n 1, 1) := by decide +kernel
theorem dX0_placeOfFirst_1 : decode cX0_placeOfFirst 1 = .ok (.invokestatic 47, 3) := by decide +kernel
theorem dX0_placeOfFirst_4 : decode cX0_placeOfFirst 4 = .ok (.istore_n 2, 1) := by decide +kernel
theorem dX0_placeOfFirst_5 : decode cX0_placeOfFirst 5 = .ok (.iconst 0, 1) := by decide +kernel
theorem dX0_placeOfFirst_6 : decode cX0_placeOfFirst 6 = .ok (.istore_n 3, 1) := by decide +kernel
theorem dX0_placeOfFirst_7 : decode cX0_placeOfFirst 7 = .ok (.aload_n 0, 1) := by decide +kernel
theorem dX0_placeOfFirst_8 : decode cX0_placeOfFirst 8 = .ok (.iload_n 2, 1) := by decide +kernel
theorem dX0_placeOfFirst_9 : decode cX0_placeOfFirst 9 = .ok (.invokevirtual 104, 3) := by decide +kernel
theorem dX0_placeOfFirst_12 : decode cX0_placeOfFirst 12 = .ok (.istore 4, 2) := by decide +kernel
theorem dX0_placeOfFirst_14 : decode cX0_placeOfFirst 14 = .ok (.iload 4, 2) := by decide +kernel
theorem dX0_placeOfFirst_16 : decode cX0_placeOfFirst 16 = .ok (.aload_n 0, 1) := by decide +kernel
theorem dX0_placeOfFirst_17 : decode cX0_placeOfFirst 17 = .ok (.iload_n 2, 1) := by decide +kernel
theorem dX0_placeOfFirst_18 : decode cX0_placeOfFirst 18 = .ok (.iconst 1, 1) := by decide +kernel
theorem dX0_placeOfFirst_19 : decode cX0_placeOfFirst 19 = .ok (.iadd, 1) := by decide +kernel
theorem dX0_placeOfFirst_20 : decode cX0_placeOfFirst 20 = .ok (.invokevirtual 104, 3) := by decide +kernel
theorem dX0_placeOfFirst_23 : decode cX0_placeOfFirst 23 = .ok (.if_icmp .ge 41, 3) := by decide +kernel
theorem dX0_placeOfFirst_26 : decode cX0_placeOfFirst 26 = .ok (.aload_n 0, 1) := by decide +kernel
theorem dX0_placeOfFirst_27 : decode cX0_placeOfFirst 27 = .ok (.getfield 15, 3) := by decide +kernel
theorem dX0_placeOfFirst_30 : decode cX0_placeOfFirst 30 = .ok (.iload 4, 2) := by decide +kernel
theorem dX0_placeOfFirst_32 : decode cX0_placeOfFirst 32 = .ok (.iaload, 1) := by decide +kernel
theorem dX0_placeOfFirst_33 : decode cX0_placeOfFirst 33 = .ok (.aload_n 0, 1) := by decide +kernel
theorem dX0_placeOfFirst_34 : decode cX0_placeOfFirst 34 = .ok (.iload_n 1, 1) := by decide +kernel
theorem dX0_placeOfFirst_35 : decode cX0_placeOfFirst 35 = .ok (.invokevirtual 101, 3) := by decide +kernel
theorem dX0_placeOfFirst_38 : decode cX0_placeOfFirst 38 = .ok (.if_icmp .eq 26, 3) := by decide +kernel
theorem dX0_placeOfFirst_41 : decode cX0_placeOfFirst 41 = .ok (.aload_n 0, 1) := by decide +kernel
theorem dX0_placeOfFirst_42 : decode cX0_placeOfFirst 42 = .ok (.aload_n 0, 1) := by decide +kernel
theorem dX0_placeOfFirst_43 : decode cX0_placeOfFirst 43 = .ok (.getfield 15, 3) := by decide +kernel
theorem dX0_placeOfFirst_46 : decode cX0_placeOfFirst 46 = .ok (.iload 4, 2) := by decide +kernel
theorem dX0_placeOfFirst_48 : decode cX0_placeOfFirst 48 = .ok (.iaload, 1) := by decide +kernel
theorem dX0_placeOfFirst_49 : decode cX0_placeOfFirst 49 = .ok (.invokevirtual 107, 3) := by decide +kernel
theorem dX0_placeOfFirst_52 : decode cX0_placeOfFirst 52 = .ok (.ifCond .eq 6, 3) := by decide +kernel
theorem dX0_placeOfFirst_55 : decode cX0_placeOfFirst 55 = .ok (.iinc 3 1, 3) := by decide +kernel
theorem dX0_placeOfFirst_58 : decode cX0_placeOfFirst 58 = .ok (.iinc 4 1, 3) := by decide +kernel
theorem dX0_placeOfFirst_61 : decode cX0_placeOfFirst 61 = .ok (.goto (-47), 3) := by decide +kernel
theorem dX0_placeOfFirst_64 : decode cX0_placeOfFirst 64 = .ok (.iload_n 3, 1) := by decide +kernel
theorem dX0_placeOfFirst_65 : decode cX0_placeOfFirst 65 = .ok (.ireturn, 1) := by decide +kernel
theorem dX0_digestFirsts_0 : decode cX0_digestFirsts 0 = .ok (.ldc2_w 111, 3) := by decide +kernel
theorem dX0_digestFirsts_3 : decode cX0_digestFirsts 3 = .ok (.lload_n 2, 1) := by decide +kernel
theorem dX0_digestFirsts_4 : decode cX0_digestFirsts 4 = .ok (.lmul, 1) := by decide +kernel
theorem dX0_digestFirsts_5 : decode cX0_digestFirsts 5 = .ok (.aload_n 0, 1) := by decide +kernel
theorem dX0_digestFirsts_6 : decode cX0_digestFirsts 6 = .ok (.iload_n 1, 1) := by decide +kernel
theorem dX0_digestFirsts_7 : decode cX0_digestFirsts 7 = .ok (.invokevirtual 113, 3) := by decide +kernel
theorem dX0_digestFirsts_10 : decode cX0_digestFirsts 10 = .ok (.i2l, 1) := by decide +kernel
theorem dX0_digestFirsts_11 : decode cX0_digestFirsts 11 = .ok (.ladd, 1) := by decide +kernel
theorem dX0_digestFirsts_12 : decode cX0_digestFirsts 12 = .ok (.lstore 4, 2) := by decide +kernel
theorem dX0_digestFirsts_14 : decode cX0_digestFirsts 14 = .ok (.aload_n 0, 1) := by decide +kernel
theorem dX0_digestFirsts_15 : decode cX0_digestFirsts 15 = .ok (.iload_n 1, 1) := by decide +kernel
theorem dX0_digestFirsts_16 : decode cX0_digestFirsts 16 = .ok (.invokevirtual 104, 3) := by decide +kernel
theorem dX0_digestFirsts_19 : decode cX0_digestFirsts 19 = .ok (.istore 6, 2) := by decide +kernel
theorem dX0_digestFirsts_21 : decode cX0_digestFirsts 21 = .ok (.iload 6, 2) := by decide +kernel
theorem dX0_digestFirsts_23 : decode cX0_digestFirsts 23 = .ok (.aload_n 0, 1) := by decide +kernel
theorem dX0_digestFirsts_24 : decode cX0_digestFirsts 24 = .ok (.iload_n 1, 1) := by decide +kernel
theorem dX0_digestFirsts_25 : decode cX0_digestFirsts 25 = .ok (.iconst 1, 1) := by decide +kernel
theorem dX0_digestFirsts_26 : decode cX0_digestFirsts 26 = .ok (.iadd, 1) := by decide +kernel
theorem dX0_digestFirsts_27 : decode cX0_digestFirsts 27 = .ok (.invokevirtual 104, 3) := by decide +kernel
theorem dX0_digestFirsts_30 : decode cX0_digestFirsts 30 = .ok (.if_icmp .ge 40, 3) := by decide +kernel
theorem dX0_digestFirsts_33 : decode cX0_digestFirsts 33 = .ok (.aload_n 0, 1) := by decide +kernel
theorem dX0_digestFirsts_34 : decode cX0_digestFirsts 34 = .ok (.aload_n 0, 1) := by decide +kernel
theorem dX0_digestFirsts_35 : decode cX0_digestFirsts 35 = .ok (.getfield 15, 3) := by decide +kernel
theorem dX0_digestFirsts_38 : decode cX0_digestFirsts 38 = .ok (.iload 6, 2) := by decide +kernel
theorem dX0_digestFirsts_40 : decode cX0_digestFirsts 40 = .ok (.iaload, 1) := by decide +kernel
theorem dX0_digestFirsts_41 : decode cX0_digestFirsts 41 = .ok (.invokevirtual 107, 3) := by decide +kernel
theorem dX0_digestFirsts_44 : decode cX0_digestFirsts 44 = .ok (.ifCond .eq 20, 3) := by decide +kernel
theorem dX0_digestFirsts_47 : decode cX0_digestFirsts 47 = .ok (.ldc2_w 111, 3) := by decide +kernel
theorem dX0_digestFirsts_50 : decode cX0_digestFirsts 50 = .ok (.lload 4, 2) := by decide +kernel
theorem dX0_digestFirsts_52 : decode cX0_digestFirsts 52 = .ok (.lmul, 1) := by decide +kernel
theorem dX0_digestFirsts_53 : decode cX0_digestFirsts 53 = .ok (.aload_n 0, 1) := by decide +kernel
theorem dX0_digestFirsts_54 : decode cX0_digestFirsts 54 = .ok (.getfield 15, 3) := by decide +kernel
theorem dX0_digestFirsts_57 : decode cX0_digestFirsts 57 = .ok (.iload 6, 2) := by decide +kernel
theorem dX0_digestFirsts_59 : decode cX0_digestFirsts 59 = .ok (.iaload, 1) := by decide +kernel
theorem dX0_digestFirsts_60 : decode cX0_digestFirsts 60 = .ok (.i2l, 1) := by decide +kernel
theorem dX0_digestFirsts_61 : decode cX0_digestFirsts 61 = .ok (.ladd, 1) := by decide +kernel
theorem dX0_digestFirsts_62 : decode cX0_digestFirsts 62 = .ok (.lstore 4, 2) := by decide +kernel
theorem dX0_digestFirsts_64 : decode cX0_digestFirsts 64 = .ok (.iinc 6 1, 3) := by decide +kernel
theorem dX0_digestFirsts_67 : decode cX0_digestFirsts 67 = .ok (.goto (-46), 3) := by decide +kernel
theorem dX0_digestFirsts_70 : decode cX0_digestFirsts 70 = .ok (.lload 4, 2) := by decide +kernel
theorem dX0_digestFirsts_72 : decode cX0_digestFirsts 72 = .ok (.lreturn, 1) := by decide +kernel
theorem dX0_orbit_0 : decode cX0_orbit 0 = .ok (.iconst 0, 1) := by decide +kernel
theorem dX0_orbit_1 : decode cX0_orbit 1 = .ok (.istore_n 2, 1) := by decide +kernel
theorem dX0_orbit_2 : decode cX0_orbit 2 = .ok (.iconst 0, 1) := by decide +kernel
theorem dX0_orbit_3 : decode cX0_orbit 3 = .ok (.istore_n 3, 1) := by decide +kernel
theorem dX0_orbit_4 : decode cX0_orbit 4 = .ok (.iload_n 3, 1) := by decide +kernel
theorem dX0_orbit_5 : decode cX0_orbit 5 = .ok (.aload_n 0, 1) := by decide +kernel
theorem dX0_orbit_6 : decode cX0_orbit 6 = .ok (.getfield 9, 3) := by decide +kernel
theorem dX0_orbit_9 : decode cX0_orbit 9 = .ok (.if_icmp .ge 32, 3) := by decide +kernel
theorem dX0_orbit_12 : decode cX0_orbit 12 = .ok (.aload_n 0, 1) := by decide +kernel
theorem dX0_orbit_13 : decode cX0_orbit 13 = .ok (.iconst 1, 1) := by decide +kernel
theorem dX0_orbit_14 : decode cX0_orbit 14 = .ok (.iload_n 3, 1) := by decide +kernel
theorem dX0_orbit_15 : decode cX0_orbit 15 = .ok (.ishl, 1) := by decide +kernel
theorem dX0_orbit_16 : decode cX0_orbit 16 = .ok (.invokevirtual 101, 3) := by decide +kernel
theorem dX0_orbit_19 : decode cX0_orbit 19 = .ok (.aload_n 0, 1) := by decide +kernel
theorem dX0_orbit_20 : decode cX0_orbit 20 = .ok (.iconst 1, 1) := by decide +kernel
theorem dX0_orbit_21 : decode cX0_orbit 21 = .ok (.iload_n 1, 1) := by decide +kernel
theorem dX0_orbit_22 : decode cX0_orbit 22 = .ok (.ishl, 1) := by decide +kernel
theorem dX0_orbit_23 : decode cX0_orbit 23 = .ok (.invokevirtual 101, 3) := by decide +kernel
theorem dX0_orbit_26 : decode cX0_orbit 26 = .ok (.if_icmp .ne 9, 3) := by decide +kernel
theorem dX0_orbit_29 : decode cX0_orbit 29 = .ok (.iload_n 2, 1) := by decide +kernel
theorem dX0_orbit_30 : decode cX0_orbit 30 = .ok (.iconst 1, 1) := by decide +kernel
theorem dX0_orbit_31 : decode cX0_orbit 31 = .ok (.iload_n 3, 1) := by decide +kernel
theorem dX0_orbit_32 : decode cX0_orbit 32 = .ok (.ishl, 1) := by decide +kernel
theorem dX0_orbit_33 : decode cX0_orbit 33 = .ok (.ior, 1) := by decide +kernel
theorem dX0_orbit_34 : decode cX0_orbit 34 = .ok (.istore_n 2, 1) := by decide +kernel
theorem dX0_orbit_35 : decode cX0_orbit 35 = .ok (.iinc 3 1, 3) := by decide +kernel
theorem dX0_orbit_38 : decode cX0_orbit 38 = .ok (.goto (-34), 3) := by decide +kernel
theorem dX0_orbit_41 : decode cX0_orbit 41 = .ok (.iload_n 2, 1) := by decide +kernel
theorem dX0_orbit_42 : decode cX0_orbit 42 = .ok (.ireturn, 1) := by decide +kernel
theorem dX0_leastPoint_0 : decode cX0_leastPoint 0 = .ok (.iconst 0, 1) := by decide +kernel
theorem dX0_leastPoint_1 : decode cX0_leastPoint 1 = .ok (.istore_n 2, 1) := by decide +kernel
theorem dX0_leastPoint_2 : decode cX0_leastPoint 2 = .ok (.iload_n 2, 1) := by decide +kernel
theorem dX0_leastPoint_3 : decode cX0_leastPoint 3 = .ok (.iload_n 1, 1) := by decide +kernel
theorem dX0_leastPoint_4 : decode cX0_leastPoint 4 = .ok (.if_icmp .ge 26, 3) := by decide +kernel
theorem dX0_leastPoint_7 : decode cX0_leastPoint 7 = .ok (.aload_n 0, 1) := by decide +kernel
theorem dX0_leastPoint_8 : decode cX0_leastPoint 8 = .ok (.iconst 1, 1) := by decide +kernel
theorem dX0_leastPoint_9 : decode cX0_leastPoint 9 = .ok (.iload_n 2, 1) := by decide +kernel
theorem dX0_leastPoint_10 : decode cX0_leastPoint 10 = .ok (.ishl, 1) := by decide +kernel
theorem dX0_leastPoint_11 : decode cX0_leastPoint 11 = .ok (.invokevirtual 101, 3) := by decide +kernel
theorem dX0_leastPoint_14 : decode cX0_leastPoint 14 = .ok (.aload_n 0, 1) := by decide +kernel
theorem dX0_leastPoint_15 : decode cX0_leastPoint 15 = .ok (.iconst 1, 1) := by decide +kernel
theorem dX0_leastPoint_16 : decode cX0_leastPoint 16 = .ok (.iload_n 1, 1) := by decide +kernel
theorem dX0_leastPoint_17 : decode cX0_leastPoint 17 = .ok (.ishl, 1) := by decide +kernel
theorem dX0_leastPoint_18 : decode cX0_leastPoint 18 = .ok (.invokevirtual 101, 3) := by decide +kernel
theorem dX0_leastPoint_21 : decode cX0_leastPoint 21 = .ok (.if_icmp .eq 9, 3) := by decide +kernel
theorem dX0_leastPoint_24 : decode cX0_leastPoint 24 = .ok (.iinc 2 1, 3) := by decide +kernel
theorem dX0_leastPoint_27 : decode cX0_leastPoint 27 = .ok (.goto (-25), 3) := by decide +kernel
theorem dX0_leastPoint_30 : decode cX0_leastPoint 30 = .ok (.iload_n 2, 1) := by decide +kernel
theorem dX0_leastPoint_31 : decode cX0_leastPoint 31 = .ok (.ireturn, 1) := by decide +kernel
theorem gc_X0_47 : GoodIn xtb (va_wsS RX0 47 yJ6_bitCount_0f7a4 (xW yJ6_bitCount_0f7a4 cJ6_bitCount_0f7a4 1 (some .int))) := x_goodS lkM_X0_47 wT_J6_bitCount_0f7a4 wN_J6 wC_J6_bitCount_0f7a4
theorem gc_X0_53 : GoodIn xtb (wsV RX0 53 yX0_turnRound.cls yX0_turnRound (xW yX0_turnRound cX0_turnRound 4 (some .int))) := x_good lkM_X0_53 wI_X0_turnRound wS_X0_turnRound wN_X0 wC_X0_turnRound
theorem gc_X0_56 : GoodIn xtb (wsV RX0 56 yX0_reach.cls yX0_reach (xW yX0_reach cX0_reach 3 none)) := x_good lkM_X0_56 wI_X0_reach wS_X0_reach wN_X0 wC_X0_reach
theorem gc_X0_73 : GoodIn xtb (va_wsS RX0 73 yX2_carry (xW yX2_carry cX2_carry 5 (some .int))) := x_goodS lkM_X0_73 wT_X2_carry wN_X2 wC_X2_carry
theorem gc_X0_60 : GoodIn xtb (wsV RX0 60 yX1_chain.cls yX1_chain (xW yX1_chain cX1_chain 2 (some .int))) := x_good lkM_X0_60 wI_X1_chain wS_X1_chain wN_X1 wC_X1_chain
theorem gc_X0_65 : GoodIn xtb (wsV RX0 65 yX1_step.cls yX1_step (xW yX1_step cX1_step 3 (some .int))) := x_good lkM_X0_65 wI_X1_step wS_X1_step wN_X1 wC_X1_step
theorem gc_X0_69 : GoodIn xtb (wsV RX0 69 yX0_spreadBy.cls yX0_spreadBy (xW yX0_spreadBy cX0_spreadBy 5 none)) := x_good lkM_X0_69 wI_X0_spreadBy wS_X0_spreadBy wN_X0 wC_X0_spreadBy
theorem gc_X0_34 : GoodIn xtb (va_wsS RX0 34 yJ7_fill_53178 (xW yJ7_fill_53178 cJ7_fill_53178 4 none)) := x_goodS lkM_X0_34 wT_J7_fill_53178 wN_J7 wC_J7_fill_53178
theorem gc_X0_40 : GoodIn xtb (wsV RX0 40 yX0_arrange.cls yX0_arrange (xW yX0_arrange cX0_arrange 4 none)) := x_good lkM_X0_40 wI_X0_arrange wS_X0_arrange wN_X0 wC_X0_arrange
theorem gc_X0_43 : GoodIn xtb (wsV RX0 43 yX0_spread.cls yX0_spread (xW yX0_spread cX0_spread 7 none)) := x_good lkM_X0_43 wI_X0_spread wS_X0_spread wN_X0 wC_X0_spread
theorem gc_X0_83 : GoodIn xtb (wsV RX0 83 yX1_choices.cls yX1_choices (xW yX1_choices cX1_choices 3 (some .int))) := x_good lkM_X0_83 wI_X1_choices wS_X1_choices wN_X1 wC_X1_choices
theorem gc_X0_86 : GoodIn xtb (wsV RX0 86 yX1_goOn.cls yX1_goOn (xW yX1_goOn cX1_goOn 4 (some .int))) := x_good lkM_X0_86 wI_X1_goOn wS_X1_goOn wN_X1 wC_X1_goOn
theorem gc_X0_90 : GoodIn xtb (va_wsS RX0 90 yX2_inverse (xW yX2_inverse cX2_inverse 3 (some .int))) := x_goodS lkM_X0_90 wT_X2_inverse wN_X2 wC_X2_inverse
theorem gc_X0_79 : GoodIn xtb (wsV RX0 79 yX0_goOnTowards.cls yX0_goOnTowards (xW yX0_goOnTowards cX0_goOnTowards 8 (some .int))) := x_good lkM_X0_79 wI_X0_goOnTowards wS_X0_goOnTowards wN_X0 wC_X0_goOnTowards
theorem gc_X0_101 : GoodIn xtb (wsV RX0 101 yX0_first.cls yX0_first (xW yX0_first cX0_first 2 (some .int))) := x_good lkM_X0_101 wI_X0_first wS_X0_first wN_X0 wC_X0_first
theorem gc_X0_104 : GoodIn xtb (wsV RX0 104 yX0_start.cls yX0_start (xW yX0_start cX0_start 2 (some .int))) := x_good lkM_X0_104 wI_X0_start wS_X0_start wN_X0 wC_X0_start
theorem gc_X0_107 : GoodIn xtb (wsV RX0 107 yX0_isFirst.cls yX0_isFirst (xW yX0_isFirst cX0_isFirst 2 (some .boolean))) := x_good lkM_X0_107 wI_X0_isFirst wS_X0_isFirst wN_X0 wC_X0_isFirst
theorem gc_X0_113 : GoodIn xtb (wsV RX0 113 yX0_countFirsts.cls yX0_countFirsts (xW yX0_countFirsts cX0_countFirsts 4 (some .int))) := x_good lkM_X0_113 wI_X0_countFirsts wS_X0_countFirsts wN_X0 wC_X0_countFirsts
theorem ds_X0_turnRound : xDs yX0_turnRound 1 := by decide +kernel
theorem ds_X0_arrange : xDs yX0_arrange 0 := by decide +kernel
theorem ds_X0_reach : xDs yX0_reach 2 := by decide +kernel
theorem ds_X0_spreadBy : xDs yX0_spreadBy 3 := by decide +kernel
theorem ds_X0_spread : xDs yX0_spread 2 := by decide +kernel
theorem ds_X0_make : xDs yX0_make 2 := by decide +kernel
theorem ds_X0_goOnTowards : xDs yX0_goOnTowards 4 := by decide +kernel
theorem ds_X0_firstMove : xDs yX0_firstMove 3 := by decide +kernel
theorem ds_X0_first : xDs yX0_first 1 := by decide +kernel
theorem ds_X0_start : xDs yX0_start 1 := by decide +kernel
theorem ds_X0_countWith : xDs yX0_countWith 1 := by decide +kernel
theorem ds_X0_nthWith : xDs yX0_nthWith 2 := by decide +kernel
theorem ds_X0_isFirst : xDs yX0_isFirst 1 := by decide +kernel
theorem ds_X0_countFirsts : xDs yX0_countFirsts 1 := by decide +kernel
theorem ds_X0_nthFirst : xDs yX0_nthFirst 2 := by decide +kernel
theorem ds_X0_placeOfFirst : xDs yX0_placeOfFirst 1 := by decide +kernel
theorem ds_X0_digestFirsts : xDs yX0_digestFirsts 2 := by decide +kernel
theorem ds_X0_orbit : xDs yX0_orbit 1 := by decide +kernel
theorem ds_X0_leastPoint : xDs yX0_leastPoint 1 := by decide +kernel
noncomputable def f_X0_turnRound_L1 (k_n : Int32) (v1 : Int32) (z : Int32 × Int32) : Option ((Int32 × Int32) ⊕ (Int32)) := match z with
  | (v2_1, v3_2) => xb (k_n ≤ v3_2) (some (.inr v2_1)) (some (.inl (((v2_1 <<< ((1 : Int32) &&& 31)) ||| ((v1 >>> (v3_2 &&& 31)) &&& (1 : Int32))), (v3_2 + (1 : Int32)))))
noncomputable def f_X0_turnRound (k_n : Int32) (v1 : Int32) : Option (Int32) := xn (xL (f_X0_turnRound_L1 k_n v1) ((0 : Int32), (0 : Int32))) (fun (v2_3 : Int32) => some v2_3)
set_option maxHeartbeats 4000000 in
set_option maxRecDepth 100000 in
theorem c_X0_turnRound (l : Launch) (dC : Nat → ClassId) (dI : Nat → Nat → Nat) (cI cZ cB cO : ClassId) (k_ad : Nat) (k_p : Nat → Nat) (k_n : Int32) (k_inOrder : (Nat → Int32)) (k_starts : (Nat → Int32)) (k_firsts : (Nat → Int32)) (k_reached : (Nat → Int32)) (k_reachedAt : (Nat → Int32)) (k_reachedCount : Int32) (v1 : Int32) (o : Int32) (h : f_X0_turnRound k_n v1 = some o) (sz : Nat) : Met l yX0_turnRound (xW yX0_turnRound cX0_turnRound 4 (some .int)) { frames := 0, cells := 0, slots := 0, locals := 0 } (xPre dC dI (xT cI cZ cB cO) [.ref k_ad, .int v1] (wK cI cZ cB cO k_ad k_p k_n k_inOrder k_starts k_firsts k_reached k_reachedAt k_reachedCount) sz) (xQi dC dI (xT cI cZ cB cO) o (wK cI cZ cB cO k_ad k_p k_n k_inOrder k_starts k_firsts k_reached k_reachedAt k_reachedCount) (wK cI cZ cB cO k_ad k_p k_n k_inOrder k_starts k_firsts k_reached k_reachedAt k_reachedCount) sz) 0 0 (va_A (wK cI cZ cB cO k_ad k_p k_n k_inOrder k_starts k_firsts k_reached k_reachedAt k_reachedCount) sz) := by
  refine x_met (by decide) (Nat.le_of_ble_eq_true rfl) ?_
  intro p e s m args below meth c R Q A hR hsz hA hQ hin C hw ls hl
  have hx := C.1
  have hb := C.2.1
  have hown := C.2.2.2.1
  have htb := C.2.2.2.2.1
  have hl : lv_has ls 4 [(0, .ref k_ad), (1, .int v1)] := hl
  refine lv_iconst (v := (0 : Int32)) hx hb dX0_turnRound_0 (by decide) ?_
  refine lv_istore_n (lv' := [(2, .int (0 : Int32)), (0, .ref k_ad), (1, .int v1)]) hx hb dX0_turnRound_1 rfl hl (by decide) rfl (fun ls hl => ?_)
  refine lv_iconst (v := (0 : Int32)) hx hb dX0_turnRound_2 (by decide) ?_
  refine lv_istore_n (lv' := [(3, .int (0 : Int32)), (2, .int (0 : Int32)), (0, .ref k_ad), (1, .int v1)]) hx hb dX0_turnRound_3 rfl hl (by decide) rfl (fun ls hl => ?_)
  obtain ⟨z, hr, h⟩ := xn_i h
  refine xL_w (fun (z : Int32 × Int32) => ∀ (H : Heap) (locs : List Loc) (ls : Array Slot), xWd (dC, dI) A s.heap H locs (wK cI cZ cB cO k_ad k_p k_n k_inOrder k_starts k_firsts k_reached k_reachedAt k_reachedCount) → lv_has ls 4 [(0, .ref k_ad), (1, .int v1), (2, .int z.1), (3, .int z.2)] → W p l e R s m args below meth c H locs 0 0 Q (F0 m 4 ls [])) (fun (z : Int32) => ∀ (H : Heap) (locs : List Loc) (ls : Array Slot), xWd (dC, dI) A s.heap H locs (wK cI cZ cB cO k_ad k_p k_n k_inOrder k_starts k_firsts k_reached k_reachedAt k_reachedCount) → lv_has ls 4 [(2, .int z)] → W p l e R s m args below meth c H locs 0 0 Q (F0 m 28 ls [])) ?_ hr ?_ _ _ _ hw (lv_sub hl [2, 3, 1, 0] rfl)
  · rintro ⟨v2_1, v3_2⟩ o h k H locs ls hw hl
    have hw : xWd (dC, dI) A s.heap H locs (wK cI cZ cB cO k_ad k_p k_n k_inOrder k_starts k_firsts k_reached k_reachedAt k_reachedCount) := hw
    have hl : lv_has ls 4 [(0, .ref k_ad), (1, .int v1), (2, .int v2_1), (3, .int v3_2)] := hl
    refine lv_iload_n hx hb dX0_turnRound_4 rfl (lv_at hl 3 rfl) ?_
    refine lv_aload_n hx hb dX0_turnRound_5 rfl (lv_at hl 0 rfl) ?_
    refine x_get (ci := 0) C hw inX0 rfl 0 (by decide) lkF_X0_9 rfl 0 rfl rfl dX0_turnRound_6 ?_
    refine lv_icmp_ge (tgt := 28) hx hb dX0_turnRound_9 (by decide) (fun b1 => ?_) (fun b1 => ?_)
    · replace h := xb_tt b1 h
      obtain rfl := Option.some.inj h
      exact k _ _ _ hw (lv_sub hl [2] rfl)
    · replace h := xb_ff b1 h
      refine lv_iload_n hx hb dX0_turnRound_12 rfl (lv_at hl 2 rfl) ?_
      refine lv_iconst (v := (1 : Int32)) hx hb dX0_turnRound_13 (by decide) ?_
      refine lv_ishl hx hb dX0_turnRound_14 ?_
      refine lv_iload_n hx hb dX0_turnRound_15 rfl (lv_at hl 1 rfl) ?_
      refine lv_iload_n hx hb dX0_turnRound_16 rfl (lv_at hl 3 rfl) ?_
      refine lv_ishr hx hb dX0_turnRound_17 ?_
      refine lv_iconst (v := (1 : Int32)) hx hb dX0_turnRound_18 (by decide) ?_
      refine lv_iand hx hb dX0_turnRound_19 ?_
      refine lv_ior hx hb dX0_turnRound_20 ?_
      refine lv_istore_n (lv' := [(2, .int ((v2_1 <<< ((1 : Int32) &&& 31)) ||| ((v1 >>> (v3_2 &&& 31)) &&& (1 : Int32)))), (0, .ref k_ad), (1, .int v1), (3, .int v3_2)]) hx hb dX0_turnRound_21 rfl hl (by decide) rfl (fun ls hl => ?_)
      refine lv_iinc (v := (v3_2 + (1 : Int32))) (lv' := [(3, .int (v3_2 + (1 : Int32))), (2, .int ((v2_1 <<< ((1 : Int32) &&& 31)) ||| ((v1 >>> (v3_2 &&& 31)) &&& (1 : Int32)))), (0, .ref k_ad), (1, .int v1)]) hx hb dX0_turnRound_22 hl (k := 3) rfl (congrArg (fun q => v3_2 + q) (by decide)) (by decide) rfl (fun ls hl => ?_)
      refine lv_goto (tgt := 4) hx hb dX0_turnRound_25 (by decide) ?_
      obtain rfl := Option.some.inj h
      exact k _ _ _ hw (lv_sub hl [2, 3, 1, 0] rfl)
  · obtain ⟨v2_3, hz⟩ : ∃ q, q = z := ⟨z, rfl⟩
    subst hz
    intro H locs ls hw hl
    have hw : xWd (dC, dI) A s.heap H locs (wK cI cZ cB cO k_ad k_p k_n k_inOrder k_starts k_firsts k_reached k_reachedAt k_reachedCount) := hw
    have hl : lv_has ls 4 [(2, .int v2_3)] := hl
    refine lv_iload_n hx hb dX0_turnRound_28 rfl (lv_at hl 0 rfl) ?_
    obtain rfl := Option.some.inj h
    exact x_reti C hQ hA hw dX0_turnRound_29
noncomputable def f_X0_arrange_L2 (v2_4 : Int32) (k_n : Int32) (z : (Nat → Int32) × Int32 × Int32) : Option (((Nat → Int32) × Int32 × Int32) ⊕ ((Nat → Int32) × Int32)) := match z with
  | (k_inOrder_8, v1_9, v3_10) => xb (v3_10 < 0) (some (.inr (k_inOrder_8, v1_9))) (xn (f_J6_bitCount_0f7a4 v3_10) (fun (r_13 : Int32) => xb (r_13 = v2_4) (xn (f_X0_turnRound k_n v3_10) (fun (r_14 : Int32) => xk (vp_in v1_9 256) (some (.inl ((upd k_inOrder_8 v1_9.toNatClampNeg r_14), (v1_9 + (1 : Int32)), (v3_10 + (-1 : Int32))))))) (some (.inl (k_inOrder_8, v1_9, (v3_10 + (-1 : Int32)))))))
noncomputable def f_X0_arrange_L1 (k_n : Int32) (z : (Nat → Int32) × (Nat → Int32) × Int32 × Int32) : Option (((Nat → Int32) × (Nat → Int32) × Int32 × Int32) ⊕ ((Nat → Int32) × (Nat → Int32) × Int32)) := match z with
  | (k_inOrder_1, k_starts_2, v1_3, v2_4) => xb (k_n < v2_4) (some (.inr (k_inOrder_1, k_starts_2, v1_3))) (xk (vp_in v2_4 10) (xn (xL (f_X0_arrange_L2 v2_4 k_n) (k_inOrder_1, v1_3, (((1 : Int32) <<< (k_n &&& 31)) - (1 : Int32)))) (fun (z : (Nat → Int32) × Int32) => match z with | (k_inOrder_11, v1_12) => some (.inl (k_inOrder_11, (upd k_starts_2 v2_4.toNatClampNeg v1_3), v1_12, (v2_4 + (1 : Int32)))))))
noncomputable def f_X0_arrange (k_n : Int32) (k_inOrder : (Nat → Int32)) (k_starts : (Nat → Int32)) : Option ((Nat → Int32) × (Nat → Int32)) := xn (xL (f_X0_arrange_L1 k_n) (k_inOrder, k_starts, (0 : Int32), (0 : Int32))) (fun (z : (Nat → Int32) × (Nat → Int32) × Int32) => match z with | (k_inOrder_5, k_starts_6, v1_7) => xk (vp_in (k_n + (1 : Int32)) 10) (some (k_inOrder_5, (upd k_starts_6 (k_n + (1 : Int32)).toNatClampNeg v1_7))))
set_option maxHeartbeats 4000000 in
set_option maxRecDepth 100000 in
theorem c_X0_arrange (l : Launch) (dC : Nat → ClassId) (dI : Nat → Nat → Nat) (cI cZ cB cO : ClassId) (k_ad : Nat) (k_p : Nat → Nat) (k_n : Int32) (k_inOrder : (Nat → Int32)) (k_starts : (Nat → Int32)) (k_firsts : (Nat → Int32)) (k_reached : (Nat → Int32)) (k_reachedAt : (Nat → Int32)) (k_reachedCount : Int32) (o : (Nat → Int32) × (Nat → Int32)) (h : f_X0_arrange k_n k_inOrder k_starts = some o) (sz : Nat) : Met l yX0_arrange (xW yX0_arrange cX0_arrange 4 none) { frames := 1, cells := 0, slots := 0, locals := 23 } (xPre dC dI (xT cI cZ cB cO) [.ref k_ad] (wK cI cZ cB cO k_ad k_p k_n k_inOrder k_starts k_firsts k_reached k_reachedAt k_reachedCount) sz) (xQv dC dI (xT cI cZ cB cO) (wK cI cZ cB cO k_ad k_p k_n k_inOrder k_starts k_firsts k_reached k_reachedAt k_reachedCount) (wK cI cZ cB cO k_ad k_p k_n o.1 o.2 k_firsts k_reached k_reachedAt k_reachedCount) sz) 0 0 (va_A (wK cI cZ cB cO k_ad k_p k_n k_inOrder k_starts k_firsts k_reached k_reachedAt k_reachedCount) sz) := by
  refine x_met (by decide) (Nat.le_of_ble_eq_true rfl) ?_
  intro p e s m args below meth c R Q A hR hsz hA hQ hin C hw ls hl
  have hx := C.1
  have hb := C.2.1
  have hown := C.2.2.2.1
  have htb := C.2.2.2.2.1
  have hl : lv_has ls 4 [(0, .ref k_ad)] := hl
  refine lv_iconst (v := (0 : Int32)) hx hb dX0_arrange_0 (by decide) ?_
  refine lv_istore_n (lv' := [(1, .int (0 : Int32)), (0, .ref k_ad)]) hx hb dX0_arrange_1 rfl hl (by decide) rfl (fun ls hl => ?_)
  refine lv_iconst (v := (0 : Int32)) hx hb dX0_arrange_2 (by decide) ?_
  refine lv_istore_n (lv' := [(2, .int (0 : Int32)), (1, .int (0 : Int32)), (0, .ref k_ad)]) hx hb dX0_arrange_3 rfl hl (by decide) rfl (fun ls hl => ?_)
  obtain ⟨z, hr, h⟩ := xn_i h
  refine xL_w (fun (z : (Nat → Int32) × (Nat → Int32) × Int32 × Int32) => ∀ (H : Heap) (locs : List Loc) (ls : Array Slot), xWd (dC, dI) A s.heap H locs (wK cI cZ cB cO k_ad k_p k_n z.1 z.2.1 k_firsts k_reached k_reachedAt k_reachedCount) → lv_has ls 4 [(0, .ref k_ad), (1, .int z.2.2.1), (2, .int z.2.2.2)] → W p l e R s m args below meth c H locs 0 0 Q (F0 m 4 ls [])) (fun (z : (Nat → Int32) × (Nat → Int32) × Int32) => ∀ (H : Heap) (locs : List Loc) (ls : Array Slot), xWd (dC, dI) A s.heap H locs (wK cI cZ cB cO k_ad k_p k_n z.1 z.2.1 k_firsts k_reached k_reachedAt k_reachedCount) → lv_has ls 4 [(0, .ref k_ad), (1, .int z.2.2)] → W p l e R s m args below meth c H locs 0 0 Q (F0 m 66 ls [])) ?_ hr ?_ _ _ _ hw (lv_sub hl [2, 1, 0] rfl)
  · rintro ⟨k_inOrder_1, k_starts_2, v1_3, v2_4⟩ o h k H locs ls hw hl
    have hw : xWd (dC, dI) A s.heap H locs (wK cI cZ cB cO k_ad k_p k_n k_inOrder_1 k_starts_2 k_firsts k_reached k_reachedAt k_reachedCount) := hw
    have hl : lv_has ls 4 [(0, .ref k_ad), (1, .int v1_3), (2, .int v2_4)] := hl
    refine lv_iload_n hx hb dX0_arrange_4 rfl (lv_at hl 2 rfl) ?_
    refine lv_aload_n hx hb dX0_arrange_5 rfl (lv_at hl 0 rfl) ?_
    refine x_get (ci := 0) C hw inX0 rfl 0 (by decide) lkF_X0_9 rfl 0 rfl rfl dX0_arrange_6 ?_
    refine lv_icmp_gt (tgt := 66) hx hb dX0_arrange_9 (by decide) (fun b1 => ?_) (fun b1 => ?_)
    · replace h := xb_tt b1 h
      obtain rfl := Option.some.inj h
      exact k _ _ _ hw (lv_sub hl [0, 1] rfl)
    · replace h := xb_ff b1 h
      refine lv_aload_n hx hb dX0_arrange_12 rfl (lv_at hl 0 rfl) ?_
      refine x_get (ci := 0) C hw inX0 rfl 2 (by decide) lkF_X0_19 rfl 0 rfl rfl dX0_arrange_13 ?_
      refine lv_iload_n hx hb dX0_arrange_16 rfl (lv_at hl 2 rfl) ?_
      refine lv_iload_n hx hb dX0_arrange_17 rfl (lv_at hl 1 rfl) ?_
      obtain ⟨b2, h⟩ := xk_i h
      refine x_iast C hw 2 0 rfl rfl b2 dX0_arrange_18 (fun H locs hw => ?_)
      have hw : xWd (dC, dI) A s.heap H locs (wK cI cZ cB cO k_ad k_p k_n k_inOrder_1 (upd k_starts_2 v2_4.toNatClampNeg v1_3) k_firsts k_reached k_reachedAt k_reachedCount) := hw
      refine lv_iconst (v := (1 : Int32)) hx hb dX0_arrange_19 (by decide) ?_
      refine lv_aload_n hx hb dX0_arrange_20 rfl (lv_at hl 0 rfl) ?_
      refine x_get (ci := 0) C hw inX0 rfl 0 (by decide) lkF_X0_9 rfl 0 rfl rfl dX0_arrange_21 ?_
      refine lv_ishl hx hb dX0_arrange_24 ?_
      refine lv_iconst (v := (1 : Int32)) hx hb dX0_arrange_25 (by decide) ?_
      refine lv_isub hx hb dX0_arrange_26 ?_
      refine lv_istore_n (lv' := [(3, .int (((1 : Int32) <<< (k_n &&& 31)) - (1 : Int32))), (0, .ref k_ad), (1, .int v1_3), (2, .int v2_4)]) hx hb dX0_arrange_27 rfl hl (by decide) rfl (fun ls hl => ?_)
      obtain ⟨z, hr, h⟩ := xn_i h
      refine xL_w (fun (z : (Nat → Int32) × Int32 × Int32) => ∀ (H : Heap) (locs : List Loc) (ls : Array Slot), xWd (dC, dI) A s.heap H locs (wK cI cZ cB cO k_ad k_p k_n z.1 (upd k_starts_2 v2_4.toNatClampNeg v1_3) k_firsts k_reached k_reachedAt k_reachedCount) → lv_has ls 4 [(0, .ref k_ad), (1, .int z.2.1), (2, .int v2_4), (3, .int z.2.2)] → W p l e R s m args below meth c H locs 0 0 Q (F0 m 28 ls [])) (fun (z : (Nat → Int32) × Int32) => ∀ (H : Heap) (locs : List Loc) (ls : Array Slot), xWd (dC, dI) A s.heap H locs (wK cI cZ cB cO k_ad k_p k_n z.1 (upd k_starts_2 v2_4.toNatClampNeg v1_3) k_firsts k_reached k_reachedAt k_reachedCount) → lv_has ls 4 [(0, .ref k_ad), (1, .int z.2), (2, .int v2_4)] → W p l e R s m args below meth c H locs 0 0 Q (F0 m 60 ls [])) ?_ hr ?_ _ _ _ hw (lv_sub hl [1, 2, 3, 0] rfl)
      · rintro ⟨k_inOrder_8, v1_9, v3_10⟩ o h k H locs ls hw hl
        have hw : xWd (dC, dI) A s.heap H locs (wK cI cZ cB cO k_ad k_p k_n k_inOrder_8 (upd k_starts_2 v2_4.toNatClampNeg v1_3) k_firsts k_reached k_reachedAt k_reachedCount) := hw
        have hl : lv_has ls 4 [(0, .ref k_ad), (1, .int v1_9), (2, .int v2_4), (3, .int v3_10)] := hl
        refine lv_iload_n hx hb dX0_arrange_28 rfl (lv_at hl 3 rfl) ?_
        refine lv_if_lt (tgt := 60) hx hb dX0_arrange_29 (by decide) (fun b3 => ?_) (fun b3 => ?_)
        · replace h := xb_tt b3 h
          obtain rfl := Option.some.inj h
          exact k _ _ _ hw (lv_sub hl [0, 1, 2] rfl)
        · replace h := xb_ff b3 h
          refine lv_iload_n hx hb dX0_arrange_32 rfl (lv_at hl 3 rfl) ?_
          obtain ⟨r_13, q4, h⟩ := xn_i h
          refine x_callSi (As := [.int v3_10]) (rest := []) C hw gc_X0_47 ds_J6_bitCount_0f7a4 (by rw [hR]; exact Nat.le_of_ble_eq_true rfl) (by rw [hR]; exact Nat.le_of_ble_eq_true rfl) rfl rfl (Nat.zero_le _) (Nat.zero_le _) (c_J6_bitCount_0f7a4 l dC dI cI cZ cB cO v3_10 _ q4 _) [] [0, 1, 2, 3, 4, 5] (by decide) rfl rfl (by decide) (by decide) rfl hl.1 rfl (Nat.le_of_ble_eq_true rfl) dX0_arrange_33 (fun H locs hw => ?_)
          have hw : xWd (dC, dI) A s.heap H locs (wK cI cZ cB cO k_ad k_p k_n k_inOrder_8 (upd k_starts_2 v2_4.toNatClampNeg v1_3) k_firsts k_reached k_reachedAt k_reachedCount) := hw.sub [0, 1, 2, 3, 4, 5] (by decide) rfl
          refine lv_iload_n hx hb dX0_arrange_36 rfl (lv_at hl 2 rfl) ?_
          refine lv_icmp_ne (tgt := 54) hx hb dX0_arrange_37 (by decide) (fun b5 => ?_) (fun b5 => ?_)
          · replace h := xb_ff b5 h
            refine lv_iinc (v := (v3_10 + (-1 : Int32))) (lv' := [(3, .int (v3_10 + (-1 : Int32))), (0, .ref k_ad), (1, .int v1_9), (2, .int v2_4)]) hx hb dX0_arrange_54 hl (k := 3) rfl (congrArg (fun q => v3_10 + q) (by decide)) (by decide) rfl (fun ls hl => ?_)
            refine lv_goto (tgt := 28) hx hb dX0_arrange_57 (by decide) ?_
            obtain rfl := Option.some.inj h
            exact k _ _ _ hw (lv_sub hl [1, 2, 3, 0] rfl)
          · replace h := xb_tt b5 h
            refine lv_aload_n hx hb dX0_arrange_40 rfl (lv_at hl 0 rfl) ?_
            refine x_get (ci := 0) C hw inX0 rfl 1 (by decide) lkF_X0_15 rfl 0 rfl rfl dX0_arrange_41 ?_
            refine lv_iload_n hx hb dX0_arrange_44 rfl (lv_at hl 1 rfl) ?_
            refine lv_aload_n hx hb dX0_arrange_45 rfl (lv_at hl 0 rfl) ?_
            refine lv_iload_n hx hb dX0_arrange_46 rfl (lv_at hl 3 rfl) ?_
            obtain ⟨r_14, q6, h⟩ := xn_i h
            refine x_callVi (As := [.int v3_10]) (rest := [.int v1_9, .ref (k_p 1)]) C hw gc_X0_53 ⟨rfl, rfl, ds_X0_turnRound, (by rw [hR]; exact Nat.le_of_ble_eq_true rfl), (by rw [hR]; exact Nat.le_of_ble_eq_true rfl), Nat.zero_le _, Nat.zero_le _⟩ (c_X0_turnRound l dC dI cI cZ cB cO k_ad k_p k_n k_inOrder_8 (upd k_starts_2 v2_4.toNatClampNeg v1_3) k_firsts k_reached k_reachedAt k_reachedCount v3_10 _ q6 _) [0, 1, 2, 3, 4, 5] [] (by decide) rfl rfl (by decide) (by decide) rfl rfl rfl hl.1 rfl (Nat.le_of_ble_eq_true rfl) dX0_arrange_47 (fun H locs hw => ?_)
            have hw : xWd (dC, dI) A s.heap H locs (wK cI cZ cB cO k_ad k_p k_n k_inOrder_8 (upd k_starts_2 v2_4.toNatClampNeg v1_3) k_firsts k_reached k_reachedAt k_reachedCount) := hw
            obtain ⟨b7, h⟩ := xk_i h
            refine x_iast C hw 1 0 rfl rfl b7 dX0_arrange_50 (fun H locs hw => ?_)
            have hw : xWd (dC, dI) A s.heap H locs (wK cI cZ cB cO k_ad k_p k_n (upd k_inOrder_8 v1_9.toNatClampNeg r_14) (upd k_starts_2 v2_4.toNatClampNeg v1_3) k_firsts k_reached k_reachedAt k_reachedCount) := hw
            refine lv_iinc (v := (v1_9 + (1 : Int32))) (lv' := [(1, .int (v1_9 + (1 : Int32))), (0, .ref k_ad), (2, .int v2_4), (3, .int v3_10)]) hx hb dX0_arrange_51 hl (k := 1) rfl (congrArg (fun q => v1_9 + q) (by decide)) (by decide) rfl (fun ls hl => ?_)
            refine lv_iinc (v := (v3_10 + (-1 : Int32))) (lv' := [(3, .int (v3_10 + (-1 : Int32))), (1, .int (v1_9 + (1 : Int32))), (0, .ref k_ad), (2, .int v2_4)]) hx hb dX0_arrange_54 hl (k := 3) rfl (congrArg (fun q => v3_10 + q) (by decide)) (by decide) rfl (fun ls hl => ?_)
            refine lv_goto (tgt := 28) hx hb dX0_arrange_57 (by decide) ?_
            obtain rfl := Option.some.inj h
            exact k _ _ _ hw (lv_sub hl [2, 1, 3, 0] rfl)
      · obtain ⟨k_inOrder_11, v1_12⟩ := z
        intro H locs ls hw hl
        have hw : xWd (dC, dI) A s.heap H locs (wK cI cZ cB cO k_ad k_p k_n k_inOrder_11 (upd k_starts_2 v2_4.toNatClampNeg v1_3) k_firsts k_reached k_reachedAt k_reachedCount) := hw
        have hl : lv_has ls 4 [(0, .ref k_ad), (1, .int v1_12), (2, .int v2_4)] := hl
        refine lv_iinc (v := (v2_4 + (1 : Int32))) (lv' := [(2, .int (v2_4 + (1 : Int32))), (0, .ref k_ad), (1, .int v1_12)]) hx hb dX0_arrange_60 hl (k := 2) rfl (congrArg (fun q => v2_4 + q) (by decide)) (by decide) rfl (fun ls hl => ?_)
        refine lv_goto (tgt := 4) hx hb dX0_arrange_63 (by decide) ?_
        obtain rfl := Option.some.inj h
        exact k _ _ _ hw (lv_sub hl [1, 2, 0] rfl)
  · obtain ⟨k_inOrder_5, k_starts_6, v1_7⟩ := z
    intro H locs ls hw hl
    have hw : xWd (dC, dI) A s.heap H locs (wK cI cZ cB cO k_ad k_p k_n k_inOrder_5 k_starts_6 k_firsts k_reached k_reachedAt k_reachedCount) := hw
    have hl : lv_has ls 4 [(0, .ref k_ad), (1, .int v1_7)] := hl
    refine lv_aload_n hx hb dX0_arrange_66 rfl (lv_at hl 0 rfl) ?_
    refine x_get (ci := 0) C hw inX0 rfl 2 (by decide) lkF_X0_19 rfl 0 rfl rfl dX0_arrange_67 ?_
    refine lv_aload_n hx hb dX0_arrange_70 rfl (lv_at hl 0 rfl) ?_
    refine x_get (ci := 0) C hw inX0 rfl 0 (by decide) lkF_X0_9 rfl 0 rfl rfl dX0_arrange_71 ?_
    refine lv_iconst (v := (1 : Int32)) hx hb dX0_arrange_74 (by decide) ?_
    refine lv_iadd hx hb dX0_arrange_75 ?_
    refine lv_iload_n hx hb dX0_arrange_76 rfl (lv_at hl 1 rfl) ?_
    obtain ⟨b8, h⟩ := xk_i h
    refine x_iast C hw 2 0 rfl rfl b8 dX0_arrange_77 (fun H locs hw => ?_)
    have hw : xWd (dC, dI) A s.heap H locs (wK cI cZ cB cO k_ad k_p k_n k_inOrder_5 (upd k_starts_6 (k_n + (1 : Int32)).toNatClampNeg v1_7) k_firsts k_reached k_reachedAt k_reachedCount) := hw
    obtain rfl := Option.some.inj h
    exact x_retv C hQ hA hw dX0_arrange_78
noncomputable def f_X0_reach (k_reached : (Nat → Int32)) (k_reachedAt : (Nat → Int32)) (k_reachedCount : Int32) (v1 : Int32) (v2 : Int32) : Option ((Nat → Int32) × (Nat → Int32) × Int32) := xk (vp_in v1 256) (xb ((k_reachedAt v1.toNatClampNeg) = (-1 : Int32)) (xb ((256 : Int32) ≤ k_reachedCount) (some (k_reached, k_reachedAt, k_reachedCount)) (xk (vp_in k_reachedCount 256) (some ((upd k_reached k_reachedCount.toNatClampNeg v1), (upd k_reachedAt v1.toNatClampNeg v2), (k_reachedCount + (1 : Int32)))))) (some (k_reached, k_reachedAt, k_reachedCount)))
set_option maxHeartbeats 4000000 in
set_option maxRecDepth 100000 in
theorem c_X0_reach (l : Launch) (dC : Nat → ClassId) (dI : Nat → Nat → Nat) (cI cZ cB cO : ClassId) (k_ad : Nat) (k_p : Nat → Nat) (k_n : Int32) (k_inOrder : (Nat → Int32)) (k_starts : (Nat → Int32)) (k_firsts : (Nat → Int32)) (k_reached : (Nat → Int32)) (k_reachedAt : (Nat → Int32)) (k_reachedCount : Int32) (v1 : Int32) (v2 : Int32) (o : (Nat → Int32) × (Nat → Int32) × Int32) (h : f_X0_reach k_reached k_reachedAt k_reachedCount v1 v2 = some o) (sz : Nat) : Met l yX0_reach (xW yX0_reach cX0_reach 3 none) { frames := 0, cells := 0, slots := 0, locals := 0 } (xPre dC dI (xT cI cZ cB cO) [.ref k_ad, .int v1, .int v2] (wK cI cZ cB cO k_ad k_p k_n k_inOrder k_starts k_firsts k_reached k_reachedAt k_reachedCount) sz) (xQv dC dI (xT cI cZ cB cO) (wK cI cZ cB cO k_ad k_p k_n k_inOrder k_starts k_firsts k_reached k_reachedAt k_reachedCount) (wK cI cZ cB cO k_ad k_p k_n k_inOrder k_starts k_firsts o.1 o.2.1 o.2.2) sz) 0 0 (va_A (wK cI cZ cB cO k_ad k_p k_n k_inOrder k_starts k_firsts k_reached k_reachedAt k_reachedCount) sz) := by
  refine x_met (by decide) (Nat.le_of_ble_eq_true rfl) ?_
  intro p e s m args below meth c R Q A hR hsz hA hQ hin C hw ls hl
  have hx := C.1
  have hb := C.2.1
  have hown := C.2.2.2.1
  have htb := C.2.2.2.2.1
  have hl : lv_has ls 3 [(0, .ref k_ad), (1, .int v1), (2, .int v2)] := hl
  refine lv_aload_n hx hb dX0_reach_0 rfl (lv_at hl 0 rfl) ?_
  refine x_get (ci := 0) C hw inX0 rfl 5 (by decide) lkF_X0_28 rfl 0 rfl rfl dX0_reach_1 ?_
  refine lv_iload_n hx hb dX0_reach_4 rfl (lv_at hl 1 rfl) ?_
  obtain ⟨b1, h⟩ := xk_i h
  refine x_iald C hw 5 0 rfl rfl b1 dX0_reach_5 ?_
  refine lv_iconst (v := (-1 : Int32)) hx hb dX0_reach_6 (by decide) ?_
  refine lv_icmp_ne (tgt := 47) hx hb dX0_reach_7 (by decide) (fun b2 => ?_) (fun b2 => ?_)
  · replace h := xb_ff b2 h
    obtain rfl := Option.some.inj h
    exact x_retv C hQ hA hw dX0_reach_47
  · replace h := xb_tt b2 h
    refine lv_aload_n hx hb dX0_reach_10 rfl (lv_at hl 0 rfl) ?_
    refine x_get (ci := 0) C hw inX0 rfl 6 (by decide) lkF_X0_31 rfl 0 rfl rfl dX0_reach_11 ?_
    refine lv_sipush (v := (256 : Int32)) hx hb dX0_reach_14 (by decide) ?_
    refine lv_icmp_ge (tgt := 47) hx hb dX0_reach_17 (by decide) (fun b3 => ?_) (fun b3 => ?_)
    · replace h := xb_tt b3 h
      obtain rfl := Option.some.inj h
      exact x_retv C hQ hA hw dX0_reach_47
    · replace h := xb_ff b3 h
      refine lv_aload_n hx hb dX0_reach_20 rfl (lv_at hl 0 rfl) ?_
      refine x_get (ci := 0) C hw inX0 rfl 5 (by decide) lkF_X0_28 rfl 0 rfl rfl dX0_reach_21 ?_
      refine lv_iload_n hx hb dX0_reach_24 rfl (lv_at hl 1 rfl) ?_
      refine lv_iload_n hx hb dX0_reach_25 rfl (lv_at hl 2 rfl) ?_
      refine x_iast C hw 5 0 rfl rfl b1 dX0_reach_26 (fun H locs hw => ?_)
      have hw : xWd (dC, dI) A s.heap H locs (wK cI cZ cB cO k_ad k_p k_n k_inOrder k_starts k_firsts k_reached (upd k_reachedAt v1.toNatClampNeg v2) k_reachedCount) := hw
      refine lv_aload_n hx hb dX0_reach_27 rfl (lv_at hl 0 rfl) ?_
      refine x_get (ci := 0) C hw inX0 rfl 4 (by decide) lkF_X0_25 rfl 0 rfl rfl dX0_reach_28 ?_
      refine lv_aload_n hx hb dX0_reach_31 rfl (lv_at hl 0 rfl) ?_
      refine x_get (ci := 0) C hw inX0 rfl 6 (by decide) lkF_X0_31 rfl 0 rfl rfl dX0_reach_32 ?_
      refine lv_iload_n hx hb dX0_reach_35 rfl (lv_at hl 1 rfl) ?_
      obtain ⟨b4, h⟩ := xk_i h
      refine x_iast C hw 4 0 rfl rfl b4 dX0_reach_36 (fun H locs hw => ?_)
      have hw : xWd (dC, dI) A s.heap H locs (wK cI cZ cB cO k_ad k_p k_n k_inOrder k_starts k_firsts (upd k_reached k_reachedCount.toNatClampNeg v1) (upd k_reachedAt v1.toNatClampNeg v2) k_reachedCount) := hw
      refine lv_aload_n hx hb dX0_reach_37 rfl (lv_at hl 0 rfl) ?_
      refine lv_dup hx hb dX0_reach_38 rfl ?_
      refine x_get (ci := 0) C hw inX0 rfl 6 (by decide) lkF_X0_31 rfl 0 rfl rfl dX0_reach_39 ?_
      refine lv_iconst (v := (1 : Int32)) hx hb dX0_reach_42 (by decide) ?_
      refine lv_iadd hx hb dX0_reach_43 ?_
      refine x_put (ci := 0) C hw inX0 tyX0 tyX0_ok nmX0 rfl 6 (by decide) lkF_X0_31 rfl rfl 0 rfl rfl rfl (Nat.le_of_ble_eq_true rfl) dX0_reach_44 (fun H locs hw => ?_)
      have hw : xWd (dC, dI) A s.heap H locs (wK cI cZ cB cO k_ad k_p k_n k_inOrder k_starts k_firsts (upd k_reached k_reachedCount.toNatClampNeg v1) (upd k_reachedAt v1.toNatClampNeg v2) (k_reachedCount + (1 : Int32))) := hw
      obtain rfl := Option.some.inj h
      exact x_retv C hQ hA hw dX0_reach_47
noncomputable def f_X0_spreadBy_L1 (v3 : Int32) (v1 : Int32) (v2 : Int32) (z : (Nat → Int32) × (Nat → Int32) × Int32 × Int32) : Option (((Nat → Int32) × (Nat → Int32) × Int32 × Int32) ⊕ ((Nat → Int32) × (Nat → Int32) × Int32)) := match z with
  | (k_reached_1, k_reachedAt_2, k_reachedCount_3, v4_4) => xb (v3 ≤ v4_4) (some (.inr (k_reached_1, k_reachedAt_2, k_reachedCount_3))) (xk (vp_in v4_4 256) (xn (f_X2_carry (k_reached_1 v4_4.toNatClampNeg) v1) (fun (r_8 : Int32) => xn (f_X0_reach k_reached_1 k_reachedAt_2 k_reachedCount_3 r_8 v2) (fun (z : (Nat → Int32) × (Nat → Int32) × Int32) => match z with | (k_reached_9, k_reachedAt_10, k_reachedCount_11) => some (.inl (k_reached_9, k_reachedAt_10, k_reachedCount_11, (v4_4 + (1 : Int32))))))))
noncomputable def f_X0_spreadBy (k_reached : (Nat → Int32)) (k_reachedAt : (Nat → Int32)) (k_reachedCount : Int32) (v1 : Int32) (v2 : Int32) (v3 : Int32) : Option ((Nat → Int32) × (Nat → Int32) × Int32) := xn (xL (f_X0_spreadBy_L1 v3 v1 v2) (k_reached, k_reachedAt, k_reachedCount, (0 : Int32))) (fun (z : (Nat → Int32) × (Nat → Int32) × Int32) => match z with | (k_reached_5, k_reachedAt_6, k_reachedCount_7) => some (k_reached_5, k_reachedAt_6, k_reachedCount_7))
set_option maxHeartbeats 4000000 in
set_option maxRecDepth 100000 in
theorem c_X0_spreadBy (l : Launch) (dC : Nat → ClassId) (dI : Nat → Nat → Nat) (cI cZ cB cO : ClassId) (k_ad : Nat) (k_p : Nat → Nat) (k_n : Int32) (k_inOrder : (Nat → Int32)) (k_starts : (Nat → Int32)) (k_firsts : (Nat → Int32)) (k_reached : (Nat → Int32)) (k_reachedAt : (Nat → Int32)) (k_reachedCount : Int32) (v1 : Int32) (v2 : Int32) (v3 : Int32) (o : (Nat → Int32) × (Nat → Int32) × Int32) (h : f_X0_spreadBy k_reached k_reachedAt k_reachedCount v1 v2 v3 = some o) (sz : Nat) : Met l yX0_spreadBy (xW yX0_spreadBy cX0_spreadBy 5 none) { frames := 1, cells := 0, slots := 0, locals := 24 } (xPre dC dI (xT cI cZ cB cO) [.ref k_ad, .int v1, .int v2, .int v3] (wK cI cZ cB cO k_ad k_p k_n k_inOrder k_starts k_firsts k_reached k_reachedAt k_reachedCount) sz) (xQv dC dI (xT cI cZ cB cO) (wK cI cZ cB cO k_ad k_p k_n k_inOrder k_starts k_firsts k_reached k_reachedAt k_reachedCount) (wK cI cZ cB cO k_ad k_p k_n k_inOrder k_starts k_firsts o.1 o.2.1 o.2.2) sz) 0 0 (va_A (wK cI cZ cB cO k_ad k_p k_n k_inOrder k_starts k_firsts k_reached k_reachedAt k_reachedCount) sz) := by
  refine x_met (by decide) (Nat.le_of_ble_eq_true rfl) ?_
  intro p e s m args below meth c R Q A hR hsz hA hQ hin C hw ls hl
  have hx := C.1
  have hb := C.2.1
  have hown := C.2.2.2.1
  have htb := C.2.2.2.2.1
  have hl : lv_has ls 5 [(0, .ref k_ad), (1, .int v1), (2, .int v2), (3, .int v3)] := hl
  refine lv_iconst (v := (0 : Int32)) hx hb dX0_spreadBy_0 (by decide) ?_
  refine lv_istore (lv' := [(4, .int (0 : Int32)), (0, .ref k_ad), (1, .int v1), (2, .int v2), (3, .int v3)]) hx hb dX0_spreadBy_1 hl (by decide) rfl (fun ls hl => ?_)
  obtain ⟨z, hr, h⟩ := xn_i h
  refine xL_w (fun (z : (Nat → Int32) × (Nat → Int32) × Int32 × Int32) => ∀ (H : Heap) (locs : List Loc) (ls : Array Slot), xWd (dC, dI) A s.heap H locs (wK cI cZ cB cO k_ad k_p k_n k_inOrder k_starts k_firsts z.1 z.2.1 z.2.2.1) → lv_has ls 5 [(0, .ref k_ad), (1, .int v1), (2, .int v2), (3, .int v3), (4, .int z.2.2.2)] → W p l e R s m args below meth c H locs 0 0 Q (F0 m 3 ls [])) (fun (z : (Nat → Int32) × (Nat → Int32) × Int32) => ∀ (H : Heap) (locs : List Loc) (ls : Array Slot), xWd (dC, dI) A s.heap H locs (wK cI cZ cB cO k_ad k_p k_n k_inOrder k_starts k_firsts z.1 z.2.1 z.2.2) → lv_has ls 5 [] → W p l e R s m args below meth c H locs 0 0 Q (F0 m 31 ls [])) ?_ hr ?_ _ _ _ hw (lv_sub hl [1, 2, 3, 4, 0] rfl)
  · rintro ⟨k_reached_1, k_reachedAt_2, k_reachedCount_3, v4_4⟩ o h k H locs ls hw hl
    have hw : xWd (dC, dI) A s.heap H locs (wK cI cZ cB cO k_ad k_p k_n k_inOrder k_starts k_firsts k_reached_1 k_reachedAt_2 k_reachedCount_3) := hw
    have hl : lv_has ls 5 [(0, .ref k_ad), (1, .int v1), (2, .int v2), (3, .int v3), (4, .int v4_4)] := hl
    refine lv_iload hx hb dX0_spreadBy_3 (lv_at hl 4 rfl) ?_
    refine lv_iload_n hx hb dX0_spreadBy_5 rfl (lv_at hl 3 rfl) ?_
    refine lv_icmp_ge (tgt := 31) hx hb dX0_spreadBy_6 (by decide) (fun b1 => ?_) (fun b1 => ?_)
    · replace h := xb_tt b1 h
      obtain rfl := Option.some.inj h
      exact k _ _ _ hw (lv_sub hl [] rfl)
    · replace h := xb_ff b1 h
      refine lv_aload_n hx hb dX0_spreadBy_9 rfl (lv_at hl 0 rfl) ?_
      refine lv_aload_n hx hb dX0_spreadBy_10 rfl (lv_at hl 0 rfl) ?_
      refine x_get (ci := 0) C hw inX0 rfl 4 (by decide) lkF_X0_25 rfl 0 rfl rfl dX0_spreadBy_11 ?_
      refine lv_iload hx hb dX0_spreadBy_14 (lv_at hl 4 rfl) ?_
      obtain ⟨b2, h⟩ := xk_i h
      refine x_iald C hw 4 0 rfl rfl b2 dX0_spreadBy_16 ?_
      refine lv_iload_n hx hb dX0_spreadBy_17 rfl (lv_at hl 1 rfl) ?_
      obtain ⟨r_8, q3, h⟩ := xn_i h
      refine x_callSi (As := [.int (k_reached_1 v4_4.toNatClampNeg), .int v1]) (rest := [.ref k_ad]) C hw gc_X0_73 ds_X2_carry (by rw [hR]; exact Nat.le_of_ble_eq_true rfl) (by rw [hR]; exact Nat.le_of_ble_eq_true rfl) rfl rfl (Nat.zero_le _) (Nat.zero_le _) (c_X2_carry l dC dI cI cZ cB cO (k_reached_1 v4_4.toNatClampNeg) v1 _ q3 _) [] [0, 1, 2, 3, 4, 5] (by decide) rfl rfl (by decide) (by decide) rfl hl.1 rfl (Nat.le_of_ble_eq_true rfl) dX0_spreadBy_18 (fun H locs hw => ?_)
      have hw : xWd (dC, dI) A s.heap H locs (wK cI cZ cB cO k_ad k_p k_n k_inOrder k_starts k_firsts k_reached_1 k_reachedAt_2 k_reachedCount_3) := hw.sub [0, 1, 2, 3, 4, 5] (by decide) rfl
      refine lv_iload_n hx hb dX0_spreadBy_21 rfl (lv_at hl 2 rfl) ?_
      obtain ⟨⟨k_reached_9, k_reachedAt_10, k_reachedCount_11⟩, q4, h⟩ := xn_i h
      refine x_callVv (As := [.int r_8, .int v2]) (rest := []) C hw gc_X0_56 ⟨rfl, rfl, ds_X0_reach, (by rw [hR]; exact Nat.le_of_ble_eq_true rfl), (by rw [hR]; exact Nat.le_of_ble_eq_true rfl), Nat.zero_le _, Nat.zero_le _⟩ (c_X0_reach l dC dI cI cZ cB cO k_ad k_p k_n k_inOrder k_starts k_firsts k_reached_1 k_reachedAt_2 k_reachedCount_3 r_8 v2 _ q4 _) [0, 1, 2, 3, 4, 5] [] (by decide) rfl rfl (by decide) (by decide) rfl rfl rfl hl.1 rfl (Nat.le_of_ble_eq_true rfl) dX0_spreadBy_22 (fun H locs hw => ?_)
      have hw : xWd (dC, dI) A s.heap H locs (wK cI cZ cB cO k_ad k_p k_n k_inOrder k_starts k_firsts k_reached_9 k_reachedAt_10 k_reachedCount_11) := hw
      refine lv_iinc (v := (v4_4 + (1 : Int32))) (lv' := [(4, .int (v4_4 + (1 : Int32))), (0, .ref k_ad), (1, .int v1), (2, .int v2), (3, .int v3)]) hx hb dX0_spreadBy_25 hl (k := 4) rfl (congrArg (fun q => v4_4 + q) (by decide)) (by decide) rfl (fun ls hl => ?_)
      refine lv_goto (tgt := 3) hx hb dX0_spreadBy_28 (by decide) ?_
      obtain rfl := Option.some.inj h
      exact k _ _ _ hw (lv_sub hl [1, 2, 3, 4, 0] rfl)
  · obtain ⟨k_reached_5, k_reachedAt_6, k_reachedCount_7⟩ := z
    intro H locs ls hw hl
    have hw : xWd (dC, dI) A s.heap H locs (wK cI cZ cB cO k_ad k_p k_n k_inOrder k_starts k_firsts k_reached_5 k_reachedAt_6 k_reachedCount_7) := hw
    have hl : lv_has ls 5 [] := hl
    obtain rfl := Option.some.inj h
    exact x_retv C hQ hA hw dX0_spreadBy_31
noncomputable def f_X0_spread_L3 (k_n : Int32) (r_14 : Int32) (v3_10 : Int32) (e_steps : (Nat → Int32)) (k_reachedCount_9 : Int32) (z : (Nat → Int32) × (Nat → Int32) × Int32 × Int32) : Option (((Nat → Int32) × (Nat → Int32) × Int32 × Int32) ⊕ ((Nat → Int32) × (Nat → Int32) × Int32)) := match z with
  | (k_reached_15, k_reachedAt_16, k_reachedCount_17, v6_18) => xb (k_n ≤ v6_18) (some (.inr (k_reached_15, k_reachedAt_16, k_reachedCount_17))) (xb ((r_14 &&& (((1 : Int32) <<< (v3_10 &&& 31)) ^^^ (-1 : Int32))) = 0) (some (.inr (k_reached_15, k_reachedAt_16, k_reachedCount_17))) (xb ((((r_14 &&& (((1 : Int32) <<< (v3_10 &&& 31)) ^^^ (-1 : Int32))) >>> (v6_18 &&& 31)) &&& (1 : Int32)) = 0) (some (.inl (k_reached_15, k_reachedAt_16, k_reachedCount_17, (v6_18 + (1 : Int32))))) (xn (f_X1_step e_steps v3_10 v6_18) (fun (r_22 : Int32) => xn (f_X0_spreadBy k_reached_15 k_reachedAt_16 k_reachedCount_17 r_22 v3_10 k_reachedCount_9) (fun (z : (Nat → Int32) × (Nat → Int32) × Int32) => match z with | (k_reached_23, k_reachedAt_24, k_reachedCount_25) => some (.inl (k_reached_23, k_reachedAt_24, k_reachedCount_25, (v6_18 + (1 : Int32)))))))))
noncomputable def f_X0_spread_L2 (e_chains : (Nat → Int32)) (k_n : Int32) (e_steps : (Nat → Int32)) (z : (Nat → Int32) × (Nat → Int32) × Int32 × Int32) : Option (((Nat → Int32) × (Nat → Int32) × Int32 × Int32) ⊕ ((Nat → Int32) × (Nat → Int32) × Int32)) := match z with
  | (k_reached_7, k_reachedAt_8, k_reachedCount_9, v3_10) => xb (v3_10 < 0) (some (.inr (k_reached_7, k_reachedAt_8, k_reachedCount_9))) (xn (f_X1_chain e_chains v3_10) (fun (r_14 : Int32) => xn (xL (f_X0_spread_L3 k_n r_14 v3_10 e_steps k_reachedCount_9) (k_reached_7, k_reachedAt_8, k_reachedCount_9, (v3_10 + (1 : Int32)))) (fun (z : (Nat → Int32) × (Nat → Int32) × Int32) => match z with | (k_reached_19, k_reachedAt_20, k_reachedCount_21) => some (.inl (k_reached_19, k_reachedAt_20, k_reachedCount_21, (v3_10 + (-1 : Int32)))))))
noncomputable def f_X0_spread_L1 (k_reachedCount : Int32) (k_reached : (Nat → Int32)) (z : (Nat → Int32) × Int32) : Option (((Nat → Int32) × Int32) ⊕ ((Nat → Int32))) := match z with
  | (k_reachedAt_1, v3_2) => xb (k_reachedCount ≤ v3_2) (some (.inr k_reachedAt_1)) (xk (vp_in v3_2 256) (xk (vp_in (k_reached v3_2.toNatClampNeg) 256) (some (.inl ((upd k_reachedAt_1 (k_reached v3_2.toNatClampNeg).toNatClampNeg (-1 : Int32)), (v3_2 + (1 : Int32)))))))
noncomputable def f_X0_spread (k_n : Int32) (k_reached : (Nat → Int32)) (k_reachedAt : (Nat → Int32)) (k_reachedCount : Int32) (e_steps : (Nat → Int32)) (e_chains : (Nat → Int32)) (v2 : Int32) : Option ((Nat → Int32) × (Nat → Int32) × Int32) := xn (xL (f_X0_spread_L1 k_reachedCount k_reached) (k_reachedAt, (0 : Int32))) (fun (k_reachedAt_3 : (Nat → Int32)) => xn (f_X0_reach k_reached k_reachedAt_3 (0 : Int32) v2 k_n) (fun (z : (Nat → Int32) × (Nat → Int32) × Int32) => match z with | (k_reached_4, k_reachedAt_5, k_reachedCount_6) => xn (xL (f_X0_spread_L2 e_chains k_n e_steps) (k_reached_4, k_reachedAt_5, k_reachedCount_6, (k_n - (1 : Int32)))) (fun (z : (Nat → Int32) × (Nat → Int32) × Int32) => match z with | (k_reached_11, k_reachedAt_12, k_reachedCount_13) => some (k_reached_11, k_reachedAt_12, k_reachedCount_13))))
set_option maxHeartbeats 4000000 in
set_option maxRecDepth 100000 in
theorem c_X0_spread (l : Launch) (dC : Nat → ClassId) (dI : Nat → Nat → Nat) (cI cZ cB cO : ClassId) (k_ad : Nat) (k_p : Nat → Nat) (e_ad : Nat) (e_p : Nat → Nat) (k_n : Int32) (k_inOrder : (Nat → Int32)) (k_starts : (Nat → Int32)) (k_firsts : (Nat → Int32)) (k_reached : (Nat → Int32)) (k_reachedAt : (Nat → Int32)) (k_reachedCount : Int32) (e_n : Int32) (e_steps : (Nat → Int32)) (e_undoing : (Nat → Int32)) (e_chains : (Nat → Int32)) (e_leaving : (Nat → Int32)) (e_found : (Nat → Int32)) (e_foundAt : (Nat → Int32)) (e_foundCount : Int32) (v2 : Int32) (o : (Nat → Int32) × (Nat → Int32) × Int32) (h : f_X0_spread k_n k_reached k_reachedAt k_reachedCount e_steps e_chains v2 = some o) (sz : Nat) : Met l yX0_spread (xW yX0_spread cX0_spread 7 none) { frames := 2, cells := 0, slots := 0, locals := 48 } (xPre dC dI (xT cI cZ cB cO) [.ref k_ad, .ref e_ad, .int v2] ((wK cI cZ cB cO k_ad k_p k_n k_inOrder k_starts k_firsts k_reached k_reachedAt k_reachedCount) ++ (wE cI cZ cB cO e_ad e_p e_n e_steps e_undoing e_chains e_leaving e_found e_foundAt e_foundCount)) sz) (xQv dC dI (xT cI cZ cB cO) ((wK cI cZ cB cO k_ad k_p k_n k_inOrder k_starts k_firsts k_reached k_reachedAt k_reachedCount) ++ (wE cI cZ cB cO e_ad e_p e_n e_steps e_undoing e_chains e_leaving e_found e_foundAt e_foundCount)) ((wK cI cZ cB cO k_ad k_p k_n k_inOrder k_starts k_firsts o.1 o.2.1 o.2.2) ++ (wE cI cZ cB cO e_ad e_p e_n e_steps e_undoing e_chains e_leaving e_found e_foundAt e_foundCount)) sz) 0 0 (va_A ((wK cI cZ cB cO k_ad k_p k_n k_inOrder k_starts k_firsts k_reached k_reachedAt k_reachedCount) ++ (wE cI cZ cB cO e_ad e_p e_n e_steps e_undoing e_chains e_leaving e_found e_foundAt e_foundCount)) sz) := by
  refine x_met (by decide) (Nat.le_of_ble_eq_true rfl) ?_
  intro p e s m args below meth c R Q A hR hsz hA hQ hin C hw ls hl
  have hx := C.1
  have hb := C.2.1
  have hown := C.2.2.2.1
  have htb := C.2.2.2.2.1
  have hl : lv_has ls 7 [(0, .ref k_ad), (1, .ref e_ad), (2, .int v2)] := hl
  refine lv_iconst (v := (0 : Int32)) hx hb dX0_spread_0 (by decide) ?_
  refine lv_istore_n (lv' := [(3, .int (0 : Int32)), (0, .ref k_ad), (1, .ref e_ad), (2, .int v2)]) hx hb dX0_spread_1 rfl hl (by decide) rfl (fun ls hl => ?_)
  obtain ⟨z, hr, h⟩ := xn_i h
  refine xL_w (fun (z : (Nat → Int32) × Int32) => ∀ (H : Heap) (locs : List Loc) (ls : Array Slot), xWd (dC, dI) A s.heap H locs ((wK cI cZ cB cO k_ad k_p k_n k_inOrder k_starts k_firsts k_reached z.1 k_reachedCount) ++ (wE cI cZ cB cO e_ad e_p e_n e_steps e_undoing e_chains e_leaving e_found e_foundAt e_foundCount)) → lv_has ls 7 [(0, .ref k_ad), (1, .ref e_ad), (2, .int v2), (3, .int z.2)] → W p l e R s m args below meth c H locs 0 0 Q (F0 m 2 ls [])) (fun (z : (Nat → Int32)) => ∀ (H : Heap) (locs : List Loc) (ls : Array Slot), xWd (dC, dI) A s.heap H locs ((wK cI cZ cB cO k_ad k_p k_n k_inOrder k_starts k_firsts k_reached z k_reachedCount) ++ (wE cI cZ cB cO e_ad e_p e_n e_steps e_undoing e_chains e_leaving e_found e_foundAt e_foundCount)) → lv_has ls 7 [(0, .ref k_ad), (1, .ref e_ad), (2, .int v2)] → W p l e R s m args below meth c H locs 0 0 Q (F0 m 28 ls [])) ?_ hr ?_ _ _ _ hw (lv_sub hl [1, 2, 3, 0] rfl)
  · rintro ⟨k_reachedAt_1, v3_2⟩ o h k H locs ls hw hl
    have hw : xWd (dC, dI) A s.heap H locs ((wK cI cZ cB cO k_ad k_p k_n k_inOrder k_starts k_firsts k_reached k_reachedAt_1 k_reachedCount) ++ (wE cI cZ cB cO e_ad e_p e_n e_steps e_undoing e_chains e_leaving e_found e_foundAt e_foundCount)) := hw
    have hl : lv_has ls 7 [(0, .ref k_ad), (1, .ref e_ad), (2, .int v2), (3, .int v3_2)] := hl
    refine lv_iload_n hx hb dX0_spread_2 rfl (lv_at hl 3 rfl) ?_
    refine lv_aload_n hx hb dX0_spread_3 rfl (lv_at hl 0 rfl) ?_
    refine x_get (ci := 0) C hw inX0 rfl 6 (by decide) lkF_X0_31 rfl 0 rfl rfl dX0_spread_4 ?_
    refine lv_icmp_ge (tgt := 28) hx hb dX0_spread_7 (by decide) (fun b1 => ?_) (fun b1 => ?_)
    · replace h := xb_tt b1 h
      obtain rfl := Option.some.inj h
      exact k _ _ _ hw (lv_sub hl [0, 1, 2] rfl)
    · replace h := xb_ff b1 h
      refine lv_aload_n hx hb dX0_spread_10 rfl (lv_at hl 0 rfl) ?_
      refine x_get (ci := 0) C hw inX0 rfl 5 (by decide) lkF_X0_28 rfl 0 rfl rfl dX0_spread_11 ?_
      refine lv_aload_n hx hb dX0_spread_14 rfl (lv_at hl 0 rfl) ?_
      refine x_get (ci := 0) C hw inX0 rfl 4 (by decide) lkF_X0_25 rfl 0 rfl rfl dX0_spread_15 ?_
      refine lv_iload_n hx hb dX0_spread_18 rfl (lv_at hl 3 rfl) ?_
      obtain ⟨b2, h⟩ := xk_i h
      refine x_iald C hw 4 0 rfl rfl b2 dX0_spread_19 ?_
      refine lv_iconst (v := (-1 : Int32)) hx hb dX0_spread_20 (by decide) ?_
      obtain ⟨b3, h⟩ := xk_i h
      refine x_iast C hw 5 0 rfl rfl b3 dX0_spread_21 (fun H locs hw => ?_)
      have hw : xWd (dC, dI) A s.heap H locs ((wK cI cZ cB cO k_ad k_p k_n k_inOrder k_starts k_firsts k_reached (upd k_reachedAt_1 (k_reached v3_2.toNatClampNeg).toNatClampNeg (-1 : Int32)) k_reachedCount) ++ (wE cI cZ cB cO e_ad e_p e_n e_steps e_undoing e_chains e_leaving e_found e_foundAt e_foundCount)) := hw
      refine lv_iinc (v := (v3_2 + (1 : Int32))) (lv' := [(3, .int (v3_2 + (1 : Int32))), (0, .ref k_ad), (1, .ref e_ad), (2, .int v2)]) hx hb dX0_spread_22 hl (k := 3) rfl (congrArg (fun q => v3_2 + q) (by decide)) (by decide) rfl (fun ls hl => ?_)
      refine lv_goto (tgt := 2) hx hb dX0_spread_25 (by decide) ?_
      obtain rfl := Option.some.inj h
      exact k _ _ _ hw (lv_sub hl [1, 2, 3, 0] rfl)
  · obtain ⟨k_reachedAt_3, hz⟩ : ∃ q, q = z := ⟨z, rfl⟩
    subst hz
    intro H locs ls hw hl
    have hw : xWd (dC, dI) A s.heap H locs ((wK cI cZ cB cO k_ad k_p k_n k_inOrder k_starts k_firsts k_reached k_reachedAt_3 k_reachedCount) ++ (wE cI cZ cB cO e_ad e_p e_n e_steps e_undoing e_chains e_leaving e_found e_foundAt e_foundCount)) := hw
    have hl : lv_has ls 7 [(0, .ref k_ad), (1, .ref e_ad), (2, .int v2)] := hl
    refine lv_aload_n hx hb dX0_spread_28 rfl (lv_at hl 0 rfl) ?_
    refine lv_iconst (v := (0 : Int32)) hx hb dX0_spread_29 (by decide) ?_
    refine x_put (ci := 0) C hw inX0 tyX0 tyX0_ok nmX0 rfl 6 (by decide) lkF_X0_31 rfl rfl 0 rfl rfl rfl (Nat.le_of_ble_eq_true rfl) dX0_spread_30 (fun H locs hw => ?_)
    have hw : xWd (dC, dI) A s.heap H locs ((wK cI cZ cB cO k_ad k_p k_n k_inOrder k_starts k_firsts k_reached k_reachedAt_3 (0 : Int32)) ++ (wE cI cZ cB cO e_ad e_p e_n e_steps e_undoing e_chains e_leaving e_found e_foundAt e_foundCount)) := hw
    refine lv_aload_n hx hb dX0_spread_33 rfl (lv_at hl 0 rfl) ?_
    refine lv_iload_n hx hb dX0_spread_34 rfl (lv_at hl 2 rfl) ?_
    refine lv_aload_n hx hb dX0_spread_35 rfl (lv_at hl 0 rfl) ?_
    refine x_get (ci := 0) C hw inX0 rfl 0 (by decide) lkF_X0_9 rfl 0 rfl rfl dX0_spread_36 ?_
    obtain ⟨⟨k_reached_4, k_reachedAt_5, k_reachedCount_6⟩, q4, h⟩ := xn_i h
    refine x_callVv (As := [.int v2, .int k_n]) (rest := []) C hw gc_X0_56 ⟨rfl, rfl, ds_X0_reach, (by rw [hR]; exact Nat.le_of_ble_eq_true rfl), (by rw [hR]; exact Nat.le_of_ble_eq_true rfl), Nat.zero_le _, Nat.zero_le _⟩ (c_X0_reach l dC dI cI cZ cB cO k_ad k_p k_n k_inOrder k_starts k_firsts k_reached k_reachedAt_3 (0 : Int32) v2 k_n _ q4 _) [0, 1, 2, 3, 4, 5] [6, 7, 8, 9, 10, 11, 12] (by decide) rfl rfl (by decide) (by decide) rfl rfl rfl hl.1 rfl (Nat.le_of_ble_eq_true rfl) dX0_spread_39 (fun H locs hw => ?_)
    have hw : xWd (dC, dI) A s.heap H locs ((wK cI cZ cB cO k_ad k_p k_n k_inOrder k_starts k_firsts k_reached_4 k_reachedAt_5 k_reachedCount_6) ++ (wE cI cZ cB cO e_ad e_p e_n e_steps e_undoing e_chains e_leaving e_found e_foundAt e_foundCount)) := hw.sub [7, 8, 9, 10, 11, 12, 0, 1, 2, 3, 4, 5, 6] (by decide) rfl
    refine lv_aload_n hx hb dX0_spread_42 rfl (lv_at hl 0 rfl) ?_
    refine x_get (ci := 0) C hw inX0 rfl 0 (by decide) lkF_X0_9 rfl 0 rfl rfl dX0_spread_43 ?_
    refine lv_iconst (v := (1 : Int32)) hx hb dX0_spread_46 (by decide) ?_
    refine lv_isub hx hb dX0_spread_47 ?_
    refine lv_istore_n (lv' := [(3, .int (k_n - (1 : Int32))), (0, .ref k_ad), (1, .ref e_ad), (2, .int v2)]) hx hb dX0_spread_48 rfl hl (by decide) rfl (fun ls hl => ?_)
    obtain ⟨z, hr, h⟩ := xn_i h
    refine xL_w (fun (z : (Nat → Int32) × (Nat → Int32) × Int32 × Int32) => ∀ (H : Heap) (locs : List Loc) (ls : Array Slot), xWd (dC, dI) A s.heap H locs ((wK cI cZ cB cO k_ad k_p k_n k_inOrder k_starts k_firsts z.1 z.2.1 z.2.2.1) ++ (wE cI cZ cB cO e_ad e_p e_n e_steps e_undoing e_chains e_leaving e_found e_foundAt e_foundCount)) → lv_has ls 7 [(0, .ref k_ad), (1, .ref e_ad), (3, .int z.2.2.2)] → W p l e R s m args below meth c H locs 0 0 Q (F0 m 49 ls [])) (fun (z : (Nat → Int32) × (Nat → Int32) × Int32) => ∀ (H : Heap) (locs : List Loc) (ls : Array Slot), xWd (dC, dI) A s.heap H locs ((wK cI cZ cB cO k_ad k_p k_n k_inOrder k_starts k_firsts z.1 z.2.1 z.2.2) ++ (wE cI cZ cB cO e_ad e_p e_n e_steps e_undoing e_chains e_leaving e_found e_foundAt e_foundCount)) → lv_has ls 7 [] → W p l e R s m args below meth c H locs 0 0 Q (F0 m 127 ls [])) ?_ hr ?_ _ _ _ hw (lv_sub hl [1, 2, 0] rfl)
    · rintro ⟨k_reached_7, k_reachedAt_8, k_reachedCount_9, v3_10⟩ o h k H locs ls hw hl
      have hw : xWd (dC, dI) A s.heap H locs ((wK cI cZ cB cO k_ad k_p k_n k_inOrder k_starts k_firsts k_reached_7 k_reachedAt_8 k_reachedCount_9) ++ (wE cI cZ cB cO e_ad e_p e_n e_steps e_undoing e_chains e_leaving e_found e_foundAt e_foundCount)) := hw
      have hl : lv_has ls 7 [(0, .ref k_ad), (1, .ref e_ad), (3, .int v3_10)] := hl
      refine lv_iload_n hx hb dX0_spread_49 rfl (lv_at hl 2 rfl) ?_
      refine lv_if_lt (tgt := 127) hx hb dX0_spread_50 (by decide) (fun b5 => ?_) (fun b5 => ?_)
      · replace h := xb_tt b5 h
        obtain rfl := Option.some.inj h
        exact k _ _ _ hw (lv_sub hl [] rfl)
      · replace h := xb_ff b5 h
        refine lv_aload_n hx hb dX0_spread_53 rfl (lv_at hl 0 rfl) ?_
        refine x_get (ci := 0) C hw inX0 rfl 6 (by decide) lkF_X0_31 rfl 0 rfl rfl dX0_spread_54 ?_
        refine lv_istore (lv' := [(4, .int k_reachedCount_9), (0, .ref k_ad), (1, .ref e_ad), (3, .int v3_10)]) hx hb dX0_spread_57 hl (by decide) rfl (fun ls hl => ?_)
        refine lv_aload_n hx hb dX0_spread_59 rfl (lv_at hl 2 rfl) ?_
        refine lv_iload_n hx hb dX0_spread_60 rfl (lv_at hl 3 rfl) ?_
        obtain ⟨r_14, q6, h⟩ := xn_i h
        refine x_callVi (As := [.int v3_10]) (rest := []) C hw gc_X0_60 ⟨rfl, rfl, ds_X1_chain, (by rw [hR]; exact Nat.le_of_ble_eq_true rfl), (by rw [hR]; exact Nat.le_of_ble_eq_true rfl), Nat.zero_le _, Nat.zero_le _⟩ (c_X1_chain l dC dI cI cZ cB cO e_ad e_p e_n e_steps e_undoing e_chains e_leaving e_found e_foundAt e_foundCount v3_10 _ q6 _) [6, 7, 8, 9, 10, 11, 12] [0, 1, 2, 3, 4, 5] (by decide) rfl rfl (by decide) (by decide) rfl rfl rfl hl.1 rfl (Nat.le_of_ble_eq_true rfl) dX0_spread_61 (fun H locs hw => ?_)
        have hw : xWd (dC, dI) A s.heap H locs ((wK cI cZ cB cO k_ad k_p k_n k_inOrder k_starts k_firsts k_reached_7 k_reachedAt_8 k_reachedCount_9) ++ (wE cI cZ cB cO e_ad e_p e_n e_steps e_undoing e_chains e_leaving e_found e_foundAt e_foundCount)) := hw
        refine lv_iconst (v := (1 : Int32)) hx hb dX0_spread_64 (by decide) ?_
        refine lv_iload_n hx hb dX0_spread_65 rfl (lv_at hl 3 rfl) ?_
        refine lv_ishl hx hb dX0_spread_66 ?_
        refine lv_iconst (v := (-1 : Int32)) hx hb dX0_spread_67 (by decide) ?_
        refine lv_ixor hx hb dX0_spread_68 ?_
        refine lv_iand hx hb dX0_spread_69 ?_
        refine lv_istore (lv' := [(5, .int (r_14 &&& (((1 : Int32) <<< (v3_10 &&& 31)) ^^^ (-1 : Int32)))), (4, .int k_reachedCount_9), (0, .ref k_ad), (1, .ref e_ad), (3, .int v3_10)]) hx hb dX0_spread_70 hl (by decide) rfl (fun ls hl => ?_)
        refine lv_iload_n hx hb dX0_spread_72 rfl (lv_at hl 4 rfl) ?_
        refine lv_iconst (v := (1 : Int32)) hx hb dX0_spread_73 (by decide) ?_
        refine lv_iadd hx hb dX0_spread_74 ?_
        refine lv_istore (lv' := [(6, .int (v3_10 + (1 : Int32))), (5, .int (r_14 &&& (((1 : Int32) <<< (v3_10 &&& 31)) ^^^ (-1 : Int32)))), (4, .int k_reachedCount_9), (0, .ref k_ad), (1, .ref e_ad), (3, .int v3_10)]) hx hb dX0_spread_75 hl (by decide) rfl (fun ls hl => ?_)
        obtain ⟨z, hr, h⟩ := xn_i h
        refine xL_w (fun (z : (Nat → Int32) × (Nat → Int32) × Int32 × Int32) => ∀ (H : Heap) (locs : List Loc) (ls : Array Slot), xWd (dC, dI) A s.heap H locs ((wK cI cZ cB cO k_ad k_p k_n k_inOrder k_starts k_firsts z.1 z.2.1 z.2.2.1) ++ (wE cI cZ cB cO e_ad e_p e_n e_steps e_undoing e_chains e_leaving e_found e_foundAt e_foundCount)) → lv_has ls 7 [(0, .ref k_ad), (1, .ref e_ad), (3, .int v3_10), (4, .int k_reachedCount_9), (5, .int (r_14 &&& (((1 : Int32) <<< (v3_10 &&& 31)) ^^^ (-1 : Int32)))), (6, .int z.2.2.2)] → W p l e R s m args below meth c H locs 0 0 Q (F0 m 77 ls [])) (fun (z : (Nat → Int32) × (Nat → Int32) × Int32) => ∀ (H : Heap) (locs : List Loc) (ls : Array Slot), xWd (dC, dI) A s.heap H locs ((wK cI cZ cB cO k_ad k_p k_n k_inOrder k_starts k_firsts z.1 z.2.1 z.2.2) ++ (wE cI cZ cB cO e_ad e_p e_n e_steps e_undoing e_chains e_leaving e_found e_foundAt e_foundCount)) → lv_has ls 7 [(0, .ref k_ad), (1, .ref e_ad), (3, .int v3_10)] → W p l e R s m args below meth c H locs 0 0 Q (F0 m 121 ls [])) ?_ hr ?_ _ _ _ hw (lv_sub hl [3, 4, 5, 2, 1, 0] rfl)
        · rintro ⟨k_reached_15, k_reachedAt_16, k_reachedCount_17, v6_18⟩ o h k H locs ls hw hl
          have hw : xWd (dC, dI) A s.heap H locs ((wK cI cZ cB cO k_ad k_p k_n k_inOrder k_starts k_firsts k_reached_15 k_reachedAt_16 k_reachedCount_17) ++ (wE cI cZ cB cO e_ad e_p e_n e_steps e_undoing e_chains e_leaving e_found e_foundAt e_foundCount)) := hw
          have hl : lv_has ls 7 [(0, .ref k_ad), (1, .ref e_ad), (3, .int v3_10), (4, .int k_reachedCount_9), (5, .int (r_14 &&& (((1 : Int32) <<< (v3_10 &&& 31)) ^^^ (-1 : Int32)))), (6, .int v6_18)] := hl
          refine lv_iload hx hb dX0_spread_77 (lv_at hl 5 rfl) ?_
          refine lv_aload_n hx hb dX0_spread_79 rfl (lv_at hl 0 rfl) ?_
          refine x_get (ci := 0) C hw inX0 rfl 0 (by decide) lkF_X0_9 rfl 0 rfl rfl dX0_spread_80 ?_
          refine lv_icmp_ge (tgt := 121) hx hb dX0_spread_83 (by decide) (fun b7 => ?_) (fun b7 => ?_)
          · replace h := xb_tt b7 h
            obtain rfl := Option.some.inj h
            exact k _ _ _ hw (lv_sub hl [0, 1, 2] rfl)
          · replace h := xb_ff b7 h
            refine lv_iload hx hb dX0_spread_86 (lv_at hl 4 rfl) ?_
            refine lv_if_eq (tgt := 121) hx hb dX0_spread_88 (by decide) (fun b8 => ?_) (fun b8 => ?_)
            · replace h := xb_tt b8 h
              obtain rfl := Option.some.inj h
              exact k _ _ _ hw (lv_sub hl [0, 1, 2] rfl)
            · replace h := xb_ff b8 h
              refine lv_iload hx hb dX0_spread_91 (lv_at hl 4 rfl) ?_
              refine lv_iload hx hb dX0_spread_93 (lv_at hl 5 rfl) ?_
              refine lv_ishr hx hb dX0_spread_95 ?_
              refine lv_iconst (v := (1 : Int32)) hx hb dX0_spread_96 (by decide) ?_
              refine lv_iand hx hb dX0_spread_97 ?_
              refine lv_if_eq (tgt := 115) hx hb dX0_spread_98 (by decide) (fun b9 => ?_) (fun b9 => ?_)
              · replace h := xb_tt b9 h
                refine lv_iinc (v := (v6_18 + (1 : Int32))) (lv' := [(6, .int (v6_18 + (1 : Int32))), (0, .ref k_ad), (1, .ref e_ad), (3, .int v3_10), (4, .int k_reachedCount_9), (5, .int (r_14 &&& (((1 : Int32) <<< (v3_10 &&& 31)) ^^^ (-1 : Int32))))]) hx hb dX0_spread_115 hl (k := 5) rfl (congrArg (fun q => v6_18 + q) (by decide)) (by decide) rfl (fun ls hl => ?_)
                refine lv_goto (tgt := 77) hx hb dX0_spread_118 (by decide) ?_
                obtain rfl := Option.some.inj h
                exact k _ _ _ hw (lv_sub hl [1, 2, 3, 4, 5, 0] rfl)
              · replace h := xb_ff b9 h
                refine lv_aload_n hx hb dX0_spread_101 rfl (lv_at hl 0 rfl) ?_
                refine lv_aload_n hx hb dX0_spread_102 rfl (lv_at hl 1 rfl) ?_
                refine lv_iload_n hx hb dX0_spread_103 rfl (lv_at hl 2 rfl) ?_
                refine lv_iload hx hb dX0_spread_104 (lv_at hl 5 rfl) ?_
                obtain ⟨r_22, q10, h⟩ := xn_i h
                refine x_callVi (As := [.int v3_10, .int v6_18]) (rest := [.ref k_ad]) C hw gc_X0_65 ⟨rfl, rfl, ds_X1_step, (by rw [hR]; exact Nat.le_of_ble_eq_true rfl), (by rw [hR]; exact Nat.le_of_ble_eq_true rfl), Nat.zero_le _, Nat.zero_le _⟩ (c_X1_step l dC dI cI cZ cB cO e_ad e_p e_n e_steps e_undoing e_chains e_leaving e_found e_foundAt e_foundCount v3_10 v6_18 _ q10 _) [6, 7, 8, 9, 10, 11, 12] [0, 1, 2, 3, 4, 5] (by decide) rfl rfl (by decide) (by decide) rfl rfl rfl hl.1 rfl (Nat.le_of_ble_eq_true rfl) dX0_spread_106 (fun H locs hw => ?_)
                have hw : xWd (dC, dI) A s.heap H locs ((wK cI cZ cB cO k_ad k_p k_n k_inOrder k_starts k_firsts k_reached_15 k_reachedAt_16 k_reachedCount_17) ++ (wE cI cZ cB cO e_ad e_p e_n e_steps e_undoing e_chains e_leaving e_found e_foundAt e_foundCount)) := hw
                refine lv_iload_n hx hb dX0_spread_109 rfl (lv_at hl 2 rfl) ?_
                refine lv_iload hx hb dX0_spread_110 (lv_at hl 3 rfl) ?_
                obtain ⟨⟨k_reached_23, k_reachedAt_24, k_reachedCount_25⟩, q11, h⟩ := xn_i h
                refine x_callVv (As := [.int r_22, .int v3_10, .int k_reachedCount_9]) (rest := []) C hw gc_X0_69 ⟨rfl, rfl, ds_X0_spreadBy, (by rw [hR]; exact Nat.le_of_ble_eq_true rfl), (by rw [hR]; exact Nat.le_of_ble_eq_true rfl), Nat.zero_le _, Nat.zero_le _⟩ (c_X0_spreadBy l dC dI cI cZ cB cO k_ad k_p k_n k_inOrder k_starts k_firsts k_reached_15 k_reachedAt_16 k_reachedCount_17 r_22 v3_10 k_reachedCount_9 _ q11 _) [0, 1, 2, 3, 4, 5] [6, 7, 8, 9, 10, 11, 12] (by decide) rfl rfl (by decide) (by decide) rfl rfl rfl hl.1 rfl (Nat.le_of_ble_eq_true rfl) dX0_spread_112 (fun H locs hw => ?_)
                have hw : xWd (dC, dI) A s.heap H locs ((wK cI cZ cB cO k_ad k_p k_n k_inOrder k_starts k_firsts k_reached_23 k_reachedAt_24 k_reachedCount_25) ++ (wE cI cZ cB cO e_ad e_p e_n e_steps e_undoing e_chains e_leaving e_found e_foundAt e_foundCount)) := hw.sub [7, 8, 9, 10, 11, 12, 0, 1, 2, 3, 4, 5, 6] (by decide) rfl
                refine lv_iinc (v := (v6_18 + (1 : Int32))) (lv' := [(6, .int (v6_18 + (1 : Int32))), (0, .ref k_ad), (1, .ref e_ad), (3, .int v3_10), (4, .int k_reachedCount_9), (5, .int (r_14 &&& (((1 : Int32) <<< (v3_10 &&& 31)) ^^^ (-1 : Int32))))]) hx hb dX0_spread_115 hl (k := 5) rfl (congrArg (fun q => v6_18 + q) (by decide)) (by decide) rfl (fun ls hl => ?_)
                refine lv_goto (tgt := 77) hx hb dX0_spread_118 (by decide) ?_
                obtain rfl := Option.some.inj h
                exact k _ _ _ hw (lv_sub hl [1, 2, 3, 4, 5, 0] rfl)
        · obtain ⟨k_reached_19, k_reachedAt_20, k_reachedCount_21⟩ := z
          intro H locs ls hw hl
          have hw : xWd (dC, dI) A s.heap H locs ((wK cI cZ cB cO k_ad k_p k_n k_inOrder k_starts k_firsts k_reached_19 k_reachedAt_20 k_reachedCount_21) ++ (wE cI cZ cB cO e_ad e_p e_n e_steps e_undoing e_chains e_leaving e_found e_foundAt e_foundCount)) := hw
          have hl : lv_has ls 7 [(0, .ref k_ad), (1, .ref e_ad), (3, .int v3_10)] := hl
          refine lv_iinc (v := (v3_10 + (-1 : Int32))) (lv' := [(3, .int (v3_10 + (-1 : Int32))), (0, .ref k_ad), (1, .ref e_ad)]) hx hb dX0_spread_121 hl (k := 2) rfl (congrArg (fun q => v3_10 + q) (by decide)) (by decide) rfl (fun ls hl => ?_)
          refine lv_goto (tgt := 49) hx hb dX0_spread_124 (by decide) ?_
          obtain rfl := Option.some.inj h
          exact k _ _ _ hw (lv_sub hl [1, 2, 0] rfl)
    · obtain ⟨k_reached_11, k_reachedAt_12, k_reachedCount_13⟩ := z
      intro H locs ls hw hl
      have hw : xWd (dC, dI) A s.heap H locs ((wK cI cZ cB cO k_ad k_p k_n k_inOrder k_starts k_firsts k_reached_11 k_reachedAt_12 k_reachedCount_13) ++ (wE cI cZ cB cO e_ad e_p e_n e_steps e_undoing e_chains e_leaving e_found e_foundAt e_foundCount)) := hw
      have hl : lv_has ls 7 [] := hl
      obtain rfl := Option.some.inj h
      exact x_retv C hQ hA hw dX0_spread_127
noncomputable def f_X0_make_L2 (k_reachedCount_18 : Int32) (k_reached_16 : (Nat → Int32)) (k_inOrder_2 : (Nat → Int32)) (v3_11 : Int32) (z : (Nat → Int32) × Int32) : Option (((Nat → Int32) × Int32) ⊕ ((Nat → Int32))) := match z with
  | (k_firsts_19, v5_20) => xb (k_reachedCount_18 ≤ v5_20) (some (.inr k_firsts_19)) (xk (vp_in v5_20 256) (xk (vp_in (k_reached_16 v5_20.toNatClampNeg) 256) (some (.inl ((upd k_firsts_19 (k_reached_16 v5_20.toNatClampNeg).toNatClampNeg (k_inOrder_2 v3_11.toNatClampNeg)), (v5_20 + (1 : Int32)))))))
noncomputable def f_X0_make_L1 (k_n_1 : Int32) (k_inOrder_2 : (Nat → Int32)) (e_steps : (Nat → Int32)) (e_chains : (Nat → Int32)) (z : (Nat → Int32) × (Nat → Int32) × (Nat → Int32) × Int32 × Int32) : Option (((Nat → Int32) × (Nat → Int32) × (Nat → Int32) × Int32 × Int32) ⊕ ((Nat → Int32) × (Nat → Int32) × (Nat → Int32) × Int32)) := match z with
  | (k_firsts_7, k_reached_8, k_reachedAt_9, k_reachedCount_10, v3_11) => xb (((1 : Int32) <<< (k_n_1 &&& 31)) ≤ v3_11) (some (.inr (k_firsts_7, k_reached_8, k_reachedAt_9, k_reachedCount_10))) (xk (vp_in v3_11 256) (xk (vp_in (k_inOrder_2 v3_11.toNatClampNeg) 256) (xb ((k_firsts_7 (k_inOrder_2 v3_11.toNatClampNeg).toNatClampNeg) = (-1 : Int32)) (xn (f_X0_spread k_n_1 k_reached_8 k_reachedAt_9 k_reachedCount_10 e_steps e_chains (k_inOrder_2 v3_11.toNatClampNeg)) (fun (z : (Nat → Int32) × (Nat → Int32) × Int32) => match z with | (k_reached_16, k_reachedAt_17, k_reachedCount_18) => xn (xL (f_X0_make_L2 k_reachedCount_18 k_reached_16 k_inOrder_2 v3_11) (k_firsts_7, (0 : Int32))) (fun (k_firsts_21 : (Nat → Int32)) => some (.inl (k_firsts_21, k_reached_16, k_reachedAt_17, k_reachedCount_18, (v3_11 + (1 : Int32))))))) (some (.inl (k_firsts_7, k_reached_8, k_reachedAt_9, k_reachedCount_10, (v3_11 + (1 : Int32))))))))
noncomputable def f_X0_make (k_n : Int32) (k_inOrder : (Nat → Int32)) (k_starts : (Nat → Int32)) (k_firsts : (Nat → Int32)) (k_reached : (Nat → Int32)) (k_reachedAt : (Nat → Int32)) (k_reachedCount : Int32) (e_steps : (Nat → Int32)) (e_chains : (Nat → Int32)) (v2 : Int32) : Option (Int32 × (Nat → Int32) × (Nat → Int32) × (Nat → Int32) × (Nat → Int32) × (Nat → Int32) × Int32) := xn (xb (k_n = v2) (some (k_n, k_inOrder, k_starts)) (xn (f_X0_arrange v2 k_inOrder k_starts) (fun (z : (Nat → Int32) × (Nat → Int32)) => match z with | (k_inOrder_4, k_starts_5) => some (v2, k_inOrder_4, k_starts_5)))) (fun (z : Int32 × (Nat → Int32) × (Nat → Int32)) => match z with | (k_n_1, k_inOrder_2, k_starts_3) => xn (f_J7_fill_53178 256 k_firsts (-1 : Int32)) (fun (k_firsts_6 : (Nat → Int32)) => xn (xL (f_X0_make_L1 k_n_1 k_inOrder_2 e_steps e_chains) (k_firsts_6, k_reached, k_reachedAt, k_reachedCount, (0 : Int32))) (fun (z : (Nat → Int32) × (Nat → Int32) × (Nat → Int32) × Int32) => match z with | (k_firsts_12, k_reached_13, k_reachedAt_14, k_reachedCount_15) => some (k_n_1, k_inOrder_2, k_starts_3, k_firsts_12, k_reached_13, k_reachedAt_14, k_reachedCount_15))))
set_option maxHeartbeats 4000000 in
set_option maxRecDepth 100000 in
theorem c_X0_make (l : Launch) (dC : Nat → ClassId) (dI : Nat → Nat → Nat) (cI cZ cB cO : ClassId) (k_ad : Nat) (k_p : Nat → Nat) (e_ad : Nat) (e_p : Nat → Nat) (k_n : Int32) (k_inOrder : (Nat → Int32)) (k_starts : (Nat → Int32)) (k_firsts : (Nat → Int32)) (k_reached : (Nat → Int32)) (k_reachedAt : (Nat → Int32)) (k_reachedCount : Int32) (e_n : Int32) (e_steps : (Nat → Int32)) (e_undoing : (Nat → Int32)) (e_chains : (Nat → Int32)) (e_leaving : (Nat → Int32)) (e_found : (Nat → Int32)) (e_foundAt : (Nat → Int32)) (e_foundCount : Int32) (v2 : Int32) (o : Int32 × (Nat → Int32) × (Nat → Int32) × (Nat → Int32) × (Nat → Int32) × (Nat → Int32) × Int32) (h : f_X0_make k_n k_inOrder k_starts k_firsts k_reached k_reachedAt k_reachedCount e_steps e_chains v2 = some o) (sz : Nat) : Met l yX0_make (xW yX0_make cX0_make 6 none) { frames := 3, cells := 0, slots := 0, locals := 74 } (xPre dC dI (xT cI cZ cB cO) [.ref k_ad, .ref e_ad, .int v2] ((wK cI cZ cB cO k_ad k_p k_n k_inOrder k_starts k_firsts k_reached k_reachedAt k_reachedCount) ++ (wE cI cZ cB cO e_ad e_p e_n e_steps e_undoing e_chains e_leaving e_found e_foundAt e_foundCount)) sz) (xQv dC dI (xT cI cZ cB cO) ((wK cI cZ cB cO k_ad k_p k_n k_inOrder k_starts k_firsts k_reached k_reachedAt k_reachedCount) ++ (wE cI cZ cB cO e_ad e_p e_n e_steps e_undoing e_chains e_leaving e_found e_foundAt e_foundCount)) ((wK cI cZ cB cO k_ad k_p o.1 o.2.1 o.2.2.1 o.2.2.2.1 o.2.2.2.2.1 o.2.2.2.2.2.1 o.2.2.2.2.2.2) ++ (wE cI cZ cB cO e_ad e_p e_n e_steps e_undoing e_chains e_leaving e_found e_foundAt e_foundCount)) sz) 0 0 (va_A ((wK cI cZ cB cO k_ad k_p k_n k_inOrder k_starts k_firsts k_reached k_reachedAt k_reachedCount) ++ (wE cI cZ cB cO e_ad e_p e_n e_steps e_undoing e_chains e_leaving e_found e_foundAt e_foundCount)) sz) := by
  refine x_met (by decide) (Nat.le_of_ble_eq_true rfl) ?_
  intro p e s m args below meth c R Q A hR hsz hA hQ hin C hw ls hl
  have hx := C.1
  have hb := C.2.1
  have hown := C.2.2.2.1
  have htb := C.2.2.2.2.1
  have hl : lv_has ls 6 [(0, .ref k_ad), (1, .ref e_ad), (2, .int v2)] := hl
  refine lv_aload_n hx hb dX0_make_0 rfl (lv_at hl 0 rfl) ?_
  refine x_get (ci := 0) C hw inX0 rfl 0 (by decide) lkF_X0_9 rfl 0 rfl rfl dX0_make_1 ?_
  refine lv_iload_n hx hb dX0_make_4 rfl (lv_at hl 2 rfl) ?_
  obtain ⟨z, hj, h⟩ := xn_i h
  have k : ∀ (H : Heap) (locs : List Loc) (ls : Array Slot), xWd (dC, dI) A s.heap H locs ((wK cI cZ cB cO k_ad k_p z.1 z.2.1 z.2.2 k_firsts k_reached k_reachedAt k_reachedCount) ++ (wE cI cZ cB cO e_ad e_p e_n e_steps e_undoing e_chains e_leaving e_found e_foundAt e_foundCount)) → lv_has ls 6 [(0, .ref k_ad), (1, .ref e_ad)] → W p l e R s m args below meth c H locs 0 0 Q (F0 m 17 ls []) := by
    obtain ⟨k_n_1, k_inOrder_2, k_starts_3⟩ := z
    intro H locs ls hw hl
    have hw : xWd (dC, dI) A s.heap H locs ((wK cI cZ cB cO k_ad k_p k_n_1 k_inOrder_2 k_starts_3 k_firsts k_reached k_reachedAt k_reachedCount) ++ (wE cI cZ cB cO e_ad e_p e_n e_steps e_undoing e_chains e_leaving e_found e_foundAt e_foundCount)) := hw
    have hl : lv_has ls 6 [(0, .ref k_ad), (1, .ref e_ad)] := hl
    show W p l e R s m args below meth c H locs 0 0 Q (F0 m 17 ls [])
    refine lv_aload_n hx hb dX0_make_17 rfl (lv_at hl 0 rfl) ?_
    refine x_get (ci := 0) C hw inX0 rfl 3 (by decide) lkF_X0_22 rfl 0 rfl rfl dX0_make_18 ?_
    refine lv_iconst (v := (-1 : Int32)) hx hb dX0_make_21 (by decide) ?_
    obtain ⟨k_firsts_6, q3, h⟩ := xn_i h
    refine x_callSv (As := [.ref (k_p 3), .int (-1 : Int32)]) (rest := []) C hw gc_X0_34 ds_J7_fill_53178 (by rw [hR]; exact Nat.le_of_ble_eq_true rfl) (by rw [hR]; exact Nat.le_of_ble_eq_true rfl) rfl rfl (Nat.zero_le _) (Nat.zero_le _) (c_J7_fill_53178 l dC dI cI cZ cB cO (k_p 3) 256 k_firsts (-1 : Int32) _ q3 _) [3] [0, 1, 2, 4, 5, 6, 7, 8, 9, 10, 11, 12] (by decide) rfl rfl (by decide) (by decide) rfl hl.1 rfl (Nat.le_of_ble_eq_true rfl) dX0_make_22 (fun H locs hw => ?_)
    have hw : xWd (dC, dI) A s.heap H locs ((wK cI cZ cB cO k_ad k_p k_n_1 k_inOrder_2 k_starts_3 k_firsts_6 k_reached k_reachedAt k_reachedCount) ++ (wE cI cZ cB cO e_ad e_p e_n e_steps e_undoing e_chains e_leaving e_found e_foundAt e_foundCount)) := hw.sub [0, 1, 2, 12, 3, 4, 5, 6, 7, 8, 9, 10, 11] (by decide) rfl
    refine lv_iconst (v := (0 : Int32)) hx hb dX0_make_25 (by decide) ?_
    refine lv_istore_n (lv' := [(3, .int (0 : Int32)), (0, .ref k_ad), (1, .ref e_ad)]) hx hb dX0_make_26 rfl hl (by decide) rfl (fun ls hl => ?_)
    obtain ⟨z, hr, h⟩ := xn_i h
    refine xL_w (fun (z : (Nat → Int32) × (Nat → Int32) × (Nat → Int32) × Int32 × Int32) => ∀ (H : Heap) (locs : List Loc) (ls : Array Slot), xWd (dC, dI) A s.heap H locs ((wK cI cZ cB cO k_ad k_p k_n_1 k_inOrder_2 k_starts_3 z.1 z.2.1 z.2.2.1 z.2.2.2.1) ++ (wE cI cZ cB cO e_ad e_p e_n e_steps e_undoing e_chains e_leaving e_found e_foundAt e_foundCount)) → lv_has ls 6 [(0, .ref k_ad), (1, .ref e_ad), (3, .int z.2.2.2.2)] → W p l e R s m args below meth c H locs 0 0 Q (F0 m 27 ls [])) (fun (z : (Nat → Int32) × (Nat → Int32) × (Nat → Int32) × Int32) => ∀ (H : Heap) (locs : List Loc) (ls : Array Slot), xWd (dC, dI) A s.heap H locs ((wK cI cZ cB cO k_ad k_p k_n_1 k_inOrder_2 k_starts_3 z.1 z.2.1 z.2.2.1 z.2.2.2) ++ (wE cI cZ cB cO e_ad e_p e_n e_steps e_undoing e_chains e_leaving e_found e_foundAt e_foundCount)) → lv_has ls 6 [] → W p l e R s m args below meth c H locs 0 0 Q (F0 m 101 ls [])) ?_ hr ?_ _ _ _ hw (lv_sub hl [1, 2, 0] rfl)
    · rintro ⟨k_firsts_7, k_reached_8, k_reachedAt_9, k_reachedCount_10, v3_11⟩ o h k H locs ls hw hl
      have hw : xWd (dC, dI) A s.heap H locs ((wK cI cZ cB cO k_ad k_p k_n_1 k_inOrder_2 k_starts_3 k_firsts_7 k_reached_8 k_reachedAt_9 k_reachedCount_10) ++ (wE cI cZ cB cO e_ad e_p e_n e_steps e_undoing e_chains e_leaving e_found e_foundAt e_foundCount)) := hw
      have hl : lv_has ls 6 [(0, .ref k_ad), (1, .ref e_ad), (3, .int v3_11)] := hl
      refine lv_iload_n hx hb dX0_make_27 rfl (lv_at hl 2 rfl) ?_
      refine lv_iconst (v := (1 : Int32)) hx hb dX0_make_28 (by decide) ?_
      refine lv_aload_n hx hb dX0_make_29 rfl (lv_at hl 0 rfl) ?_
      refine x_get (ci := 0) C hw inX0 rfl 0 (by decide) lkF_X0_9 rfl 0 rfl rfl dX0_make_30 ?_
      refine lv_ishl hx hb dX0_make_33 ?_
      refine lv_icmp_ge (tgt := 101) hx hb dX0_make_34 (by decide) (fun b4 => ?_) (fun b4 => ?_)
      · replace h := xb_tt b4 h
        obtain rfl := Option.some.inj h
        exact k _ _ _ hw (lv_sub hl [] rfl)
      · replace h := xb_ff b4 h
        refine lv_aload_n hx hb dX0_make_37 rfl (lv_at hl 0 rfl) ?_
        refine x_get (ci := 0) C hw inX0 rfl 1 (by decide) lkF_X0_15 rfl 0 rfl rfl dX0_make_38 ?_
        refine lv_iload_n hx hb dX0_make_41 rfl (lv_at hl 2 rfl) ?_
        obtain ⟨b5, h⟩ := xk_i h
        refine x_iald C hw 1 0 rfl rfl b5 dX0_make_42 ?_
        refine lv_istore (lv' := [(4, .int (k_inOrder_2 v3_11.toNatClampNeg)), (0, .ref k_ad), (1, .ref e_ad), (3, .int v3_11)]) hx hb dX0_make_43 hl (by decide) rfl (fun ls hl => ?_)
        refine lv_aload_n hx hb dX0_make_45 rfl (lv_at hl 1 rfl) ?_
        refine x_get (ci := 0) C hw inX0 rfl 3 (by decide) lkF_X0_22 rfl 0 rfl rfl dX0_make_46 ?_
        refine lv_iload hx hb dX0_make_49 (lv_at hl 0 rfl) ?_
        obtain ⟨b6, h⟩ := xk_i h
        refine x_iald C hw 3 0 rfl rfl b6 dX0_make_51 ?_
        refine lv_iconst (v := (-1 : Int32)) hx hb dX0_make_52 (by decide) ?_
        refine lv_icmp_ne (tgt := 95) hx hb dX0_make_53 (by decide) (fun b7 => ?_) (fun b7 => ?_)
        · replace h := xb_ff b7 h
          refine lv_iinc (v := (v3_11 + (1 : Int32))) (lv' := [(3, .int (v3_11 + (1 : Int32))), (4, .int (k_inOrder_2 v3_11.toNatClampNeg)), (0, .ref k_ad), (1, .ref e_ad)]) hx hb dX0_make_95 hl (k := 3) rfl (congrArg (fun q => v3_11 + q) (by decide)) (by decide) rfl (fun ls hl => ?_)
          refine lv_goto (tgt := 27) hx hb dX0_make_98 (by decide) ?_
          obtain rfl := Option.some.inj h
          exact k _ _ _ hw (lv_sub hl [2, 3, 0] rfl)
        · replace h := xb_tt b7 h
          refine lv_aload_n hx hb dX0_make_56 rfl (lv_at hl 1 rfl) ?_
          refine lv_aload_n hx hb dX0_make_57 rfl (lv_at hl 2 rfl) ?_
          refine lv_iload hx hb dX0_make_58 (lv_at hl 0 rfl) ?_
          obtain ⟨⟨k_reached_16, k_reachedAt_17, k_reachedCount_18⟩, q8, h⟩ := xn_i h
          refine x_callVv (As := [.ref e_ad, .int (k_inOrder_2 v3_11.toNatClampNeg)]) (rest := []) C hw gc_X0_43 ⟨rfl, rfl, ds_X0_spread, (by rw [hR]; exact Nat.le_of_ble_eq_true rfl), (by rw [hR]; exact Nat.le_of_ble_eq_true rfl), Nat.zero_le _, Nat.zero_le _⟩ (c_X0_spread l dC dI cI cZ cB cO k_ad k_p e_ad e_p k_n_1 k_inOrder_2 k_starts_3 k_firsts_7 k_reached_8 k_reachedAt_9 k_reachedCount_10 e_n e_steps e_undoing e_chains e_leaving e_found e_foundAt e_foundCount (k_inOrder_2 v3_11.toNatClampNeg) _ q8 _) [0, 1, 2, 3, 4, 5, 6, 7, 8, 9, 10, 11, 12] [] (by decide) rfl rfl (by decide) (by decide) rfl rfl rfl hl.1 rfl (Nat.le_of_ble_eq_true rfl) dX0_make_60 (fun H locs hw => ?_)
          have hw : xWd (dC, dI) A s.heap H locs ((wK cI cZ cB cO k_ad k_p k_n_1 k_inOrder_2 k_starts_3 k_firsts_7 k_reached_16 k_reachedAt_17 k_reachedCount_18) ++ (wE cI cZ cB cO e_ad e_p e_n e_steps e_undoing e_chains e_leaving e_found e_foundAt e_foundCount)) := hw
          refine lv_iconst (v := (0 : Int32)) hx hb dX0_make_63 (by decide) ?_
          refine lv_istore (lv' := [(5, .int (0 : Int32)), (4, .int (k_inOrder_2 v3_11.toNatClampNeg)), (0, .ref k_ad), (1, .ref e_ad), (3, .int v3_11)]) hx hb dX0_make_64 hl (by decide) rfl (fun ls hl => ?_)
          obtain ⟨z, hr, h⟩ := xn_i h
          refine xL_w (fun (z : (Nat → Int32) × Int32) => ∀ (H : Heap) (locs : List Loc) (ls : Array Slot), xWd (dC, dI) A s.heap H locs ((wK cI cZ cB cO k_ad k_p k_n_1 k_inOrder_2 k_starts_3 z.1 k_reached_16 k_reachedAt_17 k_reachedCount_18) ++ (wE cI cZ cB cO e_ad e_p e_n e_steps e_undoing e_chains e_leaving e_found e_foundAt e_foundCount)) → lv_has ls 6 [(0, .ref k_ad), (1, .ref e_ad), (3, .int v3_11), (4, .int (k_inOrder_2 v3_11.toNatClampNeg)), (5, .int z.2)] → W p l e R s m args below meth c H locs 0 0 Q (F0 m 66 ls [])) (fun (z : (Nat → Int32)) => ∀ (H : Heap) (locs : List Loc) (ls : Array Slot), xWd (dC, dI) A s.heap H locs ((wK cI cZ cB cO k_ad k_p k_n_1 k_inOrder_2 k_starts_3 z k_reached_16 k_reachedAt_17 k_reachedCount_18) ++ (wE cI cZ cB cO e_ad e_p e_n e_steps e_undoing e_chains e_leaving e_found e_foundAt e_foundCount)) → lv_has ls 6 [(0, .ref k_ad), (1, .ref e_ad), (3, .int v3_11)] → W p l e R s m args below meth c H locs 0 0 Q (F0 m 95 ls [])) ?_ hr ?_ _ _ _ hw (lv_sub hl [2, 3, 4, 1, 0] rfl)
          · rintro ⟨k_firsts_19, v5_20⟩ o h k H locs ls hw hl
            have hw : xWd (dC, dI) A s.heap H locs ((wK cI cZ cB cO k_ad k_p k_n_1 k_inOrder_2 k_starts_3 k_firsts_19 k_reached_16 k_reachedAt_17 k_reachedCount_18) ++ (wE cI cZ cB cO e_ad e_p e_n e_steps e_undoing e_chains e_leaving e_found e_foundAt e_foundCount)) := hw
            have hl : lv_has ls 6 [(0, .ref k_ad), (1, .ref e_ad), (3, .int v3_11), (4, .int (k_inOrder_2 v3_11.toNatClampNeg)), (5, .int v5_20)] := hl
            refine lv_iload hx hb dX0_make_66 (lv_at hl 4 rfl) ?_
            refine lv_aload_n hx hb dX0_make_68 rfl (lv_at hl 0 rfl) ?_
            refine x_get (ci := 0) C hw inX0 rfl 6 (by decide) lkF_X0_31 rfl 0 rfl rfl dX0_make_69 ?_
            refine lv_icmp_ge (tgt := 95) hx hb dX0_make_72 (by decide) (fun b9 => ?_) (fun b9 => ?_)
            · replace h := xb_tt b9 h
              obtain rfl := Option.some.inj h
              exact k _ _ _ hw (lv_sub hl [0, 1, 2] rfl)
            · replace h := xb_ff b9 h
              refine lv_aload_n hx hb dX0_make_75 rfl (lv_at hl 0 rfl) ?_
              refine x_get (ci := 0) C hw inX0 rfl 3 (by decide) lkF_X0_22 rfl 0 rfl rfl dX0_make_76 ?_
              refine lv_aload_n hx hb dX0_make_79 rfl (lv_at hl 0 rfl) ?_
              refine x_get (ci := 0) C hw inX0 rfl 4 (by decide) lkF_X0_25 rfl 0 rfl rfl dX0_make_80 ?_
              refine lv_iload hx hb dX0_make_83 (lv_at hl 4 rfl) ?_
              obtain ⟨b10, h⟩ := xk_i h
              refine x_iald C hw 4 0 rfl rfl b10 dX0_make_85 ?_
              refine lv_iload hx hb dX0_make_86 (lv_at hl 3 rfl) ?_
              obtain ⟨b11, h⟩ := xk_i h
              refine x_iast C hw 3 0 rfl rfl b11 dX0_make_88 (fun H locs hw => ?_)
              have hw : xWd (dC, dI) A s.heap H locs ((wK cI cZ cB cO k_ad k_p k_n_1 k_inOrder_2 k_starts_3 (upd k_firsts_19 (k_reached_16 v5_20.toNatClampNeg).toNatClampNeg (k_inOrder_2 v3_11.toNatClampNeg)) k_reached_16 k_reachedAt_17 k_reachedCount_18) ++ (wE cI cZ cB cO e_ad e_p e_n e_steps e_undoing e_chains e_leaving e_found e_foundAt e_foundCount)) := hw
              refine lv_iinc (v := (v5_20 + (1 : Int32))) (lv' := [(5, .int (v5_20 + (1 : Int32))), (0, .ref k_ad), (1, .ref e_ad), (3, .int v3_11), (4, .int (k_inOrder_2 v3_11.toNatClampNeg))]) hx hb dX0_make_89 hl (k := 4) rfl (congrArg (fun q => v5_20 + q) (by decide)) (by decide) rfl (fun ls hl => ?_)
              refine lv_goto (tgt := 66) hx hb dX0_make_92 (by decide) ?_
              obtain rfl := Option.some.inj h
              exact k _ _ _ hw (lv_sub hl [1, 2, 3, 4, 0] rfl)
          · obtain ⟨k_firsts_21, hz⟩ : ∃ q, q = z := ⟨z, rfl⟩
            subst hz
            intro H locs ls hw hl
            have hw : xWd (dC, dI) A s.heap H locs ((wK cI cZ cB cO k_ad k_p k_n_1 k_inOrder_2 k_starts_3 k_firsts_21 k_reached_16 k_reachedAt_17 k_reachedCount_18) ++ (wE cI cZ cB cO e_ad e_p e_n e_steps e_undoing e_chains e_leaving e_found e_foundAt e_foundCount)) := hw
            have hl : lv_has ls 6 [(0, .ref k_ad), (1, .ref e_ad), (3, .int v3_11)] := hl
            refine lv_iinc (v := (v3_11 + (1 : Int32))) (lv' := [(3, .int (v3_11 + (1 : Int32))), (0, .ref k_ad), (1, .ref e_ad)]) hx hb dX0_make_95 hl (k := 2) rfl (congrArg (fun q => v3_11 + q) (by decide)) (by decide) rfl (fun ls hl => ?_)
            refine lv_goto (tgt := 27) hx hb dX0_make_98 (by decide) ?_
            obtain rfl := Option.some.inj h
            exact k _ _ _ hw (lv_sub hl [1, 2, 0] rfl)
    · obtain ⟨k_firsts_12, k_reached_13, k_reachedAt_14, k_reachedCount_15⟩ := z
      intro H locs ls hw hl
      have hw : xWd (dC, dI) A s.heap H locs ((wK cI cZ cB cO k_ad k_p k_n_1 k_inOrder_2 k_starts_3 k_firsts_12 k_reached_13 k_reachedAt_14 k_reachedCount_15) ++ (wE cI cZ cB cO e_ad e_p e_n e_steps e_undoing e_chains e_leaving e_found e_foundAt e_foundCount)) := hw
      have hl : lv_has ls 6 [] := hl
      obtain rfl := Option.some.inj h
      exact x_retv C hQ hA hw dX0_make_101
  clear h
  have h := hj
  clear hj
  refine lv_icmp_eq (tgt := 17) hx hb dX0_make_5 (by decide) (fun b1 => ?_) (fun b1 => ?_)
  · replace h := xb_tt b1 h
    obtain rfl := Option.some.inj h
    exact k _ _ _ hw (lv_sub hl [0, 1] rfl)
  · replace h := xb_ff b1 h
    refine lv_aload_n hx hb dX0_make_8 rfl (lv_at hl 0 rfl) ?_
    refine lv_iload_n hx hb dX0_make_9 rfl (lv_at hl 2 rfl) ?_
    refine x_put (ci := 0) C hw inX0 tyX0 tyX0_ok nmX0 rfl 0 (by decide) lkF_X0_9 rfl rfl 0 rfl rfl rfl (Nat.le_of_ble_eq_true rfl) dX0_make_10 (fun H locs hw => ?_)
    have hw : xWd (dC, dI) A s.heap H locs ((wK cI cZ cB cO k_ad k_p v2 k_inOrder k_starts k_firsts k_reached k_reachedAt k_reachedCount) ++ (wE cI cZ cB cO e_ad e_p e_n e_steps e_undoing e_chains e_leaving e_found e_foundAt e_foundCount)) := hw
    refine lv_aload_n hx hb dX0_make_13 rfl (lv_at hl 0 rfl) ?_
    obtain ⟨⟨k_inOrder_4, k_starts_5⟩, q2, h⟩ := xn_i h
    refine x_callVv (As := []) (rest := []) C hw gc_X0_40 ⟨rfl, rfl, ds_X0_arrange, (by rw [hR]; exact Nat.le_of_ble_eq_true rfl), (by rw [hR]; exact Nat.le_of_ble_eq_true rfl), Nat.zero_le _, Nat.zero_le _⟩ (c_X0_arrange l dC dI cI cZ cB cO k_ad k_p v2 k_inOrder k_starts k_firsts k_reached k_reachedAt k_reachedCount _ q2 _) [0, 1, 2, 3, 4, 5] [6, 7, 8, 9, 10, 11, 12] (by decide) rfl rfl (by decide) (by decide) rfl rfl rfl hl.1 rfl (Nat.le_of_ble_eq_true rfl) dX0_make_14 (fun H locs hw => ?_)
    have hw : xWd (dC, dI) A s.heap H locs ((wK cI cZ cB cO k_ad k_p v2 k_inOrder_4 k_starts_5 k_firsts k_reached k_reachedAt k_reachedCount) ++ (wE cI cZ cB cO e_ad e_p e_n e_steps e_undoing e_chains e_leaving e_found e_foundAt e_foundCount)) := hw.sub [7, 8, 9, 10, 11, 12, 0, 1, 2, 3, 4, 5, 6] (by decide) rfl
    obtain rfl := Option.some.inj h
    exact k _ _ _ hw (lv_sub hl [0, 1] rfl)
noncomputable def f_X0_goOnTowards_L1 (k_n : Int32) (r_1 : Int32) (e_steps : (Nat → Int32)) (v2 : Int32) (v3 : Int32) (v4 : Int32) (k_reachedAt : (Nat → Int32)) (v6_2 : Int32) : Option ((Int32) ⊕ ((Unit) ⊕ (Int32))) := xb (k_n ≤ v6_2) (some (.inr (.inl ()))) (xb (((r_1 >>> (v6_2 &&& 31)) &&& (1 : Int32)) = 0) (some (.inl (v6_2 + (1 : Int32)))) (xn (f_X1_goOn e_steps v2 v3 v6_2) (fun (r_3 : Int32) => xn (f_X2_inverse r_3) (fun (r_4 : Int32) => xn (f_X2_carry v4 r_4) (fun (r_5 : Int32) => xk (vp_in r_5 256) (xb ((k_reachedAt r_5.toNatClampNeg) ≤ v3) (some (.inl (v6_2 + (1 : Int32)))) (some (.inr (.inr r_3)))))))))
noncomputable def f_X0_goOnTowards (k_n : Int32) (k_reachedAt : (Nat → Int32)) (e_steps : (Nat → Int32)) (e_chains : (Nat → Int32)) (v2 : Int32) (v3 : Int32) (v4 : Int32) : Option (Int32) := xn (f_X1_choices e_chains v2 v3) (fun (r_1 : Int32) => xn (xL (f_X0_goOnTowards_L1 k_n r_1 e_steps v2 v3 v4 k_reachedAt) (0 : Int32)) (fun (x : (Unit) ⊕ (Int32)) => match x with | .inl z => (fun (_ : Unit) => some v2) z | .inr z => some z))
set_option maxHeartbeats 4000000 in
set_option maxRecDepth 100000 in
theorem c_X0_goOnTowards (l : Launch) (dC : Nat → ClassId) (dI : Nat → Nat → Nat) (cI cZ cB cO : ClassId) (k_ad : Nat) (k_p : Nat → Nat) (e_ad : Nat) (e_p : Nat → Nat) (k_n : Int32) (k_inOrder : (Nat → Int32)) (k_starts : (Nat → Int32)) (k_firsts : (Nat → Int32)) (k_reached : (Nat → Int32)) (k_reachedAt : (Nat → Int32)) (k_reachedCount : Int32) (e_n : Int32) (e_steps : (Nat → Int32)) (e_undoing : (Nat → Int32)) (e_chains : (Nat → Int32)) (e_leaving : (Nat → Int32)) (e_found : (Nat → Int32)) (e_foundAt : (Nat → Int32)) (e_foundCount : Int32) (v2 : Int32) (v3 : Int32) (v4 : Int32) (o : Int32) (h : f_X0_goOnTowards k_n k_reachedAt e_steps e_chains v2 v3 v4 = some o) (sz : Nat) : Met l yX0_goOnTowards (xW yX0_goOnTowards cX0_goOnTowards 8 (some .int)) { frames := 2, cells := 0, slots := 0, locals := 46 } (xPre dC dI (xT cI cZ cB cO) [.ref k_ad, .ref e_ad, .int v2, .int v3, .int v4] ((wK cI cZ cB cO k_ad k_p k_n k_inOrder k_starts k_firsts k_reached k_reachedAt k_reachedCount) ++ (wE cI cZ cB cO e_ad e_p e_n e_steps e_undoing e_chains e_leaving e_found e_foundAt e_foundCount)) sz) (xQi dC dI (xT cI cZ cB cO) o ((wK cI cZ cB cO k_ad k_p k_n k_inOrder k_starts k_firsts k_reached k_reachedAt k_reachedCount) ++ (wE cI cZ cB cO e_ad e_p e_n e_steps e_undoing e_chains e_leaving e_found e_foundAt e_foundCount)) ((wK cI cZ cB cO k_ad k_p k_n k_inOrder k_starts k_firsts k_reached k_reachedAt k_reachedCount) ++ (wE cI cZ cB cO e_ad e_p e_n e_steps e_undoing e_chains e_leaving e_found e_foundAt e_foundCount)) sz) 0 0 (va_A ((wK cI cZ cB cO k_ad k_p k_n k_inOrder k_starts k_firsts k_reached k_reachedAt k_reachedCount) ++ (wE cI cZ cB cO e_ad e_p e_n e_steps e_undoing e_chains e_leaving e_found e_foundAt e_foundCount)) sz) := by
  refine x_met (by decide) (Nat.le_of_ble_eq_true rfl) ?_
  intro p e s m args below meth c R Q A hR hsz hA hQ hin C hw ls hl
  have hx := C.1
  have hb := C.2.1
  have hown := C.2.2.2.1
  have htb := C.2.2.2.2.1
  have hl : lv_has ls 8 [(0, .ref k_ad), (1, .ref e_ad), (2, .int v2), (3, .int v3), (4, .int v4)] := hl
  refine lv_aload_n hx hb dX0_goOnTowards_0 rfl (lv_at hl 1 rfl) ?_
  refine lv_iload_n hx hb dX0_goOnTowards_1 rfl (lv_at hl 2 rfl) ?_
  refine lv_iload_n hx hb dX0_goOnTowards_2 rfl (lv_at hl 3 rfl) ?_
  obtain ⟨r_1, q1, h⟩ := xn_i h
  refine x_callVi (As := [.int v2, .int v3]) (rest := []) C hw gc_X0_83 ⟨rfl, rfl, ds_X1_choices, (by rw [hR]; exact Nat.le_of_ble_eq_true rfl), (by rw [hR]; exact Nat.le_of_ble_eq_true rfl), Nat.zero_le _, Nat.zero_le _⟩ (c_X1_choices l dC dI cI cZ cB cO e_ad e_p e_n e_steps e_undoing e_chains e_leaving e_found e_foundAt e_foundCount v2 v3 _ q1 _) [6, 7, 8, 9, 10, 11, 12] [0, 1, 2, 3, 4, 5] (by decide) rfl rfl (by decide) (by decide) rfl rfl rfl hl.1 rfl (Nat.le_of_ble_eq_true rfl) dX0_goOnTowards_3 (fun H locs hw => ?_)
  have hw : xWd (dC, dI) A s.heap H locs ((wK cI cZ cB cO k_ad k_p k_n k_inOrder k_starts k_firsts k_reached k_reachedAt k_reachedCount) ++ (wE cI cZ cB cO e_ad e_p e_n e_steps e_undoing e_chains e_leaving e_found e_foundAt e_foundCount)) := hw
  refine lv_istore (lv' := [(5, .int r_1), (0, .ref k_ad), (1, .ref e_ad), (2, .int v2), (3, .int v3), (4, .int v4)]) hx hb dX0_goOnTowards_6 hl (by decide) rfl (fun ls hl => ?_)
  refine lv_iconst (v := (0 : Int32)) hx hb dX0_goOnTowards_8 (by decide) ?_
  refine lv_istore (lv' := [(6, .int (0 : Int32)), (5, .int r_1), (0, .ref k_ad), (1, .ref e_ad), (2, .int v2), (3, .int v3), (4, .int v4)]) hx hb dX0_goOnTowards_9 hl (by decide) rfl (fun ls hl => ?_)
  obtain ⟨z, hr, h⟩ := xn_i h
  refine xL_w (fun (z : Int32) => ∀ (H : Heap) (locs : List Loc) (ls : Array Slot), xWd (dC, dI) A s.heap H locs ((wK cI cZ cB cO k_ad k_p k_n k_inOrder k_starts k_firsts k_reached k_reachedAt k_reachedCount) ++ (wE cI cZ cB cO e_ad e_p e_n e_steps e_undoing e_chains e_leaving e_found e_foundAt e_foundCount)) → lv_has ls 8 [(0, .ref k_ad), (1, .ref e_ad), (2, .int v2), (3, .int v3), (4, .int v4), (5, .int r_1), (6, .int z)] → W p l e R s m args below meth c H locs 0 0 Q (F0 m 11 ls [])) (Sum.elim (fun (z : Unit) => ∀ (H : Heap) (locs : List Loc) (ls : Array Slot), xWd (dC, dI) A s.heap H locs ((wK cI cZ cB cO k_ad k_p k_n k_inOrder k_starts k_firsts k_reached k_reachedAt k_reachedCount) ++ (wE cI cZ cB cO e_ad e_p e_n e_steps e_undoing e_chains e_leaving e_found e_foundAt e_foundCount)) → lv_has ls 8 [(2, .int v2)] → W p l e R s m args below meth c H locs 0 0 Q (F0 m 68 ls [])) (fun (z : Int32) => ∀ (H : Heap) (locs : List Loc), xWd (dC, dI) A s.heap H locs ((wK cI cZ cB cO k_ad k_p k_n k_inOrder k_starts k_firsts k_reached k_reachedAt k_reachedCount) ++ (wE cI cZ cB cO e_ad e_p e_n e_steps e_undoing e_chains e_leaving e_found e_foundAt e_foundCount)) → ∀ (pc : Nat) (ls : Array Slot), decode cX0_goOnTowards pc = .ok (.ireturn, 1) → W p l e R s m args below meth c H locs 0 0 Q (F0 m pc ls [.int z]))) ?_ hr ?_ _ _ _ hw (lv_sub hl [2, 3, 4, 5, 6, 1, 0] rfl)
  · intro v6_2 o h k H locs ls hw hl
    have hw : xWd (dC, dI) A s.heap H locs ((wK cI cZ cB cO k_ad k_p k_n k_inOrder k_starts k_firsts k_reached k_reachedAt k_reachedCount) ++ (wE cI cZ cB cO e_ad e_p e_n e_steps e_undoing e_chains e_leaving e_found e_foundAt e_foundCount)) := hw
    have hl : lv_has ls 8 [(0, .ref k_ad), (1, .ref e_ad), (2, .int v2), (3, .int v3), (4, .int v4), (5, .int r_1), (6, .int v6_2)] := hl
    refine lv_iload hx hb dX0_goOnTowards_11 (lv_at hl 6 rfl) ?_
    refine lv_aload_n hx hb dX0_goOnTowards_13 rfl (lv_at hl 0 rfl) ?_
    refine x_get (ci := 0) C hw inX0 rfl 0 (by decide) lkF_X0_9 rfl 0 rfl rfl dX0_goOnTowards_14 ?_
    refine lv_icmp_ge (tgt := 68) hx hb dX0_goOnTowards_17 (by decide) (fun b2 => ?_) (fun b2 => ?_)
    · replace h := xb_tt b2 h
      obtain rfl := Option.some.inj h
      exact k _ _ _ hw (lv_sub hl [2] rfl)
    · replace h := xb_ff b2 h
      refine lv_iload hx hb dX0_goOnTowards_20 (lv_at hl 5 rfl) ?_
      refine lv_iload hx hb dX0_goOnTowards_22 (lv_at hl 6 rfl) ?_
      refine lv_ishr hx hb dX0_goOnTowards_24 ?_
      refine lv_iconst (v := (1 : Int32)) hx hb dX0_goOnTowards_25 (by decide) ?_
      refine lv_iand hx hb dX0_goOnTowards_26 ?_
      refine lv_if_eq (tgt := 62) hx hb dX0_goOnTowards_27 (by decide) (fun b3 => ?_) (fun b3 => ?_)
      · replace h := xb_tt b3 h
        refine lv_iinc (v := (v6_2 + (1 : Int32))) (lv' := [(6, .int (v6_2 + (1 : Int32))), (0, .ref k_ad), (1, .ref e_ad), (2, .int v2), (3, .int v3), (4, .int v4), (5, .int r_1)]) hx hb dX0_goOnTowards_62 hl (k := 6) rfl (congrArg (fun q => v6_2 + q) (by decide)) (by decide) rfl (fun ls hl => ?_)
        refine lv_goto (tgt := 11) hx hb dX0_goOnTowards_65 (by decide) ?_
        obtain rfl := Option.some.inj h
        exact k _ _ _ hw (lv_sub hl [1, 2, 3, 4, 5, 6, 0] rfl)
      · replace h := xb_ff b3 h
        refine lv_aload_n hx hb dX0_goOnTowards_30 rfl (lv_at hl 1 rfl) ?_
        refine lv_iload_n hx hb dX0_goOnTowards_31 rfl (lv_at hl 2 rfl) ?_
        refine lv_iload_n hx hb dX0_goOnTowards_32 rfl (lv_at hl 3 rfl) ?_
        refine lv_iload hx hb dX0_goOnTowards_33 (lv_at hl 6 rfl) ?_
        obtain ⟨r_3, q4, h⟩ := xn_i h
        refine x_callVi (As := [.int v2, .int v3, .int v6_2]) (rest := []) C hw gc_X0_86 ⟨rfl, rfl, ds_X1_goOn, (by rw [hR]; exact Nat.le_of_ble_eq_true rfl), (by rw [hR]; exact Nat.le_of_ble_eq_true rfl), Nat.zero_le _, Nat.zero_le _⟩ (c_X1_goOn l dC dI cI cZ cB cO e_ad e_p e_n e_steps e_undoing e_chains e_leaving e_found e_foundAt e_foundCount v2 v3 v6_2 _ q4 _) [6, 7, 8, 9, 10, 11, 12] [0, 1, 2, 3, 4, 5] (by decide) rfl rfl (by decide) (by decide) rfl rfl rfl hl.1 rfl (Nat.le_of_ble_eq_true rfl) dX0_goOnTowards_35 (fun H locs hw => ?_)
        have hw : xWd (dC, dI) A s.heap H locs ((wK cI cZ cB cO k_ad k_p k_n k_inOrder k_starts k_firsts k_reached k_reachedAt k_reachedCount) ++ (wE cI cZ cB cO e_ad e_p e_n e_steps e_undoing e_chains e_leaving e_found e_foundAt e_foundCount)) := hw
        refine lv_istore (lv' := [(7, .int r_3), (0, .ref k_ad), (1, .ref e_ad), (2, .int v2), (3, .int v3), (4, .int v4), (5, .int r_1), (6, .int v6_2)]) hx hb dX0_goOnTowards_38 hl (by decide) rfl (fun ls hl => ?_)
        refine lv_aload_n hx hb dX0_goOnTowards_40 rfl (lv_at hl 1 rfl) ?_
        refine x_get (ci := 0) C hw inX0 rfl 5 (by decide) lkF_X0_28 rfl 0 rfl rfl dX0_goOnTowards_41 ?_
        refine lv_iload hx hb dX0_goOnTowards_44 (lv_at hl 5 rfl) ?_
        refine lv_iload hx hb dX0_goOnTowards_46 (lv_at hl 0 rfl) ?_
        obtain ⟨r_4, q5, h⟩ := xn_i h
        refine x_callSi (As := [.int r_3]) (rest := [.int v4, .ref (k_p 5)]) C hw gc_X0_90 ds_X2_inverse (by rw [hR]; exact Nat.le_of_ble_eq_true rfl) (by rw [hR]; exact Nat.le_of_ble_eq_true rfl) rfl rfl (Nat.zero_le _) (Nat.zero_le _) (c_X2_inverse l dC dI cI cZ cB cO r_3 _ q5 _) [] [0, 1, 2, 3, 4, 5, 6, 7, 8, 9, 10, 11, 12] (by decide) rfl rfl (by decide) (by decide) rfl hl.1 rfl (Nat.le_of_ble_eq_true rfl) dX0_goOnTowards_48 (fun H locs hw => ?_)
        have hw : xWd (dC, dI) A s.heap H locs ((wK cI cZ cB cO k_ad k_p k_n k_inOrder k_starts k_firsts k_reached k_reachedAt k_reachedCount) ++ (wE cI cZ cB cO e_ad e_p e_n e_steps e_undoing e_chains e_leaving e_found e_foundAt e_foundCount)) := hw.sub [0, 1, 2, 3, 4, 5, 6, 7, 8, 9, 10, 11, 12] (by decide) rfl
        obtain ⟨r_5, q6, h⟩ := xn_i h
        refine x_callSi (As := [.int v4, .int r_4]) (rest := [.ref (k_p 5)]) C hw gc_X0_73 ds_X2_carry (by rw [hR]; exact Nat.le_of_ble_eq_true rfl) (by rw [hR]; exact Nat.le_of_ble_eq_true rfl) rfl rfl (Nat.zero_le _) (Nat.zero_le _) (c_X2_carry l dC dI cI cZ cB cO v4 r_4 _ q6 _) [] [0, 1, 2, 3, 4, 5, 6, 7, 8, 9, 10, 11, 12] (by decide) rfl rfl (by decide) (by decide) rfl hl.1 rfl (Nat.le_of_ble_eq_true rfl) dX0_goOnTowards_51 (fun H locs hw => ?_)
        have hw : xWd (dC, dI) A s.heap H locs ((wK cI cZ cB cO k_ad k_p k_n k_inOrder k_starts k_firsts k_reached k_reachedAt k_reachedCount) ++ (wE cI cZ cB cO e_ad e_p e_n e_steps e_undoing e_chains e_leaving e_found e_foundAt e_foundCount)) := hw.sub [0, 1, 2, 3, 4, 5, 6, 7, 8, 9, 10, 11, 12] (by decide) rfl
        obtain ⟨b7, h⟩ := xk_i h
        refine x_iald C hw 5 0 rfl rfl b7 dX0_goOnTowards_54 ?_
        refine lv_iload_n hx hb dX0_goOnTowards_55 rfl (lv_at hl 4 rfl) ?_
        refine lv_icmp_le (tgt := 62) hx hb dX0_goOnTowards_56 (by decide) (fun b8 => ?_) (fun b8 => ?_)
        · replace h := xb_tt b8 h
          refine lv_iinc (v := (v6_2 + (1 : Int32))) (lv' := [(6, .int (v6_2 + (1 : Int32))), (7, .int r_3), (0, .ref k_ad), (1, .ref e_ad), (2, .int v2), (3, .int v3), (4, .int v4), (5, .int r_1)]) hx hb dX0_goOnTowards_62 hl (k := 7) rfl (congrArg (fun q => v6_2 + q) (by decide)) (by decide) rfl (fun ls hl => ?_)
          refine lv_goto (tgt := 11) hx hb dX0_goOnTowards_65 (by decide) ?_
          obtain rfl := Option.some.inj h
          exact k _ _ _ hw (lv_sub hl [2, 3, 4, 5, 6, 7, 0] rfl)
        · replace h := xb_ff b8 h
          refine lv_iload hx hb dX0_goOnTowards_59 (lv_at hl 0 rfl) ?_
          obtain rfl := Option.some.inj h
          exact k _ _ hw _ _ dX0_goOnTowards_61
  · rcases z with z | z
    · intro H locs ls hw hl
      have hw : xWd (dC, dI) A s.heap H locs ((wK cI cZ cB cO k_ad k_p k_n k_inOrder k_starts k_firsts k_reached k_reachedAt k_reachedCount) ++ (wE cI cZ cB cO e_ad e_p e_n e_steps e_undoing e_chains e_leaving e_found e_foundAt e_foundCount)) := hw
      have hl : lv_has ls 8 [(2, .int v2)] := hl
      refine lv_iload_n hx hb dX0_goOnTowards_68 rfl (lv_at hl 0 rfl) ?_
      obtain rfl := Option.some.inj h
      exact x_reti C hQ hA hw dX0_goOnTowards_69
    · obtain rfl := Option.some.inj h
      intro H locs hw pc ls hd
      exact x_reti C hQ hA hw hd
noncomputable def f_X0_firstMove_L1 (k_n : Int32) (k_reachedAt_2 : (Nat → Int32)) (e_steps : (Nat → Int32)) (e_chains : (Nat → Int32)) (v3 : Int32) (z : Int32 × Int32) : Option ((Int32 × Int32) ⊕ (Int32)) := match z with
  | (v4_4, v5_5) => xb (k_n ≤ v5_5) (some (.inr v4_4)) (xn (f_X0_goOnTowards k_n k_reachedAt_2 e_steps e_chains v4_4 v5_5 v3) (fun (r_7 : Int32) => some (.inl (r_7, (v5_5 + (1 : Int32))))))
noncomputable def f_X0_firstMove (k_n : Int32) (k_reached : (Nat → Int32)) (k_reachedAt : (Nat → Int32)) (k_reachedCount : Int32) (e_steps : (Nat → Int32)) (e_chains : (Nat → Int32)) (v2 : Int32) (v3 : Int32) : Option ((Nat → Int32) × (Nat → Int32) × Int32 × Int32) := xn (f_X0_spread k_n k_reached k_reachedAt k_reachedCount e_steps e_chains v2) (fun (z : (Nat → Int32) × (Nat → Int32) × Int32) => match z with | (k_reached_1, k_reachedAt_2, k_reachedCount_3) => xk (vp_in v3 256) (xb ((k_reachedAt_2 v3.toNatClampNeg) = (-1 : Int32)) (some (k_reached_1, k_reachedAt_2, k_reachedCount_3, (-1 : Int32))) (xn (xL (f_X0_firstMove_L1 k_n k_reachedAt_2 e_steps e_chains v3) ((16434824 : Int32), (0 : Int32))) (fun (v4_6 : Int32) => some (k_reached_1, k_reachedAt_2, k_reachedCount_3, v4_6)))))
set_option maxHeartbeats 4000000 in
set_option maxRecDepth 100000 in
theorem c_X0_firstMove (l : Launch) (dC : Nat → ClassId) (dI : Nat → Nat → Nat) (cI cZ cB cO : ClassId) (k_ad : Nat) (k_p : Nat → Nat) (e_ad : Nat) (e_p : Nat → Nat) (k_n : Int32) (k_inOrder : (Nat → Int32)) (k_starts : (Nat → Int32)) (k_firsts : (Nat → Int32)) (k_reached : (Nat → Int32)) (k_reachedAt : (Nat → Int32)) (k_reachedCount : Int32) (e_n : Int32) (e_steps : (Nat → Int32)) (e_undoing : (Nat → Int32)) (e_chains : (Nat → Int32)) (e_leaving : (Nat → Int32)) (e_found : (Nat → Int32)) (e_foundAt : (Nat → Int32)) (e_foundCount : Int32) (v2 : Int32) (v3 : Int32) (o : (Nat → Int32) × (Nat → Int32) × Int32 × Int32) (h : f_X0_firstMove k_n k_reached k_reachedAt k_reachedCount e_steps e_chains v2 v3 = some o) (sz : Nat) : Met l yX0_firstMove (xW yX0_firstMove cX0_firstMove 6 (some .int)) { frames := 3, cells := 0, slots := 0, locals := 74 } (xPre dC dI (xT cI cZ cB cO) [.ref k_ad, .ref e_ad, .int v2, .int v3] ((wK cI cZ cB cO k_ad k_p k_n k_inOrder k_starts k_firsts k_reached k_reachedAt k_reachedCount) ++ (wE cI cZ cB cO e_ad e_p e_n e_steps e_undoing e_chains e_leaving e_found e_foundAt e_foundCount)) sz) (xQi dC dI (xT cI cZ cB cO) o.2.2.2 ((wK cI cZ cB cO k_ad k_p k_n k_inOrder k_starts k_firsts k_reached k_reachedAt k_reachedCount) ++ (wE cI cZ cB cO e_ad e_p e_n e_steps e_undoing e_chains e_leaving e_found e_foundAt e_foundCount)) ((wK cI cZ cB cO k_ad k_p k_n k_inOrder k_starts k_firsts o.1 o.2.1 o.2.2.1) ++ (wE cI cZ cB cO e_ad e_p e_n e_steps e_undoing e_chains e_leaving e_found e_foundAt e_foundCount)) sz) 0 0 (va_A ((wK cI cZ cB cO k_ad k_p k_n k_inOrder k_starts k_firsts k_reached k_reachedAt k_reachedCount) ++ (wE cI cZ cB cO e_ad e_p e_n e_steps e_undoing e_chains e_leaving e_found e_foundAt e_foundCount)) sz) := by
  refine x_met (by decide) (Nat.le_of_ble_eq_true rfl) ?_
  intro p e s m args below meth c R Q A hR hsz hA hQ hin C hw ls hl
  have hx := C.1
  have hb := C.2.1
  have hown := C.2.2.2.1
  have htb := C.2.2.2.2.1
  have hl : lv_has ls 6 [(0, .ref k_ad), (1, .ref e_ad), (2, .int v2), (3, .int v3)] := hl
  refine lv_aload_n hx hb dX0_firstMove_0 rfl (lv_at hl 0 rfl) ?_
  refine lv_aload_n hx hb dX0_firstMove_1 rfl (lv_at hl 1 rfl) ?_
  refine lv_iload_n hx hb dX0_firstMove_2 rfl (lv_at hl 2 rfl) ?_
  obtain ⟨⟨k_reached_1, k_reachedAt_2, k_reachedCount_3⟩, q1, h⟩ := xn_i h
  refine x_callVv (As := [.ref e_ad, .int v2]) (rest := []) C hw gc_X0_43 ⟨rfl, rfl, ds_X0_spread, (by rw [hR]; exact Nat.le_of_ble_eq_true rfl), (by rw [hR]; exact Nat.le_of_ble_eq_true rfl), Nat.zero_le _, Nat.zero_le _⟩ (c_X0_spread l dC dI cI cZ cB cO k_ad k_p e_ad e_p k_n k_inOrder k_starts k_firsts k_reached k_reachedAt k_reachedCount e_n e_steps e_undoing e_chains e_leaving e_found e_foundAt e_foundCount v2 _ q1 _) [0, 1, 2, 3, 4, 5, 6, 7, 8, 9, 10, 11, 12] [] (by decide) rfl rfl (by decide) (by decide) rfl rfl rfl hl.1 rfl (Nat.le_of_ble_eq_true rfl) dX0_firstMove_3 (fun H locs hw => ?_)
  have hw : xWd (dC, dI) A s.heap H locs ((wK cI cZ cB cO k_ad k_p k_n k_inOrder k_starts k_firsts k_reached_1 k_reachedAt_2 k_reachedCount_3) ++ (wE cI cZ cB cO e_ad e_p e_n e_steps e_undoing e_chains e_leaving e_found e_foundAt e_foundCount)) := hw
  refine lv_aload_n hx hb dX0_firstMove_6 rfl (lv_at hl 0 rfl) ?_
  refine x_get (ci := 0) C hw inX0 rfl 5 (by decide) lkF_X0_28 rfl 0 rfl rfl dX0_firstMove_7 ?_
  refine lv_iload_n hx hb dX0_firstMove_10 rfl (lv_at hl 3 rfl) ?_
  obtain ⟨b2, h⟩ := xk_i h
  refine x_iald C hw 5 0 rfl rfl b2 dX0_firstMove_11 ?_
  refine lv_iconst (v := (-1 : Int32)) hx hb dX0_firstMove_12 (by decide) ?_
  refine lv_icmp_ne (tgt := 18) hx hb dX0_firstMove_13 (by decide) (fun b3 => ?_) (fun b3 => ?_)
  · replace h := xb_ff b3 h
    refine lv_ldc hx hb hown (htb _ kI_X0_78) dX0_firstMove_18 ?_
    refine lv_istore (lv' := [(4, .int (16434824 : Int32)), (0, .ref k_ad), (1, .ref e_ad), (2, .int v2), (3, .int v3)]) hx hb dX0_firstMove_20 hl (by decide) rfl (fun ls hl => ?_)
    refine lv_iconst (v := (0 : Int32)) hx hb dX0_firstMove_22 (by decide) ?_
    refine lv_istore (lv' := [(5, .int (0 : Int32)), (4, .int (16434824 : Int32)), (0, .ref k_ad), (1, .ref e_ad), (2, .int v2), (3, .int v3)]) hx hb dX0_firstMove_23 hl (by decide) rfl (fun ls hl => ?_)
    obtain ⟨z, hr, h⟩ := xn_i h
    refine xL_w (fun (z : Int32 × Int32) => ∀ (H : Heap) (locs : List Loc) (ls : Array Slot), xWd (dC, dI) A s.heap H locs ((wK cI cZ cB cO k_ad k_p k_n k_inOrder k_starts k_firsts k_reached_1 k_reachedAt_2 k_reachedCount_3) ++ (wE cI cZ cB cO e_ad e_p e_n e_steps e_undoing e_chains e_leaving e_found e_foundAt e_foundCount)) → lv_has ls 6 [(0, .ref k_ad), (1, .ref e_ad), (3, .int v3), (4, .int z.1), (5, .int z.2)] → W p l e R s m args below meth c H locs 0 0 Q (F0 m 25 ls [])) (fun (z : Int32) => ∀ (H : Heap) (locs : List Loc) (ls : Array Slot), xWd (dC, dI) A s.heap H locs ((wK cI cZ cB cO k_ad k_p k_n k_inOrder k_starts k_firsts k_reached_1 k_reachedAt_2 k_reachedCount_3) ++ (wE cI cZ cB cO e_ad e_p e_n e_steps e_undoing e_chains e_leaving e_found e_foundAt e_foundCount)) → lv_has ls 6 [(4, .int z)] → W p l e R s m args below meth c H locs 0 0 Q (F0 m 52 ls [])) ?_ hr ?_ _ _ _ hw (lv_sub hl [2, 3, 5, 1, 0] rfl)
    · rintro ⟨v4_4, v5_5⟩ o h k H locs ls hw hl
      have hw : xWd (dC, dI) A s.heap H locs ((wK cI cZ cB cO k_ad k_p k_n k_inOrder k_starts k_firsts k_reached_1 k_reachedAt_2 k_reachedCount_3) ++ (wE cI cZ cB cO e_ad e_p e_n e_steps e_undoing e_chains e_leaving e_found e_foundAt e_foundCount)) := hw
      have hl : lv_has ls 6 [(0, .ref k_ad), (1, .ref e_ad), (3, .int v3), (4, .int v4_4), (5, .int v5_5)] := hl
      refine lv_iload hx hb dX0_firstMove_25 (lv_at hl 4 rfl) ?_
      refine lv_aload_n hx hb dX0_firstMove_27 rfl (lv_at hl 0 rfl) ?_
      refine x_get (ci := 0) C hw inX0 rfl 0 (by decide) lkF_X0_9 rfl 0 rfl rfl dX0_firstMove_28 ?_
      refine lv_icmp_ge (tgt := 52) hx hb dX0_firstMove_31 (by decide) (fun b4 => ?_) (fun b4 => ?_)
      · replace h := xb_tt b4 h
        obtain rfl := Option.some.inj h
        exact k _ _ _ hw (lv_sub hl [3] rfl)
      · replace h := xb_ff b4 h
        refine lv_aload_n hx hb dX0_firstMove_34 rfl (lv_at hl 0 rfl) ?_
        refine lv_aload_n hx hb dX0_firstMove_35 rfl (lv_at hl 1 rfl) ?_
        refine lv_iload hx hb dX0_firstMove_36 (lv_at hl 3 rfl) ?_
        refine lv_iload hx hb dX0_firstMove_38 (lv_at hl 4 rfl) ?_
        refine lv_iload_n hx hb dX0_firstMove_40 rfl (lv_at hl 2 rfl) ?_
        obtain ⟨r_7, q5, h⟩ := xn_i h
        refine x_callVi (As := [.ref e_ad, .int v4_4, .int v5_5, .int v3]) (rest := []) C hw gc_X0_79 ⟨rfl, rfl, ds_X0_goOnTowards, (by rw [hR]; exact Nat.le_of_ble_eq_true rfl), (by rw [hR]; exact Nat.le_of_ble_eq_true rfl), Nat.zero_le _, Nat.zero_le _⟩ (c_X0_goOnTowards l dC dI cI cZ cB cO k_ad k_p e_ad e_p k_n k_inOrder k_starts k_firsts k_reached_1 k_reachedAt_2 k_reachedCount_3 e_n e_steps e_undoing e_chains e_leaving e_found e_foundAt e_foundCount v4_4 v5_5 v3 _ q5 _) [0, 1, 2, 3, 4, 5, 6, 7, 8, 9, 10, 11, 12] [] (by decide) rfl rfl (by decide) (by decide) rfl rfl rfl hl.1 rfl (Nat.le_of_ble_eq_true rfl) dX0_firstMove_41 (fun H locs hw => ?_)
        have hw : xWd (dC, dI) A s.heap H locs ((wK cI cZ cB cO k_ad k_p k_n k_inOrder k_starts k_firsts k_reached_1 k_reachedAt_2 k_reachedCount_3) ++ (wE cI cZ cB cO e_ad e_p e_n e_steps e_undoing e_chains e_leaving e_found e_foundAt e_foundCount)) := hw
        refine lv_istore (lv' := [(4, .int r_7), (0, .ref k_ad), (1, .ref e_ad), (3, .int v3), (5, .int v5_5)]) hx hb dX0_firstMove_44 hl (by decide) rfl (fun ls hl => ?_)
        refine lv_iinc (v := (v5_5 + (1 : Int32))) (lv' := [(5, .int (v5_5 + (1 : Int32))), (4, .int r_7), (0, .ref k_ad), (1, .ref e_ad), (3, .int v3)]) hx hb dX0_firstMove_46 hl (k := 4) rfl (congrArg (fun q => v5_5 + q) (by decide)) (by decide) rfl (fun ls hl => ?_)
        refine lv_goto (tgt := 25) hx hb dX0_firstMove_49 (by decide) ?_
        obtain rfl := Option.some.inj h
        exact k _ _ _ hw (lv_sub hl [2, 3, 4, 1, 0] rfl)
    · obtain ⟨v4_6, hz⟩ : ∃ q, q = z := ⟨z, rfl⟩
      subst hz
      intro H locs ls hw hl
      have hw : xWd (dC, dI) A s.heap H locs ((wK cI cZ cB cO k_ad k_p k_n k_inOrder k_starts k_firsts k_reached_1 k_reachedAt_2 k_reachedCount_3) ++ (wE cI cZ cB cO e_ad e_p e_n e_steps e_undoing e_chains e_leaving e_found e_foundAt e_foundCount)) := hw
      have hl : lv_has ls 6 [(4, .int v4_6)] := hl
      refine lv_iload hx hb dX0_firstMove_52 (lv_at hl 0 rfl) ?_
      obtain rfl := Option.some.inj h
      exact x_reti C hQ hA hw dX0_firstMove_54
  · replace h := xb_tt b3 h
    refine lv_iconst (v := (-1 : Int32)) hx hb dX0_firstMove_16 (by decide) ?_
    obtain rfl := Option.some.inj h
    exact x_reti C hQ hA hw dX0_firstMove_17
noncomputable def f_X0_first (k_firsts : (Nat → Int32)) (v1 : Int32) : Option (Int32) := xk (vp_in (v1 &&& (255 : Int32)) 256) (some (k_firsts (v1 &&& (255 : Int32)).toNatClampNeg))
set_option maxHeartbeats 4000000 in
set_option maxRecDepth 100000 in
theorem c_X0_first (l : Launch) (dC : Nat → ClassId) (dI : Nat → Nat → Nat) (cI cZ cB cO : ClassId) (k_ad : Nat) (k_p : Nat → Nat) (k_n : Int32) (k_inOrder : (Nat → Int32)) (k_starts : (Nat → Int32)) (k_firsts : (Nat → Int32)) (k_reached : (Nat → Int32)) (k_reachedAt : (Nat → Int32)) (k_reachedCount : Int32) (v1 : Int32) (o : Int32) (h : f_X0_first k_firsts v1 = some o) (sz : Nat) : Met l yX0_first (xW yX0_first cX0_first 2 (some .int)) { frames := 0, cells := 0, slots := 0, locals := 0 } (xPre dC dI (xT cI cZ cB cO) [.ref k_ad, .int v1] (wK cI cZ cB cO k_ad k_p k_n k_inOrder k_starts k_firsts k_reached k_reachedAt k_reachedCount) sz) (xQi dC dI (xT cI cZ cB cO) o (wK cI cZ cB cO k_ad k_p k_n k_inOrder k_starts k_firsts k_reached k_reachedAt k_reachedCount) (wK cI cZ cB cO k_ad k_p k_n k_inOrder k_starts k_firsts k_reached k_reachedAt k_reachedCount) sz) 0 0 (va_A (wK cI cZ cB cO k_ad k_p k_n k_inOrder k_starts k_firsts k_reached k_reachedAt k_reachedCount) sz) := by
  refine x_met (by decide) (Nat.le_of_ble_eq_true rfl) ?_
  intro p e s m args below meth c R Q A hR hsz hA hQ hin C hw ls hl
  have hx := C.1
  have hb := C.2.1
  have hown := C.2.2.2.1
  have htb := C.2.2.2.2.1
  have hl : lv_has ls 2 [(0, .ref k_ad), (1, .int v1)] := hl
  refine lv_aload_n hx hb dX0_first_0 rfl (lv_at hl 0 rfl) ?_
  refine x_get (ci := 0) C hw inX0 rfl 3 (by decide) lkF_X0_22 rfl 0 rfl rfl dX0_first_1 ?_
  refine lv_iload_n hx hb dX0_first_4 rfl (lv_at hl 1 rfl) ?_
  refine lv_sipush (v := (255 : Int32)) hx hb dX0_first_5 (by decide) ?_
  refine lv_iand hx hb dX0_first_8 ?_
  obtain ⟨b1, h⟩ := xk_i h
  refine x_iald C hw 3 0 rfl rfl b1 dX0_first_9 ?_
  obtain rfl := Option.some.inj h
  exact x_reti C hQ hA hw dX0_first_10
noncomputable def f_X0_start (k_n : Int32) (k_starts : (Nat → Int32)) (v1 : Int32) : Option (Int32) := xk (vp_in (if (0 : Int32) < (if (k_n + (1 : Int32)) < v1 then (k_n + (1 : Int32)) else v1) then (if (k_n + (1 : Int32)) < v1 then (k_n + (1 : Int32)) else v1) else (0 : Int32)) 10) (some (k_starts (if (0 : Int32) < (if (k_n + (1 : Int32)) < v1 then (k_n + (1 : Int32)) else v1) then (if (k_n + (1 : Int32)) < v1 then (k_n + (1 : Int32)) else v1) else (0 : Int32)).toNatClampNeg))
set_option maxHeartbeats 4000000 in
set_option maxRecDepth 100000 in
theorem c_X0_start (l : Launch) (dC : Nat → ClassId) (dI : Nat → Nat → Nat) (cI cZ cB cO : ClassId) (k_ad : Nat) (k_p : Nat → Nat) (k_n : Int32) (k_inOrder : (Nat → Int32)) (k_starts : (Nat → Int32)) (k_firsts : (Nat → Int32)) (k_reached : (Nat → Int32)) (k_reachedAt : (Nat → Int32)) (k_reachedCount : Int32) (v1 : Int32) (o : Int32) (h : f_X0_start k_n k_starts v1 = some o) (sz : Nat) : Met l yX0_start (xW yX0_start cX0_start 2 (some .int)) { frames := 1, cells := 0, slots := 0, locals := 24 } (xPre dC dI (xT cI cZ cB cO) [.ref k_ad, .int v1] (wK cI cZ cB cO k_ad k_p k_n k_inOrder k_starts k_firsts k_reached k_reachedAt k_reachedCount) sz) (xQi dC dI (xT cI cZ cB cO) o (wK cI cZ cB cO k_ad k_p k_n k_inOrder k_starts k_firsts k_reached k_reachedAt k_reachedCount) (wK cI cZ cB cO k_ad k_p k_n k_inOrder k_starts k_firsts k_reached k_reachedAt k_reachedCount) sz) 0 0 (va_A (wK cI cZ cB cO k_ad k_p k_n k_inOrder k_starts k_firsts k_reached k_reachedAt k_reachedCount) sz) := by
  refine x_met (by decide) (Nat.le_of_ble_eq_true rfl) ?_
  intro p e s m args below meth c R Q A hR hsz hA hQ hin C hw ls hl
  have hx := C.1
  have hb := C.2.1
  have hown := C.2.2.2.1
  have htb := C.2.2.2.2.1
  have hl : lv_has ls 2 [(0, .ref k_ad), (1, .int v1)] := hl
  refine lv_aload_n hx hb dX0_start_0 rfl (lv_at hl 0 rfl) ?_
  refine x_get (ci := 0) C hw inX0 rfl 2 (by decide) lkF_X0_19 rfl 0 rfl rfl dX0_start_1 ?_
  refine lv_iconst (v := (0 : Int32)) hx hb dX0_start_4 (by decide) ?_
  refine lv_iload_n hx hb dX0_start_5 rfl (lv_at hl 1 rfl) ?_
  refine lv_aload_n hx hb dX0_start_6 rfl (lv_at hl 0 rfl) ?_
  refine x_get (ci := 0) C hw inX0 rfl 0 (by decide) lkF_X0_9 rfl 0 rfl rfl dX0_start_7 ?_
  refine lv_iconst (v := (1 : Int32)) hx hb dX0_start_10 (by decide) ?_
  refine lv_iadd hx hb dX0_start_11 ?_
  refine x_min (rest := [.int (0 : Int32), .ref (k_p 2)]) C lkM_X0_93 (by rw [hR]; exact Nat.le_of_ble_eq_true rfl) (by rw [hR]; exact Nat.le_of_ble_eq_true rfl) (Nat.zero_le _) (Nat.zero_le _) hl.1 dX0_start_12 ?_
  refine x_max (rest := [.ref (k_p 2)]) C lkM_X0_98 (by rw [hR]; exact Nat.le_of_ble_eq_true rfl) (by rw [hR]; exact Nat.le_of_ble_eq_true rfl) (Nat.zero_le _) (Nat.zero_le _) hl.1 dX0_start_15 ?_
  obtain ⟨b1, h⟩ := xk_i h
  refine x_iald C hw 2 0 rfl rfl b1 dX0_start_18 ?_
  obtain rfl := Option.some.inj h
  exact x_reti C hQ hA hw dX0_start_19
noncomputable def f_X0_countWith_L1 (k_n : Int32) (k_starts : (Nat → Int32)) (r_1 : Int32) (k_firsts : (Nat → Int32)) (k_inOrder : (Nat → Int32)) (r_2 : Int32) (z : Int32 × Int32) : Option ((Int32 × Int32) ⊕ (Int32)) := match z with
  | (v4_4, v5_5) => xn (f_X0_start k_n k_starts (r_1 + (1 : Int32))) (fun (r_7 : Int32) => xb (r_7 ≤ v5_5) (some (.inr v4_4)) (xk (vp_in v5_5 256) (xn (f_X0_first k_firsts (k_inOrder v5_5.toNatClampNeg)) (fun (r_8 : Int32) => xb (r_8 = r_2) (some (.inl ((v4_4 + (1 : Int32)), (v5_5 + (1 : Int32))))) (some (.inl (v4_4, (v5_5 + (1 : Int32)))))))))
noncomputable def f_X0_countWith (k_n : Int32) (k_inOrder : (Nat → Int32)) (k_starts : (Nat → Int32)) (k_firsts : (Nat → Int32)) (v1 : Int32) : Option (Int32) := xn (f_J6_bitCount_0f7a4 v1) (fun (r_1 : Int32) => xn (f_X0_first k_firsts v1) (fun (r_2 : Int32) => xn (f_X0_start k_n k_starts r_1) (fun (r_3 : Int32) => xn (xL (f_X0_countWith_L1 k_n k_starts r_1 k_firsts k_inOrder r_2) ((0 : Int32), r_3)) (fun (v4_6 : Int32) => some v4_6))))
set_option maxHeartbeats 4000000 in
set_option maxRecDepth 100000 in
theorem c_X0_countWith (l : Launch) (dC : Nat → ClassId) (dI : Nat → Nat → Nat) (cI cZ cB cO : ClassId) (k_ad : Nat) (k_p : Nat → Nat) (k_n : Int32) (k_inOrder : (Nat → Int32)) (k_starts : (Nat → Int32)) (k_firsts : (Nat → Int32)) (k_reached : (Nat → Int32)) (k_reachedAt : (Nat → Int32)) (k_reachedCount : Int32) (v1 : Int32) (o : Int32) (h : f_X0_countWith k_n k_inOrder k_starts k_firsts v1 = some o) (sz : Nat) : Met l yX0_countWith (xW yX0_countWith cX0_countWith 6 (some .int)) { frames := 2, cells := 0, slots := 0, locals := 45 } (xPre dC dI (xT cI cZ cB cO) [.ref k_ad, .int v1] (wK cI cZ cB cO k_ad k_p k_n k_inOrder k_starts k_firsts k_reached k_reachedAt k_reachedCount) sz) (xQi dC dI (xT cI cZ cB cO) o (wK cI cZ cB cO k_ad k_p k_n k_inOrder k_starts k_firsts k_reached k_reachedAt k_reachedCount) (wK cI cZ cB cO k_ad k_p k_n k_inOrder k_starts k_firsts k_reached k_reachedAt k_reachedCount) sz) 0 0 (va_A (wK cI cZ cB cO k_ad k_p k_n k_inOrder k_starts k_firsts k_reached k_reachedAt k_reachedCount) sz) := by
  refine x_met (by decide) (Nat.le_of_ble_eq_true rfl) ?_
  intro p e s m args below meth c R Q A hR hsz hA hQ hin C hw ls hl
  have hx := C.1
  have hb := C.2.1
  have hown := C.2.2.2.1
  have htb := C.2.2.2.2.1
  have hl : lv_has ls 6 [(0, .ref k_ad), (1, .int v1)] := hl
  refine lv_iload_n hx hb dX0_countWith_0 rfl (lv_at hl 1 rfl) ?_
  obtain ⟨r_1, q1, h⟩ := xn_i h
  refine x_callSi (As := [.int v1]) (rest := []) C hw gc_X0_47 ds_J6_bitCount_0f7a4 (by rw [hR]; exact Nat.le_of_ble_eq_true rfl) (by rw [hR]; exact Nat.le_of_ble_eq_true rfl) rfl rfl (Nat.zero_le _) (Nat.zero_le _) (c_J6_bitCount_0f7a4 l dC dI cI cZ cB cO v1 _ q1 _) [] [0, 1, 2, 3, 4, 5] (by decide) rfl rfl (by decide) (by decide) rfl hl.1 rfl (Nat.le_of_ble_eq_true rfl) dX0_countWith_1 (fun H locs hw => ?_)
  have hw : xWd (dC, dI) A s.heap H locs (wK cI cZ cB cO k_ad k_p k_n k_inOrder k_starts k_firsts k_reached k_reachedAt k_reachedCount) := hw.sub [0, 1, 2, 3, 4, 5] (by decide) rfl
  refine lv_istore_n (lv' := [(2, .int r_1), (0, .ref k_ad), (1, .int v1)]) hx hb dX0_countWith_4 rfl hl (by decide) rfl (fun ls hl => ?_)
  refine lv_aload_n hx hb dX0_countWith_5 rfl (lv_at hl 1 rfl) ?_
  refine lv_iload_n hx hb dX0_countWith_6 rfl (lv_at hl 2 rfl) ?_
  obtain ⟨r_2, q2, h⟩ := xn_i h
  refine x_callVi (As := [.int v1]) (rest := []) C hw gc_X0_101 ⟨rfl, rfl, ds_X0_first, (by rw [hR]; exact Nat.le_of_ble_eq_true rfl), (by rw [hR]; exact Nat.le_of_ble_eq_true rfl), Nat.zero_le _, Nat.zero_le _⟩ (c_X0_first l dC dI cI cZ cB cO k_ad k_p k_n k_inOrder k_starts k_firsts k_reached k_reachedAt k_reachedCount v1 _ q2 _) [0, 1, 2, 3, 4, 5] [] (by decide) rfl rfl (by decide) (by decide) rfl rfl rfl hl.1 rfl (Nat.le_of_ble_eq_true rfl) dX0_countWith_7 (fun H locs hw => ?_)
  have hw : xWd (dC, dI) A s.heap H locs (wK cI cZ cB cO k_ad k_p k_n k_inOrder k_starts k_firsts k_reached k_reachedAt k_reachedCount) := hw
  refine lv_istore_n (lv' := [(3, .int r_2), (2, .int r_1), (0, .ref k_ad), (1, .int v1)]) hx hb dX0_countWith_10 rfl hl (by decide) rfl (fun ls hl => ?_)
  refine lv_iconst (v := (0 : Int32)) hx hb dX0_countWith_11 (by decide) ?_
  refine lv_istore (lv' := [(4, .int (0 : Int32)), (3, .int r_2), (2, .int r_1), (0, .ref k_ad), (1, .int v1)]) hx hb dX0_countWith_12 hl (by decide) rfl (fun ls hl => ?_)
  refine lv_aload_n hx hb dX0_countWith_14 rfl (lv_at hl 3 rfl) ?_
  refine lv_iload_n hx hb dX0_countWith_15 rfl (lv_at hl 2 rfl) ?_
  obtain ⟨r_3, q3, h⟩ := xn_i h
  refine x_callVi (As := [.int r_1]) (rest := []) C hw gc_X0_104 ⟨rfl, rfl, ds_X0_start, (by rw [hR]; exact Nat.le_of_ble_eq_true rfl), (by rw [hR]; exact Nat.le_of_ble_eq_true rfl), Nat.zero_le _, Nat.zero_le _⟩ (c_X0_start l dC dI cI cZ cB cO k_ad k_p k_n k_inOrder k_starts k_firsts k_reached k_reachedAt k_reachedCount r_1 _ q3 _) [0, 1, 2, 3, 4, 5] [] (by decide) rfl rfl (by decide) (by decide) rfl rfl rfl hl.1 rfl (Nat.le_of_ble_eq_true rfl) dX0_countWith_16 (fun H locs hw => ?_)
  have hw : xWd (dC, dI) A s.heap H locs (wK cI cZ cB cO k_ad k_p k_n k_inOrder k_starts k_firsts k_reached k_reachedAt k_reachedCount) := hw
  refine lv_istore (lv' := [(5, .int r_3), (4, .int (0 : Int32)), (3, .int r_2), (2, .int r_1), (0, .ref k_ad), (1, .int v1)]) hx hb dX0_countWith_19 hl (by decide) rfl (fun ls hl => ?_)
  obtain ⟨z, hr, h⟩ := xn_i h
  refine xL_w (fun (z : Int32 × Int32) => ∀ (H : Heap) (locs : List Loc) (ls : Array Slot), xWd (dC, dI) A s.heap H locs (wK cI cZ cB cO k_ad k_p k_n k_inOrder k_starts k_firsts k_reached k_reachedAt k_reachedCount) → lv_has ls 6 [(0, .ref k_ad), (2, .int r_1), (3, .int r_2), (4, .int z.1), (5, .int z.2)] → W p l e R s m args below meth c H locs 0 0 Q (F0 m 21 ls [])) (fun (z : Int32) => ∀ (H : Heap) (locs : List Loc) (ls : Array Slot), xWd (dC, dI) A s.heap H locs (wK cI cZ cB cO k_ad k_p k_n k_inOrder k_starts k_firsts k_reached k_reachedAt k_reachedCount) → lv_has ls 6 [(4, .int z)] → W p l e R s m args below meth c H locs 0 0 Q (F0 m 57 ls [])) ?_ hr ?_ _ _ _ hw (lv_sub hl [4, 3, 2, 1, 0] rfl)
  · rintro ⟨v4_4, v5_5⟩ o h k H locs ls hw hl
    have hw : xWd (dC, dI) A s.heap H locs (wK cI cZ cB cO k_ad k_p k_n k_inOrder k_starts k_firsts k_reached k_reachedAt k_reachedCount) := hw
    have hl : lv_has ls 6 [(0, .ref k_ad), (2, .int r_1), (3, .int r_2), (4, .int v4_4), (5, .int v5_5)] := hl
    refine lv_iload hx hb dX0_countWith_21 (lv_at hl 4 rfl) ?_
    refine lv_aload_n hx hb dX0_countWith_23 rfl (lv_at hl 0 rfl) ?_
    refine lv_iload_n hx hb dX0_countWith_24 rfl (lv_at hl 1 rfl) ?_
    refine lv_iconst (v := (1 : Int32)) hx hb dX0_countWith_25 (by decide) ?_
    refine lv_iadd hx hb dX0_countWith_26 ?_
    obtain ⟨r_7, q4, h⟩ := xn_i h
    refine x_callVi (As := [.int (r_1 + (1 : Int32))]) (rest := [.int v5_5]) C hw gc_X0_104 ⟨rfl, rfl, ds_X0_start, (by rw [hR]; exact Nat.le_of_ble_eq_true rfl), (by rw [hR]; exact Nat.le_of_ble_eq_true rfl), Nat.zero_le _, Nat.zero_le _⟩ (c_X0_start l dC dI cI cZ cB cO k_ad k_p k_n k_inOrder k_starts k_firsts k_reached k_reachedAt k_reachedCount (r_1 + (1 : Int32)) _ q4 _) [0, 1, 2, 3, 4, 5] [] (by decide) rfl rfl (by decide) (by decide) rfl rfl rfl hl.1 rfl (Nat.le_of_ble_eq_true rfl) dX0_countWith_27 (fun H locs hw => ?_)
    have hw : xWd (dC, dI) A s.heap H locs (wK cI cZ cB cO k_ad k_p k_n k_inOrder k_starts k_firsts k_reached k_reachedAt k_reachedCount) := hw
    refine lv_icmp_ge (tgt := 57) hx hb dX0_countWith_30 (by decide) (fun b5 => ?_) (fun b5 => ?_)
    · replace h := xb_tt b5 h
      obtain rfl := Option.some.inj h
      exact k _ _ _ hw (lv_sub hl [3] rfl)
    · replace h := xb_ff b5 h
      refine lv_aload_n hx hb dX0_countWith_33 rfl (lv_at hl 0 rfl) ?_
      refine lv_aload_n hx hb dX0_countWith_34 rfl (lv_at hl 0 rfl) ?_
      refine x_get (ci := 0) C hw inX0 rfl 1 (by decide) lkF_X0_15 rfl 0 rfl rfl dX0_countWith_35 ?_
      refine lv_iload hx hb dX0_countWith_38 (lv_at hl 4 rfl) ?_
      obtain ⟨b6, h⟩ := xk_i h
      refine x_iald C hw 1 0 rfl rfl b6 dX0_countWith_40 ?_
      obtain ⟨r_8, q7, h⟩ := xn_i h
      refine x_callVi (As := [.int (k_inOrder v5_5.toNatClampNeg)]) (rest := []) C hw gc_X0_101 ⟨rfl, rfl, ds_X0_first, (by rw [hR]; exact Nat.le_of_ble_eq_true rfl), (by rw [hR]; exact Nat.le_of_ble_eq_true rfl), Nat.zero_le _, Nat.zero_le _⟩ (c_X0_first l dC dI cI cZ cB cO k_ad k_p k_n k_inOrder k_starts k_firsts k_reached k_reachedAt k_reachedCount (k_inOrder v5_5.toNatClampNeg) _ q7 _) [0, 1, 2, 3, 4, 5] [] (by decide) rfl rfl (by decide) (by decide) rfl rfl rfl hl.1 rfl (Nat.le_of_ble_eq_true rfl) dX0_countWith_41 (fun H locs hw => ?_)
      have hw : xWd (dC, dI) A s.heap H locs (wK cI cZ cB cO k_ad k_p k_n k_inOrder k_starts k_firsts k_reached k_reachedAt k_reachedCount) := hw
      refine lv_iload_n hx hb dX0_countWith_44 rfl (lv_at hl 2 rfl) ?_
      refine lv_icmp_ne (tgt := 51) hx hb dX0_countWith_45 (by decide) (fun b8 => ?_) (fun b8 => ?_)
      · replace h := xb_ff b8 h
        refine lv_iinc (v := (v5_5 + (1 : Int32))) (lv' := [(5, .int (v5_5 + (1 : Int32))), (0, .ref k_ad), (2, .int r_1), (3, .int r_2), (4, .int v4_4)]) hx hb dX0_countWith_51 hl (k := 4) rfl (congrArg (fun q => v5_5 + q) (by decide)) (by decide) rfl (fun ls hl => ?_)
        refine lv_goto (tgt := 21) hx hb dX0_countWith_54 (by decide) ?_
        obtain rfl := Option.some.inj h
        exact k _ _ _ hw (lv_sub hl [1, 2, 3, 4, 0] rfl)
      · replace h := xb_tt b8 h
        refine lv_iinc (v := (v4_4 + (1 : Int32))) (lv' := [(4, .int (v4_4 + (1 : Int32))), (0, .ref k_ad), (2, .int r_1), (3, .int r_2), (5, .int v5_5)]) hx hb dX0_countWith_48 hl (k := 3) rfl (congrArg (fun q => v4_4 + q) (by decide)) (by decide) rfl (fun ls hl => ?_)
        refine lv_iinc (v := (v5_5 + (1 : Int32))) (lv' := [(5, .int (v5_5 + (1 : Int32))), (4, .int (v4_4 + (1 : Int32))), (0, .ref k_ad), (2, .int r_1), (3, .int r_2)]) hx hb dX0_countWith_51 hl (k := 4) rfl (congrArg (fun q => v5_5 + q) (by decide)) (by decide) rfl (fun ls hl => ?_)
        refine lv_goto (tgt := 21) hx hb dX0_countWith_54 (by decide) ?_
        obtain rfl := Option.some.inj h
        exact k _ _ _ hw (lv_sub hl [2, 3, 4, 1, 0] rfl)
  · obtain ⟨v4_6, hz⟩ : ∃ q, q = z := ⟨z, rfl⟩
    subst hz
    intro H locs ls hw hl
    have hw : xWd (dC, dI) A s.heap H locs (wK cI cZ cB cO k_ad k_p k_n k_inOrder k_starts k_firsts k_reached k_reachedAt k_reachedCount) := hw
    have hl : lv_has ls 6 [(4, .int v4_6)] := hl
    refine lv_iload hx hb dX0_countWith_57 (lv_at hl 0 rfl) ?_
    obtain rfl := Option.some.inj h
    exact x_reti C hQ hA hw dX0_countWith_59
noncomputable def f_X0_nthWith_L1 (k_n : Int32) (k_starts : (Nat → Int32)) (r_1 : Int32) (k_firsts : (Nat → Int32)) (k_inOrder : (Nat → Int32)) (r_2 : Int32) (z : Int32 × Int32) : Option ((Int32 × Int32) ⊕ ((Unit) ⊕ (Int32))) := match z with
  | (v5_4, v6_5) => xn (f_X0_start k_n k_starts (r_1 + (1 : Int32))) (fun (r_6 : Int32) => xb (r_6 ≤ v6_5) (some (.inr (.inl ()))) (xk (vp_in v6_5 256) (xn (f_X0_first k_firsts (k_inOrder v6_5.toNatClampNeg)) (fun (r_7 : Int32) => xb (r_7 = r_2) (xb (v5_4 = 0) (some (.inr (.inr (k_inOrder v6_5.toNatClampNeg)))) (some (.inl ((v5_4 + (-1 : Int32)), (v6_5 + (1 : Int32)))))) (some (.inl (v5_4, (v6_5 + (1 : Int32)))))))))
noncomputable def f_X0_nthWith (k_n : Int32) (k_inOrder : (Nat → Int32)) (k_starts : (Nat → Int32)) (k_firsts : (Nat → Int32)) (v1 : Int32) (v2 : Int32) : Option (Int32) := xn (f_J6_bitCount_0f7a4 v1) (fun (r_1 : Int32) => xn (f_X0_first k_firsts v1) (fun (r_2 : Int32) => xn (f_X0_start k_n k_starts r_1) (fun (r_3 : Int32) => xn (xL (f_X0_nthWith_L1 k_n k_starts r_1 k_firsts k_inOrder r_2) (v2, r_3)) (fun (x : (Unit) ⊕ (Int32)) => match x with | .inl z => (fun (_ : Unit) => some (-5 : Int32)) z | .inr z => some z))))
set_option maxHeartbeats 4000000 in
set_option maxRecDepth 100000 in
theorem c_X0_nthWith (l : Launch) (dC : Nat → ClassId) (dI : Nat → Nat → Nat) (cI cZ cB cO : ClassId) (k_ad : Nat) (k_p : Nat → Nat) (k_n : Int32) (k_inOrder : (Nat → Int32)) (k_starts : (Nat → Int32)) (k_firsts : (Nat → Int32)) (k_reached : (Nat → Int32)) (k_reachedAt : (Nat → Int32)) (k_reachedCount : Int32) (v1 : Int32) (v2 : Int32) (o : Int32) (h : f_X0_nthWith k_n k_inOrder k_starts k_firsts v1 v2 = some o) (sz : Nat) : Met l yX0_nthWith (xW yX0_nthWith cX0_nthWith 7 (some .int)) { frames := 2, cells := 0, slots := 0, locals := 45 } (xPre dC dI (xT cI cZ cB cO) [.ref k_ad, .int v1, .int v2] (wK cI cZ cB cO k_ad k_p k_n k_inOrder k_starts k_firsts k_reached k_reachedAt k_reachedCount) sz) (xQi dC dI (xT cI cZ cB cO) o (wK cI cZ cB cO k_ad k_p k_n k_inOrder k_starts k_firsts k_reached k_reachedAt k_reachedCount) (wK cI cZ cB cO k_ad k_p k_n k_inOrder k_starts k_firsts k_reached k_reachedAt k_reachedCount) sz) 0 0 (va_A (wK cI cZ cB cO k_ad k_p k_n k_inOrder k_starts k_firsts k_reached k_reachedAt k_reachedCount) sz) := by
  refine x_met (by decide) (Nat.le_of_ble_eq_true rfl) ?_
  intro p e s m args below meth c R Q A hR hsz hA hQ hin C hw ls hl
  have hx := C.1
  have hb := C.2.1
  have hown := C.2.2.2.1
  have htb := C.2.2.2.2.1
  have hl : lv_has ls 7 [(0, .ref k_ad), (1, .int v1), (2, .int v2)] := hl
  refine lv_iload_n hx hb dX0_nthWith_0 rfl (lv_at hl 1 rfl) ?_
  obtain ⟨r_1, q1, h⟩ := xn_i h
  refine x_callSi (As := [.int v1]) (rest := []) C hw gc_X0_47 ds_J6_bitCount_0f7a4 (by rw [hR]; exact Nat.le_of_ble_eq_true rfl) (by rw [hR]; exact Nat.le_of_ble_eq_true rfl) rfl rfl (Nat.zero_le _) (Nat.zero_le _) (c_J6_bitCount_0f7a4 l dC dI cI cZ cB cO v1 _ q1 _) [] [0, 1, 2, 3, 4, 5] (by decide) rfl rfl (by decide) (by decide) rfl hl.1 rfl (Nat.le_of_ble_eq_true rfl) dX0_nthWith_1 (fun H locs hw => ?_)
  have hw : xWd (dC, dI) A s.heap H locs (wK cI cZ cB cO k_ad k_p k_n k_inOrder k_starts k_firsts k_reached k_reachedAt k_reachedCount) := hw.sub [0, 1, 2, 3, 4, 5] (by decide) rfl
  refine lv_istore_n (lv' := [(3, .int r_1), (0, .ref k_ad), (1, .int v1), (2, .int v2)]) hx hb dX0_nthWith_4 rfl hl (by decide) rfl (fun ls hl => ?_)
  refine lv_aload_n hx hb dX0_nthWith_5 rfl (lv_at hl 1 rfl) ?_
  refine lv_iload_n hx hb dX0_nthWith_6 rfl (lv_at hl 2 rfl) ?_
  obtain ⟨r_2, q2, h⟩ := xn_i h
  refine x_callVi (As := [.int v1]) (rest := []) C hw gc_X0_101 ⟨rfl, rfl, ds_X0_first, (by rw [hR]; exact Nat.le_of_ble_eq_true rfl), (by rw [hR]; exact Nat.le_of_ble_eq_true rfl), Nat.zero_le _, Nat.zero_le _⟩ (c_X0_first l dC dI cI cZ cB cO k_ad k_p k_n k_inOrder k_starts k_firsts k_reached k_reachedAt k_reachedCount v1 _ q2 _) [0, 1, 2, 3, 4, 5] [] (by decide) rfl rfl (by decide) (by decide) rfl rfl rfl hl.1 rfl (Nat.le_of_ble_eq_true rfl) dX0_nthWith_7 (fun H locs hw => ?_)
  have hw : xWd (dC, dI) A s.heap H locs (wK cI cZ cB cO k_ad k_p k_n k_inOrder k_starts k_firsts k_reached k_reachedAt k_reachedCount) := hw
  refine lv_istore (lv' := [(4, .int r_2), (3, .int r_1), (0, .ref k_ad), (1, .int v1), (2, .int v2)]) hx hb dX0_nthWith_10 hl (by decide) rfl (fun ls hl => ?_)
  refine lv_iload_n hx hb dX0_nthWith_12 rfl (lv_at hl 4 rfl) ?_
  refine lv_istore (lv' := [(5, .int v2), (4, .int r_2), (3, .int r_1), (0, .ref k_ad), (1, .int v1), (2, .int v2)]) hx hb dX0_nthWith_13 hl (by decide) rfl (fun ls hl => ?_)
  refine lv_aload_n hx hb dX0_nthWith_15 rfl (lv_at hl 3 rfl) ?_
  refine lv_iload_n hx hb dX0_nthWith_16 rfl (lv_at hl 2 rfl) ?_
  obtain ⟨r_3, q3, h⟩ := xn_i h
  refine x_callVi (As := [.int r_1]) (rest := []) C hw gc_X0_104 ⟨rfl, rfl, ds_X0_start, (by rw [hR]; exact Nat.le_of_ble_eq_true rfl), (by rw [hR]; exact Nat.le_of_ble_eq_true rfl), Nat.zero_le _, Nat.zero_le _⟩ (c_X0_start l dC dI cI cZ cB cO k_ad k_p k_n k_inOrder k_starts k_firsts k_reached k_reachedAt k_reachedCount r_1 _ q3 _) [0, 1, 2, 3, 4, 5] [] (by decide) rfl rfl (by decide) (by decide) rfl rfl rfl hl.1 rfl (Nat.le_of_ble_eq_true rfl) dX0_nthWith_17 (fun H locs hw => ?_)
  have hw : xWd (dC, dI) A s.heap H locs (wK cI cZ cB cO k_ad k_p k_n k_inOrder k_starts k_firsts k_reached k_reachedAt k_reachedCount) := hw
  refine lv_istore (lv' := [(6, .int r_3), (5, .int v2), (4, .int r_2), (3, .int r_1), (0, .ref k_ad), (1, .int v1), (2, .int v2)]) hx hb dX0_nthWith_20 hl (by decide) rfl (fun ls hl => ?_)
  obtain ⟨z, hr, h⟩ := xn_i h
  refine xL_w (fun (z : Int32 × Int32) => ∀ (H : Heap) (locs : List Loc) (ls : Array Slot), xWd (dC, dI) A s.heap H locs (wK cI cZ cB cO k_ad k_p k_n k_inOrder k_starts k_firsts k_reached k_reachedAt k_reachedCount) → lv_has ls 7 [(0, .ref k_ad), (3, .int r_1), (4, .int r_2), (5, .int z.1), (6, .int z.2)] → W p l e R s m args below meth c H locs 0 0 Q (F0 m 22 ls [])) (Sum.elim (fun (z : Unit) => ∀ (H : Heap) (locs : List Loc) (ls : Array Slot), xWd (dC, dI) A s.heap H locs (wK cI cZ cB cO k_ad k_p k_n k_inOrder k_starts k_firsts k_reached k_reachedAt k_reachedCount) → lv_has ls 7 [] → W p l e R s m args below meth c H locs 0 0 Q (F0 m 72 ls [])) (fun (z : Int32) => ∀ (H : Heap) (locs : List Loc), xWd (dC, dI) A s.heap H locs (wK cI cZ cB cO k_ad k_p k_n k_inOrder k_starts k_firsts k_reached k_reachedAt k_reachedCount) → ∀ (pc : Nat) (ls : Array Slot), decode cX0_nthWith pc = .ok (.ireturn, 1) → W p l e R s m args below meth c H locs 0 0 Q (F0 m pc ls [.int z]))) ?_ hr ?_ _ _ _ hw (lv_sub hl [4, 3, 2, 1, 0] rfl)
  · rintro ⟨v5_4, v6_5⟩ o h k H locs ls hw hl
    have hw : xWd (dC, dI) A s.heap H locs (wK cI cZ cB cO k_ad k_p k_n k_inOrder k_starts k_firsts k_reached k_reachedAt k_reachedCount) := hw
    have hl : lv_has ls 7 [(0, .ref k_ad), (3, .int r_1), (4, .int r_2), (5, .int v5_4), (6, .int v6_5)] := hl
    refine lv_iload hx hb dX0_nthWith_22 (lv_at hl 4 rfl) ?_
    refine lv_aload_n hx hb dX0_nthWith_24 rfl (lv_at hl 0 rfl) ?_
    refine lv_iload_n hx hb dX0_nthWith_25 rfl (lv_at hl 1 rfl) ?_
    refine lv_iconst (v := (1 : Int32)) hx hb dX0_nthWith_26 (by decide) ?_
    refine lv_iadd hx hb dX0_nthWith_27 ?_
    obtain ⟨r_6, q4, h⟩ := xn_i h
    refine x_callVi (As := [.int (r_1 + (1 : Int32))]) (rest := [.int v6_5]) C hw gc_X0_104 ⟨rfl, rfl, ds_X0_start, (by rw [hR]; exact Nat.le_of_ble_eq_true rfl), (by rw [hR]; exact Nat.le_of_ble_eq_true rfl), Nat.zero_le _, Nat.zero_le _⟩ (c_X0_start l dC dI cI cZ cB cO k_ad k_p k_n k_inOrder k_starts k_firsts k_reached k_reachedAt k_reachedCount (r_1 + (1 : Int32)) _ q4 _) [0, 1, 2, 3, 4, 5] [] (by decide) rfl rfl (by decide) (by decide) rfl rfl rfl hl.1 rfl (Nat.le_of_ble_eq_true rfl) dX0_nthWith_28 (fun H locs hw => ?_)
    have hw : xWd (dC, dI) A s.heap H locs (wK cI cZ cB cO k_ad k_p k_n k_inOrder k_starts k_firsts k_reached k_reachedAt k_reachedCount) := hw
    refine lv_icmp_ge (tgt := 72) hx hb dX0_nthWith_31 (by decide) (fun b5 => ?_) (fun b5 => ?_)
    · replace h := xb_tt b5 h
      obtain rfl := Option.some.inj h
      exact k _ _ _ hw (lv_sub hl [] rfl)
    · replace h := xb_ff b5 h
      refine lv_aload_n hx hb dX0_nthWith_34 rfl (lv_at hl 0 rfl) ?_
      refine lv_aload_n hx hb dX0_nthWith_35 rfl (lv_at hl 0 rfl) ?_
      refine x_get (ci := 0) C hw inX0 rfl 1 (by decide) lkF_X0_15 rfl 0 rfl rfl dX0_nthWith_36 ?_
      refine lv_iload hx hb dX0_nthWith_39 (lv_at hl 4 rfl) ?_
      obtain ⟨b6, h⟩ := xk_i h
      refine x_iald C hw 1 0 rfl rfl b6 dX0_nthWith_41 ?_
      obtain ⟨r_7, q7, h⟩ := xn_i h
      refine x_callVi (As := [.int (k_inOrder v6_5.toNatClampNeg)]) (rest := []) C hw gc_X0_101 ⟨rfl, rfl, ds_X0_first, (by rw [hR]; exact Nat.le_of_ble_eq_true rfl), (by rw [hR]; exact Nat.le_of_ble_eq_true rfl), Nat.zero_le _, Nat.zero_le _⟩ (c_X0_first l dC dI cI cZ cB cO k_ad k_p k_n k_inOrder k_starts k_firsts k_reached k_reachedAt k_reachedCount (k_inOrder v6_5.toNatClampNeg) _ q7 _) [0, 1, 2, 3, 4, 5] [] (by decide) rfl rfl (by decide) (by decide) rfl rfl rfl hl.1 rfl (Nat.le_of_ble_eq_true rfl) dX0_nthWith_42 (fun H locs hw => ?_)
      have hw : xWd (dC, dI) A s.heap H locs (wK cI cZ cB cO k_ad k_p k_n k_inOrder k_starts k_firsts k_reached k_reachedAt k_reachedCount) := hw
      refine lv_iload hx hb dX0_nthWith_45 (lv_at hl 2 rfl) ?_
      refine lv_icmp_ne (tgt := 66) hx hb dX0_nthWith_47 (by decide) (fun b8 => ?_) (fun b8 => ?_)
      · replace h := xb_ff b8 h
        refine lv_iinc (v := (v6_5 + (1 : Int32))) (lv' := [(6, .int (v6_5 + (1 : Int32))), (0, .ref k_ad), (3, .int r_1), (4, .int r_2), (5, .int v5_4)]) hx hb dX0_nthWith_66 hl (k := 4) rfl (congrArg (fun q => v6_5 + q) (by decide)) (by decide) rfl (fun ls hl => ?_)
        refine lv_goto (tgt := 22) hx hb dX0_nthWith_69 (by decide) ?_
        obtain rfl := Option.some.inj h
        exact k _ _ _ hw (lv_sub hl [1, 2, 3, 4, 0] rfl)
      · replace h := xb_tt b8 h
        refine lv_iload hx hb dX0_nthWith_50 (lv_at hl 3 rfl) ?_
        refine lv_if_ne (tgt := 63) hx hb dX0_nthWith_52 (by decide) (fun b9 => ?_) (fun b9 => ?_)
        · replace h := xb_ff b9 h
          refine lv_iinc (v := (v5_4 + (-1 : Int32))) (lv' := [(5, .int (v5_4 + (-1 : Int32))), (0, .ref k_ad), (3, .int r_1), (4, .int r_2), (6, .int v6_5)]) hx hb dX0_nthWith_63 hl (k := 3) rfl (congrArg (fun q => v5_4 + q) (by decide)) (by decide) rfl (fun ls hl => ?_)
          refine lv_iinc (v := (v6_5 + (1 : Int32))) (lv' := [(6, .int (v6_5 + (1 : Int32))), (5, .int (v5_4 + (-1 : Int32))), (0, .ref k_ad), (3, .int r_1), (4, .int r_2)]) hx hb dX0_nthWith_66 hl (k := 4) rfl (congrArg (fun q => v6_5 + q) (by decide)) (by decide) rfl (fun ls hl => ?_)
          refine lv_goto (tgt := 22) hx hb dX0_nthWith_69 (by decide) ?_
          obtain rfl := Option.some.inj h
          exact k _ _ _ hw (lv_sub hl [2, 3, 4, 1, 0] rfl)
        · replace h := xb_tt b9 h
          refine lv_aload_n hx hb dX0_nthWith_55 rfl (lv_at hl 0 rfl) ?_
          refine x_get (ci := 0) C hw inX0 rfl 1 (by decide) lkF_X0_15 rfl 0 rfl rfl dX0_nthWith_56 ?_
          refine lv_iload hx hb dX0_nthWith_59 (lv_at hl 4 rfl) ?_
          refine x_iald C hw 1 0 rfl rfl b6 dX0_nthWith_61 ?_
          obtain rfl := Option.some.inj h
          exact k _ _ hw _ _ dX0_nthWith_62
  · rcases z with z | z
    · intro H locs ls hw hl
      have hw : xWd (dC, dI) A s.heap H locs (wK cI cZ cB cO k_ad k_p k_n k_inOrder k_starts k_firsts k_reached k_reachedAt k_reachedCount) := hw
      have hl : lv_has ls 7 [] := hl
      refine lv_bipush (v := (-5 : Int32)) hx hb dX0_nthWith_72 (by decide) ?_
      obtain rfl := Option.some.inj h
      exact x_reti C hQ hA hw dX0_nthWith_74
    · obtain rfl := Option.some.inj h
      intro H locs hw pc ls hd
      exact x_reti C hQ hA hw hd
noncomputable def f_X0_isFirst (k_firsts : (Nat → Int32)) (v1 : Int32) : Option (Int32) := xn (f_X0_first k_firsts v1) (fun (r_1 : Int32) => xb (r_1 = v1) (some (1 : Int32)) (some (0 : Int32)))
set_option maxHeartbeats 4000000 in
set_option maxRecDepth 100000 in
theorem c_X0_isFirst (l : Launch) (dC : Nat → ClassId) (dI : Nat → Nat → Nat) (cI cZ cB cO : ClassId) (k_ad : Nat) (k_p : Nat → Nat) (k_n : Int32) (k_inOrder : (Nat → Int32)) (k_starts : (Nat → Int32)) (k_firsts : (Nat → Int32)) (k_reached : (Nat → Int32)) (k_reachedAt : (Nat → Int32)) (k_reachedCount : Int32) (v1 : Int32) (o : Int32) (h : f_X0_isFirst k_firsts v1 = some o) (sz : Nat) : Met l yX0_isFirst (xW yX0_isFirst cX0_isFirst 2 (some .boolean)) { frames := 1, cells := 0, slots := 0, locals := 21 } (xPre dC dI (xT cI cZ cB cO) [.ref k_ad, .int v1] (wK cI cZ cB cO k_ad k_p k_n k_inOrder k_starts k_firsts k_reached k_reachedAt k_reachedCount) sz) (xQi dC dI (xT cI cZ cB cO) o (wK cI cZ cB cO k_ad k_p k_n k_inOrder k_starts k_firsts k_reached k_reachedAt k_reachedCount) (wK cI cZ cB cO k_ad k_p k_n k_inOrder k_starts k_firsts k_reached k_reachedAt k_reachedCount) sz) 0 0 (va_A (wK cI cZ cB cO k_ad k_p k_n k_inOrder k_starts k_firsts k_reached k_reachedAt k_reachedCount) sz) := by
  refine x_met (by decide) (Nat.le_of_ble_eq_true rfl) ?_
  intro p e s m args below meth c R Q A hR hsz hA hQ hin C hw ls hl
  have hx := C.1
  have hb := C.2.1
  have hown := C.2.2.2.1
  have htb := C.2.2.2.2.1
  have hl : lv_has ls 2 [(0, .ref k_ad), (1, .int v1)] := hl
  refine lv_aload_n hx hb dX0_isFirst_0 rfl (lv_at hl 0 rfl) ?_
  refine lv_iload_n hx hb dX0_isFirst_1 rfl (lv_at hl 1 rfl) ?_
  obtain ⟨r_1, q1, h⟩ := xn_i h
  refine x_callVi (As := [.int v1]) (rest := []) C hw gc_X0_101 ⟨rfl, rfl, ds_X0_first, (by rw [hR]; exact Nat.le_of_ble_eq_true rfl), (by rw [hR]; exact Nat.le_of_ble_eq_true rfl), Nat.zero_le _, Nat.zero_le _⟩ (c_X0_first l dC dI cI cZ cB cO k_ad k_p k_n k_inOrder k_starts k_firsts k_reached k_reachedAt k_reachedCount v1 _ q1 _) [0, 1, 2, 3, 4, 5] [] (by decide) rfl rfl (by decide) (by decide) rfl rfl rfl hl.1 rfl (Nat.le_of_ble_eq_true rfl) dX0_isFirst_2 (fun H locs hw => ?_)
  have hw : xWd (dC, dI) A s.heap H locs (wK cI cZ cB cO k_ad k_p k_n k_inOrder k_starts k_firsts k_reached k_reachedAt k_reachedCount) := hw
  refine lv_iload_n hx hb dX0_isFirst_5 rfl (lv_at hl 1 rfl) ?_
  refine lv_icmp_ne (tgt := 13) hx hb dX0_isFirst_6 (by decide) (fun b2 => ?_) (fun b2 => ?_)
  · replace h := xb_ff b2 h
    refine lv_iconst (v := (0 : Int32)) hx hb dX0_isFirst_13 (by decide) ?_
    obtain rfl := Option.some.inj h
    exact x_retz C hQ hA hw (by decide) dX0_isFirst_14
  · replace h := xb_tt b2 h
    refine lv_iconst (v := (1 : Int32)) hx hb dX0_isFirst_9 (by decide) ?_
    refine lv_goto (tgt := 14) hx hb dX0_isFirst_10 (by decide) ?_
    obtain rfl := Option.some.inj h
    exact x_retz C hQ hA hw (by decide) dX0_isFirst_14
noncomputable def f_X0_countFirsts_L1 (k_n : Int32) (k_starts : (Nat → Int32)) (v1 : Int32) (k_firsts : (Nat → Int32)) (k_inOrder : (Nat → Int32)) (z : Int32 × Int32) : Option ((Int32 × Int32) ⊕ (Int32)) := match z with
  | (v2_2, v3_3) => xn (f_X0_start k_n k_starts (v1 + (1 : Int32))) (fun (r_5 : Int32) => xb (r_5 ≤ v3_3) (some (.inr v2_2)) (xk (vp_in v3_3 256) (xn (f_X0_isFirst k_firsts (k_inOrder v3_3.toNatClampNeg)) (fun (r_6 : Int32) => xb (r_6 = 0) (some (.inl (v2_2, (v3_3 + (1 : Int32))))) (some (.inl ((v2_2 + (1 : Int32)), (v3_3 + (1 : Int32)))))))))
noncomputable def f_X0_countFirsts (k_n : Int32) (k_inOrder : (Nat → Int32)) (k_starts : (Nat → Int32)) (k_firsts : (Nat → Int32)) (v1 : Int32) : Option (Int32) := xn (f_X0_start k_n k_starts v1) (fun (r_1 : Int32) => xn (xL (f_X0_countFirsts_L1 k_n k_starts v1 k_firsts k_inOrder) ((0 : Int32), r_1)) (fun (v2_4 : Int32) => some v2_4))
set_option maxHeartbeats 4000000 in
set_option maxRecDepth 100000 in
theorem c_X0_countFirsts (l : Launch) (dC : Nat → ClassId) (dI : Nat → Nat → Nat) (cI cZ cB cO : ClassId) (k_ad : Nat) (k_p : Nat → Nat) (k_n : Int32) (k_inOrder : (Nat → Int32)) (k_starts : (Nat → Int32)) (k_firsts : (Nat → Int32)) (k_reached : (Nat → Int32)) (k_reachedAt : (Nat → Int32)) (k_reachedCount : Int32) (v1 : Int32) (o : Int32) (h : f_X0_countFirsts k_n k_inOrder k_starts k_firsts v1 = some o) (sz : Nat) : Met l yX0_countFirsts (xW yX0_countFirsts cX0_countFirsts 4 (some .int)) { frames := 2, cells := 0, slots := 0, locals := 45 } (xPre dC dI (xT cI cZ cB cO) [.ref k_ad, .int v1] (wK cI cZ cB cO k_ad k_p k_n k_inOrder k_starts k_firsts k_reached k_reachedAt k_reachedCount) sz) (xQi dC dI (xT cI cZ cB cO) o (wK cI cZ cB cO k_ad k_p k_n k_inOrder k_starts k_firsts k_reached k_reachedAt k_reachedCount) (wK cI cZ cB cO k_ad k_p k_n k_inOrder k_starts k_firsts k_reached k_reachedAt k_reachedCount) sz) 0 0 (va_A (wK cI cZ cB cO k_ad k_p k_n k_inOrder k_starts k_firsts k_reached k_reachedAt k_reachedCount) sz) := by
  refine x_met (by decide) (Nat.le_of_ble_eq_true rfl) ?_
  intro p e s m args below meth c R Q A hR hsz hA hQ hin C hw ls hl
  have hx := C.1
  have hb := C.2.1
  have hown := C.2.2.2.1
  have htb := C.2.2.2.2.1
  have hl : lv_has ls 4 [(0, .ref k_ad), (1, .int v1)] := hl
  refine lv_iconst (v := (0 : Int32)) hx hb dX0_countFirsts_0 (by decide) ?_
  refine lv_istore_n (lv' := [(2, .int (0 : Int32)), (0, .ref k_ad), (1, .int v1)]) hx hb dX0_countFirsts_1 rfl hl (by decide) rfl (fun ls hl => ?_)
  refine lv_aload_n hx hb dX0_countFirsts_2 rfl (lv_at hl 1 rfl) ?_
  refine lv_iload_n hx hb dX0_countFirsts_3 rfl (lv_at hl 2 rfl) ?_
  obtain ⟨r_1, q1, h⟩ := xn_i h
  refine x_callVi (As := [.int v1]) (rest := []) C hw gc_X0_104 ⟨rfl, rfl, ds_X0_start, (by rw [hR]; exact Nat.le_of_ble_eq_true rfl), (by rw [hR]; exact Nat.le_of_ble_eq_true rfl), Nat.zero_le _, Nat.zero_le _⟩ (c_X0_start l dC dI cI cZ cB cO k_ad k_p k_n k_inOrder k_starts k_firsts k_reached k_reachedAt k_reachedCount v1 _ q1 _) [0, 1, 2, 3, 4, 5] [] (by decide) rfl rfl (by decide) (by decide) rfl rfl rfl hl.1 rfl (Nat.le_of_ble_eq_true rfl) dX0_countFirsts_4 (fun H locs hw => ?_)
  have hw : xWd (dC, dI) A s.heap H locs (wK cI cZ cB cO k_ad k_p k_n k_inOrder k_starts k_firsts k_reached k_reachedAt k_reachedCount) := hw
  refine lv_istore_n (lv' := [(3, .int r_1), (2, .int (0 : Int32)), (0, .ref k_ad), (1, .int v1)]) hx hb dX0_countFirsts_7 rfl hl (by decide) rfl (fun ls hl => ?_)
  obtain ⟨z, hr, h⟩ := xn_i h
  refine xL_w (fun (z : Int32 × Int32) => ∀ (H : Heap) (locs : List Loc) (ls : Array Slot), xWd (dC, dI) A s.heap H locs (wK cI cZ cB cO k_ad k_p k_n k_inOrder k_starts k_firsts k_reached k_reachedAt k_reachedCount) → lv_has ls 4 [(0, .ref k_ad), (1, .int v1), (2, .int z.1), (3, .int z.2)] → W p l e R s m args below meth c H locs 0 0 Q (F0 m 8 ls [])) (fun (z : Int32) => ∀ (H : Heap) (locs : List Loc) (ls : Array Slot), xWd (dC, dI) A s.heap H locs (wK cI cZ cB cO k_ad k_p k_n k_inOrder k_starts k_firsts k_reached k_reachedAt k_reachedCount) → lv_has ls 4 [(2, .int z)] → W p l e R s m args below meth c H locs 0 0 Q (F0 m 41 ls [])) ?_ hr ?_ _ _ _ hw (lv_sub hl [2, 3, 1, 0] rfl)
  · rintro ⟨v2_2, v3_3⟩ o h k H locs ls hw hl
    have hw : xWd (dC, dI) A s.heap H locs (wK cI cZ cB cO k_ad k_p k_n k_inOrder k_starts k_firsts k_reached k_reachedAt k_reachedCount) := hw
    have hl : lv_has ls 4 [(0, .ref k_ad), (1, .int v1), (2, .int v2_2), (3, .int v3_3)] := hl
    refine lv_iload_n hx hb dX0_countFirsts_8 rfl (lv_at hl 3 rfl) ?_
    refine lv_aload_n hx hb dX0_countFirsts_9 rfl (lv_at hl 0 rfl) ?_
    refine lv_iload_n hx hb dX0_countFirsts_10 rfl (lv_at hl 1 rfl) ?_
    refine lv_iconst (v := (1 : Int32)) hx hb dX0_countFirsts_11 (by decide) ?_
    refine lv_iadd hx hb dX0_countFirsts_12 ?_
    obtain ⟨r_5, q2, h⟩ := xn_i h
    refine x_callVi (As := [.int (v1 + (1 : Int32))]) (rest := [.int v3_3]) C hw gc_X0_104 ⟨rfl, rfl, ds_X0_start, (by rw [hR]; exact Nat.le_of_ble_eq_true rfl), (by rw [hR]; exact Nat.le_of_ble_eq_true rfl), Nat.zero_le _, Nat.zero_le _⟩ (c_X0_start l dC dI cI cZ cB cO k_ad k_p k_n k_inOrder k_starts k_firsts k_reached k_reachedAt k_reachedCount (v1 + (1 : Int32)) _ q2 _) [0, 1, 2, 3, 4, 5] [] (by decide) rfl rfl (by decide) (by decide) rfl rfl rfl hl.1 rfl (Nat.le_of_ble_eq_true rfl) dX0_countFirsts_13 (fun H locs hw => ?_)
    have hw : xWd (dC, dI) A s.heap H locs (wK cI cZ cB cO k_ad k_p k_n k_inOrder k_starts k_firsts k_reached k_reachedAt k_reachedCount) := hw
    refine lv_icmp_ge (tgt := 41) hx hb dX0_countFirsts_16 (by decide) (fun b3 => ?_) (fun b3 => ?_)
    · replace h := xb_tt b3 h
      obtain rfl := Option.some.inj h
      exact k _ _ _ hw (lv_sub hl [2] rfl)
    · replace h := xb_ff b3 h
      refine lv_aload_n hx hb dX0_countFirsts_19 rfl (lv_at hl 0 rfl) ?_
      refine lv_aload_n hx hb dX0_countFirsts_20 rfl (lv_at hl 0 rfl) ?_
      refine x_get (ci := 0) C hw inX0 rfl 1 (by decide) lkF_X0_15 rfl 0 rfl rfl dX0_countFirsts_21 ?_
      refine lv_iload_n hx hb dX0_countFirsts_24 rfl (lv_at hl 3 rfl) ?_
      obtain ⟨b4, h⟩ := xk_i h
      refine x_iald C hw 1 0 rfl rfl b4 dX0_countFirsts_25 ?_
      obtain ⟨r_6, q5, h⟩ := xn_i h
      refine x_callVi (As := [.int (k_inOrder v3_3.toNatClampNeg)]) (rest := []) C hw gc_X0_107 ⟨rfl, rfl, ds_X0_isFirst, (by rw [hR]; exact Nat.le_of_ble_eq_true rfl), (by rw [hR]; exact Nat.le_of_ble_eq_true rfl), Nat.zero_le _, Nat.zero_le _⟩ (c_X0_isFirst l dC dI cI cZ cB cO k_ad k_p k_n k_inOrder k_starts k_firsts k_reached k_reachedAt k_reachedCount (k_inOrder v3_3.toNatClampNeg) _ q5 _) [0, 1, 2, 3, 4, 5] [] (by decide) rfl rfl (by decide) (by decide) rfl rfl rfl hl.1 rfl (Nat.le_of_ble_eq_true rfl) dX0_countFirsts_26 (fun H locs hw => ?_)
      have hw : xWd (dC, dI) A s.heap H locs (wK cI cZ cB cO k_ad k_p k_n k_inOrder k_starts k_firsts k_reached k_reachedAt k_reachedCount) := hw
      refine lv_if_eq (tgt := 35) hx hb dX0_countFirsts_29 (by decide) (fun b6 => ?_) (fun b6 => ?_)
      · replace h := xb_tt b6 h
        refine lv_iinc (v := (v3_3 + (1 : Int32))) (lv' := [(3, .int (v3_3 + (1 : Int32))), (0, .ref k_ad), (1, .int v1), (2, .int v2_2)]) hx hb dX0_countFirsts_35 hl (k := 3) rfl (congrArg (fun q => v3_3 + q) (by decide)) (by decide) rfl (fun ls hl => ?_)
        refine lv_goto (tgt := 8) hx hb dX0_countFirsts_38 (by decide) ?_
        obtain rfl := Option.some.inj h
        exact k _ _ _ hw (lv_sub hl [1, 2, 3, 0] rfl)
      · replace h := xb_ff b6 h
        refine lv_iinc (v := (v2_2 + (1 : Int32))) (lv' := [(2, .int (v2_2 + (1 : Int32))), (0, .ref k_ad), (1, .int v1), (3, .int v3_3)]) hx hb dX0_countFirsts_32 hl (k := 2) rfl (congrArg (fun q => v2_2 + q) (by decide)) (by decide) rfl (fun ls hl => ?_)
        refine lv_iinc (v := (v3_3 + (1 : Int32))) (lv' := [(3, .int (v3_3 + (1 : Int32))), (2, .int (v2_2 + (1 : Int32))), (0, .ref k_ad), (1, .int v1)]) hx hb dX0_countFirsts_35 hl (k := 3) rfl (congrArg (fun q => v3_3 + q) (by decide)) (by decide) rfl (fun ls hl => ?_)
        refine lv_goto (tgt := 8) hx hb dX0_countFirsts_38 (by decide) ?_
        obtain rfl := Option.some.inj h
        exact k _ _ _ hw (lv_sub hl [2, 3, 1, 0] rfl)
  · obtain ⟨v2_4, hz⟩ : ∃ q, q = z := ⟨z, rfl⟩
    subst hz
    intro H locs ls hw hl
    have hw : xWd (dC, dI) A s.heap H locs (wK cI cZ cB cO k_ad k_p k_n k_inOrder k_starts k_firsts k_reached k_reachedAt k_reachedCount) := hw
    have hl : lv_has ls 4 [(2, .int v2_4)] := hl
    refine lv_iload_n hx hb dX0_countFirsts_41 rfl (lv_at hl 0 rfl) ?_
    obtain rfl := Option.some.inj h
    exact x_reti C hQ hA hw dX0_countFirsts_42
noncomputable def f_X0_nthFirst_L1 (k_n : Int32) (k_starts : (Nat → Int32)) (v1 : Int32) (k_firsts : (Nat → Int32)) (k_inOrder : (Nat → Int32)) (z : Int32 × Int32) : Option ((Int32 × Int32) ⊕ ((Unit) ⊕ (Int32))) := match z with
  | (v3_2, v4_3) => xn (f_X0_start k_n k_starts (v1 + (1 : Int32))) (fun (r_4 : Int32) => xb (r_4 ≤ v4_3) (some (.inr (.inl ()))) (xk (vp_in v4_3 256) (xn (f_X0_isFirst k_firsts (k_inOrder v4_3.toNatClampNeg)) (fun (r_5 : Int32) => xb (r_5 = 0) (some (.inl (v3_2, (v4_3 + (1 : Int32))))) (xb (v3_2 = 0) (some (.inr (.inr (k_inOrder v4_3.toNatClampNeg)))) (some (.inl ((v3_2 + (-1 : Int32)), (v4_3 + (1 : Int32))))))))))
noncomputable def f_X0_nthFirst (k_n : Int32) (k_inOrder : (Nat → Int32)) (k_starts : (Nat → Int32)) (k_firsts : (Nat → Int32)) (v1 : Int32) (v2 : Int32) : Option (Int32) := xn (f_X0_start k_n k_starts v1) (fun (r_1 : Int32) => xn (xL (f_X0_nthFirst_L1 k_n k_starts v1 k_firsts k_inOrder) (v2, r_1)) (fun (x : (Unit) ⊕ (Int32)) => match x with | .inl z => (fun (_ : Unit) => some (-5 : Int32)) z | .inr z => some z))
set_option maxHeartbeats 4000000 in
set_option maxRecDepth 100000 in
theorem c_X0_nthFirst (l : Launch) (dC : Nat → ClassId) (dI : Nat → Nat → Nat) (cI cZ cB cO : ClassId) (k_ad : Nat) (k_p : Nat → Nat) (k_n : Int32) (k_inOrder : (Nat → Int32)) (k_starts : (Nat → Int32)) (k_firsts : (Nat → Int32)) (k_reached : (Nat → Int32)) (k_reachedAt : (Nat → Int32)) (k_reachedCount : Int32) (v1 : Int32) (v2 : Int32) (o : Int32) (h : f_X0_nthFirst k_n k_inOrder k_starts k_firsts v1 v2 = some o) (sz : Nat) : Met l yX0_nthFirst (xW yX0_nthFirst cX0_nthFirst 5 (some .int)) { frames := 2, cells := 0, slots := 0, locals := 45 } (xPre dC dI (xT cI cZ cB cO) [.ref k_ad, .int v1, .int v2] (wK cI cZ cB cO k_ad k_p k_n k_inOrder k_starts k_firsts k_reached k_reachedAt k_reachedCount) sz) (xQi dC dI (xT cI cZ cB cO) o (wK cI cZ cB cO k_ad k_p k_n k_inOrder k_starts k_firsts k_reached k_reachedAt k_reachedCount) (wK cI cZ cB cO k_ad k_p k_n k_inOrder k_starts k_firsts k_reached k_reachedAt k_reachedCount) sz) 0 0 (va_A (wK cI cZ cB cO k_ad k_p k_n k_inOrder k_starts k_firsts k_reached k_reachedAt k_reachedCount) sz) := by
  refine x_met (by decide) (Nat.le_of_ble_eq_true rfl) ?_
  intro p e s m args below meth c R Q A hR hsz hA hQ hin C hw ls hl
  have hx := C.1
  have hb := C.2.1
  have hown := C.2.2.2.1
  have htb := C.2.2.2.2.1
  have hl : lv_has ls 5 [(0, .ref k_ad), (1, .int v1), (2, .int v2)] := hl
  refine lv_iload_n hx hb dX0_nthFirst_0 rfl (lv_at hl 2 rfl) ?_
  refine lv_istore_n (lv' := [(3, .int v2), (0, .ref k_ad), (1, .int v1), (2, .int v2)]) hx hb dX0_nthFirst_1 rfl hl (by decide) rfl (fun ls hl => ?_)
  refine lv_aload_n hx hb dX0_nthFirst_2 rfl (lv_at hl 1 rfl) ?_
  refine lv_iload_n hx hb dX0_nthFirst_3 rfl (lv_at hl 2 rfl) ?_
  obtain ⟨r_1, q1, h⟩ := xn_i h
  refine x_callVi (As := [.int v1]) (rest := []) C hw gc_X0_104 ⟨rfl, rfl, ds_X0_start, (by rw [hR]; exact Nat.le_of_ble_eq_true rfl), (by rw [hR]; exact Nat.le_of_ble_eq_true rfl), Nat.zero_le _, Nat.zero_le _⟩ (c_X0_start l dC dI cI cZ cB cO k_ad k_p k_n k_inOrder k_starts k_firsts k_reached k_reachedAt k_reachedCount v1 _ q1 _) [0, 1, 2, 3, 4, 5] [] (by decide) rfl rfl (by decide) (by decide) rfl rfl rfl hl.1 rfl (Nat.le_of_ble_eq_true rfl) dX0_nthFirst_4 (fun H locs hw => ?_)
  have hw : xWd (dC, dI) A s.heap H locs (wK cI cZ cB cO k_ad k_p k_n k_inOrder k_starts k_firsts k_reached k_reachedAt k_reachedCount) := hw
  refine lv_istore (lv' := [(4, .int r_1), (3, .int v2), (0, .ref k_ad), (1, .int v1), (2, .int v2)]) hx hb dX0_nthFirst_7 hl (by decide) rfl (fun ls hl => ?_)
  obtain ⟨z, hr, h⟩ := xn_i h
  refine xL_w (fun (z : Int32 × Int32) => ∀ (H : Heap) (locs : List Loc) (ls : Array Slot), xWd (dC, dI) A s.heap H locs (wK cI cZ cB cO k_ad k_p k_n k_inOrder k_starts k_firsts k_reached k_reachedAt k_reachedCount) → lv_has ls 5 [(0, .ref k_ad), (1, .int v1), (3, .int z.1), (4, .int z.2)] → W p l e R s m args below meth c H locs 0 0 Q (F0 m 9 ls [])) (Sum.elim (fun (z : Unit) => ∀ (H : Heap) (locs : List Loc) (ls : Array Slot), xWd (dC, dI) A s.heap H locs (wK cI cZ cB cO k_ad k_p k_n k_inOrder k_starts k_firsts k_reached k_reachedAt k_reachedCount) → lv_has ls 5 [] → W p l e R s m args below meth c H locs 0 0 Q (F0 m 56 ls [])) (fun (z : Int32) => ∀ (H : Heap) (locs : List Loc), xWd (dC, dI) A s.heap H locs (wK cI cZ cB cO k_ad k_p k_n k_inOrder k_starts k_firsts k_reached k_reachedAt k_reachedCount) → ∀ (pc : Nat) (ls : Array Slot), decode cX0_nthFirst pc = .ok (.ireturn, 1) → W p l e R s m args below meth c H locs 0 0 Q (F0 m pc ls [.int z]))) ?_ hr ?_ _ _ _ hw (lv_sub hl [2, 3, 1, 0] rfl)
  · rintro ⟨v3_2, v4_3⟩ o h k H locs ls hw hl
    have hw : xWd (dC, dI) A s.heap H locs (wK cI cZ cB cO k_ad k_p k_n k_inOrder k_starts k_firsts k_reached k_reachedAt k_reachedCount) := hw
    have hl : lv_has ls 5 [(0, .ref k_ad), (1, .int v1), (3, .int v3_2), (4, .int v4_3)] := hl
    refine lv_iload hx hb dX0_nthFirst_9 (lv_at hl 3 rfl) ?_
    refine lv_aload_n hx hb dX0_nthFirst_11 rfl (lv_at hl 0 rfl) ?_
    refine lv_iload_n hx hb dX0_nthFirst_12 rfl (lv_at hl 1 rfl) ?_
    refine lv_iconst (v := (1 : Int32)) hx hb dX0_nthFirst_13 (by decide) ?_
    refine lv_iadd hx hb dX0_nthFirst_14 ?_
    obtain ⟨r_4, q2, h⟩ := xn_i h
    refine x_callVi (As := [.int (v1 + (1 : Int32))]) (rest := [.int v4_3]) C hw gc_X0_104 ⟨rfl, rfl, ds_X0_start, (by rw [hR]; exact Nat.le_of_ble_eq_true rfl), (by rw [hR]; exact Nat.le_of_ble_eq_true rfl), Nat.zero_le _, Nat.zero_le _⟩ (c_X0_start l dC dI cI cZ cB cO k_ad k_p k_n k_inOrder k_starts k_firsts k_reached k_reachedAt k_reachedCount (v1 + (1 : Int32)) _ q2 _) [0, 1, 2, 3, 4, 5] [] (by decide) rfl rfl (by decide) (by decide) rfl rfl rfl hl.1 rfl (Nat.le_of_ble_eq_true rfl) dX0_nthFirst_15 (fun H locs hw => ?_)
    have hw : xWd (dC, dI) A s.heap H locs (wK cI cZ cB cO k_ad k_p k_n k_inOrder k_starts k_firsts k_reached k_reachedAt k_reachedCount) := hw
    refine lv_icmp_ge (tgt := 56) hx hb dX0_nthFirst_18 (by decide) (fun b3 => ?_) (fun b3 => ?_)
    · replace h := xb_tt b3 h
      obtain rfl := Option.some.inj h
      exact k _ _ _ hw (lv_sub hl [] rfl)
    · replace h := xb_ff b3 h
      refine lv_aload_n hx hb dX0_nthFirst_21 rfl (lv_at hl 0 rfl) ?_
      refine lv_aload_n hx hb dX0_nthFirst_22 rfl (lv_at hl 0 rfl) ?_
      refine x_get (ci := 0) C hw inX0 rfl 1 (by decide) lkF_X0_15 rfl 0 rfl rfl dX0_nthFirst_23 ?_
      refine lv_iload hx hb dX0_nthFirst_26 (lv_at hl 3 rfl) ?_
      obtain ⟨b4, h⟩ := xk_i h
      refine x_iald C hw 1 0 rfl rfl b4 dX0_nthFirst_28 ?_
      obtain ⟨r_5, q5, h⟩ := xn_i h
      refine x_callVi (As := [.int (k_inOrder v4_3.toNatClampNeg)]) (rest := []) C hw gc_X0_107 ⟨rfl, rfl, ds_X0_isFirst, (by rw [hR]; exact Nat.le_of_ble_eq_true rfl), (by rw [hR]; exact Nat.le_of_ble_eq_true rfl), Nat.zero_le _, Nat.zero_le _⟩ (c_X0_isFirst l dC dI cI cZ cB cO k_ad k_p k_n k_inOrder k_starts k_firsts k_reached k_reachedAt k_reachedCount (k_inOrder v4_3.toNatClampNeg) _ q5 _) [0, 1, 2, 3, 4, 5] [] (by decide) rfl rfl (by decide) (by decide) rfl rfl rfl hl.1 rfl (Nat.le_of_ble_eq_true rfl) dX0_nthFirst_29 (fun H locs hw => ?_)
      have hw : xWd (dC, dI) A s.heap H locs (wK cI cZ cB cO k_ad k_p k_n k_inOrder k_starts k_firsts k_reached k_reachedAt k_reachedCount) := hw
      refine lv_if_eq (tgt := 50) hx hb dX0_nthFirst_32 (by decide) (fun b6 => ?_) (fun b6 => ?_)
      · replace h := xb_tt b6 h
        refine lv_iinc (v := (v4_3 + (1 : Int32))) (lv' := [(4, .int (v4_3 + (1 : Int32))), (0, .ref k_ad), (1, .int v1), (3, .int v3_2)]) hx hb dX0_nthFirst_50 hl (k := 3) rfl (congrArg (fun q => v4_3 + q) (by decide)) (by decide) rfl (fun ls hl => ?_)
        refine lv_goto (tgt := 9) hx hb dX0_nthFirst_53 (by decide) ?_
        obtain rfl := Option.some.inj h
        exact k _ _ _ hw (lv_sub hl [1, 2, 3, 0] rfl)
      · replace h := xb_ff b6 h
        refine lv_iload_n hx hb dX0_nthFirst_35 rfl (lv_at hl 2 rfl) ?_
        refine lv_if_ne (tgt := 47) hx hb dX0_nthFirst_36 (by decide) (fun b7 => ?_) (fun b7 => ?_)
        · replace h := xb_ff b7 h
          refine lv_iinc (v := (v3_2 + (-1 : Int32))) (lv' := [(3, .int (v3_2 + (-1 : Int32))), (0, .ref k_ad), (1, .int v1), (4, .int v4_3)]) hx hb dX0_nthFirst_47 hl (k := 2) rfl (congrArg (fun q => v3_2 + q) (by decide)) (by decide) rfl (fun ls hl => ?_)
          refine lv_iinc (v := (v4_3 + (1 : Int32))) (lv' := [(4, .int (v4_3 + (1 : Int32))), (3, .int (v3_2 + (-1 : Int32))), (0, .ref k_ad), (1, .int v1)]) hx hb dX0_nthFirst_50 hl (k := 3) rfl (congrArg (fun q => v4_3 + q) (by decide)) (by decide) rfl (fun ls hl => ?_)
          refine lv_goto (tgt := 9) hx hb dX0_nthFirst_53 (by decide) ?_
          obtain rfl := Option.some.inj h
          exact k _ _ _ hw (lv_sub hl [2, 3, 1, 0] rfl)
        · replace h := xb_tt b7 h
          refine lv_aload_n hx hb dX0_nthFirst_39 rfl (lv_at hl 0 rfl) ?_
          refine x_get (ci := 0) C hw inX0 rfl 1 (by decide) lkF_X0_15 rfl 0 rfl rfl dX0_nthFirst_40 ?_
          refine lv_iload hx hb dX0_nthFirst_43 (lv_at hl 3 rfl) ?_
          refine x_iald C hw 1 0 rfl rfl b4 dX0_nthFirst_45 ?_
          obtain rfl := Option.some.inj h
          exact k _ _ hw _ _ dX0_nthFirst_46
  · rcases z with z | z
    · intro H locs ls hw hl
      have hw : xWd (dC, dI) A s.heap H locs (wK cI cZ cB cO k_ad k_p k_n k_inOrder k_starts k_firsts k_reached k_reachedAt k_reachedCount) := hw
      have hl : lv_has ls 5 [] := hl
      refine lv_bipush (v := (-5 : Int32)) hx hb dX0_nthFirst_56 (by decide) ?_
      obtain rfl := Option.some.inj h
      exact x_reti C hQ hA hw dX0_nthFirst_58
    · obtain rfl := Option.some.inj h
      intro H locs hw pc ls hd
      exact x_reti C hQ hA hw hd
noncomputable def f_X0_placeOfFirst_L1 (k_n : Int32) (k_starts : (Nat → Int32)) (r_1 : Int32) (k_firsts : (Nat → Int32)) (v1 : Int32) (k_inOrder : (Nat → Int32)) (z : Int32 × Int32) : Option ((Int32 × Int32) ⊕ (Int32)) := match z with
  | (v3_3, v4_4) => xn (f_X0_start k_n k_starts (r_1 + (1 : Int32))) (fun (r_6 : Int32) => xb (r_6 ≤ v4_4) (some (.inr v3_3)) (xk (vp_in v4_4 256) (xn (f_X0_first k_firsts v1) (fun (r_7 : Int32) => xb ((k_inOrder v4_4.toNatClampNeg) = r_7) (some (.inr v3_3)) (xn (f_X0_isFirst k_firsts (k_inOrder v4_4.toNatClampNeg)) (fun (r_8 : Int32) => xb (r_8 = 0) (some (.inl (v3_3, (v4_4 + (1 : Int32))))) (some (.inl ((v3_3 + (1 : Int32)), (v4_4 + (1 : Int32)))))))))))
noncomputable def f_X0_placeOfFirst (k_n : Int32) (k_inOrder : (Nat → Int32)) (k_starts : (Nat → Int32)) (k_firsts : (Nat → Int32)) (v1 : Int32) : Option (Int32) := xn (f_J6_bitCount_0f7a4 v1) (fun (r_1 : Int32) => xn (f_X0_start k_n k_starts r_1) (fun (r_2 : Int32) => xn (xL (f_X0_placeOfFirst_L1 k_n k_starts r_1 k_firsts v1 k_inOrder) ((0 : Int32), r_2)) (fun (v3_5 : Int32) => some v3_5)))
set_option maxHeartbeats 4000000 in
set_option maxRecDepth 100000 in
theorem c_X0_placeOfFirst (l : Launch) (dC : Nat → ClassId) (dI : Nat → Nat → Nat) (cI cZ cB cO : ClassId) (k_ad : Nat) (k_p : Nat → Nat) (k_n : Int32) (k_inOrder : (Nat → Int32)) (k_starts : (Nat → Int32)) (k_firsts : (Nat → Int32)) (k_reached : (Nat → Int32)) (k_reachedAt : (Nat → Int32)) (k_reachedCount : Int32) (v1 : Int32) (o : Int32) (h : f_X0_placeOfFirst k_n k_inOrder k_starts k_firsts v1 = some o) (sz : Nat) : Met l yX0_placeOfFirst (xW yX0_placeOfFirst cX0_placeOfFirst 5 (some .int)) { frames := 2, cells := 0, slots := 0, locals := 45 } (xPre dC dI (xT cI cZ cB cO) [.ref k_ad, .int v1] (wK cI cZ cB cO k_ad k_p k_n k_inOrder k_starts k_firsts k_reached k_reachedAt k_reachedCount) sz) (xQi dC dI (xT cI cZ cB cO) o (wK cI cZ cB cO k_ad k_p k_n k_inOrder k_starts k_firsts k_reached k_reachedAt k_reachedCount) (wK cI cZ cB cO k_ad k_p k_n k_inOrder k_starts k_firsts k_reached k_reachedAt k_reachedCount) sz) 0 0 (va_A (wK cI cZ cB cO k_ad k_p k_n k_inOrder k_starts k_firsts k_reached k_reachedAt k_reachedCount) sz) := by
  refine x_met (by decide) (Nat.le_of_ble_eq_true rfl) ?_
  intro p e s m args below meth c R Q A hR hsz hA hQ hin C hw ls hl
  have hx := C.1
  have hb := C.2.1
  have hown := C.2.2.2.1
  have htb := C.2.2.2.2.1
  have hl : lv_has ls 5 [(0, .ref k_ad), (1, .int v1)] := hl
  refine lv_iload_n hx hb dX0_placeOfFirst_0 rfl (lv_at hl 1 rfl) ?_
  obtain ⟨r_1, q1, h⟩ := xn_i h
  refine x_callSi (As := [.int v1]) (rest := []) C hw gc_X0_47 ds_J6_bitCount_0f7a4 (by rw [hR]; exact Nat.le_of_ble_eq_true rfl) (by rw [hR]; exact Nat.le_of_ble_eq_true rfl) rfl rfl (Nat.zero_le _) (Nat.zero_le _) (c_J6_bitCount_0f7a4 l dC dI cI cZ cB cO v1 _ q1 _) [] [0, 1, 2, 3, 4, 5] (by decide) rfl rfl (by decide) (by decide) rfl hl.1 rfl (Nat.le_of_ble_eq_true rfl) dX0_placeOfFirst_1 (fun H locs hw => ?_)
  have hw : xWd (dC, dI) A s.heap H locs (wK cI cZ cB cO k_ad k_p k_n k_inOrder k_starts k_firsts k_reached k_reachedAt k_reachedCount) := hw.sub [0, 1, 2, 3, 4, 5] (by decide) rfl
  refine lv_istore_n (lv' := [(2, .int r_1), (0, .ref k_ad), (1, .int v1)]) hx hb dX0_placeOfFirst_4 rfl hl (by decide) rfl (fun ls hl => ?_)
  refine lv_iconst (v := (0 : Int32)) hx hb dX0_placeOfFirst_5 (by decide) ?_
  refine lv_istore_n (lv' := [(3, .int (0 : Int32)), (2, .int r_1), (0, .ref k_ad), (1, .int v1)]) hx hb dX0_placeOfFirst_6 rfl hl (by decide) rfl (fun ls hl => ?_)
  refine lv_aload_n hx hb dX0_placeOfFirst_7 rfl (lv_at hl 2 rfl) ?_
  refine lv_iload_n hx hb dX0_placeOfFirst_8 rfl (lv_at hl 1 rfl) ?_
  obtain ⟨r_2, q2, h⟩ := xn_i h
  refine x_callVi (As := [.int r_1]) (rest := []) C hw gc_X0_104 ⟨rfl, rfl, ds_X0_start, (by rw [hR]; exact Nat.le_of_ble_eq_true rfl), (by rw [hR]; exact Nat.le_of_ble_eq_true rfl), Nat.zero_le _, Nat.zero_le _⟩ (c_X0_start l dC dI cI cZ cB cO k_ad k_p k_n k_inOrder k_starts k_firsts k_reached k_reachedAt k_reachedCount r_1 _ q2 _) [0, 1, 2, 3, 4, 5] [] (by decide) rfl rfl (by decide) (by decide) rfl rfl rfl hl.1 rfl (Nat.le_of_ble_eq_true rfl) dX0_placeOfFirst_9 (fun H locs hw => ?_)
  have hw : xWd (dC, dI) A s.heap H locs (wK cI cZ cB cO k_ad k_p k_n k_inOrder k_starts k_firsts k_reached k_reachedAt k_reachedCount) := hw
  refine lv_istore (lv' := [(4, .int r_2), (3, .int (0 : Int32)), (2, .int r_1), (0, .ref k_ad), (1, .int v1)]) hx hb dX0_placeOfFirst_12 hl (by decide) rfl (fun ls hl => ?_)
  obtain ⟨z, hr, h⟩ := xn_i h
  refine xL_w (fun (z : Int32 × Int32) => ∀ (H : Heap) (locs : List Loc) (ls : Array Slot), xWd (dC, dI) A s.heap H locs (wK cI cZ cB cO k_ad k_p k_n k_inOrder k_starts k_firsts k_reached k_reachedAt k_reachedCount) → lv_has ls 5 [(0, .ref k_ad), (1, .int v1), (2, .int r_1), (3, .int z.1), (4, .int z.2)] → W p l e R s m args below meth c H locs 0 0 Q (F0 m 14 ls [])) (fun (z : Int32) => ∀ (H : Heap) (locs : List Loc) (ls : Array Slot), xWd (dC, dI) A s.heap H locs (wK cI cZ cB cO k_ad k_p k_n k_inOrder k_starts k_firsts k_reached k_reachedAt k_reachedCount) → lv_has ls 5 [(3, .int z)] → W p l e R s m args below meth c H locs 0 0 Q (F0 m 64 ls [])) ?_ hr ?_ _ _ _ hw (lv_sub hl [3, 4, 2, 1, 0] rfl)
  · rintro ⟨v3_3, v4_4⟩ o h k H locs ls hw hl
    have hw : xWd (dC, dI) A s.heap H locs (wK cI cZ cB cO k_ad k_p k_n k_inOrder k_starts k_firsts k_reached k_reachedAt k_reachedCount) := hw
    have hl : lv_has ls 5 [(0, .ref k_ad), (1, .int v1), (2, .int r_1), (3, .int v3_3), (4, .int v4_4)] := hl
    refine lv_iload hx hb dX0_placeOfFirst_14 (lv_at hl 4 rfl) ?_
    refine lv_aload_n hx hb dX0_placeOfFirst_16 rfl (lv_at hl 0 rfl) ?_
    refine lv_iload_n hx hb dX0_placeOfFirst_17 rfl (lv_at hl 2 rfl) ?_
    refine lv_iconst (v := (1 : Int32)) hx hb dX0_placeOfFirst_18 (by decide) ?_
    refine lv_iadd hx hb dX0_placeOfFirst_19 ?_
    obtain ⟨r_6, q3, h⟩ := xn_i h
    refine x_callVi (As := [.int (r_1 + (1 : Int32))]) (rest := [.int v4_4]) C hw gc_X0_104 ⟨rfl, rfl, ds_X0_start, (by rw [hR]; exact Nat.le_of_ble_eq_true rfl), (by rw [hR]; exact Nat.le_of_ble_eq_true rfl), Nat.zero_le _, Nat.zero_le _⟩ (c_X0_start l dC dI cI cZ cB cO k_ad k_p k_n k_inOrder k_starts k_firsts k_reached k_reachedAt k_reachedCount (r_1 + (1 : Int32)) _ q3 _) [0, 1, 2, 3, 4, 5] [] (by decide) rfl rfl (by decide) (by decide) rfl rfl rfl hl.1 rfl (Nat.le_of_ble_eq_true rfl) dX0_placeOfFirst_20 (fun H locs hw => ?_)
    have hw : xWd (dC, dI) A s.heap H locs (wK cI cZ cB cO k_ad k_p k_n k_inOrder k_starts k_firsts k_reached k_reachedAt k_reachedCount) := hw
    refine lv_icmp_ge (tgt := 64) hx hb dX0_placeOfFirst_23 (by decide) (fun b4 => ?_) (fun b4 => ?_)
    · replace h := xb_tt b4 h
      obtain rfl := Option.some.inj h
      exact k _ _ _ hw (lv_sub hl [3] rfl)
    · replace h := xb_ff b4 h
      refine lv_aload_n hx hb dX0_placeOfFirst_26 rfl (lv_at hl 0 rfl) ?_
      refine x_get (ci := 0) C hw inX0 rfl 1 (by decide) lkF_X0_15 rfl 0 rfl rfl dX0_placeOfFirst_27 ?_
      refine lv_iload hx hb dX0_placeOfFirst_30 (lv_at hl 4 rfl) ?_
      obtain ⟨b5, h⟩ := xk_i h
      refine x_iald C hw 1 0 rfl rfl b5 dX0_placeOfFirst_32 ?_
      refine lv_aload_n hx hb dX0_placeOfFirst_33 rfl (lv_at hl 0 rfl) ?_
      refine lv_iload_n hx hb dX0_placeOfFirst_34 rfl (lv_at hl 1 rfl) ?_
      obtain ⟨r_7, q6, h⟩ := xn_i h
      refine x_callVi (As := [.int v1]) (rest := [.int (k_inOrder v4_4.toNatClampNeg)]) C hw gc_X0_101 ⟨rfl, rfl, ds_X0_first, (by rw [hR]; exact Nat.le_of_ble_eq_true rfl), (by rw [hR]; exact Nat.le_of_ble_eq_true rfl), Nat.zero_le _, Nat.zero_le _⟩ (c_X0_first l dC dI cI cZ cB cO k_ad k_p k_n k_inOrder k_starts k_firsts k_reached k_reachedAt k_reachedCount v1 _ q6 _) [0, 1, 2, 3, 4, 5] [] (by decide) rfl rfl (by decide) (by decide) rfl rfl rfl hl.1 rfl (Nat.le_of_ble_eq_true rfl) dX0_placeOfFirst_35 (fun H locs hw => ?_)
      have hw : xWd (dC, dI) A s.heap H locs (wK cI cZ cB cO k_ad k_p k_n k_inOrder k_starts k_firsts k_reached k_reachedAt k_reachedCount) := hw
      refine lv_icmp_eq (tgt := 64) hx hb dX0_placeOfFirst_38 (by decide) (fun b7 => ?_) (fun b7 => ?_)
      · replace h := xb_tt b7 h
        obtain rfl := Option.some.inj h
        exact k _ _ _ hw (lv_sub hl [3] rfl)
      · replace h := xb_ff b7 h
        refine lv_aload_n hx hb dX0_placeOfFirst_41 rfl (lv_at hl 0 rfl) ?_
        refine lv_aload_n hx hb dX0_placeOfFirst_42 rfl (lv_at hl 0 rfl) ?_
        refine x_get (ci := 0) C hw inX0 rfl 1 (by decide) lkF_X0_15 rfl 0 rfl rfl dX0_placeOfFirst_43 ?_
        refine lv_iload hx hb dX0_placeOfFirst_46 (lv_at hl 4 rfl) ?_
        refine x_iald C hw 1 0 rfl rfl b5 dX0_placeOfFirst_48 ?_
        obtain ⟨r_8, q8, h⟩ := xn_i h
        refine x_callVi (As := [.int (k_inOrder v4_4.toNatClampNeg)]) (rest := []) C hw gc_X0_107 ⟨rfl, rfl, ds_X0_isFirst, (by rw [hR]; exact Nat.le_of_ble_eq_true rfl), (by rw [hR]; exact Nat.le_of_ble_eq_true rfl), Nat.zero_le _, Nat.zero_le _⟩ (c_X0_isFirst l dC dI cI cZ cB cO k_ad k_p k_n k_inOrder k_starts k_firsts k_reached k_reachedAt k_reachedCount (k_inOrder v4_4.toNatClampNeg) _ q8 _) [0, 1, 2, 3, 4, 5] [] (by decide) rfl rfl (by decide) (by decide) rfl rfl rfl hl.1 rfl (Nat.le_of_ble_eq_true rfl) dX0_placeOfFirst_49 (fun H locs hw => ?_)
        have hw : xWd (dC, dI) A s.heap H locs (wK cI cZ cB cO k_ad k_p k_n k_inOrder k_starts k_firsts k_reached k_reachedAt k_reachedCount) := hw
        refine lv_if_eq (tgt := 58) hx hb dX0_placeOfFirst_52 (by decide) (fun b9 => ?_) (fun b9 => ?_)
        · replace h := xb_tt b9 h
          refine lv_iinc (v := (v4_4 + (1 : Int32))) (lv' := [(4, .int (v4_4 + (1 : Int32))), (0, .ref k_ad), (1, .int v1), (2, .int r_1), (3, .int v3_3)]) hx hb dX0_placeOfFirst_58 hl (k := 4) rfl (congrArg (fun q => v4_4 + q) (by decide)) (by decide) rfl (fun ls hl => ?_)
          refine lv_goto (tgt := 14) hx hb dX0_placeOfFirst_61 (by decide) ?_
          obtain rfl := Option.some.inj h
          exact k _ _ _ hw (lv_sub hl [1, 2, 3, 4, 0] rfl)
        · replace h := xb_ff b9 h
          refine lv_iinc (v := (v3_3 + (1 : Int32))) (lv' := [(3, .int (v3_3 + (1 : Int32))), (0, .ref k_ad), (1, .int v1), (2, .int r_1), (4, .int v4_4)]) hx hb dX0_placeOfFirst_55 hl (k := 3) rfl (congrArg (fun q => v3_3 + q) (by decide)) (by decide) rfl (fun ls hl => ?_)
          refine lv_iinc (v := (v4_4 + (1 : Int32))) (lv' := [(4, .int (v4_4 + (1 : Int32))), (3, .int (v3_3 + (1 : Int32))), (0, .ref k_ad), (1, .int v1), (2, .int r_1)]) hx hb dX0_placeOfFirst_58 hl (k := 4) rfl (congrArg (fun q => v4_4 + q) (by decide)) (by decide) rfl (fun ls hl => ?_)
          refine lv_goto (tgt := 14) hx hb dX0_placeOfFirst_61 (by decide) ?_
          obtain rfl := Option.some.inj h
          exact k _ _ _ hw (lv_sub hl [2, 3, 4, 1, 0] rfl)
  · obtain ⟨v3_5, hz⟩ : ∃ q, q = z := ⟨z, rfl⟩
    subst hz
    intro H locs ls hw hl
    have hw : xWd (dC, dI) A s.heap H locs (wK cI cZ cB cO k_ad k_p k_n k_inOrder k_starts k_firsts k_reached k_reachedAt k_reachedCount) := hw
    have hl : lv_has ls 5 [(3, .int v3_5)] := hl
    refine lv_iload_n hx hb dX0_placeOfFirst_64 rfl (lv_at hl 0 rfl) ?_
    obtain rfl := Option.some.inj h
    exact x_reti C hQ hA hw dX0_placeOfFirst_65
noncomputable def f_X0_digestFirsts_L1 (k_n : Int32) (k_starts : (Nat → Int32)) (v1 : Int32) (k_firsts : (Nat → Int32)) (k_inOrder : (Nat → Int32)) (z : Int64 × Int32) : Option ((Int64 × Int32) ⊕ (Int64)) := match z with
  | (v4_3, v6_4) => xn (f_X0_start k_n k_starts (v1 + (1 : Int32))) (fun (r_6 : Int32) => xb (r_6 ≤ v6_4) (some (.inr v4_3)) (xk (vp_in v6_4 256) (xn (f_X0_isFirst k_firsts (k_inOrder v6_4.toNatClampNeg)) (fun (r_7 : Int32) => xb (r_7 = 0) (some (.inl (v4_3, (v6_4 + (1 : Int32))))) (some (.inl ((((31 : Int64) * v4_3) + (((k_inOrder v6_4.toNatClampNeg)).toInt64)), (v6_4 + (1 : Int32)))))))))
noncomputable def f_X0_digestFirsts (k_n : Int32) (k_inOrder : (Nat → Int32)) (k_starts : (Nat → Int32)) (k_firsts : (Nat → Int32)) (v1 : Int32) (v2 : Int64) : Option (Int64) := xn (f_X0_countFirsts k_n k_inOrder k_starts k_firsts v1) (fun (r_1 : Int32) => xn (f_X0_start k_n k_starts v1) (fun (r_2 : Int32) => xn (xL (f_X0_digestFirsts_L1 k_n k_starts v1 k_firsts k_inOrder) ((((31 : Int64) * v2) + r_1.toInt64), r_2)) (fun (v4_5 : Int64) => some v4_5)))
set_option maxHeartbeats 4000000 in
set_option maxRecDepth 100000 in
theorem c_X0_digestFirsts (l : Launch) (dC : Nat → ClassId) (dI : Nat → Nat → Nat) (cI cZ cB cO : ClassId) (k_ad : Nat) (k_p : Nat → Nat) (k_n : Int32) (k_inOrder : (Nat → Int32)) (k_starts : (Nat → Int32)) (k_firsts : (Nat → Int32)) (k_reached : (Nat → Int32)) (k_reachedAt : (Nat → Int32)) (k_reachedCount : Int32) (v1 : Int32) (v2 : Int64) (o : Int64) (h : f_X0_digestFirsts k_n k_inOrder k_starts k_firsts v1 v2 = some o) (sz : Nat) : Met l yX0_digestFirsts (xW yX0_digestFirsts cX0_digestFirsts 7 (some .long)) { frames := 3, cells := 0, slots := 0, locals := 68 } (xPre dC dI (xT cI cZ cB cO) [.ref k_ad, .int v1, .long v2] (wK cI cZ cB cO k_ad k_p k_n k_inOrder k_starts k_firsts k_reached k_reachedAt k_reachedCount) sz) (xQl dC dI (xT cI cZ cB cO) o (wK cI cZ cB cO k_ad k_p k_n k_inOrder k_starts k_firsts k_reached k_reachedAt k_reachedCount) (wK cI cZ cB cO k_ad k_p k_n k_inOrder k_starts k_firsts k_reached k_reachedAt k_reachedCount) sz) 0 0 (va_A (wK cI cZ cB cO k_ad k_p k_n k_inOrder k_starts k_firsts k_reached k_reachedAt k_reachedCount) sz) := by
  refine x_met (by decide) (Nat.le_of_ble_eq_true rfl) ?_
  intro p e s m args below meth c R Q A hR hsz hA hQ hin C hw ls hl
  have hx := C.1
  have hb := C.2.1
  have hown := C.2.2.2.1
  have htb := C.2.2.2.2.1
  have hl : lv_has ls 7 [(0, .ref k_ad), (1, .int v1), (2, .long v2)] := hl
  refine lv_ldc2 hx hb hown (htb _ kJ_X0_111) dX0_digestFirsts_0 ?_
  refine lv_lload_n hx hb dX0_digestFirsts_3 rfl (lv_at hl 2 rfl) ?_
  refine lv_lmul hx hb dX0_digestFirsts_4 ?_
  refine lv_aload_n hx hb dX0_digestFirsts_5 rfl (lv_at hl 0 rfl) ?_
  refine lv_iload_n hx hb dX0_digestFirsts_6 rfl (lv_at hl 1 rfl) ?_
  obtain ⟨r_1, q1, h⟩ := xn_i h
  refine x_callVi (As := [.int v1]) (rest := [.long ((31 : Int64) * v2)]) C hw gc_X0_113 ⟨rfl, rfl, ds_X0_countFirsts, (by rw [hR]; exact Nat.le_of_ble_eq_true rfl), (by rw [hR]; exact Nat.le_of_ble_eq_true rfl), Nat.zero_le _, Nat.zero_le _⟩ (c_X0_countFirsts l dC dI cI cZ cB cO k_ad k_p k_n k_inOrder k_starts k_firsts k_reached k_reachedAt k_reachedCount v1 _ q1 _) [0, 1, 2, 3, 4, 5] [] (by decide) rfl rfl (by decide) (by decide) rfl rfl rfl hl.1 rfl (Nat.le_of_ble_eq_true rfl) dX0_digestFirsts_7 (fun H locs hw => ?_)
  have hw : xWd (dC, dI) A s.heap H locs (wK cI cZ cB cO k_ad k_p k_n k_inOrder k_starts k_firsts k_reached k_reachedAt k_reachedCount) := hw
  refine lv_i2l hx hb dX0_digestFirsts_10 rfl ?_
  refine lv_ladd hx hb dX0_digestFirsts_11 ?_
  refine lv_lstore (lv' := [(4, .long (((31 : Int64) * v2) + r_1.toInt64)), (0, .ref k_ad), (1, .int v1), (2, .long v2)]) hx hb dX0_digestFirsts_12 hl (by decide) rfl (fun ls hl => ?_)
  refine lv_aload_n hx hb dX0_digestFirsts_14 rfl (lv_at hl 1 rfl) ?_
  refine lv_iload_n hx hb dX0_digestFirsts_15 rfl (lv_at hl 2 rfl) ?_
  obtain ⟨r_2, q2, h⟩ := xn_i h
  refine x_callVi (As := [.int v1]) (rest := []) C hw gc_X0_104 ⟨rfl, rfl, ds_X0_start, (by rw [hR]; exact Nat.le_of_ble_eq_true rfl), (by rw [hR]; exact Nat.le_of_ble_eq_true rfl), Nat.zero_le _, Nat.zero_le _⟩ (c_X0_start l dC dI cI cZ cB cO k_ad k_p k_n k_inOrder k_starts k_firsts k_reached k_reachedAt k_reachedCount v1 _ q2 _) [0, 1, 2, 3, 4, 5] [] (by decide) rfl rfl (by decide) (by decide) rfl rfl rfl hl.1 rfl (Nat.le_of_ble_eq_true rfl) dX0_digestFirsts_16 (fun H locs hw => ?_)
  have hw : xWd (dC, dI) A s.heap H locs (wK cI cZ cB cO k_ad k_p k_n k_inOrder k_starts k_firsts k_reached k_reachedAt k_reachedCount) := hw
  refine lv_istore (lv' := [(6, .int r_2), (4, .long (((31 : Int64) * v2) + r_1.toInt64)), (0, .ref k_ad), (1, .int v1), (2, .long v2)]) hx hb dX0_digestFirsts_19 hl (by decide) rfl (fun ls hl => ?_)
  obtain ⟨z, hr, h⟩ := xn_i h
  refine xL_w (fun (z : Int64 × Int32) => ∀ (H : Heap) (locs : List Loc) (ls : Array Slot), xWd (dC, dI) A s.heap H locs (wK cI cZ cB cO k_ad k_p k_n k_inOrder k_starts k_firsts k_reached k_reachedAt k_reachedCount) → lv_has ls 7 [(0, .ref k_ad), (1, .int v1), (4, .long z.1), (6, .int z.2)] → W p l e R s m args below meth c H locs 0 0 Q (F0 m 21 ls [])) (fun (z : Int64) => ∀ (H : Heap) (locs : List Loc) (ls : Array Slot), xWd (dC, dI) A s.heap H locs (wK cI cZ cB cO k_ad k_p k_n k_inOrder k_starts k_firsts k_reached k_reachedAt k_reachedCount) → lv_has ls 7 [(4, .long z)] → W p l e R s m args below meth c H locs 0 0 Q (F0 m 70 ls [])) ?_ hr ?_ _ _ _ hw (lv_sub hl [2, 3, 1, 0] rfl)
  · rintro ⟨v4_3, v6_4⟩ o h k H locs ls hw hl
    have hw : xWd (dC, dI) A s.heap H locs (wK cI cZ cB cO k_ad k_p k_n k_inOrder k_starts k_firsts k_reached k_reachedAt k_reachedCount) := hw
    have hl : lv_has ls 7 [(0, .ref k_ad), (1, .int v1), (4, .long v4_3), (6, .int v6_4)] := hl
    refine lv_iload hx hb dX0_digestFirsts_21 (lv_at hl 3 rfl) ?_
    refine lv_aload_n hx hb dX0_digestFirsts_23 rfl (lv_at hl 0 rfl) ?_
    refine lv_iload_n hx hb dX0_digestFirsts_24 rfl (lv_at hl 1 rfl) ?_
    refine lv_iconst (v := (1 : Int32)) hx hb dX0_digestFirsts_25 (by decide) ?_
    refine lv_iadd hx hb dX0_digestFirsts_26 ?_
    obtain ⟨r_6, q3, h⟩ := xn_i h
    refine x_callVi (As := [.int (v1 + (1 : Int32))]) (rest := [.int v6_4]) C hw gc_X0_104 ⟨rfl, rfl, ds_X0_start, (by rw [hR]; exact Nat.le_of_ble_eq_true rfl), (by rw [hR]; exact Nat.le_of_ble_eq_true rfl), Nat.zero_le _, Nat.zero_le _⟩ (c_X0_start l dC dI cI cZ cB cO k_ad k_p k_n k_inOrder k_starts k_firsts k_reached k_reachedAt k_reachedCount (v1 + (1 : Int32)) _ q3 _) [0, 1, 2, 3, 4, 5] [] (by decide) rfl rfl (by decide) (by decide) rfl rfl rfl hl.1 rfl (Nat.le_of_ble_eq_true rfl) dX0_digestFirsts_27 (fun H locs hw => ?_)
    have hw : xWd (dC, dI) A s.heap H locs (wK cI cZ cB cO k_ad k_p k_n k_inOrder k_starts k_firsts k_reached k_reachedAt k_reachedCount) := hw
    refine lv_icmp_ge (tgt := 70) hx hb dX0_digestFirsts_30 (by decide) (fun b4 => ?_) (fun b4 => ?_)
    · replace h := xb_tt b4 h
      obtain rfl := Option.some.inj h
      exact k _ _ _ hw (lv_sub hl [2] rfl)
    · replace h := xb_ff b4 h
      refine lv_aload_n hx hb dX0_digestFirsts_33 rfl (lv_at hl 0 rfl) ?_
      refine lv_aload_n hx hb dX0_digestFirsts_34 rfl (lv_at hl 0 rfl) ?_
      refine x_get (ci := 0) C hw inX0 rfl 1 (by decide) lkF_X0_15 rfl 0 rfl rfl dX0_digestFirsts_35 ?_
      refine lv_iload hx hb dX0_digestFirsts_38 (lv_at hl 3 rfl) ?_
      obtain ⟨b5, h⟩ := xk_i h
      refine x_iald C hw 1 0 rfl rfl b5 dX0_digestFirsts_40 ?_
      obtain ⟨r_7, q6, h⟩ := xn_i h
      refine x_callVi (As := [.int (k_inOrder v6_4.toNatClampNeg)]) (rest := []) C hw gc_X0_107 ⟨rfl, rfl, ds_X0_isFirst, (by rw [hR]; exact Nat.le_of_ble_eq_true rfl), (by rw [hR]; exact Nat.le_of_ble_eq_true rfl), Nat.zero_le _, Nat.zero_le _⟩ (c_X0_isFirst l dC dI cI cZ cB cO k_ad k_p k_n k_inOrder k_starts k_firsts k_reached k_reachedAt k_reachedCount (k_inOrder v6_4.toNatClampNeg) _ q6 _) [0, 1, 2, 3, 4, 5] [] (by decide) rfl rfl (by decide) (by decide) rfl rfl rfl hl.1 rfl (Nat.le_of_ble_eq_true rfl) dX0_digestFirsts_41 (fun H locs hw => ?_)
      have hw : xWd (dC, dI) A s.heap H locs (wK cI cZ cB cO k_ad k_p k_n k_inOrder k_starts k_firsts k_reached k_reachedAt k_reachedCount) := hw
      refine lv_if_eq (tgt := 64) hx hb dX0_digestFirsts_44 (by decide) (fun b7 => ?_) (fun b7 => ?_)
      · replace h := xb_tt b7 h
        refine lv_iinc (v := (v6_4 + (1 : Int32))) (lv' := [(6, .int (v6_4 + (1 : Int32))), (0, .ref k_ad), (1, .int v1), (4, .long v4_3)]) hx hb dX0_digestFirsts_64 hl (k := 3) rfl (congrArg (fun q => v6_4 + q) (by decide)) (by decide) rfl (fun ls hl => ?_)
        refine lv_goto (tgt := 21) hx hb dX0_digestFirsts_67 (by decide) ?_
        obtain rfl := Option.some.inj h
        exact k _ _ _ hw (lv_sub hl [1, 2, 3, 0] rfl)
      · replace h := xb_ff b7 h
        refine lv_ldc2 hx hb hown (htb _ kJ_X0_111) dX0_digestFirsts_47 ?_
        refine lv_lload hx hb dX0_digestFirsts_50 (lv_at hl 2 rfl) ?_
        refine lv_lmul hx hb dX0_digestFirsts_52 ?_
        refine lv_aload_n hx hb dX0_digestFirsts_53 rfl (lv_at hl 0 rfl) ?_
        refine x_get (ci := 0) C hw inX0 rfl 1 (by decide) lkF_X0_15 rfl 0 rfl rfl dX0_digestFirsts_54 ?_
        refine lv_iload hx hb dX0_digestFirsts_57 (lv_at hl 3 rfl) ?_
        refine x_iald C hw 1 0 rfl rfl b5 dX0_digestFirsts_59 ?_
        refine lv_i2l hx hb dX0_digestFirsts_60 rfl ?_
        refine lv_ladd hx hb dX0_digestFirsts_61 ?_
        refine lv_lstore (lv' := [(4, .long (((31 : Int64) * v4_3) + (((k_inOrder v6_4.toNatClampNeg)).toInt64))), (0, .ref k_ad), (1, .int v1), (6, .int v6_4)]) hx hb dX0_digestFirsts_62 hl (by decide) rfl (fun ls hl => ?_)
        refine lv_iinc (v := (v6_4 + (1 : Int32))) (lv' := [(6, .int (v6_4 + (1 : Int32))), (4, .long (((31 : Int64) * v4_3) + (((k_inOrder v6_4.toNatClampNeg)).toInt64))), (0, .ref k_ad), (1, .int v1)]) hx hb dX0_digestFirsts_64 hl (k := 3) rfl (congrArg (fun q => v6_4 + q) (by decide)) (by decide) rfl (fun ls hl => ?_)
        refine lv_goto (tgt := 21) hx hb dX0_digestFirsts_67 (by decide) ?_
        obtain rfl := Option.some.inj h
        exact k _ _ _ hw (lv_sub hl [2, 3, 1, 0] rfl)
  · obtain ⟨v4_5, hz⟩ : ∃ q, q = z := ⟨z, rfl⟩
    subst hz
    intro H locs ls hw hl
    have hw : xWd (dC, dI) A s.heap H locs (wK cI cZ cB cO k_ad k_p k_n k_inOrder k_starts k_firsts k_reached k_reachedAt k_reachedCount) := hw
    have hl : lv_has ls 7 [(4, .long v4_5)] := hl
    refine lv_lload hx hb dX0_digestFirsts_70 (lv_at hl 0 rfl) ?_
    obtain rfl := Option.some.inj h
    exact x_retl C hQ hA hw dX0_digestFirsts_72
noncomputable def f_X0_orbit_L1 (k_n : Int32) (k_firsts : (Nat → Int32)) (v1 : Int32) (z : Int32 × Int32) : Option ((Int32 × Int32) ⊕ (Int32)) := match z with
  | (v2_1, v3_2) => xb (k_n ≤ v3_2) (some (.inr v2_1)) (xn (f_X0_first k_firsts ((1 : Int32) <<< (v3_2 &&& 31))) (fun (r_4 : Int32) => xn (f_X0_first k_firsts ((1 : Int32) <<< (v1 &&& 31))) (fun (r_5 : Int32) => xb (r_4 = r_5) (some (.inl ((v2_1 ||| ((1 : Int32) <<< (v3_2 &&& 31))), (v3_2 + (1 : Int32))))) (some (.inl (v2_1, (v3_2 + (1 : Int32))))))))
noncomputable def f_X0_orbit (k_n : Int32) (k_firsts : (Nat → Int32)) (v1 : Int32) : Option (Int32) := xn (xL (f_X0_orbit_L1 k_n k_firsts v1) ((0 : Int32), (0 : Int32))) (fun (v2_3 : Int32) => some v2_3)
set_option maxHeartbeats 4000000 in
set_option maxRecDepth 100000 in
theorem c_X0_orbit (l : Launch) (dC : Nat → ClassId) (dI : Nat → Nat → Nat) (cI cZ cB cO : ClassId) (k_ad : Nat) (k_p : Nat → Nat) (k_n : Int32) (k_inOrder : (Nat → Int32)) (k_starts : (Nat → Int32)) (k_firsts : (Nat → Int32)) (k_reached : (Nat → Int32)) (k_reachedAt : (Nat → Int32)) (k_reachedCount : Int32) (v1 : Int32) (o : Int32) (h : f_X0_orbit k_n k_firsts v1 = some o) (sz : Nat) : Met l yX0_orbit (xW yX0_orbit cX0_orbit 4 (some .int)) { frames := 1, cells := 0, slots := 0, locals := 21 } (xPre dC dI (xT cI cZ cB cO) [.ref k_ad, .int v1] (wK cI cZ cB cO k_ad k_p k_n k_inOrder k_starts k_firsts k_reached k_reachedAt k_reachedCount) sz) (xQi dC dI (xT cI cZ cB cO) o (wK cI cZ cB cO k_ad k_p k_n k_inOrder k_starts k_firsts k_reached k_reachedAt k_reachedCount) (wK cI cZ cB cO k_ad k_p k_n k_inOrder k_starts k_firsts k_reached k_reachedAt k_reachedCount) sz) 0 0 (va_A (wK cI cZ cB cO k_ad k_p k_n k_inOrder k_starts k_firsts k_reached k_reachedAt k_reachedCount) sz) := by
  refine x_met (by decide) (Nat.le_of_ble_eq_true rfl) ?_
  intro p e s m args below meth c R Q A hR hsz hA hQ hin C hw ls hl
  have hx := C.1
  have hb := C.2.1
  have hown := C.2.2.2.1
  have htb := C.2.2.2.2.1
  have hl : lv_has ls 4 [(0, .ref k_ad), (1, .int v1)] := hl
  refine lv_iconst (v := (0 : Int32)) hx hb dX0_orbit_0 (by decide) ?_
  refine lv_istore_n (lv' := [(2, .int (0 : Int32)), (0, .ref k_ad), (1, .int v1)]) hx hb dX0_orbit_1 rfl hl (by decide) rfl (fun ls hl => ?_)
  refine lv_iconst (v := (0 : Int32)) hx hb dX0_orbit_2 (by decide) ?_
  refine lv_istore_n (lv' := [(3, .int (0 : Int32)), (2, .int (0 : Int32)), (0, .ref k_ad), (1, .int v1)]) hx hb dX0_orbit_3 rfl hl (by decide) rfl (fun ls hl => ?_)
  obtain ⟨z, hr, h⟩ := xn_i h
  refine xL_w (fun (z : Int32 × Int32) => ∀ (H : Heap) (locs : List Loc) (ls : Array Slot), xWd (dC, dI) A s.heap H locs (wK cI cZ cB cO k_ad k_p k_n k_inOrder k_starts k_firsts k_reached k_reachedAt k_reachedCount) → lv_has ls 4 [(0, .ref k_ad), (1, .int v1), (2, .int z.1), (3, .int z.2)] → W p l e R s m args below meth c H locs 0 0 Q (F0 m 4 ls [])) (fun (z : Int32) => ∀ (H : Heap) (locs : List Loc) (ls : Array Slot), xWd (dC, dI) A s.heap H locs (wK cI cZ cB cO k_ad k_p k_n k_inOrder k_starts k_firsts k_reached k_reachedAt k_reachedCount) → lv_has ls 4 [(2, .int z)] → W p l e R s m args below meth c H locs 0 0 Q (F0 m 41 ls [])) ?_ hr ?_ _ _ _ hw (lv_sub hl [2, 3, 1, 0] rfl)
  · rintro ⟨v2_1, v3_2⟩ o h k H locs ls hw hl
    have hw : xWd (dC, dI) A s.heap H locs (wK cI cZ cB cO k_ad k_p k_n k_inOrder k_starts k_firsts k_reached k_reachedAt k_reachedCount) := hw
    have hl : lv_has ls 4 [(0, .ref k_ad), (1, .int v1), (2, .int v2_1), (3, .int v3_2)] := hl
    refine lv_iload_n hx hb dX0_orbit_4 rfl (lv_at hl 3 rfl) ?_
    refine lv_aload_n hx hb dX0_orbit_5 rfl (lv_at hl 0 rfl) ?_
    refine x_get (ci := 0) C hw inX0 rfl 0 (by decide) lkF_X0_9 rfl 0 rfl rfl dX0_orbit_6 ?_
    refine lv_icmp_ge (tgt := 41) hx hb dX0_orbit_9 (by decide) (fun b1 => ?_) (fun b1 => ?_)
    · replace h := xb_tt b1 h
      obtain rfl := Option.some.inj h
      exact k _ _ _ hw (lv_sub hl [2] rfl)
    · replace h := xb_ff b1 h
      refine lv_aload_n hx hb dX0_orbit_12 rfl (lv_at hl 0 rfl) ?_
      refine lv_iconst (v := (1 : Int32)) hx hb dX0_orbit_13 (by decide) ?_
      refine lv_iload_n hx hb dX0_orbit_14 rfl (lv_at hl 3 rfl) ?_
      refine lv_ishl hx hb dX0_orbit_15 ?_
      obtain ⟨r_4, q2, h⟩ := xn_i h
      refine x_callVi (As := [.int ((1 : Int32) <<< (v3_2 &&& 31))]) (rest := []) C hw gc_X0_101 ⟨rfl, rfl, ds_X0_first, (by rw [hR]; exact Nat.le_of_ble_eq_true rfl), (by rw [hR]; exact Nat.le_of_ble_eq_true rfl), Nat.zero_le _, Nat.zero_le _⟩ (c_X0_first l dC dI cI cZ cB cO k_ad k_p k_n k_inOrder k_starts k_firsts k_reached k_reachedAt k_reachedCount ((1 : Int32) <<< (v3_2 &&& 31)) _ q2 _) [0, 1, 2, 3, 4, 5] [] (by decide) rfl rfl (by decide) (by decide) rfl rfl rfl hl.1 rfl (Nat.le_of_ble_eq_true rfl) dX0_orbit_16 (fun H locs hw => ?_)
      have hw : xWd (dC, dI) A s.heap H locs (wK cI cZ cB cO k_ad k_p k_n k_inOrder k_starts k_firsts k_reached k_reachedAt k_reachedCount) := hw
      refine lv_aload_n hx hb dX0_orbit_19 rfl (lv_at hl 0 rfl) ?_
      refine lv_iconst (v := (1 : Int32)) hx hb dX0_orbit_20 (by decide) ?_
      refine lv_iload_n hx hb dX0_orbit_21 rfl (lv_at hl 1 rfl) ?_
      refine lv_ishl hx hb dX0_orbit_22 ?_
      obtain ⟨r_5, q3, h⟩ := xn_i h
      refine x_callVi (As := [.int ((1 : Int32) <<< (v1 &&& 31))]) (rest := [.int r_4]) C hw gc_X0_101 ⟨rfl, rfl, ds_X0_first, (by rw [hR]; exact Nat.le_of_ble_eq_true rfl), (by rw [hR]; exact Nat.le_of_ble_eq_true rfl), Nat.zero_le _, Nat.zero_le _⟩ (c_X0_first l dC dI cI cZ cB cO k_ad k_p k_n k_inOrder k_starts k_firsts k_reached k_reachedAt k_reachedCount ((1 : Int32) <<< (v1 &&& 31)) _ q3 _) [0, 1, 2, 3, 4, 5] [] (by decide) rfl rfl (by decide) (by decide) rfl rfl rfl hl.1 rfl (Nat.le_of_ble_eq_true rfl) dX0_orbit_23 (fun H locs hw => ?_)
      have hw : xWd (dC, dI) A s.heap H locs (wK cI cZ cB cO k_ad k_p k_n k_inOrder k_starts k_firsts k_reached k_reachedAt k_reachedCount) := hw
      refine lv_icmp_ne (tgt := 35) hx hb dX0_orbit_26 (by decide) (fun b4 => ?_) (fun b4 => ?_)
      · replace h := xb_ff b4 h
        refine lv_iinc (v := (v3_2 + (1 : Int32))) (lv' := [(3, .int (v3_2 + (1 : Int32))), (0, .ref k_ad), (1, .int v1), (2, .int v2_1)]) hx hb dX0_orbit_35 hl (k := 3) rfl (congrArg (fun q => v3_2 + q) (by decide)) (by decide) rfl (fun ls hl => ?_)
        refine lv_goto (tgt := 4) hx hb dX0_orbit_38 (by decide) ?_
        obtain rfl := Option.some.inj h
        exact k _ _ _ hw (lv_sub hl [1, 2, 3, 0] rfl)
      · replace h := xb_tt b4 h
        refine lv_iload_n hx hb dX0_orbit_29 rfl (lv_at hl 2 rfl) ?_
        refine lv_iconst (v := (1 : Int32)) hx hb dX0_orbit_30 (by decide) ?_
        refine lv_iload_n hx hb dX0_orbit_31 rfl (lv_at hl 3 rfl) ?_
        refine lv_ishl hx hb dX0_orbit_32 ?_
        refine lv_ior hx hb dX0_orbit_33 ?_
        refine lv_istore_n (lv' := [(2, .int (v2_1 ||| ((1 : Int32) <<< (v3_2 &&& 31)))), (0, .ref k_ad), (1, .int v1), (3, .int v3_2)]) hx hb dX0_orbit_34 rfl hl (by decide) rfl (fun ls hl => ?_)
        refine lv_iinc (v := (v3_2 + (1 : Int32))) (lv' := [(3, .int (v3_2 + (1 : Int32))), (2, .int (v2_1 ||| ((1 : Int32) <<< (v3_2 &&& 31)))), (0, .ref k_ad), (1, .int v1)]) hx hb dX0_orbit_35 hl (k := 3) rfl (congrArg (fun q => v3_2 + q) (by decide)) (by decide) rfl (fun ls hl => ?_)
        refine lv_goto (tgt := 4) hx hb dX0_orbit_38 (by decide) ?_
        obtain rfl := Option.some.inj h
        exact k _ _ _ hw (lv_sub hl [2, 3, 1, 0] rfl)
  · obtain ⟨v2_3, hz⟩ : ∃ q, q = z := ⟨z, rfl⟩
    subst hz
    intro H locs ls hw hl
    have hw : xWd (dC, dI) A s.heap H locs (wK cI cZ cB cO k_ad k_p k_n k_inOrder k_starts k_firsts k_reached k_reachedAt k_reachedCount) := hw
    have hl : lv_has ls 4 [(2, .int v2_3)] := hl
    refine lv_iload_n hx hb dX0_orbit_41 rfl (lv_at hl 0 rfl) ?_
    obtain rfl := Option.some.inj h
    exact x_reti C hQ hA hw dX0_orbit_42
noncomputable def f_X0_leastPoint_L1 (v1 : Int32) (k_firsts : (Nat → Int32)) (v2_1 : Int32) : Option ((Int32) ⊕ (Int32)) := xb (v1 ≤ v2_1) (some (.inr v2_1)) (xn (f_X0_first k_firsts ((1 : Int32) <<< (v2_1 &&& 31))) (fun (r_3 : Int32) => xn (f_X0_first k_firsts ((1 : Int32) <<< (v1 &&& 31))) (fun (r_4 : Int32) => xb (r_3 = r_4) (some (.inr v2_1)) (some (.inl (v2_1 + (1 : Int32)))))))
noncomputable def f_X0_leastPoint (k_firsts : (Nat → Int32)) (v1 : Int32) : Option (Int32) := xn (xL (f_X0_leastPoint_L1 v1 k_firsts) (0 : Int32)) (fun (v2_2 : Int32) => some v2_2)
set_option maxHeartbeats 4000000 in
set_option maxRecDepth 100000 in
theorem c_X0_leastPoint (l : Launch) (dC : Nat → ClassId) (dI : Nat → Nat → Nat) (cI cZ cB cO : ClassId) (k_ad : Nat) (k_p : Nat → Nat) (k_n : Int32) (k_inOrder : (Nat → Int32)) (k_starts : (Nat → Int32)) (k_firsts : (Nat → Int32)) (k_reached : (Nat → Int32)) (k_reachedAt : (Nat → Int32)) (k_reachedCount : Int32) (v1 : Int32) (o : Int32) (h : f_X0_leastPoint k_firsts v1 = some o) (sz : Nat) : Met l yX0_leastPoint (xW yX0_leastPoint cX0_leastPoint 3 (some .int)) { frames := 1, cells := 0, slots := 0, locals := 21 } (xPre dC dI (xT cI cZ cB cO) [.ref k_ad, .int v1] (wK cI cZ cB cO k_ad k_p k_n k_inOrder k_starts k_firsts k_reached k_reachedAt k_reachedCount) sz) (xQi dC dI (xT cI cZ cB cO) o (wK cI cZ cB cO k_ad k_p k_n k_inOrder k_starts k_firsts k_reached k_reachedAt k_reachedCount) (wK cI cZ cB cO k_ad k_p k_n k_inOrder k_starts k_firsts k_reached k_reachedAt k_reachedCount) sz) 0 0 (va_A (wK cI cZ cB cO k_ad k_p k_n k_inOrder k_starts k_firsts k_reached k_reachedAt k_reachedCount) sz) := by
  refine x_met (by decide) (Nat.le_of_ble_eq_true rfl) ?_
  intro p e s m args below meth c R Q A hR hsz hA hQ hin C hw ls hl
  have hx := C.1
  have hb := C.2.1
  have hown := C.2.2.2.1
  have htb := C.2.2.2.2.1
  have hl : lv_has ls 3 [(0, .ref k_ad), (1, .int v1)] := hl
  refine lv_iconst (v := (0 : Int32)) hx hb dX0_leastPoint_0 (by decide) ?_
  refine lv_istore_n (lv' := [(2, .int (0 : Int32)), (0, .ref k_ad), (1, .int v1)]) hx hb dX0_leastPoint_1 rfl hl (by decide) rfl (fun ls hl => ?_)
  obtain ⟨z, hr, h⟩ := xn_i h
  refine xL_w (fun (z : Int32) => ∀ (H : Heap) (locs : List Loc) (ls : Array Slot), xWd (dC, dI) A s.heap H locs (wK cI cZ cB cO k_ad k_p k_n k_inOrder k_starts k_firsts k_reached k_reachedAt k_reachedCount) → lv_has ls 3 [(0, .ref k_ad), (1, .int v1), (2, .int z)] → W p l e R s m args below meth c H locs 0 0 Q (F0 m 2 ls [])) (fun (z : Int32) => ∀ (H : Heap) (locs : List Loc) (ls : Array Slot), xWd (dC, dI) A s.heap H locs (wK cI cZ cB cO k_ad k_p k_n k_inOrder k_starts k_firsts k_reached k_reachedAt k_reachedCount) → lv_has ls 3 [(2, .int z)] → W p l e R s m args below meth c H locs 0 0 Q (F0 m 30 ls [])) ?_ hr ?_ _ _ _ hw (lv_sub hl [1, 2, 0] rfl)
  · intro v2_1 o h k H locs ls hw hl
    have hw : xWd (dC, dI) A s.heap H locs (wK cI cZ cB cO k_ad k_p k_n k_inOrder k_starts k_firsts k_reached k_reachedAt k_reachedCount) := hw
    have hl : lv_has ls 3 [(0, .ref k_ad), (1, .int v1), (2, .int v2_1)] := hl
    refine lv_iload_n hx hb dX0_leastPoint_2 rfl (lv_at hl 2 rfl) ?_
    refine lv_iload_n hx hb dX0_leastPoint_3 rfl (lv_at hl 1 rfl) ?_
    refine lv_icmp_ge (tgt := 30) hx hb dX0_leastPoint_4 (by decide) (fun b1 => ?_) (fun b1 => ?_)
    · replace h := xb_tt b1 h
      obtain rfl := Option.some.inj h
      exact k _ _ _ hw (lv_sub hl [2] rfl)
    · replace h := xb_ff b1 h
      refine lv_aload_n hx hb dX0_leastPoint_7 rfl (lv_at hl 0 rfl) ?_
      refine lv_iconst (v := (1 : Int32)) hx hb dX0_leastPoint_8 (by decide) ?_
      refine lv_iload_n hx hb dX0_leastPoint_9 rfl (lv_at hl 2 rfl) ?_
      refine lv_ishl hx hb dX0_leastPoint_10 ?_
      obtain ⟨r_3, q2, h⟩ := xn_i h
      refine x_callVi (As := [.int ((1 : Int32) <<< (v2_1 &&& 31))]) (rest := []) C hw gc_X0_101 ⟨rfl, rfl, ds_X0_first, (by rw [hR]; exact Nat.le_of_ble_eq_true rfl), (by rw [hR]; exact Nat.le_of_ble_eq_true rfl), Nat.zero_le _, Nat.zero_le _⟩ (c_X0_first l dC dI cI cZ cB cO k_ad k_p k_n k_inOrder k_starts k_firsts k_reached k_reachedAt k_reachedCount ((1 : Int32) <<< (v2_1 &&& 31)) _ q2 _) [0, 1, 2, 3, 4, 5] [] (by decide) rfl rfl (by decide) (by decide) rfl rfl rfl hl.1 rfl (Nat.le_of_ble_eq_true rfl) dX0_leastPoint_11 (fun H locs hw => ?_)
      have hw : xWd (dC, dI) A s.heap H locs (wK cI cZ cB cO k_ad k_p k_n k_inOrder k_starts k_firsts k_reached k_reachedAt k_reachedCount) := hw
      refine lv_aload_n hx hb dX0_leastPoint_14 rfl (lv_at hl 0 rfl) ?_
      refine lv_iconst (v := (1 : Int32)) hx hb dX0_leastPoint_15 (by decide) ?_
      refine lv_iload_n hx hb dX0_leastPoint_16 rfl (lv_at hl 1 rfl) ?_
      refine lv_ishl hx hb dX0_leastPoint_17 ?_
      obtain ⟨r_4, q3, h⟩ := xn_i h
      refine x_callVi (As := [.int ((1 : Int32) <<< (v1 &&& 31))]) (rest := [.int r_3]) C hw gc_X0_101 ⟨rfl, rfl, ds_X0_first, (by rw [hR]; exact Nat.le_of_ble_eq_true rfl), (by rw [hR]; exact Nat.le_of_ble_eq_true rfl), Nat.zero_le _, Nat.zero_le _⟩ (c_X0_first l dC dI cI cZ cB cO k_ad k_p k_n k_inOrder k_starts k_firsts k_reached k_reachedAt k_reachedCount ((1 : Int32) <<< (v1 &&& 31)) _ q3 _) [0, 1, 2, 3, 4, 5] [] (by decide) rfl rfl (by decide) (by decide) rfl rfl rfl hl.1 rfl (Nat.le_of_ble_eq_true rfl) dX0_leastPoint_18 (fun H locs hw => ?_)
      have hw : xWd (dC, dI) A s.heap H locs (wK cI cZ cB cO k_ad k_p k_n k_inOrder k_starts k_firsts k_reached k_reachedAt k_reachedCount) := hw
      refine lv_icmp_eq (tgt := 30) hx hb dX0_leastPoint_21 (by decide) (fun b4 => ?_) (fun b4 => ?_)
      · replace h := xb_tt b4 h
        obtain rfl := Option.some.inj h
        exact k _ _ _ hw (lv_sub hl [2] rfl)
      · replace h := xb_ff b4 h
        refine lv_iinc (v := (v2_1 + (1 : Int32))) (lv' := [(2, .int (v2_1 + (1 : Int32))), (0, .ref k_ad), (1, .int v1)]) hx hb dX0_leastPoint_24 hl (k := 2) rfl (congrArg (fun q => v2_1 + q) (by decide)) (by decide) rfl (fun ls hl => ?_)
        refine lv_goto (tgt := 2) hx hb dX0_leastPoint_27 (by decide) ?_
        obtain rfl := Option.some.inj h
        exact k _ _ _ hw (lv_sub hl [1, 2, 0] rfl)
  · obtain ⟨v2_2, hz⟩ : ∃ q, q = z := ⟨z, rfl⟩
    subst hz
    intro H locs ls hw hl
    have hw : xWd (dC, dI) A s.heap H locs (wK cI cZ cB cO k_ad k_p k_n k_inOrder k_starts k_firsts k_reached k_reachedAt k_reachedCount) := hw
    have hl : lv_has ls 3 [(2, .int v2_2)] := hl
    refine lv_iload_n hx hb dX0_leastPoint_30 rfl (lv_at hl 0 rfl) ?_
    obtain rfl := Option.some.inj h
    exact x_reti C hQ hA hw dX0_leastPoint_31
