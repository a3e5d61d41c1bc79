theorem dX8_here_0 : decode cX8_here 0 = .ok (.aload_n 0, 1) := by decide +kernel
theorem dX8_here_1 : decode cX8_here 1 = .ok (.getfield 177, 3) := by decide +kernel
theorem dX8_here_4 : decode cX8_here 4 = .ok (.aload_n 0, 1) := by decide +kernel
theorem dX8_here_5 : decode cX8_here 5 = .ok (.getfield 174, 3) := by decide +kernel
theorem dX8_here_8 : decode cX8_here 8 = .ok (.if_icmp .ge 30, 3) := by decide +kernel
theorem dX8_here_11 : decode cX8_here 11 = .ok (.aload_n 0, 1) := by decide +kernel
theorem dX8_here_12 : decode cX8_here 12 = .ok (.getfield 57, 3) := by decide +kernel
theorem dX8_here_15 : decode cX8_here 15 = .ok (.aload_n 0, 1) := by decide +kernel
theorem dX8_here_16 : decode cX8_here 16 = .ok (.getfield 177, 3) := by decide +kernel
theorem dX8_here_19 : decode cX8_here 19 = .ok (.iaload, 1) := by decide +kernel
theorem dX8_here_20 : decode cX8_here 20 = .ok (.bipush 32, 2) := by decide +kernel
theorem dX8_here_22 : decode cX8_here 22 = .ok (.if_icmp .ne 16, 3) := by decide +kernel
theorem dX8_here_25 : decode cX8_here 25 = .ok (.aload_n 0, 1) := by decide +kernel
theorem dX8_here_26 : decode cX8_here 26 = .ok (.dup, 1) := by decide +kernel
theorem dX8_here_27 : decode cX8_here 27 = .ok (.getfield 177, 3) := by decide +kernel
theorem dX8_here_30 : decode cX8_here 30 = .ok (.iconst 1, 1) := by decide +kernel
theorem dX8_here_31 : decode cX8_here 31 = .ok (.iadd, 1) := by decide +kernel
theorem dX8_here_32 : decode cX8_here 32 = .ok (.putfield 177, 3) := by decide +kernel
theorem dX8_here_35 : decode cX8_here 35 = .ok (.goto (-35), 3) := by decide +kernel
theorem dX8_here_38 : decode cX8_here 38 = .ok (.aload_n 0, 1) := by decide +kernel
theorem dX8_here_39 : decode cX8_here 39 = .ok (.getfield 177, 3) := by decide +kernel
theorem dX8_here_42 : decode cX8_here 42 = .ok (.aload_n 0, 1) := by decide +kernel
theorem dX8_here_43 : decode cX8_here 43 = .ok (.getfield 174, 3) := by decide +kernel
theorem dX8_here_46 : decode cX8_here 46 = .ok (.if_icmp .ge 15, 3) := by decide +kernel
theorem dX8_here_49 : decode cX8_here 49 = .ok (.aload_n 0, 1) := by decide +kernel
theorem dX8_here_50 : decode cX8_here 50 = .ok (.getfield 57, 3) := by decide +kernel
theorem dX8_here_53 : decode cX8_here 53 = .ok (.aload_n 0, 1) := by decide +kernel
theorem dX8_here_54 : decode cX8_here 54 = .ok (.getfield 177, 3) := by decide +kernel
theorem dX8_here_57 : decode cX8_here 57 = .ok (.iaload, 1) := by decide +kernel
theorem dX8_here_58 : decode cX8_here 58 = .ok (.goto 4, 3) := by decide +kernel
theorem dX8_here_61 : decode cX8_here 61 = .ok (.iconst (-1), 1) := by decide +kernel
theorem dX8_here_62 : decode cX8_here 62 = .ok (.ireturn, 1) := by decide +kernel
theorem dX8_must_0 : decode cX8_must 0 = .ok (.aload_n 0, 1) := by decide +kernel
theorem dX8_must_1 : decode cX8_must 1 = .ok (.getfield 180, 3) := by decide +kernel
theorem dX8_must_4 : decode cX8_must 4 = .ok (.iconst (-1), 1) := by decide +kernel
theorem dX8_must_5 : decode cX8_must 5 = .ok (.if_icmp .ne 28, 3) := by decide +kernel
theorem dX8_must_8 : decode cX8_must 8 = .ok (.iload_n 1, 1) := by decide +kernel
theorem dX8_must_9 : decode cX8_must 9 = .ok (.ifCond .eq 16, 3) := by decide +kernel
theorem dX8_must_12 : decode cX8_must 12 = .ok (.aload_n 0, 1) := by decide +kernel
theorem dX8_must_13 : decode cX8_must 13 = .ok (.dup, 1) := by decide +kernel
theorem dX8_must_14 : decode cX8_must 14 = .ok (.getfield 177, 3) := by decide +kernel
theorem dX8_must_17 : decode cX8_must 17 = .ok (.iconst 1, 1) := by decide +kernel
theorem dX8_must_18 : decode cX8_must 18 = .ok (.iadd, 1) := by decide +kernel
theorem dX8_must_19 : decode cX8_must 19 = .ok (.putfield 177, 3) := by decide +kernel
theorem dX8_must_22 : decode cX8_must 22 = .ok (.goto 11, 3) := by decide +kernel
theorem dX8_must_25 : decode cX8_must 25 = .ok (.aload_n 0, 1) := by decide +kernel
theorem dX8_must_26 : decode cX8_must 26 = .ok (.aload_n 0, 1) := by decide +kernel
theorem dX8_must_27 : decode cX8_must 27 = .ok (.getfield 177, 3) := by decide +kernel
theorem dX8_must_30 : decode cX8_must 30 = .ok (.putfield 180, 3) := by decide +kernel
theorem dX8_must_33 : decode cX8_must 33 = .ok (.return_, 1) := by decide +kernel
theorem dX8_figure_0 : decode cX8_figure 0 = .ok (.aload_n 0, 1) := by decide +kernel
theorem dX8_figure_1 : decode cX8_figure 1 = .ok (.invokevirtual 183, 3) := by decide +kernel
theorem dX8_figure_4 : decode cX8_figure 4 = .ok (.bipush 48, 2) := by decide +kernel
theorem dX8_figure_6 : decode cX8_figure 6 = .ok (.isub, 1) := by decide +kernel
theorem dX8_figure_7 : decode cX8_figure 7 = .ok (.istore_n 3, 1) := by decide +kernel
theorem dX8_figure_8 : decode cX8_figure 8 = .ok (.aload_n 0, 1) := by decide +kernel
theorem dX8_figure_9 : decode cX8_figure 9 = .ok (.iload_n 3, 1) := by decide +kernel
theorem dX8_figure_10 : decode cX8_figure 10 = .ok (.iload_n 1, 1) := by decide +kernel
theorem dX8_figure_11 : decode cX8_figure 11 = .ok (.iload_n 2, 1) := by decide +kernel
theorem dX8_figure_12 : decode cX8_figure 12 = .ok (.invokestatic 84, 3) := by decide +kernel
theorem dX8_figure_15 : decode cX8_figure 15 = .ok (.invokevirtual 186, 3) := by decide +kernel
theorem dX8_figure_18 : decode cX8_figure 18 = .ok (.iload_n 3, 1) := by decide +kernel
theorem dX8_figure_19 : decode cX8_figure 19 = .ok (.ireturn, 1) := by decide +kernel
theorem dX8_readMove_0 : decode cX8_readMove 0 = .ok (.iconst 0, 1) := by decide +kernel
theorem dX8_readMove_1 : decode cX8_readMove 1 = .ok (.istore_n 1, 1) := by decide +kernel
theorem dX8_readMove_2 : decode cX8_readMove 2 = .ok (.iconst 0, 1) := by decide +kernel
theorem dX8_readMove_3 : decode cX8_readMove 3 = .ok (.istore_n 2, 1) := by decide +kernel
theorem dX8_readMove_4 : decode cX8_readMove 4 = .ok (.iconst 0, 1) := by decide +kernel
theorem dX8_readMove_5 : decode cX8_readMove 5 = .ok (.istore_n 3, 1) := by decide +kernel
theorem dX8_readMove_6 : decode cX8_readMove 6 = .ok (.iload_n 3, 1) := by decide +kernel
theorem dX8_readMove_7 : decode cX8_readMove 7 = .ok (.aload_n 0, 1) := by decide +kernel
theorem dX8_readMove_8 : decode cX8_readMove 8 = .ok (.getfield 190, 3) := by decide +kernel
theorem dX8_readMove_11 : decode cX8_readMove 11 = .ok (.if_icmp .ge 86, 3) := by decide +kernel
theorem dX8_readMove_14 : decode cX8_readMove 14 = .ok (.aload_n 0, 1) := by decide +kernel
theorem dX8_readMove_15 : decode cX8_readMove 15 = .ok (.getfield 180, 3) := by decide +kernel
theorem dX8_readMove_18 : decode cX8_readMove 18 = .ok (.iconst (-1), 1) := by decide +kernel
theorem dX8_readMove_19 : decode cX8_readMove 19 = .ok (.if_icmp .ne 78, 3) := by decide +kernel
theorem dX8_readMove_22 : decode cX8_readMove 22 = .ok (.aload_n 0, 1) := by decide +kernel
theorem dX8_readMove_23 : decode cX8_readMove 23 = .ok (.invokevirtual 183, 3) := by decide +kernel
theorem dX8_readMove_26 : decode cX8_readMove 26 = .ok (.bipush 48, 2) := by decide +kernel
theorem dX8_readMove_28 : decode cX8_readMove 28 = .ok (.isub, 1) := by decide +kernel
theorem dX8_readMove_29 : decode cX8_readMove 29 = .ok (.istore 4, 2) := by decide +kernel
theorem dX8_readMove_31 : decode cX8_readMove 31 = .ok (.aload_n 0, 1) := by decide +kernel
theorem dX8_readMove_32 : decode cX8_readMove 32 = .ok (.iload 4, 2) := by decide +kernel
theorem dX8_readMove_34 : decode cX8_readMove 34 = .ok (.iconst 0, 1) := by decide +kernel
theorem dX8_readMove_35 : decode cX8_readMove 35 = .ok (.aload_n 0, 1) := by decide +kernel
theorem dX8_readMove_36 : decode cX8_readMove 36 = .ok (.getfield 190, 3) := by decide +kernel
theorem dX8_readMove_39 : decode cX8_readMove 39 = .ok (.iconst 1, 1) := by decide +kernel
theorem dX8_readMove_40 : decode cX8_readMove 40 = .ok (.isub, 1) := by decide +kernel
theorem dX8_readMove_41 : decode cX8_readMove 41 = .ok (.invokestatic 84, 3) := by decide +kernel
theorem dX8_readMove_44 : decode cX8_readMove 44 = .ok (.ifCond .eq 16, 3) := by decide +kernel
theorem dX8_readMove_47 : decode cX8_readMove 47 = .ok (.iload_n 1, 1) := by decide +kernel
theorem dX8_readMove_48 : decode cX8_readMove 48 = .ok (.iload 4, 2) := by decide +kernel
theorem dX8_readMove_50 : decode cX8_readMove 50 = .ok (.invokestatic 133, 3) := by decide +kernel
theorem dX8_readMove_53 : decode cX8_readMove 53 = .ok (.ifCond .ne 7, 3) := by decide +kernel
theorem dX8_readMove_56 : decode cX8_readMove 56 = .ok (.iconst 1, 1) := by decide +kernel
theorem dX8_readMove_57 : decode cX8_readMove 57 = .ok (.goto 4, 3) := by decide +kernel
theorem dX8_readMove_60 : decode cX8_readMove 60 = .ok (.iconst 0, 1) := by decide +kernel
theorem dX8_readMove_61 : decode cX8_readMove 61 = .ok (.invokevirtual 186, 3) := by decide +kernel
theorem dX8_readMove_64 : decode cX8_readMove 64 = .ok (.iload_n 1, 1) := by decide +kernel
theorem dX8_readMove_65 : decode cX8_readMove 65 = .ok (.aload_n 0, 1) := by decide +kernel
theorem dX8_readMove_66 : decode cX8_readMove 66 = .ok (.getfield 180, 3) := by decide +kernel
theorem dX8_readMove_69 : decode cX8_readMove 69 = .ok (.iconst (-1), 1) := by decide +kernel
theorem dX8_readMove_70 : decode cX8_readMove 70 = .ok (.if_icmp .ne 10, 3) := by decide +kernel
theorem dX8_readMove_73 : decode cX8_readMove 73 = .ok (.iconst 1, 1) := by decide +kernel
theorem dX8_readMove_74 : decode cX8_readMove 74 = .ok (.iload 4, 2) := by decide +kernel
theorem dX8_readMove_76 : decode cX8_readMove 76 = .ok (.ishl, 1) := by decide +kernel
theorem dX8_readMove_77 : decode cX8_readMove 77 = .ok (.goto 4, 3) := by decide +kernel
theorem dX8_readMove_80 : decode cX8_readMove 80 = .ok (.iconst 0, 1) := by decide +kernel
theorem dX8_readMove_81 : decode cX8_readMove 81 = .ok (.ior, 1) := by decide +kernel
theorem dX8_readMove_82 : decode cX8_readMove 82 = .ok (.istore_n 1, 1) := by decide +kernel
theorem dX8_readMove_83 : decode cX8_readMove 83 = .ok (.bipush 10, 2) := by decide +kernel
theorem dX8_readMove_85 : decode cX8_readMove 85 = .ok (.iload_n 2, 1) := by decide +kernel
theorem dX8_readMove_86 : decode cX8_readMove 86 = .ok (.imul, 1) := by decide +kernel
theorem dX8_readMove_87 : decode cX8_readMove 87 = .ok (.iload 4, 2) := by decide +kernel
theorem dX8_readMove_89 : decode cX8_readMove 89 = .ok (.iadd, 1) := by decide +kernel
theorem dX8_readMove_90 : decode cX8_readMove 90 = .ok (.istore_n 2, 1) := by decide +kernel
theorem dX8_readMove_91 : decode cX8_readMove 91 = .ok (.iinc 3 1, 3) := by decide +kernel
theorem dX8_readMove_94 : decode cX8_readMove 94 = .ok (.goto (-88), 3) := by decide +kernel
theorem dX8_readMove_97 : decode cX8_readMove 97 = .ok (.iload_n 2, 1) := by decide +kernel
theorem dX8_readMove_98 : decode cX8_readMove 98 = .ok (.ireturn, 1) := by decide +kernel
theorem dX8_readOrder_0 : decode cX8_readOrder 0 = .ok (.aload_n 0, 1) := by decide +kernel
theorem dX8_readOrder_1 : decode cX8_readOrder 1 = .ok (.invokevirtual 183, 3) := by decide +kernel
theorem dX8_readOrder_4 : decode cX8_readOrder 4 = .ok (.istore_n 1, 1) := by decide +kernel
theorem dX8_readOrder_5 : decode cX8_readOrder 5 = .ok (.aload_n 0, 1) := by decide +kernel
theorem dX8_readOrder_6 : decode cX8_readOrder 6 = .ok (.iload_n 1, 1) := by decide +kernel
theorem dX8_readOrder_7 : decode cX8_readOrder 7 = .ok (.bipush 110, 2) := by decide +kernel
theorem dX8_readOrder_9 : decode cX8_readOrder 9 = .ok (.if_icmp .eq 15, 3) := by decide +kernel
theorem dX8_readOrder_12 : decode cX8_readOrder 12 = .ok (.iload_n 1, 1) := by decide +kernel
theorem dX8_readOrder_13 : decode cX8_readOrder 13 = .ok (.bipush 109, 2) := by decide +kernel
theorem dX8_readOrder_15 : decode cX8_readOrder 15 = .ok (.if_icmp .eq 9, 3) := by decide +kernel
theorem dX8_readOrder_18 : decode cX8_readOrder 18 = .ok (.iload_n 1, 1) := by decide +kernel
theorem dX8_readOrder_19 : decode cX8_readOrder 19 = .ok (.bipush 120, 2) := by decide +kernel
theorem dX8_readOrder_21 : decode cX8_readOrder 21 = .ok (.if_icmp .ne 7, 3) := by decide +kernel
theorem dX8_readOrder_24 : decode cX8_readOrder 24 = .ok (.iconst 1, 1) := by decide +kernel
theorem dX8_readOrder_25 : decode cX8_readOrder 25 = .ok (.goto 4, 3) := by decide +kernel
theorem dX8_readOrder_28 : decode cX8_readOrder 28 = .ok (.iconst 0, 1) := by decide +kernel
theorem dX8_readOrder_29 : decode cX8_readOrder 29 = .ok (.invokevirtual 186, 3) := by decide +kernel
theorem dX8_readOrder_32 : decode cX8_readOrder 32 = .ok (.aload_n 0, 1) := by decide +kernel
theorem dX8_readOrder_33 : decode cX8_readOrder 33 = .ok (.getfield 180, 3) := by decide +kernel
theorem dX8_readOrder_36 : decode cX8_readOrder 36 = .ok (.iconst (-1), 1) := by decide +kernel
theorem dX8_readOrder_37 : decode cX8_readOrder 37 = .ok (.if_icmp .eq 4, 3) := by decide +kernel
theorem dX8_readOrder_40 : decode cX8_readOrder 40 = .ok (.return_, 1) := by decide +kernel
theorem dX8_readOrder_41 : decode cX8_readOrder 41 = .ok (.aload_n 0, 1) := by decide +kernel
theorem dX8_readOrder_42 : decode cX8_readOrder 42 = .ok (.getfield 60, 3) := by decide +kernel
theorem dX8_readOrder_45 : decode cX8_readOrder 45 = .ok (.aload_n 0, 1) := by decide +kernel
theorem dX8_readOrder_46 : decode cX8_readOrder 46 = .ok (.getfield 193, 3) := by decide +kernel
theorem dX8_readOrder_49 : decode cX8_readOrder 49 = .ok (.iload_n 1, 1) := by decide +kernel
theorem dX8_readOrder_50 : decode cX8_readOrder 50 = .ok (.iastore, 1) := by decide +kernel
theorem dX8_readOrder_51 : decode cX8_readOrder 51 = .ok (.iload_n 1, 1) := by decide +kernel
theorem dX8_readOrder_52 : decode cX8_readOrder 52 = .ok (.bipush 109, 2) := by decide +kernel
theorem dX8_readOrder_54 : decode cX8_readOrder 54 = .ok (.if_icmp .ne 19, 3) := by decide +kernel
theorem dX8_readOrder_57 : decode cX8_readOrder 57 = .ok (.aload_n 0, 1) := by decide +kernel
theorem dX8_readOrder_58 : decode cX8_readOrder 58 = .ok (.getfield 63, 3) := by decide +kernel
theorem dX8_readOrder_61 : decode cX8_readOrder 61 = .ok (.aload_n 0, 1) := by decide +kernel
theorem dX8_readOrder_62 : decode cX8_readOrder 62 = .ok (.getfield 193, 3) := by decide +kernel
theorem dX8_readOrder_65 : decode cX8_readOrder 65 = .ok (.aload_n 0, 1) := by decide +kernel
theorem dX8_readOrder_66 : decode cX8_readOrder 66 = .ok (.invokevirtual 196, 3) := by decide +kernel
theorem dX8_readOrder_69 : decode cX8_readOrder 69 = .ok (.iastore, 1) := by decide +kernel
theorem dX8_readOrder_70 : decode cX8_readOrder 70 = .ok (.goto 61, 3) := by decide +kernel
theorem dX8_readOrder_73 : decode cX8_readOrder 73 = .ok (.aload_n 0, 1) := by decide +kernel
theorem dX8_readOrder_74 : decode cX8_readOrder 74 = .ok (.getfield 63, 3) := by decide +kernel
theorem dX8_readOrder_77 : decode cX8_readOrder 77 = .ok (.aload_n 0, 1) := by decide +kernel
theorem dX8_readOrder_78 : decode cX8_readOrder 78 = .ok (.getfield 193, 3) := by decide +kernel
theorem dX8_readOrder_81 : decode cX8_readOrder 81 = .ok (.iload_n 1, 1) := by decide +kernel
theorem dX8_readOrder_82 : decode cX8_readOrder 82 = .ok (.bipush 110, 2) := by decide +kernel
theorem dX8_readOrder_84 : decode cX8_readOrder 84 = .ok (.if_icmp .ne 13, 3) := by decide +kernel
theorem dX8_readOrder_87 : decode cX8_readOrder 87 = .ok (.aload_n 0, 1) := by decide +kernel
theorem dX8_readOrder_88 : decode cX8_readOrder 88 = .ok (.iconst 1, 1) := by decide +kernel
theorem dX8_readOrder_89 : decode cX8_readOrder 89 = .ok (.bipush 8, 2) := by decide +kernel
theorem dX8_readOrder_91 : decode cX8_readOrder 91 = .ok (.invokevirtual 199, 3) := by decide +kernel
theorem dX8_readOrder_94 : decode cX8_readOrder 94 = .ok (.goto 10, 3) := by decide +kernel
theorem dX8_readOrder_97 : decode cX8_readOrder 97 = .ok (.aload_n 0, 1) := by decide +kernel
theorem dX8_readOrder_98 : decode cX8_readOrder 98 = .ok (.iconst 0, 1) := by decide +kernel
theorem dX8_readOrder_99 : decode cX8_readOrder 99 = .ok (.bipush 9, 2) := by decide +kernel
theorem dX8_readOrder_101 : decode cX8_readOrder 101 = .ok (.invokevirtual 199, 3) := by decide +kernel
theorem dX8_readOrder_104 : decode cX8_readOrder 104 = .ok (.iastore, 1) := by decide +kernel
theorem dX8_readOrder_105 : decode cX8_readOrder 105 = .ok (.aload_n 0, 1) := by decide +kernel
theorem dX8_readOrder_106 : decode cX8_readOrder 106 = .ok (.iload_n 1, 1) := by decide +kernel
theorem dX8_readOrder_107 : decode cX8_readOrder 107 = .ok (.bipush 110, 2) := by decide +kernel
theorem dX8_readOrder_109 : decode cX8_readOrder 109 = .ok (.if_icmp .ne 15, 3) := by decide +kernel
theorem dX8_readOrder_112 : decode cX8_readOrder 112 = .ok (.aload_n 0, 1) := by decide +kernel
theorem dX8_readOrder_113 : decode cX8_readOrder 113 = .ok (.getfield 63, 3) := by decide +kernel
theorem dX8_readOrder_116 : decode cX8_readOrder 116 = .ok (.aload_n 0, 1) := by decide +kernel
theorem dX8_readOrder_117 : decode cX8_readOrder 117 = .ok (.getfield 193, 3) := by decide +kernel
theorem dX8_readOrder_120 : decode cX8_readOrder 120 = .ok (.iaload, 1) := by decide +kernel
theorem dX8_readOrder_121 : decode cX8_readOrder 121 = .ok (.goto 7, 3) := by decide +kernel
theorem dX8_readOrder_124 : decode cX8_readOrder 124 = .ok (.aload_n 0, 1) := by decide +kernel
theorem dX8_readOrder_125 : decode cX8_readOrder 125 = .ok (.getfield 190, 3) := by decide +kernel
theorem dX8_readOrder_128 : decode cX8_readOrder 128 = .ok (.putfield 190, 3) := by decide +kernel
theorem dX8_readOrder_131 : decode cX8_readOrder 131 = .ok (.aload_n 0, 1) := by decide +kernel
theorem dX8_readOrder_132 : decode cX8_readOrder 132 = .ok (.dup, 1) := by decide +kernel
theorem dX8_readOrder_133 : decode cX8_readOrder 133 = .ok (.getfield 193, 3) := by decide +kernel
theorem dX8_readOrder_136 : decode cX8_readOrder 136 = .ok (.iconst 1, 1) := by decide +kernel
theorem dX8_readOrder_137 : decode cX8_readOrder 137 = .ok (.iadd, 1) := by decide +kernel
theorem dX8_readOrder_138 : decode cX8_readOrder 138 = .ok (.putfield 193, 3) := by decide +kernel
theorem dX8_readOrder_141 : decode cX8_readOrder 141 = .ok (.aload_n 0, 1) := by decide +kernel
theorem dX8_readOrder_142 : decode cX8_readOrder 142 = .ok (.aload_n 0, 1) := by decide +kernel
theorem dX8_readOrder_143 : decode cX8_readOrder 143 = .ok (.invokevirtual 183, 3) := by decide +kernel
theorem dX8_readOrder_146 : decode cX8_readOrder 146 = .ok (.bipush 59, 2) := by decide +kernel
theorem dX8_readOrder_148 : decode cX8_readOrder 148 = .ok (.if_icmp .ne 7, 3) := by decide +kernel
theorem dX8_readOrder_151 : decode cX8_readOrder 151 = .ok (.iconst 1, 1) := by decide +kernel
theorem dX8_readOrder_152 : decode cX8_readOrder 152 = .ok (.goto 4, 3) := by decide +kernel
theorem dX8_readOrder_155 : decode cX8_readOrder 155 = .ok (.iconst 0, 1) := by decide +kernel
theorem dX8_readOrder_156 : decode cX8_readOrder 156 = .ok (.invokevirtual 186, 3) := by decide +kernel
theorem dX8_readOrder_159 : decode cX8_readOrder 159 = .ok (.return_, 1) := by decide +kernel
theorem dX8_doOrder_0 : decode cX8_doOrder 0 = .ok (.aload_n 0, 1) := by decide +kernel
theorem dX8_doOrder_1 : decode cX8_doOrder 1 = .ok (.getfield 60, 3) := by decide +kernel
theorem dX8_doOrder_4 : decode cX8_doOrder 4 = .ok (.iload_n 1, 1) := by decide +kernel
theorem dX8_doOrder_5 : decode cX8_doOrder 5 = .ok (.iaload, 1) := by decide +kernel
theorem dX8_doOrder_6 : decode cX8_doOrder 6 = .ok (.bipush 110, 2) := by decide +kernel
theorem dX8_doOrder_8 : decode cX8_doOrder 8 = .ok (.if_icmp .ne 16, 3) := by decide +kernel
theorem dX8_doOrder_11 : decode cX8_doOrder 11 = .ok (.aload_n 0, 1) := by decide +kernel
theorem dX8_doOrder_12 : decode cX8_doOrder 12 = .ok (.aload_n 0, 1) := by decide +kernel
theorem dX8_doOrder_13 : decode cX8_doOrder 13 = .ok (.getfield 63, 3) := by decide +kernel
theorem dX8_doOrder_16 : decode cX8_doOrder 16 = .ok (.iload_n 1, 1) := by decide +kernel
theorem dX8_doOrder_17 : decode cX8_doOrder 17 = .ok (.iaload, 1) := by decide +kernel
theorem dX8_doOrder_18 : decode cX8_doOrder 18 = .ok (.invokevirtual 99, 3) := by decide +kernel
theorem dX8_doOrder_21 : decode cX8_doOrder 21 = .ok (.goto 37, 3) := by decide +kernel
theorem dX8_doOrder_24 : decode cX8_doOrder 24 = .ok (.aload_n 0, 1) := by decide +kernel
theorem dX8_doOrder_25 : decode cX8_doOrder 25 = .ok (.getfield 60, 3) := by decide +kernel
theorem dX8_doOrder_28 : decode cX8_doOrder 28 = .ok (.iload_n 1, 1) := by decide +kernel
theorem dX8_doOrder_29 : decode cX8_doOrder 29 = .ok (.iaload, 1) := by decide +kernel
theorem dX8_doOrder_30 : decode cX8_doOrder 30 = .ok (.bipush 109, 2) := by decide +kernel
theorem dX8_doOrder_32 : decode cX8_doOrder 32 = .ok (.if_icmp .ne 16, 3) := by decide +kernel
theorem dX8_doOrder_35 : decode cX8_doOrder 35 = .ok (.aload_n 0, 1) := by decide +kernel
theorem dX8_doOrder_36 : decode cX8_doOrder 36 = .ok (.aload_n 0, 1) := by decide +kernel
theorem dX8_doOrder_37 : decode cX8_doOrder 37 = .ok (.getfield 63, 3) := by decide +kernel
theorem dX8_doOrder_40 : decode cX8_doOrder 40 = .ok (.iload_n 1, 1) := by decide +kernel
theorem dX8_doOrder_41 : decode cX8_doOrder 41 = .ok (.iaload, 1) := by decide +kernel
theorem dX8_doOrder_42 : decode cX8_doOrder 42 = .ok (.invokevirtual 105, 3) := by decide +kernel
theorem dX8_doOrder_45 : decode cX8_doOrder 45 = .ok (.goto 13, 3) := by decide +kernel
theorem dX8_doOrder_48 : decode cX8_doOrder 48 = .ok (.aload_n 0, 1) := by decide +kernel
theorem dX8_doOrder_49 : decode cX8_doOrder 49 = .ok (.aload_n 0, 1) := by decide +kernel
theorem dX8_doOrder_50 : decode cX8_doOrder 50 = .ok (.getfield 63, 3) := by decide +kernel
theorem dX8_doOrder_53 : decode cX8_doOrder 53 = .ok (.iload_n 1, 1) := by decide +kernel
theorem dX8_doOrder_54 : decode cX8_doOrder 54 = .ok (.iaload, 1) := by decide +kernel
theorem dX8_doOrder_55 : decode cX8_doOrder 55 = .ok (.invokevirtual 108, 3) := by decide +kernel
theorem dX8_doOrder_58 : decode cX8_doOrder 58 = .ok (.ireturn, 1) := by decide +kernel
theorem dX8_reads_0 : decode cX8_reads 0 = .ok (.aload_n 0, 1) := by decide +kernel
theorem dX8_reads_1 : decode cX8_reads 1 = .ok (.iconst 0, 1) := by decide +kernel
theorem dX8_reads_2 : decode cX8_reads 2 = .ok (.putfield 177, 3) := by decide +kernel
theorem dX8_reads_5 : decode cX8_reads 5 = .ok (.aload_n 0, 1) := by decide +kernel
theorem dX8_reads_6 : decode cX8_reads 6 = .ok (.iconst (-1), 1) := by decide +kernel
theorem dX8_reads_7 : decode cX8_reads 7 = .ok (.putfield 180, 3) := by decide +kernel
theorem dX8_reads_10 : decode cX8_reads 10 = .ok (.aload_n 0, 1) := by decide +kernel
theorem dX8_reads_11 : decode cX8_reads 11 = .ok (.iconst 0, 1) := by decide +kernel
theorem dX8_reads_12 : decode cX8_reads 12 = .ok (.putfield 193, 3) := by decide +kernel
theorem dX8_reads_15 : decode cX8_reads 15 = .ok (.aload_n 0, 1) := by decide +kernel
theorem dX8_reads_16 : decode cX8_reads 16 = .ok (.aload_n 0, 1) := by decide +kernel
theorem dX8_reads_17 : decode cX8_reads 17 = .ok (.getfield 7, 3) := by decide +kernel
theorem dX8_reads_20 : decode cX8_reads 20 = .ok (.iconst 0, 1) := by decide +kernel
theorem dX8_reads_21 : decode cX8_reads 21 = .ok (.iaload, 1) := by decide +kernel
theorem dX8_reads_22 : decode cX8_reads 22 = .ok (.putfield 190, 3) := by decide +kernel
theorem dX8_reads_25 : decode cX8_reads 25 = .ok (.aload_n 0, 1) := by decide +kernel
theorem dX8_reads_26 : decode cX8_reads 26 = .ok (.invokevirtual 183, 3) := by decide +kernel
theorem dX8_reads_29 : decode cX8_reads 29 = .ok (.iconst (-1), 1) := by decide +kernel
theorem dX8_reads_30 : decode cX8_reads 30 = .ok (.if_icmp .ne 11, 3) := by decide +kernel
theorem dX8_reads_33 : decode cX8_reads 33 = .ok (.bipush (-10), 2) := by decide +kernel
theorem dX8_reads_35 : decode cX8_reads 35 = .ok (.aload_n 0, 1) := by decide +kernel
theorem dX8_reads_36 : decode cX8_reads 36 = .ok (.getfield 174, 3) := by decide +kernel
theorem dX8_reads_39 : decode cX8_reads 39 = .ok (.isub, 1) := by decide +kernel
theorem dX8_reads_40 : decode cX8_reads 40 = .ok (.ireturn, 1) := by decide +kernel
theorem dX8_reads_41 : decode cX8_reads 41 = .ok (.aload_n 0, 1) := by decide +kernel
theorem dX8_reads_42 : decode cX8_reads 42 = .ok (.getfield 180, 3) := by decide +kernel
theorem dX8_reads_45 : decode cX8_reads 45 = .ok (.iconst (-1), 1) := by decide +kernel
theorem dX8_reads_46 : decode cX8_reads 46 = .ok (.if_icmp .ne 18, 3) := by decide +kernel
theorem dX8_reads_49 : decode cX8_reads 49 = .ok (.aload_n 0, 1) := by decide +kernel
theorem dX8_reads_50 : decode cX8_reads 50 = .ok (.invokevirtual 183, 3) := by decide +kernel
theorem dX8_reads_53 : decode cX8_reads 53 = .ok (.iconst (-1), 1) := by decide +kernel
theorem dX8_reads_54 : decode cX8_reads 54 = .ok (.if_icmp .eq 10, 3) := by decide +kernel
theorem dX8_reads_57 : decode cX8_reads 57 = .ok (.aload_n 0, 1) := by decide +kernel
theorem dX8_reads_58 : decode cX8_reads 58 = .ok (.invokevirtual 202, 3) := by decide +kernel
theorem dX8_reads_61 : decode cX8_reads 61 = .ok (.goto (-20), 3) := by decide +kernel
theorem dX8_reads_64 : decode cX8_reads 64 = .ok (.aload_n 0, 1) := by decide +kernel
theorem dX8_reads_65 : decode cX8_reads 65 = .ok (.getfield 180, 3) := by decide +kernel
theorem dX8_reads_68 : decode cX8_reads 68 = .ok (.iconst (-1), 1) := by decide +kernel
theorem dX8_reads_69 : decode cX8_reads 69 = .ok (.if_icmp .eq 11, 3) := by decide +kernel
theorem dX8_reads_72 : decode cX8_reads 72 = .ok (.bipush (-10), 2) := by decide +kernel
theorem dX8_reads_74 : decode cX8_reads 74 = .ok (.aload_n 0, 1) := by decide +kernel
theorem dX8_reads_75 : decode cX8_reads 75 = .ok (.getfield 180, 3) := by decide +kernel
theorem dX8_reads_78 : decode cX8_reads 78 = .ok (.isub, 1) := by decide +kernel
theorem dX8_reads_79 : decode cX8_reads 79 = .ok (.ireturn, 1) := by decide +kernel
theorem dX8_reads_80 : decode cX8_reads 80 = .ok (.aload_n 0, 1) := by decide +kernel
theorem dX8_reads_81 : decode cX8_reads 81 = .ok (.invokevirtual 96, 3) := by decide +kernel
theorem dX8_reads_84 : decode cX8_reads 84 = .ok (.iconst 0, 1) := by decide +kernel
theorem dX8_reads_85 : decode cX8_reads 85 = .ok (.istore_n 1, 1) := by decide +kernel
theorem dX8_reads_86 : decode cX8_reads 86 = .ok (.iload_n 1, 1) := by decide +kernel
theorem dX8_reads_87 : decode cX8_reads 87 = .ok (.aload_n 0, 1) := by decide +kernel
theorem dX8_reads_88 : decode cX8_reads 88 = .ok (.getfield 193, 3) := by decide +kernel
theorem dX8_reads_91 : decode cX8_reads 91 = .ok (.if_icmp .ge 58, 3) := by decide +kernel
theorem dX8_reads_94 : decode cX8_reads 94 = .ok (.aload_n 0, 1) := by decide +kernel
theorem dX8_reads_95 : decode cX8_reads 95 = .ok (.iload_n 1, 1) := by decide +kernel
theorem dX8_reads_96 : decode cX8_reads 96 = .ok (.invokevirtual 205, 3) := by decide +kernel
theorem dX8_reads_99 : decode cX8_reads 99 = .ok (.ifCond .ge 44, 3) := by decide +kernel
theorem dX8_reads_102 : decode cX8_reads 102 = .ok (.iconst 0, 1) := by decide +kernel
theorem dX8_reads_103 : decode cX8_reads 103 = .ok (.istore_n 2, 1) := by decide +kernel
theorem dX8_reads_104 : decode cX8_reads 104 = .ok (.iload_n 2, 1) := by decide +kernel
theorem dX8_reads_105 : decode cX8_reads 105 = .ok (.iconst 5, 1) := by decide +kernel
theorem dX8_reads_106 : decode cX8_reads 106 = .ok (.if_icmp .ge 21, 3) := by decide +kernel
theorem dX8_reads_109 : decode cX8_reads 109 = .ok (.aload_n 0, 1) := by decide +kernel
theorem dX8_reads_110 : decode cX8_reads 110 = .ok (.getfield 7, 3) := by decide +kernel
theorem dX8_reads_113 : decode cX8_reads 113 = .ok (.iload_n 2, 1) := by decide +kernel
theorem dX8_reads_114 : decode cX8_reads 114 = .ok (.aload_n 0, 1) := by decide +kernel
theorem dX8_reads_115 : decode cX8_reads 115 = .ok (.getfield 13, 3) := by decide +kernel
theorem dX8_reads_118 : decode cX8_reads 118 = .ok (.iload_n 2, 1) := by decide +kernel
theorem dX8_reads_119 : decode cX8_reads 119 = .ok (.iaload, 1) := by decide +kernel
theorem dX8_reads_120 : decode cX8_reads 120 = .ok (.iastore, 1) := by decide +kernel
theorem dX8_reads_121 : decode cX8_reads 121 = .ok (.iinc 2 1, 3) := by decide +kernel
theorem dX8_reads_124 : decode cX8_reads 124 = .ok (.goto (-20), 3) := by decide +kernel
theorem dX8_reads_127 : decode cX8_reads 127 = .ok (.aload_n 0, 1) := by decide +kernel
theorem dX8_reads_128 : decode cX8_reads 128 = .ok (.iconst 0, 1) := by decide +kernel
theorem dX8_reads_129 : decode cX8_reads 129 = .ok (.putfield 77, 3) := by decide +kernel
theorem dX8_reads_132 : decode cX8_reads 132 = .ok (.aload_n 0, 1) := by decide +kernel
theorem dX8_reads_133 : decode cX8_reads 133 = .ok (.iconst 0, 1) := by decide +kernel
theorem dX8_reads_134 : decode cX8_reads 134 = .ok (.putfield 81, 3) := by decide +kernel
theorem dX8_reads_137 : decode cX8_reads 137 = .ok (.sipush (-1000), 3) := by decide +kernel
theorem dX8_reads_140 : decode cX8_reads 140 = .ok (.iload_n 1, 1) := by decide +kernel
theorem dX8_reads_141 : decode cX8_reads 141 = .ok (.isub, 1) := by decide +kernel
theorem dX8_reads_142 : decode cX8_reads 142 = .ok (.ireturn, 1) := by decide +kernel
theorem dX8_reads_143 : decode cX8_reads 143 = .ok (.iinc 1 1, 3) := by decide +kernel
theorem dX8_reads_146 : decode cX8_reads 146 = .ok (.goto (-60), 3) := by decide +kernel
theorem dX8_reads_149 : decode cX8_reads 149 = .ok (.aload_n 0, 1) := by decide +kernel
theorem dX8_reads_150 : decode cX8_reads 150 = .ok (.invokevirtual 74, 3) := by decide +kernel
theorem dX8_reads_153 : decode cX8_reads 153 = .ok (.aload_n 0, 1) := by decide +kernel
theorem dX8_reads_154 : decode cX8_reads 154 = .ok (.getfield 193, 3) := by decide +kernel
theorem dX8_reads_157 : decode cX8_reads 157 = .ok (.ireturn, 1) := by decide +kernel
theorem dX8_toldOf_0 : decode cX8_toldOf 0 = .ok (.iload_n 1, 1) := by decide +kernel
theorem dX8_toldOf_1 : decode cX8_toldOf 1 = .ok (.iconst 3, 1) := by decide +kernel
theorem dX8_toldOf_2 : decode cX8_toldOf 2 = .ok (.if_icmp .ge 12, 3) := by decide +kernel
theorem dX8_toldOf_5 : decode cX8_toldOf 5 = .ok (.aload_n 0, 1) := by decide +kernel
theorem dX8_toldOf_6 : decode cX8_toldOf 6 = .ok (.getfield 19, 3) := by decide +kernel
theorem dX8_toldOf_9 : decode cX8_toldOf 9 = .ok (.iload_n 1, 1) := by decide +kernel
theorem dX8_toldOf_10 : decode cX8_toldOf 10 = .ok (.iaload, 1) := by decide +kernel
theorem dX8_toldOf_11 : decode cX8_toldOf 11 = .ok (.goto 36, 3) := by decide +kernel
theorem dX8_toldOf_14 : decode cX8_toldOf 14 = .ok (.iload_n 1, 1) := by decide +kernel
theorem dX8_toldOf_15 : decode cX8_toldOf 15 = .ok (.iconst 3, 1) := by decide +kernel
theorem dX8_toldOf_16 : decode cX8_toldOf 16 = .ok (.if_icmp .ne 10, 3) := by decide +kernel
theorem dX8_toldOf_19 : decode cX8_toldOf 19 = .ok (.aload_n 0, 1) := by decide +kernel
theorem dX8_toldOf_20 : decode cX8_toldOf 20 = .ok (.getfield 174, 3) := by decide +kernel
theorem dX8_toldOf_23 : decode cX8_toldOf 23 = .ok (.goto 24, 3) := by decide +kernel
theorem dX8_toldOf_26 : decode cX8_toldOf 26 = .ok (.iload_n 1, 1) := by decide +kernel
theorem dX8_toldOf_27 : decode cX8_toldOf 27 = .ok (.bipush 6, 2) := by decide +kernel
theorem dX8_toldOf_29 : decode cX8_toldOf 29 = .ok (.if_icmp .ge 14, 3) := by decide +kernel
theorem dX8_toldOf_32 : decode cX8_toldOf 32 = .ok (.aload_n 0, 1) := by decide +kernel
theorem dX8_toldOf_33 : decode cX8_toldOf 33 = .ok (.getfield 7, 3) := by decide +kernel
theorem dX8_toldOf_36 : decode cX8_toldOf 36 = .ok (.iload_n 1, 1) := by decide +kernel
theorem dX8_toldOf_37 : decode cX8_toldOf 37 = .ok (.iconst 4, 1) := by decide +kernel
theorem dX8_toldOf_38 : decode cX8_toldOf 38 = .ok (.isub, 1) := by decide +kernel
theorem dX8_toldOf_39 : decode cX8_toldOf 39 = .ok (.iaload, 1) := by decide +kernel
theorem dX8_toldOf_40 : decode cX8_toldOf 40 = .ok (.goto 7, 3) := by decide +kernel
theorem dX8_toldOf_43 : decode cX8_toldOf 43 = .ok (.aload_n 0, 1) := by decide +kernel
theorem dX8_toldOf_44 : decode cX8_toldOf 44 = .ok (.getfield 66, 3) := by decide +kernel
theorem dX8_toldOf_47 : decode cX8_toldOf 47 = .ok (.ireturn, 1) := by decide +kernel
theorem dX8_told_0 : decode cX8_told 0 = .ok (.iload_n 1, 1) := by decide +kernel
theorem dX8_told_1 : decode cX8_told 1 = .ok (.iconst 0, 1) := by decide +kernel
theorem dX8_told_2 : decode cX8_told 2 = .ok (.bipush 6, 2) := by decide +kernel
theorem dX8_told_4 : decode cX8_told 4 = .ok (.invokestatic 84, 3) := by decide +kernel
theorem dX8_told_7 : decode cX8_told 7 = .ok (.ifCond .eq 11, 3) := by decide +kernel
theorem dX8_told_10 : decode cX8_told 10 = .ok (.aload_n 0, 1) := by decide +kernel
theorem dX8_told_11 : decode cX8_told 11 = .ok (.iload_n 1, 1) := by decide +kernel
theorem dX8_told_12 : decode cX8_told 12 = .ok (.invokevirtual 208, 3) := by decide +kernel
theorem dX8_told_15 : decode cX8_told 15 = .ok (.goto 9, 3) := by decide +kernel
theorem dX8_told_18 : decode cX8_told 18 = .ok (.aload_n 0, 1) := by decide +kernel
theorem dX8_told_19 : decode cX8_told 19 = .ok (.bipush (-2), 2) := by decide +kernel
theorem dX8_told_21 : decode cX8_told 21 = .ok (.invokevirtual 70, 3) := by decide +kernel
theorem dX8_told_24 : decode cX8_told 24 = .ok (.ireturn, 1) := by decide +kernel
theorem dX8_mix_0 : decode cX8_mix 0 = .ok (.aload_n 0, 1) := by decide +kernel
theorem dX8_mix_1 : decode cX8_mix 1 = .ok (.ldc2_w 211, 3) := by decide +kernel
theorem dX8_mix_4 : decode cX8_mix 4 = .ok (.aload_n 0, 1) := by decide +kernel
theorem dX8_mix_5 : decode cX8_mix 5 = .ok (.getfield 213, 3) := by decide +kernel
theorem dX8_mix_8 : decode cX8_mix 8 = .ok (.lmul, 1) := by decide +kernel
theorem dX8_mix_9 : decode cX8_mix 9 = .ok (.iload_n 1, 1) := by decide +kernel
theorem dX8_mix_10 : decode cX8_mix 10 = .ok (.i2l, 1) := by decide +kernel
theorem dX8_mix_11 : decode cX8_mix 11 = .ok (.ladd, 1) := by decide +kernel
theorem dX8_mix_12 : decode cX8_mix 12 = .ok (.putfield 213, 3) := by decide +kernel
theorem dX8_mix_15 : decode cX8_mix 15 = .ok (.return_, 1) := by decide +kernel
theorem dX8_digest_0 : decode cX8_digest 0 = .ok (.aload_n 0, 1) := by decide +kernel
theorem dX8_digest_1 : decode cX8_digest 1 = .ok (.ldc2_w 217, 3) := by decide +kernel
theorem dX8_digest_4 : decode cX8_digest 4 = .ok (.putfield 213, 3) := by decide +kernel
theorem dX8_digest_7 : decode cX8_digest 7 = .ok (.iconst 0, 1) := by decide +kernel
theorem dX8_digest_8 : decode cX8_digest 8 = .ok (.istore_n 1, 1) := by decide +kernel
theorem dX8_digest_9 : decode cX8_digest 9 = .ok (.iload_n 1, 1) := by decide +kernel
theorem dX8_digest_10 : decode cX8_digest 10 = .ok (.bipush 7, 2) := by decide +kernel
theorem dX8_digest_12 : decode cX8_digest 12 = .ok (.if_icmp .ge 18, 3) := by decide +kernel
theorem dX8_digest_15 : decode cX8_digest 15 = .ok (.aload_n 0, 1) := by decide +kernel
theorem dX8_digest_16 : decode cX8_digest 16 = .ok (.aload_n 0, 1) := by decide +kernel
theorem dX8_digest_17 : decode cX8_digest 17 = .ok (.iload_n 1, 1) := by decide +kernel
theorem dX8_digest_18 : decode cX8_digest 18 = .ok (.invokevirtual 208, 3) := by decide +kernel
theorem dX8_digest_21 : decode cX8_digest 21 = .ok (.invokevirtual 219, 3) := by decide +kernel
theorem dX8_digest_24 : decode cX8_digest 24 = .ok (.iinc 1 1, 3) := by decide +kernel
theorem dX8_digest_27 : decode cX8_digest 27 = .ok (.goto (-18), 3) := by decide +kernel
theorem dX8_digest_30 : decode cX8_digest 30 = .ok (.iconst 0, 1) := by decide +kernel
theorem dX8_digest_31 : decode cX8_digest 31 = .ok (.istore_n 1, 1) := by decide +kernel
theorem dX8_digest_32 : decode cX8_digest 32 = .ok (.iload_n 1, 1) := by decide +kernel
theorem dX8_digest_33 : decode cX8_digest 33 = .ok (.aload_n 0, 1) := by decide +kernel
theorem dX8_digest_34 : decode cX8_digest 34 = .ok (.getfield 7, 3) := by decide +kernel
theorem dX8_digest_37 : decode cX8_digest 37 = .ok (.iconst 1, 1) := by decide +kernel
theorem dX8_digest_38 : decode cX8_digest 38 = .ok (.iaload, 1) := by decide +kernel
theorem dX8_digest_39 : decode cX8_digest 39 = .ok (.if_icmp .ge 21, 3) := by decide +kernel
theorem dX8_digest_42 : decode cX8_digest 42 = .ok (.aload_n 0, 1) := by decide +kernel
theorem dX8_digest_43 : decode cX8_digest 43 = .ok (.aload_n 0, 1) := by decide +kernel
theorem dX8_digest_44 : decode cX8_digest 44 = .ok (.getfield 7, 3) := by decide +kernel
theorem dX8_digest_47 : decode cX8_digest 47 = .ok (.iconst 2, 1) := by decide +kernel
theorem dX8_digest_48 : decode cX8_digest 48 = .ok (.iload_n 1, 1) := by decide +kernel
theorem dX8_digest_49 : decode cX8_digest 49 = .ok (.iadd, 1) := by decide +kernel
theorem dX8_digest_50 : decode cX8_digest 50 = .ok (.iaload, 1) := by decide +kernel
theorem dX8_digest_51 : decode cX8_digest 51 = .ok (.invokevirtual 219, 3) := by decide +kernel
theorem dX8_digest_54 : decode cX8_digest 54 = .ok (.iinc 1 1, 3) := by decide +kernel
theorem dX8_digest_57 : decode cX8_digest 57 = .ok (.goto (-25), 3) := by decide +kernel
theorem dX8_digest_60 : decode cX8_digest 60 = .ok (.aload_n 0, 1) := by decide +kernel
theorem dX8_digest_61 : decode cX8_digest 61 = .ok (.aload_n 0, 1) := by decide +kernel
theorem dX8_digest_62 : decode cX8_digest 62 = .ok (.invokevirtual 222, 3) := by decide +kernel
theorem dX8_digest_65 : decode cX8_digest 65 = .ok (.invokevirtual 219, 3) := by decide +kernel
theorem dX8_digest_68 : decode cX8_digest 68 = .ok (.iconst 0, 1) := by decide +kernel
theorem dX8_digest_69 : decode cX8_digest 69 = .ok (.istore_n 1, 1) := by decide +kernel
theorem dX8_digest_70 : decode cX8_digest 70 = .ok (.iload_n 1, 1) := by decide +kernel
theorem dX8_digest_71 : decode cX8_digest 71 = .ok (.iconst 3, 1) := by decide +kernel
theorem dX8_digest_72 : decode cX8_digest 72 = .ok (.aload_n 0, 1) := by decide +kernel
theorem dX8_digest_73 : decode cX8_digest 73 = .ok (.getfield 7, 3) := by decide +kernel
theorem dX8_digest_76 : decode cX8_digest 76 = .ok (.iconst 0, 1) := by decide +kernel
theorem dX8_digest_77 : decode cX8_digest 77 = .ok (.iaload, 1) := by decide +kernel
theorem dX8_digest_78 : decode cX8_digest 78 = .ok (.imul, 1) := by decide +kernel
theorem dX8_digest_79 : decode cX8_digest 79 = .ok (.if_icmp .ge 23, 3) := by decide +kernel
theorem dX8_digest_82 : decode cX8_digest 82 = .ok (.aload_n 0, 1) := by decide +kernel
theorem dX8_digest_83 : decode cX8_digest 83 = .ok (.aload_n 0, 1) := by decide +kernel
theorem dX8_digest_84 : decode cX8_digest 84 = .ok (.iload_n 1, 1) := by decide +kernel
theorem dX8_digest_85 : decode cX8_digest 85 = .ok (.iconst 3, 1) := by decide +kernel
theorem dX8_digest_86 : decode cX8_digest 86 = .ok (.idiv, 1) := by decide +kernel
theorem dX8_digest_87 : decode cX8_digest 87 = .ok (.iload_n 1, 1) := by decide +kernel
theorem dX8_digest_88 : decode cX8_digest 88 = .ok (.iconst 3, 1) := by decide +kernel
theorem dX8_digest_89 : decode cX8_digest 89 = .ok (.irem, 1) := by decide +kernel
theorem dX8_digest_90 : decode cX8_digest 90 = .ok (.invokevirtual 140, 3) := by decide +kernel
theorem dX8_digest_93 : decode cX8_digest 93 = .ok (.invokevirtual 219, 3) := by decide +kernel
theorem dX8_digest_96 : decode cX8_digest 96 = .ok (.iinc 1 1, 3) := by decide +kernel
theorem dX8_digest_99 : decode cX8_digest 99 = .ok (.goto (-29), 3) := by decide +kernel
theorem dX8_digest_102 : decode cX8_digest 102 = .ok (.iconst 0, 1) := by decide +kernel
theorem dX8_digest_103 : decode cX8_digest 103 = .ok (.istore_n 1, 1) := by decide +kernel
theorem dX8_digest_104 : decode cX8_digest 104 = .ok (.iload_n 1, 1) := by decide +kernel
theorem dX8_digest_105 : decode cX8_digest 105 = .ok (.aload_n 0, 1) := by decide +kernel
theorem dX8_digest_106 : decode cX8_digest 106 = .ok (.getfield 7, 3) := by decide +kernel
theorem dX8_digest_109 : decode cX8_digest 109 = .ok (.iconst 0, 1) := by decide +kernel
theorem dX8_digest_110 : decode cX8_digest 110 = .ok (.iaload, 1) := by decide +kernel
theorem dX8_digest_111 : decode cX8_digest 111 = .ok (.if_icmp .gt 44, 3) := by decide +kernel
theorem dX8_digest_114 : decode cX8_digest 114 = .ok (.aload_n 0, 1) := by decide +kernel
theorem dX8_digest_115 : decode cX8_digest 115 = .ok (.iload_n 1, 1) := by decide +kernel
theorem dX8_digest_116 : decode cX8_digest 116 = .ok (.iconst (-1), 1) := by decide +kernel
theorem dX8_digest_117 : decode cX8_digest 117 = .ok (.invokevirtual 171, 3) := by decide +kernel
theorem dX8_digest_120 : decode cX8_digest 120 = .ok (.istore_n 2, 1) := by decide +kernel
theorem dX8_digest_121 : decode cX8_digest 121 = .ok (.aload_n 0, 1) := by decide +kernel
theorem dX8_digest_122 : decode cX8_digest 122 = .ok (.iload_n 2, 1) := by decide +kernel
theorem dX8_digest_123 : decode cX8_digest 123 = .ok (.invokevirtual 219, 3) := by decide +kernel
theorem dX8_digest_126 : decode cX8_digest 126 = .ok (.iconst 0, 1) := by decide +kernel
theorem dX8_digest_127 : decode cX8_digest 127 = .ok (.istore_n 3, 1) := by decide +kernel
theorem dX8_digest_128 : decode cX8_digest 128 = .ok (.iload_n 3, 1) := by decide +kernel
theorem dX8_digest_129 : decode cX8_digest 129 = .ok (.iload_n 2, 1) := by decide +kernel
theorem dX8_digest_130 : decode cX8_digest 130 = .ok (.if_icmp .ge 19, 3) := by decide +kernel
theorem dX8_digest_133 : decode cX8_digest 133 = .ok (.aload_n 0, 1) := by decide +kernel
theorem dX8_digest_134 : decode cX8_digest 134 = .ok (.aload_n 0, 1) := by decide +kernel
theorem dX8_digest_135 : decode cX8_digest 135 = .ok (.iload_n 1, 1) := by decide +kernel
theorem dX8_digest_136 : decode cX8_digest 136 = .ok (.iload_n 3, 1) := by decide +kernel
theorem dX8_digest_137 : decode cX8_digest 137 = .ok (.invokevirtual 171, 3) := by decide +kernel
theorem dX8_digest_140 : decode cX8_digest 140 = .ok (.invokevirtual 219, 3) := by decide +kernel
theorem dX8_digest_143 : decode cX8_digest 143 = .ok (.iinc 3 1, 3) := by decide +kernel
theorem dX8_digest_146 : decode cX8_digest 146 = .ok (.goto (-18), 3) := by decide +kernel
theorem dX8_digest_149 : decode cX8_digest 149 = .ok (.iinc 1 1, 3) := by decide +kernel
theorem dX8_digest_152 : decode cX8_digest 152 = .ok (.goto (-48), 3) := by decide +kernel
theorem dX8_digest_155 : decode cX8_digest 155 = .ok (.aload_n 0, 1) := by decide +kernel
theorem dX8_digest_156 : decode cX8_digest 156 = .ok (.getfield 213, 3) := by decide +kernel
theorem dX8_digest_159 : decode cX8_digest 159 = .ok (.lreturn, 1) := by decide +kernel
theorem gc_X8_183 : GoodIn xtb (wsV RX8 183 yX8_here.cls yX8_here (xW yX8_here cX8_here 1 (some .int))) := x_good lkM_X8_183 wI_X8_here wS_X8_here wN_X8 wC_X8_here
theorem gc_X8_186 : GoodIn xtb (wsV RX8 186 yX8_must.cls yX8_must (xW yX8_must cX8_must 2 none)) := x_good lkM_X8_186 wI_X8_must wS_X8_must wN_X8 wC_X8_must
theorem gc_X8_196 : GoodIn xtb (wsV RX8 196 yX8_readMove.cls yX8_readMove (xW yX8_readMove cX8_readMove 5 (some .int))) := x_good lkM_X8_196 wI_X8_readMove wS_X8_readMove wN_X8 wC_X8_readMove
theorem gc_X8_199 : GoodIn xtb (wsV RX8 199 yX8_figure.cls yX8_figure (xW yX8_figure cX8_figure 4 (some .int))) := x_good lkM_X8_199 wI_X8_figure wS_X8_figure wN_X8 wC_X8_figure
theorem gc_X8_202 : GoodIn xtb (wsV RX8 202 yX8_readOrder.cls yX8_readOrder (xW yX8_readOrder cX8_readOrder 2 none)) := x_good lkM_X8_202 wI_X8_readOrder wS_X8_readOrder wN_X8 wC_X8_readOrder
theorem gc_X8_205 : GoodIn xtb (wsV RX8 205 yX8_doOrder.cls yX8_doOrder (xW yX8_doOrder cX8_doOrder 2 (some .int))) := x_good lkM_X8_205 wI_X8_doOrder wS_X8_doOrder wN_X8 wC_X8_doOrder
theorem gc_X8_208 : GoodIn xtb (wsV RX8 208 yX8_toldOf.cls yX8_toldOf (xW yX8_toldOf cX8_toldOf 2 (some .int))) := x_good lkM_X8_208 wI_X8_toldOf wS_X8_toldOf wN_X8 wC_X8_toldOf
theorem gc_X8_219 : GoodIn xtb (wsV RX8 219 yX8_mix.cls yX8_mix (xW yX8_mix cX8_mix 2 none)) := x_good lkM_X8_219 wI_X8_mix wS_X8_mix wN_X8 wC_X8_mix
theorem gc_X8_222 : GoodIn xtb (wsV RX8 222 yX8_order.cls yX8_order (xW yX8_order cX8_order 1 (some .int))) := x_good lkM_X8_222 wI_X8_order wS_X8_order wN_X8 wC_X8_order
theorem ds_X8_here : xDs yX8_here 0 := by decide +kernel
theorem ds_X8_must : xDs yX8_must 1 := by decide +kernel
theorem ds_X8_figure : xDs yX8_figure 2 := by decide +kernel
theorem ds_X8_readMove : xDs yX8_readMove 0 := by decide +kernel
theorem ds_X8_readOrder : xDs yX8_readOrder 0 := by decide +kernel
theorem ds_X8_doOrder : xDs yX8_doOrder 1 := by decide +kernel
theorem ds_X8_reads : xDs yX8_reads 0 := by decide +kernel
theorem ds_X8_toldOf : xDs yX8_toldOf 1 := by decide +kernel
theorem ds_X8_told : xDs yX8_told 1 := by decide +kernel
theorem ds_X8_mix : xDs yX8_mix 1 := by decide +kernel
theorem ds_X8_digest : xDs yX8_digest 0 := by decide +kernel
noncomputable def f_X8_here_L1 (m_typed : Int32) (m_text : (Nat → Int32)) (m_at_1 : Int32) : Option ((Int32) ⊕ (Int32)) := xb (m_typed ≤ m_at_1) (some (.inr m_at_1)) (xk (vp_in m_at_1 80) (xb ((m_text m_at_1.toNatClampNeg) = (32 : Int32)) (some (.inl (m_at_1 + (1 : Int32)))) (some (.inr m_at_1))))
noncomputable def f_X8_here (m_text : (Nat → Int32)) (m_typed : Int32) (m_at : Int32) : Option (Int32 × Int32) := xn (xL (f_X8_here_L1 m_typed m_text) m_at) (fun (m_at_2 : Int32) => xb (m_typed ≤ m_at_2) (some (m_at_2, (-1 : Int32))) (xk (vp_in m_at_2 80) (some (m_at_2, (m_text m_at_2.toNatClampNeg)))))
set_option maxHeartbeats 4000000 in
set_option maxRecDepth 100000 in
theorem c_X8_here (l : Launch) (dC : Nat → ClassId) (dI : Nat → Nat → Nat) (cI cZ cB cO : ClassId) (m_ad : Nat) (m_p : Nat → Nat) (m_now : (Nat → Int32)) (m_held : (Nat → Int32)) (m_past : (Nat → Int32)) (m_pasts : Int32) (m_refused : (Nat → Int32)) (m_figures : (Nat → Int32)) (m_isLaid : Int32) (m_many : Int32) (m_isMade : (Nat → Int32)) (m_made : (Nat → Int32)) (m_images : (Nat → Int32)) (m_orbits : (Nat → Int32)) (m_chains : (Nat → Int32)) (m_isCarried : (Nat → Int32)) (m_carried : (Nat → Int32)) (m_carriedMany : Int32) (m_isSorted : Int32) (m_leasts : (Nat → Int32)) (m_heads : (Nat → Int32)) (m_headFrom : (Nat → Int32)) (m_text : (Nat → Int32)) (m_typed : Int32) (m_at : Int32) (m_fault : Int32) (m_orders : Int32) (m_pointsThen : Int32) (m_letters : (Nat → Int32)) (m_numbers : (Nat → Int32)) (m_h : Int64) (o : Int32 × Int32) (h : f_X8_here m_text m_typed m_at = some o) (sz : Nat) : Met l yX8_here (xW yX8_here cX8_here 1 (some .int)) { frames := 0, cells := 0, slots := 0, locals := 0 } (xPre dC dI (xT cI cZ cB cO) [.ref m_ad] (wM cI cZ cB cO m_ad m_p m_now m_held m_past m_pasts m_refused m_figures m_isLaid m_many m_isMade m_made m_images m_orbits m_chains m_isCarried m_carried m_carriedMany m_isSorted m_leasts m_heads m_headFrom m_text m_typed m_at m_fault m_orders m_pointsThen m_letters m_numbers m_h) sz) (xQi dC dI (xT cI cZ cB cO) o.2 (wM cI cZ cB cO m_ad m_p m_now m_held m_past m_pasts m_refused m_figures m_isLaid m_many m_isMade m_made m_images m_orbits m_chains m_isCarried m_carried m_carriedMany m_isSorted m_leasts m_heads m_headFrom m_text m_typed m_at m_fault m_orders m_pointsThen m_letters m_numbers m_h) (wM cI cZ cB cO m_ad m_p m_now m_held m_past m_pasts m_refused m_figures m_isLaid m_many m_isMade m_made m_images m_orbits m_chains m_isCarried m_carried m_carriedMany m_isSorted m_leasts m_heads m_headFrom m_text m_typed o.1 m_fault m_orders m_pointsThen m_letters m_numbers m_h) sz) 0 0 (va_A (wM cI cZ cB cO m_ad m_p m_now m_held m_past m_pasts m_refused m_figures m_isLaid m_many m_isMade m_made m_images m_orbits m_chains m_isCarried m_carried m_carriedMany m_isSorted m_leasts m_heads m_headFrom m_text m_typed m_at m_fault m_orders m_pointsThen m_letters m_numbers m_h) sz) := by
  refine x_met (by decide) (Nat.le_of_ble_eq_true rfl) ?_
  intro p e s m args below meth c R Q A hR hsz hA hQ hin C hw ls hl
  have hx := C.1
  have hb := C.2.1
  have hown := C.2.2.2.1
  have htb := C.2.2.2.2.1
  have hl : lv_has ls 1 [(0, .ref m_ad)] := hl
  obtain ⟨z, hr, h⟩ := xn_i h
  refine xL_w (fun (z : Int32) => ∀ (H : Heap) (locs : List Loc) (ls : Array Slot), xWd (dC, dI) A s.heap H locs (wM cI cZ cB cO m_ad m_p m_now m_held m_past m_pasts m_refused m_figures m_isLaid m_many m_isMade m_made m_images m_orbits m_chains m_isCarried m_carried m_carriedMany m_isSorted m_leasts m_heads m_headFrom m_text m_typed z m_fault m_orders m_pointsThen m_letters m_numbers m_h) → lv_has ls 1 [(0, .ref m_ad)] → W p l e R s m args below meth c H locs 0 0 Q (F0 m 0 ls [])) (fun (z : Int32) => ∀ (H : Heap) (locs : List Loc) (ls : Array Slot), xWd (dC, dI) A s.heap H locs (wM cI cZ cB cO m_ad m_p m_now m_held m_past m_pasts m_refused m_figures m_isLaid m_many m_isMade m_made m_images m_orbits m_chains m_isCarried m_carried m_carriedMany m_isSorted m_leasts m_heads m_headFrom m_text m_typed z m_fault m_orders m_pointsThen m_letters m_numbers m_h) → lv_has ls 1 [(0, .ref m_ad)] → W p l e R s m args below meth c H locs 0 0 Q (F0 m 38 ls [])) ?_ hr ?_ _ _ _ hw (lv_sub hl [0] rfl)
  · intro m_at_1 o h k H locs ls hw hl
    have hw : xWd (dC, dI) A s.heap H locs (wM cI cZ cB cO m_ad m_p m_now m_held m_past m_pasts m_refused m_figures m_isLaid m_many m_isMade m_made m_images m_orbits m_chains m_isCarried m_carried m_carriedMany m_isSorted m_leasts m_heads m_headFrom m_text m_typed m_at_1 m_fault m_orders m_pointsThen m_letters m_numbers m_h) := hw
    have hl : lv_has ls 1 [(0, .ref m_ad)] := hl
    refine lv_aload_n hx hb dX8_here_0 rfl (lv_at hl 0 rfl) ?_
    refine x_get (ci := 7) C hw inX8 rfl 22 (by decide) lkF_X8_177 rfl 0 rfl rfl dX8_here_1 ?_
    refine lv_aload_n hx hb dX8_here_4 rfl (lv_at hl 0 rfl) ?_
    refine x_get (ci := 7) C hw inX8 rfl 21 (by decide) lkF_X8_174 rfl 0 rfl rfl dX8_here_5 ?_
    refine lv_icmp_ge (tgt := 38) hx hb dX8_here_8 (by decide) (fun b1 => ?_) (fun b1 => ?_)
    · replace h := xb_tt b1 h
      obtain rfl := Option.some.inj h
      exact k _ _ _ hw (lv_sub hl [0] rfl)
    · replace h := xb_ff b1 h
      refine lv_aload_n hx hb dX8_here_11 rfl (lv_at hl 0 rfl) ?_
      refine x_get (ci := 7) C hw inX8 rfl 20 (by decide) lkF_X8_57 rfl 0 rfl rfl dX8_here_12 ?_
      refine lv_aload_n hx hb dX8_here_15 rfl (lv_at hl 0 rfl) ?_
      refine x_get (ci := 7) C hw inX8 rfl 22 (by decide) lkF_X8_177 rfl 0 rfl rfl dX8_here_16 ?_
      obtain ⟨b2, h⟩ := xk_i h
      refine x_iald C hw 16 0 rfl rfl b2 dX8_here_19 ?_
      refine lv_bipush (v := (32 : Int32)) hx hb dX8_here_20 (by decide) ?_
      refine lv_icmp_ne (tgt := 38) hx hb dX8_here_22 (by decide) (fun b3 => ?_) (fun b3 => ?_)
      · replace h := xb_ff b3 h
        obtain rfl := Option.some.inj h
        exact k _ _ _ hw (lv_sub hl [0] rfl)
      · replace h := xb_tt b3 h
        refine lv_aload_n hx hb dX8_here_25 rfl (lv_at hl 0 rfl) ?_
        refine lv_dup hx hb dX8_here_26 rfl ?_
        refine x_get (ci := 7) C hw inX8 rfl 22 (by decide) lkF_X8_177 rfl 0 rfl rfl dX8_here_27 ?_
        refine lv_iconst (v := (1 : Int32)) hx hb dX8_here_30 (by decide) ?_
        refine lv_iadd hx hb dX8_here_31 ?_
        refine x_put (ci := 7) C hw inX8 tyX8 tyX8_ok nmX8 rfl 22 (by decide) lkF_X8_177 rfl rfl 0 rfl rfl rfl (Nat.le_of_ble_eq_true rfl) dX8_here_32 (fun H locs hw => ?_)
        have hw : xWd (dC, dI) A s.heap H locs (wM cI cZ cB cO m_ad m_p m_now m_held m_past m_pasts m_refused m_figures m_isLaid m_many m_isMade m_made m_images m_orbits m_chains m_isCarried m_carried m_carriedMany m_isSorted m_leasts m_heads m_headFrom m_text m_typed (m_at_1 + (1 : Int32)) m_fault m_orders m_pointsThen m_letters m_numbers m_h) := hw
        refine lv_goto (tgt := 0) hx hb dX8_here_35 (by decide) ?_
        obtain rfl := Option.some.inj h
        exact k _ _ _ hw (lv_sub hl [0] rfl)
  · obtain ⟨m_at_2, hz⟩ : ∃ q, q = z := ⟨z, rfl⟩
    subst hz
    intro H locs ls hw hl
    have hw : xWd (dC, dI) A s.heap H locs (wM cI cZ cB cO m_ad m_p m_now m_held m_past m_pasts m_refused m_figures m_isLaid m_many m_isMade m_made m_images m_orbits m_chains m_isCarried m_carried m_carriedMany m_isSorted m_leasts m_heads m_headFrom m_text m_typed m_at_2 m_fault m_orders m_pointsThen m_letters m_numbers m_h) := hw
    have hl : lv_has ls 1 [(0, .ref m_ad)] := hl
    refine lv_aload_n hx hb dX8_here_38 rfl (lv_at hl 0 rfl) ?_
    refine x_get (ci := 7) C hw inX8 rfl 22 (by decide) lkF_X8_177 rfl 0 rfl rfl dX8_here_39 ?_
    refine lv_aload_n hx hb dX8_here_42 rfl (lv_at hl 0 rfl) ?_
    refine x_get (ci := 7) C hw inX8 rfl 21 (by decide) lkF_X8_174 rfl 0 rfl rfl dX8_here_43 ?_
    refine lv_icmp_ge (tgt := 61) hx hb dX8_here_46 (by decide) (fun b4 => ?_) (fun b4 => ?_)
    · replace h := xb_tt b4 h
      refine lv_iconst (v := (-1 : Int32)) hx hb dX8_here_61 (by decide) ?_
      obtain rfl := Option.some.inj h
      exact x_reti C hQ hA hw dX8_here_62
    · replace h := xb_ff b4 h
      refine lv_aload_n hx hb dX8_here_49 rfl (lv_at hl 0 rfl) ?_
      refine x_get (ci := 7) C hw inX8 rfl 20 (by decide) lkF_X8_57 rfl 0 rfl rfl dX8_here_50 ?_
      refine lv_aload_n hx hb dX8_here_53 rfl (lv_at hl 0 rfl) ?_
      refine x_get (ci := 7) C hw inX8 rfl 22 (by decide) lkF_X8_177 rfl 0 rfl rfl dX8_here_54 ?_
      obtain ⟨b5, h⟩ := xk_i h
      refine x_iald C hw 16 0 rfl rfl b5 dX8_here_57 ?_
      refine lv_goto (tgt := 62) hx hb dX8_here_58 (by decide) ?_
      obtain rfl := Option.some.inj h
      exact x_reti C hQ hA hw dX8_here_62
noncomputable def f_X8_must (m_at : Int32) (m_fault : Int32) (v1 : Int32) : Option (Int32 × Int32) := xb (m_fault = (-1 : Int32)) (xb (v1 = 0) (some (m_at, m_at)) (some ((m_at + (1 : Int32)), m_fault))) (some (m_at, m_fault))
set_option maxHeartbeats 4000000 in
set_option maxRecDepth 100000 in
theorem c_X8_must (l : Launch) (dC : Nat → ClassId) (dI : Nat → Nat → Nat) (cI cZ cB cO : ClassId) (m_ad : Nat) (m_p : Nat → Nat) (m_now : (Nat → Int32)) (m_held : (Nat → Int32)) (m_past : (Nat → Int32)) (m_pasts : Int32) (m_refused : (Nat → Int32)) (m_figures : (Nat → Int32)) (m_isLaid : Int32) (m_many : Int32) (m_isMade : (Nat → Int32)) (m_made : (Nat → Int32)) (m_images : (Nat → Int32)) (m_orbits : (Nat → Int32)) (m_chains : (Nat → Int32)) (m_isCarried : (Nat → Int32)) (m_carried : (Nat → Int32)) (m_carriedMany : Int32) (m_isSorted : Int32) (m_leasts : (Nat → Int32)) (m_heads : (Nat → Int32)) (m_headFrom : (Nat → Int32)) (m_text : (Nat → Int32)) (m_typed : Int32) (m_at : Int32) (m_fault : Int32) (m_orders : Int32) (m_pointsThen : Int32) (m_letters : (Nat → Int32)) (m_numbers : (Nat → Int32)) (m_h : Int64) (v1 : Int32) (o : Int32 × Int32) (h : f_X8_must m_at m_fault v1 = some o) (sz : Nat) : Met l yX8_must (xW yX8_must cX8_must 2 none) { frames := 0, cells := 0, slots := 0, locals := 0 } (xPre dC dI (xT cI cZ cB cO) [.ref m_ad, .int v1] (wM cI cZ cB cO m_ad m_p m_now m_held m_past m_pasts m_refused m_figures m_isLaid m_many m_isMade m_made m_images m_orbits m_chains m_isCarried m_carried m_carriedMany m_isSorted m_leasts m_heads m_headFrom m_text m_typed m_at m_fault m_orders m_pointsThen m_letters m_numbers m_h) sz) (xQv dC dI (xT cI cZ cB cO) (wM cI cZ cB cO m_ad m_p m_now m_held m_past m_pasts m_refused m_figures m_isLaid m_many m_isMade m_made m_images m_orbits m_chains m_isCarried m_carried m_carriedMany m_isSorted m_leasts m_heads m_headFrom m_text m_typed m_at m_fault m_orders m_pointsThen m_letters m_numbers m_h) (wM cI cZ cB cO m_ad m_p m_now m_held m_past m_pasts m_refused m_figures m_isLaid m_many m_isMade m_made m_images m_orbits m_chains m_isCarried m_carried m_carriedMany m_isSorted m_leasts m_heads m_headFrom m_text m_typed o.1 o.2 m_orders m_pointsThen m_letters m_numbers m_h) sz) 0 0 (va_A (wM cI cZ cB cO m_ad m_p m_now m_held m_past m_pasts m_refused m_figures m_isLaid m_many m_isMade m_made m_images m_orbits m_chains m_isCarried m_carried m_carriedMany m_isSorted m_leasts m_heads m_headFrom m_text m_typed m_at m_fault m_orders m_pointsThen m_letters m_numbers m_h) sz) := by
  refine x_met (by decide) (Nat.le_of_ble_eq_true rfl) ?_
  intro p e s m args below meth c R Q A hR hsz hA hQ hin C hw ls hl
  have hx := C.1
  have hb := C.2.1
  have hown := C.2.2.2.1
  have htb := C.2.2.2.2.1
  have hl : lv_has ls 2 [(0, .ref m_ad), (1, .int v1)] := hl
  refine lv_aload_n hx hb dX8_must_0 rfl (lv_at hl 0 rfl) ?_
  refine x_get (ci := 7) C hw inX8 rfl 23 (by decide) lkF_X8_180 rfl 0 rfl rfl dX8_must_1 ?_
  refine lv_iconst (v := (-1 : Int32)) hx hb dX8_must_4 (by decide) ?_
  refine lv_icmp_ne (tgt := 33) hx hb dX8_must_5 (by decide) (fun b1 => ?_) (fun b1 => ?_)
  · replace h := xb_ff b1 h
    obtain rfl := Option.some.inj h
    exact x_retv C hQ hA hw dX8_must_33
  · replace h := xb_tt b1 h
    refine lv_iload_n hx hb dX8_must_8 rfl (lv_at hl 1 rfl) ?_
    refine lv_if_eq (tgt := 25) hx hb dX8_must_9 (by decide) (fun b2 => ?_) (fun b2 => ?_)
    · replace h := xb_tt b2 h
      refine lv_aload_n hx hb dX8_must_25 rfl (lv_at hl 0 rfl) ?_
      refine lv_aload_n hx hb dX8_must_26 rfl (lv_at hl 0 rfl) ?_
      refine x_get (ci := 7) C hw inX8 rfl 22 (by decide) lkF_X8_177 rfl 0 rfl rfl dX8_must_27 ?_
      refine x_put (ci := 7) C hw inX8 tyX8 tyX8_ok nmX8 rfl 23 (by decide) lkF_X8_180 rfl rfl 0 rfl rfl rfl (Nat.le_of_ble_eq_true rfl) dX8_must_30 (fun H locs hw => ?_)
      have hw : xWd (dC, dI) A s.heap H locs (wM cI cZ cB cO m_ad m_p m_now m_held m_past m_pasts m_refused m_figures m_isLaid m_many m_isMade m_made m_images m_orbits m_chains m_isCarried m_carried m_carriedMany m_isSorted m_leasts m_heads m_headFrom m_text m_typed m_at m_at m_orders m_pointsThen m_letters m_numbers m_h) := hw
      obtain rfl := Option.some.inj h
      exact x_retv C hQ hA hw dX8_must_33
    · replace h := xb_ff b2 h
      refine lv_aload_n hx hb dX8_must_12 rfl (lv_at hl 0 rfl) ?_
      refine lv_dup hx hb dX8_must_13 rfl ?_
      refine x_get (ci := 7) C hw inX8 rfl 22 (by decide) lkF_X8_177 rfl 0 rfl rfl dX8_must_14 ?_
      refine lv_iconst (v := (1 : Int32)) hx hb dX8_must_17 (by decide) ?_
      refine lv_iadd hx hb dX8_must_18 ?_
      refine x_put (ci := 7) C hw inX8 tyX8 tyX8_ok nmX8 rfl 22 (by decide) lkF_X8_177 rfl rfl 0 rfl rfl rfl (Nat.le_of_ble_eq_true rfl) dX8_must_19 (fun H locs hw => ?_)
      have hw : xWd (dC, dI) A s.heap H locs (wM cI cZ cB cO m_ad m_p m_now m_held m_past m_pasts m_refused m_figures m_isLaid m_many m_isMade m_made m_images m_orbits m_chains m_isCarried m_carried m_carriedMany m_isSorted m_leasts m_heads m_headFrom m_text m_typed (m_at + (1 : Int32)) m_fault m_orders m_pointsThen m_letters m_numbers m_h) := hw
      refine lv_goto (tgt := 33) hx hb dX8_must_22 (by decide) ?_
      obtain rfl := Option.some.inj h
      exact x_retv C hQ hA hw dX8_must_33
noncomputable def f_X8_figure (m_text : (Nat → Int32)) (m_typed : Int32) (m_at : Int32) (m_fault : Int32) (v1 : Int32) (v2 : Int32) : Option (Int32 × Int32 × Int32) := xn (f_X8_here m_text m_typed m_at) (fun (z : Int32 × Int32) => match z with | (m_at_1, r_2) => xn (f_X8_in (r_2 - (48 : Int32)) v1 v2) (fun (r_3 : Int32) => xn (f_X8_must m_at_1 m_fault r_3) (fun (z : Int32 × Int32) => match z with | (m_at_4, m_fault_5) => some (m_at_4, m_fault_5, (r_2 - (48 : Int32))))))
set_option maxHeartbeats 4000000 in
set_option maxRecDepth 100000 in
theorem c_X8_figure (l : Launch) (dC : Nat → ClassId) (dI : Nat → Nat → Nat) (cI cZ cB cO : ClassId) (m_ad : Nat) (m_p : Nat → Nat) (m_now : (Nat → Int32)) (m_held : (Nat → Int32)) (m_past : (Nat → Int32)) (m_pasts : Int32) (m_refused : (Nat → Int32)) (m_figures : (Nat → Int32)) (m_isLaid : Int32) (m_many : Int32) (m_isMade : (Nat → Int32)) (m_made : (Nat → Int32)) (m_images : (Nat → Int32)) (m_orbits : (Nat → Int32)) (m_chains : (Nat → Int32)) (m_isCarried : (Nat → Int32)) (m_carried : (Nat → Int32)) (m_carriedMany : Int32) (m_isSorted : Int32) (m_leasts : (Nat → Int32)) (m_heads : (Nat → Int32)) (m_headFrom : (Nat → Int32)) (m_text : (Nat → Int32)) (m_typed : Int32) (m_at : Int32) (m_fault : Int32) (m_orders : Int32) (m_pointsThen : Int32) (m_letters : (Nat → Int32)) (m_numbers : (Nat → Int32)) (m_h : Int64) (v1 : Int32) (v2 : Int32) (o : Int32 × Int32 × Int32) (h : f_X8_figure m_text m_typed m_at m_fault v1 v2 = some o) (sz : Nat) : Met l yX8_figure (xW yX8_figure cX8_figure 4 (some .int)) { frames := 1, cells := 0, slots := 0, locals := 22 } (xPre dC dI (xT cI cZ cB cO) [.ref m_ad, .int v1, .int v2] (wM cI cZ cB cO m_ad m_p m_now m_held m_past m_pasts m_refused m_figures m_isLaid m_many m_isMade m_made m_images m_orbits m_chains m_isCarried m_carried m_carriedMany m_isSorted m_leasts m_heads m_headFrom m_text m_typed m_at m_fault m_orders m_pointsThen m_letters m_numbers m_h) sz) (xQi dC dI (xT cI cZ cB cO) o.2.2 (wM cI cZ cB cO m_ad m_p m_now m_held m_past m_pasts m_refused m_figures m_isLaid m_many m_isMade m_made m_images m_orbits m_chains m_isCarried m_carried m_carriedMany m_isSorted m_leasts m_heads m_headFrom m_text m_typed m_at m_fault m_orders m_pointsThen m_letters m_numbers m_h) (wM cI cZ cB cO m_ad m_p m_now m_held m_past m_pasts m_refused m_figures m_isLaid m_many m_isMade m_made m_images m_orbits m_chains m_isCarried m_carried m_carriedMany m_isSorted m_leasts m_heads m_headFrom m_text m_typed o.1 o.2.1 m_orders m_pointsThen m_letters m_numbers m_h) sz) 0 0 (va_A (wM cI cZ cB cO m_ad m_p m_now m_held m_past m_pasts m_refused m_figures m_isLaid m_many m_isMade m_made m_images m_orbits m_chains m_isCarried m_carried m_carriedMany m_isSorted m_leasts m_heads m_headFrom m_text m_typed m_at m_fault m_orders m_pointsThen m_letters m_numbers m_h) sz) := by
  refine x_met (by decide) (Nat.le_of_ble_eq_true rfl) ?_
  intro p e s m args below meth c R Q A hR hsz hA hQ hin C hw ls hl
  have hx := C.1
  have hb := C.2.1
  have hown := C.2.2.2.1
  have htb := C.2.2.2.2.1
  have hl : lv_has ls 4 [(0, .ref m_ad), (1, .int v1), (2, .int v2)] := hl
  refine lv_aload_n hx hb dX8_figure_0 rfl (lv_at hl 0 rfl) ?_
  obtain ⟨⟨m_at_1, r_2⟩, q1, h⟩ := xn_i h
  refine x_callVi (As := []) (rest := []) C hw gc_X8_183 ⟨rfl, rfl, ds_X8_here, (by rw [hR]; exact Nat.le_of_ble_eq_true rfl), (by rw [hR]; exact Nat.le_of_ble_eq_true rfl), Nat.zero_le _, Nat.zero_le _⟩ (c_X8_here l dC dI cI cZ cB cO m_ad m_p m_now m_held m_past m_pasts m_refused m_figures m_isLaid m_many m_isMade m_made m_images m_orbits m_chains m_isCarried m_carried m_carriedMany m_isSorted m_leasts m_heads m_headFrom m_text m_typed m_at m_fault m_orders m_pointsThen m_letters m_numbers m_h _ q1 _) [0, 1, 2, 3, 4, 5, 6, 7, 8, 9, 10, 11, 12, 13, 14, 15, 16, 17, 18] [] (by decide) rfl rfl (by decide) (by decide) rfl rfl rfl hl.1 rfl (Nat.le_of_ble_eq_true rfl) dX8_figure_1 (fun H locs hw => ?_)
  have hw : xWd (dC, dI) A s.heap H locs (wM cI cZ cB cO m_ad m_p m_now m_held m_past m_pasts m_refused m_figures m_isLaid m_many m_isMade m_made m_images m_orbits m_chains m_isCarried m_carried m_carriedMany m_isSorted m_leasts m_heads m_headFrom m_text m_typed m_at_1 m_fault m_orders m_pointsThen m_letters m_numbers m_h) := hw
  refine lv_bipush (v := (48 : Int32)) hx hb dX8_figure_4 (by decide) ?_
  refine lv_isub hx hb dX8_figure_6 ?_
  refine lv_istore_n (lv' := [(3, .int (r_2 - (48 : Int32))), (0, .ref m_ad), (1, .int v1), (2, .int v2)]) hx hb dX8_figure_7 rfl hl (by decide) rfl (fun ls hl => ?_)
  refine lv_aload_n hx hb dX8_figure_8 rfl (lv_at hl 1 rfl) ?_
  refine lv_iload_n hx hb dX8_figure_9 rfl (lv_at hl 0 rfl) ?_
  refine lv_iload_n hx hb dX8_figure_10 rfl (lv_at hl 2 rfl) ?_
  refine lv_iload_n hx hb dX8_figure_11 rfl (lv_at hl 3 rfl) ?_
  obtain ⟨r_3, q2, h⟩ := xn_i h
  refine x_callSi (As := [.int (r_2 - (48 : Int32)), .int v1, .int v2]) (rest := [.ref m_ad]) C hw gc_X8_84 ds_X8_in (by rw [hR]; exact Nat.le_of_ble_eq_true rfl) (by rw [hR]; exact Nat.le_of_ble_eq_true rfl) rfl rfl (Nat.zero_le _) (Nat.zero_le _) (c_X8_in l dC dI cI cZ cB cO (r_2 - (48 : Int32)) v1 v2 _ q2 _) [] [0, 1, 2, 3, 4, 5, 6, 7, 8, 9, 10, 11, 12, 13, 14, 15, 16, 17, 18] (by decide) rfl rfl (by decide) (by decide) rfl hl.1 rfl (Nat.le_of_ble_eq_true rfl) dX8_figure_12 (fun H locs hw => ?_)
  have hw : xWd (dC, dI) A s.heap H locs (wM cI cZ cB cO m_ad m_p m_now m_held m_past m_pasts m_refused m_figures m_isLaid m_many m_isMade m_made m_images m_orbits m_chains m_isCarried m_carried m_carriedMany m_isSorted m_leasts m_heads m_headFrom m_text m_typed m_at_1 m_fault m_orders m_pointsThen m_letters m_numbers m_h) := hw.sub [0, 1, 2, 3, 4, 5, 6, 7, 8, 9, 10, 11, 12, 13, 14, 15, 16, 17, 18] (by decide) rfl
  obtain ⟨⟨m_at_4, m_fault_5⟩, q3, h⟩ := xn_i h
  refine x_callVv (As := [.int r_3]) (rest := []) C hw gc_X8_186 ⟨rfl, rfl, ds_X8_must, (by rw [hR]; exact Nat.le_of_ble_eq_true rfl), (by rw [hR]; exact Nat.le_of_ble_eq_true rfl), Nat.zero_le _, Nat.zero_le _⟩ (c_X8_must l dC dI cI cZ cB cO m_ad m_p m_now m_held m_past m_pasts m_refused m_figures m_isLaid m_many m_isMade m_made m_images m_orbits m_chains m_isCarried m_carried m_carriedMany m_isSorted m_leasts m_heads m_headFrom m_text m_typed m_at_1 m_fault m_orders m_pointsThen m_letters m_numbers m_h r_3 _ q3 _) [0, 1, 2, 3, 4, 5, 6, 7, 8, 9, 10, 11, 12, 13, 14, 15, 16, 17, 18] [] (by decide) rfl rfl (by decide) (by decide) rfl rfl rfl hl.1 rfl (Nat.le_of_ble_eq_true rfl) dX8_figure_15 (fun H locs hw => ?_)
  have hw : xWd (dC, dI) A s.heap H locs (wM cI cZ cB cO m_ad m_p m_now m_held m_past m_pasts m_refused m_figures m_isLaid m_many m_isMade m_made m_images m_orbits m_chains m_isCarried m_carried m_carriedMany m_isSorted m_leasts m_heads m_headFrom m_text m_typed m_at_4 m_fault_5 m_orders m_pointsThen m_letters m_numbers m_h) := hw
  refine lv_iload_n hx hb dX8_figure_18 rfl (lv_at hl 0 rfl) ?_
  obtain rfl := Option.some.inj h
  exact x_reti C hQ hA hw dX8_figure_19
noncomputable def f_X8_readMove_L1 (m_pointsThen : Int32) (m_text : (Nat → Int32)) (m_typed : Int32) (z : Int32 × Int32 × Int32 × Int32 × Int32) : Option ((Int32 × Int32 × Int32 × Int32 × Int32) ⊕ (Int32 × Int32 × Int32)) := match z with
  | (m_at_1, m_fault_2, v1_3, v2_4, v3_5) => xb (m_pointsThen ≤ v3_5) (some (.inr (m_at_1, m_fault_2, v2_4))) (xb (m_fault_2 = (-1 : Int32)) (xn (f_X8_here m_text m_typed m_at_1) (fun (z : Int32 × Int32) => match z with | (m_at_9, r_10) => xn (f_X8_in (r_10 - (48 : Int32)) (0 : Int32) (m_pointsThen - (1 : Int32))) (fun (r_11 : Int32) => xn (xb (r_11 = 0) (some ((0 : Int32))) (xn (f_X8_has v1_3 (r_10 - (48 : Int32))) (fun (r_13 : Int32) => xb (r_13 = 0) (some ((1 : Int32))) (some ((0 : Int32)))))) (fun (t_12 : Int32) => xn (f_X8_must m_at_9 m_fault_2 t_12) (fun (z : Int32 × Int32) => match z with | (m_at_14, m_fault_15) => xn (xb (m_fault_15 = (-1 : Int32)) (some (((1 : Int32) <<< ((r_10 - (48 : Int32)) &&& 31)))) (some ((0 : Int32)))) (fun (t_16 : Int32) => some (.inl (m_at_14, m_fault_15, (v1_3 ||| t_16), (((10 : Int32) * v2_4) + (r_10 - (48 : Int32))), (v3_5 + (1 : Int32)))))))))) (some (.inr (m_at_1, m_fault_2, v2_4))))
noncomputable def f_X8_readMove (m_text : (Nat → Int32)) (m_typed : Int32) (m_at : Int32) (m_fault : Int32) (m_pointsThen : Int32) : Option (Int32 × Int32 × Int32) := xn (xL (f_X8_readMove_L1 m_pointsThen m_text m_typed) (m_at, m_fault, (0 : Int32), (0 : Int32), (0 : Int32))) (fun (z : Int32 × Int32 × Int32) => match z with | (m_at_6, m_fault_7, v2_8) => some (m_at_6, m_fault_7, v2_8))
set_option maxHeartbeats 4000000 in
set_option maxRecDepth 100000 in
theorem c_X8_readMove (l : Launch) (dC : Nat → ClassId) (dI : Nat → Nat → Nat) (cI cZ cB cO : ClassId) (m_ad : Nat) (m_p : Nat → Nat) (m_now : (Nat → Int32)) (m_held : (Nat → Int32)) (m_past : (Nat → Int32)) (m_pasts : Int32) (m_refused : (Nat → Int32)) (m_figures : (Nat → Int32)) (m_isLaid : Int32) (m_many : Int32) (m_isMade : (Nat → Int32)) (m_made : (Nat → Int32)) (m_images : (Nat → Int32)) (m_orbits : (Nat → Int32)) (m_chains : (Nat → Int32)) (m_isCarried : (Nat → Int32)) (m_carried : (Nat → Int32)) (m_carriedMany : Int32) (m_isSorted : Int32) (m_leasts : (Nat → Int32)) (m_heads : (Nat → Int32)) (m_headFrom : (Nat → Int32)) (m_text : (Nat → Int32)) (m_typed : Int32) (m_at : Int32) (m_fault : Int32) (m_orders : Int32) (m_pointsThen : Int32) (m_letters : (Nat → Int32)) (m_numbers : (Nat → Int32)) (m_h : Int64) (o : Int32 × Int32 × Int32) (h : f_X8_readMove m_text m_typed m_at m_fault m_pointsThen = some o) (sz : Nat) : Met l yX8_readMove (xW yX8_readMove cX8_readMove 5 (some .int)) { frames := 1, cells := 0, slots := 0, locals := 22 } (xPre dC dI (xT cI cZ cB cO) [.ref m_ad] (wM cI cZ cB cO m_ad m_p m_now m_held m_past m_pasts m_refused m_figures m_isLaid m_many m_isMade m_made m_images m_orbits m_chains m_isCarried m_carried m_carriedMany m_isSorted m_leasts m_heads m_headFrom m_text m_typed m_at m_fault m_orders m_pointsThen m_letters m_numbers m_h) sz) (xQi dC dI (xT cI cZ cB cO) o.2.2 (wM cI cZ cB cO m_ad m_p m_now m_held m_past m_pasts m_refused m_figures m_isLaid m_many m_isMade m_made m_images m_orbits m_chains m_isCarried m_carried m_carriedMany m_isSorted m_leasts m_heads m_headFrom m_text m_typed m_at m_fault m_orders m_pointsThen m_letters m_numbers m_h) (wM cI cZ cB cO m_ad m_p m_now m_held m_past m_pasts m_refused m_figures m_isLaid m_many m_isMade m_made m_images m_orbits m_chains m_isCarried m_carried m_carriedMany m_isSorted m_leasts m_heads m_headFrom m_text m_typed o.1 o.2.1 m_orders m_pointsThen m_letters m_numbers m_h) sz) 0 0 (va_A (wM cI cZ cB cO m_ad m_p m_now m_held m_past m_pasts m_refused m_figures m_isLaid m_many m_isMade m_made m_images m_orbits m_chains m_isCarried m_carried m_carriedMany m_isSorted m_leasts m_heads m_headFrom m_text m_typed m_at m_fault m_orders m_pointsThen m_letters m_numbers m_h) sz) := by
  refine x_met (by decide) (Nat.le_of_ble_eq_true rfl) ?_
  intro p e s m args below meth c R Q A hR hsz hA hQ hin C hw ls hl
  have hx := C.1
  have hb := C.2.1
  have hown := C.2.2.2.1
  have htb := C.2.2.2.2.1
  have hl : lv_has ls 5 [(0, .ref m_ad)] := hl
  refine lv_iconst (v := (0 : Int32)) hx hb dX8_readMove_0 (by decide) ?_
  refine lv_istore_n (lv' := [(1, .int (0 : Int32)), (0, .ref m_ad)]) hx hb dX8_readMove_1 rfl hl (by decide) rfl (fun ls hl => ?_)
  refine lv_iconst (v := (0 : Int32)) hx hb dX8_readMove_2 (by decide) ?_
  refine lv_istore_n (lv' := [(2, .int (0 : Int32)), (1, .int (0 : Int32)), (0, .ref m_ad)]) hx hb dX8_readMove_3 rfl hl (by decide) rfl (fun ls hl => ?_)
  refine lv_iconst (v := (0 : Int32)) hx hb dX8_readMove_4 (by decide) ?_
  refine lv_istore_n (lv' := [(3, .int (0 : Int32)), (2, .int (0 : Int32)), (1, .int (0 : Int32)), (0, .ref m_ad)]) hx hb dX8_readMove_5 rfl hl (by decide) rfl (fun ls hl => ?_)
  obtain ⟨z, hr, h⟩ := xn_i h
  refine xL_w (fun (z : Int32 × Int32 × Int32 × Int32 × Int32) => ∀ (H : Heap) (locs : List Loc) (ls : Array Slot), xWd (dC, dI) A s.heap H locs (wM cI cZ cB cO m_ad m_p m_now m_held m_past m_pasts m_refused m_figures m_isLaid m_many m_isMade m_made m_images m_orbits m_chains m_isCarried m_carried m_carriedMany m_isSorted m_leasts m_heads m_headFrom m_text m_typed z.1 z.2.1 m_orders m_pointsThen m_letters m_numbers m_h) → lv_has ls 5 [(0, .ref m_ad), (1, .int z.2.2.1), (2, .int z.2.2.2.1), (3, .int z.2.2.2.2)] → W p l e R s m args below meth c H locs 0 0 Q (F0 m 6 ls [])) (fun (z : Int32 × Int32 × Int32) => ∀ (H : Heap) (locs : List Loc) (ls : Array Slot), xWd (dC, dI) A s.heap H locs (wM cI cZ cB cO m_ad m_p m_now m_held m_past m_pasts m_refused m_figures m_isLaid m_many m_isMade m_made m_images m_orbits m_chains m_isCarried m_carried m_carriedMany m_isSorted m_leasts m_heads m_headFrom m_text m_typed z.1 z.2.1 m_orders m_pointsThen m_letters m_numbers m_h) → lv_has ls 5 [(2, .int z.2.2)] → W p l e R s m args below meth c H locs 0 0 Q (F0 m 97 ls [])) ?_ hr ?_ _ _ _ hw (lv_sub hl [3, 2, 1, 0] rfl)
  · rintro ⟨m_at_1, m_fault_2, v1_3, v2_4, v3_5⟩ o h k H locs ls hw hl
    have hw : xWd (dC, dI) A s.heap H locs (wM cI cZ cB cO m_ad m_p m_now m_held m_past m_pasts m_refused m_figures m_isLaid m_many m_isMade m_made m_images m_orbits m_chains m_isCarried m_carried m_carriedMany m_isSorted m_leasts m_heads m_headFrom m_text m_typed m_at_1 m_fault_2 m_orders m_pointsThen m_letters m_numbers m_h) := hw
    have hl : lv_has ls 5 [(0, .ref m_ad), (1, .int v1_3), (2, .int v2_4), (3, .int v3_5)] := hl
    refine lv_iload_n hx hb dX8_readMove_6 rfl (lv_at hl 3 rfl) ?_
    refine lv_aload_n hx hb dX8_readMove_7 rfl (lv_at hl 0 rfl) ?_
    refine x_get (ci := 7) C hw inX8 rfl 25 (by decide) lkF_X8_190 rfl 0 rfl rfl dX8_readMove_8 ?_
    refine lv_icmp_ge (tgt := 97) hx hb dX8_readMove_11 (by decide) (fun b1 => ?_) (fun b1 => ?_)
    · replace h := xb_tt b1 h
      obtain rfl := Option.some.inj h
      exact k _ _ _ hw (lv_sub hl [2] rfl)
    · replace h := xb_ff b1 h
      refine lv_aload_n hx hb dX8_readMove_14 rfl (lv_at hl 0 rfl) ?_
      refine x_get (ci := 7) C hw inX8 rfl 23 (by decide) lkF_X8_180 rfl 0 rfl rfl dX8_readMove_15 ?_
      refine lv_iconst (v := (-1 : Int32)) hx hb dX8_readMove_18 (by decide) ?_
      refine lv_icmp_ne (tgt := 97) hx hb dX8_readMove_19 (by decide) (fun b2 => ?_) (fun b2 => ?_)
      · replace h := xb_ff b2 h
        obtain rfl := Option.some.inj h
        exact k _ _ _ hw (lv_sub hl [2] rfl)
      · replace h := xb_tt b2 h
        refine lv_aload_n hx hb dX8_readMove_22 rfl (lv_at hl 0 rfl) ?_
        obtain ⟨⟨m_at_9, r_10⟩, q3, h⟩ := xn_i h
        refine x_callVi (As := []) (rest := []) C hw gc_X8_183 ⟨rfl, rfl, ds_X8_here, (by rw [hR]; exact Nat.le_of_ble_eq_true rfl), (by rw [hR]; exact Nat.le_of_ble_eq_true rfl), Nat.zero_le _, Nat.zero_le _⟩ (c_X8_here l dC dI cI cZ cB cO m_ad m_p m_now m_held m_past m_pasts m_refused m_figures m_isLaid m_many m_isMade m_made m_images m_orbits m_chains m_isCarried m_carried m_carriedMany m_isSorted m_leasts m_heads m_headFrom m_text m_typed m_at_1 m_fault_2 m_orders m_pointsThen m_letters m_numbers m_h _ q3 _) [0, 1, 2, 3, 4, 5, 6, 7, 8, 9, 10, 11, 12, 13, 14, 15, 16, 17, 18] [] (by decide) rfl rfl (by decide) (by decide) rfl rfl rfl hl.1 rfl (Nat.le_of_ble_eq_true rfl) dX8_readMove_23 (fun H locs hw => ?_)
        have hw : xWd (dC, dI) A s.heap H locs (wM cI cZ cB cO m_ad m_p m_now m_held m_past m_pasts m_refused m_figures m_isLaid m_many m_isMade m_made m_images m_orbits m_chains m_isCarried m_carried m_carriedMany m_isSorted m_leasts m_heads m_headFrom m_text m_typed m_at_9 m_fault_2 m_orders m_pointsThen m_letters m_numbers m_h) := hw
        refine lv_bipush (v := (48 : Int32)) hx hb dX8_readMove_26 (by decide) ?_
        refine lv_isub hx hb dX8_readMove_28 ?_
        refine lv_istore (lv' := [(4, .int (r_10 - (48 : Int32))), (0, .ref m_ad), (1, .int v1_3), (2, .int v2_4), (3, .int v3_5)]) hx hb dX8_readMove_29 hl (by decide) rfl (fun ls hl => ?_)
        refine lv_aload_n hx hb dX8_readMove_31 rfl (lv_at hl 1 rfl) ?_
        refine lv_iload hx hb dX8_readMove_32 (lv_at hl 0 rfl) ?_
        refine lv_iconst (v := (0 : Int32)) hx hb dX8_readMove_34 (by decide) ?_
        refine lv_aload_n hx hb dX8_readMove_35 rfl (lv_at hl 1 rfl) ?_
        refine x_get (ci := 7) C hw inX8 rfl 25 (by decide) lkF_X8_190 rfl 0 rfl rfl dX8_readMove_36 ?_
        refine lv_iconst (v := (1 : Int32)) hx hb dX8_readMove_39 (by decide) ?_
        refine lv_isub hx hb dX8_readMove_40 ?_
        obtain ⟨r_11, q4, h⟩ := xn_i h
        refine x_callSi (As := [.int (r_10 - (48 : Int32)), .int (0 : Int32), .int (m_pointsThen - (1 : Int32))]) (rest := [.ref m_ad]) C hw gc_X8_84 ds_X8_in (by rw [hR]; exact Nat.le_of_ble_eq_true rfl) (by rw [hR]; exact Nat.le_of_ble_eq_true rfl) rfl rfl (Nat.zero_le _) (Nat.zero_le _) (c_X8_in l dC dI cI cZ cB cO (r_10 - (48 : Int32)) (0 : Int32) (m_pointsThen - (1 : Int32)) _ q4 _) [] [0, 1, 2, 3, 4, 5, 6, 7, 8, 9, 10, 11, 12, 13, 14, 15, 16, 17, 18] (by decide) rfl rfl (by decide) (by decide) rfl hl.1 rfl (Nat.le_of_ble_eq_true rfl) dX8_readMove_41 (fun H locs hw => ?_)
        have hw : xWd (dC, dI) A s.heap H locs (wM cI cZ cB cO m_ad m_p m_now m_held m_past m_pasts m_refused m_figures m_isLaid m_many m_isMade m_made m_images m_orbits m_chains m_isCarried m_carried m_carriedMany m_isSorted m_leasts m_heads m_headFrom m_text m_typed m_at_9 m_fault_2 m_orders m_pointsThen m_letters m_numbers m_h) := hw.sub [0, 1, 2, 3, 4, 5, 6, 7, 8, 9, 10, 11, 12, 13, 14, 15, 16, 17, 18] (by decide) rfl
        obtain ⟨z, hj, h⟩ := xn_i h
        have k : ∀ (H : Heap) (locs : List Loc) (ls : Array Slot), xWd (dC, dI) A s.heap H locs (wM cI cZ cB cO m_ad m_p m_now m_held m_past m_pasts m_refused m_figures m_isLaid m_many m_isMade m_made m_images m_orbits m_chains m_isCarried m_carried m_carriedMany m_isSorted m_leasts m_heads m_headFrom m_text m_typed m_at_9 m_fault_2 m_orders m_pointsThen m_letters m_numbers m_h) → lv_has ls 5 [(0, .ref m_ad), (1, .int v1_3), (2, .int v2_4), (3, .int v3_5), (4, .int (r_10 - (48 : Int32)))] → W p l e R s m args below meth c H locs 0 0 Q (F0 m 61 ls [.int z, .ref m_ad]) := by
          obtain ⟨t_12, hz⟩ : ∃ q, q = z := ⟨z, rfl⟩
          subst hz
          intro H locs ls hw hl
          obtain ⟨⟨m_at_14, m_fault_15⟩, q8, h⟩ := xn_i h
          refine x_callVv (As := [.int t_12]) (rest := []) C hw gc_X8_186 ⟨rfl, rfl, ds_X8_must, (by rw [hR]; exact Nat.le_of_ble_eq_true rfl), (by rw [hR]; exact Nat.le_of_ble_eq_true rfl), Nat.zero_le _, Nat.zero_le _⟩ (c_X8_must l dC dI cI cZ cB cO m_ad m_p m_now m_held m_past m_pasts m_refused m_figures m_isLaid m_many m_isMade m_made m_images m_orbits m_chains m_isCarried m_carried m_carriedMany m_isSorted m_leasts m_heads m_headFrom m_text m_typed m_at_9 m_fault_2 m_orders m_pointsThen m_letters m_numbers m_h t_12 _ q8 _) [0, 1, 2, 3, 4, 5, 6, 7, 8, 9, 10, 11, 12, 13, 14, 15, 16, 17, 18] [] (by decide) rfl rfl (by decide) (by decide) rfl rfl rfl hl.1 rfl (Nat.le_of_ble_eq_true rfl) dX8_readMove_61 (fun H locs hw => ?_)
          have hw : xWd (dC, dI) A s.heap H locs (wM cI cZ cB cO m_ad m_p m_now m_held m_past m_pasts m_refused m_figures m_isLaid m_many m_isMade m_made m_images m_orbits m_chains m_isCarried m_carried m_carriedMany m_isSorted m_leasts m_heads m_headFrom m_text m_typed m_at_14 m_fault_15 m_orders m_pointsThen m_letters m_numbers m_h) := hw
          refine lv_iload_n hx hb dX8_readMove_64 rfl (lv_at hl 1 rfl) ?_
          refine lv_aload_n hx hb dX8_readMove_65 rfl (lv_at hl 0 rfl) ?_
          refine x_get (ci := 7) C hw inX8 rfl 23 (by decide) lkF_X8_180 rfl 0 rfl rfl dX8_readMove_66 ?_
          refine lv_iconst (v := (-1 : Int32)) hx hb dX8_readMove_69 (by decide) ?_
          obtain ⟨z, hj, h⟩ := xn_i h
          have k : ∀ (H : Heap) (locs : List Loc) (ls : Array Slot), xWd (dC, dI) A s.heap H locs (wM cI cZ cB cO m_ad m_p m_now m_held m_past m_pasts m_refused m_figures m_isLaid m_many m_isMade m_made m_images m_orbits m_chains m_isCarried m_carried m_carriedMany m_isSorted m_leasts m_heads m_headFrom m_text m_typed m_at_14 m_fault_15 m_orders m_pointsThen m_letters m_numbers m_h) → lv_has ls 5 [(0, .ref m_ad), (2, .int v2_4), (3, .int v3_5), (4, .int (r_10 - (48 : Int32)))] → W p l e R s m args below meth c H locs 0 0 Q (F0 m 81 ls [.int z, .int v1_3]) := by
            obtain ⟨t_16, hz⟩ : ∃ q, q = z := ⟨z, rfl⟩
            subst hz
            intro H locs ls hw hl
            refine lv_ior hx hb dX8_readMove_81 ?_
            refine lv_istore_n (lv' := [(1, .int (v1_3 ||| t_16)), (0, .ref m_ad), (2, .int v2_4), (3, .int v3_5), (4, .int (r_10 - (48 : Int32)))]) hx hb dX8_readMove_82 rfl hl (by decide) rfl (fun ls hl => ?_)
            refine lv_bipush (v := (10 : Int32)) hx hb dX8_readMove_83 (by decide) ?_
            refine lv_iload_n hx hb dX8_readMove_85 rfl (lv_at hl 2 rfl) ?_
            refine lv_imul hx hb dX8_readMove_86 ?_
            refine lv_iload hx hb dX8_readMove_87 (lv_at hl 4 rfl) ?_
            refine lv_iadd hx hb dX8_readMove_89 ?_
            refine lv_istore_n (lv' := [(2, .int (((10 : Int32) * v2_4) + (r_10 - (48 : Int32)))), (1, .int (v1_3 ||| t_16)), (0, .ref m_ad), (3, .int v3_5), (4, .int (r_10 - (48 : Int32)))]) hx hb dX8_readMove_90 rfl hl (by decide) rfl (fun ls hl => ?_)
            refine lv_iinc (v := (v3_5 + (1 : Int32))) (lv' := [(3, .int (v3_5 + (1 : Int32))), (2, .int (((10 : Int32) * v2_4) + (r_10 - (48 : Int32)))), (1, .int (v1_3 ||| t_16)), (0, .ref m_ad), (4, .int (r_10 - (48 : Int32)))]) hx hb dX8_readMove_91 hl (k := 3) rfl (congrArg (fun q => v3_5 + q) (by decide)) (by decide) rfl (fun ls hl => ?_)
            refine lv_goto (tgt := 6) hx hb dX8_readMove_94 (by decide) ?_
            obtain rfl := Option.some.inj h
            exact k _ _ _ hw (lv_sub hl [3, 2, 1, 0] rfl)
          clear h
          have h := hj
          clear hj
          refine lv_icmp_ne (tgt := 80) hx hb dX8_readMove_70 (by decide) (fun b9 => ?_) (fun b9 => ?_)
          · replace h := xb_ff b9 h
            refine lv_iconst (v := (0 : Int32)) hx hb dX8_readMove_80 (by decide) ?_
            obtain rfl := Option.some.inj h
            exact k _ _ _ hw (lv_sub hl [0, 2, 3, 4] rfl)
          · replace h := xb_tt b9 h
            refine lv_iconst (v := (1 : Int32)) hx hb dX8_readMove_73 (by decide) ?_
            refine lv_iload hx hb dX8_readMove_74 (lv_at hl 4 rfl) ?_
            refine lv_ishl hx hb dX8_readMove_76 ?_
            refine lv_goto (tgt := 81) hx hb dX8_readMove_77 (by decide) ?_
            obtain rfl := Option.some.inj h
            exact k _ _ _ hw (lv_sub hl [0, 2, 3, 4] rfl)
        clear h
        have h := hj
        clear hj
        refine lv_if_eq (tgt := 60) hx hb dX8_readMove_44 (by decide) (fun b5 => ?_) (fun b5 => ?_)
        · replace h := xb_tt b5 h
          refine lv_iconst (v := (0 : Int32)) hx hb dX8_readMove_60 (by decide) ?_
          obtain rfl := Option.some.inj h
          exact k _ _ _ hw (lv_sub hl [1, 2, 3, 4, 0] rfl)
        · replace h := xb_ff b5 h
          refine lv_iload_n hx hb dX8_readMove_47 rfl (lv_at hl 2 rfl) ?_
          refine lv_iload hx hb dX8_readMove_48 (lv_at hl 0 rfl) ?_
          obtain ⟨r_13, q6, h⟩ := xn_i h
          refine x_callSi (As := [.int v1_3, .int (r_10 - (48 : Int32))]) (rest := [.ref m_ad]) C hw gc_X8_133 ds_X8_has (by rw [hR]; exact Nat.le_of_ble_eq_true rfl) (by rw [hR]; exact Nat.le_of_ble_eq_true rfl) rfl rfl (Nat.zero_le _) (Nat.zero_le _) (c_X8_has l dC dI cI cZ cB cO v1_3 (r_10 - (48 : Int32)) _ q6 _) [] [0, 1, 2, 3, 4, 5, 6, 7, 8, 9, 10, 11, 12, 13, 14, 15, 16, 17, 18] (by decide) rfl rfl (by decide) (by decide) rfl hl.1 rfl (Nat.le_of_ble_eq_true rfl) dX8_readMove_50 (fun H locs hw => ?_)
          have hw : xWd (dC, dI) A s.heap H locs (wM cI cZ cB cO m_ad m_p m_now m_held m_past m_pasts m_refused m_figures m_isLaid m_many m_isMade m_made m_images m_orbits m_chains m_isCarried m_carried m_carriedMany m_isSorted m_leasts m_heads m_headFrom m_text m_typed m_at_9 m_fault_2 m_orders m_pointsThen m_letters m_numbers m_h) := hw.sub [0, 1, 2, 3, 4, 5, 6, 7, 8, 9, 10, 11, 12, 13, 14, 15, 16, 17, 18] (by decide) rfl
          refine lv_if_ne (tgt := 60) hx hb dX8_readMove_53 (by decide) (fun b7 => ?_) (fun b7 => ?_)
          · replace h := xb_ff b7 h
            refine lv_iconst (v := (0 : Int32)) hx hb dX8_readMove_60 (by decide) ?_
            obtain rfl := Option.some.inj h
            exact k _ _ _ hw (lv_sub hl [1, 2, 3, 4, 0] rfl)
          · replace h := xb_tt b7 h
            refine lv_iconst (v := (1 : Int32)) hx hb dX8_readMove_56 (by decide) ?_
            refine lv_goto (tgt := 61) hx hb dX8_readMove_57 (by decide) ?_
            obtain rfl := Option.some.inj h
            exact k _ _ _ hw (lv_sub hl [1, 2, 3, 4, 0] rfl)
  · obtain ⟨m_at_6, m_fault_7, v2_8⟩ := z
    intro H locs ls hw hl
    have hw : xWd (dC, dI) A s.heap H locs (wM cI cZ cB cO m_ad m_p m_now m_held m_past m_pasts m_refused m_figures m_isLaid m_many m_isMade m_made m_images m_orbits m_chains m_isCarried m_carried m_carriedMany m_isSorted m_leasts m_heads m_headFrom m_text m_typed m_at_6 m_fault_7 m_orders m_pointsThen m_letters m_numbers m_h) := hw
    have hl : lv_has ls 5 [(2, .int v2_8)] := hl
    refine lv_iload_n hx hb dX8_readMove_97 rfl (lv_at hl 0 rfl) ?_
    obtain rfl := Option.some.inj h
    exact x_reti C hQ hA hw dX8_readMove_98
noncomputable def f_X8_readOrder (m_text : (Nat → Int32)) (m_typed : Int32) (m_at : Int32) (m_fault : Int32) (m_orders : Int32) (m_pointsThen : Int32) (m_letters : (Nat → Int32)) (m_numbers : (Nat → Int32)) : Option (Int32 × Int32 × Int32 × Int32 × (Nat → Int32) × (Nat → Int32)) := xn (f_X8_here m_text m_typed m_at) (fun (z : Int32 × Int32) => match z with | (m_at_1, r_2) => xn (xb (r_2 = (110 : Int32)) (some ((1 : Int32))) (xb (r_2 = (109 : Int32)) (some ((1 : Int32))) (xb (r_2 = (120 : Int32)) (some ((1 : Int32))) (some ((0 : Int32)))))) (fun (t_3 : Int32) => xn (f_X8_must m_at_1 m_fault t_3) (fun (z : Int32 × Int32) => match z with | (m_at_4, m_fault_5) => xb (m_fault_5 = (-1 : Int32)) (xk (vp_in m_orders 40) (xn (xb (r_2 = (109 : Int32)) (xn (f_X8_readMove m_text m_typed m_at_4 m_fault_5 m_pointsThen) (fun (z : Int32 × Int32 × Int32) => match z with | (m_at_19, m_fault_20, r_21) => some (m_at_19, m_fault_20, m_pointsThen, (upd m_numbers m_orders.toNatClampNeg r_21)))) (xn (xb (r_2 = (110 : Int32)) (xn (f_X8_figure m_text m_typed m_at_4 m_fault_5 (1 : Int32) (8 : Int32)) (fun (z : Int32 × Int32 × Int32) => match z with | (m_at_16, m_fault_17, r_18) => some (m_at_16, m_fault_17, r_18))) (xn (f_X8_figure m_text m_typed m_at_4 m_fault_5 (0 : Int32) (9 : Int32)) (fun (z : Int32 × Int32 × Int32) => match z with | (m_at_13, m_fault_14, r_15) => some (m_at_13, m_fault_14, r_15)))) (fun (z : Int32 × Int32 × Int32) => match z with | (m_at_10, m_fault_11, t_12) => xb (r_2 = (110 : Int32)) (some (m_at_10, m_fault_11, ((upd m_numbers m_orders.toNatClampNeg t_12) m_orders.toNatClampNeg), (upd m_numbers m_orders.toNatClampNeg t_12))) (some (m_at_10, m_fault_11, m_pointsThen, (upd m_numbers m_orders.toNatClampNeg t_12)))))) (fun (z : Int32 × Int32 × Int32 × (Nat → Int32)) => match z with | (m_at_6, m_fault_7, m_pointsThen_8, m_numbers_9) => xn (f_X8_here m_text m_typed m_at_6) (fun (z : Int32 × Int32) => match z with | (m_at_22, r_23) => xb (r_23 = (59 : Int32)) (xn (f_X8_must m_at_22 m_fault_7 (1 : Int32)) (fun (z : Int32 × Int32) => match z with | (m_at_26, m_fault_27) => some (m_at_26, m_fault_27, (m_orders + (1 : Int32)), m_pointsThen_8, (upd m_letters m_orders.toNatClampNeg r_2), m_numbers_9))) (xn (f_X8_must m_at_22 m_fault_7 (0 : Int32)) (fun (z : Int32 × Int32) => match z with | (m_at_24, m_fault_25) => some (m_at_24, m_fault_25, (m_orders + (1 : Int32)), m_pointsThen_8, (upd m_letters m_orders.toNatClampNeg r_2), m_numbers_9))))))) (some (m_at_4, m_fault_5, m_orders, m_pointsThen, m_letters, m_numbers)))))
set_option maxHeartbeats 4000000 in
set_option maxRecDepth 100000 in
theorem c_X8_readOrder (l : Launch) (dC : Nat → ClassId) (dI : Nat → Nat → Nat) (cI cZ cB cO : ClassId) (m_ad : Nat) (m_p : Nat → Nat) (m_now : (Nat → Int32)) (m_held : (Nat → Int32)) (m_past : (Nat → Int32)) (m_pasts : Int32) (m_refused : (Nat → Int32)) (m_figures : (Nat → Int32)) (m_isLaid : Int32) (m_many : Int32) (m_isMade : (Nat → Int32)) (m_made : (Nat → Int32)) (m_images : (Nat → Int32)) (m_orbits : (Nat → Int32)) (m_chains : (Nat → Int32)) (m_isCarried : (Nat → Int32)) (m_carried : (Nat → Int32)) (m_carriedMany : Int32) (m_isSorted : Int32) (m_leasts : (Nat → Int32)) (m_heads : (Nat → Int32)) (m_headFrom : (Nat → Int32)) (m_text : (Nat → Int32)) (m_typed : Int32) (m_at : Int32) (m_fault : Int32) (m_orders : Int32) (m_pointsThen : Int32) (m_letters : (Nat → Int32)) (m_numbers : (Nat → Int32)) (m_h : Int64) (o : Int32 × Int32 × Int32 × Int32 × (Nat → Int32) × (Nat → Int32)) (h : f_X8_readOrder m_text m_typed m_at m_fault m_orders m_pointsThen m_letters m_numbers = some o) (sz : Nat) : Met l yX8_readOrder (xW yX8_readOrder cX8_readOrder 2 none) { frames := 2, cells := 0, slots := 0, locals := 46 } (xPre dC dI (xT cI cZ cB cO) [.ref m_ad] (wM cI cZ cB cO m_ad m_p m_now m_held m_past m_pasts m_refused m_figures m_isLaid m_many m_isMade m_made m_images m_orbits m_chains m_isCarried m_carried m_carriedMany m_isSorted m_leasts m_heads m_headFrom m_text m_typed m_at m_fault m_orders m_pointsThen m_letters m_numbers m_h) sz) (xQv dC dI (xT cI cZ cB cO) (wM cI cZ cB cO m_ad m_p m_now m_held m_past m_pasts m_refused m_figures m_isLaid m_many m_isMade m_made m_images m_orbits m_chains m_isCarried m_carried m_carriedMany m_isSorted m_leasts m_heads m_headFrom m_text m_typed m_at m_fault m_orders m_pointsThen m_letters m_numbers m_h) (wM cI cZ cB cO m_ad m_p m_now m_held m_past m_pasts m_refused m_figures m_isLaid m_many m_isMade m_made m_images m_orbits m_chains m_isCarried m_carried m_carriedMany m_isSorted m_leasts m_heads m_headFrom m_text m_typed o.1 o.2.1 o.2.2.1 o.2.2.2.1 o.2.2.2.2.1 o.2.2.2.2.2 m_h) sz) 0 0 (va_A (wM cI cZ cB cO m_ad m_p m_now m_held m_past m_pasts m_refused m_figures m_isLaid m_many m_isMade m_made m_images m_orbits m_chains m_isCarried m_carried m_carriedMany m_isSorted m_leasts m_heads m_headFrom m_text m_typed m_at m_fault m_orders m_pointsThen m_letters m_numbers m_h) sz) := by
  refine x_met (by decide) (Nat.le_of_ble_eq_true rfl) ?_
  intro p e s m args below meth c R Q A hR hsz hA hQ hin C hw ls hl
  have hx := C.1
  have hb := C.2.1
  have hown := C.2.2.2.1
  have htb := C.2.2.2.2.1
  have hl : lv_has ls 2 [(0, .ref m_ad)] := hl
  refine lv_aload_n hx hb dX8_readOrder_0 rfl (lv_at hl 0 rfl) ?_
  obtain ⟨⟨m_at_1, r_2⟩, q1, h⟩ := xn_i h
  refine x_callVi (As := []) (rest := []) C hw gc_X8_183 ⟨rfl, rfl, ds_X8_here, (by rw [hR]; exact Nat.le_of_ble_eq_true rfl), (by rw [hR]; exact Nat.le_of_ble_eq_true rfl), Nat.zero_le _, Nat.zero_le _⟩ (c_X8_here l dC dI cI cZ cB cO m_ad m_p m_now m_held m_past m_pasts m_refused m_figures m_isLaid m_many m_isMade m_made m_images m_orbits m_chains m_isCarried m_carried m_carriedMany m_isSorted m_leasts m_heads m_headFrom m_text m_typed m_at m_fault m_orders m_pointsThen m_letters m_numbers m_h _ q1 _) [0, 1, 2, 3, 4, 5, 6, 7, 8, 9, 10, 11, 12, 13, 14, 15, 16, 17, 18] [] (by decide) rfl rfl (by decide) (by decide) rfl rfl rfl hl.1 rfl (Nat.le_of_ble_eq_true rfl) dX8_readOrder_1 (fun H locs hw => ?_)
  have hw : xWd (dC, dI) A s.heap H locs (wM cI cZ cB cO m_ad m_p m_now m_held m_past m_pasts m_refused m_figures m_isLaid m_many m_isMade m_made m_images m_orbits m_chains m_isCarried m_carried m_carriedMany m_isSorted m_leasts m_heads m_headFrom m_text m_typed m_at_1 m_fault m_orders m_pointsThen m_letters m_numbers m_h) := hw
  refine lv_istore_n (lv' := [(1, .int r_2), (0, .ref m_ad)]) hx hb dX8_readOrder_4 rfl hl (by decide) rfl (fun ls hl => ?_)
  refine lv_aload_n hx hb dX8_readOrder_5 rfl (lv_at hl 1 rfl) ?_
  refine lv_iload_n hx hb dX8_readOrder_6 rfl (lv_at hl 0 rfl) ?_
  refine lv_bipush (v := (110 : Int32)) hx hb dX8_readOrder_7 (by decide) ?_
  obtain ⟨z, hj, h⟩ := xn_i h
  have k : ∀ (H : Heap) (locs : List Loc) (ls : Array Slot), xWd (dC, dI) A s.heap H locs (wM cI cZ cB cO m_ad m_p m_now m_held m_past m_pasts m_refused m_figures m_isLaid m_many m_isMade m_made m_images m_orbits m_chains m_isCarried m_carried m_carriedMany m_isSorted m_leasts m_heads m_headFrom m_text m_typed m_at_1 m_fault m_orders m_pointsThen m_letters m_numbers m_h) → lv_has ls 2 [(0, .ref m_ad), (1, .int r_2)] → W p l e R s m args below meth c H locs 0 0 Q (F0 m 29 ls [.int z, .ref m_ad]) := by
    obtain ⟨t_3, hz⟩ : ∃ q, q = z := ⟨z, rfl⟩
    subst hz
    intro H locs ls hw hl
    obtain ⟨⟨m_at_4, m_fault_5⟩, q5, h⟩ := xn_i h
    refine x_callVv (As := [.int t_3]) (rest := []) C hw gc_X8_186 ⟨rfl, rfl, ds_X8_must, (by rw [hR]; exact Nat.le_of_ble_eq_true rfl), (by rw [hR]; exact Nat.le_of_ble_eq_true rfl), Nat.zero_le _, Nat.zero_le _⟩ (c_X8_must l dC dI cI cZ cB cO m_ad m_p m_now m_held m_past m_pasts m_refused m_figures m_isLaid m_many m_isMade m_made m_images m_orbits m_chains m_isCarried m_carried m_carriedMany m_isSorted m_leasts m_heads m_headFrom m_text m_typed m_at_1 m_fault m_orders m_pointsThen m_letters m_numbers m_h t_3 _ q5 _) [0, 1, 2, 3, 4, 5, 6, 7, 8, 9, 10, 11, 12, 13, 14, 15, 16, 17, 18] [] (by decide) rfl rfl (by decide) (by decide) rfl rfl rfl hl.1 rfl (Nat.le_of_ble_eq_true rfl) dX8_readOrder_29 (fun H locs hw => ?_)
    have hw : xWd (dC, dI) A s.heap H locs (wM cI cZ cB cO m_ad m_p m_now m_held m_past m_pasts m_refused m_figures m_isLaid m_many m_isMade m_made m_images m_orbits m_chains m_isCarried m_carried m_carriedMany m_isSorted m_leasts m_heads m_headFrom m_text m_typed m_at_4 m_fault_5 m_orders m_pointsThen m_letters m_numbers m_h) := hw
    refine lv_aload_n hx hb dX8_readOrder_32 rfl (lv_at hl 0 rfl) ?_
    refine x_get (ci := 7) C hw inX8 rfl 23 (by decide) lkF_X8_180 rfl 0 rfl rfl dX8_readOrder_33 ?_
    refine lv_iconst (v := (-1 : Int32)) hx hb dX8_readOrder_36 (by decide) ?_
    refine lv_icmp_eq (tgt := 41) hx hb dX8_readOrder_37 (by decide) (fun b6 => ?_) (fun b6 => ?_)
    · replace h := xb_tt b6 h
      refine lv_aload_n hx hb dX8_readOrder_41 rfl (lv_at hl 0 rfl) ?_
      refine x_get (ci := 7) C hw inX8 rfl 26 (by decide) lkF_X8_60 rfl 0 rfl rfl dX8_readOrder_42 ?_
      refine lv_aload_n hx hb dX8_readOrder_45 rfl (lv_at hl 0 rfl) ?_
      refine x_get (ci := 7) C hw inX8 rfl 24 (by decide) lkF_X8_193 rfl 0 rfl rfl dX8_readOrder_46 ?_
      refine lv_iload_n hx hb dX8_readOrder_49 rfl (lv_at hl 1 rfl) ?_
      obtain ⟨b7, h⟩ := xk_i h
      refine x_iast C hw 17 0 rfl rfl b7 dX8_readOrder_50 (fun H locs hw => ?_)
      have hw : xWd (dC, dI) A s.heap H locs (wM cI cZ cB cO m_ad m_p m_now m_held m_past m_pasts m_refused m_figures m_isLaid m_many m_isMade m_made m_images m_orbits m_chains m_isCarried m_carried m_carriedMany m_isSorted m_leasts m_heads m_headFrom m_text m_typed m_at_4 m_fault_5 m_orders m_pointsThen (upd m_letters m_orders.toNatClampNeg r_2) m_numbers m_h) := hw
      refine lv_iload_n hx hb dX8_readOrder_51 rfl (lv_at hl 1 rfl) ?_
      refine lv_bipush (v := (109 : Int32)) hx hb dX8_readOrder_52 (by decide) ?_
      obtain ⟨z, hj, h⟩ := xn_i h
      have k : ∀ (H : Heap) (locs : List Loc) (ls : Array Slot), xWd (dC, dI) A s.heap H locs (wM cI cZ cB cO m_ad m_p m_now m_held m_past m_pasts m_refused m_figures m_isLaid m_many m_isMade m_made m_images m_orbits m_chains m_isCarried m_carried m_carriedMany m_isSorted m_leasts m_heads m_headFrom m_text m_typed z.1 z.2.1 m_orders z.2.2.1 (upd m_letters m_orders.toNatClampNeg r_2) z.2.2.2 m_h) → lv_has ls 2 [(0, .ref m_ad)] → W p l e R s m args below meth c H locs 0 0 Q (F0 m 131 ls []) := by
        obtain ⟨m_at_6, m_fault_7, m_pointsThen_8, m_numbers_9⟩ := z
        intro H locs ls hw hl
        have hw : xWd (dC, dI) A s.heap H locs (wM cI cZ cB cO m_ad m_p m_now m_held m_past m_pasts m_refused m_figures m_isLaid m_many m_isMade m_made m_images m_orbits m_chains m_isCarried m_carried m_carriedMany m_isSorted m_leasts m_heads m_headFrom m_text m_typed m_at_6 m_fault_7 m_orders m_pointsThen_8 (upd m_letters m_orders.toNatClampNeg r_2) m_numbers_9 m_h) := hw
        have hl : lv_has ls 2 [(0, .ref m_ad)] := hl
        show W p l e R s m args below meth c H locs 0 0 Q (F0 m 131 ls [])
        refine lv_aload_n hx hb dX8_readOrder_131 rfl (lv_at hl 0 rfl) ?_
        refine lv_dup hx hb dX8_readOrder_132 rfl ?_
        refine x_get (ci := 7) C hw inX8 rfl 24 (by decide) lkF_X8_193 rfl 0 rfl rfl dX8_readOrder_133 ?_
        refine lv_iconst (v := (1 : Int32)) hx hb dX8_readOrder_136 (by decide) ?_
        refine lv_iadd hx hb dX8_readOrder_137 ?_
        refine x_put (ci := 7) C hw inX8 tyX8 tyX8_ok nmX8 rfl 24 (by decide) lkF_X8_193 rfl rfl 0 rfl rfl rfl (Nat.le_of_ble_eq_true rfl) dX8_readOrder_138 (fun H locs hw => ?_)
        have hw : xWd (dC, dI) A s.heap H locs (wM cI cZ cB cO m_ad m_p m_now m_held m_past m_pasts m_refused m_figures m_isLaid m_many m_isMade m_made m_images m_orbits m_chains m_isCarried m_carried m_carriedMany m_isSorted m_leasts m_heads m_headFrom m_text m_typed m_at_6 m_fault_7 (m_orders + (1 : Int32)) m_pointsThen_8 (upd m_letters m_orders.toNatClampNeg r_2) m_numbers_9 m_h) := hw
        refine lv_aload_n hx hb dX8_readOrder_141 rfl (lv_at hl 0 rfl) ?_
        refine lv_aload_n hx hb dX8_readOrder_142 rfl (lv_at hl 0 rfl) ?_
        obtain ⟨⟨m_at_22, r_23⟩, q14, h⟩ := xn_i h
        refine x_callVi (As := []) (rest := [.ref m_ad]) C hw gc_X8_183 ⟨rfl, rfl, ds_X8_here, (by rw [hR]; exact Nat.le_of_ble_eq_true rfl), (by rw [hR]; exact Nat.le_of_ble_eq_true rfl), Nat.zero_le _, Nat.zero_le _⟩ (c_X8_here l dC dI cI cZ cB cO m_ad m_p m_now m_held m_past m_pasts m_refused m_figures m_isLaid m_many m_isMade m_made m_images m_orbits m_chains m_isCarried m_carried m_carriedMany m_isSorted m_leasts m_heads m_headFrom m_text m_typed m_at_6 m_fault_7 (m_orders + (1 : Int32)) m_pointsThen_8 (upd m_letters m_orders.toNatClampNeg r_2) m_numbers_9 m_h _ q14 _) [0, 1, 2, 3, 4, 5, 6, 7, 8, 9, 10, 11, 12, 13, 14, 15, 16, 17, 18] [] (by decide) rfl rfl (by decide) (by decide) rfl rfl rfl hl.1 rfl (Nat.le_of_ble_eq_true rfl) dX8_readOrder_143 (fun H locs hw => ?_)
        have hw : xWd (dC, dI) A s.heap H locs (wM cI cZ cB cO m_ad m_p m_now m_held m_past m_pasts m_refused m_figures m_isLaid m_many m_isMade m_made m_images m_orbits m_chains m_isCarried m_carried m_carriedMany m_isSorted m_leasts m_heads m_headFrom m_text m_typed m_at_22 m_fault_7 (m_orders + (1 : Int32)) m_pointsThen_8 (upd m_letters m_orders.toNatClampNeg r_2) m_numbers_9 m_h) := hw
        refine lv_bipush (v := (59 : Int32)) hx hb dX8_readOrder_146 (by decide) ?_
        refine lv_icmp_ne (tgt := 155) hx hb dX8_readOrder_148 (by decide) (fun b15 => ?_) (fun b15 => ?_)
        · replace h := xb_ff b15 h
          refine lv_iconst (v := (0 : Int32)) hx hb dX8_readOrder_155 (by decide) ?_
          obtain ⟨⟨m_at_24, m_fault_25⟩, q16, h⟩ := xn_i h
          refine x_callVv (As := [.int (0 : Int32)]) (rest := []) C hw gc_X8_186 ⟨rfl, rfl, ds_X8_must, (by rw [hR]; exact Nat.le_of_ble_eq_true rfl), (by rw [hR]; exact Nat.le_of_ble_eq_true rfl), Nat.zero_le _, Nat.zero_le _⟩ (c_X8_must l dC dI cI cZ cB cO m_ad m_p m_now m_held m_past m_pasts m_refused m_figures m_isLaid m_many m_isMade m_made m_images m_orbits m_chains m_isCarried m_carried m_carriedMany m_isSorted m_leasts m_heads m_headFrom m_text m_typed m_at_22 m_fault_7 (m_orders + (1 : Int32)) m_pointsThen_8 (upd m_letters m_orders.toNatClampNeg r_2) m_numbers_9 m_h (0 : Int32) _ q16 _) [0, 1, 2, 3, 4, 5, 6, 7, 8, 9, 10, 11, 12, 13, 14, 15, 16, 17, 18] [] (by decide) rfl rfl (by decide) (by decide) rfl rfl rfl hl.1 rfl (Nat.le_of_ble_eq_true rfl) dX8_readOrder_156 (fun H locs hw => ?_)
          have hw : xWd (dC, dI) A s.heap H locs (wM cI cZ cB cO m_ad m_p m_now m_held m_past m_pasts m_refused m_figures m_isLaid m_many m_isMade m_made m_images m_orbits m_chains m_isCarried m_carried m_carriedMany m_isSorted m_leasts m_heads m_headFrom m_text m_typed m_at_24 m_fault_25 (m_orders + (1 : Int32)) m_pointsThen_8 (upd m_letters m_orders.toNatClampNeg r_2) m_numbers_9 m_h) := hw
          obtain rfl := Option.some.inj h
          exact x_retv C hQ hA hw dX8_readOrder_159
        · replace h := xb_tt b15 h
          refine lv_iconst (v := (1 : Int32)) hx hb dX8_readOrder_151 (by decide) ?_
          refine lv_goto (tgt := 156) hx hb dX8_readOrder_152 (by decide) ?_
          obtain ⟨⟨m_at_26, m_fault_27⟩, q17, h⟩ := xn_i h
          refine x_callVv (As := [.int (1 : Int32)]) (rest := []) C hw gc_X8_186 ⟨rfl, rfl, ds_X8_must, (by rw [hR]; exact Nat.le_of_ble_eq_true rfl), (by rw [hR]; exact Nat.le_of_ble_eq_true rfl), Nat.zero_le _, Nat.zero_le _⟩ (c_X8_must l dC dI cI cZ cB cO m_ad m_p m_now m_held m_past m_pasts m_refused m_figures m_isLaid m_many m_isMade m_made m_images m_orbits m_chains m_isCarried m_carried m_carriedMany m_isSorted m_leasts m_heads m_headFrom m_text m_typed m_at_22 m_fault_7 (m_orders + (1 : Int32)) m_pointsThen_8 (upd m_letters m_orders.toNatClampNeg r_2) m_numbers_9 m_h (1 : Int32) _ q17 _) [0, 1, 2, 3, 4, 5, 6, 7, 8, 9, 10, 11, 12, 13, 14, 15, 16, 17, 18] [] (by decide) rfl rfl (by decide) (by decide) rfl rfl rfl hl.1 rfl (Nat.le_of_ble_eq_true rfl) dX8_readOrder_156 (fun H locs hw => ?_)
          have hw : xWd (dC, dI) A s.heap H locs (wM cI cZ cB cO m_ad m_p m_now m_held m_past m_pasts m_refused m_figures m_isLaid m_many m_isMade m_made m_images m_orbits m_chains m_isCarried m_carried m_carriedMany m_isSorted m_leasts m_heads m_headFrom m_text m_typed m_at_26 m_fault_27 (m_orders + (1 : Int32)) m_pointsThen_8 (upd m_letters m_orders.toNatClampNeg r_2) m_numbers_9 m_h) := hw
          obtain rfl := Option.some.inj h
          exact x_retv C hQ hA hw dX8_readOrder_159
      clear h
      have h := hj
      clear hj
      refine lv_icmp_ne (tgt := 73) hx hb dX8_readOrder_54 (by decide) (fun b8 => ?_) (fun b8 => ?_)
      · replace h := xb_ff b8 h
        refine lv_aload_n hx hb dX8_readOrder_73 rfl (lv_at hl 0 rfl) ?_
        refine x_get (ci := 7) C hw inX8 rfl 27 (by decide) lkF_X8_63 rfl 0 rfl rfl dX8_readOrder_74 ?_
        refine lv_aload_n hx hb dX8_readOrder_77 rfl (lv_at hl 0 rfl) ?_
        refine x_get (ci := 7) C hw inX8 rfl 24 (by decide) lkF_X8_193 rfl 0 rfl rfl dX8_readOrder_78 ?_
        refine lv_iload_n hx hb dX8_readOrder_81 rfl (lv_at hl 1 rfl) ?_
        refine lv_bipush (v := (110 : Int32)) hx hb dX8_readOrder_82 (by decide) ?_
        obtain ⟨z, hj, h⟩ := xn_i h
        have k : ∀ (H : Heap) (locs : List Loc) (ls : Array Slot), xWd (dC, dI) A s.heap H locs (wM cI cZ cB cO m_ad m_p m_now m_held m_past m_pasts m_refused m_figures m_isLaid m_many m_isMade m_made m_images m_orbits m_chains m_isCarried m_carried m_carriedMany m_isSorted m_leasts m_heads m_headFrom m_text m_typed z.1 z.2.1 m_orders m_pointsThen (upd m_letters m_orders.toNatClampNeg r_2) m_numbers m_h) → lv_has ls 2 [(0, .ref m_ad), (1, .int r_2)] → W p l e R s m args below meth c H locs 0 0 Q (F0 m 104 ls [.int z.2.2, .int m_orders, .ref (m_p 27)]) := by
          obtain ⟨m_at_10, m_fault_11, t_12⟩ := z
          intro H locs ls hw hl
          have hw : xWd (dC, dI) A s.heap H locs (wM cI cZ cB cO m_ad m_p m_now m_held m_past m_pasts m_refused m_figures m_isLaid m_many m_isMade m_made m_images m_orbits m_chains m_isCarried m_carried m_carriedMany m_isSorted m_leasts m_heads m_headFrom m_text m_typed m_at_10 m_fault_11 m_orders m_pointsThen (upd m_letters m_orders.toNatClampNeg r_2) m_numbers m_h) := hw
          have hl : lv_has ls 2 [(0, .ref m_ad), (1, .int r_2)] := hl
          show W p l e R s m args below meth c H locs 0 0 Q (F0 m 104 ls [.int t_12, .int m_orders, .ref (m_p 27)])
          refine x_iast C hw 18 0 rfl rfl b7 dX8_readOrder_104 (fun H locs hw => ?_)
          have hw : xWd (dC, dI) A s.heap H locs (wM cI cZ cB cO m_ad m_p m_now m_held m_past m_pasts m_refused m_figures m_isLaid m_many m_isMade m_made m_images m_orbits m_chains m_isCarried m_carried m_carriedMany m_isSorted m_leasts m_heads m_headFrom m_text m_typed m_at_10 m_fault_11 m_orders m_pointsThen (upd m_letters m_orders.toNatClampNeg r_2) (upd m_numbers m_orders.toNatClampNeg t_12) m_h) := hw
          refine lv_aload_n hx hb dX8_readOrder_105 rfl (lv_at hl 0 rfl) ?_
          refine lv_iload_n hx hb dX8_readOrder_106 rfl (lv_at hl 1 rfl) ?_
          refine lv_bipush (v := (110 : Int32)) hx hb dX8_readOrder_107 (by decide) ?_
          refine lv_icmp_ne (tgt := 124) hx hb dX8_readOrder_109 (by decide) (fun b12 => ?_) (fun b12 => ?_)
          · replace h := xb_ff b12 h
            refine lv_aload_n hx hb dX8_readOrder_124 rfl (lv_at hl 0 rfl) ?_
            refine x_get (ci := 7) C hw inX8 rfl 25 (by decide) lkF_X8_190 rfl 0 rfl rfl dX8_readOrder_125 ?_
            refine x_put (ci := 7) C hw inX8 tyX8 tyX8_ok nmX8 rfl 25 (by decide) lkF_X8_190 rfl rfl 0 rfl rfl rfl (Nat.le_of_ble_eq_true rfl) dX8_readOrder_128 (fun H locs hw => ?_)
            have hw : xWd (dC, dI) A s.heap H locs (wM cI cZ cB cO m_ad m_p m_now m_held m_past m_pasts m_refused m_figures m_isLaid m_many m_isMade m_made m_images m_orbits m_chains m_isCarried m_carried m_carriedMany m_isSorted m_leasts m_heads m_headFrom m_text m_typed m_at_10 m_fault_11 m_orders m_pointsThen (upd m_letters m_orders.toNatClampNeg r_2) (upd m_numbers m_orders.toNatClampNeg t_12) m_h) := hw
            obtain rfl := Option.some.inj h
            exact k _ _ _ hw (lv_sub hl [0] rfl)
          · replace h := xb_tt b12 h
            refine lv_aload_n hx hb dX8_readOrder_112 rfl (lv_at hl 0 rfl) ?_
            refine x_get (ci := 7) C hw inX8 rfl 27 (by decide) lkF_X8_63 rfl 0 rfl rfl dX8_readOrder_113 ?_
            refine lv_aload_n hx hb dX8_readOrder_116 rfl (lv_at hl 0 rfl) ?_
            refine x_get (ci := 7) C hw inX8 rfl 24 (by decide) lkF_X8_193 rfl 0 rfl rfl dX8_readOrder_117 ?_
            refine x_iald C hw 18 0 rfl rfl b7 dX8_readOrder_120 ?_
            refine lv_goto (tgt := 128) hx hb dX8_readOrder_121 (by decide) ?_
            refine x_put (ci := 7) C hw inX8 tyX8 tyX8_ok nmX8 rfl 25 (by decide) lkF_X8_190 rfl rfl 0 rfl rfl rfl (Nat.le_of_ble_eq_true rfl) dX8_readOrder_128 (fun H locs hw => ?_)
            have hw : xWd (dC, dI) A s.heap H locs (wM cI cZ cB cO m_ad m_p m_now m_held m_past m_pasts m_refused m_figures m_isLaid m_many m_isMade m_made m_images m_orbits m_chains m_isCarried m_carried m_carriedMany m_isSorted m_leasts m_heads m_headFrom m_text m_typed m_at_10 m_fault_11 m_orders ((upd m_numbers m_orders.toNatClampNeg t_12) m_orders.toNatClampNeg) (upd m_letters m_orders.toNatClampNeg r_2) (upd m_numbers m_orders.toNatClampNeg t_12) m_h) := hw
            obtain rfl := Option.some.inj h
            exact k _ _ _ hw (lv_sub hl [0] rfl)
        clear h
        have h := hj
        clear hj
        refine lv_icmp_ne (tgt := 97) hx hb dX8_readOrder_84 (by decide) (fun b9 => ?_) (fun b9 => ?_)
        · replace h := xb_ff b9 h
          refine lv_aload_n hx hb dX8_readOrder_97 rfl (lv_at hl 0 rfl) ?_
          refine lv_iconst (v := (0 : Int32)) hx hb dX8_readOrder_98 (by decide) ?_
          refine lv_bipush (v := (9 : Int32)) hx hb dX8_readOrder_99 (by decide) ?_
          obtain ⟨⟨m_at_13, m_fault_14, r_15⟩, q10, h⟩ := xn_i h
          refine x_callVi (As := [.int (0 : Int32), .int (9 : Int32)]) (rest := [.int m_orders, .ref (m_p 27)]) C hw gc_X8_199 ⟨rfl, rfl, ds_X8_figure, (by rw [hR]; exact Nat.le_of_ble_eq_true rfl), (by rw [hR]; exact Nat.le_of_ble_eq_true rfl), Nat.zero_le _, Nat.zero_le _⟩ (c_X8_figure l dC dI cI cZ cB cO m_ad m_p m_now m_held m_past m_pasts m_refused m_figures m_isLaid m_many m_isMade m_made m_images m_orbits m_chains m_isCarried m_carried m_carriedMany m_isSorted m_leasts m_heads m_headFrom m_text m_typed m_at_4 m_fault_5 m_orders m_pointsThen (upd m_letters m_orders.toNatClampNeg r_2) m_numbers m_h (0 : Int32) (9 : Int32) _ q10 _) [0, 1, 2, 3, 4, 5, 6, 7, 8, 9, 10, 11, 12, 13, 14, 15, 16, 17, 18] [] (by decide) rfl rfl (by decide) (by decide) rfl rfl rfl hl.1 rfl (Nat.le_of_ble_eq_true rfl) dX8_readOrder_101 (fun H locs hw => ?_)
          have hw : xWd (dC, dI) A s.heap H locs (wM cI cZ cB cO m_ad m_p m_now m_held m_past m_pasts m_refused m_figures m_isLaid m_many m_isMade m_made m_images m_orbits m_chains m_isCarried m_carried m_carriedMany m_isSorted m_leasts m_heads m_headFrom m_text m_typed m_at_13 m_fault_14 m_orders m_pointsThen (upd m_letters m_orders.toNatClampNeg r_2) m_numbers m_h) := hw
          obtain rfl := Option.some.inj h
          exact k _ _ _ hw (lv_sub hl [0, 1] rfl)
        · replace h := xb_tt b9 h
          refine lv_aload_n hx hb dX8_readOrder_87 rfl (lv_at hl 0 rfl) ?_
          refine lv_iconst (v := (1 : Int32)) hx hb dX8_readOrder_88 (by decide) ?_
          refine lv_bipush (v := (8 : Int32)) hx hb dX8_readOrder_89 (by decide) ?_
          obtain ⟨⟨m_at_16, m_fault_17, r_18⟩, q11, h⟩ := xn_i h
          refine x_callVi (As := [.int (1 : Int32), .int (8 : Int32)]) (rest := [.int m_orders, .ref (m_p 27)]) C hw gc_X8_199 ⟨rfl, rfl, ds_X8_figure, (by rw [hR]; exact Nat.le_of_ble_eq_true rfl), (by rw [hR]; exact Nat.le_of_ble_eq_true rfl), Nat.zero_le _, Nat.zero_le _⟩ (c_X8_figure l dC dI cI cZ cB cO m_ad m_p m_now m_held m_past m_pasts m_refused m_figures m_isLaid m_many m_isMade m_made m_images m_orbits m_chains m_isCarried m_carried m_carriedMany m_isSorted m_leasts m_heads m_headFrom m_text m_typed m_at_4 m_fault_5 m_orders m_pointsThen (upd m_letters m_orders.toNatClampNeg r_2) m_numbers m_h (1 : Int32) (8 : Int32) _ q11 _) [0, 1, 2, 3, 4, 5, 6, 7, 8, 9, 10, 11, 12, 13, 14, 15, 16, 17, 18] [] (by decide) rfl rfl (by decide) (by decide) rfl rfl rfl hl.1 rfl (Nat.le_of_ble_eq_true rfl) dX8_readOrder_91 (fun H locs hw => ?_)
          have hw : xWd (dC, dI) A s.heap H locs (wM cI cZ cB cO m_ad m_p m_now m_held m_past m_pasts m_refused m_figures m_isLaid m_many m_isMade m_made m_images m_orbits m_chains m_isCarried m_carried m_carriedMany m_isSorted m_leasts m_heads m_headFrom m_text m_typed m_at_16 m_fault_17 m_orders m_pointsThen (upd m_letters m_orders.toNatClampNeg r_2) m_numbers m_h) := hw
          refine lv_goto (tgt := 104) hx hb dX8_readOrder_94 (by decide) ?_
          obtain rfl := Option.some.inj h
          exact k _ _ _ hw (lv_sub hl [0, 1] rfl)
      · replace h := xb_tt b8 h
        refine lv_aload_n hx hb dX8_readOrder_57 rfl (lv_at hl 0 rfl) ?_
        refine x_get (ci := 7) C hw inX8 rfl 27 (by decide) lkF_X8_63 rfl 0 rfl rfl dX8_readOrder_58 ?_
        refine lv_aload_n hx hb dX8_readOrder_61 rfl (lv_at hl 0 rfl) ?_
        refine x_get (ci := 7) C hw inX8 rfl 24 (by decide) lkF_X8_193 rfl 0 rfl rfl dX8_readOrder_62 ?_
        refine lv_aload_n hx hb dX8_readOrder_65 rfl (lv_at hl 0 rfl) ?_
        obtain ⟨⟨m_at_19, m_fault_20, r_21⟩, q13, h⟩ := xn_i h
        refine x_callVi (As := []) (rest := [.int m_orders, .ref (m_p 27)]) C hw gc_X8_196 ⟨rfl, rfl, ds_X8_readMove, (by rw [hR]; exact Nat.le_of_ble_eq_true rfl), (by rw [hR]; exact Nat.le_of_ble_eq_true rfl), Nat.zero_le _, Nat.zero_le _⟩ (c_X8_readMove l dC dI cI cZ cB cO m_ad m_p m_now m_held m_past m_pasts m_refused m_figures m_isLaid m_many m_isMade m_made m_images m_orbits m_chains m_isCarried m_carried m_carriedMany m_isSorted m_leasts m_heads m_headFrom m_text m_typed m_at_4 m_fault_5 m_orders m_pointsThen (upd m_letters m_orders.toNatClampNeg r_2) m_numbers m_h _ q13 _) [0, 1, 2, 3, 4, 5, 6, 7, 8, 9, 10, 11, 12, 13, 14, 15, 16, 17, 18] [] (by decide) rfl rfl (by decide) (by decide) rfl rfl rfl hl.1 rfl (Nat.le_of_ble_eq_true rfl) dX8_readOrder_66 (fun H locs hw => ?_)
        have hw : xWd (dC, dI) A s.heap H locs (wM cI cZ cB cO m_ad m_p m_now m_held m_past m_pasts m_refused m_figures m_isLaid m_many m_isMade m_made m_images m_orbits m_chains m_isCarried m_carried m_carriedMany m_isSorted m_leasts m_heads m_headFrom m_text m_typed m_at_19 m_fault_20 m_orders m_pointsThen (upd m_letters m_orders.toNatClampNeg r_2) m_numbers m_h) := hw
        refine x_iast C hw 18 0 rfl rfl b7 dX8_readOrder_69 (fun H locs hw => ?_)
        have hw : xWd (dC, dI) A s.heap H locs (wM cI cZ cB cO m_ad m_p m_now m_held m_past m_pasts m_refused m_figures m_isLaid m_many m_isMade m_made m_images m_orbits m_chains m_isCarried m_carried m_carriedMany m_isSorted m_leasts m_heads m_headFrom m_text m_typed m_at_19 m_fault_20 m_orders m_pointsThen (upd m_letters m_orders.toNatClampNeg r_2) (upd m_numbers m_orders.toNatClampNeg r_21) m_h) := hw
        refine lv_goto (tgt := 131) hx hb dX8_readOrder_70 (by decide) ?_
        obtain rfl := Option.some.inj h
        exact k _ _ _ hw (lv_sub hl [0] rfl)
    · replace h := xb_ff b6 h
      obtain rfl := Option.some.inj h
      exact x_retv C hQ hA hw dX8_readOrder_40
  clear h
  have h := hj
  clear hj
  refine lv_icmp_eq (tgt := 24) hx hb dX8_readOrder_9 (by decide) (fun b2 => ?_) (fun b2 => ?_)
  · replace h := xb_tt b2 h
    refine lv_iconst (v := (1 : Int32)) hx hb dX8_readOrder_24 (by decide) ?_
    refine lv_goto (tgt := 29) hx hb dX8_readOrder_25 (by decide) ?_
    obtain rfl := Option.some.inj h
    exact k _ _ _ hw (lv_sub hl [1, 0] rfl)
  · replace h := xb_ff b2 h
    refine lv_iload_n hx hb dX8_readOrder_12 rfl (lv_at hl 0 rfl) ?_
    refine lv_bipush (v := (109 : Int32)) hx hb dX8_readOrder_13 (by decide) ?_
    refine lv_icmp_eq (tgt := 24) hx hb dX8_readOrder_15 (by decide) (fun b3 => ?_) (fun b3 => ?_)
    · replace h := xb_tt b3 h
      refine lv_iconst (v := (1 : Int32)) hx hb dX8_readOrder_24 (by decide) ?_
      refine lv_goto (tgt := 29) hx hb dX8_readOrder_25 (by decide) ?_
      obtain rfl := Option.some.inj h
      exact k _ _ _ hw (lv_sub hl [1, 0] rfl)
    · replace h := xb_ff b3 h
      refine lv_iload_n hx hb dX8_readOrder_18 rfl (lv_at hl 0 rfl) ?_
      refine lv_bipush (v := (120 : Int32)) hx hb dX8_readOrder_19 (by decide) ?_
      refine lv_icmp_ne (tgt := 28) hx hb dX8_readOrder_21 (by decide) (fun b4 => ?_) (fun b4 => ?_)
      · replace h := xb_ff b4 h
        refine lv_iconst (v := (0 : Int32)) hx hb dX8_readOrder_28 (by decide) ?_
        obtain rfl := Option.some.inj h
        exact k _ _ _ hw (lv_sub hl [1, 0] rfl)
      · replace h := xb_tt b4 h
        refine lv_iconst (v := (1 : Int32)) hx hb dX8_readOrder_24 (by decide) ?_
        refine lv_goto (tgt := 29) hx hb dX8_readOrder_25 (by decide) ?_
        obtain rfl := Option.some.inj h
        exact k _ _ _ hw (lv_sub hl [1, 0] rfl)
noncomputable def f_X8_doOrder (m_now : (Nat → Int32)) (m_figures : (Nat → Int32)) (m_isLaid : Int32) (m_isSorted : Int32) (m_letters : (Nat → Int32)) (m_numbers : (Nat → Int32)) (v1 : Int32) : Option ((Nat → Int32) × (Nat → Int32) × Int32 × Int32 × Int32) := xk (vp_in v1 40) (xb ((m_letters v1.toNatClampNeg) = (110 : Int32)) (xn (f_X8_doPoints m_now m_isLaid m_isSorted (m_numbers v1.toNatClampNeg)) (fun (z : (Nat → Int32) × Int32 × Int32 × Int32) => match z with | (m_now_10, m_isLaid_11, m_isSorted_12, r_13) => some (m_now_10, m_figures, m_isLaid_11, m_isSorted_12, r_13))) (xb ((m_letters v1.toNatClampNeg) = (109 : Int32)) (xn (f_X8_doMoves m_now m_figures m_isLaid m_isSorted (m_numbers v1.toNatClampNeg)) (fun (z : (Nat → Int32) × (Nat → Int32) × Int32 × Int32 × Int32) => match z with | (m_now_5, m_figures_6, m_isLaid_7, m_isSorted_8, r_9) => some (m_now_5, m_figures_6, m_isLaid_7, m_isSorted_8, r_9))) (xn (f_X8_doDrops m_now m_isLaid m_isSorted (m_numbers v1.toNatClampNeg)) (fun (z : (Nat → Int32) × Int32 × Int32 × Int32) => match z with | (m_now_1, m_isLaid_2, m_isSorted_3, r_4) => some (m_now_1, m_figures, m_isLaid_2, m_isSorted_3, r_4)))))
set_option maxHeartbeats 4000000 in
set_option maxRecDepth 100000 in
theorem c_X8_doOrder (l : Launch) (dC : Nat → ClassId) (dI : Nat → Nat → Nat) (cI cZ cB cO : ClassId) (m_ad : Nat) (m_p : Nat → Nat) (m_now : (Nat → Int32)) (m_held : (Nat → Int32)) (m_past : (Nat → Int32)) (m_pasts : Int32) (m_refused : (Nat → Int32)) (m_figures : (Nat → Int32)) (m_isLaid : Int32) (m_many : Int32) (m_isMade : (Nat → Int32)) (m_made : (Nat → Int32)) (m_images : (Nat → Int32)) (m_orbits : (Nat → Int32)) (m_chains : (Nat → Int32)) (m_isCarried : (Nat → Int32)) (m_carried : (Nat → Int32)) (m_carriedMany : Int32) (m_isSorted : Int32) (m_leasts : (Nat → Int32)) (m_heads : (Nat → Int32)) (m_headFrom : (Nat → Int32)) (m_text : (Nat → Int32)) (m_typed : Int32) (m_at : Int32) (m_fault : Int32) (m_orders : Int32) (m_pointsThen : Int32) (m_letters : (Nat → Int32)) (m_numbers : (Nat → Int32)) (m_h : Int64) (v1 : Int32) (o : (Nat → Int32) × (Nat → Int32) × Int32 × Int32 × Int32) (h : f_X8_doOrder m_now m_figures m_isLaid m_isSorted m_letters m_numbers v1 = some o) (sz : Nat) : Met l yX8_doOrder (xW yX8_doOrder cX8_doOrder 2 (some .int)) { frames := 3, cells := 0, slots := 0, locals := 68 } (xPre dC dI (xT cI cZ cB cO) [.ref m_ad, .int v1] (wM cI cZ cB cO m_ad m_p m_now m_held m_past m_pasts m_refused m_figures m_isLaid m_many m_isMade m_made m_images m_orbits m_chains m_isCarried m_carried m_carriedMany m_isSorted m_leasts m_heads m_headFrom m_text m_typed m_at m_fault m_orders m_pointsThen m_letters m_numbers m_h) sz) (xQi dC dI (xT cI cZ cB cO) o.2.2.2.2 (wM cI cZ cB cO m_ad m_p m_now m_held m_past m_pasts m_refused m_figures m_isLaid m_many m_isMade m_made m_images m_orbits m_chains m_isCarried m_carried m_carriedMany m_isSorted m_leasts m_heads m_headFrom m_text m_typed m_at m_fault m_orders m_pointsThen m_letters m_numbers m_h) (wM cI cZ cB cO m_ad m_p o.1 m_held m_past m_pasts m_refused o.2.1 o.2.2.1 m_many m_isMade m_made m_images m_orbits m_chains m_isCarried m_carried m_carriedMany o.2.2.2.1 m_leasts m_heads m_headFrom m_text m_typed m_at m_fault m_orders m_pointsThen m_letters m_numbers m_h) sz) 0 0 (va_A (wM cI cZ cB cO m_ad m_p m_now m_held m_past m_pasts m_refused m_figures m_isLaid m_many m_isMade m_made m_images m_orbits m_chains m_isCarried m_carried m_carriedMany m_isSorted m_leasts m_heads m_headFrom m_text m_typed m_at m_fault m_orders m_pointsThen m_letters m_numbers m_h) sz) := by
  refine x_met (by decide) (Nat.le_of_ble_eq_true rfl) ?_
  intro p e s m args below meth c R Q A hR hsz hA hQ hin C hw ls hl
  have hx := C.1
  have hb := C.2.1
  have hown := C.2.2.2.1
  have htb := C.2.2.2.2.1
  have hl : lv_has ls 2 [(0, .ref m_ad), (1, .int v1)] := hl
  refine lv_aload_n hx hb dX8_doOrder_0 rfl (lv_at hl 0 rfl) ?_
  refine x_get (ci := 7) C hw inX8 rfl 26 (by decide) lkF_X8_60 rfl 0 rfl rfl dX8_doOrder_1 ?_
  refine lv_iload_n hx hb dX8_doOrder_4 rfl (lv_at hl 1 rfl) ?_
  obtain ⟨b1, h⟩ := xk_i h
  refine x_iald C hw 17 0 rfl rfl b1 dX8_doOrder_5 ?_
  refine lv_bipush (v := (110 : Int32)) hx hb dX8_doOrder_6 (by decide) ?_
  refine lv_icmp_ne (tgt := 24) hx hb dX8_doOrder_8 (by decide) (fun b2 => ?_) (fun b2 => ?_)
  · replace h := xb_ff b2 h
    refine lv_aload_n hx hb dX8_doOrder_24 rfl (lv_at hl 0 rfl) ?_
    refine x_get (ci := 7) C hw inX8 rfl 26 (by decide) lkF_X8_60 rfl 0 rfl rfl dX8_doOrder_25 ?_
    refine lv_iload_n hx hb dX8_doOrder_28 rfl (lv_at hl 1 rfl) ?_
    refine x_iald C hw 17 0 rfl rfl b1 dX8_doOrder_29 ?_
    refine lv_bipush (v := (109 : Int32)) hx hb dX8_doOrder_30 (by decide) ?_
    refine lv_icmp_ne (tgt := 48) hx hb dX8_doOrder_32 (by decide) (fun b3 => ?_) (fun b3 => ?_)
    · replace h := xb_ff b3 h
      refine lv_aload_n hx hb dX8_doOrder_48 rfl (lv_at hl 0 rfl) ?_
      refine lv_aload_n hx hb dX8_doOrder_49 rfl (lv_at hl 0 rfl) ?_
      refine x_get (ci := 7) C hw inX8 rfl 27 (by decide) lkF_X8_63 rfl 0 rfl rfl dX8_doOrder_50 ?_
      refine lv_iload_n hx hb dX8_doOrder_53 rfl (lv_at hl 1 rfl) ?_
      refine x_iald C hw 18 0 rfl rfl b1 dX8_doOrder_54 ?_
      obtain ⟨⟨m_now_1, m_isLaid_2, m_isSorted_3, r_4⟩, q4, h⟩ := xn_i h
      refine x_callVi (As := [.int (m_numbers v1.toNatClampNeg)]) (rest := []) C hw gc_X8_108 ⟨rfl, rfl, ds_X8_doDrops, (by rw [hR]; exact Nat.le_of_ble_eq_true rfl), (by rw [hR]; exact Nat.le_of_ble_eq_true rfl), Nat.zero_le _, Nat.zero_le _⟩ (c_X8_doDrops l dC dI cI cZ cB cO m_ad m_p m_now m_held m_past m_pasts m_refused m_figures m_isLaid m_many m_isMade m_made m_images m_orbits m_chains m_isCarried m_carried m_carriedMany m_isSorted m_leasts m_heads m_headFrom m_text m_typed m_at m_fault m_orders m_pointsThen m_letters m_numbers m_h (m_numbers v1.toNatClampNeg) _ q4 _) [0, 1, 2, 3, 4, 5, 6, 7, 8, 9, 10, 11, 12, 13, 14, 15, 16, 17, 18] [] (by decide) rfl rfl (by decide) (by decide) rfl rfl rfl hl.1 rfl (Nat.le_of_ble_eq_true rfl) dX8_doOrder_55 (fun H locs hw => ?_)
      have hw : xWd (dC, dI) A s.heap H locs (wM cI cZ cB cO m_ad m_p m_now_1 m_held m_past m_pasts m_refused m_figures m_isLaid_2 m_many m_isMade m_made m_images m_orbits m_chains m_isCarried m_carried m_carriedMany m_isSorted_3 m_leasts m_heads m_headFrom m_text m_typed m_at m_fault m_orders m_pointsThen m_letters m_numbers m_h) := hw
      obtain rfl := Option.some.inj h
      exact x_reti C hQ hA hw dX8_doOrder_58
    · replace h := xb_tt b3 h
      refine lv_aload_n hx hb dX8_doOrder_35 rfl (lv_at hl 0 rfl) ?_
      refine lv_aload_n hx hb dX8_doOrder_36 rfl (lv_at hl 0 rfl) ?_
      refine x_get (ci := 7) C hw inX8 rfl 27 (by decide) lkF_X8_63 rfl 0 rfl rfl dX8_doOrder_37 ?_
      refine lv_iload_n hx hb dX8_doOrder_40 rfl (lv_at hl 1 rfl) ?_
      refine x_iald C hw 18 0 rfl rfl b1 dX8_doOrder_41 ?_
      obtain ⟨⟨m_now_5, m_figures_6, m_isLaid_7, m_isSorted_8, r_9⟩, q5, h⟩ := xn_i h
      refine x_callVi (As := [.int (m_numbers v1.toNatClampNeg)]) (rest := []) C hw gc_X8_105 ⟨rfl, rfl, ds_X8_doMoves, (by rw [hR]; exact Nat.le_of_ble_eq_true rfl), (by rw [hR]; exact Nat.le_of_ble_eq_true rfl), Nat.zero_le _, Nat.zero_le _⟩ (c_X8_doMoves l dC dI cI cZ cB cO m_ad m_p m_now m_held m_past m_pasts m_refused m_figures m_isLaid m_many m_isMade m_made m_images m_orbits m_chains m_isCarried m_carried m_carriedMany m_isSorted m_leasts m_heads m_headFrom m_text m_typed m_at m_fault m_orders m_pointsThen m_letters m_numbers m_h (m_numbers v1.toNatClampNeg) _ q5 _) [0, 1, 2, 3, 4, 5, 6, 7, 8, 9, 10, 11, 12, 13, 14, 15, 16, 17, 18] [] (by decide) rfl rfl (by decide) (by decide) rfl rfl rfl hl.1 rfl (Nat.le_of_ble_eq_true rfl) dX8_doOrder_42 (fun H locs hw => ?_)
      have hw : xWd (dC, dI) A s.heap H locs (wM cI cZ cB cO m_ad m_p m_now_5 m_held m_past m_pasts m_refused m_figures_6 m_isLaid_7 m_many m_isMade m_made m_images m_orbits m_chains m_isCarried m_carried m_carriedMany m_isSorted_8 m_leasts m_heads m_headFrom m_text m_typed m_at m_fault m_orders m_pointsThen m_letters m_numbers m_h) := hw
      refine lv_goto (tgt := 58) hx hb dX8_doOrder_45 (by decide) ?_
      obtain rfl := Option.some.inj h
      exact x_reti C hQ hA hw dX8_doOrder_58
  · replace h := xb_tt b2 h
    refine lv_aload_n hx hb dX8_doOrder_11 rfl (lv_at hl 0 rfl) ?_
    refine lv_aload_n hx hb dX8_doOrder_12 rfl (lv_at hl 0 rfl) ?_
    refine x_get (ci := 7) C hw inX8 rfl 27 (by decide) lkF_X8_63 rfl 0 rfl rfl dX8_doOrder_13 ?_
    refine lv_iload_n hx hb dX8_doOrder_16 rfl (lv_at hl 1 rfl) ?_
    refine x_iald C hw 18 0 rfl rfl b1 dX8_doOrder_17 ?_
    obtain ⟨⟨m_now_10, m_isLaid_11, m_isSorted_12, r_13⟩, q6, h⟩ := xn_i h
    refine x_callVi (As := [.int (m_numbers v1.toNatClampNeg)]) (rest := []) C hw gc_X8_99 ⟨rfl, rfl, ds_X8_doPoints, (by rw [hR]; exact Nat.le_of_ble_eq_true rfl), (by rw [hR]; exact Nat.le_of_ble_eq_true rfl), Nat.zero_le _, Nat.zero_le _⟩ (c_X8_doPoints l dC dI cI cZ cB cO m_ad m_p m_now m_held m_past m_pasts m_refused m_figures m_isLaid m_many m_isMade m_made m_images m_orbits m_chains m_isCarried m_carried m_carriedMany m_isSorted m_leasts m_heads m_headFrom m_text m_typed m_at m_fault m_orders m_pointsThen m_letters m_numbers m_h (m_numbers v1.toNatClampNeg) _ q6 _) [0, 1, 2, 3, 4, 5, 6, 7, 8, 9, 10, 11, 12, 13, 14, 15, 16, 17, 18] [] (by decide) rfl rfl (by decide) (by decide) rfl rfl rfl hl.1 rfl (Nat.le_of_ble_eq_true rfl) dX8_doOrder_18 (fun H locs hw => ?_)
    have hw : xWd (dC, dI) A s.heap H locs (wM cI cZ cB cO m_ad m_p m_now_10 m_held m_past m_pasts m_refused m_figures m_isLaid_11 m_many m_isMade m_made m_images m_orbits m_chains m_isCarried m_carried m_carriedMany m_isSorted_12 m_leasts m_heads m_headFrom m_text m_typed m_at m_fault m_orders m_pointsThen m_letters m_numbers m_h) := hw
    refine lv_goto (tgt := 58) hx hb dX8_doOrder_21 (by decide) ?_
    obtain rfl := Option.some.inj h
    exact x_reti C hQ hA hw dX8_doOrder_58
noncomputable def f_X8_reads_L3 (m_held_23 : (Nat → Int32)) (z : (Nat → Int32) × Int32) : Option (((Nat → Int32) × Int32) ⊕ ((Nat → Int32))) := match z with
  | (m_now_38, v2_39) => xb ((5 : Int32) ≤ v2_39) (some (.inr m_now_38)) (xk (vp_in v2_39 5) (some (.inl ((upd m_now_38 v2_39.toNatClampNeg (m_held_23 v2_39.toNatClampNeg)), (v2_39 + (1 : Int32))))))
noncomputable def f_X8_reads_L2 (m_orders_11 : Int32) (m_letters_13 : (Nat → Int32)) (m_numbers_14 : (Nat → Int32)) (m_held_23 : (Nat → Int32)) (m_past : (Nat → Int32)) (m_pasts : Int32) (m_at_9 : Int32) (m_fault_10 : Int32) (m_pointsThen_12 : Int32) (z : (Nat → Int32) × (Nat → Int32) × Int32 × Int32 × Int32) : Option (((Nat → Int32) × (Nat → Int32) × Int32 × Int32 × Int32) ⊕ (((Nat → Int32) × (Nat → Int32) × Int32 × Int32) ⊕ ((Nat → Int32) × (Nat → Int32) × (Nat → Int32) × Int32 × (Nat → Int32) × Int32 × Int32 × Int32 × Int32 × Int32 × Int32 × (Nat → Int32) × (Nat → Int32) × Int32))) := match z with
  | (m_now_24, m_figures_25, m_isLaid_26, m_isSorted_27, v1_28) => xb (m_orders_11 ≤ v1_28) (some (.inr (.inl (m_now_24, m_figures_25, m_isLaid_26, m_isSorted_27)))) (xn (f_X8_doOrder m_now_24 m_figures_25 m_isLaid_26 m_isSorted_27 m_letters_13 m_numbers_14 v1_28) (fun (z : (Nat → Int32) × (Nat → Int32) × Int32 × Int32 × Int32) => match z with | (m_now_33, m_figures_34, m_isLaid_35, m_isSorted_36, r_37) => xb (0 ≤ r_37) (some (.inl (m_now_33, m_figures_34, m_isLaid_35, m_isSorted_36, (v1_28 + (1 : Int32))))) (xn (xL (f_X8_reads_L3 m_held_23) (m_now_33, (0 : Int32))) (fun (m_now_40 : (Nat → Int32)) => some (.inr (.inr (m_now_40, m_held_23, m_past, m_pasts, m_figures_34, (0 : Int32), (0 : Int32), m_at_9, m_fault_10, m_orders_11, m_pointsThen_12, m_letters_13, m_numbers_14, ((-1000 : Int32) - v1_28))))))))
noncomputable def f_X8_reads_L1 (m_text : (Nat → Int32)) (m_typed : Int32) (z : Int32 × Int32 × Int32 × Int32 × (Nat → Int32) × (Nat → Int32)) : Option ((Int32 × Int32 × Int32 × Int32 × (Nat → Int32) × (Nat → Int32)) ⊕ (Int32 × Int32 × Int32 × Int32 × (Nat → Int32) × (Nat → Int32))) := match z with
  | (m_at_3, m_fault_4, m_orders_5, m_pointsThen_6, m_letters_7, m_numbers_8) => xb (m_fault_4 = (-1 : Int32)) (xn (f_X8_here m_text m_typed m_at_3) (fun (z : Int32 × Int32) => match z with | (m_at_15, r_16) => xb (r_16 = (-1 : Int32)) (some (.inr (m_at_15, m_fault_4, m_orders_5, m_pointsThen_6, m_letters_7, m_numbers_8))) (xn (f_X8_readOrder m_text m_typed m_at_15 m_fault_4 m_orders_5 m_pointsThen_6 m_letters_7 m_numbers_8) (fun (z : Int32 × Int32 × Int32 × Int32 × (Nat → Int32) × (Nat → Int32)) => match z with | (m_at_17, m_fault_18, m_orders_19, m_pointsThen_20, m_letters_21, m_numbers_22) => some (.inl (m_at_17, m_fault_18, m_orders_19, m_pointsThen_20, m_letters_21, m_numbers_22)))))) (some (.inr (m_at_3, m_fault_4, m_orders_5, m_pointsThen_6, m_letters_7, m_numbers_8)))
noncomputable def f_X8_reads (m_now : (Nat → Int32)) (m_held : (Nat → Int32)) (m_past : (Nat → Int32)) (m_pasts : Int32) (m_figures : (Nat → Int32)) (m_isLaid : Int32) (m_isSorted : Int32) (m_text : (Nat → Int32)) (m_typed : Int32) (m_at : Int32) (m_fault : Int32) (m_orders : Int32) (m_pointsThen : Int32) (m_letters : (Nat → Int32)) (m_numbers : (Nat → Int32)) : Option ((Nat → Int32) × (Nat → Int32) × (Nat → Int32) × Int32 × (Nat → Int32) × Int32 × Int32 × Int32 × Int32 × Int32 × Int32 × (Nat → Int32) × (Nat → Int32) × Int32) := xn (f_X8_here m_text m_typed (0 : Int32)) (fun (z : Int32 × Int32) => match z with | (m_at_1, r_2) => xb (r_2 = (-1 : Int32)) (some (m_now, m_held, m_past, m_pasts, m_figures, m_isLaid, m_isSorted, m_at_1, (-1 : Int32), (0 : Int32), (m_now 0), m_letters, m_numbers, ((-10 : Int32) - m_typed))) (xn (xL (f_X8_reads_L1 m_text m_typed) (m_at_1, (-1 : Int32), (0 : Int32), (m_now 0), m_letters, m_numbers)) (fun (z : Int32 × Int32 × Int32 × Int32 × (Nat → Int32) × (Nat → Int32)) => match z with | (m_at_9, m_fault_10, m_orders_11, m_pointsThen_12, m_letters_13, m_numbers_14) => xb (m_fault_10 = (-1 : Int32)) (xn (f_X8_hold m_now m_held) (fun (m_held_23 : (Nat → Int32)) => xn (xL (f_X8_reads_L2 m_orders_11 m_letters_13 m_numbers_14 m_held_23 m_past m_pasts m_at_9 m_fault_10 m_pointsThen_12) (m_now, m_figures, m_isLaid, m_isSorted, (0 : Int32))) (fun (x : ((Nat → Int32) × (Nat → Int32) × Int32 × Int32) ⊕ ((Nat → Int32) × (Nat → Int32) × (Nat → Int32) × Int32 × (Nat → Int32) × Int32 × Int32 × Int32 × Int32 × Int32 × Int32 × (Nat → Int32) × (Nat → Int32) × Int32)) => match x with | .inl z => (fun (z : (Nat → Int32) × (Nat → Int32) × Int32 × Int32) => match z with | (m_now_29, m_figures_30, m_isLaid_31, m_isSorted_32) => xn (f_X8_push m_held_23 m_past m_pasts) (fun (z : (Nat → Int32) × Int32) => match z with | (m_past_41, m_pasts_42) => some (m_now_29, m_held_23, m_past_41, m_pasts_42, m_figures_30, m_isLaid_31, m_isSorted_32, m_at_9, m_fault_10, m_orders_11, m_pointsThen_12, m_letters_13, m_numbers_14, m_orders_11))) z | .inr z => some z))) (some (m_now, m_held, m_past, m_pasts, m_figures, m_isLaid, m_isSorted, m_at_9, m_fault_10, m_orders_11, m_pointsThen_12, m_letters_13, m_numbers_14, ((-10 : Int32) - m_fault_10))))))
set_option maxHeartbeats 4000000 in
set_option maxRecDepth 100000 in
theorem c_X8_reads (l : Launch) (dC : Nat → ClassId) (dI : Nat → Nat → Nat) (cI cZ cB cO : ClassId) (m_ad : Nat) (m_p : Nat → Nat) (m_now : (Nat → Int32)) (m_held : (Nat → Int32)) (m_past : (Nat → Int32)) (m_pasts : Int32) (m_refused : (Nat → Int32)) (m_figures : (Nat → Int32)) (m_isLaid : Int32) (m_many : Int32) (m_isMade : (Nat → Int32)) (m_made : (Nat → Int32)) (m_images : (Nat → Int32)) (m_orbits : (Nat → Int32)) (m_chains : (Nat → Int32)) (m_isCarried : (Nat → Int32)) (m_carried : (Nat → Int32)) (m_carriedMany : Int32) (m_isSorted : Int32) (m_leasts : (Nat → Int32)) (m_heads : (Nat → Int32)) (m_headFrom : (Nat → Int32)) (m_text : (Nat → Int32)) (m_typed : Int32) (m_at : Int32) (m_fault : Int32) (m_orders : Int32) (m_pointsThen : Int32) (m_letters : (Nat → Int32)) (m_numbers : (Nat → Int32)) (m_h : Int64) (o : (Nat → Int32) × (Nat → Int32) × (Nat → Int32) × Int32 × (Nat → Int32) × Int32 × Int32 × Int32 × Int32 × Int32 × Int32 × (Nat → Int32) × (Nat → Int32) × Int32) (h : f_X8_reads m_now m_held m_past m_pasts m_figures m_isLaid m_isSorted m_text m_typed m_at m_fault m_orders m_pointsThen m_letters m_numbers = some o) (sz : Nat) : Met l yX8_reads (xW yX8_reads cX8_reads 3 (some .int)) { frames := 4, cells := 0, slots := 0, locals := 89 } (xPre dC dI (xT cI cZ cB cO) [.ref m_ad] (wM cI cZ cB cO m_ad m_p m_now m_held m_past m_pasts m_refused m_figures m_isLaid m_many m_isMade m_made m_images m_orbits m_chains m_isCarried m_carried m_carriedMany m_isSorted m_leasts m_heads m_headFrom m_text m_typed m_at m_fault m_orders m_pointsThen m_letters m_numbers m_h) sz) (xQi dC dI (xT cI cZ cB cO) o.2.2.2.2.2.2.2.2.2.2.2.2.2 (wM cI cZ cB cO m_ad m_p m_now m_held m_past m_pasts m_refused m_figures m_isLaid m_many m_isMade m_made m_images m_orbits m_chains m_isCarried m_carried m_carriedMany m_isSorted m_leasts m_heads m_headFrom m_text m_typed m_at m_fault m_orders m_pointsThen m_letters m_numbers m_h) (wM cI cZ cB cO m_ad m_p o.1 o.2.1 o.2.2.1 o.2.2.2.1 m_refused o.2.2.2.2.1 o.2.2.2.2.2.1 m_many m_isMade m_made m_images m_orbits m_chains m_isCarried m_carried m_carriedMany o.2.2.2.2.2.2.1 m_leasts m_heads m_headFrom m_text m_typed o.2.2.2.2.2.2.2.1 o.2.2.2.2.2.2.2.2.1 o.2.2.2.2.2.2.2.2.2.1 o.2.2.2.2.2.2.2.2.2.2.1 o.2.2.2.2.2.2.2.2.2.2.2.1 o.2.2.2.2.2.2.2.2.2.2.2.2.1 m_h) sz) 0 0 (va_A (wM cI cZ cB cO m_ad m_p m_now m_held m_past m_pasts m_refused m_figures m_isLaid m_many m_isMade m_made m_images m_orbits m_chains m_isCarried m_carried m_carriedMany m_isSorted m_leasts m_heads m_headFrom m_text m_typed m_at m_fault m_orders m_pointsThen m_letters m_numbers m_h) sz) := by
  refine x_met (by decide) (Nat.le_of_ble_eq_true rfl) ?_
  intro p e s m args below meth c R Q A hR hsz hA hQ hin C hw ls hl
  have hx := C.1
  have hb := C.2.1
  have hown := C.2.2.2.1
  have htb := C.2.2.2.2.1
  have hl : lv_has ls 3 [(0, .ref m_ad)] := hl
  refine lv_aload_n hx hb dX8_reads_0 rfl (lv_at hl 0 rfl) ?_
  refine lv_iconst (v := (0 : Int32)) hx hb dX8_reads_1 (by decide) ?_
  refine x_put (ci := 7) C hw inX8 tyX8 tyX8_ok nmX8 rfl 22 (by decide) lkF_X8_177 rfl rfl 0 rfl rfl rfl (Nat.le_of_ble_eq_true rfl) dX8_reads_2 (fun H locs hw => ?_)
  have hw : xWd (dC, dI) A s.heap H locs (wM cI cZ cB cO m_ad m_p m_now m_held m_past m_pasts m_refused m_figures m_isLaid m_many m_isMade m_made m_images m_orbits m_chains m_isCarried m_carried m_carriedMany m_isSorted m_leasts m_heads m_headFrom m_text m_typed (0 : Int32) m_fault m_orders m_pointsThen m_letters m_numbers m_h) := hw
  refine lv_aload_n hx hb dX8_reads_5 rfl (lv_at hl 0 rfl) ?_
  refine lv_iconst (v := (-1 : Int32)) hx hb dX8_reads_6 (by decide) ?_
  refine x_put (ci := 7) C hw inX8 tyX8 tyX8_ok nmX8 rfl 23 (by decide) lkF_X8_180 rfl rfl 0 rfl rfl rfl (Nat.le_of_ble_eq_true rfl) dX8_reads_7 (fun H locs hw => ?_)
  have hw : xWd (dC, dI) A s.heap H locs (wM cI cZ cB cO m_ad m_p m_now m_held m_past m_pasts m_refused m_figures m_isLaid m_many m_isMade m_made m_images m_orbits m_chains m_isCarried m_carried m_carriedMany m_isSorted m_leasts m_heads m_headFrom m_text m_typed (0 : Int32) (-1 : Int32) m_orders m_pointsThen m_letters m_numbers m_h) := hw
  refine lv_aload_n hx hb dX8_reads_10 rfl (lv_at hl 0 rfl) ?_
  refine lv_iconst (v := (0 : Int32)) hx hb dX8_reads_11 (by decide) ?_
  refine x_put (ci := 7) C hw inX8 tyX8 tyX8_ok nmX8 rfl 24 (by decide) lkF_X8_193 rfl rfl 0 rfl rfl rfl (Nat.le_of_ble_eq_true rfl) dX8_reads_12 (fun H locs hw => ?_)
  have hw : xWd (dC, dI) A s.heap H locs (wM cI cZ cB cO m_ad m_p m_now m_held m_past m_pasts m_refused m_figures m_isLaid m_many m_isMade m_made m_images m_orbits m_chains m_isCarried m_carried m_carriedMany m_isSorted m_leasts m_heads m_headFrom m_text m_typed (0 : Int32) (-1 : Int32) (0 : Int32) m_pointsThen m_letters m_numbers m_h) := hw
  refine lv_aload_n hx hb dX8_reads_15 rfl (lv_at hl 0 rfl) ?_
  refine lv_aload_n hx hb dX8_reads_16 rfl (lv_at hl 0 rfl) ?_
  refine x_get (ci := 7) C hw inX8 rfl 0 (by decide) lkF_X8_7 rfl 0 rfl rfl dX8_reads_17 ?_
  refine lv_iconst (v := (0 : Int32)) hx hb dX8_reads_20 (by decide) ?_
  refine x_ialk C hw 1 0 rfl rfl (k := 0) (by decide) (vp_in_iff.mpr (by decide)) dX8_reads_21 ?_
  refine x_put (ci := 7) C hw inX8 tyX8 tyX8_ok nmX8 rfl 25 (by decide) lkF_X8_190 rfl rfl 0 rfl rfl rfl (Nat.le_of_ble_eq_true rfl) dX8_reads_22 (fun H locs hw => ?_)
  have hw : xWd (dC, dI) A s.heap H locs (wM cI cZ cB cO m_ad m_p m_now m_held m_past m_pasts m_refused m_figures m_isLaid m_many m_isMade m_made m_images m_orbits m_chains m_isCarried m_carried m_carriedMany m_isSorted m_leasts m_heads m_headFrom m_text m_typed (0 : Int32) (-1 : Int32) (0 : Int32) (m_now 0) m_letters m_numbers m_h) := hw
  refine lv_aload_n hx hb dX8_reads_25 rfl (lv_at hl 0 rfl) ?_
  obtain ⟨⟨m_at_1, r_2⟩, q1, h⟩ := xn_i h
  refine x_callVi (As := []) (rest := []) C hw gc_X8_183 ⟨rfl, rfl, ds_X8_here, (by rw [hR]; exact Nat.le_of_ble_eq_true rfl), (by rw [hR]; exact Nat.le_of_ble_eq_true rfl), Nat.zero_le _, Nat.zero_le _⟩ (c_X8_here l dC dI cI cZ cB cO m_ad m_p m_now m_held m_past m_pasts m_refused m_figures m_isLaid m_many m_isMade m_made m_images m_orbits m_chains m_isCarried m_carried m_carriedMany m_isSorted m_leasts m_heads m_headFrom m_text m_typed (0 : Int32) (-1 : Int32) (0 : Int32) (m_now 0) m_letters m_numbers m_h _ q1 _) [0, 1, 2, 3, 4, 5, 6, 7, 8, 9, 10, 11, 12, 13, 14, 15, 16, 17, 18] [] (by decide) rfl rfl (by decide) (by decide) rfl rfl rfl hl.1 rfl (Nat.le_of_ble_eq_true rfl) dX8_reads_26 (fun H locs hw => ?_)
  have hw : xWd (dC, dI) A s.heap H locs (wM cI cZ cB cO m_ad m_p m_now m_held m_past m_pasts m_refused m_figures m_isLaid m_many m_isMade m_made m_images m_orbits m_chains m_isCarried m_carried m_carriedMany m_isSorted m_leasts m_heads m_headFrom m_text m_typed m_at_1 (-1 : Int32) (0 : Int32) (m_now 0) m_letters m_numbers m_h) := hw
  refine lv_iconst (v := (-1 : Int32)) hx hb dX8_reads_29 (by decide) ?_
  refine lv_icmp_ne (tgt := 41) hx hb dX8_reads_30 (by decide) (fun b2 => ?_) (fun b2 => ?_)
  · replace h := xb_ff b2 h
    obtain ⟨z, hr, h⟩ := xn_i h
    refine xL_w (fun (z : Int32 × Int32 × Int32 × Int32 × (Nat → Int32) × (Nat → Int32)) => ∀ (H : Heap) (locs : List Loc) (ls : Array Slot), xWd (dC, dI) A s.heap H locs (wM cI cZ cB cO m_ad m_p m_now m_held m_past m_pasts m_refused m_figures m_isLaid m_many m_isMade m_made m_images m_orbits m_chains m_isCarried m_carried m_carriedMany m_isSorted m_leasts m_heads m_headFrom m_text m_typed z.1 z.2.1 z.2.2.1 z.2.2.2.1 z.2.2.2.2.1 z.2.2.2.2.2 m_h) → lv_has ls 3 [(0, .ref m_ad)] → W p l e R s m args below meth c H locs 0 0 Q (F0 m 41 ls [])) (fun (z : Int32 × Int32 × Int32 × Int32 × (Nat → Int32) × (Nat → Int32)) => ∀ (H : Heap) (locs : List Loc) (ls : Array Slot), xWd (dC, dI) A s.heap H locs (wM cI cZ cB cO m_ad m_p m_now m_held m_past m_pasts m_refused m_figures m_isLaid m_many m_isMade m_made m_images m_orbits m_chains m_isCarried m_carried m_carriedMany m_isSorted m_leasts m_heads m_headFrom m_text m_typed z.1 z.2.1 z.2.2.1 z.2.2.2.1 z.2.2.2.2.1 z.2.2.2.2.2 m_h) → lv_has ls 3 [(0, .ref m_ad)] → W p l e R s m args below meth c H locs 0 0 Q (F0 m 64 ls [])) ?_ hr ?_ _ _ _ hw (lv_sub hl [0] rfl)
    · rintro ⟨m_at_3, m_fault_4, m_orders_5, m_pointsThen_6, m_letters_7, m_numbers_8⟩ o h k H locs ls hw hl
      have hw : xWd (dC, dI) A s.heap H locs (wM cI cZ cB cO m_ad m_p m_now m_held m_past m_pasts m_refused m_figures m_isLaid m_many m_isMade m_made m_images m_orbits m_chains m_isCarried m_carried m_carriedMany m_isSorted m_leasts m_heads m_headFrom m_text m_typed m_at_3 m_fault_4 m_orders_5 m_pointsThen_6 m_letters_7 m_numbers_8 m_h) := hw
      have hl : lv_has ls 3 [(0, .ref m_ad)] := hl
      refine lv_aload_n hx hb dX8_reads_41 rfl (lv_at hl 0 rfl) ?_
      refine x_get (ci := 7) C hw inX8 rfl 23 (by decide) lkF_X8_180 rfl 0 rfl rfl dX8_reads_42 ?_
      refine lv_iconst (v := (-1 : Int32)) hx hb dX8_reads_45 (by decide) ?_
      refine lv_icmp_ne (tgt := 64) hx hb dX8_reads_46 (by decide) (fun b3 => ?_) (fun b3 => ?_)
      · replace h := xb_ff b3 h
        obtain rfl := Option.some.inj h
        exact k _ _ _ hw (lv_sub hl [0] rfl)
      · replace h := xb_tt b3 h
        refine lv_aload_n hx hb dX8_reads_49 rfl (lv_at hl 0 rfl) ?_
        obtain ⟨⟨m_at_15, r_16⟩, q4, h⟩ := xn_i h
        refine x_callVi (As := []) (rest := []) C hw gc_X8_183 ⟨rfl, rfl, ds_X8_here, (by rw [hR]; exact Nat.le_of_ble_eq_true rfl), (by rw [hR]; exact Nat.le_of_ble_eq_true rfl), Nat.zero_le _, Nat.zero_le _⟩ (c_X8_here l dC dI cI cZ cB cO m_ad m_p m_now m_held m_past m_pasts m_refused m_figures m_isLaid m_many m_isMade m_made m_images m_orbits m_chains m_isCarried m_carried m_carriedMany m_isSorted m_leasts m_heads m_headFrom m_text m_typed m_at_3 m_fault_4 m_orders_5 m_pointsThen_6 m_letters_7 m_numbers_8 m_h _ q4 _) [0, 1, 2, 3, 4, 5, 6, 7, 8, 9, 10, 11, 12, 13, 14, 15, 16, 17, 18] [] (by decide) rfl rfl (by decide) (by decide) rfl rfl rfl hl.1 rfl (Nat.le_of_ble_eq_true rfl) dX8_reads_50 (fun H locs hw => ?_)
        have hw : xWd (dC, dI) A s.heap H locs (wM cI cZ cB cO m_ad m_p m_now m_held m_past m_pasts m_refused m_figures m_isLaid m_many m_isMade m_made m_images m_orbits m_chains m_isCarried m_carried m_carriedMany m_isSorted m_leasts m_heads m_headFrom m_text m_typed m_at_15 m_fault_4 m_orders_5 m_pointsThen_6 m_letters_7 m_numbers_8 m_h) := hw
        refine lv_iconst (v := (-1 : Int32)) hx hb dX8_reads_53 (by decide) ?_
        refine lv_icmp_eq (tgt := 64) hx hb dX8_reads_54 (by decide) (fun b5 => ?_) (fun b5 => ?_)
        · replace h := xb_tt b5 h
          obtain rfl := Option.some.inj h
          exact k _ _ _ hw (lv_sub hl [0] rfl)
        · replace h := xb_ff b5 h
          refine lv_aload_n hx hb dX8_reads_57 rfl (lv_at hl 0 rfl) ?_
          obtain ⟨⟨m_at_17, m_fault_18, m_orders_19, m_pointsThen_20, m_letters_21, m_numbers_22⟩, q6, h⟩ := xn_i h
          refine x_callVv (As := []) (rest := []) C hw gc_X8_202 ⟨rfl, rfl, ds_X8_readOrder, (by rw [hR]; exact Nat.le_of_ble_eq_true rfl), (by rw [hR]; exact Nat.le_of_ble_eq_true rfl), Nat.zero_le _, Nat.zero_le _⟩ (c_X8_readOrder l dC dI cI cZ cB cO m_ad m_p m_now m_held m_past m_pasts m_refused m_figures m_isLaid m_many m_isMade m_made m_images m_orbits m_chains m_isCarried m_carried m_carriedMany m_isSorted m_leasts m_heads m_headFrom m_text m_typed m_at_15 m_fault_4 m_orders_5 m_pointsThen_6 m_letters_7 m_numbers_8 m_h _ q6 _) [0, 1, 2, 3, 4, 5, 6, 7, 8, 9, 10, 11, 12, 13, 14, 15, 16, 17, 18] [] (by decide) rfl rfl (by decide) (by decide) rfl rfl rfl hl.1 rfl (Nat.le_of_ble_eq_true rfl) dX8_reads_58 (fun H locs hw => ?_)
          have hw : xWd (dC, dI) A s.heap H locs (wM cI cZ cB cO m_ad m_p m_now m_held m_past m_pasts m_refused m_figures m_isLaid m_many m_isMade m_made m_images m_orbits m_chains m_isCarried m_carried m_carriedMany m_isSorted m_leasts m_heads m_headFrom m_text m_typed m_at_17 m_fault_18 m_orders_19 m_pointsThen_20 m_letters_21 m_numbers_22 m_h) := hw
          refine lv_goto (tgt := 41) hx hb dX8_reads_61 (by decide) ?_
          obtain rfl := Option.some.inj h
          exact k _ _ _ hw (lv_sub hl [0] rfl)
    · obtain ⟨m_at_9, m_fault_10, m_orders_11, m_pointsThen_12, m_letters_13, m_numbers_14⟩ := z
      intro H locs ls hw hl
      have hw : xWd (dC, dI) A s.heap H locs (wM cI cZ cB cO m_ad m_p m_now m_held m_past m_pasts m_refused m_figures m_isLaid m_many m_isMade m_made m_images m_orbits m_chains m_isCarried m_carried m_carriedMany m_isSorted m_leasts m_heads m_headFrom m_text m_typed m_at_9 m_fault_10 m_orders_11 m_pointsThen_12 m_letters_13 m_numbers_14 m_h) := hw
      have hl : lv_has ls 3 [(0, .ref m_ad)] := hl
      refine lv_aload_n hx hb dX8_reads_64 rfl (lv_at hl 0 rfl) ?_
      refine x_get (ci := 7) C hw inX8 rfl 23 (by decide) lkF_X8_180 rfl 0 rfl rfl dX8_reads_65 ?_
      refine lv_iconst (v := (-1 : Int32)) hx hb dX8_reads_68 (by decide) ?_
      refine lv_icmp_eq (tgt := 80) hx hb dX8_reads_69 (by decide) (fun b7 => ?_) (fun b7 => ?_)
      · replace h := xb_tt b7 h
        refine lv_aload_n hx hb dX8_reads_80 rfl (lv_at hl 0 rfl) ?_
        obtain ⟨m_held_23, q8, h⟩ := xn_i h
        refine x_callVv (As := []) (rest := []) C hw gc_X8_96 ⟨rfl, rfl, ds_X8_hold, (by rw [hR]; exact Nat.le_of_ble_eq_true rfl), (by rw [hR]; exact Nat.le_of_ble_eq_true rfl), Nat.zero_le _, Nat.zero_le _⟩ (c_X8_hold l dC dI cI cZ cB cO m_ad m_p m_now m_held m_past m_pasts m_refused m_figures m_isLaid m_many m_isMade m_made m_images m_orbits m_chains m_isCarried m_carried m_carriedMany m_isSorted m_leasts m_heads m_headFrom m_text m_typed m_at_9 m_fault_10 m_orders_11 m_pointsThen_12 m_letters_13 m_numbers_14 m_h _ q8 _) [0, 1, 2, 3, 4, 5, 6, 7, 8, 9, 10, 11, 12, 13, 14, 15, 16, 17, 18] [] (by decide) rfl rfl (by decide) (by decide) rfl rfl rfl hl.1 rfl (Nat.le_of_ble_eq_true rfl) dX8_reads_81 (fun H locs hw => ?_)
        have hw : xWd (dC, dI) A s.heap H locs (wM cI cZ cB cO m_ad m_p m_now m_held_23 m_past m_pasts m_refused m_figures m_isLaid m_many m_isMade m_made m_images m_orbits m_chains m_isCarried m_carried m_carriedMany m_isSorted m_leasts m_heads m_headFrom m_text m_typed m_at_9 m_fault_10 m_orders_11 m_pointsThen_12 m_letters_13 m_numbers_14 m_h) := hw
        refine lv_iconst (v := (0 : Int32)) hx hb dX8_reads_84 (by decide) ?_
        refine lv_istore_n (lv' := [(1, .int (0 : Int32)), (0, .ref m_ad)]) hx hb dX8_reads_85 rfl hl (by decide) rfl (fun ls hl => ?_)
        obtain ⟨z, hr, h⟩ := xn_i h
        refine xL_w (fun (z : (Nat → Int32) × (Nat → Int32) × Int32 × Int32 × Int32) => ∀ (H : Heap) (locs : List Loc) (ls : Array Slot), xWd (dC, dI) A s.heap H locs (wM cI cZ cB cO m_ad m_p z.1 m_held_23 m_past m_pasts m_refused z.2.1 z.2.2.1 m_many m_isMade m_made m_images m_orbits m_chains m_isCarried m_carried m_carriedMany z.2.2.2.1 m_leasts m_heads m_headFrom m_text m_typed m_at_9 m_fault_10 m_orders_11 m_pointsThen_12 m_letters_13 m_numbers_14 m_h) → lv_has ls 3 [(0, .ref m_ad), (1, .int z.2.2.2.2)] → W p l e R s m args below meth c H locs 0 0 Q (F0 m 86 ls [])) (Sum.elim (fun (z : (Nat → Int32) × (Nat → Int32) × Int32 × Int32) => ∀ (H : Heap) (locs : List Loc) (ls : Array Slot), xWd (dC, dI) A s.heap H locs (wM cI cZ cB cO m_ad m_p z.1 m_held_23 m_past m_pasts m_refused z.2.1 z.2.2.1 m_many m_isMade m_made m_images m_orbits m_chains m_isCarried m_carried m_carriedMany z.2.2.2 m_leasts m_heads m_headFrom m_text m_typed m_at_9 m_fault_10 m_orders_11 m_pointsThen_12 m_letters_13 m_numbers_14 m_h) → lv_has ls 3 [(0, .ref m_ad)] → W p l e R s m args below meth c H locs 0 0 Q (F0 m 149 ls [])) (fun (z : (Nat → Int32) × (Nat → Int32) × (Nat → Int32) × Int32 × (Nat → Int32) × Int32 × Int32 × Int32 × Int32 × Int32 × Int32 × (Nat → Int32) × (Nat → Int32) × Int32) => ∀ (H : Heap) (locs : List Loc), xWd (dC, dI) A s.heap H locs (wM cI cZ cB cO m_ad m_p z.1 z.2.1 z.2.2.1 z.2.2.2.1 m_refused z.2.2.2.2.1 z.2.2.2.2.2.1 m_many m_isMade m_made m_images m_orbits m_chains m_isCarried m_carried m_carriedMany z.2.2.2.2.2.2.1 m_leasts m_heads m_headFrom m_text m_typed z.2.2.2.2.2.2.2.1 z.2.2.2.2.2.2.2.2.1 z.2.2.2.2.2.2.2.2.2.1 z.2.2.2.2.2.2.2.2.2.2.1 z.2.2.2.2.2.2.2.2.2.2.2.1 z.2.2.2.2.2.2.2.2.2.2.2.2.1 m_h) → ∀ (pc : Nat) (ls : Array Slot), decode cX8_reads pc = .ok (.ireturn, 1) → W p l e R s m args below meth c H locs 0 0 Q (F0 m pc ls [.int z.2.2.2.2.2.2.2.2.2.2.2.2.2]))) ?_ hr ?_ _ _ _ hw (lv_sub hl [1, 0] rfl)
        · rintro ⟨m_now_24, m_figures_25, m_isLaid_26, m_isSorted_27, v1_28⟩ o h k H locs ls hw hl
          have hw : xWd (dC, dI) A s.heap H locs (wM cI cZ cB cO m_ad m_p m_now_24 m_held_23 m_past m_pasts m_refused m_figures_25 m_isLaid_26 m_many m_isMade m_made m_images m_orbits m_chains m_isCarried m_carried m_carriedMany m_isSorted_27 m_leasts m_heads m_headFrom m_text m_typed m_at_9 m_fault_10 m_orders_11 m_pointsThen_12 m_letters_13 m_numbers_14 m_h) := hw
          have hl : lv_has ls 3 [(0, .ref m_ad), (1, .int v1_28)] := hl
          refine lv_iload_n hx hb dX8_reads_86 rfl (lv_at hl 1 rfl) ?_
          refine lv_aload_n hx hb dX8_reads_87 rfl (lv_at hl 0 rfl) ?_
          refine x_get (ci := 7) C hw inX8 rfl 24 (by decide) lkF_X8_193 rfl 0 rfl rfl dX8_reads_88 ?_
          refine lv_icmp_ge (tgt := 149) hx hb dX8_reads_91 (by decide) (fun b9 => ?_) (fun b9 => ?_)
          · replace h := xb_tt b9 h
            obtain rfl := Option.some.inj h
            exact k _ _ _ hw (lv_sub hl [0] rfl)
          · replace h := xb_ff b9 h
            refine lv_aload_n hx hb dX8_reads_94 rfl (lv_at hl 0 rfl) ?_
            refine lv_iload_n hx hb dX8_reads_95 rfl (lv_at hl 1 rfl) ?_
            obtain ⟨⟨m_now_33, m_figures_34, m_isLaid_35, m_isSorted_36, r_37⟩, q10, h⟩ := xn_i h
            refine x_callVi (As := [.int v1_28]) (rest := []) C hw gc_X8_205 ⟨rfl, rfl, ds_X8_doOrder, (by rw [hR]; exact Nat.le_of_ble_eq_true rfl), (by rw [hR]; exact Nat.le_of_ble_eq_true rfl), Nat.zero_le _, Nat.zero_le _⟩ (c_X8_doOrder l dC dI cI cZ cB cO m_ad m_p m_now_24 m_held_23 m_past m_pasts m_refused m_figures_25 m_isLaid_26 m_many m_isMade m_made m_images m_orbits m_chains m_isCarried m_carried m_carriedMany m_isSorted_27 m_leasts m_heads m_headFrom m_text m_typed m_at_9 m_fault_10 m_orders_11 m_pointsThen_12 m_letters_13 m_numbers_14 m_h v1_28 _ q10 _) [0, 1, 2, 3, 4, 5, 6, 7, 8, 9, 10, 11, 12, 13, 14, 15, 16, 17, 18] [] (by decide) rfl rfl (by decide) (by decide) rfl rfl rfl hl.1 rfl (Nat.le_of_ble_eq_true rfl) dX8_reads_96 (fun H locs hw => ?_)
            have hw : xWd (dC, dI) A s.heap H locs (wM cI cZ cB cO m_ad m_p m_now_33 m_held_23 m_past m_pasts m_refused m_figures_34 m_isLaid_35 m_many m_isMade m_made m_images m_orbits m_chains m_isCarried m_carried m_carriedMany m_isSorted_36 m_leasts m_heads m_headFrom m_text m_typed m_at_9 m_fault_10 m_orders_11 m_pointsThen_12 m_letters_13 m_numbers_14 m_h) := hw
            refine lv_if_ge (tgt := 143) hx hb dX8_reads_99 (by decide) (fun b11 => ?_) (fun b11 => ?_)
            · replace h := xb_tt b11 h
              refine lv_iinc (v := (v1_28 + (1 : Int32))) (lv' := [(1, .int (v1_28 + (1 : Int32))), (0, .ref m_ad)]) hx hb dX8_reads_143 hl (k := 1) rfl (congrArg (fun q => v1_28 + q) (by decide)) (by decide) rfl (fun ls hl => ?_)
              refine lv_goto (tgt := 86) hx hb dX8_reads_146 (by decide) ?_
              obtain rfl := Option.some.inj h
              exact k _ _ _ hw (lv_sub hl [1, 0] rfl)
            · replace h := xb_ff b11 h
              refine lv_iconst (v := (0 : Int32)) hx hb dX8_reads_102 (by decide) ?_
              refine lv_istore_n (lv' := [(2, .int (0 : Int32)), (0, .ref m_ad), (1, .int v1_28)]) hx hb dX8_reads_103 rfl hl (by decide) rfl (fun ls hl => ?_)
              obtain ⟨z, hr, h⟩ := xn_i h
              refine xL_w (fun (z : (Nat → Int32) × Int32) => ∀ (H : Heap) (locs : List Loc) (ls : Array Slot), xWd (dC, dI) A s.heap H locs (wM cI cZ cB cO m_ad m_p z.1 m_held_23 m_past m_pasts m_refused m_figures_34 m_isLaid_35 m_many m_isMade m_made m_images m_orbits m_chains m_isCarried m_carried m_carriedMany m_isSorted_36 m_leasts m_heads m_headFrom m_text m_typed m_at_9 m_fault_10 m_orders_11 m_pointsThen_12 m_letters_13 m_numbers_14 m_h) → lv_has ls 3 [(0, .ref m_ad), (1, .int v1_28), (2, .int z.2)] → W p l e R s m args below meth c H locs 0 0 Q (F0 m 104 ls [])) (fun (z : (Nat → Int32)) => ∀ (H : Heap) (locs : List Loc) (ls : Array Slot), xWd (dC, dI) A s.heap H locs (wM cI cZ cB cO m_ad m_p z m_held_23 m_past m_pasts m_refused m_figures_34 m_isLaid_35 m_many m_isMade m_made m_images m_orbits m_chains m_isCarried m_carried m_carriedMany m_isSorted_36 m_leasts m_heads m_headFrom m_text m_typed m_at_9 m_fault_10 m_orders_11 m_pointsThen_12 m_letters_13 m_numbers_14 m_h) → lv_has ls 3 [(0, .ref m_ad), (1, .int v1_28)] → W p l e R s m args below meth c H locs 0 0 Q (F0 m 127 ls [])) ?_ hr ?_ _ _ _ hw (lv_sub hl [1, 2, 0] rfl)
              · rintro ⟨m_now_38, v2_39⟩ o h k H locs ls hw hl
                have hw : xWd (dC, dI) A s.heap H locs (wM cI cZ cB cO m_ad m_p m_now_38 m_held_23 m_past m_pasts m_refused m_figures_34 m_isLaid_35 m_many m_isMade m_made m_images m_orbits m_chains m_isCarried m_carried m_carriedMany m_isSorted_36 m_leasts m_heads m_headFrom m_text m_typed m_at_9 m_fault_10 m_orders_11 m_pointsThen_12 m_letters_13 m_numbers_14 m_h) := hw
                have hl : lv_has ls 3 [(0, .ref m_ad), (1, .int v1_28), (2, .int v2_39)] := hl
                refine lv_iload_n hx hb dX8_reads_104 rfl (lv_at hl 2 rfl) ?_
                refine lv_iconst (v := (5 : Int32)) hx hb dX8_reads_105 (by decide) ?_
                refine lv_icmp_ge (tgt := 127) hx hb dX8_reads_106 (by decide) (fun b12 => ?_) (fun b12 => ?_)
                · replace h := xb_tt b12 h
                  obtain rfl := Option.some.inj h
                  exact k _ _ _ hw (lv_sub hl [0, 1] rfl)
                · replace h := xb_ff b12 h
                  refine lv_aload_n hx hb dX8_reads_109 rfl (lv_at hl 0 rfl) ?_
                  refine x_get (ci := 7) C hw inX8 rfl 0 (by decide) lkF_X8_7 rfl 0 rfl rfl dX8_reads_110 ?_
                  refine lv_iload_n hx hb dX8_reads_113 rfl (lv_at hl 2 rfl) ?_
                  refine lv_aload_n hx hb dX8_reads_114 rfl (lv_at hl 0 rfl) ?_
                  refine x_get (ci := 7) C hw inX8 rfl 1 (by decide) lkF_X8_13 rfl 0 rfl rfl dX8_reads_115 ?_
                  refine lv_iload_n hx hb dX8_reads_118 rfl (lv_at hl 2 rfl) ?_
                  obtain ⟨b13, h⟩ := xk_i h
                  refine x_iald C hw 2 0 rfl rfl b13 dX8_reads_119 ?_
                  refine x_iast C hw 1 0 rfl rfl b13 dX8_reads_120 (fun H locs hw => ?_)
                  have hw : xWd (dC, dI) A s.heap H locs (wM cI cZ cB cO m_ad m_p (upd m_now_38 v2_39.toNatClampNeg (m_held_23 v2_39.toNatClampNeg)) m_held_23 m_past m_pasts m_refused m_figures_34 m_isLaid_35 m_many m_isMade m_made m_images m_orbits m_chains m_isCarried m_carried m_carriedMany m_isSorted_36 m_leasts m_heads m_headFrom m_text m_typed m_at_9 m_fault_10 m_orders_11 m_pointsThen_12 m_letters_13 m_numbers_14 m_h) := hw
                  refine lv_iinc (v := (v2_39 + (1 : Int32))) (lv' := [(2, .int (v2_39 + (1 : Int32))), (0, .ref m_ad), (1, .int v1_28)]) hx hb dX8_reads_121 hl (k := 2) rfl (congrArg (fun q => v2_39 + q) (by decide)) (by decide) rfl (fun ls hl => ?_)
                  refine lv_goto (tgt := 104) hx hb dX8_reads_124 (by decide) ?_
                  obtain rfl := Option.some.inj h
                  exact k _ _ _ hw (lv_sub hl [1, 2, 0] rfl)
              · obtain ⟨m_now_40, hz⟩ : ∃ q, q = z := ⟨z, rfl⟩
                subst hz
                intro H locs ls hw hl
                have hw : xWd (dC, dI) A s.heap H locs (wM cI cZ cB cO m_ad m_p m_now_40 m_held_23 m_past m_pasts m_refused m_figures_34 m_isLaid_35 m_many m_isMade m_made m_images m_orbits m_chains m_isCarried m_carried m_carriedMany m_isSorted_36 m_leasts m_heads m_headFrom m_text m_typed m_at_9 m_fault_10 m_orders_11 m_pointsThen_12 m_letters_13 m_numbers_14 m_h) := hw
                have hl : lv_has ls 3 [(0, .ref m_ad), (1, .int v1_28)] := hl
                refine lv_aload_n hx hb dX8_reads_127 rfl (lv_at hl 0 rfl) ?_
                refine lv_iconst (v := (0 : Int32)) hx hb dX8_reads_128 (by decide) ?_
                refine x_put (ci := 7) C hw inX8 tyX8 tyX8_ok nmX8 rfl 6 (by decide) lkF_X8_77 rfl rfl 0 rfl rfl rfl (Nat.le_of_ble_eq_true rfl) dX8_reads_129 (fun H locs hw => ?_)
                have hw : xWd (dC, dI) A s.heap H locs (wM cI cZ cB cO m_ad m_p m_now_40 m_held_23 m_past m_pasts m_refused m_figures_34 (0 : Int32) m_many m_isMade m_made m_images m_orbits m_chains m_isCarried m_carried m_carriedMany m_isSorted_36 m_leasts m_heads m_headFrom m_text m_typed m_at_9 m_fault_10 m_orders_11 m_pointsThen_12 m_letters_13 m_numbers_14 m_h) := hw
                refine lv_aload_n hx hb dX8_reads_132 rfl (lv_at hl 0 rfl) ?_
                refine lv_iconst (v := (0 : Int32)) hx hb dX8_reads_133 (by decide) ?_
                refine x_put (ci := 7) C hw inX8 tyX8 tyX8_ok nmX8 rfl 16 (by decide) lkF_X8_81 rfl rfl 0 rfl rfl rfl (Nat.le_of_ble_eq_true rfl) dX8_reads_134 (fun H locs hw => ?_)
                have hw : xWd (dC, dI) A s.heap H locs (wM cI cZ cB cO m_ad m_p m_now_40 m_held_23 m_past m_pasts m_refused m_figures_34 (0 : Int32) m_many m_isMade m_made m_images m_orbits m_chains m_isCarried m_carried m_carriedMany (0 : Int32) m_leasts m_heads m_headFrom m_text m_typed m_at_9 m_fault_10 m_orders_11 m_pointsThen_12 m_letters_13 m_numbers_14 m_h) := hw
                refine lv_sipush (v := (-1000 : Int32)) hx hb dX8_reads_137 (by decide) ?_
                refine lv_iload_n hx hb dX8_reads_140 rfl (lv_at hl 1 rfl) ?_
                refine lv_isub hx hb dX8_reads_141 ?_
                obtain rfl := Option.some.inj h
                exact k _ _ hw _ _ dX8_reads_142
        · rcases z with z | z
          · obtain ⟨m_now_29, m_figures_30, m_isLaid_31, m_isSorted_32⟩ := z
            intro H locs ls hw hl
            have hw : xWd (dC, dI) A s.heap H locs (wM cI cZ cB cO m_ad m_p m_now_29 m_held_23 m_past m_pasts m_refused m_figures_30 m_isLaid_31 m_many m_isMade m_made m_images m_orbits m_chains m_isCarried m_carried m_carriedMany m_isSorted_32 m_leasts m_heads m_headFrom m_text m_typed m_at_9 m_fault_10 m_orders_11 m_pointsThen_12 m_letters_13 m_numbers_14 m_h) := hw
            have hl : lv_has ls 3 [(0, .ref m_ad)] := hl
            refine lv_aload_n hx hb dX8_reads_149 rfl (lv_at hl 0 rfl) ?_
            obtain ⟨⟨m_past_41, m_pasts_42⟩, q14, h⟩ := xn_i h
            refine x_callVv (As := []) (rest := []) C hw gc_X8_74 ⟨rfl, rfl, ds_X8_push, (by rw [hR]; exact Nat.le_of_ble_eq_true rfl), (by rw [hR]; exact Nat.le_of_ble_eq_true rfl), Nat.zero_le _, Nat.zero_le _⟩ (c_X8_push l dC dI cI cZ cB cO m_ad m_p m_now_29 m_held_23 m_past m_pasts m_refused m_figures_30 m_isLaid_31 m_many m_isMade m_made m_images m_orbits m_chains m_isCarried m_carried m_carriedMany m_isSorted_32 m_leasts m_heads m_headFrom m_text m_typed m_at_9 m_fault_10 m_orders_11 m_pointsThen_12 m_letters_13 m_numbers_14 m_h _ q14 _) [0, 1, 2, 3, 4, 5, 6, 7, 8, 9, 10, 11, 12, 13, 14, 15, 16, 17, 18] [] (by decide) rfl rfl (by decide) (by decide) rfl rfl rfl hl.1 rfl (Nat.le_of_ble_eq_true rfl) dX8_reads_150 (fun H locs hw => ?_)
            have hw : xWd (dC, dI) A s.heap H locs (wM cI cZ cB cO m_ad m_p m_now_29 m_held_23 m_past_41 m_pasts_42 m_refused m_figures_30 m_isLaid_31 m_many m_isMade m_made m_images m_orbits m_chains m_isCarried m_carried m_carriedMany m_isSorted_32 m_leasts m_heads m_headFrom m_text m_typed m_at_9 m_fault_10 m_orders_11 m_pointsThen_12 m_letters_13 m_numbers_14 m_h) := hw
            refine lv_aload_n hx hb dX8_reads_153 rfl (lv_at hl 0 rfl) ?_
            refine x_get (ci := 7) C hw inX8 rfl 24 (by decide) lkF_X8_193 rfl 0 rfl rfl dX8_reads_154 ?_
            obtain rfl := Option.some.inj h
            exact x_reti C hQ hA hw dX8_reads_157
          · obtain rfl := Option.some.inj h
            intro H locs hw pc ls hd
            exact x_reti C hQ hA hw hd
      · replace h := xb_ff b7 h
        refine lv_bipush (v := (-10 : Int32)) hx hb dX8_reads_72 (by decide) ?_
        refine lv_aload_n hx hb dX8_reads_74 rfl (lv_at hl 0 rfl) ?_
        refine x_get (ci := 7) C hw inX8 rfl 23 (by decide) lkF_X8_180 rfl 0 rfl rfl dX8_reads_75 ?_
        refine lv_isub hx hb dX8_reads_78 ?_
        obtain rfl := Option.some.inj h
        exact x_reti C hQ hA hw dX8_reads_79
  · replace h := xb_tt b2 h
    refine lv_bipush (v := (-10 : Int32)) hx hb dX8_reads_33 (by decide) ?_
    refine lv_aload_n hx hb dX8_reads_35 rfl (lv_at hl 0 rfl) ?_
    refine x_get (ci := 7) C hw inX8 rfl 21 (by decide) lkF_X8_174 rfl 0 rfl rfl dX8_reads_36 ?_
    refine lv_isub hx hb dX8_reads_39 ?_
    obtain rfl := Option.some.inj h
    exact x_reti C hQ hA hw dX8_reads_40
noncomputable def f_X8_toldOf (m_now : (Nat → Int32)) (m_pasts : Int32) (m_refused : (Nat → Int32)) (m_typed : Int32) (v1 : Int32) : Option (Int32) := xb ((3 : Int32) ≤ v1) (xb (v1 = (3 : Int32)) (some m_typed) (xb ((6 : Int32) ≤ v1) (some m_pasts) (xk (vp_in (v1 - (4 : Int32)) 5) (some (m_now (v1 - (4 : Int32)).toNatClampNeg))))) (xk (vp_in v1 3) (some (m_refused v1.toNatClampNeg)))
set_option maxHeartbeats 4000000 in
set_option maxRecDepth 100000 in
theorem c_X8_toldOf (l : Launch) (dC : Nat → ClassId) (dI : Nat → Nat → Nat) (cI cZ cB cO : ClassId) (m_ad : Nat) (m_p : Nat → Nat) (m_now : (Nat → Int32)) (m_held : (Nat → Int32)) (m_past : (Nat → Int32)) (m_pasts : Int32) (m_refused : (Nat → Int32)) (m_figures : (Nat → Int32)) (m_isLaid : Int32) (m_many : Int32) (m_isMade : (Nat → Int32)) (m_made : (Nat → Int32)) (m_images : (Nat → Int32)) (m_orbits : (Nat → Int32)) (m_chains : (Nat → Int32)) (m_isCarried : (Nat → Int32)) (m_carried : (Nat → Int32)) (m_carriedMany : Int32) (m_isSorted : Int32) (m_leasts : (Nat → Int32)) (m_heads : (Nat → Int32)) (m_headFrom : (Nat → Int32)) (m_text : (Nat → Int32)) (m_typed : Int32) (m_at : Int32) (m_fault : Int32) (m_orders : Int32) (m_pointsThen : Int32) (m_letters : (Nat → Int32)) (m_numbers : (Nat → Int32)) (m_h : Int64) (v1 : Int32) (o : Int32) (h : f_X8_toldOf m_now m_pasts m_refused m_typed v1 = some o) (sz : Nat) : Met l yX8_toldOf (xW yX8_toldOf cX8_toldOf 2 (some .int)) { frames := 0, cells := 0, slots := 0, locals := 0 } (xPre dC dI (xT cI cZ cB cO) [.ref m_ad, .int v1] (wM cI cZ cB cO m_ad m_p m_now m_held m_past m_pasts m_refused m_figures m_isLaid m_many m_isMade m_made m_images m_orbits m_chains m_isCarried m_carried m_carriedMany m_isSorted m_leasts m_heads m_headFrom m_text m_typed m_at m_fault m_orders m_pointsThen m_letters m_numbers m_h) sz) (xQi dC dI (xT cI cZ cB cO) o (wM cI cZ cB cO m_ad m_p m_now m_held m_past m_pasts m_refused m_figures m_isLaid m_many m_isMade m_made m_images m_orbits m_chains m_isCarried m_carried m_carriedMany m_isSorted m_leasts m_heads m_headFrom m_text m_typed m_at m_fault m_orders m_pointsThen m_letters m_numbers m_h) (wM cI cZ cB cO m_ad m_p m_now m_held m_past m_pasts m_refused m_figures m_isLaid m_many m_isMade m_made m_images m_orbits m_chains m_isCarried m_carried m_carriedMany m_isSorted m_leasts m_heads m_headFrom m_text m_typed m_at m_fault m_orders m_pointsThen m_letters m_numbers m_h) sz) 0 0 (va_A (wM cI cZ cB cO m_ad m_p m_now m_held m_past m_pasts m_refused m_figures m_isLaid m_many m_isMade m_made m_images m_orbits m_chains m_isCarried m_carried m_carriedMany m_isSorted m_leasts m_heads m_headFrom m_text m_typed m_at m_fault m_orders m_pointsThen m_letters m_numbers m_h) sz) := by
  refine x_met (by decide) (Nat.le_of_ble_eq_true rfl) ?_
  intro p e s m args below meth c R Q A hR hsz hA hQ hin C hw ls hl
  have hx := C.1
  have hb := C.2.1
  have hown := C.2.2.2.1
  have htb := C.2.2.2.2.1
  have hl : lv_has ls 2 [(0, .ref m_ad), (1, .int v1)] := hl
  refine lv_iload_n hx hb dX8_toldOf_0 rfl (lv_at hl 1 rfl) ?_
  refine lv_iconst (v := (3 : Int32)) hx hb dX8_toldOf_1 (by decide) ?_
  refine lv_icmp_ge (tgt := 14) hx hb dX8_toldOf_2 (by decide) (fun b1 => ?_) (fun b1 => ?_)
  · replace h := xb_tt b1 h
    refine lv_iload_n hx hb dX8_toldOf_14 rfl (lv_at hl 1 rfl) ?_
    refine lv_iconst (v := (3 : Int32)) hx hb dX8_toldOf_15 (by decide) ?_
    refine lv_icmp_ne (tgt := 26) hx hb dX8_toldOf_16 (by decide) (fun b2 => ?_) (fun b2 => ?_)
    · replace h := xb_ff b2 h
      refine lv_iload_n hx hb dX8_toldOf_26 rfl (lv_at hl 1 rfl) ?_
      refine lv_bipush (v := (6 : Int32)) hx hb dX8_toldOf_27 (by decide) ?_
      refine lv_icmp_ge (tgt := 43) hx hb dX8_toldOf_29 (by decide) (fun b3 => ?_) (fun b3 => ?_)
      · replace h := xb_tt b3 h
        refine lv_aload_n hx hb dX8_toldOf_43 rfl (lv_at hl 0 rfl) ?_
        refine x_get (ci := 7) C hw inX8 rfl 3 (by decide) lkF_X8_66 rfl 0 rfl rfl dX8_toldOf_44 ?_
        obtain rfl := Option.some.inj h
        exact x_reti C hQ hA hw dX8_toldOf_47
      · replace h := xb_ff b3 h
        refine lv_aload_n hx hb dX8_toldOf_32 rfl (lv_at hl 0 rfl) ?_
        refine x_get (ci := 7) C hw inX8 rfl 0 (by decide) lkF_X8_7 rfl 0 rfl rfl dX8_toldOf_33 ?_
        refine lv_iload_n hx hb dX8_toldOf_36 rfl (lv_at hl 1 rfl) ?_
        refine lv_iconst (v := (4 : Int32)) hx hb dX8_toldOf_37 (by decide) ?_
        refine lv_isub hx hb dX8_toldOf_38 ?_
        obtain ⟨b4, h⟩ := xk_i h
        refine x_iald C hw 1 0 rfl rfl b4 dX8_toldOf_39 ?_
        refine lv_goto (tgt := 47) hx hb dX8_toldOf_40 (by decide) ?_
        obtain rfl := Option.some.inj h
        exact x_reti C hQ hA hw dX8_toldOf_47
    · replace h := xb_tt b2 h
      refine lv_aload_n hx hb dX8_toldOf_19 rfl (lv_at hl 0 rfl) ?_
      refine x_get (ci := 7) C hw inX8 rfl 21 (by decide) lkF_X8_174 rfl 0 rfl rfl dX8_toldOf_20 ?_
      refine lv_goto (tgt := 47) hx hb dX8_toldOf_23 (by decide) ?_
      obtain rfl := Option.some.inj h
      exact x_reti C hQ hA hw dX8_toldOf_47
  · replace h := xb_ff b1 h
    refine lv_aload_n hx hb dX8_toldOf_5 rfl (lv_at hl 0 rfl) ?_
    refine x_get (ci := 7) C hw inX8 rfl 4 (by decide) lkF_X8_19 rfl 0 rfl rfl dX8_toldOf_6 ?_
    refine lv_iload_n hx hb dX8_toldOf_9 rfl (lv_at hl 1 rfl) ?_
    obtain ⟨b5, h⟩ := xk_i h
    refine x_iald C hw 4 0 rfl rfl b5 dX8_toldOf_10 ?_
    refine lv_goto (tgt := 47) hx hb dX8_toldOf_11 (by decide) ?_
    obtain rfl := Option.some.inj h
    exact x_reti C hQ hA hw dX8_toldOf_47
noncomputable def f_X8_told (m_now : (Nat → Int32)) (m_pasts : Int32) (m_refused : (Nat → Int32)) (m_typed : Int32) (v1 : Int32) : Option ((Nat → Int32) × Int32) := xn (f_X8_in v1 (0 : Int32) (6 : Int32)) (fun (r_1 : Int32) => xb (r_1 = 0) (xn (f_X8_refuses m_refused (-2 : Int32)) (fun (z : (Nat → Int32) × Int32) => match z with | (m_refused_2, r_3) => some (m_refused_2, r_3))) (xn (f_X8_toldOf m_now m_pasts m_refused m_typed v1) (fun (r_4 : Int32) => some (m_refused, r_4))))
set_option maxHeartbeats 4000000 in
set_option maxRecDepth 100000 in
theorem c_X8_told (l : Launch) (dC : Nat → ClassId) (dI : Nat → Nat → Nat) (cI cZ cB cO : ClassId) (m_ad : Nat) (m_p : Nat → Nat) (m_now : (Nat → Int32)) (m_held : (Nat → Int32)) (m_past : (Nat → Int32)) (m_pasts : Int32) (m_refused : (Nat → Int32)) (m_figures : (Nat → Int32)) (m_isLaid : Int32) (m_many : Int32) (m_isMade : (Nat → Int32)) (m_made : (Nat → Int32)) (m_images : (Nat → Int32)) (m_orbits : (Nat → Int32)) (m_chains : (Nat → Int32)) (m_isCarried : (Nat → Int32)) (m_carried : (Nat → Int32)) (m_carriedMany : Int32) (m_isSorted : Int32) (m_leasts : (Nat → Int32)) (m_heads : (Nat → Int32)) (m_headFrom : (Nat → Int32)) (m_text : (Nat → Int32)) (m_typed : Int32) (m_at : Int32) (m_fault : Int32) (m_orders : Int32) (m_pointsThen : Int32) (m_letters : (Nat → Int32)) (m_numbers : (Nat → Int32)) (m_h : Int64) (v1 : Int32) (o : (Nat → Int32) × Int32) (h : f_X8_told m_now m_pasts m_refused m_typed v1 = some o) (sz : Nat) : Met l yX8_told (xW yX8_told cX8_told 2 (some .int)) { frames := 1, cells := 0, slots := 0, locals := 22 } (xPre dC dI (xT cI cZ cB cO) [.ref m_ad, .int v1] (wM cI cZ cB cO m_ad m_p m_now m_held m_past m_pasts m_refused m_figures m_isLaid m_many m_isMade m_made m_images m_orbits m_chains m_isCarried m_carried m_carriedMany m_isSorted m_leasts m_heads m_headFrom m_text m_typed m_at m_fault m_orders m_pointsThen m_letters m_numbers m_h) sz) (xQi dC dI (xT cI cZ cB cO) o.2 (wM cI cZ cB cO m_ad m_p m_now m_held m_past m_pasts m_refused m_figures m_isLaid m_many m_isMade m_made m_images m_orbits m_chains m_isCarried m_carried m_carriedMany m_isSorted m_leasts m_heads m_headFrom m_text m_typed m_at m_fault m_orders m_pointsThen m_letters m_numbers m_h) (wM cI cZ cB cO m_ad m_p m_now m_held m_past m_pasts o.1 m_figures m_isLaid m_many m_isMade m_made m_images m_orbits m_chains m_isCarried m_carried m_carriedMany m_isSorted m_leasts m_heads m_headFrom m_text m_typed m_at m_fault m_orders m_pointsThen m_letters m_numbers m_h) sz) 0 0 (va_A (wM cI cZ cB cO m_ad m_p m_now m_held m_past m_pasts m_refused m_figures m_isLaid m_many m_isMade m_made m_images m_orbits m_chains m_isCarried m_carried m_carriedMany m_isSorted m_leasts m_heads m_headFrom m_text m_typed m_at m_fault m_orders m_pointsThen m_letters m_numbers m_h) sz) := by
  refine x_met (by decide) (Nat.le_of_ble_eq_true rfl) ?_
  intro p e s m args below meth c R Q A hR hsz hA hQ hin C hw ls hl
  have hx := C.1
  have hb := C.2.1
  have hown := C.2.2.2.1
  have htb := C.2.2.2.2.1
  have hl : lv_has ls 2 [(0, .ref m_ad), (1, .int v1)] := hl
  refine lv_iload_n hx hb dX8_told_0 rfl (lv_at hl 1 rfl) ?_
  refine lv_iconst (v := (0 : Int32)) hx hb dX8_told_1 (by decide) ?_
  refine lv_bipush (v := (6 : Int32)) hx hb dX8_told_2 (by decide) ?_
  obtain ⟨r_1, q1, h⟩ := xn_i h
  refine x_callSi (As := [.int v1, .int (0 : Int32), .int (6 : Int32)]) (rest := []) C hw gc_X8_84 ds_X8_in (by rw [hR]; exact Nat.le_of_ble_eq_true rfl) (by rw [hR]; exact Nat.le_of_ble_eq_true rfl) rfl rfl (Nat.zero_le _) (Nat.zero_le _) (c_X8_in l dC dI cI cZ cB cO v1 (0 : Int32) (6 : Int32) _ q1 _) [] [0, 1, 2, 3, 4, 5, 6, 7, 8, 9, 10, 11, 12, 13, 14, 15, 16, 17, 18] (by decide) rfl rfl (by decide) (by decide) rfl hl.1 rfl (Nat.le_of_ble_eq_true rfl) dX8_told_4 (fun H locs hw => ?_)
  have hw : xWd (dC, dI) A s.heap H locs (wM cI cZ cB cO m_ad m_p m_now m_held m_past m_pasts m_refused m_figures m_isLaid m_many m_isMade m_made m_images m_orbits m_chains m_isCarried m_carried m_carriedMany m_isSorted m_leasts m_heads m_headFrom m_text m_typed m_at m_fault m_orders m_pointsThen m_letters m_numbers m_h) := hw.sub [0, 1, 2, 3, 4, 5, 6, 7, 8, 9, 10, 11, 12, 13, 14, 15, 16, 17, 18] (by decide) rfl
  refine lv_if_eq (tgt := 18) hx hb dX8_told_7 (by decide) (fun b2 => ?_) (fun b2 => ?_)
  · replace h := xb_tt b2 h
    refine lv_aload_n hx hb dX8_told_18 rfl (lv_at hl 0 rfl) ?_
    refine lv_bipush (v := (-2 : Int32)) hx hb dX8_told_19 (by decide) ?_
    obtain ⟨⟨m_refused_2, r_3⟩, q3, h⟩ := xn_i h
    refine x_callVi (As := [.int (-2 : Int32)]) (rest := []) C hw gc_X8_70 ⟨rfl, rfl, ds_X8_refuses, (by rw [hR]; exact Nat.le_of_ble_eq_true rfl), (by rw [hR]; exact Nat.le_of_ble_eq_true rfl), Nat.zero_le _, Nat.zero_le _⟩ (c_X8_refuses l dC dI cI cZ cB cO m_ad m_p m_now m_held m_past m_pasts m_refused m_figures m_isLaid m_many m_isMade m_made m_images m_orbits m_chains m_isCarried m_carried m_carriedMany m_isSorted m_leasts m_heads m_headFrom m_text m_typed m_at m_fault m_orders m_pointsThen m_letters m_numbers m_h (-2 : Int32) _ q3 _) [0, 1, 2, 3, 4, 5, 6, 7, 8, 9, 10, 11, 12, 13, 14, 15, 16, 17, 18] [] (by decide) rfl rfl (by decide) (by decide) rfl rfl rfl hl.1 rfl (Nat.le_of_ble_eq_true rfl) dX8_told_21 (fun H locs hw => ?_)
    have hw : xWd (dC, dI) A s.heap H locs (wM cI cZ cB cO m_ad m_p m_now m_held m_past m_pasts m_refused_2 m_figures m_isLaid m_many m_isMade m_made m_images m_orbits m_chains m_isCarried m_carried m_carriedMany m_isSorted m_leasts m_heads m_headFrom m_text m_typed m_at m_fault m_orders m_pointsThen m_letters m_numbers m_h) := hw
    obtain rfl := Option.some.inj h
    exact x_reti C hQ hA hw dX8_told_24
  · replace h := xb_ff b2 h
    refine lv_aload_n hx hb dX8_told_10 rfl (lv_at hl 0 rfl) ?_
    refine lv_iload_n hx hb dX8_told_11 rfl (lv_at hl 1 rfl) ?_
    obtain ⟨r_4, q4, h⟩ := xn_i h
    refine x_callVi (As := [.int v1]) (rest := []) C hw gc_X8_208 ⟨rfl, rfl, ds_X8_toldOf, (by rw [hR]; exact Nat.le_of_ble_eq_true rfl), (by rw [hR]; exact Nat.le_of_ble_eq_true rfl), Nat.zero_le _, Nat.zero_le _⟩ (c_X8_toldOf l dC dI cI cZ cB cO m_ad m_p m_now m_held m_past m_pasts m_refused m_figures m_isLaid m_many m_isMade m_made m_images m_orbits m_chains m_isCarried m_carried m_carriedMany m_isSorted m_leasts m_heads m_headFrom m_text m_typed m_at m_fault m_orders m_pointsThen m_letters m_numbers m_h v1 _ q4 _) [0, 1, 2, 3, 4, 5, 6, 7, 8, 9, 10, 11, 12, 13, 14, 15, 16, 17, 18] [] (by decide) rfl rfl (by decide) (by decide) rfl rfl rfl hl.1 rfl (Nat.le_of_ble_eq_true rfl) dX8_told_12 (fun H locs hw => ?_)
    have hw : xWd (dC, dI) A s.heap H locs (wM cI cZ cB cO m_ad m_p m_now m_held m_past m_pasts m_refused m_figures m_isLaid m_many m_isMade m_made m_images m_orbits m_chains m_isCarried m_carried m_carriedMany m_isSorted m_leasts m_heads m_headFrom m_text m_typed m_at m_fault m_orders m_pointsThen m_letters m_numbers m_h) := hw
    refine lv_goto (tgt := 24) hx hb dX8_told_15 (by decide) ?_
    obtain rfl := Option.some.inj h
    exact x_reti C hQ hA hw dX8_told_24
noncomputable def f_X8_mix (m_h : Int64) (v1 : Int32) : Option (Int64) := some (((31 : Int64) * m_h) + v1.toInt64)
set_option maxHeartbeats 4000000 in
set_option maxRecDepth 100000 in
theorem c_X8_mix (l : Launch) (dC : Nat → ClassId) (dI : Nat → Nat → Nat) (cI cZ cB cO : ClassId) (m_ad : Nat) (m_p : Nat → Nat) (m_now : (Nat → Int32)) (m_held : (Nat → Int32)) (m_past : (Nat → Int32)) (m_pasts : Int32) (m_refused : (Nat → Int32)) (m_figures : (Nat → Int32)) (m_isLaid : Int32) (m_many : Int32) (m_isMade : (Nat → Int32)) (m_made : (Nat → Int32)) (m_images : (Nat → Int32)) (m_orbits : (Nat → Int32)) (m_chains : (Nat → Int32)) (m_isCarried : (Nat → Int32)) (m_carried : (Nat → Int32)) (m_carriedMany : Int32) (m_isSorted : Int32) (m_leasts : (Nat → Int32)) (m_heads : (Nat → Int32)) (m_headFrom : (Nat → Int32)) (m_text : (Nat → Int32)) (m_typed : Int32) (m_at : Int32) (m_fault : Int32) (m_orders : Int32) (m_pointsThen : Int32) (m_letters : (Nat → Int32)) (m_numbers : (Nat → Int32)) (m_h : Int64) (v1 : Int32) (o : Int64) (h : f_X8_mix m_h v1 = some o) (sz : Nat) : Met l yX8_mix (xW yX8_mix cX8_mix 2 none) { frames := 0, cells := 0, slots := 0, locals := 0 } (xPre dC dI (xT cI cZ cB cO) [.ref m_ad, .int v1] (wM cI cZ cB cO m_ad m_p m_now m_held m_past m_pasts m_refused m_figures m_isLaid m_many m_isMade m_made m_images m_orbits m_chains m_isCarried m_carried m_carriedMany m_isSorted m_leasts m_heads m_headFrom m_text m_typed m_at m_fault m_orders m_pointsThen m_letters m_numbers m_h) sz) (xQv dC dI (xT cI cZ cB cO) (wM cI cZ cB cO m_ad m_p m_now m_held m_past m_pasts m_refused m_figures m_isLaid m_many m_isMade m_made m_images m_orbits m_chains m_isCarried m_carried m_carriedMany m_isSorted m_leasts m_heads m_headFrom m_text m_typed m_at m_fault m_orders m_pointsThen m_letters m_numbers m_h) (wM cI cZ cB cO m_ad m_p m_now m_held m_past m_pasts m_refused m_figures m_isLaid m_many m_isMade m_made m_images m_orbits m_chains m_isCarried m_carried m_carriedMany m_isSorted m_leasts m_heads m_headFrom m_text m_typed m_at m_fault m_orders m_pointsThen m_letters m_numbers o) sz) 0 0 (va_A (wM cI cZ cB cO m_ad m_p m_now m_held m_past m_pasts m_refused m_figures m_isLaid m_many m_isMade m_made m_images m_orbits m_chains m_isCarried m_carried m_carriedMany m_isSorted m_leasts m_heads m_headFrom m_text m_typed m_at m_fault m_orders m_pointsThen m_letters m_numbers m_h) sz) := by
  refine x_met (by decide) (Nat.le_of_ble_eq_true rfl) ?_
  intro p e s m args below meth c R Q A hR hsz hA hQ hin C hw ls hl
  have hx := C.1
  have hb := C.2.1
  have hown := C.2.2.2.1
  have htb := C.2.2.2.2.1
  have hl : lv_has ls 2 [(0, .ref m_ad), (1, .int v1)] := hl
  refine lv_aload_n hx hb dX8_mix_0 rfl (lv_at hl 0 rfl) ?_
  refine lv_ldc2 hx hb hown (htb _ kJ_X8_211) dX8_mix_1 ?_
  refine lv_aload_n hx hb dX8_mix_4 rfl (lv_at hl 0 rfl) ?_
  refine x_get (ci := 7) C hw inX8 rfl 28 (by decide) lkF_X8_213 rfl 0 rfl rfl dX8_mix_5 ?_
  refine lv_lmul hx hb dX8_mix_8 ?_
  refine lv_iload_n hx hb dX8_mix_9 rfl (lv_at hl 1 rfl) ?_
  refine lv_i2l hx hb dX8_mix_10 rfl ?_
  refine lv_ladd hx hb dX8_mix_11 ?_
  refine x_put (ci := 7) C hw inX8 tyX8 tyX8_ok nmX8 rfl 28 (by decide) lkF_X8_213 rfl rfl 0 rfl rfl rfl (Nat.le_of_ble_eq_true rfl) dX8_mix_12 (fun H locs hw => ?_)
  have hw : xWd (dC, dI) A s.heap H locs (wM cI cZ cB cO m_ad m_p m_now m_held m_past m_pasts m_refused m_figures m_isLaid m_many m_isMade m_made m_images m_orbits m_chains m_isCarried m_carried m_carriedMany m_isSorted m_leasts m_heads m_headFrom m_text m_typed m_at m_fault m_orders m_pointsThen m_letters m_numbers (((31 : Int64) * m_h) + v1.toInt64)) := hw
  obtain rfl := Option.some.inj h
  exact x_retv C hQ hA hw dX8_mix_15
noncomputable def f_X8_digest_L5 (r_76 : Int32) (m_now : (Nat → Int32)) (v1_58 : Int32) (z : (Nat → Int32) × (Nat → Int32) × (Nat → Int32) × Int32 × Int32 × (Nat → Int32) × (Nat → Int32) × (Nat → Int32) × Int64 × Int32) : Option (((Nat → Int32) × (Nat → Int32) × (Nat → Int32) × Int32 × Int32 × (Nat → Int32) × (Nat → Int32) × (Nat → Int32) × Int64 × Int32) ⊕ ((Nat → Int32) × (Nat → Int32) × (Nat → Int32) × Int32 × Int32 × (Nat → Int32) × (Nat → Int32) × (Nat → Int32) × Int64)) := match z with
  | (m_figures_78, m_isCarried_79, m_carried_80, m_carriedMany_81, m_isSorted_82, m_leasts_83, m_heads_84, m_headFrom_85, m_h_86, v3_87) => xb (r_76 ≤ v3_87) (some (.inr (m_figures_78, m_isCarried_79, m_carried_80, m_carriedMany_81, m_isSorted_82, m_leasts_83, m_heads_84, m_headFrom_85, m_h_86))) (xn (f_X8_headsOf m_now m_figures_78 m_isCarried_79 m_carried_80 m_carriedMany_81 m_isSorted_82 m_leasts_83 m_heads_84 m_headFrom_85 v1_58 v3_87) (fun (z : (Nat → Int32) × (Nat → Int32) × (Nat → Int32) × Int32 × Int32 × (Nat → Int32) × (Nat → Int32) × (Nat → Int32) × Int32) => match z with | (m_figures_97, m_isCarried_98, m_carried_99, m_carriedMany_100, m_isSorted_101, m_leasts_102, m_heads_103, m_headFrom_104, r_105) => xn (f_X8_mix m_h_86 r_105) (fun (m_h_106 : Int64) => some (.inl (m_figures_97, m_isCarried_98, m_carried_99, m_carriedMany_100, m_isSorted_101, m_leasts_102, m_heads_103, m_headFrom_104, m_h_106, (v3_87 + (1 : Int32)))))))
noncomputable def f_X8_digest_L4 (m_now : (Nat → Int32)) (z : (Nat → Int32) × (Nat → Int32) × (Nat → Int32) × Int32 × Int32 × (Nat → Int32) × (Nat → Int32) × (Nat → Int32) × Int64 × Int32) : Option (((Nat → Int32) × (Nat → Int32) × (Nat → Int32) × Int32 × Int32 × (Nat → Int32) × (Nat → Int32) × (Nat → Int32) × Int64 × Int32) ⊕ ((Nat → Int32) × (Nat → Int32) × (Nat → Int32) × Int32 × Int32 × (Nat → Int32) × (Nat → Int32) × (Nat → Int32) × Int64)) := match z with
  | (m_figures_49, m_isCarried_50, m_carried_51, m_carriedMany_52, m_isSorted_53, m_leasts_54, m_heads_55, m_headFrom_56, m_h_57, v1_58) => xb ((m_now 0) < v1_58) (some (.inr (m_figures_49, m_isCarried_50, m_carried_51, m_carriedMany_52, m_isSorted_53, m_leasts_54, m_heads_55, m_headFrom_56, m_h_57))) (xn (f_X8_headsOf m_now m_figures_49 m_isCarried_50 m_carried_51 m_carriedMany_52 m_isSorted_53 m_leasts_54 m_heads_55 m_headFrom_56 v1_58 (-1 : Int32)) (fun (z : (Nat → Int32) × (Nat → Int32) × (Nat → Int32) × Int32 × Int32 × (Nat → Int32) × (Nat → Int32) × (Nat → Int32) × Int32) => match z with | (m_figures_68, m_isCarried_69, m_carried_70, m_carriedMany_71, m_isSorted_72, m_leasts_73, m_heads_74, m_headFrom_75, r_76) => xn (f_X8_mix m_h_57 r_76) (fun (m_h_77 : Int64) => xn (xL (f_X8_digest_L5 r_76 m_now v1_58) (m_figures_68, m_isCarried_69, m_carried_70, m_carriedMany_71, m_isSorted_72, m_leasts_73, m_heads_74, m_headFrom_75, m_h_77, (0 : Int32))) (fun (z : (Nat → Int32) × (Nat → Int32) × (Nat → Int32) × Int32 × Int32 × (Nat → Int32) × (Nat → Int32) × (Nat → Int32) × Int64) => match z with | (m_figures_88, m_isCarried_89, m_carried_90, m_carriedMany_91, m_isSorted_92, m_leasts_93, m_heads_94, m_headFrom_95, m_h_96) => some (.inl (m_figures_88, m_isCarried_89, m_carried_90, m_carriedMany_91, m_isSorted_92, m_leasts_93, m_heads_94, m_headFrom_95, m_h_96, (v1_58 + (1 : Int32))))))))
noncomputable def f_X8_digest_L3 (m_now : (Nat → Int32)) (z : (Nat → Int32) × Int32 × Int32 × (Nat → Int32) × (Nat → Int32) × (Nat → Int32) × (Nat → Int32) × (Nat → Int32) × Int64 × Int32) : Option (((Nat → Int32) × Int32 × Int32 × (Nat → Int32) × (Nat → Int32) × (Nat → Int32) × (Nat → Int32) × (Nat → Int32) × Int64 × Int32) ⊕ ((Nat → Int32) × Int32 × Int32 × (Nat → Int32) × (Nat → Int32) × (Nat → Int32) × (Nat → Int32) × (Nat → Int32) × Int64)) := match z with
  | (m_figures_20, m_isLaid_21, m_many_22, m_isMade_23, m_made_24, m_images_25, m_orbits_26, m_chains_27, m_h_28, v1_29) => xb (((3 : Int32) * (m_now 0)) ≤ v1_29) (some (.inr (m_figures_20, m_isLaid_21, m_many_22, m_isMade_23, m_made_24, m_images_25, m_orbits_26, m_chains_27, m_h_28))) (xn (f_X8_ofPoint m_now m_figures_20 m_isLaid_21 m_many_22 m_isMade_23 m_made_24 m_images_25 m_orbits_26 m_chains_27 (v1_29 / (3 : Int32)) (v1_29 - v1_29 / (3 : Int32) * (3 : Int32))) (fun (z : (Nat → Int32) × Int32 × Int32 × (Nat → Int32) × (Nat → Int32) × (Nat → Int32) × (Nat → Int32) × (Nat → Int32) × Int32) => match z with | (m_figures_39, m_isLaid_40, m_many_41, m_isMade_42, m_made_43, m_images_44, m_orbits_45, m_chains_46, r_47) => xn (f_X8_mix m_h_28 r_47) (fun (m_h_48 : Int64) => some (.inl (m_figures_39, m_isLaid_40, m_many_41, m_isMade_42, m_made_43, m_images_44, m_orbits_45, m_chains_46, m_h_48, (v1_29 + (1 : Int32)))))))
noncomputable def f_X8_digest_L2 (m_now : (Nat → Int32)) (z : Int64 × Int32) : Option ((Int64 × Int32) ⊕ (Int64)) := match z with
  | (m_h_6, v1_7) => xb ((m_now 1) ≤ v1_7) (some (.inr m_h_6)) (xk (vp_in ((2 : Int32) + v1_7) 5) (xn (f_X8_mix m_h_6 (m_now ((2 : Int32) + v1_7).toNatClampNeg)) (fun (m_h_9 : Int64) => some (.inl (m_h_9, (v1_7 + (1 : Int32)))))))
noncomputable def f_X8_digest_L1 (m_now : (Nat → Int32)) (m_pasts : Int32) (m_refused : (Nat → Int32)) (m_typed : Int32) (z : Int64 × Int32) : Option ((Int64 × Int32) ⊕ (Int64)) := match z with
  | (m_h_1, v1_2) => xb ((7 : Int32) ≤ v1_2) (some (.inr m_h_1)) (xn (f_X8_toldOf m_now m_pasts m_refused m_typed v1_2) (fun (r_4 : Int32) => xn (f_X8_mix m_h_1 r_4) (fun (m_h_5 : Int64) => some (.inl (m_h_5, (v1_2 + (1 : Int32)))))))
noncomputable def f_X8_digest (m_now : (Nat → Int32)) (m_pasts : Int32) (m_refused : (Nat → Int32)) (m_figures : (Nat → Int32)) (m_isLaid : Int32) (m_many : Int32) (m_isMade : (Nat → Int32)) (m_made : (Nat → Int32)) (m_images : (Nat → Int32)) (m_orbits : (Nat → Int32)) (m_chains : (Nat → Int32)) (m_isCarried : (Nat → Int32)) (m_carried : (Nat → Int32)) (m_carriedMany : Int32) (m_isSorted : Int32) (m_leasts : (Nat → Int32)) (m_heads : (Nat → Int32)) (m_headFrom : (Nat → Int32)) (m_typed : Int32) (m_h : Int64) : Option ((Nat → Int32) × Int32 × Int32 × (Nat → Int32) × (Nat → Int32) × (Nat → Int32) × (Nat → Int32) × (Nat → Int32) × (Nat → Int32) × (Nat → Int32) × Int32 × Int32 × (Nat → Int32) × (Nat → Int32) × (Nat → Int32) × Int64 × Int64) := xn (xL (f_X8_digest_L1 m_now m_pasts m_refused m_typed) ((2477 : Int64), (0 : Int32))) (fun (m_h_3 : Int64) => xn (xL (f_X8_digest_L2 m_now) (m_h_3, (0 : Int32))) (fun (m_h_8 : Int64) => xn (f_X8_order m_now m_figures m_isLaid m_many m_isMade m_made m_images m_orbits m_chains) (fun (z : (Nat → Int32) × Int32 × Int32 × (Nat → Int32) × (Nat → Int32) × (Nat → Int32) × (Nat → Int32) × (Nat → Int32) × Int32) => match z with | (m_figures_10, m_isLaid_11, m_many_12, m_isMade_13, m_made_14, m_images_15, m_orbits_16, m_chains_17, r_18) => xn (f_X8_mix m_h_8 r_18) (fun (m_h_19 : Int64) => xn (xL (f_X8_digest_L3 m_now) (m_figures_10, m_isLaid_11, m_many_12, m_isMade_13, m_made_14, m_images_15, m_orbits_16, m_chains_17, m_h_19, (0 : Int32))) (fun (z : (Nat → Int32) × Int32 × Int32 × (Nat → Int32) × (Nat → Int32) × (Nat → Int32) × (Nat → Int32) × (Nat → Int32) × Int64) => match z with | (m_figures_30, m_isLaid_31, m_many_32, m_isMade_33, m_made_34, m_images_35, m_orbits_36, m_chains_37, m_h_38) => xn (xL (f_X8_digest_L4 m_now) (m_figures_30, m_isCarried, m_carried, m_carriedMany, m_isSorted, m_leasts, m_heads, m_headFrom, m_h_38, (0 : Int32))) (fun (z : (Nat → Int32) × (Nat → Int32) × (Nat → Int32) × Int32 × Int32 × (Nat → Int32) × (Nat → Int32) × (Nat → Int32) × Int64) => match z with | (m_figures_59, m_isCarried_60, m_carried_61, m_carriedMany_62, m_isSorted_63, m_leasts_64, m_heads_65, m_headFrom_66, m_h_67) => some (m_figures_59, m_isLaid_31, m_many_32, m_isMade_33, m_made_34, m_images_35, m_orbits_36, m_chains_37, m_isCarried_60, m_carried_61, m_carriedMany_62, m_isSorted_63, m_leasts_64, m_heads_65, m_headFrom_66, m_h_67, m_h_67)))))))
set_option maxHeartbeats 4000000 in
set_option maxRecDepth 100000 in
theorem c_X8_digest (l : Launch) (dC : Nat → ClassId) (dI : Nat → Nat → Nat) (cI cZ cB cO : ClassId) (m_ad : Nat) (m_p : Nat → Nat) (m_now : (Nat → Int32)) (m_held : (Nat → Int32)) (m_past : (Nat → Int32)) (m_pasts : Int32) (m_refused : (Nat → Int32)) (m_figures : (Nat → Int32)) (m_isLaid : Int32) (m_many : Int32) (m_isMade : (Nat → Int32)) (m_made : (Nat → Int32)) (m_images : (Nat → Int32)) (m_orbits : (Nat → Int32)) (m_chains : (Nat → Int32)) (m_isCarried : (Nat → Int32)) (m_carried : (Nat → Int32)) (m_carriedMany : Int32) (m_isSorted : Int32) (m_leasts : (Nat → Int32)) (m_heads : (Nat → Int32)) (m_headFrom : (Nat → Int32)) (m_text : (Nat → Int32)) (m_typed : Int32) (m_at : Int32) (m_fault : Int32) (m_orders : Int32) (m_pointsThen : Int32) (m_letters : (Nat → Int32)) (m_numbers : (Nat → Int32)) (m_h : Int64) (o : (Nat → Int32) × Int32 × Int32 × (Nat → Int32) × (Nat → Int32) × (Nat → Int32) × (Nat → Int32) × (Nat → Int32) × (Nat → Int32) × (Nat → Int32) × Int32 × Int32 × (Nat → Int32) × (Nat → Int32) × (Nat → Int32) × Int64 × Int64) (h : f_X8_digest m_now m_pasts m_refused m_figures m_isLaid m_many m_isMade m_made m_images m_orbits m_chains m_isCarried m_carried m_carriedMany m_isSorted m_leasts m_heads m_headFrom m_typed m_h = some o) (sz : Nat) : Met l yX8_digest (xW yX8_digest cX8_digest 4 (some .long)) { frames := 5, cells := 0, slots := 0, locals := 115 } (xPre dC dI (xT cI cZ cB cO) [.ref m_ad] (wM cI cZ cB cO m_ad m_p m_now m_held m_past m_pasts m_refused m_figures m_isLaid m_many m_isMade m_made m_images m_orbits m_chains m_isCarried m_carried m_carriedMany m_isSorted m_leasts m_heads m_headFrom m_text m_typed m_at m_fault m_orders m_pointsThen m_letters m_numbers m_h) sz) (xQl dC dI (xT cI cZ cB cO) o.2.2.2.2.2.2.2.2.2.2.2.2.2.2.2.2 (wM cI cZ cB cO m_ad m_p m_now m_held m_past m_pasts m_refused m_figures m_isLaid m_many m_isMade m_made m_images m_orbits m_chains m_isCarried m_carried m_carriedMany m_isSorted m_leasts m_heads m_headFrom m_text m_typed m_at m_fault m_orders m_pointsThen m_letters m_numbers m_h) (wM cI cZ cB cO m_ad m_p m_now m_held m_past m_pasts m_refused o.1 o.2.1 o.2.2.1 o.2.2.2.1 o.2.2.2.2.1 o.2.2.2.2.2.1 o.2.2.2.2.2.2.1 o.2.2.2.2.2.2.2.1 o.2.2.2.2.2.2.2.2.1 o.2.2.2.2.2.2.2.2.2.1 o.2.2.2.2.2.2.2.2.2.2.1 o.2.2.2.2.2.2.2.2.2.2.2.1 o.2.2.2.2.2.2.2.2.2.2.2.2.1 o.2.2.2.2.2.2.2.2.2.2.2.2.2.1 o.2.2.2.2.2.2.2.2.2.2.2.2.2.2.1 m_text m_typed m_at m_fault m_orders m_pointsThen m_letters m_numbers o.2.2.2.2.2.2.2.2.2.2.2.2.2.2.2.1) sz) 0 0 (va_A (wM cI cZ cB cO m_ad m_p m_now m_held m_past m_pasts m_refused m_figures m_isLaid m_many m_isMade m_made m_images m_orbits m_chains m_isCarried m_carried m_carriedMany m_isSorted m_leasts m_heads m_headFrom m_text m_typed m_at m_fault m_orders m_pointsThen m_letters m_numbers m_h) sz) := by
  refine x_met (by decide) (Nat.le_of_ble_eq_true rfl) ?_
  intro p e s m args below meth c R Q A hR hsz hA hQ hin C hw ls hl
  have hx := C.1
  have hb := C.2.1
  have hown := C.2.2.2.1
  have htb := C.2.2.2.2.1
  have hl : lv_has ls 4 [(0, .ref m_ad)] := hl
  refine lv_aload_n hx hb dX8_digest_0 rfl (lv_at hl 0 rfl) ?_
  refine lv_ldc2 hx hb hown (htb _ kJ_X8_217) dX8_digest_1 ?_
  refine x_put (ci := 7) C hw inX8 tyX8 tyX8_ok nmX8 rfl 28 (by decide) lkF_X8_213 rfl rfl 0 rfl rfl rfl (Nat.le_of_ble_eq_true rfl) dX8_digest_4 (fun H locs hw => ?_)
  have hw : xWd (dC, dI) A s.heap H locs (wM cI cZ cB cO m_ad m_p m_now m_held m_past m_pasts m_refused m_figures m_isLaid m_many m_isMade m_made m_images m_orbits m_chains m_isCarried m_carried m_carriedMany m_isSorted m_leasts m_heads m_headFrom m_text m_typed m_at m_fault m_orders m_pointsThen m_letters m_numbers (2477 : Int64)) := hw
  refine lv_iconst (v := (0 : Int32)) hx hb dX8_digest_7 (by decide) ?_
  refine lv_istore_n (lv' := [(1, .int (0 : Int32)), (0, .ref m_ad)]) hx hb dX8_digest_8 rfl hl (by decide) rfl (fun ls hl => ?_)
  obtain ⟨z, hr, h⟩ := xn_i h
  refine xL_w (fun (z : Int64 × Int32) => ∀ (H : Heap) (locs : List Loc) (ls : Array Slot), xWd (dC, dI) A s.heap H locs (wM cI cZ cB cO m_ad m_p m_now m_held m_past m_pasts m_refused m_figures m_isLaid m_many m_isMade m_made m_images m_orbits m_chains m_isCarried m_carried m_carriedMany m_isSorted m_leasts m_heads m_headFrom m_text m_typed m_at m_fault m_orders m_pointsThen m_letters m_numbers z.1) → lv_has ls 4 [(0, .ref m_ad), (1, .int z.2)] → W p l e R s m args below meth c H locs 0 0 Q (F0 m 9 ls [])) (fun (z : Int64) => ∀ (H : Heap) (locs : List Loc) (ls : Array Slot), xWd (dC, dI) A s.heap H locs (wM cI cZ cB cO m_ad m_p m_now m_held m_past m_pasts m_refused m_figures m_isLaid m_many m_isMade m_made m_images m_orbits m_chains m_isCarried m_carried m_carriedMany m_isSorted m_leasts m_heads m_headFrom m_text m_typed m_at m_fault m_orders m_pointsThen m_letters m_numbers z) → lv_has ls 4 [(0, .ref m_ad)] → W p l e R s m args below meth c H locs 0 0 Q (F0 m 30 ls [])) ?_ hr ?_ _ _ _ hw (lv_sub hl [1, 0] rfl)
  · rintro ⟨m_h_1, v1_2⟩ o h k H locs ls hw hl
    have hw : xWd (dC, dI) A s.heap H locs (wM cI cZ cB cO m_ad m_p m_now m_held m_past m_pasts m_refused m_figures m_isLaid m_many m_isMade m_made m_images m_orbits m_chains m_isCarried m_carried m_carriedMany m_isSorted m_leasts m_heads m_headFrom m_text m_typed m_at m_fault m_orders m_pointsThen m_letters m_numbers m_h_1) := hw
    have hl : lv_has ls 4 [(0, .ref m_ad), (1, .int v1_2)] := hl
    refine lv_iload_n hx hb dX8_digest_9 rfl (lv_at hl 1 rfl) ?_
    refine lv_bipush (v := (7 : Int32)) hx hb dX8_digest_10 (by decide) ?_
    refine lv_icmp_ge (tgt := 30) hx hb dX8_digest_12 (by decide) (fun b1 => ?_) (fun b1 => ?_)
    · replace h := xb_tt b1 h
      obtain rfl := Option.some.inj h
      exact k _ _ _ hw (lv_sub hl [0] rfl)
    · replace h := xb_ff b1 h
      refine lv_aload_n hx hb dX8_digest_15 rfl (lv_at hl 0 rfl) ?_
      refine lv_aload_n hx hb dX8_digest_16 rfl (lv_at hl 0 rfl) ?_
      refine lv_iload_n hx hb dX8_digest_17 rfl (lv_at hl 1 rfl) ?_
      obtain ⟨r_4, q2, h⟩ := xn_i h
      refine x_callVi (As := [.int v1_2]) (rest := [.ref m_ad]) C hw gc_X8_208 ⟨rfl, rfl, ds_X8_toldOf, (by rw [hR]; exact Nat.le_of_ble_eq_true rfl), (by rw [hR]; exact Nat.le_of_ble_eq_true rfl), Nat.zero_le _, Nat.zero_le _⟩ (c_X8_toldOf l dC dI cI cZ cB cO m_ad m_p m_now m_held m_past m_pasts m_refused m_figures m_isLaid m_many m_isMade m_made m_images m_orbits m_chains m_isCarried m_carried m_carriedMany m_isSorted m_leasts m_heads m_headFrom m_text m_typed m_at m_fault m_orders m_pointsThen m_letters m_numbers m_h_1 v1_2 _ q2 _) [0, 1, 2, 3, 4, 5, 6, 7, 8, 9, 10, 11, 12, 13, 14, 15, 16, 17, 18] [] (by decide) rfl rfl (by decide) (by decide) rfl rfl rfl hl.1 rfl (Nat.le_of_ble_eq_true rfl) dX8_digest_18 (fun H locs hw => ?_)
      have hw : xWd (dC, dI) A s.heap H locs (wM cI cZ cB cO m_ad m_p m_now m_held m_past m_pasts m_refused m_figures m_isLaid m_many m_isMade m_made m_images m_orbits m_chains m_isCarried m_carried m_carriedMany m_isSorted m_leasts m_heads m_headFrom m_text m_typed m_at m_fault m_orders m_pointsThen m_letters m_numbers m_h_1) := hw
      obtain ⟨m_h_5, q3, h⟩ := xn_i h
      refine x_callVv (As := [.int r_4]) (rest := []) C hw gc_X8_219 ⟨rfl, rfl, ds_X8_mix, (by rw [hR]; exact Nat.le_of_ble_eq_true rfl), (by rw [hR]; exact Nat.le_of_ble_eq_true rfl), Nat.zero_le _, Nat.zero_le _⟩ (c_X8_mix l dC dI cI cZ cB cO m_ad m_p m_now m_held m_past m_pasts m_refused m_figures m_isLaid m_many m_isMade m_made m_images m_orbits m_chains m_isCarried m_carried m_carriedMany m_isSorted m_leasts m_heads m_headFrom m_text m_typed m_at m_fault m_orders m_pointsThen m_letters m_numbers m_h_1 r_4 _ q3 _) [0, 1, 2, 3, 4, 5, 6, 7, 8, 9, 10, 11, 12, 13, 14, 15, 16, 17, 18] [] (by decide) rfl rfl (by decide) (by decide) rfl rfl rfl hl.1 rfl (Nat.le_of_ble_eq_true rfl) dX8_digest_21 (fun H locs hw => ?_)
      have hw : xWd (dC, dI) A s.heap H locs (wM cI cZ cB cO m_ad m_p m_now m_held m_past m_pasts m_refused m_figures m_isLaid m_many m_isMade m_made m_images m_orbits m_chains m_isCarried m_carried m_carriedMany m_isSorted m_leasts m_heads m_headFrom m_text m_typed m_at m_fault m_orders m_pointsThen m_letters m_numbers m_h_5) := hw
      refine lv_iinc (v := (v1_2 + (1 : Int32))) (lv' := [(1, .int (v1_2 + (1 : Int32))), (0, .ref m_ad)]) hx hb dX8_digest_24 hl (k := 1) rfl (congrArg (fun q => v1_2 + q) (by decide)) (by decide) rfl (fun ls hl => ?_)
      refine lv_goto (tgt := 9) hx hb dX8_digest_27 (by decide) ?_
      obtain rfl := Option.some.inj h
      exact k _ _ _ hw (lv_sub hl [1, 0] rfl)
  · obtain ⟨m_h_3, hz⟩ : ∃ q, q = z := ⟨z, rfl⟩
    subst hz
    intro H locs ls hw hl
    have hw : xWd (dC, dI) A s.heap H locs (wM cI cZ cB cO m_ad m_p m_now m_held m_past m_pasts m_refused m_figures m_isLaid m_many m_isMade m_made m_images m_orbits m_chains m_isCarried m_carried m_carriedMany m_isSorted m_leasts m_heads m_headFrom m_text m_typed m_at m_fault m_orders m_pointsThen m_letters m_numbers m_h_3) := hw
    have hl : lv_has ls 4 [(0, .ref m_ad)] := hl
    refine lv_iconst (v := (0 : Int32)) hx hb dX8_digest_30 (by decide) ?_
    refine lv_istore_n (lv' := [(1, .int (0 : Int32)), (0, .ref m_ad)]) hx hb dX8_digest_31 rfl hl (by decide) rfl (fun ls hl => ?_)
    obtain ⟨z, hr, h⟩ := xn_i h
    refine xL_w (fun (z : Int64 × Int32) => ∀ (H : Heap) (locs : List Loc) (ls : Array Slot), xWd (dC, dI) A s.heap H locs (wM cI cZ cB cO m_ad m_p m_now m_held m_past m_pasts m_refused m_figures m_isLaid m_many m_isMade m_made m_images m_orbits m_chains m_isCarried m_carried m_carriedMany m_isSorted m_leasts m_heads m_headFrom m_text m_typed m_at m_fault m_orders m_pointsThen m_letters m_numbers z.1) → lv_has ls 4 [(0, .ref m_ad), (1, .int z.2)] → W p l e R s m args below meth c H locs 0 0 Q (F0 m 32 ls [])) (fun (z : Int64) => ∀ (H : Heap) (locs : List Loc) (ls : Array Slot), xWd (dC, dI) A s.heap H locs (wM cI cZ cB cO m_ad m_p m_now m_held m_past m_pasts m_refused m_figures m_isLaid m_many m_isMade m_made m_images m_orbits m_chains m_isCarried m_carried m_carriedMany m_isSorted m_leasts m_heads m_headFrom m_text m_typed m_at m_fault m_orders m_pointsThen m_letters m_numbers z) → lv_has ls 4 [(0, .ref m_ad)] → W p l e R s m args below meth c H locs 0 0 Q (F0 m 60 ls [])) ?_ hr ?_ _ _ _ hw (lv_sub hl [1, 0] rfl)
    · rintro ⟨m_h_6, v1_7⟩ o h k H locs ls hw hl
      have hw : xWd (dC, dI) A s.heap H locs (wM cI cZ cB cO m_ad m_p m_now m_held m_past m_pasts m_refused m_figures m_isLaid m_many m_isMade m_made m_images m_orbits m_chains m_isCarried m_carried m_carriedMany m_isSorted m_leasts m_heads m_headFrom m_text m_typed m_at m_fault m_orders m_pointsThen m_letters m_numbers m_h_6) := hw
      have hl : lv_has ls 4 [(0, .ref m_ad), (1, .int v1_7)] := hl
      refine lv_iload_n hx hb dX8_digest_32 rfl (lv_at hl 1 rfl) ?_
      refine lv_aload_n hx hb dX8_digest_33 rfl (lv_at hl 0 rfl) ?_
      refine x_get (ci := 7) C hw inX8 rfl 0 (by decide) lkF_X8_7 rfl 0 rfl rfl dX8_digest_34 ?_
      refine lv_iconst (v := (1 : Int32)) hx hb dX8_digest_37 (by decide) ?_
      refine x_ialk C hw 1 0 rfl rfl (k := 1) (by decide) (vp_in_iff.mpr (by decide)) dX8_digest_38 ?_
      refine lv_icmp_ge (tgt := 60) hx hb dX8_digest_39 (by decide) (fun b4 => ?_) (fun b4 => ?_)
      · replace h := xb_tt b4 h
        obtain rfl := Option.some.inj h
        exact k _ _ _ hw (lv_sub hl [0] rfl)
      · replace h := xb_ff b4 h
        refine lv_aload_n hx hb dX8_digest_42 rfl (lv_at hl 0 rfl) ?_
        refine lv_aload_n hx hb dX8_digest_43 rfl (lv_at hl 0 rfl) ?_
        refine x_get (ci := 7) C hw inX8 rfl 0 (by decide) lkF_X8_7 rfl 0 rfl rfl dX8_digest_44 ?_
        refine lv_iconst (v := (2 : Int32)) hx hb dX8_digest_47 (by decide) ?_
        refine lv_iload_n hx hb dX8_digest_48 rfl (lv_at hl 1 rfl) ?_
        refine lv_iadd hx hb dX8_digest_49 ?_
        obtain ⟨b5, h⟩ := xk_i h
        refine x_iald C hw 1 0 rfl rfl b5 dX8_digest_50 ?_
        obtain ⟨m_h_9, q6, h⟩ := xn_i h
        refine x_callVv (As := [.int (m_now ((2 : Int32) + v1_7).toNatClampNeg)]) (rest := []) C hw gc_X8_219 ⟨rfl, rfl, ds_X8_mix, (by rw [hR]; exact Nat.le_of_ble_eq_true rfl), (by rw [hR]; exact Nat.le_of_ble_eq_true rfl), Nat.zero_le _, Nat.zero_le _⟩ (c_X8_mix l dC dI cI cZ cB cO m_ad m_p m_now m_held m_past m_pasts m_refused m_figures m_isLaid m_many m_isMade m_made m_images m_orbits m_chains m_isCarried m_carried m_carriedMany m_isSorted m_leasts m_heads m_headFrom m_text m_typed m_at m_fault m_orders m_pointsThen m_letters m_numbers m_h_6 (m_now ((2 : Int32) + v1_7).toNatClampNeg) _ q6 _) [0, 1, 2, 3, 4, 5, 6, 7, 8, 9, 10, 11, 12, 13, 14, 15, 16, 17, 18] [] (by decide) rfl rfl (by decide) (by decide) rfl rfl rfl hl.1 rfl (Nat.le_of_ble_eq_true rfl) dX8_digest_51 (fun H locs hw => ?_)
        have hw : xWd (dC, dI) A s.heap H locs (wM cI cZ cB cO m_ad m_p m_now m_held m_past m_pasts m_refused m_figures m_isLaid m_many m_isMade m_made m_images m_orbits m_chains m_isCarried m_carried m_carriedMany m_isSorted m_leasts m_heads m_headFrom m_text m_typed m_at m_fault m_orders m_pointsThen m_letters m_numbers m_h_9) := hw
        refine lv_iinc (v := (v1_7 + (1 : Int32))) (lv' := [(1, .int (v1_7 + (1 : Int32))), (0, .ref m_ad)]) hx hb dX8_digest_54 hl (k := 1) rfl (congrArg (fun q => v1_7 + q) (by decide)) (by decide) rfl (fun ls hl => ?_)
        refine lv_goto (tgt := 32) hx hb dX8_digest_57 (by decide) ?_
        obtain rfl := Option.some.inj h
        exact k _ _ _ hw (lv_sub hl [1, 0] rfl)
    · obtain ⟨m_h_8, hz⟩ : ∃ q, q = z := ⟨z, rfl⟩
      subst hz
      intro H locs ls hw hl
      have hw : xWd (dC, dI) A s.heap H locs (wM cI cZ cB cO m_ad m_p m_now m_held m_past m_pasts m_refused m_figures m_isLaid m_many m_isMade m_made m_images m_orbits m_chains m_isCarried m_carried m_carriedMany m_isSorted m_leasts m_heads m_headFrom m_text m_typed m_at m_fault m_orders m_pointsThen m_letters m_numbers m_h_8) := hw
      have hl : lv_has ls 4 [(0, .ref m_ad)] := hl
      refine lv_aload_n hx hb dX8_digest_60 rfl (lv_at hl 0 rfl) ?_
      refine lv_aload_n hx hb dX8_digest_61 rfl (lv_at hl 0 rfl) ?_
      obtain ⟨⟨m_figures_10, m_isLaid_11, m_many_12, m_isMade_13, m_made_14, m_images_15, m_orbits_16, m_chains_17, r_18⟩, q7, h⟩ := xn_i h
      refine x_callVi (As := []) (rest := [.ref m_ad]) C hw gc_X8_222 ⟨rfl, rfl, ds_X8_order, (by rw [hR]; exact Nat.le_of_ble_eq_true rfl), (by rw [hR]; exact Nat.le_of_ble_eq_true rfl), Nat.zero_le _, Nat.zero_le _⟩ (c_X8_order l dC dI cI cZ cB cO m_ad m_p m_now m_held m_past m_pasts m_refused m_figures m_isLaid m_many m_isMade m_made m_images m_orbits m_chains m_isCarried m_carried m_carriedMany m_isSorted m_leasts m_heads m_headFrom m_text m_typed m_at m_fault m_orders m_pointsThen m_letters m_numbers m_h_8 _ q7 _) [0, 1, 2, 3, 4, 5, 6, 7, 8, 9, 10, 11, 12, 13, 14, 15, 16, 17, 18] [] (by decide) rfl rfl (by decide) (by decide) rfl rfl rfl hl.1 rfl (Nat.le_of_ble_eq_true rfl) dX8_digest_62 (fun H locs hw => ?_)
      have hw : xWd (dC, dI) A s.heap H locs (wM cI cZ cB cO m_ad m_p m_now m_held m_past m_pasts m_refused m_figures_10 m_isLaid_11 m_many_12 m_isMade_13 m_made_14 m_images_15 m_orbits_16 m_chains_17 m_isCarried m_carried m_carriedMany m_isSorted m_leasts m_heads m_headFrom m_text m_typed m_at m_fault m_orders m_pointsThen m_letters m_numbers m_h_8) := hw
      obtain ⟨m_h_19, q8, h⟩ := xn_i h
      refine x_callVv (As := [.int r_18]) (rest := []) C hw gc_X8_219 ⟨rfl, rfl, ds_X8_mix, (by rw [hR]; exact Nat.le_of_ble_eq_true rfl), (by rw [hR]; exact Nat.le_of_ble_eq_true rfl), Nat.zero_le _, Nat.zero_le _⟩ (c_X8_mix l dC dI cI cZ cB cO m_ad m_p m_now m_held m_past m_pasts m_refused m_figures_10 m_isLaid_11 m_many_12 m_isMade_13 m_made_14 m_images_15 m_orbits_16 m_chains_17 m_isCarried m_carried m_carriedMany m_isSorted m_leasts m_heads m_headFrom m_text m_typed m_at m_fault m_orders m_pointsThen m_letters m_numbers m_h_8 r_18 _ q8 _) [0, 1, 2, 3, 4, 5, 6, 7, 8, 9, 10, 11, 12, 13, 14, 15, 16, 17, 18] [] (by decide) rfl rfl (by decide) (by decide) rfl rfl rfl hl.1 rfl (Nat.le_of_ble_eq_true rfl) dX8_digest_65 (fun H locs hw => ?_)
      have hw : xWd (dC, dI) A s.heap H locs (wM cI cZ cB cO m_ad m_p m_now m_held m_past m_pasts m_refused m_figures_10 m_isLaid_11 m_many_12 m_isMade_13 m_made_14 m_images_15 m_orbits_16 m_chains_17 m_isCarried m_carried m_carriedMany m_isSorted m_leasts m_heads m_headFrom m_text m_typed m_at m_fault m_orders m_pointsThen m_letters m_numbers m_h_19) := hw
      refine lv_iconst (v := (0 : Int32)) hx hb dX8_digest_68 (by decide) ?_
      refine lv_istore_n (lv' := [(1, .int (0 : Int32)), (0, .ref m_ad)]) hx hb dX8_digest_69 rfl hl (by decide) rfl (fun ls hl => ?_)
      obtain ⟨z, hr, h⟩ := xn_i h
      refine xL_w (fun (z : (Nat → Int32) × Int32 × Int32 × (Nat → Int32) × (Nat → Int32) × (Nat → Int32) × (Nat → Int32) × (Nat → Int32) × Int64 × Int32) => ∀ (H : Heap) (locs : List Loc) (ls : Array Slot), xWd (dC, dI) A s.heap H locs (wM cI cZ cB cO m_ad m_p m_now m_held m_past m_pasts m_refused z.1 z.2.1 z.2.2.1 z.2.2.2.1 z.2.2.2.2.1 z.2.2.2.2.2.1 z.2.2.2.2.2.2.1 z.2.2.2.2.2.2.2.1 m_isCarried m_carried m_carriedMany m_isSorted m_leasts m_heads m_headFrom m_text m_typed m_at m_fault m_orders m_pointsThen m_letters m_numbers z.2.2.2.2.2.2.2.2.1) → lv_has ls 4 [(0, .ref m_ad), (1, .int z.2.2.2.2.2.2.2.2.2)] → W p l e R s m args below meth c H locs 0 0 Q (F0 m 70 ls [])) (fun (z : (Nat → Int32) × Int32 × Int32 × (Nat → Int32) × (Nat → Int32) × (Nat → Int32) × (Nat → Int32) × (Nat → Int32) × Int64) => ∀ (H : Heap) (locs : List Loc) (ls : Array Slot), xWd (dC, dI) A s.heap H locs (wM cI cZ cB cO m_ad m_p m_now m_held m_past m_pasts m_refused z.1 z.2.1 z.2.2.1 z.2.2.2.1 z.2.2.2.2.1 z.2.2.2.2.2.1 z.2.2.2.2.2.2.1 z.2.2.2.2.2.2.2.1 m_isCarried m_carried m_carriedMany m_isSorted m_leasts m_heads m_headFrom m_text m_typed m_at m_fault m_orders m_pointsThen m_letters m_numbers z.2.2.2.2.2.2.2.2) → lv_has ls 4 [(0, .ref m_ad)] → W p l e R s m args below meth c H locs 0 0 Q (F0 m 102 ls [])) ?_ hr ?_ _ _ _ hw (lv_sub hl [1, 0] rfl)
      · rintro ⟨m_figures_20, m_isLaid_21, m_many_22, m_isMade_23, m_made_24, m_images_25, m_orbits_26, m_chains_27, m_h_28, v1_29⟩ o h k H locs ls hw hl
        have hw : xWd (dC, dI) A s.heap H locs (wM cI cZ cB cO m_ad m_p m_now m_held m_past m_pasts m_refused m_figures_20 m_isLaid_21 m_many_22 m_isMade_23 m_made_24 m_images_25 m_orbits_26 m_chains_27 m_isCarried m_carried m_carriedMany m_isSorted m_leasts m_heads m_headFrom m_text m_typed m_at m_fault m_orders m_pointsThen m_letters m_numbers m_h_28) := hw
        have hl : lv_has ls 4 [(0, .ref m_ad), (1, .int v1_29)] := hl
        refine lv_iload_n hx hb dX8_digest_70 rfl (lv_at hl 1 rfl) ?_
        refine lv_iconst (v := (3 : Int32)) hx hb dX8_digest_71 (by decide) ?_
        refine lv_aload_n hx hb dX8_digest_72 rfl (lv_at hl 0 rfl) ?_
        refine x_get (ci := 7) C hw inX8 rfl 0 (by decide) lkF_X8_7 rfl 0 rfl rfl dX8_digest_73 ?_
        refine lv_iconst (v := (0 : Int32)) hx hb dX8_digest_76 (by decide) ?_
        refine x_ialk C hw 1 0 rfl rfl (k := 0) (by decide) (vp_in_iff.mpr (by decide)) dX8_digest_77 ?_
        refine lv_imul hx hb dX8_digest_78 ?_
        refine lv_icmp_ge (tgt := 102) hx hb dX8_digest_79 (by decide) (fun b9 => ?_) (fun b9 => ?_)
        · replace h := xb_tt b9 h
          obtain rfl := Option.some.inj h
          exact k _ _ _ hw (lv_sub hl [0] rfl)
        · replace h := xb_ff b9 h
          refine lv_aload_n hx hb dX8_digest_82 rfl (lv_at hl 0 rfl) ?_
          refine lv_aload_n hx hb dX8_digest_83 rfl (lv_at hl 0 rfl) ?_
          refine lv_iload_n hx hb dX8_digest_84 rfl (lv_at hl 1 rfl) ?_
          refine lv_iconst (v := (3 : Int32)) hx hb dX8_digest_85 (by decide) ?_
          refine lv_idiv hx hb dX8_digest_86 (by decide) ?_
          refine lv_iload_n hx hb dX8_digest_87 rfl (lv_at hl 1 rfl) ?_
          refine lv_iconst (v := (3 : Int32)) hx hb dX8_digest_88 (by decide) ?_
          refine lv_irem hx hb dX8_digest_89 (by decide) ?_
          obtain ⟨⟨m_figures_39, m_isLaid_40, m_many_41, m_isMade_42, m_made_43, m_images_44, m_orbits_45, m_chains_46, r_47⟩, q10, h⟩ := xn_i h
          refine x_callVi (As := [.int (v1_29 / (3 : Int32)), .int (v1_29 - v1_29 / (3 : Int32) * (3 : Int32))]) (rest := [.ref m_ad]) C hw gc_X8_140 ⟨rfl, rfl, ds_X8_ofPoint, (by rw [hR]; exact Nat.le_of_ble_eq_true rfl), (by rw [hR]; exact Nat.le_of_ble_eq_true rfl), Nat.zero_le _, Nat.zero_le _⟩ (c_X8_ofPoint l dC dI cI cZ cB cO m_ad m_p m_now m_held m_past m_pasts m_refused m_figures_20 m_isLaid_21 m_many_22 m_isMade_23 m_made_24 m_images_25 m_orbits_26 m_chains_27 m_isCarried m_carried m_carriedMany m_isSorted m_leasts m_heads m_headFrom m_text m_typed m_at m_fault m_orders m_pointsThen m_letters m_numbers m_h_28 (v1_29 / (3 : Int32)) (v1_29 - v1_29 / (3 : Int32) * (3 : Int32)) _ q10 _) [0, 1, 2, 3, 4, 5, 6, 7, 8, 9, 10, 11, 12, 13, 14, 15, 16, 17, 18] [] (by decide) rfl rfl (by decide) (by decide) rfl rfl rfl hl.1 rfl (Nat.le_of_ble_eq_true rfl) dX8_digest_90 (fun H locs hw => ?_)
          have hw : xWd (dC, dI) A s.heap H locs (wM cI cZ cB cO m_ad m_p m_now m_held m_past m_pasts m_refused m_figures_39 m_isLaid_40 m_many_41 m_isMade_42 m_made_43 m_images_44 m_orbits_45 m_chains_46 m_isCarried m_carried m_carriedMany m_isSorted m_leasts m_heads m_headFrom m_text m_typed m_at m_fault m_orders m_pointsThen m_letters m_numbers m_h_28) := hw
          obtain ⟨m_h_48, q11, h⟩ := xn_i h
          refine x_callVv (As := [.int r_47]) (rest := []) C hw gc_X8_219 ⟨rfl, rfl, ds_X8_mix, (by rw [hR]; exact Nat.le_of_ble_eq_true rfl), (by rw [hR]; exact Nat.le_of_ble_eq_true rfl), Nat.zero_le _, Nat.zero_le _⟩ (c_X8_mix l dC dI cI cZ cB cO m_ad m_p m_now m_held m_past m_pasts m_refused m_figures_39 m_isLaid_40 m_many_41 m_isMade_42 m_made_43 m_images_44 m_orbits_45 m_chains_46 m_isCarried m_carried m_carriedMany m_isSorted m_leasts m_heads m_headFrom m_text m_typed m_at m_fault m_orders m_pointsThen m_letters m_numbers m_h_28 r_47 _ q11 _) [0, 1, 2, 3, 4, 5, 6, 7, 8, 9, 10, 11, 12, 13, 14, 15, 16, 17, 18] [] (by decide) rfl rfl (by decide) (by decide) rfl rfl rfl hl.1 rfl (Nat.le_of_ble_eq_true rfl) dX8_digest_93 (fun H locs hw => ?_)
          have hw : xWd (dC, dI) A s.heap H locs (wM cI cZ cB cO m_ad m_p m_now m_held m_past m_pasts m_refused m_figures_39 m_isLaid_40 m_many_41 m_isMade_42 m_made_43 m_images_44 m_orbits_45 m_chains_46 m_isCarried m_carried m_carriedMany m_isSorted m_leasts m_heads m_headFrom m_text m_typed m_at m_fault m_orders m_pointsThen m_letters m_numbers m_h_48) := hw
          refine lv_iinc (v := (v1_29 + (1 : Int32))) (lv' := [(1, .int (v1_29 + (1 : Int32))), (0, .ref m_ad)]) hx hb dX8_digest_96 hl (k := 1) rfl (congrArg (fun q => v1_29 + q) (by decide)) (by decide) rfl (fun ls hl => ?_)
          refine lv_goto (tgt := 70) hx hb dX8_digest_99 (by decide) ?_
          obtain rfl := Option.some.inj h
          exact k _ _ _ hw (lv_sub hl [1, 0] rfl)
      · obtain ⟨m_figures_30, m_isLaid_31, m_many_32, m_isMade_33, m_made_34, m_images_35, m_orbits_36, m_chains_37, m_h_38⟩ := z
        intro H locs ls hw hl
        have hw : xWd (dC, dI) A s.heap H locs (wM cI cZ cB cO m_ad m_p m_now m_held m_past m_pasts m_refused m_figures_30 m_isLaid_31 m_many_32 m_isMade_33 m_made_34 m_images_35 m_orbits_36 m_chains_37 m_isCarried m_carried m_carriedMany m_isSorted m_leasts m_heads m_headFrom m_text m_typed m_at m_fault m_orders m_pointsThen m_letters m_numbers m_h_38) := hw
        have hl : lv_has ls 4 [(0, .ref m_ad)] := hl
        refine lv_iconst (v := (0 : Int32)) hx hb dX8_digest_102 (by decide) ?_
        refine lv_istore_n (lv' := [(1, .int (0 : Int32)), (0, .ref m_ad)]) hx hb dX8_digest_103 rfl hl (by decide) rfl (fun ls hl => ?_)
        obtain ⟨z, hr, h⟩ := xn_i h
        refine xL_w (fun (z : (Nat → Int32) × (Nat → Int32) × (Nat → Int32) × Int32 × Int32 × (Nat → Int32) × (Nat → Int32) × (Nat → Int32) × Int64 × Int32) => ∀ (H : Heap) (locs : List Loc) (ls : Array Slot), xWd (dC, dI) A s.heap H locs (wM cI cZ cB cO m_ad m_p m_now m_held m_past m_pasts m_refused z.1 m_isLaid_31 m_many_32 m_isMade_33 m_made_34 m_images_35 m_orbits_36 m_chains_37 z.2.1 z.2.2.1 z.2.2.2.1 z.2.2.2.2.1 z.2.2.2.2.2.1 z.2.2.2.2.2.2.1 z.2.2.2.2.2.2.2.1 m_text m_typed m_at m_fault m_orders m_pointsThen m_letters m_numbers z.2.2.2.2.2.2.2.2.1) → lv_has ls 4 [(0, .ref m_ad), (1, .int z.2.2.2.2.2.2.2.2.2)] → W p l e R s m args below meth c H locs 0 0 Q (F0 m 104 ls [])) (fun (z : (Nat → Int32) × (Nat → Int32) × (Nat → Int32) × Int32 × Int32 × (Nat → Int32) × (Nat → Int32) × (Nat → Int32) × Int64) => ∀ (H : Heap) (locs : List Loc) (ls : Array Slot), xWd (dC, dI) A s.heap H locs (wM cI cZ cB cO m_ad m_p m_now m_held m_past m_pasts m_refused z.1 m_isLaid_31 m_many_32 m_isMade_33 m_made_34 m_images_35 m_orbits_36 m_chains_37 z.2.1 z.2.2.1 z.2.2.2.1 z.2.2.2.2.1 z.2.2.2.2.2.1 z.2.2.2.2.2.2.1 z.2.2.2.2.2.2.2.1 m_text m_typed m_at m_fault m_orders m_pointsThen m_letters m_numbers z.2.2.2.2.2.2.2.2) → lv_has ls 4 [(0, .ref m_ad)] → W p l e R s m args below meth c H locs 0 0 Q (F0 m 155 ls [])) ?_ hr ?_ _ _ _ hw (lv_sub hl [1, 0] rfl)
        · rintro ⟨m_figures_49, m_isCarried_50, m_carried_51, m_carriedMany_52, m_isSorted_53, m_leasts_54, m_heads_55, m_headFrom_56, m_h_57, v1_58⟩ o h k H locs ls hw hl
          have hw : xWd (dC, dI) A s.heap H locs (wM cI cZ cB cO m_ad m_p m_now m_held m_past m_pasts m_refused m_figures_49 m_isLaid_31 m_many_32 m_isMade_33 m_made_34 m_images_35 m_orbits_36 m_chains_37 m_isCarried_50 m_carried_51 m_carriedMany_52 m_isSorted_53 m_leasts_54 m_heads_55 m_headFrom_56 m_text m_typed m_at m_fault m_orders m_pointsThen m_letters m_numbers m_h_57) := hw
          have hl : lv_has ls 4 [(0, .ref m_ad), (1, .int v1_58)] := hl
          refine lv_iload_n hx hb dX8_digest_104 rfl (lv_at hl 1 rfl) ?_
          refine lv_aload_n hx hb dX8_digest_105 rfl (lv_at hl 0 rfl) ?_
          refine x_get (ci := 7) C hw inX8 rfl 0 (by decide) lkF_X8_7 rfl 0 rfl rfl dX8_digest_106 ?_
          refine lv_iconst (v := (0 : Int32)) hx hb dX8_digest_109 (by decide) ?_
          refine x_ialk C hw 1 0 rfl rfl (k := 0) (by decide) (vp_in_iff.mpr (by decide)) dX8_digest_110 ?_
          refine lv_icmp_gt (tgt := 155) hx hb dX8_digest_111 (by decide) (fun b12 => ?_) (fun b12 => ?_)
          · replace h := xb_tt b12 h
            obtain rfl := Option.some.inj h
            exact k _ _ _ hw (lv_sub hl [0] rfl)
          · replace h := xb_ff b12 h
            refine lv_aload_n hx hb dX8_digest_114 rfl (lv_at hl 0 rfl) ?_
            refine lv_iload_n hx hb dX8_digest_115 rfl (lv_at hl 1 rfl) ?_
            refine lv_iconst (v := (-1 : Int32)) hx hb dX8_digest_116 (by decide) ?_
            obtain ⟨⟨m_figures_68, m_isCarried_69, m_carried_70, m_carriedMany_71, m_isSorted_72, m_leasts_73, m_heads_74, m_headFrom_75, r_76⟩, q13, h⟩ := xn_i h
            refine x_callVi (As := [.int v1_58, .int (-1 : Int32)]) (rest := []) C hw gc_X8_171 ⟨rfl, rfl, ds_X8_headsOf, (by rw [hR]; exact Nat.le_of_ble_eq_true rfl), (by rw [hR]; exact Nat.le_of_ble_eq_true rfl), Nat.zero_le _, Nat.zero_le _⟩ (c_X8_headsOf l dC dI cI cZ cB cO m_ad m_p m_now m_held m_past m_pasts m_refused m_figures_49 m_isLaid_31 m_many_32 m_isMade_33 m_made_34 m_images_35 m_orbits_36 m_chains_37 m_isCarried_50 m_carried_51 m_carriedMany_52 m_isSorted_53 m_leasts_54 m_heads_55 m_headFrom_56 m_text m_typed m_at m_fault m_orders m_pointsThen m_letters m_numbers m_h_57 v1_58 (-1 : Int32) _ q13 _) [0, 1, 2, 3, 4, 5, 6, 7, 8, 9, 10, 11, 12, 13, 14, 15, 16, 17, 18] [] (by decide) rfl rfl (by decide) (by decide) rfl rfl rfl hl.1 rfl (Nat.le_of_ble_eq_true rfl) dX8_digest_117 (fun H locs hw => ?_)
            have hw : xWd (dC, dI) A s.heap H locs (wM cI cZ cB cO m_ad m_p m_now m_held m_past m_pasts m_refused m_figures_68 m_isLaid_31 m_many_32 m_isMade_33 m_made_34 m_images_35 m_orbits_36 m_chains_37 m_isCarried_69 m_carried_70 m_carriedMany_71 m_isSorted_72 m_leasts_73 m_heads_74 m_headFrom_75 m_text m_typed m_at m_fault m_orders m_pointsThen m_letters m_numbers m_h_57) := hw
            refine lv_istore_n (lv' := [(2, .int r_76), (0, .ref m_ad), (1, .int v1_58)]) hx hb dX8_digest_120 rfl hl (by decide) rfl (fun ls hl => ?_)
            refine lv_aload_n hx hb dX8_digest_121 rfl (lv_at hl 1 rfl) ?_
            refine lv_iload_n hx hb dX8_digest_122 rfl (lv_at hl 0 rfl) ?_
            obtain ⟨m_h_77, q14, h⟩ := xn_i h
            refine x_callVv (As := [.int r_76]) (rest := []) C hw gc_X8_219 ⟨rfl, rfl, ds_X8_mix, (by rw [hR]; exact Nat.le_of_ble_eq_true rfl), (by rw [hR]; exact Nat.le_of_ble_eq_true rfl), Nat.zero_le _, Nat.zero_le _⟩ (c_X8_mix l dC dI cI cZ cB cO m_ad m_p m_now m_held m_past m_pasts m_refused m_figures_68 m_isLaid_31 m_many_32 m_isMade_33 m_made_34 m_images_35 m_orbits_36 m_chains_37 m_isCarried_69 m_carried_70 m_carriedMany_71 m_isSorted_72 m_leasts_73 m_heads_74 m_headFrom_75 m_text m_typed m_at m_fault m_orders m_pointsThen m_letters m_numbers m_h_57 r_76 _ q14 _) [0, 1, 2, 3, 4, 5, 6, 7, 8, 9, 10, 11, 12, 13, 14, 15, 16, 17, 18] [] (by decide) rfl rfl (by decide) (by decide) rfl rfl rfl hl.1 rfl (Nat.le_of_ble_eq_true rfl) dX8_digest_123 (fun H locs hw => ?_)
            have hw : xWd (dC, dI) A s.heap H locs (wM cI cZ cB cO m_ad m_p m_now m_held m_past m_pasts m_refused m_figures_68 m_isLaid_31 m_many_32 m_isMade_33 m_made_34 m_images_35 m_orbits_36 m_chains_37 m_isCarried_69 m_carried_70 m_carriedMany_71 m_isSorted_72 m_leasts_73 m_heads_74 m_headFrom_75 m_text m_typed m_at m_fault m_orders m_pointsThen m_letters m_numbers m_h_77) := hw
            refine lv_iconst (v := (0 : Int32)) hx hb dX8_digest_126 (by decide) ?_
            refine lv_istore_n (lv' := [(3, .int (0 : Int32)), (2, .int r_76), (0, .ref m_ad), (1, .int v1_58)]) hx hb dX8_digest_127 rfl hl (by decide) rfl (fun ls hl => ?_)
            obtain ⟨z, hr, h⟩ := xn_i h
            refine xL_w (fun (z : (Nat → Int32) × (Nat → Int32) × (Nat → Int32) × Int32 × Int32 × (Nat → Int32) × (Nat → Int32) × (Nat → Int32) × Int64 × Int32) => ∀ (H : Heap) (locs : List Loc) (ls : Array Slot), xWd (dC, dI) A s.heap H locs (wM cI cZ cB cO m_ad m_p m_now m_held m_past m_pasts m_refused z.1 m_isLaid_31 m_many_32 m_isMade_33 m_made_34 m_images_35 m_orbits_36 m_chains_37 z.2.1 z.2.2.1 z.2.2.2.1 z.2.2.2.2.1 z.2.2.2.2.2.1 z.2.2.2.2.2.2.1 z.2.2.2.2.2.2.2.1 m_text m_typed m_at m_fault m_orders m_pointsThen m_letters m_numbers z.2.2.2.2.2.2.2.2.1) → lv_has ls 4 [(0, .ref m_ad), (1, .int v1_58), (2, .int r_76), (3, .int z.2.2.2.2.2.2.2.2.2)] → W p l e R s m args below meth c H locs 0 0 Q (F0 m 128 ls [])) (fun (z : (Nat → Int32) × (Nat → Int32) × (Nat → Int32) × Int32 × Int32 × (Nat → Int32) × (Nat → Int32) × (Nat → Int32) × Int64) => ∀ (H : Heap) (locs : List Loc) (ls : Array Slot), xWd (dC, dI) A s.heap H locs (wM cI cZ cB cO m_ad m_p m_now m_held m_past m_pasts m_refused z.1 m_isLaid_31 m_many_32 m_isMade_33 m_made_34 m_images_35 m_orbits_36 m_chains_37 z.2.1 z.2.2.1 z.2.2.2.1 z.2.2.2.2.1 z.2.2.2.2.2.1 z.2.2.2.2.2.2.1 z.2.2.2.2.2.2.2.1 m_text m_typed m_at m_fault m_orders m_pointsThen m_letters m_numbers z.2.2.2.2.2.2.2.2) → lv_has ls 4 [(0, .ref m_ad), (1, .int v1_58)] → W p l e R s m args below meth c H locs 0 0 Q (F0 m 149 ls [])) ?_ hr ?_ _ _ _ hw (lv_sub hl [2, 3, 1, 0] rfl)
            · rintro ⟨m_figures_78, m_isCarried_79, m_carried_80, m_carriedMany_81, m_isSorted_82, m_leasts_83, m_heads_84, m_headFrom_85, m_h_86, v3_87⟩ o h k H locs ls hw hl
              have hw : xWd (dC, dI) A s.heap H locs (wM cI cZ cB cO m_ad m_p m_now m_held m_past m_pasts m_refused m_figures_78 m_isLaid_31 m_many_32 m_isMade_33 m_made_34 m_images_35 m_orbits_36 m_chains_37 m_isCarried_79 m_carried_80 m_carriedMany_81 m_isSorted_82 m_leasts_83 m_heads_84 m_headFrom_85 m_text m_typed m_at m_fault m_orders m_pointsThen m_letters m_numbers m_h_86) := hw
              have hl : lv_has ls 4 [(0, .ref m_ad), (1, .int v1_58), (2, .int r_76), (3, .int v3_87)] := hl
              refine lv_iload_n hx hb dX8_digest_128 rfl (lv_at hl 3 rfl) ?_
              refine lv_iload_n hx hb dX8_digest_129 rfl (lv_at hl 2 rfl) ?_
              refine lv_icmp_ge (tgt := 149) hx hb dX8_digest_130 (by decide) (fun b15 => ?_) (fun b15 => ?_)
              · replace h := xb_tt b15 h
                obtain rfl := Option.some.inj h
                exact k _ _ _ hw (lv_sub hl [0, 1] rfl)
              · replace h := xb_ff b15 h
                refine lv_aload_n hx hb dX8_digest_133 rfl (lv_at hl 0 rfl) ?_
                refine lv_aload_n hx hb dX8_digest_134 rfl (lv_at hl 0 rfl) ?_
                refine lv_iload_n hx hb dX8_digest_135 rfl (lv_at hl 1 rfl) ?_
                refine lv_iload_n hx hb dX8_digest_136 rfl (lv_at hl 3 rfl) ?_
                obtain ⟨⟨m_figures_97, m_isCarried_98, m_carried_99, m_carriedMany_100, m_isSorted_101, m_leasts_102, m_heads_103, m_headFrom_104, r_105⟩, q16, h⟩ := xn_i h
                refine x_callVi (As := [.int v1_58, .int v3_87]) (rest := [.ref m_ad]) C hw gc_X8_171 ⟨rfl, rfl, ds_X8_headsOf, (by rw [hR]; exact Nat.le_of_ble_eq_true rfl), (by rw [hR]; exact Nat.le_of_ble_eq_true rfl), Nat.zero_le _, Nat.zero_le _⟩ (c_X8_headsOf l dC dI cI cZ cB cO m_ad m_p m_now m_held m_past m_pasts m_refused m_figures_78 m_isLaid_31 m_many_32 m_isMade_33 m_made_34 m_images_35 m_orbits_36 m_chains_37 m_isCarried_79 m_carried_80 m_carriedMany_81 m_isSorted_82 m_leasts_83 m_heads_84 m_headFrom_85 m_text m_typed m_at m_fault m_orders m_pointsThen m_letters m_numbers m_h_86 v1_58 v3_87 _ q16 _) [0, 1, 2, 3, 4, 5, 6, 7, 8, 9, 10, 11, 12, 13, 14, 15, 16, 17, 18] [] (by decide) rfl rfl (by decide) (by decide) rfl rfl rfl hl.1 rfl (Nat.le_of_ble_eq_true rfl) dX8_digest_137 (fun H locs hw => ?_)
                have hw : xWd (dC, dI) A s.heap H locs (wM cI cZ cB cO m_ad m_p m_now m_held m_past m_pasts m_refused m_figures_97 m_isLaid_31 m_many_32 m_isMade_33 m_made_34 m_images_35 m_orbits_36 m_chains_37 m_isCarried_98 m_carried_99 m_carriedMany_100 m_isSorted_101 m_leasts_102 m_heads_103 m_headFrom_104 m_text m_typed m_at m_fault m_orders m_pointsThen m_letters m_numbers m_h_86) := hw
                obtain ⟨m_h_106, q17, h⟩ := xn_i h
                refine x_callVv (As := [.int r_105]) (rest := []) C hw gc_X8_219 ⟨rfl, rfl, ds_X8_mix, (by rw [hR]; exact Nat.le_of_ble_eq_true rfl), (by rw [hR]; exact Nat.le_of_ble_eq_true rfl), Nat.zero_le _, Nat.zero_le _⟩ (c_X8_mix l dC dI cI cZ cB cO m_ad m_p m_now m_held m_past m_pasts m_refused m_figures_97 m_isLaid_31 m_many_32 m_isMade_33 m_made_34 m_images_35 m_orbits_36 m_chains_37 m_isCarried_98 m_carried_99 m_carriedMany_100 m_isSorted_101 m_leasts_102 m_heads_103 m_headFrom_104 m_text m_typed m_at m_fault m_orders m_pointsThen m_letters m_numbers m_h_86 r_105 _ q17 _) [0, 1, 2, 3, 4, 5, 6, 7, 8, 9, 10, 11, 12, 13, 14, 15, 16, 17, 18] [] (by decide) rfl rfl (by decide) (by decide) rfl rfl rfl hl.1 rfl (Nat.le_of_ble_eq_true rfl) dX8_digest_140 (fun H locs hw => ?_)
                have hw : xWd (dC, dI) A s.heap H locs (wM cI cZ cB cO m_ad m_p m_now m_held m_past m_pasts m_refused m_figures_97 m_isLaid_31 m_many_32 m_isMade_33 m_made_34 m_images_35 m_orbits_36 m_chains_37 m_isCarried_98 m_carried_99 m_carriedMany_100 m_isSorted_101 m_leasts_102 m_heads_103 m_headFrom_104 m_text m_typed m_at m_fault m_orders m_pointsThen m_letters m_numbers m_h_106) := hw
                refine lv_iinc (v := (v3_87 + (1 : Int32))) (lv' := [(3, .int (v3_87 + (1 : Int32))), (0, .ref m_ad), (1, .int v1_58), (2, .int r_76)]) hx hb dX8_digest_143 hl (k := 3) rfl (congrArg (fun q => v3_87 + q) (by decide)) (by decide) rfl (fun ls hl => ?_)
                refine lv_goto (tgt := 128) hx hb dX8_digest_146 (by decide) ?_
                obtain rfl := Option.some.inj h
                exact k _ _ _ hw (lv_sub hl [1, 2, 3, 0] rfl)
            · obtain ⟨m_figures_88, m_isCarried_89, m_carried_90, m_carriedMany_91, m_isSorted_92, m_leasts_93, m_heads_94, m_headFrom_95, m_h_96⟩ := z
              intro H locs ls hw hl
              have hw : xWd (dC, dI) A s.heap H locs (wM cI cZ cB cO m_ad m_p m_now m_held m_past m_pasts m_refused m_figures_88 m_isLaid_31 m_many_32 m_isMade_33 m_made_34 m_images_35 m_orbits_36 m_chains_37 m_isCarried_89 m_carried_90 m_carriedMany_91 m_isSorted_92 m_leasts_93 m_heads_94 m_headFrom_95 m_text m_typed m_at m_fault m_orders m_pointsThen m_letters m_numbers m_h_96) := hw
              have hl : lv_has ls 4 [(0, .ref m_ad), (1, .int v1_58)] := hl
              refine lv_iinc (v := (v1_58 + (1 : Int32))) (lv' := [(1, .int (v1_58 + (1 : Int32))), (0, .ref m_ad)]) hx hb dX8_digest_149 hl (k := 1) rfl (congrArg (fun q => v1_58 + q) (by decide)) (by decide) rfl (fun ls hl => ?_)
              refine lv_goto (tgt := 104) hx hb dX8_digest_152 (by decide) ?_
              obtain rfl := Option.some.inj h
              exact k _ _ _ hw (lv_sub hl [1, 0] rfl)
        · obtain ⟨m_figures_59, m_isCarried_60, m_carried_61, m_carriedMany_62, m_isSorted_63, m_leasts_64, m_heads_65, m_headFrom_66, m_h_67⟩ := z
          intro H locs ls hw hl
          have hw : xWd (dC, dI) A s.heap H locs (wM cI cZ cB cO m_ad m_p m_now m_held m_past m_pasts m_refused m_figures_59 m_isLaid_31 m_many_32 m_isMade_33 m_made_34 m_images_35 m_orbits_36 m_chains_37 m_isCarried_60 m_carried_61 m_carriedMany_62 m_isSorted_63 m_leasts_64 m_heads_65 m_headFrom_66 m_text m_typed m_at m_fault m_orders m_pointsThen m_letters m_numbers m_h_67) := hw
          have hl : lv_has ls 4 [(0, .ref m_ad)] := hl
          refine lv_aload_n hx hb dX8_digest_155 rfl (lv_at hl 0 rfl) ?_
          refine x_get (ci := 7) C hw inX8 rfl 28 (by decide) lkF_X8_213 rfl 0 rfl rfl dX8_digest_156 ?_
          obtain rfl := Option.some.inj h
          exact x_retl C hQ hA hw dX8_digest_159
