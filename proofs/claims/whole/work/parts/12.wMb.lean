theorem dX8_lay_0 : decode cX8_lay 0 = .ok (.aload_n 0, 1) := by decide +kernel
theorem dX8_lay_1 : decode cX8_lay 1 = .ok (.getfield 77, 3) := by decide +kernel
theorem dX8_lay_4 : decode cX8_lay 4 = .ok (.ifCond .eq 4, 3) := by decide +kernel
theorem dX8_lay_7 : decode cX8_lay 7 = .ok (.return_, 1) := by decide +kernel
theorem dX8_lay_8 : decode cX8_lay 8 = .ok (.aload_n 0, 1) := by decide +kernel
theorem dX8_lay_9 : decode cX8_lay 9 = .ok (.iconst 1, 1) := by decide +kernel
theorem dX8_lay_10 : decode cX8_lay 10 = .ok (.putfield 77, 3) := by decide +kernel
theorem dX8_lay_13 : decode cX8_lay 13 = .ok (.iconst 0, 1) := by decide +kernel
theorem dX8_lay_14 : decode cX8_lay 14 = .ok (.istore_n 1, 1) := by decide +kernel
theorem dX8_lay_15 : decode cX8_lay 15 = .ok (.iload_n 1, 1) := by decide +kernel
theorem dX8_lay_16 : decode cX8_lay 16 = .ok (.ldc 25, 2) := by decide +kernel
theorem dX8_lay_18 : decode cX8_lay 18 = .ok (.if_icmp .ge 16, 3) := by decide +kernel
theorem dX8_lay_21 : decode cX8_lay 21 = .ok (.aload_n 0, 1) := by decide +kernel
theorem dX8_lay_22 : decode cX8_lay 22 = .ok (.getfield 26, 3) := by decide +kernel
theorem dX8_lay_25 : decode cX8_lay 25 = .ok (.iload_n 1, 1) := by decide +kernel
theorem dX8_lay_26 : decode cX8_lay 26 = .ok (.iconst 0, 1) := by decide +kernel
theorem dX8_lay_27 : decode cX8_lay 27 = .ok (.bastore, 1) := by decide +kernel
theorem dX8_lay_28 : decode cX8_lay 28 = .ok (.iinc 1 1, 3) := by decide +kernel
theorem dX8_lay_31 : decode cX8_lay 31 = .ok (.goto (-16), 3) := by decide +kernel
theorem dX8_lay_34 : decode cX8_lay 34 = .ok (.iconst 0, 1) := by decide +kernel
theorem dX8_lay_35 : decode cX8_lay 35 = .ok (.istore_n 1, 1) := by decide +kernel
theorem dX8_lay_36 : decode cX8_lay 36 = .ok (.iload_n 1, 1) := by decide +kernel
theorem dX8_lay_37 : decode cX8_lay 37 = .ok (.aload_n 0, 1) := by decide +kernel
theorem dX8_lay_38 : decode cX8_lay 38 = .ok (.getfield 7, 3) := by decide +kernel
theorem dX8_lay_41 : decode cX8_lay 41 = .ok (.iconst 1, 1) := by decide +kernel
theorem dX8_lay_42 : decode cX8_lay 42 = .ok (.iaload, 1) := by decide +kernel
theorem dX8_lay_43 : decode cX8_lay 43 = .ok (.if_icmp .ge 56, 3) := by decide +kernel
theorem dX8_lay_46 : decode cX8_lay 46 = .ok (.aload_n 0, 1) := by decide +kernel
theorem dX8_lay_47 : decode cX8_lay 47 = .ok (.aload_n 0, 1) := by decide +kernel
theorem dX8_lay_48 : decode cX8_lay 48 = .ok (.getfield 7, 3) := by decide +kernel
theorem dX8_lay_51 : decode cX8_lay 51 = .ok (.iconst 2, 1) := by decide +kernel
theorem dX8_lay_52 : decode cX8_lay 52 = .ok (.iload_n 1, 1) := by decide +kernel
theorem dX8_lay_53 : decode cX8_lay 53 = .ok (.iadd, 1) := by decide +kernel
theorem dX8_lay_54 : decode cX8_lay 54 = .ok (.iaload, 1) := by decide +kernel
theorem dX8_lay_55 : decode cX8_lay 55 = .ok (.invokevirtual 88, 3) := by decide +kernel
theorem dX8_lay_58 : decode cX8_lay 58 = .ok (.iconst 0, 1) := by decide +kernel
theorem dX8_lay_59 : decode cX8_lay 59 = .ok (.istore_n 2, 1) := by decide +kernel
theorem dX8_lay_60 : decode cX8_lay 60 = .ok (.iload_n 2, 1) := by decide +kernel
theorem dX8_lay_61 : decode cX8_lay 61 = .ok (.aload_n 0, 1) := by decide +kernel
theorem dX8_lay_62 : decode cX8_lay 62 = .ok (.getfield 7, 3) := by decide +kernel
theorem dX8_lay_65 : decode cX8_lay 65 = .ok (.iconst 0, 1) := by decide +kernel
theorem dX8_lay_66 : decode cX8_lay 66 = .ok (.iaload, 1) := by decide +kernel
theorem dX8_lay_67 : decode cX8_lay 67 = .ok (.if_icmp .ge 26, 3) := by decide +kernel
theorem dX8_lay_70 : decode cX8_lay 70 = .ok (.aload_n 0, 1) := by decide +kernel
theorem dX8_lay_71 : decode cX8_lay 71 = .ok (.getfield 33, 3) := by decide +kernel
theorem dX8_lay_74 : decode cX8_lay 74 = .ok (.bipush 8, 2) := by decide +kernel
theorem dX8_lay_76 : decode cX8_lay 76 = .ok (.iload_n 1, 1) := by decide +kernel
theorem dX8_lay_77 : decode cX8_lay 77 = .ok (.imul, 1) := by decide +kernel
theorem dX8_lay_78 : decode cX8_lay 78 = .ok (.iload_n 2, 1) := by decide +kernel
theorem dX8_lay_79 : decode cX8_lay 79 = .ok (.iadd, 1) := by decide +kernel
theorem dX8_lay_80 : decode cX8_lay 80 = .ok (.aload_n 0, 1) := by decide +kernel
theorem dX8_lay_81 : decode cX8_lay 81 = .ok (.getfield 22, 3) := by decide +kernel
theorem dX8_lay_84 : decode cX8_lay 84 = .ok (.iload_n 2, 1) := by decide +kernel
theorem dX8_lay_85 : decode cX8_lay 85 = .ok (.iaload, 1) := by decide +kernel
theorem dX8_lay_86 : decode cX8_lay 86 = .ok (.iastore, 1) := by decide +kernel
theorem dX8_lay_87 : decode cX8_lay 87 = .ok (.iinc 2 1, 3) := by decide +kernel
theorem dX8_lay_90 : decode cX8_lay 90 = .ok (.goto (-30), 3) := by decide +kernel
theorem dX8_lay_93 : decode cX8_lay 93 = .ok (.iinc 1 1, 3) := by decide +kernel
theorem dX8_lay_96 : decode cX8_lay 96 = .ok (.goto (-60), 3) := by decide +kernel
theorem dX8_lay_99 : decode cX8_lay 99 = .ok (.aload_n 0, 1) := by decide +kernel
theorem dX8_lay_100 : decode cX8_lay 100 = .ok (.iconst 0, 1) := by decide +kernel
theorem dX8_lay_101 : decode cX8_lay 101 = .ok (.putfield 111, 3) := by decide +kernel
theorem dX8_lay_104 : decode cX8_lay 104 = .ok (.aload_n 0, 1) := by decide +kernel
theorem dX8_lay_105 : decode cX8_lay 105 = .ok (.iconst 0, 1) := by decide +kernel
theorem dX8_lay_106 : decode cX8_lay 106 = .ok (.invokevirtual 114, 3) := by decide +kernel
theorem dX8_lay_109 : decode cX8_lay 109 = .ok (.iconst 0, 1) := by decide +kernel
theorem dX8_lay_110 : decode cX8_lay 110 = .ok (.istore_n 1, 1) := by decide +kernel
theorem dX8_lay_111 : decode cX8_lay 111 = .ok (.iload_n 1, 1) := by decide +kernel
theorem dX8_lay_112 : decode cX8_lay 112 = .ok (.aload_n 0, 1) := by decide +kernel
theorem dX8_lay_113 : decode cX8_lay 113 = .ok (.getfield 111, 3) := by decide +kernel
theorem dX8_lay_116 : decode cX8_lay 116 = .ok (.if_icmp .ge 86, 3) := by decide +kernel
theorem dX8_lay_119 : decode cX8_lay 119 = .ok (.iconst 0, 1) := by decide +kernel
theorem dX8_lay_120 : decode cX8_lay 120 = .ok (.istore_n 2, 1) := by decide +kernel
theorem dX8_lay_121 : decode cX8_lay 121 = .ok (.iload_n 2, 1) := by decide +kernel
theorem dX8_lay_122 : decode cX8_lay 122 = .ok (.aload_n 0, 1) := by decide +kernel
theorem dX8_lay_123 : decode cX8_lay 123 = .ok (.getfield 7, 3) := by decide +kernel
theorem dX8_lay_126 : decode cX8_lay 126 = .ok (.iconst 1, 1) := by decide +kernel
theorem dX8_lay_127 : decode cX8_lay 127 = .ok (.iaload, 1) := by decide +kernel
theorem dX8_lay_128 : decode cX8_lay 128 = .ok (.if_icmp .ge 68, 3) := by decide +kernel
theorem dX8_lay_131 : decode cX8_lay 131 = .ok (.aload_n 0, 1) := by decide +kernel
theorem dX8_lay_132 : decode cX8_lay 132 = .ok (.aload_n 0, 1) := by decide +kernel
theorem dX8_lay_133 : decode cX8_lay 133 = .ok (.getfield 30, 3) := by decide +kernel
theorem dX8_lay_136 : decode cX8_lay 136 = .ok (.iload_n 1, 1) := by decide +kernel
theorem dX8_lay_137 : decode cX8_lay 137 = .ok (.iaload, 1) := by decide +kernel
theorem dX8_lay_138 : decode cX8_lay 138 = .ok (.invokevirtual 117, 3) := by decide +kernel
theorem dX8_lay_141 : decode cX8_lay 141 = .ok (.pop, 1) := by decide +kernel
theorem dX8_lay_142 : decode cX8_lay 142 = .ok (.iconst 0, 1) := by decide +kernel
theorem dX8_lay_143 : decode cX8_lay 143 = .ok (.istore_n 3, 1) := by decide +kernel
theorem dX8_lay_144 : decode cX8_lay 144 = .ok (.iload_n 3, 1) := by decide +kernel
theorem dX8_lay_145 : decode cX8_lay 145 = .ok (.aload_n 0, 1) := by decide +kernel
theorem dX8_lay_146 : decode cX8_lay 146 = .ok (.getfield 7, 3) := by decide +kernel
theorem dX8_lay_149 : decode cX8_lay 149 = .ok (.iconst 0, 1) := by decide +kernel
theorem dX8_lay_150 : decode cX8_lay 150 = .ok (.iaload, 1) := by decide +kernel
theorem dX8_lay_151 : decode cX8_lay 151 = .ok (.if_icmp .ge 31, 3) := by decide +kernel
theorem dX8_lay_154 : decode cX8_lay 154 = .ok (.aload_n 0, 1) := by decide +kernel
theorem dX8_lay_155 : decode cX8_lay 155 = .ok (.getfield 22, 3) := by decide +kernel
theorem dX8_lay_158 : decode cX8_lay 158 = .ok (.iload_n 3, 1) := by decide +kernel
theorem dX8_lay_159 : decode cX8_lay 159 = .ok (.aload_n 0, 1) := by decide +kernel
theorem dX8_lay_160 : decode cX8_lay 160 = .ok (.getfield 33, 3) := by decide +kernel
theorem dX8_lay_163 : decode cX8_lay 163 = .ok (.bipush 8, 2) := by decide +kernel
theorem dX8_lay_165 : decode cX8_lay 165 = .ok (.iload_n 2, 1) := by decide +kernel
theorem dX8_lay_166 : decode cX8_lay 166 = .ok (.imul, 1) := by decide +kernel
theorem dX8_lay_167 : decode cX8_lay 167 = .ok (.aload_n 0, 1) := by decide +kernel
theorem dX8_lay_168 : decode cX8_lay 168 = .ok (.getfield 22, 3) := by decide +kernel
theorem dX8_lay_171 : decode cX8_lay 171 = .ok (.iload_n 3, 1) := by decide +kernel
theorem dX8_lay_172 : decode cX8_lay 172 = .ok (.iaload, 1) := by decide +kernel
theorem dX8_lay_173 : decode cX8_lay 173 = .ok (.iadd, 1) := by decide +kernel
theorem dX8_lay_174 : decode cX8_lay 174 = .ok (.iaload, 1) := by decide +kernel
theorem dX8_lay_175 : decode cX8_lay 175 = .ok (.iastore, 1) := by decide +kernel
theorem dX8_lay_176 : decode cX8_lay 176 = .ok (.iinc 3 1, 3) := by decide +kernel
theorem dX8_lay_179 : decode cX8_lay 179 = .ok (.goto (-35), 3) := by decide +kernel
theorem dX8_lay_182 : decode cX8_lay 182 = .ok (.aload_n 0, 1) := by decide +kernel
theorem dX8_lay_183 : decode cX8_lay 183 = .ok (.aload_n 0, 1) := by decide +kernel
theorem dX8_lay_184 : decode cX8_lay 184 = .ok (.invokevirtual 120, 3) := by decide +kernel
theorem dX8_lay_187 : decode cX8_lay 187 = .ok (.invokevirtual 114, 3) := by decide +kernel
theorem dX8_lay_190 : decode cX8_lay 190 = .ok (.iinc 2 1, 3) := by decide +kernel
theorem dX8_lay_193 : decode cX8_lay 193 = .ok (.goto (-72), 3) := by decide +kernel
theorem dX8_lay_196 : decode cX8_lay 196 = .ok (.iinc 1 1, 3) := by decide +kernel
theorem dX8_lay_199 : decode cX8_lay 199 = .ok (.goto (-88), 3) := by decide +kernel
theorem dX8_lay_202 : decode cX8_lay 202 = .ok (.aload_n 0, 1) := by decide +kernel
theorem dX8_lay_203 : decode cX8_lay 203 = .ok (.invokevirtual 124, 3) := by decide +kernel
theorem dX8_lay_206 : decode cX8_lay 206 = .ok (.aload_n 0, 1) := by decide +kernel
theorem dX8_lay_207 : decode cX8_lay 207 = .ok (.invokevirtual 127, 3) := by decide +kernel
theorem dX8_lay_210 : decode cX8_lay 210 = .ok (.return_, 1) := by decide +kernel
theorem dX8_order_0 : decode cX8_order 0 = .ok (.aload_n 0, 1) := by decide +kernel
theorem dX8_order_1 : decode cX8_order 1 = .ok (.invokevirtual 130, 3) := by decide +kernel
theorem dX8_order_4 : decode cX8_order 4 = .ok (.aload_n 0, 1) := by decide +kernel
theorem dX8_order_5 : decode cX8_order 5 = .ok (.getfield 111, 3) := by decide +kernel
theorem dX8_order_8 : decode cX8_order 8 = .ok (.ireturn, 1) := by decide +kernel
theorem dX8_ofPoint_0 : decode cX8_ofPoint 0 = .ok (.aload_n 0, 1) := by decide +kernel
theorem dX8_ofPoint_1 : decode cX8_ofPoint 1 = .ok (.invokevirtual 130, 3) := by decide +kernel
theorem dX8_ofPoint_4 : decode cX8_ofPoint 4 = .ok (.iload_n 2, 1) := by decide +kernel
theorem dX8_ofPoint_5 : decode cX8_ofPoint 5 = .ok (.ifCond .ne 12, 3) := by decide +kernel
theorem dX8_ofPoint_8 : decode cX8_ofPoint 8 = .ok (.aload_n 0, 1) := by decide +kernel
theorem dX8_ofPoint_9 : decode cX8_ofPoint 9 = .ok (.getfield 36, 3) := by decide +kernel
theorem dX8_ofPoint_12 : decode cX8_ofPoint 12 = .ok (.iload_n 1, 1) := by decide +kernel
theorem dX8_ofPoint_13 : decode cX8_ofPoint 13 = .ok (.iaload, 1) := by decide +kernel
theorem dX8_ofPoint_14 : decode cX8_ofPoint 14 = .ok (.goto 26, 3) := by decide +kernel
theorem dX8_ofPoint_17 : decode cX8_ofPoint 17 = .ok (.iload_n 2, 1) := by decide +kernel
theorem dX8_ofPoint_18 : decode cX8_ofPoint 18 = .ok (.iconst 1, 1) := by decide +kernel
theorem dX8_ofPoint_19 : decode cX8_ofPoint 19 = .ok (.if_icmp .ne 12, 3) := by decide +kernel
theorem dX8_ofPoint_22 : decode cX8_ofPoint 22 = .ok (.aload_n 0, 1) := by decide +kernel
theorem dX8_ofPoint_23 : decode cX8_ofPoint 23 = .ok (.getfield 39, 3) := by decide +kernel
theorem dX8_ofPoint_26 : decode cX8_ofPoint 26 = .ok (.iload_n 1, 1) := by decide +kernel
theorem dX8_ofPoint_27 : decode cX8_ofPoint 27 = .ok (.iaload, 1) := by decide +kernel
theorem dX8_ofPoint_28 : decode cX8_ofPoint 28 = .ok (.goto 12, 3) := by decide +kernel
theorem dX8_ofPoint_31 : decode cX8_ofPoint 31 = .ok (.aload_n 0, 1) := by decide +kernel
theorem dX8_ofPoint_32 : decode cX8_ofPoint 32 = .ok (.getfield 36, 3) := by decide +kernel
theorem dX8_ofPoint_35 : decode cX8_ofPoint 35 = .ok (.iload_n 1, 1) := by decide +kernel
theorem dX8_ofPoint_36 : decode cX8_ofPoint 36 = .ok (.iaload, 1) := by decide +kernel
theorem dX8_ofPoint_37 : decode cX8_ofPoint 37 = .ok (.invokestatic 137, 3) := by decide +kernel
theorem dX8_ofPoint_40 : decode cX8_ofPoint 40 = .ok (.ireturn, 1) := by decide +kernel
theorem dX8_of_0 : decode cX8_of 0 = .ok (.iload_n 1, 1) := by decide +kernel
theorem dX8_of_1 : decode cX8_of 1 = .ok (.iconst 0, 1) := by decide +kernel
theorem dX8_of_2 : decode cX8_of 2 = .ok (.aload_n 0, 1) := by decide +kernel
theorem dX8_of_3 : decode cX8_of 3 = .ok (.getfield 7, 3) := by decide +kernel
theorem dX8_of_6 : decode cX8_of 6 = .ok (.iconst 0, 1) := by decide +kernel
theorem dX8_of_7 : decode cX8_of 7 = .ok (.iaload, 1) := by decide +kernel
theorem dX8_of_8 : decode cX8_of 8 = .ok (.iconst 1, 1) := by decide +kernel
theorem dX8_of_9 : decode cX8_of 9 = .ok (.isub, 1) := by decide +kernel
theorem dX8_of_10 : decode cX8_of 10 = .ok (.invokestatic 84, 3) := by decide +kernel
theorem dX8_of_13 : decode cX8_of 13 = .ok (.ifCond .eq 21, 3) := by decide +kernel
theorem dX8_of_16 : decode cX8_of 16 = .ok (.iload_n 2, 1) := by decide +kernel
theorem dX8_of_17 : decode cX8_of 17 = .ok (.iconst 0, 1) := by decide +kernel
theorem dX8_of_18 : decode cX8_of 18 = .ok (.iconst 2, 1) := by decide +kernel
theorem dX8_of_19 : decode cX8_of 19 = .ok (.invokestatic 84, 3) := by decide +kernel
theorem dX8_of_22 : decode cX8_of 22 = .ok (.ifCond .eq 12, 3) := by decide +kernel
theorem dX8_of_25 : decode cX8_of 25 = .ok (.aload_n 0, 1) := by decide +kernel
theorem dX8_of_26 : decode cX8_of 26 = .ok (.iload_n 1, 1) := by decide +kernel
theorem dX8_of_27 : decode cX8_of 27 = .ok (.iload_n 2, 1) := by decide +kernel
theorem dX8_of_28 : decode cX8_of 28 = .ok (.invokevirtual 140, 3) := by decide +kernel
theorem dX8_of_31 : decode cX8_of 31 = .ok (.goto 9, 3) := by decide +kernel
theorem dX8_of_34 : decode cX8_of 34 = .ok (.aload_n 0, 1) := by decide +kernel
theorem dX8_of_35 : decode cX8_of 35 = .ok (.bipush (-2), 2) := by decide +kernel
theorem dX8_of_37 : decode cX8_of 37 = .ok (.invokevirtual 70, 3) := by decide +kernel
theorem dX8_of_40 : decode cX8_of 40 = .ok (.ireturn, 1) := by decide +kernel
theorem dX8_number_0 : decode cX8_number 0 = .ok (.aload_n 0, 1) := by decide +kernel
theorem dX8_number_1 : decode cX8_number 1 = .ok (.iload_n 1, 1) := by decide +kernel
theorem dX8_number_2 : decode cX8_number 2 = .ok (.invokevirtual 92, 3) := by decide +kernel
theorem dX8_number_5 : decode cX8_number 5 = .ok (.ifCond .ne 10, 3) := by decide +kernel
theorem dX8_number_8 : decode cX8_number 8 = .ok (.aload_n 0, 1) := by decide +kernel
theorem dX8_number_9 : decode cX8_number 9 = .ok (.bipush (-2), 2) := by decide +kernel
theorem dX8_number_11 : decode cX8_number 11 = .ok (.invokevirtual 70, 3) := by decide +kernel
theorem dX8_number_14 : decode cX8_number 14 = .ok (.ireturn, 1) := by decide +kernel
theorem dX8_number_15 : decode cX8_number 15 = .ok (.aload_n 0, 1) := by decide +kernel
theorem dX8_number_16 : decode cX8_number 16 = .ok (.invokevirtual 130, 3) := by decide +kernel
theorem dX8_number_19 : decode cX8_number 19 = .ok (.aload_n 0, 1) := by decide +kernel
theorem dX8_number_20 : decode cX8_number 20 = .ok (.iload_n 1, 1) := by decide +kernel
theorem dX8_number_21 : decode cX8_number 21 = .ok (.invokevirtual 88, 3) := by decide +kernel
theorem dX8_number_24 : decode cX8_number 24 = .ok (.aload_n 0, 1) := by decide +kernel
theorem dX8_number_25 : decode cX8_number 25 = .ok (.invokevirtual 120, 3) := by decide +kernel
theorem dX8_number_28 : decode cX8_number 28 = .ok (.istore_n 2, 1) := by decide +kernel
theorem dX8_number_29 : decode cX8_number 29 = .ok (.aload_n 0, 1) := by decide +kernel
theorem dX8_number_30 : decode cX8_number 30 = .ok (.getfield 26, 3) := by decide +kernel
theorem dX8_number_33 : decode cX8_number 33 = .ok (.iload_n 2, 1) := by decide +kernel
theorem dX8_number_34 : decode cX8_number 34 = .ok (.baload, 1) := by decide +kernel
theorem dX8_number_35 : decode cX8_number 35 = .ok (.ifCond .ne 5, 3) := by decide +kernel
theorem dX8_number_38 : decode cX8_number 38 = .ok (.iconst (-1), 1) := by decide +kernel
theorem dX8_number_39 : decode cX8_number 39 = .ok (.ireturn, 1) := by decide +kernel
theorem dX8_number_40 : decode cX8_number 40 = .ok (.iconst 0, 1) := by decide +kernel
theorem dX8_number_41 : decode cX8_number 41 = .ok (.istore_n 3, 1) := by decide +kernel
theorem dX8_number_42 : decode cX8_number 42 = .ok (.aload_n 0, 1) := by decide +kernel
theorem dX8_number_43 : decode cX8_number 43 = .ok (.getfield 111, 3) := by decide +kernel
theorem dX8_number_46 : decode cX8_number 46 = .ok (.iconst 1, 1) := by decide +kernel
theorem dX8_number_47 : decode cX8_number 47 = .ok (.isub, 1) := by decide +kernel
theorem dX8_number_48 : decode cX8_number 48 = .ok (.istore 4, 2) := by decide +kernel
theorem dX8_number_50 : decode cX8_number 50 = .ok (.iload_n 3, 1) := by decide +kernel
theorem dX8_number_51 : decode cX8_number 51 = .ok (.iload 4, 2) := by decide +kernel
theorem dX8_number_53 : decode cX8_number 53 = .ok (.if_icmp .ge 37, 3) := by decide +kernel
theorem dX8_number_56 : decode cX8_number 56 = .ok (.iload_n 3, 1) := by decide +kernel
theorem dX8_number_57 : decode cX8_number 57 = .ok (.iload 4, 2) := by decide +kernel
theorem dX8_number_59 : decode cX8_number 59 = .ok (.iadd, 1) := by decide +kernel
theorem dX8_number_60 : decode cX8_number 60 = .ok (.iconst 2, 1) := by decide +kernel
theorem dX8_number_61 : decode cX8_number 61 = .ok (.idiv, 1) := by decide +kernel
theorem dX8_number_62 : decode cX8_number 62 = .ok (.istore 5, 2) := by decide +kernel
theorem dX8_number_64 : decode cX8_number 64 = .ok (.aload_n 0, 1) := by decide +kernel
theorem dX8_number_65 : decode cX8_number 65 = .ok (.getfield 30, 3) := by decide +kernel
theorem dX8_number_68 : decode cX8_number 68 = .ok (.iload 5, 2) := by decide +kernel
theorem dX8_number_70 : decode cX8_number 70 = .ok (.iaload, 1) := by decide +kernel
theorem dX8_number_71 : decode cX8_number 71 = .ok (.iload_n 2, 1) := by decide +kernel
theorem dX8_number_72 : decode cX8_number 72 = .ok (.if_icmp .ge 11, 3) := by decide +kernel
theorem dX8_number_75 : decode cX8_number 75 = .ok (.iload 5, 2) := by decide +kernel
theorem dX8_number_77 : decode cX8_number 77 = .ok (.iconst 1, 1) := by decide +kernel
theorem dX8_number_78 : decode cX8_number 78 = .ok (.iadd, 1) := by decide +kernel
theorem dX8_number_79 : decode cX8_number 79 = .ok (.istore_n 3, 1) := by decide +kernel
theorem dX8_number_80 : decode cX8_number 80 = .ok (.goto 7, 3) := by decide +kernel
theorem dX8_number_83 : decode cX8_number 83 = .ok (.iload 5, 2) := by decide +kernel
theorem dX8_number_85 : decode cX8_number 85 = .ok (.istore 4, 2) := by decide +kernel
theorem dX8_number_87 : decode cX8_number 87 = .ok (.goto (-37), 3) := by decide +kernel
theorem dX8_number_90 : decode cX8_number 90 = .ok (.iload_n 3, 1) := by decide +kernel
theorem dX8_number_91 : decode cX8_number 91 = .ok (.ireturn, 1) := by decide +kernel
theorem dX8_element_0 : decode cX8_element 0 = .ok (.iload_n 1, 1) := by decide +kernel
theorem dX8_element_1 : decode cX8_element 1 = .ok (.ifCond .ge 10, 3) := by decide +kernel
theorem dX8_element_4 : decode cX8_element 4 = .ok (.aload_n 0, 1) := by decide +kernel
theorem dX8_element_5 : decode cX8_element 5 = .ok (.bipush (-2), 2) := by decide +kernel
theorem dX8_element_7 : decode cX8_element 7 = .ok (.invokevirtual 70, 3) := by decide +kernel
theorem dX8_element_10 : decode cX8_element 10 = .ok (.ireturn, 1) := by decide +kernel
theorem dX8_element_11 : decode cX8_element 11 = .ok (.aload_n 0, 1) := by decide +kernel
theorem dX8_element_12 : decode cX8_element 12 = .ok (.invokevirtual 130, 3) := by decide +kernel
theorem dX8_element_15 : decode cX8_element 15 = .ok (.iload_n 1, 1) := by decide +kernel
theorem dX8_element_16 : decode cX8_element 16 = .ok (.aload_n 0, 1) := by decide +kernel
theorem dX8_element_17 : decode cX8_element 17 = .ok (.getfield 111, 3) := by decide +kernel
theorem dX8_element_20 : decode cX8_element 20 = .ok (.if_icmp .ge 16, 3) := by decide +kernel
theorem dX8_element_23 : decode cX8_element 23 = .ok (.aload_n 0, 1) := by decide +kernel
theorem dX8_element_24 : decode cX8_element 24 = .ok (.aload_n 0, 1) := by decide +kernel
theorem dX8_element_25 : decode cX8_element 25 = .ok (.getfield 30, 3) := by decide +kernel
theorem dX8_element_28 : decode cX8_element 28 = .ok (.iload_n 1, 1) := by decide +kernel
theorem dX8_element_29 : decode cX8_element 29 = .ok (.iaload, 1) := by decide +kernel
theorem dX8_element_30 : decode cX8_element 30 = .ok (.invokevirtual 117, 3) := by decide +kernel
theorem dX8_element_33 : decode cX8_element 33 = .ok (.goto 9, 3) := by decide +kernel
theorem dX8_element_36 : decode cX8_element 36 = .ok (.aload_n 0, 1) := by decide +kernel
theorem dX8_element_37 : decode cX8_element 37 = .ok (.bipush (-3), 2) := by decide +kernel
theorem dX8_element_39 : decode cX8_element 39 = .ok (.invokevirtual 70, 3) := by decide +kernel
theorem dX8_element_42 : decode cX8_element 42 = .ok (.ireturn, 1) := by decide +kernel
theorem dX8_isSet_0 : decode cX8_isSet 0 = .ok (.iload_n 1, 1) := by decide +kernel
theorem dX8_isSet_1 : decode cX8_isSet 1 = .ok (.iconst 0, 1) := by decide +kernel
theorem dX8_isSet_2 : decode cX8_isSet 2 = .ok (.iconst 1, 1) := by decide +kernel
theorem dX8_isSet_3 : decode cX8_isSet 3 = .ok (.aload_n 0, 1) := by decide +kernel
theorem dX8_isSet_4 : decode cX8_isSet 4 = .ok (.getfield 7, 3) := by decide +kernel
theorem dX8_isSet_7 : decode cX8_isSet 7 = .ok (.iconst 0, 1) := by decide +kernel
theorem dX8_isSet_8 : decode cX8_isSet 8 = .ok (.iaload, 1) := by decide +kernel
theorem dX8_isSet_9 : decode cX8_isSet 9 = .ok (.ishl, 1) := by decide +kernel
theorem dX8_isSet_10 : decode cX8_isSet 10 = .ok (.iconst 1, 1) := by decide +kernel
theorem dX8_isSet_11 : decode cX8_isSet 11 = .ok (.isub, 1) := by decide +kernel
theorem dX8_isSet_12 : decode cX8_isSet 12 = .ok (.invokestatic 84, 3) := by decide +kernel
theorem dX8_isSet_15 : decode cX8_isSet 15 = .ok (.ireturn, 1) := by decide +kernel
theorem dX8_imageOf_0 : decode cX8_imageOf 0 = .ok (.iconst 0, 1) := by decide +kernel
theorem dX8_imageOf_1 : decode cX8_imageOf 1 = .ok (.istore_n 2, 1) := by decide +kernel
theorem dX8_imageOf_2 : decode cX8_imageOf 2 = .ok (.iconst 0, 1) := by decide +kernel
theorem dX8_imageOf_3 : decode cX8_imageOf 3 = .ok (.istore_n 3, 1) := by decide +kernel
theorem dX8_imageOf_4 : decode cX8_imageOf 4 = .ok (.iload_n 3, 1) := by decide +kernel
theorem dX8_imageOf_5 : decode cX8_imageOf 5 = .ok (.aload_n 0, 1) := by decide +kernel
theorem dX8_imageOf_6 : decode cX8_imageOf 6 = .ok (.getfield 7, 3) := by decide +kernel
theorem dX8_imageOf_9 : decode cX8_imageOf 9 = .ok (.iconst 0, 1) := by decide +kernel
theorem dX8_imageOf_10 : decode cX8_imageOf 10 = .ok (.iaload, 1) := by decide +kernel
theorem dX8_imageOf_11 : decode cX8_imageOf 11 = .ok (.if_icmp .ge 32, 3) := by decide +kernel
theorem dX8_imageOf_14 : decode cX8_imageOf 14 = .ok (.iload_n 2, 1) := by decide +kernel
theorem dX8_imageOf_15 : decode cX8_imageOf 15 = .ok (.iload_n 1, 1) := by decide +kernel
theorem dX8_imageOf_16 : decode cX8_imageOf 16 = .ok (.iload_n 3, 1) := by decide +kernel
theorem dX8_imageOf_17 : decode cX8_imageOf 17 = .ok (.invokestatic 133, 3) := by decide +kernel
theorem dX8_imageOf_20 : decode cX8_imageOf 20 = .ok (.ifCond .eq 14, 3) := by decide +kernel
theorem dX8_imageOf_23 : decode cX8_imageOf 23 = .ok (.iconst 1, 1) := by decide +kernel
theorem dX8_imageOf_24 : decode cX8_imageOf 24 = .ok (.aload_n 0, 1) := by decide +kernel
theorem dX8_imageOf_25 : decode cX8_imageOf 25 = .ok (.getfield 22, 3) := by decide +kernel
theorem dX8_imageOf_28 : decode cX8_imageOf 28 = .ok (.iload_n 3, 1) := by decide +kernel
theorem dX8_imageOf_29 : decode cX8_imageOf 29 = .ok (.iaload, 1) := by decide +kernel
theorem dX8_imageOf_30 : decode cX8_imageOf 30 = .ok (.ishl, 1) := by decide +kernel
theorem dX8_imageOf_31 : decode cX8_imageOf 31 = .ok (.goto 4, 3) := by decide +kernel
theorem dX8_imageOf_34 : decode cX8_imageOf 34 = .ok (.iconst 0, 1) := by decide +kernel
theorem dX8_imageOf_35 : decode cX8_imageOf 35 = .ok (.ior, 1) := by decide +kernel
theorem dX8_imageOf_36 : decode cX8_imageOf 36 = .ok (.istore_n 2, 1) := by decide +kernel
theorem dX8_imageOf_37 : decode cX8_imageOf 37 = .ok (.iinc 3 1, 3) := by decide +kernel
theorem dX8_imageOf_40 : decode cX8_imageOf 40 = .ok (.goto (-36), 3) := by decide +kernel
theorem dX8_imageOf_43 : decode cX8_imageOf 43 = .ok (.iload_n 2, 1) := by decide +kernel
theorem dX8_imageOf_44 : decode cX8_imageOf 44 = .ok (.ireturn, 1) := by decide +kernel
theorem dX8_image_0 : decode cX8_image 0 = .ok (.aload_n 0, 1) := by decide +kernel
theorem dX8_image_1 : decode cX8_image 1 = .ok (.iload_n 1, 1) := by decide +kernel
theorem dX8_image_2 : decode cX8_image 2 = .ok (.invokevirtual 144, 3) := by decide +kernel
theorem dX8_image_5 : decode cX8_image 5 = .ok (.ifCond .eq 11, 3) := by decide +kernel
theorem dX8_image_8 : decode cX8_image 8 = .ok (.aload_n 0, 1) := by decide +kernel
theorem dX8_image_9 : decode cX8_image 9 = .ok (.iload_n 2, 1) := by decide +kernel
theorem dX8_image_10 : decode cX8_image 10 = .ok (.invokevirtual 92, 3) := by decide +kernel
theorem dX8_image_13 : decode cX8_image 13 = .ok (.ifCond .ne 10, 3) := by decide +kernel
theorem dX8_image_16 : decode cX8_image 16 = .ok (.aload_n 0, 1) := by decide +kernel
theorem dX8_image_17 : decode cX8_image 17 = .ok (.bipush (-2), 2) := by decide +kernel
theorem dX8_image_19 : decode cX8_image 19 = .ok (.invokevirtual 70, 3) := by decide +kernel
theorem dX8_image_22 : decode cX8_image 22 = .ok (.ireturn, 1) := by decide +kernel
theorem dX8_image_23 : decode cX8_image 23 = .ok (.aload_n 0, 1) := by decide +kernel
theorem dX8_image_24 : decode cX8_image 24 = .ok (.iload_n 2, 1) := by decide +kernel
theorem dX8_image_25 : decode cX8_image 25 = .ok (.invokevirtual 88, 3) := by decide +kernel
theorem dX8_image_28 : decode cX8_image 28 = .ok (.aload_n 0, 1) := by decide +kernel
theorem dX8_image_29 : decode cX8_image 29 = .ok (.iload_n 1, 1) := by decide +kernel
theorem dX8_image_30 : decode cX8_image 30 = .ok (.invokevirtual 147, 3) := by decide +kernel
theorem dX8_image_33 : decode cX8_image 33 = .ok (.ireturn, 1) := by decide +kernel
theorem dX8_carry_0 : decode cX8_carry 0 = .ok (.aload_n 0, 1) := by decide +kernel
theorem dX8_carry_1 : decode cX8_carry 1 = .ok (.getfield 42, 3) := by decide +kernel
theorem dX8_carry_4 : decode cX8_carry 4 = .ok (.iload_n 1, 1) := by decide +kernel
theorem dX8_carry_5 : decode cX8_carry 5 = .ok (.baload, 1) := by decide +kernel
theorem dX8_carry_6 : decode cX8_carry 6 = .ok (.ifCond .ne 30, 3) := by decide +kernel
theorem dX8_carry_9 : decode cX8_carry 9 = .ok (.aload_n 0, 1) := by decide +kernel
theorem dX8_carry_10 : decode cX8_carry 10 = .ok (.getfield 42, 3) := by decide +kernel
theorem dX8_carry_13 : decode cX8_carry 13 = .ok (.iload_n 1, 1) := by decide +kernel
theorem dX8_carry_14 : decode cX8_carry 14 = .ok (.iconst 1, 1) := by decide +kernel
theorem dX8_carry_15 : decode cX8_carry 15 = .ok (.bastore, 1) := by decide +kernel
theorem dX8_carry_16 : decode cX8_carry 16 = .ok (.aload_n 0, 1) := by decide +kernel
theorem dX8_carry_17 : decode cX8_carry 17 = .ok (.getfield 45, 3) := by decide +kernel
theorem dX8_carry_20 : decode cX8_carry 20 = .ok (.aload_n 0, 1) := by decide +kernel
theorem dX8_carry_21 : decode cX8_carry 21 = .ok (.getfield 150, 3) := by decide +kernel
theorem dX8_carry_24 : decode cX8_carry 24 = .ok (.iload_n 1, 1) := by decide +kernel
theorem dX8_carry_25 : decode cX8_carry 25 = .ok (.iastore, 1) := by decide +kernel
theorem dX8_carry_26 : decode cX8_carry 26 = .ok (.aload_n 0, 1) := by decide +kernel
theorem dX8_carry_27 : decode cX8_carry 27 = .ok (.dup, 1) := by decide +kernel
theorem dX8_carry_28 : decode cX8_carry 28 = .ok (.getfield 150, 3) := by decide +kernel
theorem dX8_carry_31 : decode cX8_carry 31 = .ok (.iconst 1, 1) := by decide +kernel
theorem dX8_carry_32 : decode cX8_carry 32 = .ok (.iadd, 1) := by decide +kernel
theorem dX8_carry_33 : decode cX8_carry 33 = .ok (.putfield 150, 3) := by decide +kernel
theorem dX8_carry_36 : decode cX8_carry 36 = .ok (.return_, 1) := by decide +kernel
theorem dX8_findImages_0 : decode cX8_findImages 0 = .ok (.iconst 0, 1) := by decide +kernel
theorem dX8_findImages_1 : decode cX8_findImages 1 = .ok (.istore_n 2, 1) := by decide +kernel
theorem dX8_findImages_2 : decode cX8_findImages 2 = .ok (.iload_n 2, 1) := by decide +kernel
theorem dX8_findImages_3 : decode cX8_findImages 3 = .ok (.sipush 256, 3) := by decide +kernel
theorem dX8_findImages_6 : decode cX8_findImages 6 = .ok (.if_icmp .ge 16, 3) := by decide +kernel
theorem dX8_findImages_9 : decode cX8_findImages 9 = .ok (.aload_n 0, 1) := by decide +kernel
theorem dX8_findImages_10 : decode cX8_findImages 10 = .ok (.getfield 42, 3) := by decide +kernel
theorem dX8_findImages_13 : decode cX8_findImages 13 = .ok (.iload_n 2, 1) := by decide +kernel
theorem dX8_findImages_14 : decode cX8_findImages 14 = .ok (.iconst 0, 1) := by decide +kernel
theorem dX8_findImages_15 : decode cX8_findImages 15 = .ok (.bastore, 1) := by decide +kernel
theorem dX8_findImages_16 : decode cX8_findImages 16 = .ok (.iinc 2 1, 3) := by decide +kernel
theorem dX8_findImages_19 : decode cX8_findImages 19 = .ok (.goto (-17), 3) := by decide +kernel
theorem dX8_findImages_22 : decode cX8_findImages 22 = .ok (.aload_n 0, 1) := by decide +kernel
theorem dX8_findImages_23 : decode cX8_findImages 23 = .ok (.iconst 0, 1) := by decide +kernel
theorem dX8_findImages_24 : decode cX8_findImages 24 = .ok (.putfield 150, 3) := by decide +kernel
theorem dX8_findImages_27 : decode cX8_findImages 27 = .ok (.aload_n 0, 1) := by decide +kernel
theorem dX8_findImages_28 : decode cX8_findImages 28 = .ok (.iload_n 1, 1) := by decide +kernel
theorem dX8_findImages_29 : decode cX8_findImages 29 = .ok (.invokevirtual 153, 3) := by decide +kernel
theorem dX8_findImages_32 : decode cX8_findImages 32 = .ok (.iconst 0, 1) := by decide +kernel
theorem dX8_findImages_33 : decode cX8_findImages 33 = .ok (.istore_n 2, 1) := by decide +kernel
theorem dX8_findImages_34 : decode cX8_findImages 34 = .ok (.iload_n 2, 1) := by decide +kernel
theorem dX8_findImages_35 : decode cX8_findImages 35 = .ok (.aload_n 0, 1) := by decide +kernel
theorem dX8_findImages_36 : decode cX8_findImages 36 = .ok (.getfield 150, 3) := by decide +kernel
theorem dX8_findImages_39 : decode cX8_findImages 39 = .ok (.if_icmp .ge 53, 3) := by decide +kernel
theorem dX8_findImages_42 : decode cX8_findImages 42 = .ok (.iconst 0, 1) := by decide +kernel
theorem dX8_findImages_43 : decode cX8_findImages 43 = .ok (.istore_n 3, 1) := by decide +kernel
theorem dX8_findImages_44 : decode cX8_findImages 44 = .ok (.iload_n 3, 1) := by decide +kernel
theorem dX8_findImages_45 : decode cX8_findImages 45 = .ok (.aload_n 0, 1) := by decide +kernel
theorem dX8_findImages_46 : decode cX8_findImages 46 = .ok (.getfield 7, 3) := by decide +kernel
theorem dX8_findImages_49 : decode cX8_findImages 49 = .ok (.iconst 1, 1) := by decide +kernel
theorem dX8_findImages_50 : decode cX8_findImages 50 = .ok (.iaload, 1) := by decide +kernel
theorem dX8_findImages_51 : decode cX8_findImages 51 = .ok (.if_icmp .ge 35, 3) := by decide +kernel
theorem dX8_findImages_54 : decode cX8_findImages 54 = .ok (.aload_n 0, 1) := by decide +kernel
theorem dX8_findImages_55 : decode cX8_findImages 55 = .ok (.aload_n 0, 1) := by decide +kernel
theorem dX8_findImages_56 : decode cX8_findImages 56 = .ok (.getfield 7, 3) := by decide +kernel
theorem dX8_findImages_59 : decode cX8_findImages 59 = .ok (.iconst 2, 1) := by decide +kernel
theorem dX8_findImages_60 : decode cX8_findImages 60 = .ok (.iload_n 3, 1) := by decide +kernel
theorem dX8_findImages_61 : decode cX8_findImages 61 = .ok (.iadd, 1) := by decide +kernel
theorem dX8_findImages_62 : decode cX8_findImages 62 = .ok (.iaload, 1) := by decide +kernel
theorem dX8_findImages_63 : decode cX8_findImages 63 = .ok (.invokevirtual 88, 3) := by decide +kernel
theorem dX8_findImages_66 : decode cX8_findImages 66 = .ok (.aload_n 0, 1) := by decide +kernel
theorem dX8_findImages_67 : decode cX8_findImages 67 = .ok (.aload_n 0, 1) := by decide +kernel
theorem dX8_findImages_68 : decode cX8_findImages 68 = .ok (.aload_n 0, 1) := by decide +kernel
theorem dX8_findImages_69 : decode cX8_findImages 69 = .ok (.getfield 45, 3) := by decide +kernel
theorem dX8_findImages_72 : decode cX8_findImages 72 = .ok (.iload_n 2, 1) := by decide +kernel
theorem dX8_findImages_73 : decode cX8_findImages 73 = .ok (.iaload, 1) := by decide +kernel
theorem dX8_findImages_74 : decode cX8_findImages 74 = .ok (.invokevirtual 147, 3) := by decide +kernel
theorem dX8_findImages_77 : decode cX8_findImages 77 = .ok (.invokevirtual 153, 3) := by decide +kernel
theorem dX8_findImages_80 : decode cX8_findImages 80 = .ok (.iinc 3 1, 3) := by decide +kernel
theorem dX8_findImages_83 : decode cX8_findImages 83 = .ok (.goto (-39), 3) := by decide +kernel
theorem dX8_findImages_86 : decode cX8_findImages 86 = .ok (.iinc 2 1, 3) := by decide +kernel
theorem dX8_findImages_89 : decode cX8_findImages 89 = .ok (.goto (-55), 3) := by decide +kernel
theorem dX8_findImages_92 : decode cX8_findImages 92 = .ok (.iconst 0, 1) := by decide +kernel
theorem dX8_findImages_93 : decode cX8_findImages 93 = .ok (.istore_n 2, 1) := by decide +kernel
theorem dX8_findImages_94 : decode cX8_findImages 94 = .ok (.sipush 255, 3) := by decide +kernel
theorem dX8_findImages_97 : decode cX8_findImages 97 = .ok (.istore_n 3, 1) := by decide +kernel
theorem dX8_findImages_98 : decode cX8_findImages 98 = .ok (.iload_n 3, 1) := by decide +kernel
theorem dX8_findImages_99 : decode cX8_findImages 99 = .ok (.ifCond .lt 34, 3) := by decide +kernel
theorem dX8_findImages_102 : decode cX8_findImages 102 = .ok (.aload_n 0, 1) := by decide +kernel
theorem dX8_findImages_103 : decode cX8_findImages 103 = .ok (.getfield 42, 3) := by decide +kernel
theorem dX8_findImages_106 : decode cX8_findImages 106 = .ok (.iload_n 3, 1) := by decide +kernel
theorem dX8_findImages_107 : decode cX8_findImages 107 = .ok (.invokestatic 156, 3) := by decide +kernel
theorem dX8_findImages_110 : decode cX8_findImages 110 = .ok (.baload, 1) := by decide +kernel
theorem dX8_findImages_111 : decode cX8_findImages 111 = .ok (.ifCond .eq 16, 3) := by decide +kernel
theorem dX8_findImages_114 : decode cX8_findImages 114 = .ok (.aload_n 0, 1) := by decide +kernel
theorem dX8_findImages_115 : decode cX8_findImages 115 = .ok (.getfield 45, 3) := by decide +kernel
theorem dX8_findImages_118 : decode cX8_findImages 118 = .ok (.iload_n 2, 1) := by decide +kernel
theorem dX8_findImages_119 : decode cX8_findImages 119 = .ok (.iload_n 3, 1) := by decide +kernel
theorem dX8_findImages_120 : decode cX8_findImages 120 = .ok (.invokestatic 156, 3) := by decide +kernel
theorem dX8_findImages_123 : decode cX8_findImages 123 = .ok (.iastore, 1) := by decide +kernel
theorem dX8_findImages_124 : decode cX8_findImages 124 = .ok (.iinc 2 1, 3) := by decide +kernel
theorem dX8_findImages_127 : decode cX8_findImages 127 = .ok (.iinc 3 (-1), 3) := by decide +kernel
theorem dX8_findImages_130 : decode cX8_findImages 130 = .ok (.goto (-32), 3) := by decide +kernel
theorem dX8_findImages_133 : decode cX8_findImages 133 = .ok (.return_, 1) := by decide +kernel
theorem dX8_sortSets_0 : decode cX8_sortSets 0 = .ok (.aload_n 0, 1) := by decide +kernel
theorem dX8_sortSets_1 : decode cX8_sortSets 1 = .ok (.getfield 81, 3) := by decide +kernel
theorem dX8_sortSets_4 : decode cX8_sortSets 4 = .ok (.ifCond .eq 4, 3) := by decide +kernel
theorem dX8_sortSets_7 : decode cX8_sortSets 7 = .ok (.return_, 1) := by decide +kernel
theorem dX8_sortSets_8 : decode cX8_sortSets 8 = .ok (.aload_n 0, 1) := by decide +kernel
theorem dX8_sortSets_9 : decode cX8_sortSets 9 = .ok (.iconst 1, 1) := by decide +kernel
theorem dX8_sortSets_10 : decode cX8_sortSets 10 = .ok (.putfield 81, 3) := by decide +kernel
theorem dX8_sortSets_13 : decode cX8_sortSets 13 = .ok (.iconst 0, 1) := by decide +kernel
theorem dX8_sortSets_14 : decode cX8_sortSets 14 = .ok (.istore_n 1, 1) := by decide +kernel
theorem dX8_sortSets_15 : decode cX8_sortSets 15 = .ok (.iconst 0, 1) := by decide +kernel
theorem dX8_sortSets_16 : decode cX8_sortSets 16 = .ok (.istore_n 2, 1) := by decide +kernel
theorem dX8_sortSets_17 : decode cX8_sortSets 17 = .ok (.iload_n 2, 1) := by decide +kernel
theorem dX8_sortSets_18 : decode cX8_sortSets 18 = .ok (.sipush 256, 3) := by decide +kernel
theorem dX8_sortSets_21 : decode cX8_sortSets 21 = .ok (.if_icmp .ge 16, 3) := by decide +kernel
theorem dX8_sortSets_24 : decode cX8_sortSets 24 = .ok (.aload_n 0, 1) := by decide +kernel
theorem dX8_sortSets_25 : decode cX8_sortSets 25 = .ok (.getfield 48, 3) := by decide +kernel
theorem dX8_sortSets_28 : decode cX8_sortSets 28 = .ok (.iload_n 2, 1) := by decide +kernel
theorem dX8_sortSets_29 : decode cX8_sortSets 29 = .ok (.iconst (-1), 1) := by decide +kernel
theorem dX8_sortSets_30 : decode cX8_sortSets 30 = .ok (.iastore, 1) := by decide +kernel
theorem dX8_sortSets_31 : decode cX8_sortSets 31 = .ok (.iinc 2 1, 3) := by decide +kernel
theorem dX8_sortSets_34 : decode cX8_sortSets 34 = .ok (.goto (-17), 3) := by decide +kernel
theorem dX8_sortSets_37 : decode cX8_sortSets 37 = .ok (.iconst 0, 1) := by decide +kernel
theorem dX8_sortSets_38 : decode cX8_sortSets 38 = .ok (.istore_n 2, 1) := by decide +kernel
theorem dX8_sortSets_39 : decode cX8_sortSets 39 = .ok (.iload_n 2, 1) := by decide +kernel
theorem dX8_sortSets_40 : decode cX8_sortSets 40 = .ok (.bipush 8, 2) := by decide +kernel
theorem dX8_sortSets_42 : decode cX8_sortSets 42 = .ok (.if_icmp .gt 114, 3) := by decide +kernel
theorem dX8_sortSets_45 : decode cX8_sortSets 45 = .ok (.aload_n 0, 1) := by decide +kernel
theorem dX8_sortSets_46 : decode cX8_sortSets 46 = .ok (.getfield 54, 3) := by decide +kernel
theorem dX8_sortSets_49 : decode cX8_sortSets 49 = .ok (.iload_n 2, 1) := by decide +kernel
theorem dX8_sortSets_50 : decode cX8_sortSets 50 = .ok (.iload_n 1, 1) := by decide +kernel
theorem dX8_sortSets_51 : decode cX8_sortSets 51 = .ok (.iastore, 1) := by decide +kernel
theorem dX8_sortSets_52 : decode cX8_sortSets 52 = .ok (.sipush 255, 3) := by decide +kernel
theorem dX8_sortSets_55 : decode cX8_sortSets 55 = .ok (.istore_n 3, 1) := by decide +kernel
theorem dX8_sortSets_56 : decode cX8_sortSets 56 = .ok (.iload_n 3, 1) := by decide +kernel
theorem dX8_sortSets_57 : decode cX8_sortSets 57 = .ok (.ifCond .lt 93, 3) := by decide +kernel
theorem dX8_sortSets_60 : decode cX8_sortSets 60 = .ok (.iload_n 3, 1) := by decide +kernel
theorem dX8_sortSets_61 : decode cX8_sortSets 61 = .ok (.invokestatic 156, 3) := by decide +kernel
theorem dX8_sortSets_64 : decode cX8_sortSets 64 = .ok (.istore 4, 2) := by decide +kernel
theorem dX8_sortSets_66 : decode cX8_sortSets 66 = .ok (.aload_n 0, 1) := by decide +kernel
theorem dX8_sortSets_67 : decode cX8_sortSets 67 = .ok (.iload 4, 2) := by decide +kernel
theorem dX8_sortSets_69 : decode cX8_sortSets 69 = .ok (.invokevirtual 144, 3) := by decide +kernel
theorem dX8_sortSets_72 : decode cX8_sortSets 72 = .ok (.ifCond .eq 72, 3) := by decide +kernel
theorem dX8_sortSets_75 : decode cX8_sortSets 75 = .ok (.iload 4, 2) := by decide +kernel
theorem dX8_sortSets_77 : decode cX8_sortSets 77 = .ok (.invokestatic 159, 3) := by decide +kernel
theorem dX8_sortSets_80 : decode cX8_sortSets 80 = .ok (.iload_n 2, 1) := by decide +kernel
theorem dX8_sortSets_81 : decode cX8_sortSets 81 = .ok (.if_icmp .ne 63, 3) := by decide +kernel
theorem dX8_sortSets_84 : decode cX8_sortSets 84 = .ok (.aload_n 0, 1) := by decide +kernel
theorem dX8_sortSets_85 : decode cX8_sortSets 85 = .ok (.getfield 48, 3) := by decide +kernel
theorem dX8_sortSets_88 : decode cX8_sortSets 88 = .ok (.iload 4, 2) := by decide +kernel
theorem dX8_sortSets_90 : decode cX8_sortSets 90 = .ok (.iaload, 1) := by decide +kernel
theorem dX8_sortSets_91 : decode cX8_sortSets 91 = .ok (.iconst (-1), 1) := by decide +kernel
theorem dX8_sortSets_92 : decode cX8_sortSets 92 = .ok (.if_icmp .ne 52, 3) := by decide +kernel
theorem dX8_sortSets_95 : decode cX8_sortSets 95 = .ok (.aload_n 0, 1) := by decide +kernel
theorem dX8_sortSets_96 : decode cX8_sortSets 96 = .ok (.getfield 51, 3) := by decide +kernel
theorem dX8_sortSets_99 : decode cX8_sortSets 99 = .ok (.iload_n 1, 1) := by decide +kernel
theorem dX8_sortSets_100 : decode cX8_sortSets 100 = .ok (.iload 4, 2) := by decide +kernel
theorem dX8_sortSets_102 : decode cX8_sortSets 102 = .ok (.iastore, 1) := by decide +kernel
theorem dX8_sortSets_103 : decode cX8_sortSets 103 = .ok (.iinc 1 1, 3) := by decide +kernel
theorem dX8_sortSets_106 : decode cX8_sortSets 106 = .ok (.aload_n 0, 1) := by decide +kernel
theorem dX8_sortSets_107 : decode cX8_sortSets 107 = .ok (.iload 4, 2) := by decide +kernel
theorem dX8_sortSets_109 : decode cX8_sortSets 109 = .ok (.invokevirtual 162, 3) := by decide +kernel
theorem dX8_sortSets_112 : decode cX8_sortSets 112 = .ok (.iconst 0, 1) := by decide +kernel
theorem dX8_sortSets_113 : decode cX8_sortSets 113 = .ok (.istore 5, 2) := by decide +kernel
theorem dX8_sortSets_115 : decode cX8_sortSets 115 = .ok (.iload 5, 2) := by decide +kernel
theorem dX8_sortSets_117 : decode cX8_sortSets 117 = .ok (.aload_n 0, 1) := by decide +kernel
theorem dX8_sortSets_118 : decode cX8_sortSets 118 = .ok (.getfield 150, 3) := by decide +kernel
theorem dX8_sortSets_121 : decode cX8_sortSets 121 = .ok (.if_icmp .ge 23, 3) := by decide +kernel
theorem dX8_sortSets_124 : decode cX8_sortSets 124 = .ok (.aload_n 0, 1) := by decide +kernel
theorem dX8_sortSets_125 : decode cX8_sortSets 125 = .ok (.getfield 48, 3) := by decide +kernel
theorem dX8_sortSets_128 : decode cX8_sortSets 128 = .ok (.aload_n 0, 1) := by decide +kernel
theorem dX8_sortSets_129 : decode cX8_sortSets 129 = .ok (.getfield 45, 3) := by decide +kernel
theorem dX8_sortSets_132 : decode cX8_sortSets 132 = .ok (.iload 5, 2) := by decide +kernel
theorem dX8_sortSets_134 : decode cX8_sortSets 134 = .ok (.iaload, 1) := by decide +kernel
theorem dX8_sortSets_135 : decode cX8_sortSets 135 = .ok (.iload 4, 2) := by decide +kernel
theorem dX8_sortSets_137 : decode cX8_sortSets 137 = .ok (.iastore, 1) := by decide +kernel
theorem dX8_sortSets_138 : decode cX8_sortSets 138 = .ok (.iinc 5 1, 3) := by decide +kernel
theorem dX8_sortSets_141 : decode cX8_sortSets 141 = .ok (.goto (-26), 3) := by decide +kernel
theorem dX8_sortSets_144 : decode cX8_sortSets 144 = .ok (.iinc 3 (-1), 3) := by decide +kernel
theorem dX8_sortSets_147 : decode cX8_sortSets 147 = .ok (.goto (-91), 3) := by decide +kernel
theorem dX8_sortSets_150 : decode cX8_sortSets 150 = .ok (.iinc 2 1, 3) := by decide +kernel
theorem dX8_sortSets_153 : decode cX8_sortSets 153 = .ok (.goto (-114), 3) := by decide +kernel
theorem dX8_sortSets_156 : decode cX8_sortSets 156 = .ok (.aload_n 0, 1) := by decide +kernel
theorem dX8_sortSets_157 : decode cX8_sortSets 157 = .ok (.getfield 54, 3) := by decide +kernel
theorem dX8_sortSets_160 : decode cX8_sortSets 160 = .ok (.bipush 9, 2) := by decide +kernel
theorem dX8_sortSets_162 : decode cX8_sortSets 162 = .ok (.iload_n 1, 1) := by decide +kernel
theorem dX8_sortSets_163 : decode cX8_sortSets 163 = .ok (.iastore, 1) := by decide +kernel
theorem dX8_sortSets_164 : decode cX8_sortSets 164 = .ok (.return_, 1) := by decide +kernel
theorem dX8_leastOf_0 : decode cX8_leastOf 0 = .ok (.aload_n 0, 1) := by decide +kernel
theorem dX8_leastOf_1 : decode cX8_leastOf 1 = .ok (.invokevirtual 165, 3) := by decide +kernel
theorem dX8_leastOf_4 : decode cX8_leastOf 4 = .ok (.aload_n 0, 1) := by decide +kernel
theorem dX8_leastOf_5 : decode cX8_leastOf 5 = .ok (.getfield 48, 3) := by decide +kernel
theorem dX8_leastOf_8 : decode cX8_leastOf 8 = .ok (.iload_n 1, 1) := by decide +kernel
theorem dX8_leastOf_9 : decode cX8_leastOf 9 = .ok (.iaload, 1) := by decide +kernel
theorem dX8_leastOf_10 : decode cX8_leastOf 10 = .ok (.ireturn, 1) := by decide +kernel
theorem dX8_least_0 : decode cX8_least 0 = .ok (.aload_n 0, 1) := by decide +kernel
theorem dX8_least_1 : decode cX8_least 1 = .ok (.iload_n 1, 1) := by decide +kernel
theorem dX8_least_2 : decode cX8_least 2 = .ok (.invokevirtual 144, 3) := by decide +kernel
theorem dX8_least_5 : decode cX8_least 5 = .ok (.ifCond .eq 11, 3) := by decide +kernel
theorem dX8_least_8 : decode cX8_least 8 = .ok (.aload_n 0, 1) := by decide +kernel
theorem dX8_least_9 : decode cX8_least 9 = .ok (.iload_n 1, 1) := by decide +kernel
theorem dX8_least_10 : decode cX8_least 10 = .ok (.invokevirtual 168, 3) := by decide +kernel
theorem dX8_least_13 : decode cX8_least 13 = .ok (.goto 9, 3) := by decide +kernel
theorem dX8_least_16 : decode cX8_least 16 = .ok (.aload_n 0, 1) := by decide +kernel
theorem dX8_least_17 : decode cX8_least 17 = .ok (.bipush (-2), 2) := by decide +kernel
theorem dX8_least_19 : decode cX8_least 19 = .ok (.invokevirtual 70, 3) := by decide +kernel
theorem dX8_least_22 : decode cX8_least 22 = .ok (.ireturn, 1) := by decide +kernel
theorem dX8_images_0 : decode cX8_images 0 = .ok (.aload_n 0, 1) := by decide +kernel
theorem dX8_images_1 : decode cX8_images 1 = .ok (.iload_n 1, 1) := by decide +kernel
theorem dX8_images_2 : decode cX8_images 2 = .ok (.invokevirtual 144, 3) := by decide +kernel
theorem dX8_images_5 : decode cX8_images 5 = .ok (.ifCond .eq 8, 3) := by decide +kernel
theorem dX8_images_8 : decode cX8_images 8 = .ok (.iload_n 2, 1) := by decide +kernel
theorem dX8_images_9 : decode cX8_images 9 = .ok (.iconst (-1), 1) := by decide +kernel
theorem dX8_images_10 : decode cX8_images 10 = .ok (.if_icmp .ge 10, 3) := by decide +kernel
theorem dX8_images_13 : decode cX8_images 13 = .ok (.aload_n 0, 1) := by decide +kernel
theorem dX8_images_14 : decode cX8_images 14 = .ok (.bipush (-2), 2) := by decide +kernel
theorem dX8_images_16 : decode cX8_images 16 = .ok (.invokevirtual 70, 3) := by decide +kernel
theorem dX8_images_19 : decode cX8_images 19 = .ok (.ireturn, 1) := by decide +kernel
theorem dX8_images_20 : decode cX8_images 20 = .ok (.aload_n 0, 1) := by decide +kernel
theorem dX8_images_21 : decode cX8_images 21 = .ok (.iload_n 1, 1) := by decide +kernel
theorem dX8_images_22 : decode cX8_images 22 = .ok (.invokevirtual 162, 3) := by decide +kernel
theorem dX8_images_25 : decode cX8_images 25 = .ok (.iload_n 2, 1) := by decide +kernel
theorem dX8_images_26 : decode cX8_images 26 = .ok (.iconst (-1), 1) := by decide +kernel
theorem dX8_images_27 : decode cX8_images 27 = .ok (.if_icmp .ne 10, 3) := by decide +kernel
theorem dX8_images_30 : decode cX8_images 30 = .ok (.aload_n 0, 1) := by decide +kernel
theorem dX8_images_31 : decode cX8_images 31 = .ok (.getfield 150, 3) := by decide +kernel
theorem dX8_images_34 : decode cX8_images 34 = .ok (.goto 22, 3) := by decide +kernel
theorem dX8_images_37 : decode cX8_images 37 = .ok (.iload_n 2, 1) := by decide +kernel
theorem dX8_images_38 : decode cX8_images 38 = .ok (.aload_n 0, 1) := by decide +kernel
theorem dX8_images_39 : decode cX8_images 39 = .ok (.getfield 150, 3) := by decide +kernel
theorem dX8_images_42 : decode cX8_images 42 = .ok (.if_icmp .ge 12, 3) := by decide +kernel
theorem dX8_images_45 : decode cX8_images 45 = .ok (.aload_n 0, 1) := by decide +kernel
theorem dX8_images_46 : decode cX8_images 46 = .ok (.getfield 45, 3) := by decide +kernel
theorem dX8_images_49 : decode cX8_images 49 = .ok (.iload_n 2, 1) := by decide +kernel
theorem dX8_images_50 : decode cX8_images 50 = .ok (.iaload, 1) := by decide +kernel
theorem dX8_images_51 : decode cX8_images 51 = .ok (.goto 5, 3) := by decide +kernel
theorem dX8_images_54 : decode cX8_images 54 = .ok (.bipush (-5), 2) := by decide +kernel
theorem dX8_images_56 : decode cX8_images 56 = .ok (.ireturn, 1) := by decide +kernel
theorem dX8_carrier_0 : decode cX8_carrier 0 = .ok (.aload_n 0, 1) := by decide +kernel
theorem dX8_carrier_1 : decode cX8_carrier 1 = .ok (.iload_n 1, 1) := by decide +kernel
theorem dX8_carrier_2 : decode cX8_carrier 2 = .ok (.invokevirtual 144, 3) := by decide +kernel
theorem dX8_carrier_5 : decode cX8_carrier 5 = .ok (.ifCond .eq 22, 3) := by decide +kernel
theorem dX8_carrier_8 : decode cX8_carrier 8 = .ok (.aload_n 0, 1) := by decide +kernel
theorem dX8_carrier_9 : decode cX8_carrier 9 = .ok (.iload_n 2, 1) := by decide +kernel
theorem dX8_carrier_10 : decode cX8_carrier 10 = .ok (.invokevirtual 144, 3) := by decide +kernel
theorem dX8_carrier_13 : decode cX8_carrier 13 = .ok (.ifCond .eq 14, 3) := by decide +kernel
theorem dX8_carrier_16 : decode cX8_carrier 16 = .ok (.iload_n 1, 1) := by decide +kernel
theorem dX8_carrier_17 : decode cX8_carrier 17 = .ok (.invokestatic 159, 3) := by decide +kernel
theorem dX8_carrier_20 : decode cX8_carrier 20 = .ok (.iload_n 2, 1) := by decide +kernel
theorem dX8_carrier_21 : decode cX8_carrier 21 = .ok (.invokestatic 159, 3) := by decide +kernel
theorem dX8_carrier_24 : decode cX8_carrier 24 = .ok (.if_icmp .eq 10, 3) := by decide +kernel
theorem dX8_carrier_27 : decode cX8_carrier 27 = .ok (.aload_n 0, 1) := by decide +kernel
theorem dX8_carrier_28 : decode cX8_carrier 28 = .ok (.bipush (-2), 2) := by decide +kernel
theorem dX8_carrier_30 : decode cX8_carrier 30 = .ok (.invokevirtual 70, 3) := by decide +kernel
theorem dX8_carrier_33 : decode cX8_carrier 33 = .ok (.ireturn, 1) := by decide +kernel
theorem dX8_carrier_34 : decode cX8_carrier 34 = .ok (.aload_n 0, 1) := by decide +kernel
theorem dX8_carrier_35 : decode cX8_carrier 35 = .ok (.invokevirtual 130, 3) := by decide +kernel
theorem dX8_carrier_38 : decode cX8_carrier 38 = .ok (.iconst 0, 1) := by decide +kernel
theorem dX8_carrier_39 : decode cX8_carrier 39 = .ok (.istore_n 3, 1) := by decide +kernel
theorem dX8_carrier_40 : decode cX8_carrier 40 = .ok (.iload_n 3, 1) := by decide +kernel
theorem dX8_carrier_41 : decode cX8_carrier 41 = .ok (.aload_n 0, 1) := by decide +kernel
theorem dX8_carrier_42 : decode cX8_carrier 42 = .ok (.getfield 111, 3) := by decide +kernel
theorem dX8_carrier_45 : decode cX8_carrier 45 = .ok (.if_icmp .ge 33, 3) := by decide +kernel
theorem dX8_carrier_48 : decode cX8_carrier 48 = .ok (.aload_n 0, 1) := by decide +kernel
theorem dX8_carrier_49 : decode cX8_carrier 49 = .ok (.aload_n 0, 1) := by decide +kernel
theorem dX8_carrier_50 : decode cX8_carrier 50 = .ok (.getfield 30, 3) := by decide +kernel
theorem dX8_carrier_53 : decode cX8_carrier 53 = .ok (.iload_n 3, 1) := by decide +kernel
theorem dX8_carrier_54 : decode cX8_carrier 54 = .ok (.iaload, 1) := by decide +kernel
theorem dX8_carrier_55 : decode cX8_carrier 55 = .ok (.invokevirtual 117, 3) := by decide +kernel
theorem dX8_carrier_58 : decode cX8_carrier 58 = .ok (.istore 4, 2) := by decide +kernel
theorem dX8_carrier_60 : decode cX8_carrier 60 = .ok (.aload_n 0, 1) := by decide +kernel
theorem dX8_carrier_61 : decode cX8_carrier 61 = .ok (.iload_n 1, 1) := by decide +kernel
theorem dX8_carrier_62 : decode cX8_carrier 62 = .ok (.invokevirtual 147, 3) := by decide +kernel
theorem dX8_carrier_65 : decode cX8_carrier 65 = .ok (.iload_n 2, 1) := by decide +kernel
theorem dX8_carrier_66 : decode cX8_carrier 66 = .ok (.if_icmp .ne 6, 3) := by decide +kernel
theorem dX8_carrier_69 : decode cX8_carrier 69 = .ok (.iload 4, 2) := by decide +kernel
theorem dX8_carrier_71 : decode cX8_carrier 71 = .ok (.ireturn, 1) := by decide +kernel
theorem dX8_carrier_72 : decode cX8_carrier 72 = .ok (.iinc 3 1, 3) := by decide +kernel
theorem dX8_carrier_75 : decode cX8_carrier 75 = .ok (.goto (-35), 3) := by decide +kernel
theorem dX8_carrier_78 : decode cX8_carrier 78 = .ok (.iconst (-1), 1) := by decide +kernel
theorem dX8_carrier_79 : decode cX8_carrier 79 = .ok (.ireturn, 1) := by decide +kernel
theorem dX8_holds_0 : decode cX8_holds 0 = .ok (.aload_n 0, 1) := by decide +kernel
theorem dX8_holds_1 : decode cX8_holds 1 = .ok (.iload_n 1, 1) := by decide +kernel
theorem dX8_holds_2 : decode cX8_holds 2 = .ok (.invokevirtual 144, 3) := by decide +kernel
theorem dX8_holds_5 : decode cX8_holds 5 = .ok (.ifCond .ne 10, 3) := by decide +kernel
theorem dX8_holds_8 : decode cX8_holds 8 = .ok (.aload_n 0, 1) := by decide +kernel
theorem dX8_holds_9 : decode cX8_holds 9 = .ok (.bipush (-2), 2) := by decide +kernel
theorem dX8_holds_11 : decode cX8_holds 11 = .ok (.invokevirtual 70, 3) := by decide +kernel
theorem dX8_holds_14 : decode cX8_holds 14 = .ok (.ireturn, 1) := by decide +kernel
theorem dX8_holds_15 : decode cX8_holds 15 = .ok (.aload_n 0, 1) := by decide +kernel
theorem dX8_holds_16 : decode cX8_holds 16 = .ok (.invokevirtual 130, 3) := by decide +kernel
theorem dX8_holds_19 : decode cX8_holds 19 = .ok (.iconst 0, 1) := by decide +kernel
theorem dX8_holds_20 : decode cX8_holds 20 = .ok (.istore_n 2, 1) := by decide +kernel
theorem dX8_holds_21 : decode cX8_holds 21 = .ok (.iconst 0, 1) := by decide +kernel
theorem dX8_holds_22 : decode cX8_holds 22 = .ok (.istore_n 3, 1) := by decide +kernel
theorem dX8_holds_23 : decode cX8_holds 23 = .ok (.iload_n 3, 1) := by decide +kernel
theorem dX8_holds_24 : decode cX8_holds 24 = .ok (.aload_n 0, 1) := by decide +kernel
theorem dX8_holds_25 : decode cX8_holds 25 = .ok (.getfield 111, 3) := by decide +kernel
theorem dX8_holds_28 : decode cX8_holds 28 = .ok (.if_icmp .ge 37, 3) := by decide +kernel
theorem dX8_holds_31 : decode cX8_holds 31 = .ok (.aload_n 0, 1) := by decide +kernel
theorem dX8_holds_32 : decode cX8_holds 32 = .ok (.aload_n 0, 1) := by decide +kernel
theorem dX8_holds_33 : decode cX8_holds 33 = .ok (.getfield 30, 3) := by decide +kernel
theorem dX8_holds_36 : decode cX8_holds 36 = .ok (.iload_n 3, 1) := by decide +kernel
theorem dX8_holds_37 : decode cX8_holds 37 = .ok (.iaload, 1) := by decide +kernel
theorem dX8_holds_38 : decode cX8_holds 38 = .ok (.invokevirtual 117, 3) := by decide +kernel
theorem dX8_holds_41 : decode cX8_holds 41 = .ok (.pop, 1) := by decide +kernel
theorem dX8_holds_42 : decode cX8_holds 42 = .ok (.iload_n 2, 1) := by decide +kernel
theorem dX8_holds_43 : decode cX8_holds 43 = .ok (.aload_n 0, 1) := by decide +kernel
theorem dX8_holds_44 : decode cX8_holds 44 = .ok (.iload_n 1, 1) := by decide +kernel
theorem dX8_holds_45 : decode cX8_holds 45 = .ok (.invokevirtual 147, 3) := by decide +kernel
theorem dX8_holds_48 : decode cX8_holds 48 = .ok (.iload_n 1, 1) := by decide +kernel
theorem dX8_holds_49 : decode cX8_holds 49 = .ok (.if_icmp .ne 7, 3) := by decide +kernel
theorem dX8_holds_52 : decode cX8_holds 52 = .ok (.iconst 1, 1) := by decide +kernel
theorem dX8_holds_53 : decode cX8_holds 53 = .ok (.goto 4, 3) := by decide +kernel
theorem dX8_holds_56 : decode cX8_holds 56 = .ok (.iconst 0, 1) := by decide +kernel
theorem dX8_holds_57 : decode cX8_holds 57 = .ok (.iadd, 1) := by decide +kernel
theorem dX8_holds_58 : decode cX8_holds 58 = .ok (.istore_n 2, 1) := by decide +kernel
theorem dX8_holds_59 : decode cX8_holds 59 = .ok (.iinc 3 1, 3) := by decide +kernel
theorem dX8_holds_62 : decode cX8_holds 62 = .ok (.goto (-39), 3) := by decide +kernel
theorem dX8_holds_65 : decode cX8_holds 65 = .ok (.iload_n 2, 1) := by decide +kernel
theorem dX8_holds_66 : decode cX8_holds 66 = .ok (.ireturn, 1) := by decide +kernel
theorem dX8_headsOf_0 : decode cX8_headsOf 0 = .ok (.aload_n 0, 1) := by decide +kernel
theorem dX8_headsOf_1 : decode cX8_headsOf 1 = .ok (.invokevirtual 165, 3) := by decide +kernel
theorem dX8_headsOf_4 : decode cX8_headsOf 4 = .ok (.aload_n 0, 1) := by decide +kernel
theorem dX8_headsOf_5 : decode cX8_headsOf 5 = .ok (.getfield 54, 3) := by decide +kernel
theorem dX8_headsOf_8 : decode cX8_headsOf 8 = .ok (.iload_n 1, 1) := by decide +kernel
theorem dX8_headsOf_9 : decode cX8_headsOf 9 = .ok (.iconst 1, 1) := by decide +kernel
theorem dX8_headsOf_10 : decode cX8_headsOf 10 = .ok (.iadd, 1) := by decide +kernel
theorem dX8_headsOf_11 : decode cX8_headsOf 11 = .ok (.iaload, 1) := by decide +kernel
theorem dX8_headsOf_12 : decode cX8_headsOf 12 = .ok (.aload_n 0, 1) := by decide +kernel
theorem dX8_headsOf_13 : decode cX8_headsOf 13 = .ok (.getfield 54, 3) := by decide +kernel
theorem dX8_headsOf_16 : decode cX8_headsOf 16 = .ok (.iload_n 1, 1) := by decide +kernel
theorem dX8_headsOf_17 : decode cX8_headsOf 17 = .ok (.iaload, 1) := by decide +kernel
theorem dX8_headsOf_18 : decode cX8_headsOf 18 = .ok (.isub, 1) := by decide +kernel
theorem dX8_headsOf_19 : decode cX8_headsOf 19 = .ok (.istore_n 3, 1) := by decide +kernel
theorem dX8_headsOf_20 : decode cX8_headsOf 20 = .ok (.iload_n 2, 1) := by decide +kernel
theorem dX8_headsOf_21 : decode cX8_headsOf 21 = .ok (.iconst (-1), 1) := by decide +kernel
theorem dX8_headsOf_22 : decode cX8_headsOf 22 = .ok (.if_icmp .ne 7, 3) := by decide +kernel
theorem dX8_headsOf_25 : decode cX8_headsOf 25 = .ok (.iload_n 3, 1) := by decide +kernel
theorem dX8_headsOf_26 : decode cX8_headsOf 26 = .ok (.goto 26, 3) := by decide +kernel
theorem dX8_headsOf_29 : decode cX8_headsOf 29 = .ok (.iload_n 2, 1) := by decide +kernel
theorem dX8_headsOf_30 : decode cX8_headsOf 30 = .ok (.iload_n 3, 1) := by decide +kernel
theorem dX8_headsOf_31 : decode cX8_headsOf 31 = .ok (.if_icmp .ge 19, 3) := by decide +kernel
theorem dX8_headsOf_34 : decode cX8_headsOf 34 = .ok (.aload_n 0, 1) := by decide +kernel
theorem dX8_headsOf_35 : decode cX8_headsOf 35 = .ok (.getfield 51, 3) := by decide +kernel
theorem dX8_headsOf_38 : decode cX8_headsOf 38 = .ok (.aload_n 0, 1) := by decide +kernel
theorem dX8_headsOf_39 : decode cX8_headsOf 39 = .ok (.getfield 54, 3) := by decide +kernel
theorem dX8_headsOf_42 : decode cX8_headsOf 42 = .ok (.iload_n 1, 1) := by decide +kernel
theorem dX8_headsOf_43 : decode cX8_headsOf 43 = .ok (.iaload, 1) := by decide +kernel
theorem dX8_headsOf_44 : decode cX8_headsOf 44 = .ok (.iload_n 2, 1) := by decide +kernel
theorem dX8_headsOf_45 : decode cX8_headsOf 45 = .ok (.iadd, 1) := by decide +kernel
theorem dX8_headsOf_46 : decode cX8_headsOf 46 = .ok (.iaload, 1) := by decide +kernel
theorem dX8_headsOf_47 : decode cX8_headsOf 47 = .ok (.goto 5, 3) := by decide +kernel
theorem dX8_headsOf_50 : decode cX8_headsOf 50 = .ok (.bipush (-5), 2) := by decide +kernel
theorem dX8_headsOf_52 : decode cX8_headsOf 52 = .ok (.ireturn, 1) := by decide +kernel
theorem dX8_heads_0 : decode cX8_heads 0 = .ok (.iload_n 1, 1) := by decide +kernel
theorem dX8_heads_1 : decode cX8_heads 1 = .ok (.iconst 0, 1) := by decide +kernel
theorem dX8_heads_2 : decode cX8_heads 2 = .ok (.aload_n 0, 1) := by decide +kernel
theorem dX8_heads_3 : decode cX8_heads 3 = .ok (.getfield 7, 3) := by decide +kernel
theorem dX8_heads_6 : decode cX8_heads 6 = .ok (.iconst 0, 1) := by decide +kernel
theorem dX8_heads_7 : decode cX8_heads 7 = .ok (.iaload, 1) := by decide +kernel
theorem dX8_heads_8 : decode cX8_heads 8 = .ok (.invokestatic 84, 3) := by decide +kernel
theorem dX8_heads_11 : decode cX8_heads 11 = .ok (.ifCond .eq 17, 3) := by decide +kernel
theorem dX8_heads_14 : decode cX8_heads 14 = .ok (.iload_n 2, 1) := by decide +kernel
theorem dX8_heads_15 : decode cX8_heads 15 = .ok (.iconst (-1), 1) := by decide +kernel
theorem dX8_heads_16 : decode cX8_heads 16 = .ok (.if_icmp .lt 12, 3) := by decide +kernel
theorem dX8_heads_19 : decode cX8_heads 19 = .ok (.aload_n 0, 1) := by decide +kernel
theorem dX8_heads_20 : decode cX8_heads 20 = .ok (.iload_n 1, 1) := by decide +kernel
theorem dX8_heads_21 : decode cX8_heads 21 = .ok (.iload_n 2, 1) := by decide +kernel
theorem dX8_heads_22 : decode cX8_heads 22 = .ok (.invokevirtual 171, 3) := by decide +kernel
theorem dX8_heads_25 : decode cX8_heads 25 = .ok (.goto 9, 3) := by decide +kernel
theorem dX8_heads_28 : decode cX8_heads 28 = .ok (.aload_n 0, 1) := by decide +kernel
theorem dX8_heads_29 : decode cX8_heads 29 = .ok (.bipush (-2), 2) := by decide +kernel
theorem dX8_heads_31 : decode cX8_heads 31 = .ok (.invokevirtual 70, 3) := by decide +kernel
theorem dX8_heads_34 : decode cX8_heads 34 = .ok (.ireturn, 1) := by decide +kernel
theorem dX8_head_0 : decode cX8_head 0 = .ok (.aload_n 0, 1) := by decide +kernel
theorem dX8_head_1 : decode cX8_head 1 = .ok (.iload_n 1, 1) := by decide +kernel
theorem dX8_head_2 : decode cX8_head 2 = .ok (.invokevirtual 144, 3) := by decide +kernel
theorem dX8_head_5 : decode cX8_head 5 = .ok (.ifCond .ne 10, 3) := by decide +kernel
theorem dX8_head_8 : decode cX8_head 8 = .ok (.aload_n 0, 1) := by decide +kernel
theorem dX8_head_9 : decode cX8_head 9 = .ok (.bipush (-2), 2) := by decide +kernel
theorem dX8_head_11 : decode cX8_head 11 = .ok (.invokevirtual 70, 3) := by decide +kernel
theorem dX8_head_14 : decode cX8_head 14 = .ok (.ireturn, 1) := by decide +kernel
theorem dX8_head_15 : decode cX8_head 15 = .ok (.aload_n 0, 1) := by decide +kernel
theorem dX8_head_16 : decode cX8_head 16 = .ok (.iload_n 1, 1) := by decide +kernel
theorem dX8_head_17 : decode cX8_head 17 = .ok (.invokevirtual 168, 3) := by decide +kernel
theorem dX8_head_20 : decode cX8_head 20 = .ok (.istore_n 2, 1) := by decide +kernel
theorem dX8_head_21 : decode cX8_head 21 = .ok (.aload_n 0, 1) := by decide +kernel
theorem dX8_head_22 : decode cX8_head 22 = .ok (.getfield 54, 3) := by decide +kernel
theorem dX8_head_25 : decode cX8_head 25 = .ok (.iload_n 1, 1) := by decide +kernel
theorem dX8_head_26 : decode cX8_head 26 = .ok (.invokestatic 159, 3) := by decide +kernel
theorem dX8_head_29 : decode cX8_head 29 = .ok (.iaload, 1) := by decide +kernel
theorem dX8_head_30 : decode cX8_head 30 = .ok (.istore_n 3, 1) := by decide +kernel
theorem dX8_head_31 : decode cX8_head 31 = .ok (.aload_n 0, 1) := by decide +kernel
theorem dX8_head_32 : decode cX8_head 32 = .ok (.getfield 51, 3) := by decide +kernel
theorem dX8_head_35 : decode cX8_head 35 = .ok (.iload_n 3, 1) := by decide +kernel
theorem dX8_head_36 : decode cX8_head 36 = .ok (.iaload, 1) := by decide +kernel
theorem dX8_head_37 : decode cX8_head 37 = .ok (.iload_n 2, 1) := by decide +kernel
theorem dX8_head_38 : decode cX8_head 38 = .ok (.if_icmp .eq 9, 3) := by decide +kernel
theorem dX8_head_41 : decode cX8_head 41 = .ok (.iinc 3 1, 3) := by decide +kernel
theorem dX8_head_44 : decode cX8_head 44 = .ok (.goto (-13), 3) := by decide +kernel
theorem dX8_head_47 : decode cX8_head 47 = .ok (.iload_n 3, 1) := by decide +kernel
theorem dX8_head_48 : decode cX8_head 48 = .ok (.aload_n 0, 1) := by decide +kernel
theorem dX8_head_49 : decode cX8_head 49 = .ok (.getfield 54, 3) := by decide +kernel
theorem dX8_head_52 : decode cX8_head 52 = .ok (.iload_n 1, 1) := by decide +kernel
theorem dX8_head_53 : decode cX8_head 53 = .ok (.invokestatic 159, 3) := by decide +kernel
theorem dX8_head_56 : decode cX8_head 56 = .ok (.iaload, 1) := by decide +kernel
theorem dX8_head_57 : decode cX8_head 57 = .ok (.isub, 1) := by decide +kernel
theorem dX8_head_58 : decode cX8_head 58 = .ok (.ireturn, 1) := by decide +kernel
theorem dX8_type_0 : decode cX8_type 0 = .ok (.iload_n 1, 1) := by decide +kernel
theorem dX8_type_1 : decode cX8_type 1 = .ok (.iconst 0, 1) := by decide +kernel
theorem dX8_type_2 : decode cX8_type 2 = .ok (.bipush 127, 2) := by decide +kernel
theorem dX8_type_4 : decode cX8_type 4 = .ok (.invokestatic 84, 3) := by decide +kernel
theorem dX8_type_7 : decode cX8_type 7 = .ok (.ifCond .ne 10, 3) := by decide +kernel
theorem dX8_type_10 : decode cX8_type 10 = .ok (.aload_n 0, 1) := by decide +kernel
theorem dX8_type_11 : decode cX8_type 11 = .ok (.bipush (-2), 2) := by decide +kernel
theorem dX8_type_13 : decode cX8_type 13 = .ok (.invokevirtual 70, 3) := by decide +kernel
theorem dX8_type_16 : decode cX8_type 16 = .ok (.ireturn, 1) := by decide +kernel
theorem dX8_type_17 : decode cX8_type 17 = .ok (.aload_n 0, 1) := by decide +kernel
theorem dX8_type_18 : decode cX8_type 18 = .ok (.getfield 174, 3) := by decide +kernel
theorem dX8_type_21 : decode cX8_type 21 = .ok (.bipush 80, 2) := by decide +kernel
theorem dX8_type_23 : decode cX8_type 23 = .ok (.if_icmp .ne 10, 3) := by decide +kernel
theorem dX8_type_26 : decode cX8_type 26 = .ok (.aload_n 0, 1) := by decide +kernel
theorem dX8_type_27 : decode cX8_type 27 = .ok (.bipush (-4), 2) := by decide +kernel
theorem dX8_type_29 : decode cX8_type 29 = .ok (.invokevirtual 70, 3) := by decide +kernel
theorem dX8_type_32 : decode cX8_type 32 = .ok (.ireturn, 1) := by decide +kernel
theorem dX8_type_33 : decode cX8_type 33 = .ok (.aload_n 0, 1) := by decide +kernel
theorem dX8_type_34 : decode cX8_type 34 = .ok (.getfield 57, 3) := by decide +kernel
theorem dX8_type_37 : decode cX8_type 37 = .ok (.aload_n 0, 1) := by decide +kernel
theorem dX8_type_38 : decode cX8_type 38 = .ok (.getfield 174, 3) := by decide +kernel
theorem dX8_type_41 : decode cX8_type 41 = .ok (.iload_n 1, 1) := by decide +kernel
theorem dX8_type_42 : decode cX8_type 42 = .ok (.iastore, 1) := by decide +kernel
theorem dX8_type_43 : decode cX8_type 43 = .ok (.aload_n 0, 1) := by decide +kernel
theorem dX8_type_44 : decode cX8_type 44 = .ok (.dup, 1) := by decide +kernel
theorem dX8_type_45 : decode cX8_type 45 = .ok (.getfield 174, 3) := by decide +kernel
theorem dX8_type_48 : decode cX8_type 48 = .ok (.iconst 1, 1) := by decide +kernel
theorem dX8_type_49 : decode cX8_type 49 = .ok (.iadd, 1) := by decide +kernel
theorem dX8_type_50 : decode cX8_type 50 = .ok (.putfield 174, 3) := by decide +kernel
theorem dX8_type_53 : decode cX8_type 53 = .ok (.aload_n 0, 1) := by decide +kernel
theorem dX8_type_54 : decode cX8_type 54 = .ok (.getfield 174, 3) := by decide +kernel
theorem dX8_type_57 : decode cX8_type 57 = .ok (.ireturn, 1) := by decide +kernel
theorem dX8_clear_0 : decode cX8_clear 0 = .ok (.aload_n 0, 1) := by decide +kernel
theorem dX8_clear_1 : decode cX8_clear 1 = .ok (.getfield 174, 3) := by decide +kernel
theorem dX8_clear_4 : decode cX8_clear 4 = .ok (.istore_n 1, 1) := by decide +kernel
theorem dX8_clear_5 : decode cX8_clear 5 = .ok (.aload_n 0, 1) := by decide +kernel
theorem dX8_clear_6 : decode cX8_clear 6 = .ok (.iconst 0, 1) := by decide +kernel
theorem dX8_clear_7 : decode cX8_clear 7 = .ok (.putfield 174, 3) := by decide +kernel
theorem dX8_clear_10 : decode cX8_clear 10 = .ok (.iload_n 1, 1) := by decide +kernel
theorem dX8_clear_11 : decode cX8_clear 11 = .ok (.ireturn, 1) := by decide +kernel
theorem gc_X8_114 : GoodIn xtb (wsV RX8 114 yX8_mark.cls yX8_mark (xW yX8_mark cX8_mark 2 none)) := x_good lkM_X8_114 wI_X8_mark wS_X8_mark wN_X8 wC_X8_mark
theorem gc_X8_120 : GoodIn xtb (wsV RX8 120 yX8_placeOf.cls yX8_placeOf (xW yX8_placeOf cX8_placeOf 5 (some .int))) := x_good lkM_X8_120 wI_X8_placeOf wS_X8_placeOf wN_X8 wC_X8_placeOf
theorem gc_X8_124 : GoodIn xtb (wsV RX8 124 yX8_sortMade.cls yX8_sortMade (xW yX8_sortMade cX8_sortMade 3 none)) := x_good lkM_X8_124 wI_X8_sortMade wS_X8_sortMade wN_X8 wC_X8_sortMade
theorem gc_X8_127 : GoodIn xtb (wsV RX8 127 yX8_findChains.cls yX8_findChains (xW yX8_findChains cX8_findChains 4 none)) := x_good lkM_X8_127 wI_X8_findChains wS_X8_findChains wN_X8 wC_X8_findChains
theorem gc_X8_130 : GoodIn xtb (wsV RX8 130 yX8_lay.cls yX8_lay (xW yX8_lay cX8_lay 4 none)) := x_good lkM_X8_130 wI_X8_lay wS_X8_lay wN_X8 wC_X8_lay
theorem gc_X8_137 : GoodIn xtb (va_wsS RX8 137 yX8_lowest (xW yX8_lowest cX8_lowest 2 (some .int))) := x_goodS lkM_X8_137 wT_X8_lowest wN_X8 wC_X8_lowest
theorem gc_X8_140 : GoodIn xtb (wsV RX8 140 yX8_ofPoint.cls yX8_ofPoint (xW yX8_ofPoint cX8_ofPoint 3 (some .int))) := x_good lkM_X8_140 wI_X8_ofPoint wS_X8_ofPoint wN_X8 wC_X8_ofPoint
theorem gc_X8_144 : GoodIn xtb (wsV RX8 144 yX8_isSet.cls yX8_isSet (xW yX8_isSet cX8_isSet 2 (some .boolean))) := x_good lkM_X8_144 wI_X8_isSet wS_X8_isSet wN_X8 wC_X8_isSet
theorem gc_X8_147 : GoodIn xtb (wsV RX8 147 yX8_imageOf.cls yX8_imageOf (xW yX8_imageOf cX8_imageOf 4 (some .int))) := x_good lkM_X8_147 wI_X8_imageOf wS_X8_imageOf wN_X8 wC_X8_imageOf
theorem gc_X8_153 : GoodIn xtb (wsV RX8 153 yX8_carry.cls yX8_carry (xW yX8_carry cX8_carry 2 none)) := x_good lkM_X8_153 wI_X8_carry wS_X8_carry wN_X8 wC_X8_carry
theorem gc_X8_156 : GoodIn xtb (va_wsS RX8 156 yX8_turned (xW yX8_turned cX8_turned 3 (some .int))) := x_goodS lkM_X8_156 wT_X8_turned wN_X8 wC_X8_turned
theorem gc_X8_159 : GoodIn xtb (va_wsS RX8 159 yX8_size (xW yX8_size cX8_size 3 (some .int))) := x_goodS lkM_X8_159 wT_X8_size wN_X8 wC_X8_size
theorem gc_X8_162 : GoodIn xtb (wsV RX8 162 yX8_findImages.cls yX8_findImages (xW yX8_findImages cX8_findImages 4 none)) := x_good lkM_X8_162 wI_X8_findImages wS_X8_findImages wN_X8 wC_X8_findImages
theorem gc_X8_165 : GoodIn xtb (wsV RX8 165 yX8_sortSets.cls yX8_sortSets (xW yX8_sortSets cX8_sortSets 6 none)) := x_good lkM_X8_165 wI_X8_sortSets wS_X8_sortSets wN_X8 wC_X8_sortSets
theorem gc_X8_168 : GoodIn xtb (wsV RX8 168 yX8_leastOf.cls yX8_leastOf (xW yX8_leastOf cX8_leastOf 2 (some .int))) := x_good lkM_X8_168 wI_X8_leastOf wS_X8_leastOf wN_X8 wC_X8_leastOf
theorem gc_X8_171 : GoodIn xtb (wsV RX8 171 yX8_headsOf.cls yX8_headsOf (xW yX8_headsOf cX8_headsOf 4 (some .int))) := x_good lkM_X8_171 wI_X8_headsOf wS_X8_headsOf wN_X8 wC_X8_headsOf
theorem ds_X8_lay : xDs yX8_lay 0 := by decide +kernel
theorem ds_X8_order : xDs yX8_order 0 := by decide +kernel
theorem ds_X8_ofPoint : xDs yX8_ofPoint 2 := by decide +kernel
theorem ds_X8_of : xDs yX8_of 2 := by decide +kernel
theorem ds_X8_number : xDs yX8_number 1 := by decide +kernel
theorem ds_X8_element : xDs yX8_element 1 := by decide +kernel
theorem ds_X8_isSet : xDs yX8_isSet 1 := by decide +kernel
theorem ds_X8_imageOf : xDs yX8_imageOf 1 := by decide +kernel
theorem ds_X8_image : xDs yX8_image 2 := by decide +kernel
theorem ds_X8_carry : xDs yX8_carry 1 := by decide +kernel
theorem ds_X8_findImages : xDs yX8_findImages 1 := by decide +kernel
theorem ds_X8_sortSets : xDs yX8_sortSets 0 := by decide +kernel
theorem ds_X8_leastOf : xDs yX8_leastOf 1 := by decide +kernel
theorem ds_X8_least : xDs yX8_least 1 := by decide +kernel
theorem ds_X8_images : xDs yX8_images 2 := by decide +kernel
theorem ds_X8_carrier : xDs yX8_carrier 2 := by decide +kernel
theorem ds_X8_holds : xDs yX8_holds 1 := by decide +kernel
theorem ds_X8_headsOf : xDs yX8_headsOf 2 := by decide +kernel
theorem ds_X8_heads : xDs yX8_heads 2 := by decide +kernel
theorem ds_X8_head : xDs yX8_head 1 := by decide +kernel
theorem ds_X8_type : xDs yX8_type 1 := by decide +kernel
theorem ds_X8_clear : xDs yX8_clear 0 := by decide +kernel
noncomputable def f_X8_lay_L3 (m_now : (Nat → Int32)) (v1_6 : Int32) (m_figures_9 : (Nat → Int32)) (z : (Nat → Int32) × Int32) : Option (((Nat → Int32) × Int32) ⊕ ((Nat → Int32))) := match z with
  | (m_images_10, v2_11) => xb ((m_now 0) ≤ v2_11) (some (.inr m_images_10)) (xk (vp_in v2_11 8) (xk (vp_in (((8 : Int32) * v1_6) + v2_11) 24) (some (.inl ((upd m_images_10 (((8 : Int32) * v1_6) + v2_11).toNatClampNeg (m_figures_9 v2_11.toNatClampNeg)), (v2_11 + (1 : Int32)))))))
noncomputable def f_X8_lay_L6 (m_now : (Nat → Int32)) (v2_29 : Int32) (m_images_8 : (Nat → Int32)) (z : (Nat → Int32) × Int32) : Option (((Nat → Int32) × Int32) ⊕ ((Nat → Int32))) := match z with
  | (m_figures_36, v3_37) => xb ((m_now 0) ≤ v3_37) (some (.inr m_figures_36)) (xk (vp_in v3_37 8) (xk (vp_in (((8 : Int32) * v2_29) + (m_figures_36 v3_37.toNatClampNeg)) 24) (some (.inl ((upd m_figures_36 v3_37.toNatClampNeg (m_images_8 (((8 : Int32) * v2_29) + (m_figures_36 v3_37.toNatClampNeg)).toNatClampNeg)), (v3_37 + (1 : Int32)))))))
noncomputable def f_X8_lay_L5 (m_now : (Nat → Int32)) (v1_20 : Int32) (m_images_8 : (Nat → Int32)) (z : (Nat → Int32) × Int32 × (Nat → Int32) × (Nat → Int32) × Int32) : Option (((Nat → Int32) × Int32 × (Nat → Int32) × (Nat → Int32) × Int32) ⊕ ((Nat → Int32) × Int32 × (Nat → Int32) × (Nat → Int32))) := match z with
  | (m_figures_25, m_many_26, m_isMade_27, m_made_28, v2_29) => xb ((m_now 1) ≤ v2_29) (some (.inr (m_figures_25, m_many_26, m_isMade_27, m_made_28))) (xk (vp_in v1_20 40320) (xn (f_X8_codeAt m_now m_figures_25 (m_made_28 v1_20.toNatClampNeg)) (fun (z : (Nat → Int32) × Int32) => match z with | (m_figures_34, r_35) => xn (xL (f_X8_lay_L6 m_now v2_29 m_images_8) (m_figures_34, (0 : Int32))) (fun (m_figures_38 : (Nat → Int32)) => xn (f_X8_placeOf m_now m_figures_38) (fun (r_39 : Int32) => xn (f_X8_mark m_many_26 m_isMade_27 m_made_28 r_39) (fun (z : Int32 × (Nat → Int32) × (Nat → Int32)) => match z with | (m_many_40, m_isMade_41, m_made_42) => some (.inl (m_figures_38, m_many_40, m_isMade_41, m_made_42, (v2_29 + (1 : Int32))))))))))
noncomputable def f_X8_lay_L4 (m_now : (Nat → Int32)) (m_images_8 : (Nat → Int32)) (z : (Nat → Int32) × Int32 × (Nat → Int32) × (Nat → Int32) × Int32) : Option (((Nat → Int32) × Int32 × (Nat → Int32) × (Nat → Int32) × Int32) ⊕ ((Nat → Int32) × Int32 × (Nat → Int32) × (Nat → Int32))) := match z with
  | (m_figures_16, m_many_17, m_isMade_18, m_made_19, v1_20) => xb (m_many_17 ≤ v1_20) (some (.inr (m_figures_16, m_many_17, m_isMade_18, m_made_19))) (xn (xL (f_X8_lay_L5 m_now v1_20 m_images_8) (m_figures_16, m_many_17, m_isMade_18, m_made_19, (0 : Int32))) (fun (z : (Nat → Int32) × Int32 × (Nat → Int32) × (Nat → Int32)) => match z with | (m_figures_30, m_many_31, m_isMade_32, m_made_33) => some (.inl (m_figures_30, m_many_31, m_isMade_32, m_made_33, (v1_20 + (1 : Int32))))))
noncomputable def f_X8_lay_L2 (m_now : (Nat → Int32)) (z : (Nat → Int32) × (Nat → Int32) × Int32) : Option (((Nat → Int32) × (Nat → Int32) × Int32) ⊕ ((Nat → Int32) × (Nat → Int32))) := match z with
  | (m_figures_4, m_images_5, v1_6) => xb ((m_now 1) ≤ v1_6) (some (.inr (m_figures_4, m_images_5))) (xk (vp_in ((2 : Int32) + v1_6) 5) (xn (f_X8_open m_now m_figures_4 (m_now ((2 : Int32) + v1_6).toNatClampNeg)) (fun (m_figures_9 : (Nat → Int32)) => xn (xL (f_X8_lay_L3 m_now v1_6 m_figures_9) (m_images_5, (0 : Int32))) (fun (m_images_12 : (Nat → Int32)) => some (.inl (m_figures_9, m_images_12, (v1_6 + (1 : Int32))))))))
noncomputable def f_X8_lay_L1  (z : (Nat → Int32) × Int32) : Option (((Nat → Int32) × Int32) ⊕ ((Nat → Int32))) := match z with
  | (m_isMade_1, v1_2) => xb ((40320 : Int32) ≤ v1_2) (some (.inr m_isMade_1)) (xk (vp_in v1_2 40320) (some (.inl ((upd m_isMade_1 v1_2.toNatClampNeg (0 : Int32)), (v1_2 + (1 : Int32))))))
noncomputable def f_X8_lay (m_now : (Nat → Int32)) (m_figures : (Nat → Int32)) (m_isLaid : Int32) (m_many : Int32) (m_isMade : (Nat → Int32)) (m_made : (Nat → Int32)) (m_images : (Nat → Int32)) (m_orbits : (Nat → Int32)) (m_chains : (Nat → Int32)) : Option ((Nat → Int32) × Int32 × Int32 × (Nat → Int32) × (Nat → Int32) × (Nat → Int32) × (Nat → Int32) × (Nat → Int32)) := xb (m_isLaid = 0) (xn (xL f_X8_lay_L1 (m_isMade, (0 : Int32))) (fun (m_isMade_3 : (Nat → Int32)) => xn (xL (f_X8_lay_L2 m_now) (m_figures, m_images, (0 : Int32))) (fun (z : (Nat → Int32) × (Nat → Int32)) => match z with | (m_figures_7, m_images_8) => xn (f_X8_mark (0 : Int32) m_isMade_3 m_made (0 : Int32)) (fun (z : Int32 × (Nat → Int32) × (Nat → Int32)) => match z with | (m_many_13, m_isMade_14, m_made_15) => xn (xL (f_X8_lay_L4 m_now m_images_8) (m_figures_7, m_many_13, m_isMade_14, m_made_15, (0 : Int32))) (fun (z : (Nat → Int32) × Int32 × (Nat → Int32) × (Nat → Int32)) => match z with | (m_figures_21, m_many_22, m_isMade_23, m_made_24) => xn (f_X8_sortMade m_isMade_23 m_made_24) (fun (m_made_43 : (Nat → Int32)) => xn (f_X8_findChains m_now m_figures_21 m_many_22 m_made_43 m_orbits m_chains) (fun (z : (Nat → Int32) × (Nat → Int32) × (Nat → Int32)) => match z with | (m_figures_44, m_orbits_45, m_chains_46) => some (m_figures_44, (1 : Int32), m_many_22, m_isMade_23, m_made_43, m_images_8, m_orbits_45, m_chains_46)))))))) (some (m_figures, m_isLaid, m_many, m_isMade, m_made, m_images, m_orbits, m_chains))
set_option maxHeartbeats 4000000 in
set_option maxRecDepth 100000 in
theorem c_X8_lay (l : Launch) (dC : Nat → ClassId) (dI : Nat → Nat → Nat) (cI cZ cB cO : ClassId) (m_ad : Nat) (m_p : Nat → Nat) (m_now : (Nat → Int32)) (m_held : (Nat → Int32)) (m_past : (Nat → Int32)) (m_pasts : Int32) (m_refused : (Nat → Int32)) (m_figures : (Nat → Int32)) (m_isLaid : Int32) (m_many : Int32) (m_isMade : (Nat → Int32)) (m_made : (Nat → Int32)) (m_images : (Nat → Int32)) (m_orbits : (Nat → Int32)) (m_chains : (Nat → Int32)) (m_isCarried : (Nat → Int32)) (m_carried : (Nat → Int32)) (m_carriedMany : Int32) (m_isSorted : Int32) (m_leasts : (Nat → Int32)) (m_heads : (Nat → Int32)) (m_headFrom : (Nat → Int32)) (m_text : (Nat → Int32)) (m_typed : Int32) (m_at : Int32) (m_fault : Int32) (m_orders : Int32) (m_pointsThen : Int32) (m_letters : (Nat → Int32)) (m_numbers : (Nat → Int32)) (m_h : Int64) (o : (Nat → Int32) × Int32 × Int32 × (Nat → Int32) × (Nat → Int32) × (Nat → Int32) × (Nat → Int32) × (Nat → Int32)) (h : f_X8_lay m_now m_figures m_isLaid m_many m_isMade m_made m_images m_orbits m_chains = some o) (sz : Nat) : Met l yX8_lay (xW yX8_lay cX8_lay 4 none) { frames := 2, cells := 0, slots := 0, locals := 47 } (xPre dC dI (xT cI cZ cB cO) [.ref m_ad] (wM cI cZ cB cO m_ad m_p m_now m_held m_past m_pasts m_refused m_figures m_isLaid m_many m_isMade m_made m_images m_orbits m_chains m_isCarried m_carried m_carriedMany m_isSorted m_leasts m_heads m_headFrom m_text m_typed m_at m_fault m_orders m_pointsThen m_letters m_numbers m_h) sz) (xQv dC dI (xT cI cZ cB cO) (wM cI cZ cB cO m_ad m_p m_now m_held m_past m_pasts m_refused m_figures m_isLaid m_many m_isMade m_made m_images m_orbits m_chains m_isCarried m_carried m_carriedMany m_isSorted m_leasts m_heads m_headFrom m_text m_typed m_at m_fault m_orders m_pointsThen m_letters m_numbers m_h) (wM cI cZ cB cO m_ad m_p m_now m_held m_past m_pasts m_refused o.1 o.2.1 o.2.2.1 o.2.2.2.1 o.2.2.2.2.1 o.2.2.2.2.2.1 o.2.2.2.2.2.2.1 o.2.2.2.2.2.2.2 m_isCarried m_carried m_carriedMany m_isSorted m_leasts m_heads m_headFrom m_text m_typed m_at m_fault m_orders m_pointsThen m_letters m_numbers m_h) sz) 0 0 (va_A (wM cI cZ cB cO m_ad m_p m_now m_held m_past m_pasts m_refused m_figures m_isLaid m_many m_isMade m_made m_images m_orbits m_chains m_isCarried m_carried m_carriedMany m_isSorted m_leasts m_heads m_headFrom m_text m_typed m_at m_fault m_orders m_pointsThen m_letters m_numbers m_h) sz) := by
  refine x_met (by decide) (Nat.le_of_ble_eq_true rfl) ?_
  intro p e s m args below meth c R Q A hR hsz hA hQ hin C hw ls hl
  have hx := C.1
  have hb := C.2.1
  have hown := C.2.2.2.1
  have htb := C.2.2.2.2.1
  have hl : lv_has ls 4 [(0, .ref m_ad)] := hl
  refine lv_aload_n hx hb dX8_lay_0 rfl (lv_at hl 0 rfl) ?_
  refine x_get (ci := 7) C hw inX8 rfl 6 (by decide) lkF_X8_77 rfl 0 rfl rfl dX8_lay_1 ?_
  refine lv_if_eq (tgt := 8) hx hb dX8_lay_4 (by decide) (fun b1 => ?_) (fun b1 => ?_)
  · replace h := xb_tt b1 h
    refine lv_aload_n hx hb dX8_lay_8 rfl (lv_at hl 0 rfl) ?_
    refine lv_iconst (v := (1 : Int32)) hx hb dX8_lay_9 (by decide) ?_
    refine x_put (ci := 7) C hw inX8 tyX8 tyX8_ok nmX8 rfl 6 (by decide) lkF_X8_77 rfl rfl 0 rfl rfl rfl (Nat.le_of_ble_eq_true rfl) dX8_lay_10 (fun H locs hw => ?_)
    have hw : xWd (dC, dI) A s.heap H locs (wM cI cZ cB cO m_ad m_p m_now m_held m_past m_pasts m_refused m_figures (1 : Int32) m_many m_isMade m_made m_images m_orbits m_chains m_isCarried m_carried m_carriedMany m_isSorted m_leasts m_heads m_headFrom m_text m_typed m_at m_fault m_orders m_pointsThen m_letters m_numbers m_h) := hw
    refine lv_iconst (v := (0 : Int32)) hx hb dX8_lay_13 (by decide) ?_
    refine lv_istore_n (lv' := [(1, .int (0 : Int32)), (0, .ref m_ad)]) hx hb dX8_lay_14 rfl hl (by decide) rfl (fun ls hl => ?_)
    obtain ⟨z, hr, h⟩ := xn_i h
    refine xL_w (fun (z : (Nat → Int32) × Int32) => ∀ (H : Heap) (locs : List Loc) (ls : Array Slot), xWd (dC, dI) A s.heap H locs (wM cI cZ cB cO m_ad m_p m_now m_held m_past m_pasts m_refused m_figures (1 : Int32) m_many z.1 m_made m_images m_orbits m_chains m_isCarried m_carried m_carriedMany m_isSorted m_leasts m_heads m_headFrom m_text m_typed m_at m_fault m_orders m_pointsThen m_letters m_numbers m_h) → lv_has ls 4 [(0, .ref m_ad), (1, .int z.2)] → W p l e R s m args below meth c H locs 0 0 Q (F0 m 15 ls [])) (fun (z : (Nat → Int32)) => ∀ (H : Heap) (locs : List Loc) (ls : Array Slot), xWd (dC, dI) A s.heap H locs (wM cI cZ cB cO m_ad m_p m_now m_held m_past m_pasts m_refused m_figures (1 : Int32) m_many z m_made m_images m_orbits m_chains m_isCarried m_carried m_carriedMany m_isSorted m_leasts m_heads m_headFrom m_text m_typed m_at m_fault m_orders m_pointsThen m_letters m_numbers m_h) → lv_has ls 4 [(0, .ref m_ad)] → W p l e R s m args below meth c H locs 0 0 Q (F0 m 34 ls [])) ?_ hr ?_ _ _ _ hw (lv_sub hl [1, 0] rfl)
    · rintro ⟨m_isMade_1, v1_2⟩ o h k H locs ls hw hl
      have hw : xWd (dC, dI) A s.heap H locs (wM cI cZ cB cO m_ad m_p m_now m_held m_past m_pasts m_refused m_figures (1 : Int32) m_many m_isMade_1 m_made m_images m_orbits m_chains m_isCarried m_carried m_carriedMany m_isSorted m_leasts m_heads m_headFrom m_text m_typed m_at m_fault m_orders m_pointsThen m_letters m_numbers m_h) := hw
      have hl : lv_has ls 4 [(0, .ref m_ad), (1, .int v1_2)] := hl
      refine lv_iload_n hx hb dX8_lay_15 rfl (lv_at hl 1 rfl) ?_
      refine lv_ldc hx hb hown (htb _ kI_X8_25) dX8_lay_16 ?_
      refine lv_icmp_ge (tgt := 34) hx hb dX8_lay_18 (by decide) (fun b2 => ?_) (fun b2 => ?_)
      · replace h := xb_tt b2 h
        obtain rfl := Option.some.inj h
        exact k _ _ _ hw (lv_sub hl [0] rfl)
      · replace h := xb_ff b2 h
        refine lv_aload_n hx hb dX8_lay_21 rfl (lv_at hl 0 rfl) ?_
        refine x_get (ci := 7) C hw inX8 rfl 8 (by decide) lkF_X8_26 rfl 0 rfl rfl dX8_lay_22 ?_
        refine lv_iload_n hx hb dX8_lay_25 rfl (lv_at hl 1 rfl) ?_
        refine lv_iconst (v := (0 : Int32)) hx hb dX8_lay_26 (by decide) ?_
        obtain ⟨b3, h⟩ := xk_i h
        refine x_zast C hw 6 1 rfl rfl rfl b3 dX8_lay_27 (fun H locs hw => ?_)
        have hw : xWd (dC, dI) A s.heap H locs (wM cI cZ cB cO m_ad m_p m_now m_held m_past m_pasts m_refused m_figures (1 : Int32) m_many (upd m_isMade_1 v1_2.toNatClampNeg (0 : Int32)) m_made m_images m_orbits m_chains m_isCarried m_carried m_carriedMany m_isSorted m_leasts m_heads m_headFrom m_text m_typed m_at m_fault m_orders m_pointsThen m_letters m_numbers m_h) := hw
        refine lv_iinc (v := (v1_2 + (1 : Int32))) (lv' := [(1, .int (v1_2 + (1 : Int32))), (0, .ref m_ad)]) hx hb dX8_lay_28 hl (k := 1) rfl (congrArg (fun q => v1_2 + q) (by decide)) (by decide) rfl (fun ls hl => ?_)
        refine lv_goto (tgt := 15) hx hb dX8_lay_31 (by decide) ?_
        obtain rfl := Option.some.inj h
        exact k _ _ _ hw (lv_sub hl [1, 0] rfl)
    · obtain ⟨m_isMade_3, hz⟩ : ∃ q, q = z := ⟨z, rfl⟩
      subst hz
      intro H locs ls hw hl
      have hw : xWd (dC, dI) A s.heap H locs (wM cI cZ cB cO m_ad m_p m_now m_held m_past m_pasts m_refused m_figures (1 : Int32) m_many m_isMade_3 m_made m_images m_orbits m_chains m_isCarried m_carried m_carriedMany m_isSorted m_leasts m_heads m_headFrom m_text m_typed m_at m_fault m_orders m_pointsThen m_letters m_numbers m_h) := hw
      have hl : lv_has ls 4 [(0, .ref m_ad)] := hl
      refine lv_iconst (v := (0 : Int32)) hx hb dX8_lay_34 (by decide) ?_
      refine lv_istore_n (lv' := [(1, .int (0 : Int32)), (0, .ref m_ad)]) hx hb dX8_lay_35 rfl hl (by decide) rfl (fun ls hl => ?_)
      obtain ⟨z, hr, h⟩ := xn_i h
      refine xL_w (fun (z : (Nat → Int32) × (Nat → Int32) × Int32) => ∀ (H : Heap) (locs : List Loc) (ls : Array Slot), xWd (dC, dI) A s.heap H locs (wM cI cZ cB cO m_ad m_p m_now m_held m_past m_pasts m_refused z.1 (1 : Int32) m_many m_isMade_3 m_made z.2.1 m_orbits m_chains m_isCarried m_carried m_carriedMany m_isSorted m_leasts m_heads m_headFrom m_text m_typed m_at m_fault m_orders m_pointsThen m_letters m_numbers m_h) → lv_has ls 4 [(0, .ref m_ad), (1, .int z.2.2)] → W p l e R s m args below meth c H locs 0 0 Q (F0 m 36 ls [])) (fun (z : (Nat → Int32) × (Nat → Int32)) => ∀ (H : Heap) (locs : List Loc) (ls : Array Slot), xWd (dC, dI) A s.heap H locs (wM cI cZ cB cO m_ad m_p m_now m_held m_past m_pasts m_refused z.1 (1 : Int32) m_many m_isMade_3 m_made z.2 m_orbits m_chains m_isCarried m_carried m_carriedMany m_isSorted m_leasts m_heads m_headFrom m_text m_typed m_at m_fault m_orders m_pointsThen m_letters m_numbers m_h) → lv_has ls 4 [(0, .ref m_ad)] → W p l e R s m args below meth c H locs 0 0 Q (F0 m 99 ls [])) ?_ hr ?_ _ _ _ hw (lv_sub hl [1, 0] rfl)
      · rintro ⟨m_figures_4, m_images_5, v1_6⟩ o h k H locs ls hw hl
        have hw : xWd (dC, dI) A s.heap H locs (wM cI cZ cB cO m_ad m_p m_now m_held m_past m_pasts m_refused m_figures_4 (1 : Int32) m_many m_isMade_3 m_made m_images_5 m_orbits m_chains m_isCarried m_carried m_carriedMany m_isSorted m_leasts m_heads m_headFrom m_text m_typed m_at m_fault m_orders m_pointsThen m_letters m_numbers m_h) := hw
        have hl : lv_has ls 4 [(0, .ref m_ad), (1, .int v1_6)] := hl
        refine lv_iload_n hx hb dX8_lay_36 rfl (lv_at hl 1 rfl) ?_
        refine lv_aload_n hx hb dX8_lay_37 rfl (lv_at hl 0 rfl) ?_
        refine x_get (ci := 7) C hw inX8 rfl 0 (by decide) lkF_X8_7 rfl 0 rfl rfl dX8_lay_38 ?_
        refine lv_iconst (v := (1 : Int32)) hx hb dX8_lay_41 (by decide) ?_
        refine x_ialk C hw 1 0 rfl rfl (k := 1) (by decide) (vp_in_iff.mpr (by decide)) dX8_lay_42 ?_
        refine lv_icmp_ge (tgt := 99) hx hb dX8_lay_43 (by decide) (fun b4 => ?_) (fun b4 => ?_)
        · replace h := xb_tt b4 h
          obtain rfl := Option.some.inj h
          exact k _ _ _ hw (lv_sub hl [0] rfl)
        · replace h := xb_ff b4 h
          refine lv_aload_n hx hb dX8_lay_46 rfl (lv_at hl 0 rfl) ?_
          refine lv_aload_n hx hb dX8_lay_47 rfl (lv_at hl 0 rfl) ?_
          refine x_get (ci := 7) C hw inX8 rfl 0 (by decide) lkF_X8_7 rfl 0 rfl rfl dX8_lay_48 ?_
          refine lv_iconst (v := (2 : Int32)) hx hb dX8_lay_51 (by decide) ?_
          refine lv_iload_n hx hb dX8_lay_52 rfl (lv_at hl 1 rfl) ?_
          refine lv_iadd hx hb dX8_lay_53 ?_
          obtain ⟨b5, h⟩ := xk_i h
          refine x_iald C hw 1 0 rfl rfl b5 dX8_lay_54 ?_
          obtain ⟨m_figures_9, q6, h⟩ := xn_i h
          refine x_callVv (As := [.int (m_now ((2 : Int32) + v1_6).toNatClampNeg)]) (rest := []) C hw gc_X8_88 ⟨rfl, rfl, ds_X8_open, (by rw [hR]; exact Nat.le_of_ble_eq_true rfl), (by rw [hR]; exact Nat.le_of_ble_eq_true rfl), Nat.zero_le _, Nat.zero_le _⟩ (c_X8_open l dC dI cI cZ cB cO m_ad m_p m_now m_held m_past m_pasts m_refused m_figures_4 (1 : Int32) m_many m_isMade_3 m_made m_images_5 m_orbits m_chains m_isCarried m_carried m_carriedMany m_isSorted m_leasts m_heads m_headFrom m_text m_typed m_at m_fault m_orders m_pointsThen m_letters m_numbers m_h (m_now ((2 : Int32) + v1_6).toNatClampNeg) _ q6 _) [0, 1, 2, 3, 4, 5, 6, 7, 8, 9, 10, 11, 12, 13, 14, 15, 16, 17, 18] [] (by decide) rfl rfl (by decide) (by decide) rfl rfl rfl hl.1 rfl (Nat.le_of_ble_eq_true rfl) dX8_lay_55 (fun H locs hw => ?_)
          have hw : xWd (dC, dI) A s.heap H locs (wM cI cZ cB cO m_ad m_p m_now m_held m_past m_pasts m_refused m_figures_9 (1 : Int32) m_many m_isMade_3 m_made m_images_5 m_orbits m_chains m_isCarried m_carried m_carriedMany m_isSorted m_leasts m_heads m_headFrom m_text m_typed m_at m_fault m_orders m_pointsThen m_letters m_numbers m_h) := hw
          refine lv_iconst (v := (0 : Int32)) hx hb dX8_lay_58 (by decide) ?_
          refine lv_istore_n (lv' := [(2, .int (0 : Int32)), (0, .ref m_ad), (1, .int v1_6)]) hx hb dX8_lay_59 rfl hl (by decide) rfl (fun ls hl => ?_)
          obtain ⟨z, hr, h⟩ := xn_i h
          refine xL_w (fun (z : (Nat → Int32) × Int32) => ∀ (H : Heap) (locs : List Loc) (ls : Array Slot), xWd (dC, dI) A s.heap H locs (wM cI cZ cB cO m_ad m_p m_now m_held m_past m_pasts m_refused m_figures_9 (1 : Int32) m_many m_isMade_3 m_made z.1 m_orbits m_chains m_isCarried m_carried m_carriedMany m_isSorted m_leasts m_heads m_headFrom m_text m_typed m_at m_fault m_orders m_pointsThen m_letters m_numbers m_h) → lv_has ls 4 [(0, .ref m_ad), (1, .int v1_6), (2, .int z.2)] → W p l e R s m args below meth c H locs 0 0 Q (F0 m 60 ls [])) (fun (z : (Nat → Int32)) => ∀ (H : Heap) (locs : List Loc) (ls : Array Slot), xWd (dC, dI) A s.heap H locs (wM cI cZ cB cO m_ad m_p m_now m_held m_past m_pasts m_refused m_figures_9 (1 : Int32) m_many m_isMade_3 m_made z m_orbits m_chains m_isCarried m_carried m_carriedMany m_isSorted m_leasts m_heads m_headFrom m_text m_typed m_at m_fault m_orders m_pointsThen m_letters m_numbers m_h) → lv_has ls 4 [(0, .ref m_ad), (1, .int v1_6)] → W p l e R s m args below meth c H locs 0 0 Q (F0 m 93 ls [])) ?_ hr ?_ _ _ _ hw (lv_sub hl [1, 2, 0] rfl)
          · rintro ⟨m_images_10, v2_11⟩ o h k H locs ls hw hl
            have hw : xWd (dC, dI) A s.heap H locs (wM cI cZ cB cO m_ad m_p m_now m_held m_past m_pasts m_refused m_figures_9 (1 : Int32) m_many m_isMade_3 m_made m_images_10 m_orbits m_chains m_isCarried m_carried m_carriedMany m_isSorted m_leasts m_heads m_headFrom m_text m_typed m_at m_fault m_orders m_pointsThen m_letters m_numbers m_h) := hw
            have hl : lv_has ls 4 [(0, .ref m_ad), (1, .int v1_6), (2, .int v2_11)] := hl
            refine lv_iload_n hx hb dX8_lay_60 rfl (lv_at hl 2 rfl) ?_
            refine lv_aload_n hx hb dX8_lay_61 rfl (lv_at hl 0 rfl) ?_
            refine x_get (ci := 7) C hw inX8 rfl 0 (by decide) lkF_X8_7 rfl 0 rfl rfl dX8_lay_62 ?_
            refine lv_iconst (v := (0 : Int32)) hx hb dX8_lay_65 (by decide) ?_
            refine x_ialk C hw 1 0 rfl rfl (k := 0) (by decide) (vp_in_iff.mpr (by decide)) dX8_lay_66 ?_
            refine lv_icmp_ge (tgt := 93) hx hb dX8_lay_67 (by decide) (fun b7 => ?_) (fun b7 => ?_)
            · replace h := xb_tt b7 h
              obtain rfl := Option.some.inj h
              exact k _ _ _ hw (lv_sub hl [0, 1] rfl)
            · replace h := xb_ff b7 h
              refine lv_aload_n hx hb dX8_lay_70 rfl (lv_at hl 0 rfl) ?_
              refine x_get (ci := 7) C hw inX8 rfl 10 (by decide) lkF_X8_33 rfl 0 rfl rfl dX8_lay_71 ?_
              refine lv_bipush (v := (8 : Int32)) hx hb dX8_lay_74 (by decide) ?_
              refine lv_iload_n hx hb dX8_lay_76 rfl (lv_at hl 1 rfl) ?_
              refine lv_imul hx hb dX8_lay_77 ?_
              refine lv_iload_n hx hb dX8_lay_78 rfl (lv_at hl 2 rfl) ?_
              refine lv_iadd hx hb dX8_lay_79 ?_
              refine lv_aload_n hx hb dX8_lay_80 rfl (lv_at hl 0 rfl) ?_
              refine x_get (ci := 7) C hw inX8 rfl 5 (by decide) lkF_X8_22 rfl 0 rfl rfl dX8_lay_81 ?_
              refine lv_iload_n hx hb dX8_lay_84 rfl (lv_at hl 2 rfl) ?_
              obtain ⟨b8, h⟩ := xk_i h
              refine x_iald C hw 5 0 rfl rfl b8 dX8_lay_85 ?_
              obtain ⟨b9, h⟩ := xk_i h
              refine x_iast C hw 8 0 rfl rfl b9 dX8_lay_86 (fun H locs hw => ?_)
              have hw : xWd (dC, dI) A s.heap H locs (wM cI cZ cB cO m_ad m_p m_now m_held m_past m_pasts m_refused m_figures_9 (1 : Int32) m_many m_isMade_3 m_made (upd m_images_10 (((8 : Int32) * v1_6) + v2_11).toNatClampNeg (m_figures_9 v2_11.toNatClampNeg)) m_orbits m_chains m_isCarried m_carried m_carriedMany m_isSorted m_leasts m_heads m_headFrom m_text m_typed m_at m_fault m_orders m_pointsThen m_letters m_numbers m_h) := hw
              refine lv_iinc (v := (v2_11 + (1 : Int32))) (lv' := [(2, .int (v2_11 + (1 : Int32))), (0, .ref m_ad), (1, .int v1_6)]) hx hb dX8_lay_87 hl (k := 2) rfl (congrArg (fun q => v2_11 + q) (by decide)) (by decide) rfl (fun ls hl => ?_)
              refine lv_goto (tgt := 60) hx hb dX8_lay_90 (by decide) ?_
              obtain rfl := Option.some.inj h
              exact k _ _ _ hw (lv_sub hl [1, 2, 0] rfl)
          · obtain ⟨m_images_12, hz⟩ : ∃ q, q = z := ⟨z, rfl⟩
            subst hz
            intro H locs ls hw hl
            have hw : xWd (dC, dI) A s.heap H locs (wM cI cZ cB cO m_ad m_p m_now m_held m_past m_pasts m_refused m_figures_9 (1 : Int32) m_many m_isMade_3 m_made m_images_12 m_orbits m_chains m_isCarried m_carried m_carriedMany m_isSorted m_leasts m_heads m_headFrom m_text m_typed m_at m_fault m_orders m_pointsThen m_letters m_numbers m_h) := hw
            have hl : lv_has ls 4 [(0, .ref m_ad), (1, .int v1_6)] := hl
            refine lv_iinc (v := (v1_6 + (1 : Int32))) (lv' := [(1, .int (v1_6 + (1 : Int32))), (0, .ref m_ad)]) hx hb dX8_lay_93 hl (k := 1) rfl (congrArg (fun q => v1_6 + q) (by decide)) (by decide) rfl (fun ls hl => ?_)
            refine lv_goto (tgt := 36) hx hb dX8_lay_96 (by decide) ?_
            obtain rfl := Option.some.inj h
            exact k _ _ _ hw (lv_sub hl [1, 0] rfl)
      · obtain ⟨m_figures_7, m_images_8⟩ := z
        intro H locs ls hw hl
        have hw : xWd (dC, dI) A s.heap H locs (wM cI cZ cB cO m_ad m_p m_now m_held m_past m_pasts m_refused m_figures_7 (1 : Int32) m_many m_isMade_3 m_made m_images_8 m_orbits m_chains m_isCarried m_carried m_carriedMany m_isSorted m_leasts m_heads m_headFrom m_text m_typed m_at m_fault m_orders m_pointsThen m_letters m_numbers m_h) := hw
        have hl : lv_has ls 4 [(0, .ref m_ad)] := hl
        refine lv_aload_n hx hb dX8_lay_99 rfl (lv_at hl 0 rfl) ?_
        refine lv_iconst (v := (0 : Int32)) hx hb dX8_lay_100 (by decide) ?_
        refine x_put (ci := 7) C hw inX8 tyX8 tyX8_ok nmX8 rfl 7 (by decide) lkF_X8_111 rfl rfl 0 rfl rfl rfl (Nat.le_of_ble_eq_true rfl) dX8_lay_101 (fun H locs hw => ?_)
        have hw : xWd (dC, dI) A s.heap H locs (wM cI cZ cB cO m_ad m_p m_now m_held m_past m_pasts m_refused m_figures_7 (1 : Int32) (0 : Int32) m_isMade_3 m_made m_images_8 m_orbits m_chains m_isCarried m_carried m_carriedMany m_isSorted m_leasts m_heads m_headFrom m_text m_typed m_at m_fault m_orders m_pointsThen m_letters m_numbers m_h) := hw
        refine lv_aload_n hx hb dX8_lay_104 rfl (lv_at hl 0 rfl) ?_
        refine lv_iconst (v := (0 : Int32)) hx hb dX8_lay_105 (by decide) ?_
        obtain ⟨⟨m_many_13, m_isMade_14, m_made_15⟩, q10, h⟩ := xn_i h
        refine x_callVv (As := [.int (0 : Int32)]) (rest := []) C hw gc_X8_114 ⟨rfl, rfl, ds_X8_mark, (by rw [hR]; exact Nat.le_of_ble_eq_true rfl), (by rw [hR]; exact Nat.le_of_ble_eq_true rfl), Nat.zero_le _, Nat.zero_le _⟩ (c_X8_mark l dC dI cI cZ cB cO m_ad m_p m_now m_held m_past m_pasts m_refused m_figures_7 (1 : Int32) (0 : Int32) m_isMade_3 m_made m_images_8 m_orbits m_chains m_isCarried m_carried m_carriedMany m_isSorted m_leasts m_heads m_headFrom m_text m_typed m_at m_fault m_orders m_pointsThen m_letters m_numbers m_h (0 : Int32) _ q10 _) [0, 1, 2, 3, 4, 5, 6, 7, 8, 9, 10, 11, 12, 13, 14, 15, 16, 17, 18] [] (by decide) rfl rfl (by decide) (by decide) rfl rfl rfl hl.1 rfl (Nat.le_of_ble_eq_true rfl) dX8_lay_106 (fun H locs hw => ?_)
        have hw : xWd (dC, dI) A s.heap H locs (wM cI cZ cB cO m_ad m_p m_now m_held m_past m_pasts m_refused m_figures_7 (1 : Int32) m_many_13 m_isMade_14 m_made_15 m_images_8 m_orbits m_chains m_isCarried m_carried m_carriedMany m_isSorted m_leasts m_heads m_headFrom m_text m_typed m_at m_fault m_orders m_pointsThen m_letters m_numbers m_h) := hw
        refine lv_iconst (v := (0 : Int32)) hx hb dX8_lay_109 (by decide) ?_
        refine lv_istore_n (lv' := [(1, .int (0 : Int32)), (0, .ref m_ad)]) hx hb dX8_lay_110 rfl hl (by decide) rfl (fun ls hl => ?_)
        obtain ⟨z, hr, h⟩ := xn_i h
        refine xL_w (fun (z : (Nat → Int32) × Int32 × (Nat → Int32) × (Nat → Int32) × Int32) => ∀ (H : Heap) (locs : List Loc) (ls : Array Slot), xWd (dC, dI) A s.heap H locs (wM cI cZ cB cO m_ad m_p m_now m_held m_past m_pasts m_refused z.1 (1 : Int32) z.2.1 z.2.2.1 z.2.2.2.1 m_images_8 m_orbits m_chains m_isCarried m_carried m_carriedMany m_isSorted m_leasts m_heads m_headFrom m_text m_typed m_at m_fault m_orders m_pointsThen m_letters m_numbers m_h) → lv_has ls 4 [(0, .ref m_ad), (1, .int z.2.2.2.2)] → W p l e R s m args below meth c H locs 0 0 Q (F0 m 111 ls [])) (fun (z : (Nat → Int32) × Int32 × (Nat → Int32) × (Nat → Int32)) => ∀ (H : Heap) (locs : List Loc) (ls : Array Slot), xWd (dC, dI) A s.heap H locs (wM cI cZ cB cO m_ad m_p m_now m_held m_past m_pasts m_refused z.1 (1 : Int32) z.2.1 z.2.2.1 z.2.2.2 m_images_8 m_orbits m_chains m_isCarried m_carried m_carriedMany m_isSorted m_leasts m_heads m_headFrom m_text m_typed m_at m_fault m_orders m_pointsThen m_letters m_numbers m_h) → lv_has ls 4 [(0, .ref m_ad)] → W p l e R s m args below meth c H locs 0 0 Q (F0 m 202 ls [])) ?_ hr ?_ _ _ _ hw (lv_sub hl [1, 0] rfl)
        · rintro ⟨m_figures_16, m_many_17, m_isMade_18, m_made_19, v1_20⟩ o h k H locs ls hw hl
          have hw : xWd (dC, dI) A s.heap H locs (wM cI cZ cB cO m_ad m_p m_now m_held m_past m_pasts m_refused m_figures_16 (1 : Int32) m_many_17 m_isMade_18 m_made_19 m_images_8 m_orbits m_chains m_isCarried m_carried m_carriedMany m_isSorted m_leasts m_heads m_headFrom m_text m_typed m_at m_fault m_orders m_pointsThen m_letters m_numbers m_h) := hw
          have hl : lv_has ls 4 [(0, .ref m_ad), (1, .int v1_20)] := hl
          refine lv_iload_n hx hb dX8_lay_111 rfl (lv_at hl 1 rfl) ?_
          refine lv_aload_n hx hb dX8_lay_112 rfl (lv_at hl 0 rfl) ?_
          refine x_get (ci := 7) C hw inX8 rfl 7 (by decide) lkF_X8_111 rfl 0 rfl rfl dX8_lay_113 ?_
          refine lv_icmp_ge (tgt := 202) hx hb dX8_lay_116 (by decide) (fun b11 => ?_) (fun b11 => ?_)
          · replace h := xb_tt b11 h
            obtain rfl := Option.some.inj h
            exact k _ _ _ hw (lv_sub hl [0] rfl)
          · replace h := xb_ff b11 h
            refine lv_iconst (v := (0 : Int32)) hx hb dX8_lay_119 (by decide) ?_
            refine lv_istore_n (lv' := [(2, .int (0 : Int32)), (0, .ref m_ad), (1, .int v1_20)]) hx hb dX8_lay_120 rfl hl (by decide) rfl (fun ls hl => ?_)
            obtain ⟨z, hr, h⟩ := xn_i h
            refine xL_w (fun (z : (Nat → Int32) × Int32 × (Nat → Int32) × (Nat → Int32) × Int32) => ∀ (H : Heap) (locs : List Loc) (ls : Array Slot), xWd (dC, dI) A s.heap H locs (wM cI cZ cB cO m_ad m_p m_now m_held m_past m_pasts m_refused z.1 (1 : Int32) z.2.1 z.2.2.1 z.2.2.2.1 m_images_8 m_orbits m_chains m_isCarried m_carried m_carriedMany m_isSorted m_leasts m_heads m_headFrom m_text m_typed m_at m_fault m_orders m_pointsThen m_letters m_numbers m_h) → lv_has ls 4 [(0, .ref m_ad), (1, .int v1_20), (2, .int z.2.2.2.2)] → W p l e R s m args below meth c H locs 0 0 Q (F0 m 121 ls [])) (fun (z : (Nat → Int32) × Int32 × (Nat → Int32) × (Nat → Int32)) => ∀ (H : Heap) (locs : List Loc) (ls : Array Slot), xWd (dC, dI) A s.heap H locs (wM cI cZ cB cO m_ad m_p m_now m_held m_past m_pasts m_refused z.1 (1 : Int32) z.2.1 z.2.2.1 z.2.2.2 m_images_8 m_orbits m_chains m_isCarried m_carried m_carriedMany m_isSorted m_leasts m_heads m_headFrom m_text m_typed m_at m_fault m_orders m_pointsThen m_letters m_numbers m_h) → lv_has ls 4 [(0, .ref m_ad), (1, .int v1_20)] → W p l e R s m args below meth c H locs 0 0 Q (F0 m 196 ls [])) ?_ hr ?_ _ _ _ hw (lv_sub hl [1, 2, 0] rfl)
            · rintro ⟨m_figures_25, m_many_26, m_isMade_27, m_made_28, v2_29⟩ o h k H locs ls hw hl
              have hw : xWd (dC, dI) A s.heap H locs (wM cI cZ cB cO m_ad m_p m_now m_held m_past m_pasts m_refused m_figures_25 (1 : Int32) m_many_26 m_isMade_27 m_made_28 m_images_8 m_orbits m_chains m_isCarried m_carried m_carriedMany m_isSorted m_leasts m_heads m_headFrom m_text m_typed m_at m_fault m_orders m_pointsThen m_letters m_numbers m_h) := hw
              have hl : lv_has ls 4 [(0, .ref m_ad), (1, .int v1_20), (2, .int v2_29)] := hl
              refine lv_iload_n hx hb dX8_lay_121 rfl (lv_at hl 2 rfl) ?_
              refine lv_aload_n hx hb dX8_lay_122 rfl (lv_at hl 0 rfl) ?_
              refine x_get (ci := 7) C hw inX8 rfl 0 (by decide) lkF_X8_7 rfl 0 rfl rfl dX8_lay_123 ?_
              refine lv_iconst (v := (1 : Int32)) hx hb dX8_lay_126 (by decide) ?_
              refine x_ialk C hw 1 0 rfl rfl (k := 1) (by decide) (vp_in_iff.mpr (by decide)) dX8_lay_127 ?_
              refine lv_icmp_ge (tgt := 196) hx hb dX8_lay_128 (by decide) (fun b12 => ?_) (fun b12 => ?_)
              · replace h := xb_tt b12 h
                obtain rfl := Option.some.inj h
                exact k _ _ _ hw (lv_sub hl [0, 1] rfl)
              · replace h := xb_ff b12 h
                refine lv_aload_n hx hb dX8_lay_131 rfl (lv_at hl 0 rfl) ?_
                refine lv_aload_n hx hb dX8_lay_132 rfl (lv_at hl 0 rfl) ?_
                refine x_get (ci := 7) C hw inX8 rfl 9 (by decide) lkF_X8_30 rfl 0 rfl rfl dX8_lay_133 ?_
                refine lv_iload_n hx hb dX8_lay_136 rfl (lv_at hl 1 rfl) ?_
                obtain ⟨b13, h⟩ := xk_i h
                refine x_iald C hw 7 0 rfl rfl b13 dX8_lay_137 ?_
                obtain ⟨⟨m_figures_34, r_35⟩, q14, h⟩ := xn_i h
                refine x_callVi (As := [.int (m_made_28 v1_20.toNatClampNeg)]) (rest := []) C hw gc_X8_117 ⟨rfl, rfl, ds_X8_codeAt, (by rw [hR]; exact Nat.le_of_ble_eq_true rfl), (by rw [hR]; exact Nat.le_of_ble_eq_true rfl), Nat.zero_le _, Nat.zero_le _⟩ (c_X8_codeAt l dC dI cI cZ cB cO m_ad m_p m_now m_held m_past m_pasts m_refused m_figures_25 (1 : Int32) m_many_26 m_isMade_27 m_made_28 m_images_8 m_orbits m_chains m_isCarried m_carried m_carriedMany m_isSorted m_leasts m_heads m_headFrom m_text m_typed m_at m_fault m_orders m_pointsThen m_letters m_numbers m_h (m_made_28 v1_20.toNatClampNeg) _ q14 _) [0, 1, 2, 3, 4, 5, 6, 7, 8, 9, 10, 11, 12, 13, 14, 15, 16, 17, 18] [] (by decide) rfl rfl (by decide) (by decide) rfl rfl rfl hl.1 rfl (Nat.le_of_ble_eq_true rfl) dX8_lay_138 (fun H locs hw => ?_)
                have hw : xWd (dC, dI) A s.heap H locs (wM cI cZ cB cO m_ad m_p m_now m_held m_past m_pasts m_refused m_figures_34 (1 : Int32) m_many_26 m_isMade_27 m_made_28 m_images_8 m_orbits m_chains m_isCarried m_carried m_carriedMany m_isSorted m_leasts m_heads m_headFrom m_text m_typed m_at m_fault m_orders m_pointsThen m_letters m_numbers m_h) := hw
                refine lv_pop hx hb dX8_lay_141 rfl ?_
                refine lv_iconst (v := (0 : Int32)) hx hb dX8_lay_142 (by decide) ?_
                refine lv_istore_n (lv' := [(3, .int (0 : Int32)), (0, .ref m_ad), (1, .int v1_20), (2, .int v2_29)]) hx hb dX8_lay_143 rfl hl (by decide) rfl (fun ls hl => ?_)
                obtain ⟨z, hr, h⟩ := xn_i h
                refine xL_w (fun (z : (Nat → Int32) × Int32) => ∀ (H : Heap) (locs : List Loc) (ls : Array Slot), xWd (dC, dI) A s.heap H locs (wM cI cZ cB cO m_ad m_p m_now m_held m_past m_pasts m_refused z.1 (1 : Int32) m_many_26 m_isMade_27 m_made_28 m_images_8 m_orbits m_chains m_isCarried m_carried m_carriedMany m_isSorted m_leasts m_heads m_headFrom m_text m_typed m_at m_fault m_orders m_pointsThen m_letters m_numbers m_h) → lv_has ls 4 [(0, .ref m_ad), (1, .int v1_20), (2, .int v2_29), (3, .int z.2)] → W p l e R s m args below meth c H locs 0 0 Q (F0 m 144 ls [])) (fun (z : (Nat → Int32)) => ∀ (H : Heap) (locs : List Loc) (ls : Array Slot), xWd (dC, dI) A s.heap H locs (wM cI cZ cB cO m_ad m_p m_now m_held m_past m_pasts m_refused z (1 : Int32) m_many_26 m_isMade_27 m_made_28 m_images_8 m_orbits m_chains m_isCarried m_carried m_carriedMany m_isSorted m_leasts m_heads m_headFrom m_text m_typed m_at m_fault m_orders m_pointsThen m_letters m_numbers m_h) → lv_has ls 4 [(0, .ref m_ad), (1, .int v1_20), (2, .int v2_29)] → W p l e R s m args below meth c H locs 0 0 Q (F0 m 182 ls [])) ?_ hr ?_ _ _ _ hw (lv_sub hl [1, 2, 3, 0] rfl)
                · rintro ⟨m_figures_36, v3_37⟩ o h k H locs ls hw hl
                  have hw : xWd (dC, dI) A s.heap H locs (wM cI cZ cB cO m_ad m_p m_now m_held m_past m_pasts m_refused m_figures_36 (1 : Int32) m_many_26 m_isMade_27 m_made_28 m_images_8 m_orbits m_chains m_isCarried m_carried m_carriedMany m_isSorted m_leasts m_heads m_headFrom m_text m_typed m_at m_fault m_orders m_pointsThen m_letters m_numbers m_h) := hw
                  have hl : lv_has ls 4 [(0, .ref m_ad), (1, .int v1_20), (2, .int v2_29), (3, .int v3_37)] := hl
                  refine lv_iload_n hx hb dX8_lay_144 rfl (lv_at hl 3 rfl) ?_
                  refine lv_aload_n hx hb dX8_lay_145 rfl (lv_at hl 0 rfl) ?_
                  refine x_get (ci := 7) C hw inX8 rfl 0 (by decide) lkF_X8_7 rfl 0 rfl rfl dX8_lay_146 ?_
                  refine lv_iconst (v := (0 : Int32)) hx hb dX8_lay_149 (by decide) ?_
                  refine x_ialk C hw 1 0 rfl rfl (k := 0) (by decide) (vp_in_iff.mpr (by decide)) dX8_lay_150 ?_
                  refine lv_icmp_ge (tgt := 182) hx hb dX8_lay_151 (by decide) (fun b15 => ?_) (fun b15 => ?_)
                  · replace h := xb_tt b15 h
                    obtain rfl := Option.some.inj h
                    exact k _ _ _ hw (lv_sub hl [0, 1, 2] rfl)
                  · replace h := xb_ff b15 h
                    refine lv_aload_n hx hb dX8_lay_154 rfl (lv_at hl 0 rfl) ?_
                    refine x_get (ci := 7) C hw inX8 rfl 5 (by decide) lkF_X8_22 rfl 0 rfl rfl dX8_lay_155 ?_
                    refine lv_iload_n hx hb dX8_lay_158 rfl (lv_at hl 3 rfl) ?_
                    refine lv_aload_n hx hb dX8_lay_159 rfl (lv_at hl 0 rfl) ?_
                    refine x_get (ci := 7) C hw inX8 rfl 10 (by decide) lkF_X8_33 rfl 0 rfl rfl dX8_lay_160 ?_
                    refine lv_bipush (v := (8 : Int32)) hx hb dX8_lay_163 (by decide) ?_
                    refine lv_iload_n hx hb dX8_lay_165 rfl (lv_at hl 2 rfl) ?_
                    refine lv_imul hx hb dX8_lay_166 ?_
                    refine lv_aload_n hx hb dX8_lay_167 rfl (lv_at hl 0 rfl) ?_
                    refine x_get (ci := 7) C hw inX8 rfl 5 (by decide) lkF_X8_22 rfl 0 rfl rfl dX8_lay_168 ?_
                    refine lv_iload_n hx hb dX8_lay_171 rfl (lv_at hl 3 rfl) ?_
                    obtain ⟨b16, h⟩ := xk_i h
                    refine x_iald C hw 5 0 rfl rfl b16 dX8_lay_172 ?_
                    refine lv_iadd hx hb dX8_lay_173 ?_
                    obtain ⟨b17, h⟩ := xk_i h
                    refine x_iald C hw 8 0 rfl rfl b17 dX8_lay_174 ?_
                    refine x_iast C hw 5 0 rfl rfl b16 dX8_lay_175 (fun H locs hw => ?_)
                    have hw : xWd (dC, dI) A s.heap H locs (wM cI cZ cB cO m_ad m_p m_now m_held m_past m_pasts m_refused (upd m_figures_36 v3_37.toNatClampNeg (m_images_8 (((8 : Int32) * v2_29) + (m_figures_36 v3_37.toNatClampNeg)).toNatClampNeg)) (1 : Int32) m_many_26 m_isMade_27 m_made_28 m_images_8 m_orbits m_chains m_isCarried m_carried m_carriedMany m_isSorted m_leasts m_heads m_headFrom m_text m_typed m_at m_fault m_orders m_pointsThen m_letters m_numbers m_h) := hw
                    refine lv_iinc (v := (v3_37 + (1 : Int32))) (lv' := [(3, .int (v3_37 + (1 : Int32))), (0, .ref m_ad), (1, .int v1_20), (2, .int v2_29)]) hx hb dX8_lay_176 hl (k := 3) rfl (congrArg (fun q => v3_37 + q) (by decide)) (by decide) rfl (fun ls hl => ?_)
                    refine lv_goto (tgt := 144) hx hb dX8_lay_179 (by decide) ?_
                    obtain rfl := Option.some.inj h
                    exact k _ _ _ hw (lv_sub hl [1, 2, 3, 0] rfl)
                · obtain ⟨m_figures_38, hz⟩ : ∃ q, q = z := ⟨z, rfl⟩
                  subst hz
                  intro H locs ls hw hl
                  have hw : xWd (dC, dI) A s.heap H locs (wM cI cZ cB cO m_ad m_p m_now m_held m_past m_pasts m_refused m_figures_38 (1 : Int32) m_many_26 m_isMade_27 m_made_28 m_images_8 m_orbits m_chains m_isCarried m_carried m_carriedMany m_isSorted m_leasts m_heads m_headFrom m_text m_typed m_at m_fault m_orders m_pointsThen m_letters m_numbers m_h) := hw
                  have hl : lv_has ls 4 [(0, .ref m_ad), (1, .int v1_20), (2, .int v2_29)] := hl
                  refine lv_aload_n hx hb dX8_lay_182 rfl (lv_at hl 0 rfl) ?_
                  refine lv_aload_n hx hb dX8_lay_183 rfl (lv_at hl 0 rfl) ?_
                  obtain ⟨r_39, q18, h⟩ := xn_i h
                  refine x_callVi (As := []) (rest := [.ref m_ad]) C hw gc_X8_120 ⟨rfl, rfl, ds_X8_placeOf, (by rw [hR]; exact Nat.le_of_ble_eq_true rfl), (by rw [hR]; exact Nat.le_of_ble_eq_true rfl), Nat.zero_le _, Nat.zero_le _⟩ (c_X8_placeOf l dC dI cI cZ cB cO m_ad m_p m_now m_held m_past m_pasts m_refused m_figures_38 (1 : Int32) m_many_26 m_isMade_27 m_made_28 m_images_8 m_orbits m_chains m_isCarried m_carried m_carriedMany m_isSorted m_leasts m_heads m_headFrom m_text m_typed m_at m_fault m_orders m_pointsThen m_letters m_numbers m_h _ q18 _) [0, 1, 2, 3, 4, 5, 6, 7, 8, 9, 10, 11, 12, 13, 14, 15, 16, 17, 18] [] (by decide) rfl rfl (by decide) (by decide) rfl rfl rfl hl.1 rfl (Nat.le_of_ble_eq_true rfl) dX8_lay_184 (fun H locs hw => ?_)
                  have hw : xWd (dC, dI) A s.heap H locs (wM cI cZ cB cO m_ad m_p m_now m_held m_past m_pasts m_refused m_figures_38 (1 : Int32) m_many_26 m_isMade_27 m_made_28 m_images_8 m_orbits m_chains m_isCarried m_carried m_carriedMany m_isSorted m_leasts m_heads m_headFrom m_text m_typed m_at m_fault m_orders m_pointsThen m_letters m_numbers m_h) := hw
                  obtain ⟨⟨m_many_40, m_isMade_41, m_made_42⟩, q19, h⟩ := xn_i h
                  refine x_callVv (As := [.int r_39]) (rest := []) C hw gc_X8_114 ⟨rfl, rfl, ds_X8_mark, (by rw [hR]; exact Nat.le_of_ble_eq_true rfl), (by rw [hR]; exact Nat.le_of_ble_eq_true rfl), Nat.zero_le _, Nat.zero_le _⟩ (c_X8_mark l dC dI cI cZ cB cO m_ad m_p m_now m_held m_past m_pasts m_refused m_figures_38 (1 : Int32) m_many_26 m_isMade_27 m_made_28 m_images_8 m_orbits m_chains m_isCarried m_carried m_carriedMany m_isSorted m_leasts m_heads m_headFrom m_text m_typed m_at m_fault m_orders m_pointsThen m_letters m_numbers m_h r_39 _ q19 _) [0, 1, 2, 3, 4, 5, 6, 7, 8, 9, 10, 11, 12, 13, 14, 15, 16, 17, 18] [] (by decide) rfl rfl (by decide) (by decide) rfl rfl rfl hl.1 rfl (Nat.le_of_ble_eq_true rfl) dX8_lay_187 (fun H locs hw => ?_)
                  have hw : xWd (dC, dI) A s.heap H locs (wM cI cZ cB cO m_ad m_p m_now m_held m_past m_pasts m_refused m_figures_38 (1 : Int32) m_many_40 m_isMade_41 m_made_42 m_images_8 m_orbits m_chains m_isCarried m_carried m_carriedMany m_isSorted m_leasts m_heads m_headFrom m_text m_typed m_at m_fault m_orders m_pointsThen m_letters m_numbers m_h) := hw
                  refine lv_iinc (v := (v2_29 + (1 : Int32))) (lv' := [(2, .int (v2_29 + (1 : Int32))), (0, .ref m_ad), (1, .int v1_20)]) hx hb dX8_lay_190 hl (k := 2) rfl (congrArg (fun q => v2_29 + q) (by decide)) (by decide) rfl (fun ls hl => ?_)
                  refine lv_goto (tgt := 121) hx hb dX8_lay_193 (by decide) ?_
                  obtain rfl := Option.some.inj h
                  exact k _ _ _ hw (lv_sub hl [1, 2, 0] rfl)
            · obtain ⟨m_figures_30, m_many_31, m_isMade_32, m_made_33⟩ := z
              intro H locs ls hw hl
              have hw : xWd (dC, dI) A s.heap H locs (wM cI cZ cB cO m_ad m_p m_now m_held m_past m_pasts m_refused m_figures_30 (1 : Int32) m_many_31 m_isMade_32 m_made_33 m_images_8 m_orbits m_chains m_isCarried m_carried m_carriedMany m_isSorted m_leasts m_heads m_headFrom m_text m_typed m_at m_fault m_orders m_pointsThen m_letters m_numbers m_h) := hw
              have hl : lv_has ls 4 [(0, .ref m_ad), (1, .int v1_20)] := hl
              refine lv_iinc (v := (v1_20 + (1 : Int32))) (lv' := [(1, .int (v1_20 + (1 : Int32))), (0, .ref m_ad)]) hx hb dX8_lay_196 hl (k := 1) rfl (congrArg (fun q => v1_20 + q) (by decide)) (by decide) rfl (fun ls hl => ?_)
              refine lv_goto (tgt := 111) hx hb dX8_lay_199 (by decide) ?_
              obtain rfl := Option.some.inj h
              exact k _ _ _ hw (lv_sub hl [1, 0] rfl)
        · obtain ⟨m_figures_21, m_many_22, m_isMade_23, m_made_24⟩ := z
          intro H locs ls hw hl
          have hw : xWd (dC, dI) A s.heap H locs (wM cI cZ cB cO m_ad m_p m_now m_held m_past m_pasts m_refused m_figures_21 (1 : Int32) m_many_22 m_isMade_23 m_made_24 m_images_8 m_orbits m_chains m_isCarried m_carried m_carriedMany m_isSorted m_leasts m_heads m_headFrom m_text m_typed m_at m_fault m_orders m_pointsThen m_letters m_numbers m_h) := hw
          have hl : lv_has ls 4 [(0, .ref m_ad)] := hl
          refine lv_aload_n hx hb dX8_lay_202 rfl (lv_at hl 0 rfl) ?_
          obtain ⟨m_made_43, q20, h⟩ := xn_i h
          refine x_callVv (As := []) (rest := []) C hw gc_X8_124 ⟨rfl, rfl, ds_X8_sortMade, (by rw [hR]; exact Nat.le_of_ble_eq_true rfl), (by rw [hR]; exact Nat.le_of_ble_eq_true rfl), Nat.zero_le _, Nat.zero_le _⟩ (c_X8_sortMade l dC dI cI cZ cB cO m_ad m_p m_now m_held m_past m_pasts m_refused m_figures_21 (1 : Int32) m_many_22 m_isMade_23 m_made_24 m_images_8 m_orbits m_chains m_isCarried m_carried m_carriedMany m_isSorted m_leasts m_heads m_headFrom m_text m_typed m_at m_fault m_orders m_pointsThen m_letters m_numbers m_h _ q20 _) [0, 1, 2, 3, 4, 5, 6, 7, 8, 9, 10, 11, 12, 13, 14, 15, 16, 17, 18] [] (by decide) rfl rfl (by decide) (by decide) rfl rfl rfl hl.1 rfl (Nat.le_of_ble_eq_true rfl) dX8_lay_203 (fun H locs hw => ?_)
          have hw : xWd (dC, dI) A s.heap H locs (wM cI cZ cB cO m_ad m_p m_now m_held m_past m_pasts m_refused m_figures_21 (1 : Int32) m_many_22 m_isMade_23 m_made_43 m_images_8 m_orbits m_chains m_isCarried m_carried m_carriedMany m_isSorted m_leasts m_heads m_headFrom m_text m_typed m_at m_fault m_orders m_pointsThen m_letters m_numbers m_h) := hw
          refine lv_aload_n hx hb dX8_lay_206 rfl (lv_at hl 0 rfl) ?_
          obtain ⟨⟨m_figures_44, m_orbits_45, m_chains_46⟩, q21, h⟩ := xn_i h
          refine x_callVv (As := []) (rest := []) C hw gc_X8_127 ⟨rfl, rfl, ds_X8_findChains, (by rw [hR]; exact Nat.le_of_ble_eq_true rfl), (by rw [hR]; exact Nat.le_of_ble_eq_true rfl), Nat.zero_le _, Nat.zero_le _⟩ (c_X8_findChains l dC dI cI cZ cB cO m_ad m_p m_now m_held m_past m_pasts m_refused m_figures_21 (1 : Int32) m_many_22 m_isMade_23 m_made_43 m_images_8 m_orbits m_chains m_isCarried m_carried m_carriedMany m_isSorted m_leasts m_heads m_headFrom m_text m_typed m_at m_fault m_orders m_pointsThen m_letters m_numbers m_h _ q21 _) [0, 1, 2, 3, 4, 5, 6, 7, 8, 9, 10, 11, 12, 13, 14, 15, 16, 17, 18] [] (by decide) rfl rfl (by decide) (by decide) rfl rfl rfl hl.1 rfl (Nat.le_of_ble_eq_true rfl) dX8_lay_207 (fun H locs hw => ?_)
          have hw : xWd (dC, dI) A s.heap H locs (wM cI cZ cB cO m_ad m_p m_now m_held m_past m_pasts m_refused m_figures_44 (1 : Int32) m_many_22 m_isMade_23 m_made_43 m_images_8 m_orbits_45 m_chains_46 m_isCarried m_carried m_carriedMany m_isSorted m_leasts m_heads m_headFrom m_text m_typed m_at m_fault m_orders m_pointsThen m_letters m_numbers m_h) := hw
          obtain rfl := Option.some.inj h
          exact x_retv C hQ hA hw dX8_lay_210
  · replace h := xb_ff b1 h
    obtain rfl := Option.some.inj h
    exact x_retv C hQ hA hw dX8_lay_7
noncomputable def f_X8_order (m_now : (Nat → Int32)) (m_figures : (Nat → Int32)) (m_isLaid : Int32) (m_many : Int32) (m_isMade : (Nat → Int32)) (m_made : (Nat → Int32)) (m_images : (Nat → Int32)) (m_orbits : (Nat → Int32)) (m_chains : (Nat → Int32)) : Option ((Nat → Int32) × Int32 × Int32 × (Nat → Int32) × (Nat → Int32) × (Nat → Int32) × (Nat → Int32) × (Nat → Int32) × Int32) := xn (f_X8_lay m_now m_figures m_isLaid m_many m_isMade m_made m_images m_orbits m_chains) (fun (z : (Nat → Int32) × Int32 × Int32 × (Nat → Int32) × (Nat → Int32) × (Nat → Int32) × (Nat → Int32) × (Nat → Int32)) => match z with | (m_figures_1, m_isLaid_2, m_many_3, m_isMade_4, m_made_5, m_images_6, m_orbits_7, m_chains_8) => some (m_figures_1, m_isLaid_2, m_many_3, m_isMade_4, m_made_5, m_images_6, m_orbits_7, m_chains_8, m_many_3))
set_option maxHeartbeats 4000000 in
set_option maxRecDepth 100000 in
theorem c_X8_order (l : Launch) (dC : Nat → ClassId) (dI : Nat → Nat → Nat) (cI cZ cB cO : ClassId) (m_ad : Nat) (m_p : Nat → Nat) (m_now : (Nat → Int32)) (m_held : (Nat → Int32)) (m_past : (Nat → Int32)) (m_pasts : Int32) (m_refused : (Nat → Int32)) (m_figures : (Nat → Int32)) (m_isLaid : Int32) (m_many : Int32) (m_isMade : (Nat → Int32)) (m_made : (Nat → Int32)) (m_images : (Nat → Int32)) (m_orbits : (Nat → Int32)) (m_chains : (Nat → Int32)) (m_isCarried : (Nat → Int32)) (m_carried : (Nat → Int32)) (m_carriedMany : Int32) (m_isSorted : Int32) (m_leasts : (Nat → Int32)) (m_heads : (Nat → Int32)) (m_headFrom : (Nat → Int32)) (m_text : (Nat → Int32)) (m_typed : Int32) (m_at : Int32) (m_fault : Int32) (m_orders : Int32) (m_pointsThen : Int32) (m_letters : (Nat → Int32)) (m_numbers : (Nat → Int32)) (m_h : Int64) (o : (Nat → Int32) × Int32 × Int32 × (Nat → Int32) × (Nat → Int32) × (Nat → Int32) × (Nat → Int32) × (Nat → Int32) × Int32) (h : f_X8_order m_now m_figures m_isLaid m_many m_isMade m_made m_images m_orbits m_chains = some o) (sz : Nat) : Met l yX8_order (xW yX8_order cX8_order 1 (some .int)) { frames := 3, cells := 0, slots := 0, locals := 70 } (xPre dC dI (xT cI cZ cB cO) [.ref m_ad] (wM cI cZ cB cO m_ad m_p m_now m_held m_past m_pasts m_refused m_figures m_isLaid m_many m_isMade m_made m_images m_orbits m_chains m_isCarried m_carried m_carriedMany m_isSorted m_leasts m_heads m_headFrom m_text m_typed m_at m_fault m_orders m_pointsThen m_letters m_numbers m_h) sz) (xQi dC dI (xT cI cZ cB cO) o.2.2.2.2.2.2.2.2 (wM cI cZ cB cO m_ad m_p m_now m_held m_past m_pasts m_refused m_figures m_isLaid m_many m_isMade m_made m_images m_orbits m_chains m_isCarried m_carried m_carriedMany m_isSorted m_leasts m_heads m_headFrom m_text m_typed m_at m_fault m_orders m_pointsThen m_letters m_numbers m_h) (wM cI cZ cB cO m_ad m_p m_now m_held m_past m_pasts m_refused o.1 o.2.1 o.2.2.1 o.2.2.2.1 o.2.2.2.2.1 o.2.2.2.2.2.1 o.2.2.2.2.2.2.1 o.2.2.2.2.2.2.2.1 m_isCarried m_carried m_carriedMany m_isSorted m_leasts m_heads m_headFrom m_text m_typed m_at m_fault m_orders m_pointsThen m_letters m_numbers m_h) sz) 0 0 (va_A (wM cI cZ cB cO m_ad m_p m_now m_held m_past m_pasts m_refused m_figures m_isLaid m_many m_isMade m_made m_images m_orbits m_chains m_isCarried m_carried m_carriedMany m_isSorted m_leasts m_heads m_headFrom m_text m_typed m_at m_fault m_orders m_pointsThen m_letters m_numbers m_h) sz) := by
  refine x_met (by decide) (Nat.le_of_ble_eq_true rfl) ?_
  intro p e s m args below meth c R Q A hR hsz hA hQ hin C hw ls hl
  have hx := C.1
  have hb := C.2.1
  have hown := C.2.2.2.1
  have htb := C.2.2.2.2.1
  have hl : lv_has ls 1 [(0, .ref m_ad)] := hl
  refine lv_aload_n hx hb dX8_order_0 rfl (lv_at hl 0 rfl) ?_
  obtain ⟨⟨m_figures_1, m_isLaid_2, m_many_3, m_isMade_4, m_made_5, m_images_6, m_orbits_7, m_chains_8⟩, q1, h⟩ := xn_i h
  refine x_callVv (As := []) (rest := []) C hw gc_X8_130 ⟨rfl, rfl, ds_X8_lay, (by rw [hR]; exact Nat.le_of_ble_eq_true rfl), (by rw [hR]; exact Nat.le_of_ble_eq_true rfl), Nat.zero_le _, Nat.zero_le _⟩ (c_X8_lay l dC dI cI cZ cB cO m_ad m_p m_now m_held m_past m_pasts m_refused m_figures m_isLaid m_many m_isMade m_made m_images m_orbits m_chains m_isCarried m_carried m_carriedMany m_isSorted m_leasts m_heads m_headFrom m_text m_typed m_at m_fault m_orders m_pointsThen m_letters m_numbers m_h _ q1 _) [0, 1, 2, 3, 4, 5, 6, 7, 8, 9, 10, 11, 12, 13, 14, 15, 16, 17, 18] [] (by decide) rfl rfl (by decide) (by decide) rfl rfl rfl hl.1 rfl (Nat.le_of_ble_eq_true rfl) dX8_order_1 (fun H locs hw => ?_)
  have hw : xWd (dC, dI) A s.heap H locs (wM cI cZ cB cO m_ad m_p m_now m_held m_past m_pasts m_refused m_figures_1 m_isLaid_2 m_many_3 m_isMade_4 m_made_5 m_images_6 m_orbits_7 m_chains_8 m_isCarried m_carried m_carriedMany m_isSorted m_leasts m_heads m_headFrom m_text m_typed m_at m_fault m_orders m_pointsThen m_letters m_numbers m_h) := hw
  refine lv_aload_n hx hb dX8_order_4 rfl (lv_at hl 0 rfl) ?_
  refine x_get (ci := 7) C hw inX8 rfl 7 (by decide) lkF_X8_111 rfl 0 rfl rfl dX8_order_5 ?_
  obtain rfl := Option.some.inj h
  exact x_reti C hQ hA hw dX8_order_8
noncomputable def f_X8_ofPoint (m_now : (Nat → Int32)) (m_figures : (Nat → Int32)) (m_isLaid : Int32) (m_many : Int32) (m_isMade : (Nat → Int32)) (m_made : (Nat → Int32)) (m_images : (Nat → Int32)) (m_orbits : (Nat → Int32)) (m_chains : (Nat → Int32)) (v1 : Int32) (v2 : Int32) : Option ((Nat → Int32) × Int32 × Int32 × (Nat → Int32) × (Nat → Int32) × (Nat → Int32) × (Nat → Int32) × (Nat → Int32) × Int32) := xn (f_X8_lay m_now m_figures m_isLaid m_many m_isMade m_made m_images m_orbits m_chains) (fun (z : (Nat → Int32) × Int32 × Int32 × (Nat → Int32) × (Nat → Int32) × (Nat → Int32) × (Nat → Int32) × (Nat → Int32)) => match z with | (m_figures_1, m_isLaid_2, m_many_3, m_isMade_4, m_made_5, m_images_6, m_orbits_7, m_chains_8) => xb (v2 = 0) (xk (vp_in v1 8) (some (m_figures_1, m_isLaid_2, m_many_3, m_isMade_4, m_made_5, m_images_6, m_orbits_7, m_chains_8, (m_orbits_7 v1.toNatClampNeg)))) (xb (v2 = (1 : Int32)) (xk (vp_in v1 8) (some (m_figures_1, m_isLaid_2, m_many_3, m_isMade_4, m_made_5, m_images_6, m_orbits_7, m_chains_8, (m_chains_8 v1.toNatClampNeg)))) (xk (vp_in v1 8) (xn (f_X8_lowest (m_orbits_7 v1.toNatClampNeg)) (fun (r_9 : Int32) => some (m_figures_1, m_isLaid_2, m_many_3, m_isMade_4, m_made_5, m_images_6, m_orbits_7, m_chains_8, r_9))))))
set_option maxHeartbeats 4000000 in
set_option maxRecDepth 100000 in
theorem c_X8_ofPoint (l : Launch) (dC : Nat → ClassId) (dI : Nat → Nat → Nat) (cI cZ cB cO : ClassId) (m_ad : Nat) (m_p : Nat → Nat) (m_now : (Nat → Int32)) (m_held : (Nat → Int32)) (m_past : (Nat → Int32)) (m_pasts : Int32) (m_refused : (Nat → Int32)) (m_figures : (Nat → Int32)) (m_isLaid : Int32) (m_many : Int32) (m_isMade : (Nat → Int32)) (m_made : (Nat → Int32)) (m_images : (Nat → Int32)) (m_orbits : (Nat → Int32)) (m_chains : (Nat → Int32)) (m_isCarried : (Nat → Int32)) (m_carried : (Nat → Int32)) (m_carriedMany : Int32) (m_isSorted : Int32) (m_leasts : (Nat → Int32)) (m_heads : (Nat → Int32)) (m_headFrom : (Nat → Int32)) (m_text : (Nat → Int32)) (m_typed : Int32) (m_at : Int32) (m_fault : Int32) (m_orders : Int32) (m_pointsThen : Int32) (m_letters : (Nat → Int32)) (m_numbers : (Nat → Int32)) (m_h : Int64) (v1 : Int32) (v2 : Int32) (o : (Nat → Int32) × Int32 × Int32 × (Nat → Int32) × (Nat → Int32) × (Nat → Int32) × (Nat → Int32) × (Nat → Int32) × Int32) (h : f_X8_ofPoint m_now m_figures m_isLaid m_many m_isMade m_made m_images m_orbits m_chains v1 v2 = some o) (sz : Nat) : Met l yX8_ofPoint (xW yX8_ofPoint cX8_ofPoint 3 (some .int)) { frames := 3, cells := 0, slots := 0, locals := 70 } (xPre dC dI (xT cI cZ cB cO) [.ref m_ad, .int v1, .int v2] (wM cI cZ cB cO m_ad m_p m_now m_held m_past m_pasts m_refused m_figures m_isLaid m_many m_isMade m_made m_images m_orbits m_chains m_isCarried m_carried m_carriedMany m_isSorted m_leasts m_heads m_headFrom m_text m_typed m_at m_fault m_orders m_pointsThen m_letters m_numbers m_h) sz) (xQi dC dI (xT cI cZ cB cO) o.2.2.2.2.2.2.2.2 (wM cI cZ cB cO m_ad m_p m_now m_held m_past m_pasts m_refused m_figures m_isLaid m_many m_isMade m_made m_images m_orbits m_chains m_isCarried m_carried m_carriedMany m_isSorted m_leasts m_heads m_headFrom m_text m_typed m_at m_fault m_orders m_pointsThen m_letters m_numbers m_h) (wM cI cZ cB cO m_ad m_p m_now m_held m_past m_pasts m_refused o.1 o.2.1 o.2.2.1 o.2.2.2.1 o.2.2.2.2.1 o.2.2.2.2.2.1 o.2.2.2.2.2.2.1 o.2.2.2.2.2.2.2.1 m_isCarried m_carried m_carriedMany m_isSorted m_leasts m_heads m_headFrom m_text m_typed m_at m_fault m_orders m_pointsThen m_letters m_numbers m_h) sz) 0 0 (va_A (wM cI cZ cB cO m_ad m_p m_now m_held m_past m_pasts m_refused m_figures m_isLaid m_many m_isMade m_made m_images m_orbits m_chains m_isCarried m_carried m_carriedMany m_isSorted m_leasts m_heads m_headFrom m_text m_typed m_at m_fault m_orders m_pointsThen m_letters m_numbers m_h) sz) := by
  refine x_met (by decide) (Nat.le_of_ble_eq_true rfl) ?_
  intro p e s m args below meth c R Q A hR hsz hA hQ hin C hw ls hl
  have hx := C.1
  have hb := C.2.1
  have hown := C.2.2.2.1
  have htb := C.2.2.2.2.1
  have hl : lv_has ls 3 [(0, .ref m_ad), (1, .int v1), (2, .int v2)] := hl
  refine lv_aload_n hx hb dX8_ofPoint_0 rfl (lv_at hl 0 rfl) ?_
  obtain ⟨⟨m_figures_1, m_isLaid_2, m_many_3, m_isMade_4, m_made_5, m_images_6, m_orbits_7, m_chains_8⟩, q1, h⟩ := xn_i h
  refine x_callVv (As := []) (rest := []) C hw gc_X8_130 ⟨rfl, rfl, ds_X8_lay, (by rw [hR]; exact Nat.le_of_ble_eq_true rfl), (by rw [hR]; exact Nat.le_of_ble_eq_true rfl), Nat.zero_le _, Nat.zero_le _⟩ (c_X8_lay l dC dI cI cZ cB cO m_ad m_p m_now m_held m_past m_pasts m_refused m_figures m_isLaid m_many m_isMade m_made m_images m_orbits m_chains m_isCarried m_carried m_carriedMany m_isSorted m_leasts m_heads m_headFrom m_text m_typed m_at m_fault m_orders m_pointsThen m_letters m_numbers m_h _ q1 _) [0, 1, 2, 3, 4, 5, 6, 7, 8, 9, 10, 11, 12, 13, 14, 15, 16, 17, 18] [] (by decide) rfl rfl (by decide) (by decide) rfl rfl rfl hl.1 rfl (Nat.le_of_ble_eq_true rfl) dX8_ofPoint_1 (fun H locs hw => ?_)
  have hw : xWd (dC, dI) A s.heap H locs (wM cI cZ cB cO m_ad m_p m_now m_held m_past m_pasts m_refused m_figures_1 m_isLaid_2 m_many_3 m_isMade_4 m_made_5 m_images_6 m_orbits_7 m_chains_8 m_isCarried m_carried m_carriedMany m_isSorted m_leasts m_heads m_headFrom m_text m_typed m_at m_fault m_orders m_pointsThen m_letters m_numbers m_h) := hw
  refine lv_iload_n hx hb dX8_ofPoint_4 rfl (lv_at hl 2 rfl) ?_
  refine lv_if_ne (tgt := 17) hx hb dX8_ofPoint_5 (by decide) (fun b2 => ?_) (fun b2 => ?_)
  · replace h := xb_ff b2 h
    refine lv_iload_n hx hb dX8_ofPoint_17 rfl (lv_at hl 2 rfl) ?_
    refine lv_iconst (v := (1 : Int32)) hx hb dX8_ofPoint_18 (by decide) ?_
    refine lv_icmp_ne (tgt := 31) hx hb dX8_ofPoint_19 (by decide) (fun b3 => ?_) (fun b3 => ?_)
    · replace h := xb_ff b3 h
      refine lv_aload_n hx hb dX8_ofPoint_31 rfl (lv_at hl 0 rfl) ?_
      refine x_get (ci := 7) C hw inX8 rfl 11 (by decide) lkF_X8_36 rfl 0 rfl rfl dX8_ofPoint_32 ?_
      refine lv_iload_n hx hb dX8_ofPoint_35 rfl (lv_at hl 1 rfl) ?_
      obtain ⟨b4, h⟩ := xk_i h
      refine x_iald C hw 9 0 rfl rfl b4 dX8_ofPoint_36 ?_
      obtain ⟨r_9, q5, h⟩ := xn_i h
      refine x_callSi (As := [.int (m_orbits_7 v1.toNatClampNeg)]) (rest := []) C hw gc_X8_137 ds_X8_lowest (by rw [hR]; exact Nat.le_of_ble_eq_true rfl) (by rw [hR]; exact Nat.le_of_ble_eq_true rfl) rfl rfl (Nat.zero_le _) (Nat.zero_le _) (c_X8_lowest l dC dI cI cZ cB cO (m_orbits_7 v1.toNatClampNeg) _ q5 _) [] [0, 1, 2, 3, 4, 5, 6, 7, 8, 9, 10, 11, 12, 13, 14, 15, 16, 17, 18] (by decide) rfl rfl (by decide) (by decide) rfl hl.1 rfl (Nat.le_of_ble_eq_true rfl) dX8_ofPoint_37 (fun H locs hw => ?_)
      have hw : xWd (dC, dI) A s.heap H locs (wM cI cZ cB cO m_ad m_p m_now m_held m_past m_pasts m_refused m_figures_1 m_isLaid_2 m_many_3 m_isMade_4 m_made_5 m_images_6 m_orbits_7 m_chains_8 m_isCarried m_carried m_carriedMany m_isSorted m_leasts m_heads m_headFrom m_text m_typed m_at m_fault m_orders m_pointsThen m_letters m_numbers m_h) := hw.sub [0, 1, 2, 3, 4, 5, 6, 7, 8, 9, 10, 11, 12, 13, 14, 15, 16, 17, 18] (by decide) rfl
      obtain rfl := Option.some.inj h
      exact x_reti C hQ hA hw dX8_ofPoint_40
    · replace h := xb_tt b3 h
      refine lv_aload_n hx hb dX8_ofPoint_22 rfl (lv_at hl 0 rfl) ?_
      refine x_get (ci := 7) C hw inX8 rfl 12 (by decide) lkF_X8_39 rfl 0 rfl rfl dX8_ofPoint_23 ?_
      refine lv_iload_n hx hb dX8_ofPoint_26 rfl (lv_at hl 1 rfl) ?_
      obtain ⟨b6, h⟩ := xk_i h
      refine x_iald C hw 10 0 rfl rfl b6 dX8_ofPoint_27 ?_
      refine lv_goto (tgt := 40) hx hb dX8_ofPoint_28 (by decide) ?_
      obtain rfl := Option.some.inj h
      exact x_reti C hQ hA hw dX8_ofPoint_40
  · replace h := xb_tt b2 h
    refine lv_aload_n hx hb dX8_ofPoint_8 rfl (lv_at hl 0 rfl) ?_
    refine x_get (ci := 7) C hw inX8 rfl 11 (by decide) lkF_X8_36 rfl 0 rfl rfl dX8_ofPoint_9 ?_
    refine lv_iload_n hx hb dX8_ofPoint_12 rfl (lv_at hl 1 rfl) ?_
    obtain ⟨b7, h⟩ := xk_i h
    refine x_iald C hw 9 0 rfl rfl b7 dX8_ofPoint_13 ?_
    refine lv_goto (tgt := 40) hx hb dX8_ofPoint_14 (by decide) ?_
    obtain rfl := Option.some.inj h
    exact x_reti C hQ hA hw dX8_ofPoint_40
noncomputable def f_X8_of (m_now : (Nat → Int32)) (m_refused : (Nat → Int32)) (m_figures : (Nat → Int32)) (m_isLaid : Int32) (m_many : Int32) (m_isMade : (Nat → Int32)) (m_made : (Nat → Int32)) (m_images : (Nat → Int32)) (m_orbits : (Nat → Int32)) (m_chains : (Nat → Int32)) (v1 : Int32) (v2 : Int32) : Option ((Nat → Int32) × (Nat → Int32) × Int32 × Int32 × (Nat → Int32) × (Nat → Int32) × (Nat → Int32) × (Nat → Int32) × (Nat → Int32) × Int32) := xn (f_X8_in v1 (0 : Int32) ((m_now 0) - (1 : Int32))) (fun (r_1 : Int32) => xb (r_1 = 0) (xn (f_X8_refuses m_refused (-2 : Int32)) (fun (z : (Nat → Int32) × Int32) => match z with | (m_refused_2, r_3) => some (m_refused_2, m_figures, m_isLaid, m_many, m_isMade, m_made, m_images, m_orbits, m_chains, r_3))) (xn (f_X8_in v2 (0 : Int32) (2 : Int32)) (fun (r_4 : Int32) => xb (r_4 = 0) (xn (f_X8_refuses m_refused (-2 : Int32)) (fun (z : (Nat → Int32) × Int32) => match z with | (m_refused_5, r_6) => some (m_refused_5, m_figures, m_isLaid, m_many, m_isMade, m_made, m_images, m_orbits, m_chains, r_6))) (xn (f_X8_ofPoint m_now m_figures m_isLaid m_many m_isMade m_made m_images m_orbits m_chains v1 v2) (fun (z : (Nat → Int32) × Int32 × Int32 × (Nat → Int32) × (Nat → Int32) × (Nat → Int32) × (Nat → Int32) × (Nat → Int32) × Int32) => match z with | (m_figures_7, m_isLaid_8, m_many_9, m_isMade_10, m_made_11, m_images_12, m_orbits_13, m_chains_14, r_15) => some (m_refused, m_figures_7, m_isLaid_8, m_many_9, m_isMade_10, m_made_11, m_images_12, m_orbits_13, m_chains_14, r_15))))))
set_option maxHeartbeats 4000000 in
set_option maxRecDepth 100000 in
theorem c_X8_of (l : Launch) (dC : Nat → ClassId) (dI : Nat → Nat → Nat) (cI cZ cB cO : ClassId) (m_ad : Nat) (m_p : Nat → Nat) (m_now : (Nat → Int32)) (m_held : (Nat → Int32)) (m_past : (Nat → Int32)) (m_pasts : Int32) (m_refused : (Nat → Int32)) (m_figures : (Nat → Int32)) (m_isLaid : Int32) (m_many : Int32) (m_isMade : (Nat → Int32)) (m_made : (Nat → Int32)) (m_images : (Nat → Int32)) (m_orbits : (Nat → Int32)) (m_chains : (Nat → Int32)) (m_isCarried : (Nat → Int32)) (m_carried : (Nat → Int32)) (m_carriedMany : Int32) (m_isSorted : Int32) (m_leasts : (Nat → Int32)) (m_heads : (Nat → Int32)) (m_headFrom : (Nat → Int32)) (m_text : (Nat → Int32)) (m_typed : Int32) (m_at : Int32) (m_fault : Int32) (m_orders : Int32) (m_pointsThen : Int32) (m_letters : (Nat → Int32)) (m_numbers : (Nat → Int32)) (m_h : Int64) (v1 : Int32) (v2 : Int32) (o : (Nat → Int32) × (Nat → Int32) × Int32 × Int32 × (Nat → Int32) × (Nat → Int32) × (Nat → Int32) × (Nat → Int32) × (Nat → Int32) × Int32) (h : f_X8_of m_now m_refused m_figures m_isLaid m_many m_isMade m_made m_images m_orbits m_chains v1 v2 = some o) (sz : Nat) : Met l yX8_of (xW yX8_of cX8_of 3 (some .int)) { frames := 4, cells := 0, slots := 0, locals := 92 } (xPre dC dI (xT cI cZ cB cO) [.ref m_ad, .int v1, .int v2] (wM cI cZ cB cO m_ad m_p m_now m_held m_past m_pasts m_refused m_figures m_isLaid m_many m_isMade m_made m_images m_orbits m_chains m_isCarried m_carried m_carriedMany m_isSorted m_leasts m_heads m_headFrom m_text m_typed m_at m_fault m_orders m_pointsThen m_letters m_numbers m_h) sz) (xQi dC dI (xT cI cZ cB cO) o.2.2.2.2.2.2.2.2.2 (wM cI cZ cB cO m_ad m_p m_now m_held m_past m_pasts m_refused m_figures m_isLaid m_many m_isMade m_made m_images m_orbits m_chains m_isCarried m_carried m_carriedMany m_isSorted m_leasts m_heads m_headFrom m_text m_typed m_at m_fault m_orders m_pointsThen m_letters m_numbers m_h) (wM cI cZ cB cO m_ad m_p m_now m_held m_past m_pasts o.1 o.2.1 o.2.2.1 o.2.2.2.1 o.2.2.2.2.1 o.2.2.2.2.2.1 o.2.2.2.2.2.2.1 o.2.2.2.2.2.2.2.1 o.2.2.2.2.2.2.2.2.1 m_isCarried m_carried m_carriedMany m_isSorted m_leasts m_heads m_headFrom m_text m_typed m_at m_fault m_orders m_pointsThen m_letters m_numbers m_h) sz) 0 0 (va_A (wM cI cZ cB cO m_ad m_p m_now m_held m_past m_pasts m_refused m_figures m_isLaid m_many m_isMade m_made m_images m_orbits m_chains m_isCarried m_carried m_carriedMany m_isSorted m_leasts m_heads m_headFrom m_text m_typed m_at m_fault m_orders m_pointsThen m_letters m_numbers m_h) sz) := by
  refine x_met (by decide) (Nat.le_of_ble_eq_true rfl) ?_
  intro p e s m args below meth c R Q A hR hsz hA hQ hin C hw ls hl
  have hx := C.1
  have hb := C.2.1
  have hown := C.2.2.2.1
  have htb := C.2.2.2.2.1
  have hl : lv_has ls 3 [(0, .ref m_ad), (1, .int v1), (2, .int v2)] := hl
  refine lv_iload_n hx hb dX8_of_0 rfl (lv_at hl 1 rfl) ?_
  refine lv_iconst (v := (0 : Int32)) hx hb dX8_of_1 (by decide) ?_
  refine lv_aload_n hx hb dX8_of_2 rfl (lv_at hl 0 rfl) ?_
  refine x_get (ci := 7) C hw inX8 rfl 0 (by decide) lkF_X8_7 rfl 0 rfl rfl dX8_of_3 ?_
  refine lv_iconst (v := (0 : Int32)) hx hb dX8_of_6 (by decide) ?_
  refine x_ialk C hw 1 0 rfl rfl (k := 0) (by decide) (vp_in_iff.mpr (by decide)) dX8_of_7 ?_
  refine lv_iconst (v := (1 : Int32)) hx hb dX8_of_8 (by decide) ?_
  refine lv_isub hx hb dX8_of_9 ?_
  obtain ⟨r_1, q1, h⟩ := xn_i h
  refine x_callSi (As := [.int v1, .int (0 : Int32), .int ((m_now 0) - (1 : Int32))]) (rest := []) C hw gc_X8_84 ds_X8_in (by rw [hR]; exact Nat.le_of_ble_eq_true rfl) (by rw [hR]; exact Nat.le_of_ble_eq_true rfl) rfl rfl (Nat.zero_le _) (Nat.zero_le _) (c_X8_in l dC dI cI cZ cB cO v1 (0 : Int32) ((m_now 0) - (1 : Int32)) _ q1 _) [] [0, 1, 2, 3, 4, 5, 6, 7, 8, 9, 10, 11, 12, 13, 14, 15, 16, 17, 18] (by decide) rfl rfl (by decide) (by decide) rfl hl.1 rfl (Nat.le_of_ble_eq_true rfl) dX8_of_10 (fun H locs hw => ?_)
  have hw : xWd (dC, dI) A s.heap H locs (wM cI cZ cB cO m_ad m_p m_now m_held m_past m_pasts m_refused m_figures m_isLaid m_many m_isMade m_made m_images m_orbits m_chains m_isCarried m_carried m_carriedMany m_isSorted m_leasts m_heads m_headFrom m_text m_typed m_at m_fault m_orders m_pointsThen m_letters m_numbers m_h) := hw.sub [0, 1, 2, 3, 4, 5, 6, 7, 8, 9, 10, 11, 12, 13, 14, 15, 16, 17, 18] (by decide) rfl
  refine lv_if_eq (tgt := 34) hx hb dX8_of_13 (by decide) (fun b2 => ?_) (fun b2 => ?_)
  · replace h := xb_tt b2 h
    refine lv_aload_n hx hb dX8_of_34 rfl (lv_at hl 0 rfl) ?_
    refine lv_bipush (v := (-2 : Int32)) hx hb dX8_of_35 (by decide) ?_
    obtain ⟨⟨m_refused_2, r_3⟩, q3, h⟩ := xn_i h
    refine x_callVi (As := [.int (-2 : Int32)]) (rest := []) C hw gc_X8_70 ⟨rfl, rfl, ds_X8_refuses, (by rw [hR]; exact Nat.le_of_ble_eq_true rfl), (by rw [hR]; exact Nat.le_of_ble_eq_true rfl), Nat.zero_le _, Nat.zero_le _⟩ (c_X8_refuses l dC dI cI cZ cB cO m_ad m_p m_now m_held m_past m_pasts m_refused m_figures m_isLaid m_many m_isMade m_made m_images m_orbits m_chains m_isCarried m_carried m_carriedMany m_isSorted m_leasts m_heads m_headFrom m_text m_typed m_at m_fault m_orders m_pointsThen m_letters m_numbers m_h (-2 : Int32) _ q3 _) [0, 1, 2, 3, 4, 5, 6, 7, 8, 9, 10, 11, 12, 13, 14, 15, 16, 17, 18] [] (by decide) rfl rfl (by decide) (by decide) rfl rfl rfl hl.1 rfl (Nat.le_of_ble_eq_true rfl) dX8_of_37 (fun H locs hw => ?_)
    have hw : xWd (dC, dI) A s.heap H locs (wM cI cZ cB cO m_ad m_p m_now m_held m_past m_pasts m_refused_2 m_figures m_isLaid m_many m_isMade m_made m_images m_orbits m_chains m_isCarried m_carried m_carriedMany m_isSorted m_leasts m_heads m_headFrom m_text m_typed m_at m_fault m_orders m_pointsThen m_letters m_numbers m_h) := hw
    obtain rfl := Option.some.inj h
    exact x_reti C hQ hA hw dX8_of_40
  · replace h := xb_ff b2 h
    refine lv_iload_n hx hb dX8_of_16 rfl (lv_at hl 2 rfl) ?_
    refine lv_iconst (v := (0 : Int32)) hx hb dX8_of_17 (by decide) ?_
    refine lv_iconst (v := (2 : Int32)) hx hb dX8_of_18 (by decide) ?_
    obtain ⟨r_4, q4, h⟩ := xn_i h
    refine x_callSi (As := [.int v2, .int (0 : Int32), .int (2 : Int32)]) (rest := []) C hw gc_X8_84 ds_X8_in (by rw [hR]; exact Nat.le_of_ble_eq_true rfl) (by rw [hR]; exact Nat.le_of_ble_eq_true rfl) rfl rfl (Nat.zero_le _) (Nat.zero_le _) (c_X8_in l dC dI cI cZ cB cO v2 (0 : Int32) (2 : Int32) _ q4 _) [] [0, 1, 2, 3, 4, 5, 6, 7, 8, 9, 10, 11, 12, 13, 14, 15, 16, 17, 18] (by decide) rfl rfl (by decide) (by decide) rfl hl.1 rfl (Nat.le_of_ble_eq_true rfl) dX8_of_19 (fun H locs hw => ?_)
    have hw : xWd (dC, dI) A s.heap H locs (wM cI cZ cB cO m_ad m_p m_now m_held m_past m_pasts m_refused m_figures m_isLaid m_many m_isMade m_made m_images m_orbits m_chains m_isCarried m_carried m_carriedMany m_isSorted m_leasts m_heads m_headFrom m_text m_typed m_at m_fault m_orders m_pointsThen m_letters m_numbers m_h) := hw.sub [0, 1, 2, 3, 4, 5, 6, 7, 8, 9, 10, 11, 12, 13, 14, 15, 16, 17, 18] (by decide) rfl
    refine lv_if_eq (tgt := 34) hx hb dX8_of_22 (by decide) (fun b5 => ?_) (fun b5 => ?_)
    · replace h := xb_tt b5 h
      refine lv_aload_n hx hb dX8_of_34 rfl (lv_at hl 0 rfl) ?_
      refine lv_bipush (v := (-2 : Int32)) hx hb dX8_of_35 (by decide) ?_
      obtain ⟨⟨m_refused_5, r_6⟩, q6, h⟩ := xn_i h
      refine x_callVi (As := [.int (-2 : Int32)]) (rest := []) C hw gc_X8_70 ⟨rfl, rfl, ds_X8_refuses, (by rw [hR]; exact Nat.le_of_ble_eq_true rfl), (by rw [hR]; exact Nat.le_of_ble_eq_true rfl), Nat.zero_le _, Nat.zero_le _⟩ (c_X8_refuses l dC dI cI cZ cB cO m_ad m_p m_now m_held m_past m_pasts m_refused m_figures m_isLaid m_many m_isMade m_made m_images m_orbits m_chains m_isCarried m_carried m_carriedMany m_isSorted m_leasts m_heads m_headFrom m_text m_typed m_at m_fault m_orders m_pointsThen m_letters m_numbers m_h (-2 : Int32) _ q6 _) [0, 1, 2, 3, 4, 5, 6, 7, 8, 9, 10, 11, 12, 13, 14, 15, 16, 17, 18] [] (by decide) rfl rfl (by decide) (by decide) rfl rfl rfl hl.1 rfl (Nat.le_of_ble_eq_true rfl) dX8_of_37 (fun H locs hw => ?_)
      have hw : xWd (dC, dI) A s.heap H locs (wM cI cZ cB cO m_ad m_p m_now m_held m_past m_pasts m_refused_5 m_figures m_isLaid m_many m_isMade m_made m_images m_orbits m_chains m_isCarried m_carried m_carriedMany m_isSorted m_leasts m_heads m_headFrom m_text m_typed m_at m_fault m_orders m_pointsThen m_letters m_numbers m_h) := hw
      obtain rfl := Option.some.inj h
      exact x_reti C hQ hA hw dX8_of_40
    · replace h := xb_ff b5 h
      refine lv_aload_n hx hb dX8_of_25 rfl (lv_at hl 0 rfl) ?_
      refine lv_iload_n hx hb dX8_of_26 rfl (lv_at hl 1 rfl) ?_
      refine lv_iload_n hx hb dX8_of_27 rfl (lv_at hl 2 rfl) ?_
      obtain ⟨⟨m_figures_7, m_isLaid_8, m_many_9, m_isMade_10, m_made_11, m_images_12, m_orbits_13, m_chains_14, r_15⟩, q7, h⟩ := xn_i h
      refine x_callVi (As := [.int v1, .int v2]) (rest := []) C hw gc_X8_140 ⟨rfl, rfl, ds_X8_ofPoint, (by rw [hR]; exact Nat.le_of_ble_eq_true rfl), (by rw [hR]; exact Nat.le_of_ble_eq_true rfl), Nat.zero_le _, Nat.zero_le _⟩ (c_X8_ofPoint l dC dI cI cZ cB cO m_ad m_p m_now m_held m_past m_pasts m_refused m_figures m_isLaid m_many m_isMade m_made m_images m_orbits m_chains m_isCarried m_carried m_carriedMany m_isSorted m_leasts m_heads m_headFrom m_text m_typed m_at m_fault m_orders m_pointsThen m_letters m_numbers m_h v1 v2 _ q7 _) [0, 1, 2, 3, 4, 5, 6, 7, 8, 9, 10, 11, 12, 13, 14, 15, 16, 17, 18] [] (by decide) rfl rfl (by decide) (by decide) rfl rfl rfl hl.1 rfl (Nat.le_of_ble_eq_true rfl) dX8_of_28 (fun H locs hw => ?_)
      have hw : xWd (dC, dI) A s.heap H locs (wM cI cZ cB cO m_ad m_p m_now m_held m_past m_pasts m_refused m_figures_7 m_isLaid_8 m_many_9 m_isMade_10 m_made_11 m_images_12 m_orbits_13 m_chains_14 m_isCarried m_carried m_carriedMany m_isSorted m_leasts m_heads m_headFrom m_text m_typed m_at m_fault m_orders m_pointsThen m_letters m_numbers m_h) := hw
      refine lv_goto (tgt := 40) hx hb dX8_of_31 (by decide) ?_
      obtain rfl := Option.some.inj h
      exact x_reti C hQ hA hw dX8_of_40
noncomputable def f_X8_number_L1 (r_12 : Int32) (m_made_7 : (Nat → Int32)) (z : Int32 × Int32) : Option ((Int32 × Int32) ⊕ (Int32)) := match z with
  | (v3_13, v4_14) => xb (v4_14 ≤ v3_13) (some (.inr v3_13)) (xk (vp_in ((v3_13 + v4_14) / (2 : Int32)) 40320) (xb (r_12 ≤ (m_made_7 ((v3_13 + v4_14) / (2 : Int32)).toNatClampNeg)) (some (.inl (v3_13, ((v3_13 + v4_14) / (2 : Int32))))) (some (.inl ((((v3_13 + v4_14) / (2 : Int32)) + (1 : Int32)), v4_14)))))
noncomputable def f_X8_number (m_now : (Nat → Int32)) (m_refused : (Nat → Int32)) (m_figures : (Nat → Int32)) (m_isLaid : Int32) (m_many : Int32) (m_isMade : (Nat → Int32)) (m_made : (Nat → Int32)) (m_images : (Nat → Int32)) (m_orbits : (Nat → Int32)) (m_chains : (Nat → Int32)) (v1 : Int32) : Option ((Nat → Int32) × (Nat → Int32) × Int32 × Int32 × (Nat → Int32) × (Nat → Int32) × (Nat → Int32) × (Nat → Int32) × (Nat → Int32) × Int32) := xn (f_X8_isMove m_now m_figures v1) (fun (z : (Nat → Int32) × Int32) => match z with | (m_figures_1, r_2) => xb (r_2 = 0) (xn (f_X8_refuses m_refused (-2 : Int32)) (fun (z : (Nat → Int32) × Int32) => match z with | (m_refused_16, r_17) => some (m_refused_16, m_figures_1, m_isLaid, m_many, m_isMade, m_made, m_images, m_orbits, m_chains, r_17))) (xn (f_X8_lay m_now m_figures_1 m_isLaid m_many m_isMade m_made m_images m_orbits m_chains) (fun (z : (Nat → Int32) × Int32 × Int32 × (Nat → Int32) × (Nat → Int32) × (Nat → Int32) × (Nat → Int32) × (Nat → Int32)) => match z with | (m_figures_3, m_isLaid_4, m_many_5, m_isMade_6, m_made_7, m_images_8, m_orbits_9, m_chains_10) => xn (f_X8_open m_now m_figures_3 v1) (fun (m_figures_11 : (Nat → Int32)) => xn (f_X8_placeOf m_now m_figures_11) (fun (r_12 : Int32) => xk (vp_in r_12 40320) (xb ((m_isMade_6 r_12.toNatClampNeg) = 0) (some (m_refused, m_figures_11, m_isLaid_4, m_many_5, m_isMade_6, m_made_7, m_images_8, m_orbits_9, m_chains_10, (-1 : Int32))) (xn (xL (f_X8_number_L1 r_12 m_made_7) ((0 : Int32), (m_many_5 - (1 : Int32)))) (fun (v3_15 : Int32) => some (m_refused, m_figures_11, m_isLaid_4, m_many_5, m_isMade_6, m_made_7, m_images_8, m_orbits_9, m_chains_10, v3_15)))))))))
set_option maxHeartbeats 4000000 in
set_option maxRecDepth 100000 in
theorem c_X8_number (l : Launch) (dC : Nat → ClassId) (dI : Nat → Nat → Nat) (cI cZ cB cO : ClassId) (m_ad : Nat) (m_p : Nat → Nat) (m_now : (Nat → Int32)) (m_held : (Nat → Int32)) (m_past : (Nat → Int32)) (m_pasts : Int32) (m_refused : (Nat → Int32)) (m_figures : (Nat → Int32)) (m_isLaid : Int32) (m_many : Int32) (m_isMade : (Nat → Int32)) (m_made : (Nat → Int32)) (m_images : (Nat → Int32)) (m_orbits : (Nat → Int32)) (m_chains : (Nat → Int32)) (m_isCarried : (Nat → Int32)) (m_carried : (Nat → Int32)) (m_carriedMany : Int32) (m_isSorted : Int32) (m_leasts : (Nat → Int32)) (m_heads : (Nat → Int32)) (m_headFrom : (Nat → Int32)) (m_text : (Nat → Int32)) (m_typed : Int32) (m_at : Int32) (m_fault : Int32) (m_orders : Int32) (m_pointsThen : Int32) (m_letters : (Nat → Int32)) (m_numbers : (Nat → Int32)) (m_h : Int64) (v1 : Int32) (o : (Nat → Int32) × (Nat → Int32) × Int32 × Int32 × (Nat → Int32) × (Nat → Int32) × (Nat → Int32) × (Nat → Int32) × (Nat → Int32) × Int32) (h : f_X8_number m_now m_refused m_figures m_isLaid m_many m_isMade m_made m_images m_orbits m_chains v1 = some o) (sz : Nat) : Met l yX8_number (xW yX8_number cX8_number 6 (some .int)) { frames := 3, cells := 0, slots := 0, locals := 70 } (xPre dC dI (xT cI cZ cB cO) [.ref m_ad, .int v1] (wM cI cZ cB cO m_ad m_p m_now m_held m_past m_pasts m_refused m_figures m_isLaid m_many m_isMade m_made m_images m_orbits m_chains m_isCarried m_carried m_carriedMany m_isSorted m_leasts m_heads m_headFrom m_text m_typed m_at m_fault m_orders m_pointsThen m_letters m_numbers m_h) sz) (xQi dC dI (xT cI cZ cB cO) o.2.2.2.2.2.2.2.2.2 (wM cI cZ cB cO m_ad m_p m_now m_held m_past m_pasts m_refused m_figures m_isLaid m_many m_isMade m_made m_images m_orbits m_chains m_isCarried m_carried m_carriedMany m_isSorted m_leasts m_heads m_headFrom m_text m_typed m_at m_fault m_orders m_pointsThen m_letters m_numbers m_h) (wM cI cZ cB cO m_ad m_p m_now m_held m_past m_pasts o.1 o.2.1 o.2.2.1 o.2.2.2.1 o.2.2.2.2.1 o.2.2.2.2.2.1 o.2.2.2.2.2.2.1 o.2.2.2.2.2.2.2.1 o.2.2.2.2.2.2.2.2.1 m_isCarried m_carried m_carriedMany m_isSorted m_leasts m_heads m_headFrom m_text m_typed m_at m_fault m_orders m_pointsThen m_letters m_numbers m_h) sz) 0 0 (va_A (wM cI cZ cB cO m_ad m_p m_now m_held m_past m_pasts m_refused m_figures m_isLaid m_many m_isMade m_made m_images m_orbits m_chains m_isCarried m_carried m_carriedMany m_isSorted m_leasts m_heads m_headFrom m_text m_typed m_at m_fault m_orders m_pointsThen m_letters m_numbers m_h) sz) := by
  refine x_met (by decide) (Nat.le_of_ble_eq_true rfl) ?_
  intro p e s m args below meth c R Q A hR hsz hA hQ hin C hw ls hl
  have hx := C.1
  have hb := C.2.1
  have hown := C.2.2.2.1
  have htb := C.2.2.2.2.1
  have hl : lv_has ls 6 [(0, .ref m_ad), (1, .int v1)] := hl
  refine lv_aload_n hx hb dX8_number_0 rfl (lv_at hl 0 rfl) ?_
  refine lv_iload_n hx hb dX8_number_1 rfl (lv_at hl 1 rfl) ?_
  obtain ⟨⟨m_figures_1, r_2⟩, q1, h⟩ := xn_i h
  refine x_callVi (As := [.int v1]) (rest := []) C hw gc_X8_92 ⟨rfl, rfl, ds_X8_isMove, (by rw [hR]; exact Nat.le_of_ble_eq_true rfl), (by rw [hR]; exact Nat.le_of_ble_eq_true rfl), Nat.zero_le _, Nat.zero_le _⟩ (c_X8_isMove l dC dI cI cZ cB cO m_ad m_p m_now m_held m_past m_pasts m_refused m_figures m_isLaid m_many m_isMade m_made m_images m_orbits m_chains m_isCarried m_carried m_carriedMany m_isSorted m_leasts m_heads m_headFrom m_text m_typed m_at m_fault m_orders m_pointsThen m_letters m_numbers m_h v1 _ q1 _) [0, 1, 2, 3, 4, 5, 6, 7, 8, 9, 10, 11, 12, 13, 14, 15, 16, 17, 18] [] (by decide) rfl rfl (by decide) (by decide) rfl rfl rfl hl.1 rfl (Nat.le_of_ble_eq_true rfl) dX8_number_2 (fun H locs hw => ?_)
  have hw : xWd (dC, dI) A s.heap H locs (wM cI cZ cB cO m_ad m_p m_now m_held m_past m_pasts m_refused m_figures_1 m_isLaid m_many m_isMade m_made m_images m_orbits m_chains m_isCarried m_carried m_carriedMany m_isSorted m_leasts m_heads m_headFrom m_text m_typed m_at m_fault m_orders m_pointsThen m_letters m_numbers m_h) := hw
  refine lv_if_ne (tgt := 15) hx hb dX8_number_5 (by decide) (fun b2 => ?_) (fun b2 => ?_)
  · replace h := xb_ff b2 h
    refine lv_aload_n hx hb dX8_number_15 rfl (lv_at hl 0 rfl) ?_
    obtain ⟨⟨m_figures_3, m_isLaid_4, m_many_5, m_isMade_6, m_made_7, m_images_8, m_orbits_9, m_chains_10⟩, q3, h⟩ := xn_i h
    refine x_callVv (As := []) (rest := []) C hw gc_X8_130 ⟨rfl, rfl, ds_X8_lay, (by rw [hR]; exact Nat.le_of_ble_eq_true rfl), (by rw [hR]; exact Nat.le_of_ble_eq_true rfl), Nat.zero_le _, Nat.zero_le _⟩ (c_X8_lay l dC dI cI cZ cB cO m_ad m_p m_now m_held m_past m_pasts m_refused m_figures_1 m_isLaid m_many m_isMade m_made m_images m_orbits m_chains m_isCarried m_carried m_carriedMany m_isSorted m_leasts m_heads m_headFrom m_text m_typed m_at m_fault m_orders m_pointsThen m_letters m_numbers m_h _ q3 _) [0, 1, 2, 3, 4, 5, 6, 7, 8, 9, 10, 11, 12, 13, 14, 15, 16, 17, 18] [] (by decide) rfl rfl (by decide) (by decide) rfl rfl rfl hl.1 rfl (Nat.le_of_ble_eq_true rfl) dX8_number_16 (fun H locs hw => ?_)
    have hw : xWd (dC, dI) A s.heap H locs (wM cI cZ cB cO m_ad m_p m_now m_held m_past m_pasts m_refused m_figures_3 m_isLaid_4 m_many_5 m_isMade_6 m_made_7 m_images_8 m_orbits_9 m_chains_10 m_isCarried m_carried m_carriedMany m_isSorted m_leasts m_heads m_headFrom m_text m_typed m_at m_fault m_orders m_pointsThen m_letters m_numbers m_h) := hw
    refine lv_aload_n hx hb dX8_number_19 rfl (lv_at hl 0 rfl) ?_
    refine lv_iload_n hx hb dX8_number_20 rfl (lv_at hl 1 rfl) ?_
    obtain ⟨m_figures_11, q4, h⟩ := xn_i h
    refine x_callVv (As := [.int v1]) (rest := []) C hw gc_X8_88 ⟨rfl, rfl, ds_X8_open, (by rw [hR]; exact Nat.le_of_ble_eq_true rfl), (by rw [hR]; exact Nat.le_of_ble_eq_true rfl), Nat.zero_le _, Nat.zero_le _⟩ (c_X8_open l dC dI cI cZ cB cO m_ad m_p m_now m_held m_past m_pasts m_refused m_figures_3 m_isLaid_4 m_many_5 m_isMade_6 m_made_7 m_images_8 m_orbits_9 m_chains_10 m_isCarried m_carried m_carriedMany m_isSorted m_leasts m_heads m_headFrom m_text m_typed m_at m_fault m_orders m_pointsThen m_letters m_numbers m_h v1 _ q4 _) [0, 1, 2, 3, 4, 5, 6, 7, 8, 9, 10, 11, 12, 13, 14, 15, 16, 17, 18] [] (by decide) rfl rfl (by decide) (by decide) rfl rfl rfl hl.1 rfl (Nat.le_of_ble_eq_true rfl) dX8_number_21 (fun H locs hw => ?_)
    have hw : xWd (dC, dI) A s.heap H locs (wM cI cZ cB cO m_ad m_p m_now m_held m_past m_pasts m_refused m_figures_11 m_isLaid_4 m_many_5 m_isMade_6 m_made_7 m_images_8 m_orbits_9 m_chains_10 m_isCarried m_carried m_carriedMany m_isSorted m_leasts m_heads m_headFrom m_text m_typed m_at m_fault m_orders m_pointsThen m_letters m_numbers m_h) := hw
    refine lv_aload_n hx hb dX8_number_24 rfl (lv_at hl 0 rfl) ?_
    obtain ⟨r_12, q5, h⟩ := xn_i h
    refine x_callVi (As := []) (rest := []) C hw gc_X8_120 ⟨rfl, rfl, ds_X8_placeOf, (by rw [hR]; exact Nat.le_of_ble_eq_true rfl), (by rw [hR]; exact Nat.le_of_ble_eq_true rfl), Nat.zero_le _, Nat.zero_le _⟩ (c_X8_placeOf l dC dI cI cZ cB cO m_ad m_p m_now m_held m_past m_pasts m_refused m_figures_11 m_isLaid_4 m_many_5 m_isMade_6 m_made_7 m_images_8 m_orbits_9 m_chains_10 m_isCarried m_carried m_carriedMany m_isSorted m_leasts m_heads m_headFrom m_text m_typed m_at m_fault m_orders m_pointsThen m_letters m_numbers m_h _ q5 _) [0, 1, 2, 3, 4, 5, 6, 7, 8, 9, 10, 11, 12, 13, 14, 15, 16, 17, 18] [] (by decide) rfl rfl (by decide) (by decide) rfl rfl rfl hl.1 rfl (Nat.le_of_ble_eq_true rfl) dX8_number_25 (fun H locs hw => ?_)
    have hw : xWd (dC, dI) A s.heap H locs (wM cI cZ cB cO m_ad m_p m_now m_held m_past m_pasts m_refused m_figures_11 m_isLaid_4 m_many_5 m_isMade_6 m_made_7 m_images_8 m_orbits_9 m_chains_10 m_isCarried m_carried m_carriedMany m_isSorted m_leasts m_heads m_headFrom m_text m_typed m_at m_fault m_orders m_pointsThen m_letters m_numbers m_h) := hw
    refine lv_istore_n (lv' := [(2, .int r_12), (0, .ref m_ad), (1, .int v1)]) hx hb dX8_number_28 rfl hl (by decide) rfl (fun ls hl => ?_)
    refine lv_aload_n hx hb dX8_number_29 rfl (lv_at hl 1 rfl) ?_
    refine x_get (ci := 7) C hw inX8 rfl 8 (by decide) lkF_X8_26 rfl 0 rfl rfl dX8_number_30 ?_
    refine lv_iload_n hx hb dX8_number_33 rfl (lv_at hl 0 rfl) ?_
    obtain ⟨b6, h⟩ := xk_i h
    refine x_zald C hw 6 1 rfl rfl b6 dX8_number_34 ?_
    refine lv_if_ne (tgt := 40) hx hb dX8_number_35 (by decide) (fun b7 => ?_) (fun b7 => ?_)
    · replace h := xb_ff b7 h
      refine lv_iconst (v := (0 : Int32)) hx hb dX8_number_40 (by decide) ?_
      refine lv_istore_n (lv' := [(3, .int (0 : Int32)), (2, .int r_12), (0, .ref m_ad), (1, .int v1)]) hx hb dX8_number_41 rfl hl (by decide) rfl (fun ls hl => ?_)
      refine lv_aload_n hx hb dX8_number_42 rfl (lv_at hl 2 rfl) ?_
      refine x_get (ci := 7) C hw inX8 rfl 7 (by decide) lkF_X8_111 rfl 0 rfl rfl dX8_number_43 ?_
      refine lv_iconst (v := (1 : Int32)) hx hb dX8_number_46 (by decide) ?_
      refine lv_isub hx hb dX8_number_47 ?_
      refine lv_istore (lv' := [(4, .int (m_many_5 - (1 : Int32))), (3, .int (0 : Int32)), (2, .int r_12), (0, .ref m_ad), (1, .int v1)]) hx hb dX8_number_48 hl (by decide) rfl (fun ls hl => ?_)
      obtain ⟨z, hr, h⟩ := xn_i h
      refine xL_w (fun (z : Int32 × Int32) => ∀ (H : Heap) (locs : List Loc) (ls : Array Slot), xWd (dC, dI) A s.heap H locs (wM cI cZ cB cO m_ad m_p m_now m_held m_past m_pasts m_refused m_figures_11 m_isLaid_4 m_many_5 m_isMade_6 m_made_7 m_images_8 m_orbits_9 m_chains_10 m_isCarried m_carried m_carriedMany m_isSorted m_leasts m_heads m_headFrom m_text m_typed m_at m_fault m_orders m_pointsThen m_letters m_numbers m_h) → lv_has ls 6 [(0, .ref m_ad), (2, .int r_12), (3, .int z.1), (4, .int z.2)] → W p l e R s m args below meth c H locs 0 0 Q (F0 m 50 ls [])) (fun (z : Int32) => ∀ (H : Heap) (locs : List Loc) (ls : Array Slot), xWd (dC, dI) A s.heap H locs (wM cI cZ cB cO m_ad m_p m_now m_held m_past m_pasts m_refused m_figures_11 m_isLaid_4 m_many_5 m_isMade_6 m_made_7 m_images_8 m_orbits_9 m_chains_10 m_isCarried m_carried m_carriedMany m_isSorted m_leasts m_heads m_headFrom m_text m_typed m_at m_fault m_orders m_pointsThen m_letters m_numbers m_h) → lv_has ls 6 [(3, .int z)] → W p l e R s m args below meth c H locs 0 0 Q (F0 m 90 ls [])) ?_ hr ?_ _ _ _ hw (lv_sub hl [3, 2, 1, 0] rfl)
      · rintro ⟨v3_13, v4_14⟩ o h k H locs ls hw hl
        have hw : xWd (dC, dI) A s.heap H locs (wM cI cZ cB cO m_ad m_p m_now m_held m_past m_pasts m_refused m_figures_11 m_isLaid_4 m_many_5 m_isMade_6 m_made_7 m_images_8 m_orbits_9 m_chains_10 m_isCarried m_carried m_carriedMany m_isSorted m_leasts m_heads m_headFrom m_text m_typed m_at m_fault m_orders m_pointsThen m_letters m_numbers m_h) := hw
        have hl : lv_has ls 6 [(0, .ref m_ad), (2, .int r_12), (3, .int v3_13), (4, .int v4_14)] := hl
        refine lv_iload_n hx hb dX8_number_50 rfl (lv_at hl 2 rfl) ?_
        refine lv_iload hx hb dX8_number_51 (lv_at hl 3 rfl) ?_
        refine lv_icmp_ge (tgt := 90) hx hb dX8_number_53 (by decide) (fun b8 => ?_) (fun b8 => ?_)
        · replace h := xb_tt b8 h
          obtain rfl := Option.some.inj h
          exact k _ _ _ hw (lv_sub hl [2] rfl)
        · replace h := xb_ff b8 h
          refine lv_iload_n hx hb dX8_number_56 rfl (lv_at hl 2 rfl) ?_
          refine lv_iload hx hb dX8_number_57 (lv_at hl 3 rfl) ?_
          refine lv_iadd hx hb dX8_number_59 ?_
          refine lv_iconst (v := (2 : Int32)) hx hb dX8_number_60 (by decide) ?_
          refine lv_idiv hx hb dX8_number_61 (by decide) ?_
          refine lv_istore (lv' := [(5, .int ((v3_13 + v4_14) / (2 : Int32))), (0, .ref m_ad), (2, .int r_12), (3, .int v3_13), (4, .int v4_14)]) hx hb dX8_number_62 hl (by decide) rfl (fun ls hl => ?_)
          refine lv_aload_n hx hb dX8_number_64 rfl (lv_at hl 1 rfl) ?_
          refine x_get (ci := 7) C hw inX8 rfl 9 (by decide) lkF_X8_30 rfl 0 rfl rfl dX8_number_65 ?_
          refine lv_iload hx hb dX8_number_68 (lv_at hl 0 rfl) ?_
          obtain ⟨b9, h⟩ := xk_i h
          refine x_iald C hw 7 0 rfl rfl b9 dX8_number_70 ?_
          refine lv_iload_n hx hb dX8_number_71 rfl (lv_at hl 2 rfl) ?_
          refine lv_icmp_ge (tgt := 83) hx hb dX8_number_72 (by decide) (fun b10 => ?_) (fun b10 => ?_)
          · replace h := xb_tt b10 h
            refine lv_iload hx hb dX8_number_83 (lv_at hl 0 rfl) ?_
            refine lv_istore (lv' := [(4, .int ((v3_13 + v4_14) / (2 : Int32))), (5, .int ((v3_13 + v4_14) / (2 : Int32))), (0, .ref m_ad), (2, .int r_12), (3, .int v3_13)]) hx hb dX8_number_85 hl (by decide) rfl (fun ls hl => ?_)
            refine lv_goto (tgt := 50) hx hb dX8_number_87 (by decide) ?_
            obtain rfl := Option.some.inj h
            exact k _ _ _ hw (lv_sub hl [2, 3, 4, 0] rfl)
          · replace h := xb_ff b10 h
            refine lv_iload hx hb dX8_number_75 (lv_at hl 0 rfl) ?_
            refine lv_iconst (v := (1 : Int32)) hx hb dX8_number_77 (by decide) ?_
            refine lv_iadd hx hb dX8_number_78 ?_
            refine lv_istore_n (lv' := [(3, .int (((v3_13 + v4_14) / (2 : Int32)) + (1 : Int32))), (5, .int ((v3_13 + v4_14) / (2 : Int32))), (0, .ref m_ad), (2, .int r_12), (4, .int v4_14)]) hx hb dX8_number_79 rfl hl (by decide) rfl (fun ls hl => ?_)
            refine lv_goto (tgt := 87) hx hb dX8_number_80 (by decide) ?_
            refine lv_goto (tgt := 50) hx hb dX8_number_87 (by decide) ?_
            obtain rfl := Option.some.inj h
            exact k _ _ _ hw (lv_sub hl [2, 3, 0, 4] rfl)
      · obtain ⟨v3_15, hz⟩ : ∃ q, q = z := ⟨z, rfl⟩
        subst hz
        intro H locs ls hw hl
        have hw : xWd (dC, dI) A s.heap H locs (wM cI cZ cB cO m_ad m_p m_now m_held m_past m_pasts m_refused m_figures_11 m_isLaid_4 m_many_5 m_isMade_6 m_made_7 m_images_8 m_orbits_9 m_chains_10 m_isCarried m_carried m_carriedMany m_isSorted m_leasts m_heads m_headFrom m_text m_typed m_at m_fault m_orders m_pointsThen m_letters m_numbers m_h) := hw
        have hl : lv_has ls 6 [(3, .int v3_15)] := hl
        refine lv_iload_n hx hb dX8_number_90 rfl (lv_at hl 0 rfl) ?_
        obtain rfl := Option.some.inj h
        exact x_reti C hQ hA hw dX8_number_91
    · replace h := xb_tt b7 h
      refine lv_iconst (v := (-1 : Int32)) hx hb dX8_number_38 (by decide) ?_
      obtain rfl := Option.some.inj h
      exact x_reti C hQ hA hw dX8_number_39
  · replace h := xb_tt b2 h
    refine lv_aload_n hx hb dX8_number_8 rfl (lv_at hl 0 rfl) ?_
    refine lv_bipush (v := (-2 : Int32)) hx hb dX8_number_9 (by decide) ?_
    obtain ⟨⟨m_refused_16, r_17⟩, q11, h⟩ := xn_i h
    refine x_callVi (As := [.int (-2 : Int32)]) (rest := []) C hw gc_X8_70 ⟨rfl, rfl, ds_X8_refuses, (by rw [hR]; exact Nat.le_of_ble_eq_true rfl), (by rw [hR]; exact Nat.le_of_ble_eq_true rfl), Nat.zero_le _, Nat.zero_le _⟩ (c_X8_refuses l dC dI cI cZ cB cO m_ad m_p m_now m_held m_past m_pasts m_refused m_figures_1 m_isLaid m_many m_isMade m_made m_images m_orbits m_chains m_isCarried m_carried m_carriedMany m_isSorted m_leasts m_heads m_headFrom m_text m_typed m_at m_fault m_orders m_pointsThen m_letters m_numbers m_h (-2 : Int32) _ q11 _) [0, 1, 2, 3, 4, 5, 6, 7, 8, 9, 10, 11, 12, 13, 14, 15, 16, 17, 18] [] (by decide) rfl rfl (by decide) (by decide) rfl rfl rfl hl.1 rfl (Nat.le_of_ble_eq_true rfl) dX8_number_11 (fun H locs hw => ?_)
    have hw : xWd (dC, dI) A s.heap H locs (wM cI cZ cB cO m_ad m_p m_now m_held m_past m_pasts m_refused_16 m_figures_1 m_isLaid m_many m_isMade m_made m_images m_orbits m_chains m_isCarried m_carried m_carriedMany m_isSorted m_leasts m_heads m_headFrom m_text m_typed m_at m_fault m_orders m_pointsThen m_letters m_numbers m_h) := hw
    obtain rfl := Option.some.inj h
    exact x_reti C hQ hA hw dX8_number_14
noncomputable def f_X8_element (m_now : (Nat → Int32)) (m_refused : (Nat → Int32)) (m_figures : (Nat → Int32)) (m_isLaid : Int32) (m_many : Int32) (m_isMade : (Nat → Int32)) (m_made : (Nat → Int32)) (m_images : (Nat → Int32)) (m_orbits : (Nat → Int32)) (m_chains : (Nat → Int32)) (v1 : Int32) : Option ((Nat → Int32) × (Nat → Int32) × Int32 × Int32 × (Nat → Int32) × (Nat → Int32) × (Nat → Int32) × (Nat → Int32) × (Nat → Int32) × Int32) := xb (0 ≤ v1) (xn (f_X8_lay m_now m_figures m_isLaid m_many m_isMade m_made m_images m_orbits m_chains) (fun (z : (Nat → Int32) × Int32 × Int32 × (Nat → Int32) × (Nat → Int32) × (Nat → Int32) × (Nat → Int32) × (Nat → Int32)) => match z with | (m_figures_1, m_isLaid_2, m_many_3, m_isMade_4, m_made_5, m_images_6, m_orbits_7, m_chains_8) => xb (m_many_3 ≤ v1) (xn (f_X8_refuses m_refused (-3 : Int32)) (fun (z : (Nat → Int32) × Int32) => match z with | (m_refused_9, r_10) => some (m_refused_9, m_figures_1, m_isLaid_2, m_many_3, m_isMade_4, m_made_5, m_images_6, m_orbits_7, m_chains_8, r_10))) (xk (vp_in v1 40320) (xn (f_X8_codeAt m_now m_figures_1 (m_made_5 v1.toNatClampNeg)) (fun (z : (Nat → Int32) × Int32) => match z with | (m_figures_11, r_12) => some (m_refused, m_figures_11, m_isLaid_2, m_many_3, m_isMade_4, m_made_5, m_images_6, m_orbits_7, m_chains_8, r_12)))))) (xn (f_X8_refuses m_refused (-2 : Int32)) (fun (z : (Nat → Int32) × Int32) => match z with | (m_refused_13, r_14) => some (m_refused_13, m_figures, m_isLaid, m_many, m_isMade, m_made, m_images, m_orbits, m_chains, r_14)))
set_option maxHeartbeats 4000000 in
set_option maxRecDepth 100000 in
theorem c_X8_element (l : Launch) (dC : Nat → ClassId) (dI : Nat → Nat → Nat) (cI cZ cB cO : ClassId) (m_ad : Nat) (m_p : Nat → Nat) (m_now : (Nat → Int32)) (m_held : (Nat → Int32)) (m_past : (Nat → Int32)) (m_pasts : Int32) (m_refused : (Nat → Int32)) (m_figures : (Nat → Int32)) (m_isLaid : Int32) (m_many : Int32) (m_isMade : (Nat → Int32)) (m_made : (Nat → Int32)) (m_images : (Nat → Int32)) (m_orbits : (Nat → Int32)) (m_chains : (Nat → Int32)) (m_isCarried : (Nat → Int32)) (m_carried : (Nat → Int32)) (m_carriedMany : Int32) (m_isSorted : Int32) (m_leasts : (Nat → Int32)) (m_heads : (Nat → Int32)) (m_headFrom : (Nat → Int32)) (m_text : (Nat → Int32)) (m_typed : Int32) (m_at : Int32) (m_fault : Int32) (m_orders : Int32) (m_pointsThen : Int32) (m_letters : (Nat → Int32)) (m_numbers : (Nat → Int32)) (m_h : Int64) (v1 : Int32) (o : (Nat → Int32) × (Nat → Int32) × Int32 × Int32 × (Nat → Int32) × (Nat → Int32) × (Nat → Int32) × (Nat → Int32) × (Nat → Int32) × Int32) (h : f_X8_element m_now m_refused m_figures m_isLaid m_many m_isMade m_made m_images m_orbits m_chains v1 = some o) (sz : Nat) : Met l yX8_element (xW yX8_element cX8_element 2 (some .int)) { frames := 3, cells := 0, slots := 0, locals := 70 } (xPre dC dI (xT cI cZ cB cO) [.ref m_ad, .int v1] (wM cI cZ cB cO m_ad m_p m_now m_held m_past m_pasts m_refused m_figures m_isLaid m_many m_isMade m_made m_images m_orbits m_chains m_isCarried m_carried m_carriedMany m_isSorted m_leasts m_heads m_headFrom m_text m_typed m_at m_fault m_orders m_pointsThen m_letters m_numbers m_h) sz) (xQi dC dI (xT cI cZ cB cO) o.2.2.2.2.2.2.2.2.2 (wM cI cZ cB cO m_ad m_p m_now m_held m_past m_pasts m_refused m_figures m_isLaid m_many m_isMade m_made m_images m_orbits m_chains m_isCarried m_carried m_carriedMany m_isSorted m_leasts m_heads m_headFrom m_text m_typed m_at m_fault m_orders m_pointsThen m_letters m_numbers m_h) (wM cI cZ cB cO m_ad m_p m_now m_held m_past m_pasts o.1 o.2.1 o.2.2.1 o.2.2.2.1 o.2.2.2.2.1 o.2.2.2.2.2.1 o.2.2.2.2.2.2.1 o.2.2.2.2.2.2.2.1 o.2.2.2.2.2.2.2.2.1 m_isCarried m_carried m_carriedMany m_isSorted m_leasts m_heads m_headFrom m_text m_typed m_at m_fault m_orders m_pointsThen m_letters m_numbers m_h) sz) 0 0 (va_A (wM cI cZ cB cO m_ad m_p m_now m_held m_past m_pasts m_refused m_figures m_isLaid m_many m_isMade m_made m_images m_orbits m_chains m_isCarried m_carried m_carriedMany m_isSorted m_leasts m_heads m_headFrom m_text m_typed m_at m_fault m_orders m_pointsThen m_letters m_numbers m_h) sz) := by
  refine x_met (by decide) (Nat.le_of_ble_eq_true rfl) ?_
  intro p e s m args below meth c R Q A hR hsz hA hQ hin C hw ls hl
  have hx := C.1
  have hb := C.2.1
  have hown := C.2.2.2.1
  have htb := C.2.2.2.2.1
  have hl : lv_has ls 2 [(0, .ref m_ad), (1, .int v1)] := hl
  refine lv_iload_n hx hb dX8_element_0 rfl (lv_at hl 1 rfl) ?_
  refine lv_if_ge (tgt := 11) hx hb dX8_element_1 (by decide) (fun b1 => ?_) (fun b1 => ?_)
  · replace h := xb_tt b1 h
    refine lv_aload_n hx hb dX8_element_11 rfl (lv_at hl 0 rfl) ?_
    obtain ⟨⟨m_figures_1, m_isLaid_2, m_many_3, m_isMade_4, m_made_5, m_images_6, m_orbits_7, m_chains_8⟩, q2, h⟩ := xn_i h
    refine x_callVv (As := []) (rest := []) C hw gc_X8_130 ⟨rfl, rfl, ds_X8_lay, (by rw [hR]; exact Nat.le_of_ble_eq_true rfl), (by rw [hR]; exact Nat.le_of_ble_eq_true rfl), Nat.zero_le _, Nat.zero_le _⟩ (c_X8_lay l dC dI cI cZ cB cO m_ad m_p m_now m_held m_past m_pasts m_refused m_figures m_isLaid m_many m_isMade m_made m_images m_orbits m_chains m_isCarried m_carried m_carriedMany m_isSorted m_leasts m_heads m_headFrom m_text m_typed m_at m_fault m_orders m_pointsThen m_letters m_numbers m_h _ q2 _) [0, 1, 2, 3, 4, 5, 6, 7, 8, 9, 10, 11, 12, 13, 14, 15, 16, 17, 18] [] (by decide) rfl rfl (by decide) (by decide) rfl rfl rfl hl.1 rfl (Nat.le_of_ble_eq_true rfl) dX8_element_12 (fun H locs hw => ?_)
    have hw : xWd (dC, dI) A s.heap H locs (wM cI cZ cB cO m_ad m_p m_now m_held m_past m_pasts m_refused m_figures_1 m_isLaid_2 m_many_3 m_isMade_4 m_made_5 m_images_6 m_orbits_7 m_chains_8 m_isCarried m_carried m_carriedMany m_isSorted m_leasts m_heads m_headFrom m_text m_typed m_at m_fault m_orders m_pointsThen m_letters m_numbers m_h) := hw
    refine lv_iload_n hx hb dX8_element_15 rfl (lv_at hl 1 rfl) ?_
    refine lv_aload_n hx hb dX8_element_16 rfl (lv_at hl 0 rfl) ?_
    refine x_get (ci := 7) C hw inX8 rfl 7 (by decide) lkF_X8_111 rfl 0 rfl rfl dX8_element_17 ?_
    refine lv_icmp_ge (tgt := 36) hx hb dX8_element_20 (by decide) (fun b3 => ?_) (fun b3 => ?_)
    · replace h := xb_tt b3 h
      refine lv_aload_n hx hb dX8_element_36 rfl (lv_at hl 0 rfl) ?_
      refine lv_bipush (v := (-3 : Int32)) hx hb dX8_element_37 (by decide) ?_
      obtain ⟨⟨m_refused_9, r_10⟩, q4, h⟩ := xn_i h
      refine x_callVi (As := [.int (-3 : Int32)]) (rest := []) C hw gc_X8_70 ⟨rfl, rfl, ds_X8_refuses, (by rw [hR]; exact Nat.le_of_ble_eq_true rfl), (by rw [hR]; exact Nat.le_of_ble_eq_true rfl), Nat.zero_le _, Nat.zero_le _⟩ (c_X8_refuses l dC dI cI cZ cB cO m_ad m_p m_now m_held m_past m_pasts m_refused m_figures_1 m_isLaid_2 m_many_3 m_isMade_4 m_made_5 m_images_6 m_orbits_7 m_chains_8 m_isCarried m_carried m_carriedMany m_isSorted m_leasts m_heads m_headFrom m_text m_typed m_at m_fault m_orders m_pointsThen m_letters m_numbers m_h (-3 : Int32) _ q4 _) [0, 1, 2, 3, 4, 5, 6, 7, 8, 9, 10, 11, 12, 13, 14, 15, 16, 17, 18] [] (by decide) rfl rfl (by decide) (by decide) rfl rfl rfl hl.1 rfl (Nat.le_of_ble_eq_true rfl) dX8_element_39 (fun H locs hw => ?_)
      have hw : xWd (dC, dI) A s.heap H locs (wM cI cZ cB cO m_ad m_p m_now m_held m_past m_pasts m_refused_9 m_figures_1 m_isLaid_2 m_many_3 m_isMade_4 m_made_5 m_images_6 m_orbits_7 m_chains_8 m_isCarried m_carried m_carriedMany m_isSorted m_leasts m_heads m_headFrom m_text m_typed m_at m_fault m_orders m_pointsThen m_letters m_numbers m_h) := hw
      obtain rfl := Option.some.inj h
      exact x_reti C hQ hA hw dX8_element_42
    · replace h := xb_ff b3 h
      refine lv_aload_n hx hb dX8_element_23 rfl (lv_at hl 0 rfl) ?_
      refine lv_aload_n hx hb dX8_element_24 rfl (lv_at hl 0 rfl) ?_
      refine x_get (ci := 7) C hw inX8 rfl 9 (by decide) lkF_X8_30 rfl 0 rfl rfl dX8_element_25 ?_
      refine lv_iload_n hx hb dX8_element_28 rfl (lv_at hl 1 rfl) ?_
      obtain ⟨b5, h⟩ := xk_i h
      refine x_iald C hw 7 0 rfl rfl b5 dX8_element_29 ?_
      obtain ⟨⟨m_figures_11, r_12⟩, q6, h⟩ := xn_i h
      refine x_callVi (As := [.int (m_made_5 v1.toNatClampNeg)]) (rest := []) C hw gc_X8_117 ⟨rfl, rfl, ds_X8_codeAt, (by rw [hR]; exact Nat.le_of_ble_eq_true rfl), (by rw [hR]; exact Nat.le_of_ble_eq_true rfl), Nat.zero_le _, Nat.zero_le _⟩ (c_X8_codeAt l dC dI cI cZ cB cO m_ad m_p m_now m_held m_past m_pasts m_refused m_figures_1 m_isLaid_2 m_many_3 m_isMade_4 m_made_5 m_images_6 m_orbits_7 m_chains_8 m_isCarried m_carried m_carriedMany m_isSorted m_leasts m_heads m_headFrom m_text m_typed m_at m_fault m_orders m_pointsThen m_letters m_numbers m_h (m_made_5 v1.toNatClampNeg) _ q6 _) [0, 1, 2, 3, 4, 5, 6, 7, 8, 9, 10, 11, 12, 13, 14, 15, 16, 17, 18] [] (by decide) rfl rfl (by decide) (by decide) rfl rfl rfl hl.1 rfl (Nat.le_of_ble_eq_true rfl) dX8_element_30 (fun H locs hw => ?_)
      have hw : xWd (dC, dI) A s.heap H locs (wM cI cZ cB cO m_ad m_p m_now m_held m_past m_pasts m_refused m_figures_11 m_isLaid_2 m_many_3 m_isMade_4 m_made_5 m_images_6 m_orbits_7 m_chains_8 m_isCarried m_carried m_carriedMany m_isSorted m_leasts m_heads m_headFrom m_text m_typed m_at m_fault m_orders m_pointsThen m_letters m_numbers m_h) := hw
      refine lv_goto (tgt := 42) hx hb dX8_element_33 (by decide) ?_
      obtain rfl := Option.some.inj h
      exact x_reti C hQ hA hw dX8_element_42
  · replace h := xb_ff b1 h
    refine lv_aload_n hx hb dX8_element_4 rfl (lv_at hl 0 rfl) ?_
    refine lv_bipush (v := (-2 : Int32)) hx hb dX8_element_5 (by decide) ?_
    obtain ⟨⟨m_refused_13, r_14⟩, q7, h⟩ := xn_i h
    refine x_callVi (As := [.int (-2 : Int32)]) (rest := []) C hw gc_X8_70 ⟨rfl, rfl, ds_X8_refuses, (by rw [hR]; exact Nat.le_of_ble_eq_true rfl), (by rw [hR]; exact Nat.le_of_ble_eq_true rfl), Nat.zero_le _, Nat.zero_le _⟩ (c_X8_refuses l dC dI cI cZ cB cO m_ad m_p m_now m_held m_past m_pasts m_refused m_figures m_isLaid m_many m_isMade m_made m_images m_orbits m_chains m_isCarried m_carried m_carriedMany m_isSorted m_leasts m_heads m_headFrom m_text m_typed m_at m_fault m_orders m_pointsThen m_letters m_numbers m_h (-2 : Int32) _ q7 _) [0, 1, 2, 3, 4, 5, 6, 7, 8, 9, 10, 11, 12, 13, 14, 15, 16, 17, 18] [] (by decide) rfl rfl (by decide) (by decide) rfl rfl rfl hl.1 rfl (Nat.le_of_ble_eq_true rfl) dX8_element_7 (fun H locs hw => ?_)
    have hw : xWd (dC, dI) A s.heap H locs (wM cI cZ cB cO m_ad m_p m_now m_held m_past m_pasts m_refused_13 m_figures m_isLaid m_many m_isMade m_made m_images m_orbits m_chains m_isCarried m_carried m_carriedMany m_isSorted m_leasts m_heads m_headFrom m_text m_typed m_at m_fault m_orders m_pointsThen m_letters m_numbers m_h) := hw
    obtain rfl := Option.some.inj h
    exact x_reti C hQ hA hw dX8_element_10
noncomputable def f_X8_isSet (m_now : (Nat → Int32)) (v1 : Int32) : Option (Int32) := xn (f_X8_in v1 (0 : Int32) (((1 : Int32) <<< ((m_now 0) &&& 31)) - (1 : Int32))) (fun (r_1 : Int32) => xk (r_1 = 0 ∨ r_1 = 1) (some r_1))
set_option maxHeartbeats 4000000 in
set_option maxRecDepth 100000 in
theorem c_X8_isSet (l : Launch) (dC : Nat → ClassId) (dI : Nat → Nat → Nat) (cI cZ cB cO : ClassId) (m_ad : Nat) (m_p : Nat → Nat) (m_now : (Nat → Int32)) (m_held : (Nat → Int32)) (m_past : (Nat → Int32)) (m_pasts : Int32) (m_refused : (Nat → Int32)) (m_figures : (Nat → Int32)) (m_isLaid : Int32) (m_many : Int32) (m_isMade : (Nat → Int32)) (m_made : (Nat → Int32)) (m_images : (Nat → Int32)) (m_orbits : (Nat → Int32)) (m_chains : (Nat → Int32)) (m_isCarried : (Nat → Int32)) (m_carried : (Nat → Int32)) (m_carriedMany : Int32) (m_isSorted : Int32) (m_leasts : (Nat → Int32)) (m_heads : (Nat → Int32)) (m_headFrom : (Nat → Int32)) (m_text : (Nat → Int32)) (m_typed : Int32) (m_at : Int32) (m_fault : Int32) (m_orders : Int32) (m_pointsThen : Int32) (m_letters : (Nat → Int32)) (m_numbers : (Nat → Int32)) (m_h : Int64) (v1 : Int32) (o : Int32) (h : f_X8_isSet m_now v1 = some o) (sz : Nat) : Met l yX8_isSet (xW yX8_isSet cX8_isSet 2 (some .boolean)) { frames := 1, cells := 0, slots := 0, locals := 22 } (xPre dC dI (xT cI cZ cB cO) [.ref m_ad, .int v1] (wM cI cZ cB cO m_ad m_p m_now m_held m_past m_pasts m_refused m_figures m_isLaid m_many m_isMade m_made m_images m_orbits m_chains m_isCarried m_carried m_carriedMany m_isSorted m_leasts m_heads m_headFrom m_text m_typed m_at m_fault m_orders m_pointsThen m_letters m_numbers m_h) sz) (xQi dC dI (xT cI cZ cB cO) o (wM cI cZ cB cO m_ad m_p m_now m_held m_past m_pasts m_refused m_figures m_isLaid m_many m_isMade m_made m_images m_orbits m_chains m_isCarried m_carried m_carriedMany m_isSorted m_leasts m_heads m_headFrom m_text m_typed m_at m_fault m_orders m_pointsThen m_letters m_numbers m_h) (wM cI cZ cB cO m_ad m_p m_now m_held m_past m_pasts m_refused m_figures m_isLaid m_many m_isMade m_made m_images m_orbits m_chains m_isCarried m_carried m_carriedMany m_isSorted m_leasts m_heads m_headFrom m_text m_typed m_at m_fault m_orders m_pointsThen m_letters m_numbers m_h) sz) 0 0 (va_A (wM cI cZ cB cO m_ad m_p m_now m_held m_past m_pasts m_refused m_figures m_isLaid m_many m_isMade m_made m_images m_orbits m_chains m_isCarried m_carried m_carriedMany m_isSorted m_leasts m_heads m_headFrom m_text m_typed m_at m_fault m_orders m_pointsThen m_letters m_numbers m_h) sz) := by
  refine x_met (by decide) (Nat.le_of_ble_eq_true rfl) ?_
  intro p e s m args below meth c R Q A hR hsz hA hQ hin C hw ls hl
  have hx := C.1
  have hb := C.2.1
  have hown := C.2.2.2.1
  have htb := C.2.2.2.2.1
  have hl : lv_has ls 2 [(0, .ref m_ad), (1, .int v1)] := hl
  refine lv_iload_n hx hb dX8_isSet_0 rfl (lv_at hl 1 rfl) ?_
  refine lv_iconst (v := (0 : Int32)) hx hb dX8_isSet_1 (by decide) ?_
  refine lv_iconst (v := (1 : Int32)) hx hb dX8_isSet_2 (by decide) ?_
  refine lv_aload_n hx hb dX8_isSet_3 rfl (lv_at hl 0 rfl) ?_
  refine x_get (ci := 7) C hw inX8 rfl 0 (by decide) lkF_X8_7 rfl 0 rfl rfl dX8_isSet_4 ?_
  refine lv_iconst (v := (0 : Int32)) hx hb dX8_isSet_7 (by decide) ?_
  refine x_ialk C hw 1 0 rfl rfl (k := 0) (by decide) (vp_in_iff.mpr (by decide)) dX8_isSet_8 ?_
  refine lv_ishl hx hb dX8_isSet_9 ?_
  refine lv_iconst (v := (1 : Int32)) hx hb dX8_isSet_10 (by decide) ?_
  refine lv_isub hx hb dX8_isSet_11 ?_
  obtain ⟨r_1, q1, h⟩ := xn_i h
  refine x_callSi (As := [.int v1, .int (0 : Int32), .int (((1 : Int32) <<< ((m_now 0) &&& 31)) - (1 : Int32))]) (rest := []) C hw gc_X8_84 ds_X8_in (by rw [hR]; exact Nat.le_of_ble_eq_true rfl) (by rw [hR]; exact Nat.le_of_ble_eq_true rfl) rfl rfl (Nat.zero_le _) (Nat.zero_le _) (c_X8_in l dC dI cI cZ cB cO v1 (0 : Int32) (((1 : Int32) <<< ((m_now 0) &&& 31)) - (1 : Int32)) _ q1 _) [] [0, 1, 2, 3, 4, 5, 6, 7, 8, 9, 10, 11, 12, 13, 14, 15, 16, 17, 18] (by decide) rfl rfl (by decide) (by decide) rfl hl.1 rfl (Nat.le_of_ble_eq_true rfl) dX8_isSet_12 (fun H locs hw => ?_)
  have hw : xWd (dC, dI) A s.heap H locs (wM cI cZ cB cO m_ad m_p m_now m_held m_past m_pasts m_refused m_figures m_isLaid m_many m_isMade m_made m_images m_orbits m_chains m_isCarried m_carried m_carriedMany m_isSorted m_leasts m_heads m_headFrom m_text m_typed m_at m_fault m_orders m_pointsThen m_letters m_numbers m_h) := hw.sub [0, 1, 2, 3, 4, 5, 6, 7, 8, 9, 10, 11, 12, 13, 14, 15, 16, 17, 18] (by decide) rfl
  obtain ⟨hz01, h⟩ := xk_i h
  obtain rfl := Option.some.inj h
  exact x_retz C hQ hA hw hz01 dX8_isSet_15
noncomputable def f_X8_imageOf_L1 (m_now : (Nat → Int32)) (v1 : Int32) (m_figures : (Nat → Int32)) (z : Int32 × Int32) : Option ((Int32 × Int32) ⊕ (Int32)) := match z with
  | (v2_1, v3_2) => xb ((m_now 0) ≤ v3_2) (some (.inr v2_1)) (xn (f_X8_has v1 v3_2) (fun (r_4 : Int32) => xb (r_4 = 0) (some (.inl ((v2_1 ||| (0 : Int32)), (v3_2 + (1 : Int32))))) (xk (vp_in v3_2 8) (some (.inl ((v2_1 ||| ((1 : Int32) <<< ((m_figures v3_2.toNatClampNeg) &&& 31))), (v3_2 + (1 : Int32))))))))
noncomputable def f_X8_imageOf (m_now : (Nat → Int32)) (m_figures : (Nat → Int32)) (v1 : Int32) : Option (Int32) := xn (xL (f_X8_imageOf_L1 m_now v1 m_figures) ((0 : Int32), (0 : Int32))) (fun (v2_3 : Int32) => some v2_3)
set_option maxHeartbeats 4000000 in
set_option maxRecDepth 100000 in
theorem c_X8_imageOf (l : Launch) (dC : Nat → ClassId) (dI : Nat → Nat → Nat) (cI cZ cB cO : ClassId) (m_ad : Nat) (m_p : Nat → Nat) (m_now : (Nat → Int32)) (m_held : (Nat → Int32)) (m_past : (Nat → Int32)) (m_pasts : Int32) (m_refused : (Nat → Int32)) (m_figures : (Nat → Int32)) (m_isLaid : Int32) (m_many : Int32) (m_isMade : (Nat → Int32)) (m_made : (Nat → Int32)) (m_images : (Nat → Int32)) (m_orbits : (Nat → Int32)) (m_chains : (Nat → Int32)) (m_isCarried : (Nat → Int32)) (m_carried : (Nat → Int32)) (m_carriedMany : Int32) (m_isSorted : Int32) (m_leasts : (Nat → Int32)) (m_heads : (Nat → Int32)) (m_headFrom : (Nat → Int32)) (m_text : (Nat → Int32)) (m_typed : Int32) (m_at : Int32) (m_fault : Int32) (m_orders : Int32) (m_pointsThen : Int32) (m_letters : (Nat → Int32)) (m_numbers : (Nat → Int32)) (m_h : Int64) (v1 : Int32) (o : Int32) (h : f_X8_imageOf m_now m_figures v1 = some o) (sz : Nat) : Met l yX8_imageOf (xW yX8_imageOf cX8_imageOf 4 (some .int)) { frames := 1, cells := 0, slots := 0, locals := 21 } (xPre dC dI (xT cI cZ cB cO) [.ref m_ad, .int v1] (wM cI cZ cB cO m_ad m_p m_now m_held m_past m_pasts m_refused m_figures m_isLaid m_many m_isMade m_made m_images m_orbits m_chains m_isCarried m_carried m_carriedMany m_isSorted m_leasts m_heads m_headFrom m_text m_typed m_at m_fault m_orders m_pointsThen m_letters m_numbers m_h) sz) (xQi dC dI (xT cI cZ cB cO) o (wM cI cZ cB cO m_ad m_p m_now m_held m_past m_pasts m_refused m_figures m_isLaid m_many m_isMade m_made m_images m_orbits m_chains m_isCarried m_carried m_carriedMany m_isSorted m_leasts m_heads m_headFrom m_text m_typed m_at m_fault m_orders m_pointsThen m_letters m_numbers m_h) (wM cI cZ cB cO m_ad m_p m_now m_held m_past m_pasts m_refused m_figures m_isLaid m_many m_isMade m_made m_images m_orbits m_chains m_isCarried m_carried m_carriedMany m_isSorted m_leasts m_heads m_headFrom m_text m_typed m_at m_fault m_orders m_pointsThen m_letters m_numbers m_h) sz) 0 0 (va_A (wM cI cZ cB cO m_ad m_p m_now m_held m_past m_pasts m_refused m_figures m_isLaid m_many m_isMade m_made m_images m_orbits m_chains m_isCarried m_carried m_carriedMany m_isSorted m_leasts m_heads m_headFrom m_text m_typed m_at m_fault m_orders m_pointsThen m_letters m_numbers m_h) sz) := by
  refine x_met (by decide) (Nat.le_of_ble_eq_true rfl) ?_
  intro p e s m args below meth c R Q A hR hsz hA hQ hin C hw ls hl
  have hx := C.1
  have hb := C.2.1
  have hown := C.2.2.2.1
  have htb := C.2.2.2.2.1
  have hl : lv_has ls 4 [(0, .ref m_ad), (1, .int v1)] := hl
  refine lv_iconst (v := (0 : Int32)) hx hb dX8_imageOf_0 (by decide) ?_
  refine lv_istore_n (lv' := [(2, .int (0 : Int32)), (0, .ref m_ad), (1, .int v1)]) hx hb dX8_imageOf_1 rfl hl (by decide) rfl (fun ls hl => ?_)
  refine lv_iconst (v := (0 : Int32)) hx hb dX8_imageOf_2 (by decide) ?_
  refine lv_istore_n (lv' := [(3, .int (0 : Int32)), (2, .int (0 : Int32)), (0, .ref m_ad), (1, .int v1)]) hx hb dX8_imageOf_3 rfl hl (by decide) rfl (fun ls hl => ?_)
  obtain ⟨z, hr, h⟩ := xn_i h
  refine xL_w (fun (z : Int32 × Int32) => ∀ (H : Heap) (locs : List Loc) (ls : Array Slot), xWd (dC, dI) A s.heap H locs (wM cI cZ cB cO m_ad m_p m_now m_held m_past m_pasts m_refused m_figures m_isLaid m_many m_isMade m_made m_images m_orbits m_chains m_isCarried m_carried m_carriedMany m_isSorted m_leasts m_heads m_headFrom m_text m_typed m_at m_fault m_orders m_pointsThen m_letters m_numbers m_h) → lv_has ls 4 [(0, .ref m_ad), (1, .int v1), (2, .int z.1), (3, .int z.2)] → W p l e R s m args below meth c H locs 0 0 Q (F0 m 4 ls [])) (fun (z : Int32) => ∀ (H : Heap) (locs : List Loc) (ls : Array Slot), xWd (dC, dI) A s.heap H locs (wM cI cZ cB cO m_ad m_p m_now m_held m_past m_pasts m_refused m_figures m_isLaid m_many m_isMade m_made m_images m_orbits m_chains m_isCarried m_carried m_carriedMany m_isSorted m_leasts m_heads m_headFrom m_text m_typed m_at m_fault m_orders m_pointsThen m_letters m_numbers m_h) → lv_has ls 4 [(2, .int z)] → W p l e R s m args below meth c H locs 0 0 Q (F0 m 43 ls [])) ?_ hr ?_ _ _ _ hw (lv_sub hl [2, 3, 1, 0] rfl)
  · rintro ⟨v2_1, v3_2⟩ o h k H locs ls hw hl
    have hw : xWd (dC, dI) A s.heap H locs (wM cI cZ cB cO m_ad m_p m_now m_held m_past m_pasts m_refused m_figures m_isLaid m_many m_isMade m_made m_images m_orbits m_chains m_isCarried m_carried m_carriedMany m_isSorted m_leasts m_heads m_headFrom m_text m_typed m_at m_fault m_orders m_pointsThen m_letters m_numbers m_h) := hw
    have hl : lv_has ls 4 [(0, .ref m_ad), (1, .int v1), (2, .int v2_1), (3, .int v3_2)] := hl
    refine lv_iload_n hx hb dX8_imageOf_4 rfl (lv_at hl 3 rfl) ?_
    refine lv_aload_n hx hb dX8_imageOf_5 rfl (lv_at hl 0 rfl) ?_
    refine x_get (ci := 7) C hw inX8 rfl 0 (by decide) lkF_X8_7 rfl 0 rfl rfl dX8_imageOf_6 ?_
    refine lv_iconst (v := (0 : Int32)) hx hb dX8_imageOf_9 (by decide) ?_
    refine x_ialk C hw 1 0 rfl rfl (k := 0) (by decide) (vp_in_iff.mpr (by decide)) dX8_imageOf_10 ?_
    refine lv_icmp_ge (tgt := 43) hx hb dX8_imageOf_11 (by decide) (fun b1 => ?_) (fun b1 => ?_)
    · replace h := xb_tt b1 h
      obtain rfl := Option.some.inj h
      exact k _ _ _ hw (lv_sub hl [2] rfl)
    · replace h := xb_ff b1 h
      refine lv_iload_n hx hb dX8_imageOf_14 rfl (lv_at hl 2 rfl) ?_
      refine lv_iload_n hx hb dX8_imageOf_15 rfl (lv_at hl 1 rfl) ?_
      refine lv_iload_n hx hb dX8_imageOf_16 rfl (lv_at hl 3 rfl) ?_
      obtain ⟨r_4, q2, h⟩ := xn_i h
      refine x_callSi (As := [.int v1, .int v3_2]) (rest := [.int v2_1]) C hw gc_X8_133 ds_X8_has (by rw [hR]; exact Nat.le_of_ble_eq_true rfl) (by rw [hR]; exact Nat.le_of_ble_eq_true rfl) rfl rfl (Nat.zero_le _) (Nat.zero_le _) (c_X8_has l dC dI cI cZ cB cO v1 v3_2 _ q2 _) [] [0, 1, 2, 3, 4, 5, 6, 7, 8, 9, 10, 11, 12, 13, 14, 15, 16, 17, 18] (by decide) rfl rfl (by decide) (by decide) rfl hl.1 rfl (Nat.le_of_ble_eq_true rfl) dX8_imageOf_17 (fun H locs hw => ?_)
      have hw : xWd (dC, dI) A s.heap H locs (wM cI cZ cB cO m_ad m_p m_now m_held m_past m_pasts m_refused m_figures m_isLaid m_many m_isMade m_made m_images m_orbits m_chains m_isCarried m_carried m_carriedMany m_isSorted m_leasts m_heads m_headFrom m_text m_typed m_at m_fault m_orders m_pointsThen m_letters m_numbers m_h) := hw.sub [0, 1, 2, 3, 4, 5, 6, 7, 8, 9, 10, 11, 12, 13, 14, 15, 16, 17, 18] (by decide) rfl
      refine lv_if_eq (tgt := 34) hx hb dX8_imageOf_20 (by decide) (fun b3 => ?_) (fun b3 => ?_)
      · replace h := xb_tt b3 h
        refine lv_iconst (v := (0 : Int32)) hx hb dX8_imageOf_34 (by decide) ?_
        refine lv_ior hx hb dX8_imageOf_35 ?_
        refine lv_istore_n (lv' := [(2, .int (v2_1 ||| (0 : Int32))), (0, .ref m_ad), (1, .int v1), (3, .int v3_2)]) hx hb dX8_imageOf_36 rfl hl (by decide) rfl (fun ls hl => ?_)
        refine lv_iinc (v := (v3_2 + (1 : Int32))) (lv' := [(3, .int (v3_2 + (1 : Int32))), (2, .int (v2_1 ||| (0 : Int32))), (0, .ref m_ad), (1, .int v1)]) hx hb dX8_imageOf_37 hl (k := 3) rfl (congrArg (fun q => v3_2 + q) (by decide)) (by decide) rfl (fun ls hl => ?_)
        refine lv_goto (tgt := 4) hx hb dX8_imageOf_40 (by decide) ?_
        obtain rfl := Option.some.inj h
        exact k _ _ _ hw (lv_sub hl [2, 3, 1, 0] rfl)
      · replace h := xb_ff b3 h
        refine lv_iconst (v := (1 : Int32)) hx hb dX8_imageOf_23 (by decide) ?_
        refine lv_aload_n hx hb dX8_imageOf_24 rfl (lv_at hl 0 rfl) ?_
        refine x_get (ci := 7) C hw inX8 rfl 5 (by decide) lkF_X8_22 rfl 0 rfl rfl dX8_imageOf_25 ?_
        refine lv_iload_n hx hb dX8_imageOf_28 rfl (lv_at hl 3 rfl) ?_
        obtain ⟨b4, h⟩ := xk_i h
        refine x_iald C hw 5 0 rfl rfl b4 dX8_imageOf_29 ?_
        refine lv_ishl hx hb dX8_imageOf_30 ?_
        refine lv_goto (tgt := 35) hx hb dX8_imageOf_31 (by decide) ?_
        refine lv_ior hx hb dX8_imageOf_35 ?_
        refine lv_istore_n (lv' := [(2, .int (v2_1 ||| ((1 : Int32) <<< ((m_figures v3_2.toNatClampNeg) &&& 31)))), (0, .ref m_ad), (1, .int v1), (3, .int v3_2)]) hx hb dX8_imageOf_36 rfl hl (by decide) rfl (fun ls hl => ?_)
        refine lv_iinc (v := (v3_2 + (1 : Int32))) (lv' := [(3, .int (v3_2 + (1 : Int32))), (2, .int (v2_1 ||| ((1 : Int32) <<< ((m_figures v3_2.toNatClampNeg) &&& 31)))), (0, .ref m_ad), (1, .int v1)]) hx hb dX8_imageOf_37 hl (k := 3) rfl (congrArg (fun q => v3_2 + q) (by decide)) (by decide) rfl (fun ls hl => ?_)
        refine lv_goto (tgt := 4) hx hb dX8_imageOf_40 (by decide) ?_
        obtain rfl := Option.some.inj h
        exact k _ _ _ hw (lv_sub hl [2, 3, 1, 0] rfl)
  · obtain ⟨v2_3, hz⟩ : ∃ q, q = z := ⟨z, rfl⟩
    subst hz
    intro H locs ls hw hl
    have hw : xWd (dC, dI) A s.heap H locs (wM cI cZ cB cO m_ad m_p m_now m_held m_past m_pasts m_refused m_figures m_isLaid m_many m_isMade m_made m_images m_orbits m_chains m_isCarried m_carried m_carriedMany m_isSorted m_leasts m_heads m_headFrom m_text m_typed m_at m_fault m_orders m_pointsThen m_letters m_numbers m_h) := hw
    have hl : lv_has ls 4 [(2, .int v2_3)] := hl
    refine lv_iload_n hx hb dX8_imageOf_43 rfl (lv_at hl 0 rfl) ?_
    obtain rfl := Option.some.inj h
    exact x_reti C hQ hA hw dX8_imageOf_44
noncomputable def f_X8_image (m_now : (Nat → Int32)) (m_refused : (Nat → Int32)) (m_figures : (Nat → Int32)) (v1 : Int32) (v2 : Int32) : Option ((Nat → Int32) × (Nat → Int32) × Int32) := xn (f_X8_isSet m_now v1) (fun (r_1 : Int32) => xb (r_1 = 0) (xn (f_X8_refuses m_refused (-2 : Int32)) (fun (z : (Nat → Int32) × Int32) => match z with | (m_refused_2, r_3) => some (m_refused_2, m_figures, r_3))) (xn (f_X8_isMove m_now m_figures v2) (fun (z : (Nat → Int32) × Int32) => match z with | (m_figures_4, r_5) => xb (r_5 = 0) (xn (f_X8_refuses m_refused (-2 : Int32)) (fun (z : (Nat → Int32) × Int32) => match z with | (m_refused_8, r_9) => some (m_refused_8, m_figures_4, r_9))) (xn (f_X8_open m_now m_figures_4 v2) (fun (m_figures_6 : (Nat → Int32)) => xn (f_X8_imageOf m_now m_figures_6 v1) (fun (r_7 : Int32) => some (m_refused, m_figures_6, r_7)))))))
set_option maxHeartbeats 4000000 in
set_option maxRecDepth 100000 in
theorem c_X8_image (l : Launch) (dC : Nat → ClassId) (dI : Nat → Nat → Nat) (cI cZ cB cO : ClassId) (m_ad : Nat) (m_p : Nat → Nat) (m_now : (Nat → Int32)) (m_held : (Nat → Int32)) (m_past : (Nat → Int32)) (m_pasts : Int32) (m_refused : (Nat → Int32)) (m_figures : (Nat → Int32)) (m_isLaid : Int32) (m_many : Int32) (m_isMade : (Nat → Int32)) (m_made : (Nat → Int32)) (m_images : (Nat → Int32)) (m_orbits : (Nat → Int32)) (m_chains : (Nat → Int32)) (m_isCarried : (Nat → Int32)) (m_carried : (Nat → Int32)) (m_carriedMany : Int32) (m_isSorted : Int32) (m_leasts : (Nat → Int32)) (m_heads : (Nat → Int32)) (m_headFrom : (Nat → Int32)) (m_text : (Nat → Int32)) (m_typed : Int32) (m_at : Int32) (m_fault : Int32) (m_orders : Int32) (m_pointsThen : Int32) (m_letters : (Nat → Int32)) (m_numbers : (Nat → Int32)) (m_h : Int64) (v1 : Int32) (v2 : Int32) (o : (Nat → Int32) × (Nat → Int32) × Int32) (h : f_X8_image m_now m_refused m_figures v1 v2 = some o) (sz : Nat) : Met l yX8_image (xW yX8_image cX8_image 3 (some .int)) { frames := 2, cells := 0, slots := 0, locals := 47 } (xPre dC dI (xT cI cZ cB cO) [.ref m_ad, .int v1, .int v2] (wM cI cZ cB cO m_ad m_p m_now m_held m_past m_pasts m_refused m_figures m_isLaid m_many m_isMade m_made m_images m_orbits m_chains m_isCarried m_carried m_carriedMany m_isSorted m_leasts m_heads m_headFrom m_text m_typed m_at m_fault m_orders m_pointsThen m_letters m_numbers m_h) sz) (xQi dC dI (xT cI cZ cB cO) o.2.2 (wM cI cZ cB cO m_ad m_p m_now m_held m_past m_pasts m_refused m_figures m_isLaid m_many m_isMade m_made m_images m_orbits m_chains m_isCarried m_carried m_carriedMany m_isSorted m_leasts m_heads m_headFrom m_text m_typed m_at m_fault m_orders m_pointsThen m_letters m_numbers m_h) (wM cI cZ cB cO m_ad m_p m_now m_held m_past m_pasts o.1 o.2.1 m_isLaid m_many m_isMade m_made m_images m_orbits m_chains m_isCarried m_carried m_carriedMany m_isSorted m_leasts m_heads m_headFrom m_text m_typed m_at m_fault m_orders m_pointsThen m_letters m_numbers m_h) sz) 0 0 (va_A (wM cI cZ cB cO m_ad m_p m_now m_held m_past m_pasts m_refused m_figures m_isLaid m_many m_isMade m_made m_images m_orbits m_chains m_isCarried m_carried m_carriedMany m_isSorted m_leasts m_heads m_headFrom m_text m_typed m_at m_fault m_orders m_pointsThen m_letters m_numbers m_h) sz) := by
  refine x_met (by decide) (Nat.le_of_ble_eq_true rfl) ?_
  intro p e s m args below meth c R Q A hR hsz hA hQ hin C hw ls hl
  have hx := C.1
  have hb := C.2.1
  have hown := C.2.2.2.1
  have htb := C.2.2.2.2.1
  have hl : lv_has ls 3 [(0, .ref m_ad), (1, .int v1), (2, .int v2)] := hl
  refine lv_aload_n hx hb dX8_image_0 rfl (lv_at hl 0 rfl) ?_
  refine lv_iload_n hx hb dX8_image_1 rfl (lv_at hl 1 rfl) ?_
  obtain ⟨r_1, q1, h⟩ := xn_i h
  refine x_callVi (As := [.int v1]) (rest := []) C hw gc_X8_144 ⟨rfl, rfl, ds_X8_isSet, (by rw [hR]; exact Nat.le_of_ble_eq_true rfl), (by rw [hR]; exact Nat.le_of_ble_eq_true rfl), Nat.zero_le _, Nat.zero_le _⟩ (c_X8_isSet l dC dI cI cZ cB cO m_ad m_p m_now m_held m_past m_pasts m_refused m_figures m_isLaid m_many m_isMade m_made m_images m_orbits m_chains m_isCarried m_carried m_carriedMany m_isSorted m_leasts m_heads m_headFrom m_text m_typed m_at m_fault m_orders m_pointsThen m_letters m_numbers m_h v1 _ q1 _) [0, 1, 2, 3, 4, 5, 6, 7, 8, 9, 10, 11, 12, 13, 14, 15, 16, 17, 18] [] (by decide) rfl rfl (by decide) (by decide) rfl rfl rfl hl.1 rfl (Nat.le_of_ble_eq_true rfl) dX8_image_2 (fun H locs hw => ?_)
  have hw : xWd (dC, dI) A s.heap H locs (wM cI cZ cB cO m_ad m_p m_now m_held m_past m_pasts m_refused m_figures m_isLaid m_many m_isMade m_made m_images m_orbits m_chains m_isCarried m_carried m_carriedMany m_isSorted m_leasts m_heads m_headFrom m_text m_typed m_at m_fault m_orders m_pointsThen m_letters m_numbers m_h) := hw
  refine lv_if_eq (tgt := 16) hx hb dX8_image_5 (by decide) (fun b2 => ?_) (fun b2 => ?_)
  · replace h := xb_tt b2 h
    refine lv_aload_n hx hb dX8_image_16 rfl (lv_at hl 0 rfl) ?_
    refine lv_bipush (v := (-2 : Int32)) hx hb dX8_image_17 (by decide) ?_
    obtain ⟨⟨m_refused_2, r_3⟩, q3, h⟩ := xn_i h
    refine x_callVi (As := [.int (-2 : Int32)]) (rest := []) C hw gc_X8_70 ⟨rfl, rfl, ds_X8_refuses, (by rw [hR]; exact Nat.le_of_ble_eq_true rfl), (by rw [hR]; exact Nat.le_of_ble_eq_true rfl), Nat.zero_le _, Nat.zero_le _⟩ (c_X8_refuses l dC dI cI cZ cB cO m_ad m_p m_now m_held m_past m_pasts m_refused m_figures m_isLaid m_many m_isMade m_made m_images m_orbits m_chains m_isCarried m_carried m_carriedMany m_isSorted m_leasts m_heads m_headFrom m_text m_typed m_at m_fault m_orders m_pointsThen m_letters m_numbers m_h (-2 : Int32) _ q3 _) [0, 1, 2, 3, 4, 5, 6, 7, 8, 9, 10, 11, 12, 13, 14, 15, 16, 17, 18] [] (by decide) rfl rfl (by decide) (by decide) rfl rfl rfl hl.1 rfl (Nat.le_of_ble_eq_true rfl) dX8_image_19 (fun H locs hw => ?_)
    have hw : xWd (dC, dI) A s.heap H locs (wM cI cZ cB cO m_ad m_p m_now m_held m_past m_pasts m_refused_2 m_figures m_isLaid m_many m_isMade m_made m_images m_orbits m_chains m_isCarried m_carried m_carriedMany m_isSorted m_leasts m_heads m_headFrom m_text m_typed m_at m_fault m_orders m_pointsThen m_letters m_numbers m_h) := hw
    obtain rfl := Option.some.inj h
    exact x_reti C hQ hA hw dX8_image_22
  · replace h := xb_ff b2 h
    refine lv_aload_n hx hb dX8_image_8 rfl (lv_at hl 0 rfl) ?_
    refine lv_iload_n hx hb dX8_image_9 rfl (lv_at hl 2 rfl) ?_
    obtain ⟨⟨m_figures_4, r_5⟩, q4, h⟩ := xn_i h
    refine x_callVi (As := [.int v2]) (rest := []) C hw gc_X8_92 ⟨rfl, rfl, ds_X8_isMove, (by rw [hR]; exact Nat.le_of_ble_eq_true rfl), (by rw [hR]; exact Nat.le_of_ble_eq_true rfl), Nat.zero_le _, Nat.zero_le _⟩ (c_X8_isMove l dC dI cI cZ cB cO m_ad m_p m_now m_held m_past m_pasts m_refused m_figures m_isLaid m_many m_isMade m_made m_images m_orbits m_chains m_isCarried m_carried m_carriedMany m_isSorted m_leasts m_heads m_headFrom m_text m_typed m_at m_fault m_orders m_pointsThen m_letters m_numbers m_h v2 _ q4 _) [0, 1, 2, 3, 4, 5, 6, 7, 8, 9, 10, 11, 12, 13, 14, 15, 16, 17, 18] [] (by decide) rfl rfl (by decide) (by decide) rfl rfl rfl hl.1 rfl (Nat.le_of_ble_eq_true rfl) dX8_image_10 (fun H locs hw => ?_)
    have hw : xWd (dC, dI) A s.heap H locs (wM cI cZ cB cO m_ad m_p m_now m_held m_past m_pasts m_refused m_figures_4 m_isLaid m_many m_isMade m_made m_images m_orbits m_chains m_isCarried m_carried m_carriedMany m_isSorted m_leasts m_heads m_headFrom m_text m_typed m_at m_fault m_orders m_pointsThen m_letters m_numbers m_h) := hw
    refine lv_if_ne (tgt := 23) hx hb dX8_image_13 (by decide) (fun b5 => ?_) (fun b5 => ?_)
    · replace h := xb_ff b5 h
      refine lv_aload_n hx hb dX8_image_23 rfl (lv_at hl 0 rfl) ?_
      refine lv_iload_n hx hb dX8_image_24 rfl (lv_at hl 2 rfl) ?_
      obtain ⟨m_figures_6, q6, h⟩ := xn_i h
      refine x_callVv (As := [.int v2]) (rest := []) C hw gc_X8_88 ⟨rfl, rfl, ds_X8_open, (by rw [hR]; exact Nat.le_of_ble_eq_true rfl), (by rw [hR]; exact Nat.le_of_ble_eq_true rfl), Nat.zero_le _, Nat.zero_le _⟩ (c_X8_open l dC dI cI cZ cB cO m_ad m_p m_now m_held m_past m_pasts m_refused m_figures_4 m_isLaid m_many m_isMade m_made m_images m_orbits m_chains m_isCarried m_carried m_carriedMany m_isSorted m_leasts m_heads m_headFrom m_text m_typed m_at m_fault m_orders m_pointsThen m_letters m_numbers m_h v2 _ q6 _) [0, 1, 2, 3, 4, 5, 6, 7, 8, 9, 10, 11, 12, 13, 14, 15, 16, 17, 18] [] (by decide) rfl rfl (by decide) (by decide) rfl rfl rfl hl.1 rfl (Nat.le_of_ble_eq_true rfl) dX8_image_25 (fun H locs hw => ?_)
      have hw : xWd (dC, dI) A s.heap H locs (wM cI cZ cB cO m_ad m_p m_now m_held m_past m_pasts m_refused m_figures_6 m_isLaid m_many m_isMade m_made m_images m_orbits m_chains m_isCarried m_carried m_carriedMany m_isSorted m_leasts m_heads m_headFrom m_text m_typed m_at m_fault m_orders m_pointsThen m_letters m_numbers m_h) := hw
      refine lv_aload_n hx hb dX8_image_28 rfl (lv_at hl 0 rfl) ?_
      refine lv_iload_n hx hb dX8_image_29 rfl (lv_at hl 1 rfl) ?_
      obtain ⟨r_7, q7, h⟩ := xn_i h
      refine x_callVi (As := [.int v1]) (rest := []) C hw gc_X8_147 ⟨rfl, rfl, ds_X8_imageOf, (by rw [hR]; exact Nat.le_of_ble_eq_true rfl), (by rw [hR]; exact Nat.le_of_ble_eq_true rfl), Nat.zero_le _, Nat.zero_le _⟩ (c_X8_imageOf l dC dI cI cZ cB cO m_ad m_p m_now m_held m_past m_pasts m_refused m_figures_6 m_isLaid m_many m_isMade m_made m_images m_orbits m_chains m_isCarried m_carried m_carriedMany m_isSorted m_leasts m_heads m_headFrom m_text m_typed m_at m_fault m_orders m_pointsThen m_letters m_numbers m_h v1 _ q7 _) [0, 1, 2, 3, 4, 5, 6, 7, 8, 9, 10, 11, 12, 13, 14, 15, 16, 17, 18] [] (by decide) rfl rfl (by decide) (by decide) rfl rfl rfl hl.1 rfl (Nat.le_of_ble_eq_true rfl) dX8_image_30 (fun H locs hw => ?_)
      have hw : xWd (dC, dI) A s.heap H locs (wM cI cZ cB cO m_ad m_p m_now m_held m_past m_pasts m_refused m_figures_6 m_isLaid m_many m_isMade m_made m_images m_orbits m_chains m_isCarried m_carried m_carriedMany m_isSorted m_leasts m_heads m_headFrom m_text m_typed m_at m_fault m_orders m_pointsThen m_letters m_numbers m_h) := hw
      obtain rfl := Option.some.inj h
      exact x_reti C hQ hA hw dX8_image_33
    · replace h := xb_tt b5 h
      refine lv_aload_n hx hb dX8_image_16 rfl (lv_at hl 0 rfl) ?_
      refine lv_bipush (v := (-2 : Int32)) hx hb dX8_image_17 (by decide) ?_
      obtain ⟨⟨m_refused_8, r_9⟩, q8, h⟩ := xn_i h
      refine x_callVi (As := [.int (-2 : Int32)]) (rest := []) C hw gc_X8_70 ⟨rfl, rfl, ds_X8_refuses, (by rw [hR]; exact Nat.le_of_ble_eq_true rfl), (by rw [hR]; exact Nat.le_of_ble_eq_true rfl), Nat.zero_le _, Nat.zero_le _⟩ (c_X8_refuses l dC dI cI cZ cB cO m_ad m_p m_now m_held m_past m_pasts m_refused m_figures_4 m_isLaid m_many m_isMade m_made m_images m_orbits m_chains m_isCarried m_carried m_carriedMany m_isSorted m_leasts m_heads m_headFrom m_text m_typed m_at m_fault m_orders m_pointsThen m_letters m_numbers m_h (-2 : Int32) _ q8 _) [0, 1, 2, 3, 4, 5, 6, 7, 8, 9, 10, 11, 12, 13, 14, 15, 16, 17, 18] [] (by decide) rfl rfl (by decide) (by decide) rfl rfl rfl hl.1 rfl (Nat.le_of_ble_eq_true rfl) dX8_image_19 (fun H locs hw => ?_)
      have hw : xWd (dC, dI) A s.heap H locs (wM cI cZ cB cO m_ad m_p m_now m_held m_past m_pasts m_refused_8 m_figures_4 m_isLaid m_many m_isMade m_made m_images m_orbits m_chains m_isCarried m_carried m_carriedMany m_isSorted m_leasts m_heads m_headFrom m_text m_typed m_at m_fault m_orders m_pointsThen m_letters m_numbers m_h) := hw
      obtain rfl := Option.some.inj h
      exact x_reti C hQ hA hw dX8_image_22
noncomputable def f_X8_carry (m_isCarried : (Nat → Int32)) (m_carried : (Nat → Int32)) (m_carriedMany : Int32) (v1 : Int32) : Option ((Nat → Int32) × (Nat → Int32) × Int32) := xk (vp_in v1 256) (xb ((m_isCarried v1.toNatClampNeg) = 0) (xk (vp_in m_carriedMany 256) (some ((upd m_isCarried v1.toNatClampNeg (1 : Int32)), (upd m_carried m_carriedMany.toNatClampNeg v1), (m_carriedMany + (1 : Int32))))) (some (m_isCarried, m_carried, m_carriedMany)))
set_option maxHeartbeats 4000000 in
set_option maxRecDepth 100000 in
theorem c_X8_carry (l : Launch) (dC : Nat → ClassId) (dI : Nat → Nat → Nat) (cI cZ cB cO : ClassId) (m_ad : Nat) (m_p : Nat → Nat) (m_now : (Nat → Int32)) (m_held : (Nat → Int32)) (m_past : (Nat → Int32)) (m_pasts : Int32) (m_refused : (Nat → Int32)) (m_figures : (Nat → Int32)) (m_isLaid : Int32) (m_many : Int32) (m_isMade : (Nat → Int32)) (m_made : (Nat → Int32)) (m_images : (Nat → Int32)) (m_orbits : (Nat → Int32)) (m_chains : (Nat → Int32)) (m_isCarried : (Nat → Int32)) (m_carried : (Nat → Int32)) (m_carriedMany : Int32) (m_isSorted : Int32) (m_leasts : (Nat → Int32)) (m_heads : (Nat → Int32)) (m_headFrom : (Nat → Int32)) (m_text : (Nat → Int32)) (m_typed : Int32) (m_at : Int32) (m_fault : Int32) (m_orders : Int32) (m_pointsThen : Int32) (m_letters : (Nat → Int32)) (m_numbers : (Nat → Int32)) (m_h : Int64) (v1 : Int32) (o : (Nat → Int32) × (Nat → Int32) × Int32) (h : f_X8_carry m_isCarried m_carried m_carriedMany v1 = some o) (sz : Nat) : Met l yX8_carry (xW yX8_carry cX8_carry 2 none) { frames := 0, cells := 0, slots := 0, locals := 0 } (xPre dC dI (xT cI cZ cB cO) [.ref m_ad, .int v1] (wM cI cZ cB cO m_ad m_p m_now m_held m_past m_pasts m_refused m_figures m_isLaid m_many m_isMade m_made m_images m_orbits m_chains m_isCarried m_carried m_carriedMany m_isSorted m_leasts m_heads m_headFrom m_text m_typed m_at m_fault m_orders m_pointsThen m_letters m_numbers m_h) sz) (xQv dC dI (xT cI cZ cB cO) (wM cI cZ cB cO m_ad m_p m_now m_held m_past m_pasts m_refused m_figures m_isLaid m_many m_isMade m_made m_images m_orbits m_chains m_isCarried m_carried m_carriedMany m_isSorted m_leasts m_heads m_headFrom m_text m_typed m_at m_fault m_orders m_pointsThen m_letters m_numbers m_h) (wM cI cZ cB cO m_ad m_p m_now m_held m_past m_pasts m_refused m_figures m_isLaid m_many m_isMade m_made m_images m_orbits m_chains o.1 o.2.1 o.2.2 m_isSorted m_leasts m_heads m_headFrom m_text m_typed m_at m_fault m_orders m_pointsThen m_letters m_numbers m_h) sz) 0 0 (va_A (wM cI cZ cB cO m_ad m_p m_now m_held m_past m_pasts m_refused m_figures m_isLaid m_many m_isMade m_made m_images m_orbits m_chains m_isCarried m_carried m_carriedMany m_isSorted m_leasts m_heads m_headFrom m_text m_typed m_at m_fault m_orders m_pointsThen m_letters m_numbers m_h) sz) := by
  refine x_met (by decide) (Nat.le_of_ble_eq_true rfl) ?_
  intro p e s m args below meth c R Q A hR hsz hA hQ hin C hw ls hl
  have hx := C.1
  have hb := C.2.1
  have hown := C.2.2.2.1
  have htb := C.2.2.2.2.1
  have hl : lv_has ls 2 [(0, .ref m_ad), (1, .int v1)] := hl
  refine lv_aload_n hx hb dX8_carry_0 rfl (lv_at hl 0 rfl) ?_
  refine x_get (ci := 7) C hw inX8 rfl 13 (by decide) lkF_X8_42 rfl 0 rfl rfl dX8_carry_1 ?_
  refine lv_iload_n hx hb dX8_carry_4 rfl (lv_at hl 1 rfl) ?_
  obtain ⟨b1, h⟩ := xk_i h
  refine x_zald C hw 11 1 rfl rfl b1 dX8_carry_5 ?_
  refine lv_if_ne (tgt := 36) hx hb dX8_carry_6 (by decide) (fun b2 => ?_) (fun b2 => ?_)
  · replace h := xb_ff b2 h
    obtain rfl := Option.some.inj h
    exact x_retv C hQ hA hw dX8_carry_36
  · replace h := xb_tt b2 h
    refine lv_aload_n hx hb dX8_carry_9 rfl (lv_at hl 0 rfl) ?_
    refine x_get (ci := 7) C hw inX8 rfl 13 (by decide) lkF_X8_42 rfl 0 rfl rfl dX8_carry_10 ?_
    refine lv_iload_n hx hb dX8_carry_13 rfl (lv_at hl 1 rfl) ?_
    refine lv_iconst (v := (1 : Int32)) hx hb dX8_carry_14 (by decide) ?_
    refine x_zast C hw 11 1 rfl rfl rfl b1 dX8_carry_15 (fun H locs hw => ?_)
    have hw : xWd (dC, dI) A s.heap H locs (wM cI cZ cB cO m_ad m_p m_now m_held m_past m_pasts m_refused m_figures m_isLaid m_many m_isMade m_made m_images m_orbits m_chains (upd m_isCarried v1.toNatClampNeg (1 : Int32)) m_carried m_carriedMany m_isSorted m_leasts m_heads m_headFrom m_text m_typed m_at m_fault m_orders m_pointsThen m_letters m_numbers m_h) := hw
    refine lv_aload_n hx hb dX8_carry_16 rfl (lv_at hl 0 rfl) ?_
    refine x_get (ci := 7) C hw inX8 rfl 14 (by decide) lkF_X8_45 rfl 0 rfl rfl dX8_carry_17 ?_
    refine lv_aload_n hx hb dX8_carry_20 rfl (lv_at hl 0 rfl) ?_
    refine x_get (ci := 7) C hw inX8 rfl 15 (by decide) lkF_X8_150 rfl 0 rfl rfl dX8_carry_21 ?_
    refine lv_iload_n hx hb dX8_carry_24 rfl (lv_at hl 1 rfl) ?_
    obtain ⟨b3, h⟩ := xk_i h
    refine x_iast C hw 12 0 rfl rfl b3 dX8_carry_25 (fun H locs hw => ?_)
    have hw : xWd (dC, dI) A s.heap H locs (wM cI cZ cB cO m_ad m_p m_now m_held m_past m_pasts m_refused m_figures m_isLaid m_many m_isMade m_made m_images m_orbits m_chains (upd m_isCarried v1.toNatClampNeg (1 : Int32)) (upd m_carried m_carriedMany.toNatClampNeg v1) m_carriedMany m_isSorted m_leasts m_heads m_headFrom m_text m_typed m_at m_fault m_orders m_pointsThen m_letters m_numbers m_h) := hw
    refine lv_aload_n hx hb dX8_carry_26 rfl (lv_at hl 0 rfl) ?_
    refine lv_dup hx hb dX8_carry_27 rfl ?_
    refine x_get (ci := 7) C hw inX8 rfl 15 (by decide) lkF_X8_150 rfl 0 rfl rfl dX8_carry_28 ?_
    refine lv_iconst (v := (1 : Int32)) hx hb dX8_carry_31 (by decide) ?_
    refine lv_iadd hx hb dX8_carry_32 ?_
    refine x_put (ci := 7) C hw inX8 tyX8 tyX8_ok nmX8 rfl 15 (by decide) lkF_X8_150 rfl rfl 0 rfl rfl rfl (Nat.le_of_ble_eq_true rfl) dX8_carry_33 (fun H locs hw => ?_)
    have hw : xWd (dC, dI) A s.heap H locs (wM cI cZ cB cO m_ad m_p m_now m_held m_past m_pasts m_refused m_figures m_isLaid m_many m_isMade m_made m_images m_orbits m_chains (upd m_isCarried v1.toNatClampNeg (1 : Int32)) (upd m_carried m_carriedMany.toNatClampNeg v1) (m_carriedMany + (1 : Int32)) m_isSorted m_leasts m_heads m_headFrom m_text m_typed m_at m_fault m_orders m_pointsThen m_letters m_numbers m_h) := hw
    obtain rfl := Option.some.inj h
    exact x_retv C hQ hA hw dX8_carry_36
noncomputable def f_X8_findImages_L3 (m_now : (Nat → Int32)) (v2_11 : Int32) (z : (Nat → Int32) × (Nat → Int32) × (Nat → Int32) × Int32 × Int32) : Option (((Nat → Int32) × (Nat → Int32) × (Nat → Int32) × Int32 × Int32) ⊕ ((Nat → Int32) × (Nat → Int32) × (Nat → Int32) × Int32)) := match z with
  | (m_figures_16, m_isCarried_17, m_carried_18, m_carriedMany_19, v3_20) => xb ((m_now 1) ≤ v3_20) (some (.inr (m_figures_16, m_isCarried_17, m_carried_18, m_carriedMany_19))) (xk (vp_in ((2 : Int32) + v3_20) 5) (xn (f_X8_open m_now m_figures_16 (m_now ((2 : Int32) + v3_20).toNatClampNeg)) (fun (m_figures_25 : (Nat → Int32)) => xk (vp_in v2_11 256) (xn (f_X8_imageOf m_now m_figures_25 (m_carried_18 v2_11.toNatClampNeg)) (fun (r_26 : Int32) => xn (f_X8_carry m_isCarried_17 m_carried_18 m_carriedMany_19 r_26) (fun (z : (Nat → Int32) × (Nat → Int32) × Int32) => match z with | (m_isCarried_27, m_carried_28, m_carriedMany_29) => some (.inl (m_figures_25, m_isCarried_27, m_carried_28, m_carriedMany_29, (v3_20 + (1 : Int32))))))))))
noncomputable def f_X8_findImages_L4 (m_isCarried_13 : (Nat → Int32)) (z : (Nat → Int32) × Int32 × Int32) : Option (((Nat → Int32) × Int32 × Int32) ⊕ ((Nat → Int32))) := match z with
  | (m_carried_30, v2_31, v3_32) => xb (v3_32 < 0) (some (.inr m_carried_30)) (xn (f_X8_turned v3_32) (fun (r_34 : Int32) => xk (vp_in r_34 256) (xb ((m_isCarried_13 r_34.toNatClampNeg) = 0) (some (.inl (m_carried_30, v2_31, (v3_32 + (-1 : Int32))))) (xn (f_X8_turned v3_32) (fun (r_35 : Int32) => xk (vp_in v2_31 256) (some (.inl ((upd m_carried_30 v2_31.toNatClampNeg r_35), (v2_31 + (1 : Int32)), (v3_32 + (-1 : Int32))))))))))
noncomputable def f_X8_findImages_L2 (m_now : (Nat → Int32)) (z : (Nat → Int32) × (Nat → Int32) × (Nat → Int32) × Int32 × Int32) : Option (((Nat → Int32) × (Nat → Int32) × (Nat → Int32) × Int32 × Int32) ⊕ ((Nat → Int32) × (Nat → Int32) × (Nat → Int32) × Int32)) := match z with
  | (m_figures_7, m_isCarried_8, m_carried_9, m_carriedMany_10, v2_11) => xb (m_carriedMany_10 ≤ v2_11) (some (.inr (m_figures_7, m_isCarried_8, m_carried_9, m_carriedMany_10))) (xn (xL (f_X8_findImages_L3 m_now v2_11) (m_figures_7, m_isCarried_8, m_carried_9, m_carriedMany_10, (0 : Int32))) (fun (z : (Nat → Int32) × (Nat → Int32) × (Nat → Int32) × Int32) => match z with | (m_figures_21, m_isCarried_22, m_carried_23, m_carriedMany_24) => some (.inl (m_figures_21, m_isCarried_22, m_carried_23, m_carriedMany_24, (v2_11 + (1 : Int32))))))
noncomputable def f_X8_findImages_L1  (z : (Nat → Int32) × Int32) : Option (((Nat → Int32) × Int32) ⊕ ((Nat → Int32))) := match z with
  | (m_isCarried_1, v2_2) => xb ((256 : Int32) ≤ v2_2) (some (.inr m_isCarried_1)) (xk (vp_in v2_2 256) (some (.inl ((upd m_isCarried_1 v2_2.toNatClampNeg (0 : Int32)), (v2_2 + (1 : Int32))))))
noncomputable def f_X8_findImages (m_now : (Nat → Int32)) (m_figures : (Nat → Int32)) (m_isCarried : (Nat → Int32)) (m_carried : (Nat → Int32)) (m_carriedMany : Int32) (v1 : Int32) : Option ((Nat → Int32) × (Nat → Int32) × (Nat → Int32) × Int32) := xn (xL f_X8_findImages_L1 (m_isCarried, (0 : Int32))) (fun (m_isCarried_3 : (Nat → Int32)) => xn (f_X8_carry m_isCarried_3 m_carried (0 : Int32) v1) (fun (z : (Nat → Int32) × (Nat → Int32) × Int32) => match z with | (m_isCarried_4, m_carried_5, m_carriedMany_6) => xn (xL (f_X8_findImages_L2 m_now) (m_figures, m_isCarried_4, m_carried_5, m_carriedMany_6, (0 : Int32))) (fun (z : (Nat → Int32) × (Nat → Int32) × (Nat → Int32) × Int32) => match z with | (m_figures_12, m_isCarried_13, m_carried_14, m_carriedMany_15) => xn (xL (f_X8_findImages_L4 m_isCarried_13) (m_carried_14, (0 : Int32), (255 : Int32))) (fun (m_carried_33 : (Nat → Int32)) => some (m_figures_12, m_isCarried_13, m_carried_33, m_carriedMany_15)))))
set_option maxHeartbeats 4000000 in
set_option maxRecDepth 100000 in
theorem c_X8_findImages (l : Launch) (dC : Nat → ClassId) (dI : Nat → Nat → Nat) (cI cZ cB cO : ClassId) (m_ad : Nat) (m_p : Nat → Nat) (m_now : (Nat → Int32)) (m_held : (Nat → Int32)) (m_past : (Nat → Int32)) (m_pasts : Int32) (m_refused : (Nat → Int32)) (m_figures : (Nat → Int32)) (m_isLaid : Int32) (m_many : Int32) (m_isMade : (Nat → Int32)) (m_made : (Nat → Int32)) (m_images : (Nat → Int32)) (m_orbits : (Nat → Int32)) (m_chains : (Nat → Int32)) (m_isCarried : (Nat → Int32)) (m_carried : (Nat → Int32)) (m_carriedMany : Int32) (m_isSorted : Int32) (m_leasts : (Nat → Int32)) (m_heads : (Nat → Int32)) (m_headFrom : (Nat → Int32)) (m_text : (Nat → Int32)) (m_typed : Int32) (m_at : Int32) (m_fault : Int32) (m_orders : Int32) (m_pointsThen : Int32) (m_letters : (Nat → Int32)) (m_numbers : (Nat → Int32)) (m_h : Int64) (v1 : Int32) (o : (Nat → Int32) × (Nat → Int32) × (Nat → Int32) × Int32) (h : f_X8_findImages m_now m_figures m_isCarried m_carried m_carriedMany v1 = some o) (sz : Nat) : Met l yX8_findImages (xW yX8_findImages cX8_findImages 4 none) { frames := 2, cells := 0, slots := 0, locals := 44 } (xPre dC dI (xT cI cZ cB cO) [.ref m_ad, .int v1] (wM cI cZ cB cO m_ad m_p m_now m_held m_past m_pasts m_refused m_figures m_isLaid m_many m_isMade m_made m_images m_orbits m_chains m_isCarried m_carried m_carriedMany m_isSorted m_leasts m_heads m_headFrom m_text m_typed m_at m_fault m_orders m_pointsThen m_letters m_numbers m_h) sz) (xQv dC dI (xT cI cZ cB cO) (wM cI cZ cB cO m_ad m_p m_now m_held m_past m_pasts m_refused m_figures m_isLaid m_many m_isMade m_made m_images m_orbits m_chains m_isCarried m_carried m_carriedMany m_isSorted m_leasts m_heads m_headFrom m_text m_typed m_at m_fault m_orders m_pointsThen m_letters m_numbers m_h) (wM cI cZ cB cO m_ad m_p m_now m_held m_past m_pasts m_refused o.1 m_isLaid m_many m_isMade m_made m_images m_orbits m_chains o.2.1 o.2.2.1 o.2.2.2 m_isSorted m_leasts m_heads m_headFrom m_text m_typed m_at m_fault m_orders m_pointsThen m_letters m_numbers m_h) sz) 0 0 (va_A (wM cI cZ cB cO m_ad m_p m_now m_held m_past m_pasts m_refused m_figures m_isLaid m_many m_isMade m_made m_images m_orbits m_chains m_isCarried m_carried m_carriedMany m_isSorted m_leasts m_heads m_headFrom m_text m_typed m_at m_fault m_orders m_pointsThen m_letters m_numbers m_h) sz) := by
  refine x_met (by decide) (Nat.le_of_ble_eq_true rfl) ?_
  intro p e s m args below meth c R Q A hR hsz hA hQ hin C hw ls hl
  have hx := C.1
  have hb := C.2.1
  have hown := C.2.2.2.1
  have htb := C.2.2.2.2.1
  have hl : lv_has ls 4 [(0, .ref m_ad), (1, .int v1)] := hl
  refine lv_iconst (v := (0 : Int32)) hx hb dX8_findImages_0 (by decide) ?_
  refine lv_istore_n (lv' := [(2, .int (0 : Int32)), (0, .ref m_ad), (1, .int v1)]) hx hb dX8_findImages_1 rfl hl (by decide) rfl (fun ls hl => ?_)
  obtain ⟨z, hr, h⟩ := xn_i h
  refine xL_w (fun (z : (Nat → Int32) × Int32) => ∀ (H : Heap) (locs : List Loc) (ls : Array Slot), xWd (dC, dI) A s.heap H locs (wM cI cZ cB cO m_ad m_p m_now m_held m_past m_pasts m_refused m_figures m_isLaid m_many m_isMade m_made m_images m_orbits m_chains z.1 m_carried m_carriedMany m_isSorted m_leasts m_heads m_headFrom m_text m_typed m_at m_fault m_orders m_pointsThen m_letters m_numbers m_h) → lv_has ls 4 [(0, .ref m_ad), (1, .int v1), (2, .int z.2)] → W p l e R s m args below meth c H locs 0 0 Q (F0 m 2 ls [])) (fun (z : (Nat → Int32)) => ∀ (H : Heap) (locs : List Loc) (ls : Array Slot), xWd (dC, dI) A s.heap H locs (wM cI cZ cB cO m_ad m_p m_now m_held m_past m_pasts m_refused m_figures m_isLaid m_many m_isMade m_made m_images m_orbits m_chains z m_carried m_carriedMany m_isSorted m_leasts m_heads m_headFrom m_text m_typed m_at m_fault m_orders m_pointsThen m_letters m_numbers m_h) → lv_has ls 4 [(0, .ref m_ad), (1, .int v1)] → W p l e R s m args below meth c H locs 0 0 Q (F0 m 22 ls [])) ?_ hr ?_ _ _ _ hw (lv_sub hl [1, 2, 0] rfl)
  · rintro ⟨m_isCarried_1, v2_2⟩ o h k H locs ls hw hl
    have hw : xWd (dC, dI) A s.heap H locs (wM cI cZ cB cO m_ad m_p m_now m_held m_past m_pasts m_refused m_figures m_isLaid m_many m_isMade m_made m_images m_orbits m_chains m_isCarried_1 m_carried m_carriedMany m_isSorted m_leasts m_heads m_headFrom m_text m_typed m_at m_fault m_orders m_pointsThen m_letters m_numbers m_h) := hw
    have hl : lv_has ls 4 [(0, .ref m_ad), (1, .int v1), (2, .int v2_2)] := hl
    refine lv_iload_n hx hb dX8_findImages_2 rfl (lv_at hl 2 rfl) ?_
    refine lv_sipush (v := (256 : Int32)) hx hb dX8_findImages_3 (by decide) ?_
    refine lv_icmp_ge (tgt := 22) hx hb dX8_findImages_6 (by decide) (fun b1 => ?_) (fun b1 => ?_)
    · replace h := xb_tt b1 h
      obtain rfl := Option.some.inj h
      exact k _ _ _ hw (lv_sub hl [0, 1] rfl)
    · replace h := xb_ff b1 h
      refine lv_aload_n hx hb dX8_findImages_9 rfl (lv_at hl 0 rfl) ?_
      refine x_get (ci := 7) C hw inX8 rfl 13 (by decide) lkF_X8_42 rfl 0 rfl rfl dX8_findImages_10 ?_
      refine lv_iload_n hx hb dX8_findImages_13 rfl (lv_at hl 2 rfl) ?_
      refine lv_iconst (v := (0 : Int32)) hx hb dX8_findImages_14 (by decide) ?_
      obtain ⟨b2, h⟩ := xk_i h
      refine x_zast C hw 11 1 rfl rfl rfl b2 dX8_findImages_15 (fun H locs hw => ?_)
      have hw : xWd (dC, dI) A s.heap H locs (wM cI cZ cB cO m_ad m_p m_now m_held m_past m_pasts m_refused m_figures m_isLaid m_many m_isMade m_made m_images m_orbits m_chains (upd m_isCarried_1 v2_2.toNatClampNeg (0 : Int32)) m_carried m_carriedMany m_isSorted m_leasts m_heads m_headFrom m_text m_typed m_at m_fault m_orders m_pointsThen m_letters m_numbers m_h) := hw
      refine lv_iinc (v := (v2_2 + (1 : Int32))) (lv' := [(2, .int (v2_2 + (1 : Int32))), (0, .ref m_ad), (1, .int v1)]) hx hb dX8_findImages_16 hl (k := 2) rfl (congrArg (fun q => v2_2 + q) (by decide)) (by decide) rfl (fun ls hl => ?_)
      refine lv_goto (tgt := 2) hx hb dX8_findImages_19 (by decide) ?_
      obtain rfl := Option.some.inj h
      exact k _ _ _ hw (lv_sub hl [1, 2, 0] rfl)
  · obtain ⟨m_isCarried_3, hz⟩ : ∃ q, q = z := ⟨z, rfl⟩
    subst hz
    intro H locs ls hw hl
    have hw : xWd (dC, dI) A s.heap H locs (wM cI cZ cB cO m_ad m_p m_now m_held m_past m_pasts m_refused m_figures m_isLaid m_many m_isMade m_made m_images m_orbits m_chains m_isCarried_3 m_carried m_carriedMany m_isSorted m_leasts m_heads m_headFrom m_text m_typed m_at m_fault m_orders m_pointsThen m_letters m_numbers m_h) := hw
    have hl : lv_has ls 4 [(0, .ref m_ad), (1, .int v1)] := hl
    refine lv_aload_n hx hb dX8_findImages_22 rfl (lv_at hl 0 rfl) ?_
    refine lv_iconst (v := (0 : Int32)) hx hb dX8_findImages_23 (by decide) ?_
    refine x_put (ci := 7) C hw inX8 tyX8 tyX8_ok nmX8 rfl 15 (by decide) lkF_X8_150 rfl rfl 0 rfl rfl rfl (Nat.le_of_ble_eq_true rfl) dX8_findImages_24 (fun H locs hw => ?_)
    have hw : xWd (dC, dI) A s.heap H locs (wM cI cZ cB cO m_ad m_p m_now m_held m_past m_pasts m_refused m_figures m_isLaid m_many m_isMade m_made m_images m_orbits m_chains m_isCarried_3 m_carried (0 : Int32) m_isSorted m_leasts m_heads m_headFrom m_text m_typed m_at m_fault m_orders m_pointsThen m_letters m_numbers m_h) := hw
    refine lv_aload_n hx hb dX8_findImages_27 rfl (lv_at hl 0 rfl) ?_
    refine lv_iload_n hx hb dX8_findImages_28 rfl (lv_at hl 1 rfl) ?_
    obtain ⟨⟨m_isCarried_4, m_carried_5, m_carriedMany_6⟩, q3, h⟩ := xn_i h
    refine x_callVv (As := [.int v1]) (rest := []) C hw gc_X8_153 ⟨rfl, rfl, ds_X8_carry, (by rw [hR]; exact Nat.le_of_ble_eq_true rfl), (by rw [hR]; exact Nat.le_of_ble_eq_true rfl), Nat.zero_le _, Nat.zero_le _⟩ (c_X8_carry l dC dI cI cZ cB cO m_ad m_p m_now m_held m_past m_pasts m_refused m_figures m_isLaid m_many m_isMade m_made m_images m_orbits m_chains m_isCarried_3 m_carried (0 : Int32) m_isSorted m_leasts m_heads m_headFrom m_text m_typed m_at m_fault m_orders m_pointsThen m_letters m_numbers m_h v1 _ q3 _) [0, 1, 2, 3, 4, 5, 6, 7, 8, 9, 10, 11, 12, 13, 14, 15, 16, 17, 18] [] (by decide) rfl rfl (by decide) (by decide) rfl rfl rfl hl.1 rfl (Nat.le_of_ble_eq_true rfl) dX8_findImages_29 (fun H locs hw => ?_)
    have hw : xWd (dC, dI) A s.heap H locs (wM cI cZ cB cO m_ad m_p m_now m_held m_past m_pasts m_refused m_figures m_isLaid m_many m_isMade m_made m_images m_orbits m_chains m_isCarried_4 m_carried_5 m_carriedMany_6 m_isSorted m_leasts m_heads m_headFrom m_text m_typed m_at m_fault m_orders m_pointsThen m_letters m_numbers m_h) := hw
    refine lv_iconst (v := (0 : Int32)) hx hb dX8_findImages_32 (by decide) ?_
    refine lv_istore_n (lv' := [(2, .int (0 : Int32)), (0, .ref m_ad), (1, .int v1)]) hx hb dX8_findImages_33 rfl hl (by decide) rfl (fun ls hl => ?_)
    obtain ⟨z, hr, h⟩ := xn_i h
    refine xL_w (fun (z : (Nat → Int32) × (Nat → Int32) × (Nat → Int32) × Int32 × Int32) => ∀ (H : Heap) (locs : List Loc) (ls : Array Slot), xWd (dC, dI) A s.heap H locs (wM cI cZ cB cO m_ad m_p m_now m_held m_past m_pasts m_refused z.1 m_isLaid m_many m_isMade m_made m_images m_orbits m_chains z.2.1 z.2.2.1 z.2.2.2.1 m_isSorted m_leasts m_heads m_headFrom m_text m_typed m_at m_fault m_orders m_pointsThen m_letters m_numbers m_h) → lv_has ls 4 [(0, .ref m_ad), (2, .int z.2.2.2.2)] → W p l e R s m args below meth c H locs 0 0 Q (F0 m 34 ls [])) (fun (z : (Nat → Int32) × (Nat → Int32) × (Nat → Int32) × Int32) => ∀ (H : Heap) (locs : List Loc) (ls : Array Slot), xWd (dC, dI) A s.heap H locs (wM cI cZ cB cO m_ad m_p m_now m_held m_past m_pasts m_refused z.1 m_isLaid m_many m_isMade m_made m_images m_orbits m_chains z.2.1 z.2.2.1 z.2.2.2 m_isSorted m_leasts m_heads m_headFrom m_text m_typed m_at m_fault m_orders m_pointsThen m_letters m_numbers m_h) → lv_has ls 4 [(0, .ref m_ad)] → W p l e R s m args below meth c H locs 0 0 Q (F0 m 92 ls [])) ?_ hr ?_ _ _ _ hw (lv_sub hl [1, 0] rfl)
    · rintro ⟨m_figures_7, m_isCarried_8, m_carried_9, m_carriedMany_10, v2_11⟩ o h k H locs ls hw hl
      have hw : xWd (dC, dI) A s.heap H locs (wM cI cZ cB cO m_ad m_p m_now m_held m_past m_pasts m_refused m_figures_7 m_isLaid m_many m_isMade m_made m_images m_orbits m_chains m_isCarried_8 m_carried_9 m_carriedMany_10 m_isSorted m_leasts m_heads m_headFrom m_text m_typed m_at m_fault m_orders m_pointsThen m_letters m_numbers m_h) := hw
      have hl : lv_has ls 4 [(0, .ref m_ad), (2, .int v2_11)] := hl
      refine lv_iload_n hx hb dX8_findImages_34 rfl (lv_at hl 1 rfl) ?_
      refine lv_aload_n hx hb dX8_findImages_35 rfl (lv_at hl 0 rfl) ?_
      refine x_get (ci := 7) C hw inX8 rfl 15 (by decide) lkF_X8_150 rfl 0 rfl rfl dX8_findImages_36 ?_
      refine lv_icmp_ge (tgt := 92) hx hb dX8_findImages_39 (by decide) (fun b4 => ?_) (fun b4 => ?_)
      · replace h := xb_tt b4 h
        obtain rfl := Option.some.inj h
        exact k _ _ _ hw (lv_sub hl [0] rfl)
      · replace h := xb_ff b4 h
        refine lv_iconst (v := (0 : Int32)) hx hb dX8_findImages_42 (by decide) ?_
        refine lv_istore_n (lv' := [(3, .int (0 : Int32)), (0, .ref m_ad), (2, .int v2_11)]) hx hb dX8_findImages_43 rfl hl (by decide) rfl (fun ls hl => ?_)
        obtain ⟨z, hr, h⟩ := xn_i h
        refine xL_w (fun (z : (Nat → Int32) × (Nat → Int32) × (Nat → Int32) × Int32 × Int32) => ∀ (H : Heap) (locs : List Loc) (ls : Array Slot), xWd (dC, dI) A s.heap H locs (wM cI cZ cB cO m_ad m_p m_now m_held m_past m_pasts m_refused z.1 m_isLaid m_many m_isMade m_made m_images m_orbits m_chains z.2.1 z.2.2.1 z.2.2.2.1 m_isSorted m_leasts m_heads m_headFrom m_text m_typed m_at m_fault m_orders m_pointsThen m_letters m_numbers m_h) → lv_has ls 4 [(0, .ref m_ad), (2, .int v2_11), (3, .int z.2.2.2.2)] → W p l e R s m args below meth c H locs 0 0 Q (F0 m 44 ls [])) (fun (z : (Nat → Int32) × (Nat → Int32) × (Nat → Int32) × Int32) => ∀ (H : Heap) (locs : List Loc) (ls : Array Slot), xWd (dC, dI) A s.heap H locs (wM cI cZ cB cO m_ad m_p m_now m_held m_past m_pasts m_refused z.1 m_isLaid m_many m_isMade m_made m_images m_orbits m_chains z.2.1 z.2.2.1 z.2.2.2 m_isSorted m_leasts m_heads m_headFrom m_text m_typed m_at m_fault m_orders m_pointsThen m_letters m_numbers m_h) → lv_has ls 4 [(0, .ref m_ad), (2, .int v2_11)] → W p l e R s m args below meth c H locs 0 0 Q (F0 m 86 ls [])) ?_ hr ?_ _ _ _ hw (lv_sub hl [1, 2, 0] rfl)
        · rintro ⟨m_figures_16, m_isCarried_17, m_carried_18, m_carriedMany_19, v3_20⟩ o h k H locs ls hw hl
          have hw : xWd (dC, dI) A s.heap H locs (wM cI cZ cB cO m_ad m_p m_now m_held m_past m_pasts m_refused m_figures_16 m_isLaid m_many m_isMade m_made m_images m_orbits m_chains m_isCarried_17 m_carried_18 m_carriedMany_19 m_isSorted m_leasts m_heads m_headFrom m_text m_typed m_at m_fault m_orders m_pointsThen m_letters m_numbers m_h) := hw
          have hl : lv_has ls 4 [(0, .ref m_ad), (2, .int v2_11), (3, .int v3_20)] := hl
          refine lv_iload_n hx hb dX8_findImages_44 rfl (lv_at hl 2 rfl) ?_
          refine lv_aload_n hx hb dX8_findImages_45 rfl (lv_at hl 0 rfl) ?_
          refine x_get (ci := 7) C hw inX8 rfl 0 (by decide) lkF_X8_7 rfl 0 rfl rfl dX8_findImages_46 ?_
          refine lv_iconst (v := (1 : Int32)) hx hb dX8_findImages_49 (by decide) ?_
          refine x_ialk C hw 1 0 rfl rfl (k := 1) (by decide) (vp_in_iff.mpr (by decide)) dX8_findImages_50 ?_
          refine lv_icmp_ge (tgt := 86) hx hb dX8_findImages_51 (by decide) (fun b5 => ?_) (fun b5 => ?_)
          · replace h := xb_tt b5 h
            obtain rfl := Option.some.inj h
            exact k _ _ _ hw (lv_sub hl [0, 1] rfl)
          · replace h := xb_ff b5 h
            refine lv_aload_n hx hb dX8_findImages_54 rfl (lv_at hl 0 rfl) ?_
            refine lv_aload_n hx hb dX8_findImages_55 rfl (lv_at hl 0 rfl) ?_
            refine x_get (ci := 7) C hw inX8 rfl 0 (by decide) lkF_X8_7 rfl 0 rfl rfl dX8_findImages_56 ?_
            refine lv_iconst (v := (2 : Int32)) hx hb dX8_findImages_59 (by decide) ?_
            refine lv_iload_n hx hb dX8_findImages_60 rfl (lv_at hl 2 rfl) ?_
            refine lv_iadd hx hb dX8_findImages_61 ?_
            obtain ⟨b6, h⟩ := xk_i h
            refine x_iald C hw 1 0 rfl rfl b6 dX8_findImages_62 ?_
            obtain ⟨m_figures_25, q7, h⟩ := xn_i h
            refine x_callVv (As := [.int (m_now ((2 : Int32) + v3_20).toNatClampNeg)]) (rest := []) C hw gc_X8_88 ⟨rfl, rfl, ds_X8_open, (by rw [hR]; exact Nat.le_of_ble_eq_true rfl), (by rw [hR]; exact Nat.le_of_ble_eq_true rfl), Nat.zero_le _, Nat.zero_le _⟩ (c_X8_open l dC dI cI cZ cB cO m_ad m_p m_now m_held m_past m_pasts m_refused m_figures_16 m_isLaid m_many m_isMade m_made m_images m_orbits m_chains m_isCarried_17 m_carried_18 m_carriedMany_19 m_isSorted m_leasts m_heads m_headFrom m_text m_typed m_at m_fault m_orders m_pointsThen m_letters m_numbers m_h (m_now ((2 : Int32) + v3_20).toNatClampNeg) _ q7 _) [0, 1, 2, 3, 4, 5, 6, 7, 8, 9, 10, 11, 12, 13, 14, 15, 16, 17, 18] [] (by decide) rfl rfl (by decide) (by decide) rfl rfl rfl hl.1 rfl (Nat.le_of_ble_eq_true rfl) dX8_findImages_63 (fun H locs hw => ?_)
            have hw : xWd (dC, dI) A s.heap H locs (wM cI cZ cB cO m_ad m_p m_now m_held m_past m_pasts m_refused m_figures_25 m_isLaid m_many m_isMade m_made m_images m_orbits m_chains m_isCarried_17 m_carried_18 m_carriedMany_19 m_isSorted m_leasts m_heads m_headFrom m_text m_typed m_at m_fault m_orders m_pointsThen m_letters m_numbers m_h) := hw
            refine lv_aload_n hx hb dX8_findImages_66 rfl (lv_at hl 0 rfl) ?_
            refine lv_aload_n hx hb dX8_findImages_67 rfl (lv_at hl 0 rfl) ?_
            refine lv_aload_n hx hb dX8_findImages_68 rfl (lv_at hl 0 rfl) ?_
            refine x_get (ci := 7) C hw inX8 rfl 14 (by decide) lkF_X8_45 rfl 0 rfl rfl dX8_findImages_69 ?_
            refine lv_iload_n hx hb dX8_findImages_72 rfl (lv_at hl 1 rfl) ?_
            obtain ⟨b8, h⟩ := xk_i h
            refine x_iald C hw 12 0 rfl rfl b8 dX8_findImages_73 ?_
            obtain ⟨r_26, q9, h⟩ := xn_i h
            refine x_callVi (As := [.int (m_carried_18 v2_11.toNatClampNeg)]) (rest := [.ref m_ad]) C hw gc_X8_147 ⟨rfl, rfl, ds_X8_imageOf, (by rw [hR]; exact Nat.le_of_ble_eq_true rfl), (by rw [hR]; exact Nat.le_of_ble_eq_true rfl), Nat.zero_le _, Nat.zero_le _⟩ (c_X8_imageOf l dC dI cI cZ cB cO m_ad m_p m_now m_held m_past m_pasts m_refused m_figures_25 m_isLaid m_many m_isMade m_made m_images m_orbits m_chains m_isCarried_17 m_carried_18 m_carriedMany_19 m_isSorted m_leasts m_heads m_headFrom m_text m_typed m_at m_fault m_orders m_pointsThen m_letters m_numbers m_h (m_carried_18 v2_11.toNatClampNeg) _ q9 _) [0, 1, 2, 3, 4, 5, 6, 7, 8, 9, 10, 11, 12, 13, 14, 15, 16, 17, 18] [] (by decide) rfl rfl (by decide) (by decide) rfl rfl rfl hl.1 rfl (Nat.le_of_ble_eq_true rfl) dX8_findImages_74 (fun H locs hw => ?_)
            have hw : xWd (dC, dI) A s.heap H locs (wM cI cZ cB cO m_ad m_p m_now m_held m_past m_pasts m_refused m_figures_25 m_isLaid m_many m_isMade m_made m_images m_orbits m_chains m_isCarried_17 m_carried_18 m_carriedMany_19 m_isSorted m_leasts m_heads m_headFrom m_text m_typed m_at m_fault m_orders m_pointsThen m_letters m_numbers m_h) := hw
            obtain ⟨⟨m_isCarried_27, m_carried_28, m_carriedMany_29⟩, q10, h⟩ := xn_i h
            refine x_callVv (As := [.int r_26]) (rest := []) C hw gc_X8_153 ⟨rfl, rfl, ds_X8_carry, (by rw [hR]; exact Nat.le_of_ble_eq_true rfl), (by rw [hR]; exact Nat.le_of_ble_eq_true rfl), Nat.zero_le _, Nat.zero_le _⟩ (c_X8_carry l dC dI cI cZ cB cO m_ad m_p m_now m_held m_past m_pasts m_refused m_figures_25 m_isLaid m_many m_isMade m_made m_images m_orbits m_chains m_isCarried_17 m_carried_18 m_carriedMany_19 m_isSorted m_leasts m_heads m_headFrom m_text m_typed m_at m_fault m_orders m_pointsThen m_letters m_numbers m_h r_26 _ q10 _) [0, 1, 2, 3, 4, 5, 6, 7, 8, 9, 10, 11, 12, 13, 14, 15, 16, 17, 18] [] (by decide) rfl rfl (by decide) (by decide) rfl rfl rfl hl.1 rfl (Nat.le_of_ble_eq_true rfl) dX8_findImages_77 (fun H locs hw => ?_)
            have hw : xWd (dC, dI) A s.heap H locs (wM cI cZ cB cO m_ad m_p m_now m_held m_past m_pasts m_refused m_figures_25 m_isLaid m_many m_isMade m_made m_images m_orbits m_chains m_isCarried_27 m_carried_28 m_carriedMany_29 m_isSorted m_leasts m_heads m_headFrom m_text m_typed m_at m_fault m_orders m_pointsThen m_letters m_numbers m_h) := hw
            refine lv_iinc (v := (v3_20 + (1 : Int32))) (lv' := [(3, .int (v3_20 + (1 : Int32))), (0, .ref m_ad), (2, .int v2_11)]) hx hb dX8_findImages_80 hl (k := 2) rfl (congrArg (fun q => v3_20 + q) (by decide)) (by decide) rfl (fun ls hl => ?_)
            refine lv_goto (tgt := 44) hx hb dX8_findImages_83 (by decide) ?_
            obtain rfl := Option.some.inj h
            exact k _ _ _ hw (lv_sub hl [1, 2, 0] rfl)
        · obtain ⟨m_figures_21, m_isCarried_22, m_carried_23, m_carriedMany_24⟩ := z
          intro H locs ls hw hl
          have hw : xWd (dC, dI) A s.heap H locs (wM cI cZ cB cO m_ad m_p m_now m_held m_past m_pasts m_refused m_figures_21 m_isLaid m_many m_isMade m_made m_images m_orbits m_chains m_isCarried_22 m_carried_23 m_carriedMany_24 m_isSorted m_leasts m_heads m_headFrom m_text m_typed m_at m_fault m_orders m_pointsThen m_letters m_numbers m_h) := hw
          have hl : lv_has ls 4 [(0, .ref m_ad), (2, .int v2_11)] := hl
          refine lv_iinc (v := (v2_11 + (1 : Int32))) (lv' := [(2, .int (v2_11 + (1 : Int32))), (0, .ref m_ad)]) hx hb dX8_findImages_86 hl (k := 1) rfl (congrArg (fun q => v2_11 + q) (by decide)) (by decide) rfl (fun ls hl => ?_)
          refine lv_goto (tgt := 34) hx hb dX8_findImages_89 (by decide) ?_
          obtain rfl := Option.some.inj h
          exact k _ _ _ hw (lv_sub hl [1, 0] rfl)
    · obtain ⟨m_figures_12, m_isCarried_13, m_carried_14, m_carriedMany_15⟩ := z
      intro H locs ls hw hl
      have hw : xWd (dC, dI) A s.heap H locs (wM cI cZ cB cO m_ad m_p m_now m_held m_past m_pasts m_refused m_figures_12 m_isLaid m_many m_isMade m_made m_images m_orbits m_chains m_isCarried_13 m_carried_14 m_carriedMany_15 m_isSorted m_leasts m_heads m_headFrom m_text m_typed m_at m_fault m_orders m_pointsThen m_letters m_numbers m_h) := hw
      have hl : lv_has ls 4 [(0, .ref m_ad)] := hl
      refine lv_iconst (v := (0 : Int32)) hx hb dX8_findImages_92 (by decide) ?_
      refine lv_istore_n (lv' := [(2, .int (0 : Int32)), (0, .ref m_ad)]) hx hb dX8_findImages_93 rfl hl (by decide) rfl (fun ls hl => ?_)
      refine lv_sipush (v := (255 : Int32)) hx hb dX8_findImages_94 (by decide) ?_
      refine lv_istore_n (lv' := [(3, .int (255 : Int32)), (2, .int (0 : Int32)), (0, .ref m_ad)]) hx hb dX8_findImages_97 rfl hl (by decide) rfl (fun ls hl => ?_)
      obtain ⟨z, hr, h⟩ := xn_i h
      refine xL_w (fun (z : (Nat → Int32) × Int32 × Int32) => ∀ (H : Heap) (locs : List Loc) (ls : Array Slot), xWd (dC, dI) A s.heap H locs (wM cI cZ cB cO m_ad m_p m_now m_held m_past m_pasts m_refused m_figures_12 m_isLaid m_many m_isMade m_made m_images m_orbits m_chains m_isCarried_13 z.1 m_carriedMany_15 m_isSorted m_leasts m_heads m_headFrom m_text m_typed m_at m_fault m_orders m_pointsThen m_letters m_numbers m_h) → lv_has ls 4 [(0, .ref m_ad), (2, .int z.2.1), (3, .int z.2.2)] → W p l e R s m args below meth c H locs 0 0 Q (F0 m 98 ls [])) (fun (z : (Nat → Int32)) => ∀ (H : Heap) (locs : List Loc) (ls : Array Slot), xWd (dC, dI) A s.heap H locs (wM cI cZ cB cO m_ad m_p m_now m_held m_past m_pasts m_refused m_figures_12 m_isLaid m_many m_isMade m_made m_images m_orbits m_chains m_isCarried_13 z m_carriedMany_15 m_isSorted m_leasts m_heads m_headFrom m_text m_typed m_at m_fault m_orders m_pointsThen m_letters m_numbers m_h) → lv_has ls 4 [] → W p l e R s m args below meth c H locs 0 0 Q (F0 m 133 ls [])) ?_ hr ?_ _ _ _ hw (lv_sub hl [2, 1, 0] rfl)
      · rintro ⟨m_carried_30, v2_31, v3_32⟩ o h k H locs ls hw hl
        have hw : xWd (dC, dI) A s.heap H locs (wM cI cZ cB cO m_ad m_p m_now m_held m_past m_pasts m_refused m_figures_12 m_isLaid m_many m_isMade m_made m_images m_orbits m_chains m_isCarried_13 m_carried_30 m_carriedMany_15 m_isSorted m_leasts m_heads m_headFrom m_text m_typed m_at m_fault m_orders m_pointsThen m_letters m_numbers m_h) := hw
        have hl : lv_has ls 4 [(0, .ref m_ad), (2, .int v2_31), (3, .int v3_32)] := hl
        refine lv_iload_n hx hb dX8_findImages_98 rfl (lv_at hl 2 rfl) ?_
        refine lv_if_lt (tgt := 133) hx hb dX8_findImages_99 (by decide) (fun b11 => ?_) (fun b11 => ?_)
        · replace h := xb_tt b11 h
          obtain rfl := Option.some.inj h
          exact k _ _ _ hw (lv_sub hl [] rfl)
        · replace h := xb_ff b11 h
          refine lv_aload_n hx hb dX8_findImages_102 rfl (lv_at hl 0 rfl) ?_
          refine x_get (ci := 7) C hw inX8 rfl 13 (by decide) lkF_X8_42 rfl 0 rfl rfl dX8_findImages_103 ?_
          refine lv_iload_n hx hb dX8_findImages_106 rfl (lv_at hl 2 rfl) ?_
          obtain ⟨r_34, q12, h⟩ := xn_i h
          refine x_callSi (As := [.int v3_32]) (rest := [.ref (m_p 13)]) C hw gc_X8_156 ds_X8_turned (by rw [hR]; exact Nat.le_of_ble_eq_true rfl) (by rw [hR]; exact Nat.le_of_ble_eq_true rfl) rfl rfl (Nat.zero_le _) (Nat.zero_le _) (c_X8_turned l dC dI cI cZ cB cO v3_32 _ q12 _) [] [0, 1, 2, 3, 4, 5, 6, 7, 8, 9, 10, 11, 12, 13, 14, 15, 16, 17, 18] (by decide) rfl rfl (by decide) (by decide) rfl hl.1 rfl (Nat.le_of_ble_eq_true rfl) dX8_findImages_107 (fun H locs hw => ?_)
          have hw : xWd (dC, dI) A s.heap H locs (wM cI cZ cB cO m_ad m_p m_now m_held m_past m_pasts m_refused m_figures_12 m_isLaid m_many m_isMade m_made m_images m_orbits m_chains m_isCarried_13 m_carried_30 m_carriedMany_15 m_isSorted m_leasts m_heads m_headFrom m_text m_typed m_at m_fault m_orders m_pointsThen m_letters m_numbers m_h) := hw.sub [0, 1, 2, 3, 4, 5, 6, 7, 8, 9, 10, 11, 12, 13, 14, 15, 16, 17, 18] (by decide) rfl
          obtain ⟨b13, h⟩ := xk_i h
          refine x_zald C hw 11 1 rfl rfl b13 dX8_findImages_110 ?_
          refine lv_if_eq (tgt := 127) hx hb dX8_findImages_111 (by decide) (fun b14 => ?_) (fun b14 => ?_)
          · replace h := xb_tt b14 h
            refine lv_iinc (v := (v3_32 + (-1 : Int32))) (lv' := [(3, .int (v3_32 + (-1 : Int32))), (0, .ref m_ad), (2, .int v2_31)]) hx hb dX8_findImages_127 hl (k := 2) rfl (congrArg (fun q => v3_32 + q) (by decide)) (by decide) rfl (fun ls hl => ?_)
            refine lv_goto (tgt := 98) hx hb dX8_findImages_130 (by decide) ?_
            obtain rfl := Option.some.inj h
            exact k _ _ _ hw (lv_sub hl [1, 2, 0] rfl)
          · replace h := xb_ff b14 h
            refine lv_aload_n hx hb dX8_findImages_114 rfl (lv_at hl 0 rfl) ?_
            refine x_get (ci := 7) C hw inX8 rfl 14 (by decide) lkF_X8_45 rfl 0 rfl rfl dX8_findImages_115 ?_
            refine lv_iload_n hx hb dX8_findImages_118 rfl (lv_at hl 1 rfl) ?_
            refine lv_iload_n hx hb dX8_findImages_119 rfl (lv_at hl 2 rfl) ?_
            obtain ⟨r_35, q15, h⟩ := xn_i h
            refine x_callSi (As := [.int v3_32]) (rest := [.int v2_31, .ref (m_p 14)]) C hw gc_X8_156 ds_X8_turned (by rw [hR]; exact Nat.le_of_ble_eq_true rfl) (by rw [hR]; exact Nat.le_of_ble_eq_true rfl) rfl rfl (Nat.zero_le _) (Nat.zero_le _) (c_X8_turned l dC dI cI cZ cB cO v3_32 _ q15 _) [] [0, 1, 2, 3, 4, 5, 6, 7, 8, 9, 10, 11, 12, 13, 14, 15, 16, 17, 18] (by decide) rfl rfl (by decide) (by decide) rfl hl.1 rfl (Nat.le_of_ble_eq_true rfl) dX8_findImages_120 (fun H locs hw => ?_)
            have hw : xWd (dC, dI) A s.heap H locs (wM cI cZ cB cO m_ad m_p m_now m_held m_past m_pasts m_refused m_figures_12 m_isLaid m_many m_isMade m_made m_images m_orbits m_chains m_isCarried_13 m_carried_30 m_carriedMany_15 m_isSorted m_leasts m_heads m_headFrom m_text m_typed m_at m_fault m_orders m_pointsThen m_letters m_numbers m_h) := hw.sub [0, 1, 2, 3, 4, 5, 6, 7, 8, 9, 10, 11, 12, 13, 14, 15, 16, 17, 18] (by decide) rfl
            obtain ⟨b16, h⟩ := xk_i h
            refine x_iast C hw 12 0 rfl rfl b16 dX8_findImages_123 (fun H locs hw => ?_)
            have hw : xWd (dC, dI) A s.heap H locs (wM cI cZ cB cO m_ad m_p m_now m_held m_past m_pasts m_refused m_figures_12 m_isLaid m_many m_isMade m_made m_images m_orbits m_chains m_isCarried_13 (upd m_carried_30 v2_31.toNatClampNeg r_35) m_carriedMany_15 m_isSorted m_leasts m_heads m_headFrom m_text m_typed m_at m_fault m_orders m_pointsThen m_letters m_numbers m_h) := hw
            refine lv_iinc (v := (v2_31 + (1 : Int32))) (lv' := [(2, .int (v2_31 + (1 : Int32))), (0, .ref m_ad), (3, .int v3_32)]) hx hb dX8_findImages_124 hl (k := 1) rfl (congrArg (fun q => v2_31 + q) (by decide)) (by decide) rfl (fun ls hl => ?_)
            refine lv_iinc (v := (v3_32 + (-1 : Int32))) (lv' := [(3, .int (v3_32 + (-1 : Int32))), (2, .int (v2_31 + (1 : Int32))), (0, .ref m_ad)]) hx hb dX8_findImages_127 hl (k := 2) rfl (congrArg (fun q => v3_32 + q) (by decide)) (by decide) rfl (fun ls hl => ?_)
            refine lv_goto (tgt := 98) hx hb dX8_findImages_130 (by decide) ?_
            obtain rfl := Option.some.inj h
            exact k _ _ _ hw (lv_sub hl [2, 1, 0] rfl)
      · obtain ⟨m_carried_33, hz⟩ : ∃ q, q = z := ⟨z, rfl⟩
        subst hz
        intro H locs ls hw hl
        have hw : xWd (dC, dI) A s.heap H locs (wM cI cZ cB cO m_ad m_p m_now m_held m_past m_pasts m_refused m_figures_12 m_isLaid m_many m_isMade m_made m_images m_orbits m_chains m_isCarried_13 m_carried_33 m_carriedMany_15 m_isSorted m_leasts m_heads m_headFrom m_text m_typed m_at m_fault m_orders m_pointsThen m_letters m_numbers m_h) := hw
        have hl : lv_has ls 4 [] := hl
        obtain rfl := Option.some.inj h
        exact x_retv C hQ hA hw dX8_findImages_133
noncomputable def f_X8_sortSets_L4 (m_carriedMany_42 : Int32) (m_carried_41 : (Nat → Int32)) (r_36 : Int32) (z : (Nat → Int32) × Int32) : Option (((Nat → Int32) × Int32) ⊕ ((Nat → Int32))) := match z with
  | (m_leasts_43, v5_44) => xb (m_carriedMany_42 ≤ v5_44) (some (.inr m_leasts_43)) (xk (vp_in v5_44 256) (xk (vp_in (m_carried_41 v5_44.toNatClampNeg) 256) (some (.inl ((upd m_leasts_43 (m_carried_41 v5_44.toNatClampNeg).toNatClampNeg r_36), (v5_44 + (1 : Int32)))))))
noncomputable def f_X8_sortSets_L3 (m_now : (Nat → Int32)) (v2_12 : Int32) (z : (Nat → Int32) × (Nat → Int32) × (Nat → Int32) × Int32 × (Nat → Int32) × (Nat → Int32) × Int32 × Int32) : Option (((Nat → Int32) × (Nat → Int32) × (Nat → Int32) × Int32 × (Nat → Int32) × (Nat → Int32) × Int32 × Int32) ⊕ ((Nat → Int32) × (Nat → Int32) × (Nat → Int32) × Int32 × (Nat → Int32) × (Nat → Int32) × Int32)) := match z with
  | (m_figures_21, m_isCarried_22, m_carried_23, m_carriedMany_24, m_leasts_25, m_heads_26, v1_27, v3_28) => xb (v3_28 < 0) (some (.inr (m_figures_21, m_isCarried_22, m_carried_23, m_carriedMany_24, m_leasts_25, m_heads_26, v1_27))) (xn (f_X8_turned v3_28) (fun (r_36 : Int32) => xn (f_X8_isSet m_now r_36) (fun (r_37 : Int32) => xb (r_37 = 0) (some (.inl (m_figures_21, m_isCarried_22, m_carried_23, m_carriedMany_24, m_leasts_25, m_heads_26, v1_27, (v3_28 + (-1 : Int32))))) (xn (f_X8_size r_36) (fun (r_38 : Int32) => xb (r_38 = v2_12) (xk (vp_in r_36 256) (xb ((m_leasts_25 r_36.toNatClampNeg) = (-1 : Int32)) (xk (vp_in v1_27 256) (xn (f_X8_findImages m_now m_figures_21 m_isCarried_22 m_carried_23 m_carriedMany_24 r_36) (fun (z : (Nat → Int32) × (Nat → Int32) × (Nat → Int32) × Int32) => match z with | (m_figures_39, m_isCarried_40, m_carried_41, m_carriedMany_42) => xn (xL (f_X8_sortSets_L4 m_carriedMany_42 m_carried_41 r_36) (m_leasts_25, (0 : Int32))) (fun (m_leasts_45 : (Nat → Int32)) => some (.inl (m_figures_39, m_isCarried_40, m_carried_41, m_carriedMany_42, m_leasts_45, (upd m_heads_26 v1_27.toNatClampNeg r_36), (v1_27 + (1 : Int32)), (v3_28 + (-1 : Int32)))))))) (some (.inl (m_figures_21, m_isCarried_22, m_carried_23, m_carriedMany_24, m_leasts_25, m_heads_26, v1_27, (v3_28 + (-1 : Int32))))))) (some (.inl (m_figures_21, m_isCarried_22, m_carried_23, m_carriedMany_24, m_leasts_25, m_heads_26, v1_27, (v3_28 + (-1 : Int32))))))))))
noncomputable def f_X8_sortSets_L2 (m_now : (Nat → Int32)) (z : (Nat → Int32) × (Nat → Int32) × (Nat → Int32) × Int32 × (Nat → Int32) × (Nat → Int32) × (Nat → Int32) × Int32 × Int32) : Option (((Nat → Int32) × (Nat → Int32) × (Nat → Int32) × Int32 × (Nat → Int32) × (Nat → Int32) × (Nat → Int32) × Int32 × Int32) ⊕ ((Nat → Int32) × (Nat → Int32) × (Nat → Int32) × Int32 × (Nat → Int32) × (Nat → Int32) × (Nat → Int32) × Int32)) := match z with
  | (m_figures_4, m_isCarried_5, m_carried_6, m_carriedMany_7, m_leasts_8, m_heads_9, m_headFrom_10, v1_11, v2_12) => xb ((8 : Int32) < v2_12) (some (.inr (m_figures_4, m_isCarried_5, m_carried_6, m_carriedMany_7, m_leasts_8, m_heads_9, m_headFrom_10, v1_11))) (xk (vp_in v2_12 10) (xn (xL (f_X8_sortSets_L3 m_now v2_12) (m_figures_4, m_isCarried_5, m_carried_6, m_carriedMany_7, m_leasts_8, m_heads_9, v1_11, (255 : Int32))) (fun (z : (Nat → Int32) × (Nat → Int32) × (Nat → Int32) × Int32 × (Nat → Int32) × (Nat → Int32) × Int32) => match z with | (m_figures_29, m_isCarried_30, m_carried_31, m_carriedMany_32, m_leasts_33, m_heads_34, v1_35) => some (.inl (m_figures_29, m_isCarried_30, m_carried_31, m_carriedMany_32, m_leasts_33, m_heads_34, (upd m_headFrom_10 v2_12.toNatClampNeg v1_11), v1_35, (v2_12 + (1 : Int32)))))))
noncomputable def f_X8_sortSets_L1  (z : (Nat → Int32) × Int32) : Option (((Nat → Int32) × Int32) ⊕ ((Nat → Int32))) := match z with
  | (m_leasts_1, v2_2) => xb ((256 : Int32) ≤ v2_2) (some (.inr m_leasts_1)) (xk (vp_in v2_2 256) (some (.inl ((upd m_leasts_1 v2_2.toNatClampNeg (-1 : Int32)), (v2_2 + (1 : Int32))))))
noncomputable def f_X8_sortSets (m_now : (Nat → Int32)) (m_figures : (Nat → Int32)) (m_isCarried : (Nat → Int32)) (m_carried : (Nat → Int32)) (m_carriedMany : Int32) (m_isSorted : Int32) (m_leasts : (Nat → Int32)) (m_heads : (Nat → Int32)) (m_headFrom : (Nat → Int32)) : Option ((Nat → Int32) × (Nat → Int32) × (Nat → Int32) × Int32 × Int32 × (Nat → Int32) × (Nat → Int32) × (Nat → Int32)) := xb (m_isSorted = 0) (xn (xL f_X8_sortSets_L1 (m_leasts, (0 : Int32))) (fun (m_leasts_3 : (Nat → Int32)) => xn (xL (f_X8_sortSets_L2 m_now) (m_figures, m_isCarried, m_carried, m_carriedMany, m_leasts_3, m_heads, m_headFrom, (0 : Int32), (0 : Int32))) (fun (z : (Nat → Int32) × (Nat → Int32) × (Nat → Int32) × Int32 × (Nat → Int32) × (Nat → Int32) × (Nat → Int32) × Int32) => match z with | (m_figures_13, m_isCarried_14, m_carried_15, m_carriedMany_16, m_leasts_17, m_heads_18, m_headFrom_19, v1_20) => some (m_figures_13, m_isCarried_14, m_carried_15, m_carriedMany_16, (1 : Int32), m_leasts_17, m_heads_18, (upd m_headFrom_19 9 v1_20))))) (some (m_figures, m_isCarried, m_carried, m_carriedMany, m_isSorted, m_leasts, m_heads, m_headFrom))
set_option maxHeartbeats 4000000 in
set_option maxRecDepth 100000 in
theorem c_X8_sortSets (l : Launch) (dC : Nat → ClassId) (dI : Nat → Nat → Nat) (cI cZ cB cO : ClassId) (m_ad : Nat) (m_p : Nat → Nat) (m_now : (Nat → Int32)) (m_held : (Nat → Int32)) (m_past : (Nat → Int32)) (m_pasts : Int32) (m_refused : (Nat → Int32)) (m_figures : (Nat → Int32)) (m_isLaid : Int32) (m_many : Int32) (m_isMade : (Nat → Int32)) (m_made : (Nat → Int32)) (m_images : (Nat → Int32)) (m_orbits : (Nat → Int32)) (m_chains : (Nat → Int32)) (m_isCarried : (Nat → Int32)) (m_carried : (Nat → Int32)) (m_carriedMany : Int32) (m_isSorted : Int32) (m_leasts : (Nat → Int32)) (m_heads : (Nat → Int32)) (m_headFrom : (Nat → Int32)) (m_text : (Nat → Int32)) (m_typed : Int32) (m_at : Int32) (m_fault : Int32) (m_orders : Int32) (m_pointsThen : Int32) (m_letters : (Nat → Int32)) (m_numbers : (Nat → Int32)) (m_h : Int64) (o : (Nat → Int32) × (Nat → Int32) × (Nat → Int32) × Int32 × Int32 × (Nat → Int32) × (Nat → Int32) × (Nat → Int32)) (h : f_X8_sortSets m_now m_figures m_isCarried m_carried m_carriedMany m_isSorted m_leasts m_heads m_headFrom = some o) (sz : Nat) : Met l yX8_sortSets (xW yX8_sortSets cX8_sortSets 6 none) { frames := 3, cells := 0, slots := 0, locals := 67 } (xPre dC dI (xT cI cZ cB cO) [.ref m_ad] (wM cI cZ cB cO m_ad m_p m_now m_held m_past m_pasts m_refused m_figures m_isLaid m_many m_isMade m_made m_images m_orbits m_chains m_isCarried m_carried m_carriedMany m_isSorted m_leasts m_heads m_headFrom m_text m_typed m_at m_fault m_orders m_pointsThen m_letters m_numbers m_h) sz) (xQv dC dI (xT cI cZ cB cO) (wM cI cZ cB cO m_ad m_p m_now m_held m_past m_pasts m_refused m_figures m_isLaid m_many m_isMade m_made m_images m_orbits m_chains m_isCarried m_carried m_carriedMany m_isSorted m_leasts m_heads m_headFrom m_text m_typed m_at m_fault m_orders m_pointsThen m_letters m_numbers m_h) (wM cI cZ cB cO m_ad m_p m_now m_held m_past m_pasts m_refused o.1 m_isLaid m_many m_isMade m_made m_images m_orbits m_chains o.2.1 o.2.2.1 o.2.2.2.1 o.2.2.2.2.1 o.2.2.2.2.2.1 o.2.2.2.2.2.2.1 o.2.2.2.2.2.2.2 m_text m_typed m_at m_fault m_orders m_pointsThen m_letters m_numbers m_h) sz) 0 0 (va_A (wM cI cZ cB cO m_ad m_p m_now m_held m_past m_pasts m_refused m_figures m_isLaid m_many m_isMade m_made m_images m_orbits m_chains m_isCarried m_carried m_carriedMany m_isSorted m_leasts m_heads m_headFrom m_text m_typed m_at m_fault m_orders m_pointsThen m_letters m_numbers m_h) sz) := by
  refine x_met (by decide) (Nat.le_of_ble_eq_true rfl) ?_
  intro p e s m args below meth c R Q A hR hsz hA hQ hin C hw ls hl
  have hx := C.1
  have hb := C.2.1
  have hown := C.2.2.2.1
  have htb := C.2.2.2.2.1
  have hl : lv_has ls 6 [(0, .ref m_ad)] := hl
  refine lv_aload_n hx hb dX8_sortSets_0 rfl (lv_at hl 0 rfl) ?_
  refine x_get (ci := 7) C hw inX8 rfl 16 (by decide) lkF_X8_81 rfl 0 rfl rfl dX8_sortSets_1 ?_
  refine lv_if_eq (tgt := 8) hx hb dX8_sortSets_4 (by decide) (fun b1 => ?_) (fun b1 => ?_)
  · replace h := xb_tt b1 h
    refine lv_aload_n hx hb dX8_sortSets_8 rfl (lv_at hl 0 rfl) ?_
    refine lv_iconst (v := (1 : Int32)) hx hb dX8_sortSets_9 (by decide) ?_
    refine x_put (ci := 7) C hw inX8 tyX8 tyX8_ok nmX8 rfl 16 (by decide) lkF_X8_81 rfl rfl 0 rfl rfl rfl (Nat.le_of_ble_eq_true rfl) dX8_sortSets_10 (fun H locs hw => ?_)
    have hw : xWd (dC, dI) A s.heap H locs (wM cI cZ cB cO m_ad m_p m_now m_held m_past m_pasts m_refused m_figures m_isLaid m_many m_isMade m_made m_images m_orbits m_chains m_isCarried m_carried m_carriedMany (1 : Int32) m_leasts m_heads m_headFrom m_text m_typed m_at m_fault m_orders m_pointsThen m_letters m_numbers m_h) := hw
    refine lv_iconst (v := (0 : Int32)) hx hb dX8_sortSets_13 (by decide) ?_
    refine lv_istore_n (lv' := [(1, .int (0 : Int32)), (0, .ref m_ad)]) hx hb dX8_sortSets_14 rfl hl (by decide) rfl (fun ls hl => ?_)
    refine lv_iconst (v := (0 : Int32)) hx hb dX8_sortSets_15 (by decide) ?_
    refine lv_istore_n (lv' := [(2, .int (0 : Int32)), (1, .int (0 : Int32)), (0, .ref m_ad)]) hx hb dX8_sortSets_16 rfl hl (by decide) rfl (fun ls hl => ?_)
    obtain ⟨z, hr, h⟩ := xn_i h
    refine xL_w (fun (z : (Nat → Int32) × Int32) => ∀ (H : Heap) (locs : List Loc) (ls : Array Slot), xWd (dC, dI) A s.heap H locs (wM cI cZ cB cO m_ad m_p m_now m_held m_past m_pasts m_refused m_figures m_isLaid m_many m_isMade m_made m_images m_orbits m_chains m_isCarried m_carried m_carriedMany (1 : Int32) z.1 m_heads m_headFrom m_text m_typed m_at m_fault m_orders m_pointsThen m_letters m_numbers m_h) → lv_has ls 6 [(0, .ref m_ad), (1, .int (0 : Int32)), (2, .int z.2)] → W p l e R s m args below meth c H locs 0 0 Q (F0 m 17 ls [])) (fun (z : (Nat → Int32)) => ∀ (H : Heap) (locs : List Loc) (ls : Array Slot), xWd (dC, dI) A s.heap H locs (wM cI cZ cB cO m_ad m_p m_now m_held m_past m_pasts m_refused m_figures m_isLaid m_many m_isMade m_made m_images m_orbits m_chains m_isCarried m_carried m_carriedMany (1 : Int32) z m_heads m_headFrom m_text m_typed m_at m_fault m_orders m_pointsThen m_letters m_numbers m_h) → lv_has ls 6 [(0, .ref m_ad), (1, .int (0 : Int32))] → W p l e R s m args below meth c H locs 0 0 Q (F0 m 37 ls [])) ?_ hr ?_ _ _ _ hw (lv_sub hl [2, 1, 0] rfl)
    · rintro ⟨m_leasts_1, v2_2⟩ o h k H locs ls hw hl
      have hw : xWd (dC, dI) A s.heap H locs (wM cI cZ cB cO m_ad m_p m_now m_held m_past m_pasts m_refused m_figures m_isLaid m_many m_isMade m_made m_images m_orbits m_chains m_isCarried m_carried m_carriedMany (1 : Int32) m_leasts_1 m_heads m_headFrom m_text m_typed m_at m_fault m_orders m_pointsThen m_letters m_numbers m_h) := hw
      have hl : lv_has ls 6 [(0, .ref m_ad), (1, .int (0 : Int32)), (2, .int v2_2)] := hl
      refine lv_iload_n hx hb dX8_sortSets_17 rfl (lv_at hl 2 rfl) ?_
      refine lv_sipush (v := (256 : Int32)) hx hb dX8_sortSets_18 (by decide) ?_
      refine lv_icmp_ge (tgt := 37) hx hb dX8_sortSets_21 (by decide) (fun b2 => ?_) (fun b2 => ?_)
      · replace h := xb_tt b2 h
        obtain rfl := Option.some.inj h
        exact k _ _ _ hw (lv_sub hl [0, 1] rfl)
      · replace h := xb_ff b2 h
        refine lv_aload_n hx hb dX8_sortSets_24 rfl (lv_at hl 0 rfl) ?_
        refine x_get (ci := 7) C hw inX8 rfl 17 (by decide) lkF_X8_48 rfl 0 rfl rfl dX8_sortSets_25 ?_
        refine lv_iload_n hx hb dX8_sortSets_28 rfl (lv_at hl 2 rfl) ?_
        refine lv_iconst (v := (-1 : Int32)) hx hb dX8_sortSets_29 (by decide) ?_
        obtain ⟨b3, h⟩ := xk_i h
        refine x_iast C hw 13 0 rfl rfl b3 dX8_sortSets_30 (fun H locs hw => ?_)
        have hw : xWd (dC, dI) A s.heap H locs (wM cI cZ cB cO m_ad m_p m_now m_held m_past m_pasts m_refused m_figures m_isLaid m_many m_isMade m_made m_images m_orbits m_chains m_isCarried m_carried m_carriedMany (1 : Int32) (upd m_leasts_1 v2_2.toNatClampNeg (-1 : Int32)) m_heads m_headFrom m_text m_typed m_at m_fault m_orders m_pointsThen m_letters m_numbers m_h) := hw
        refine lv_iinc (v := (v2_2 + (1 : Int32))) (lv' := [(2, .int (v2_2 + (1 : Int32))), (0, .ref m_ad), (1, .int (0 : Int32))]) hx hb dX8_sortSets_31 hl (k := 2) rfl (congrArg (fun q => v2_2 + q) (by decide)) (by decide) rfl (fun ls hl => ?_)
        refine lv_goto (tgt := 17) hx hb dX8_sortSets_34 (by decide) ?_
        obtain rfl := Option.some.inj h
        exact k _ _ _ hw (lv_sub hl [1, 2, 0] rfl)
    · obtain ⟨m_leasts_3, hz⟩ : ∃ q, q = z := ⟨z, rfl⟩
      subst hz
      intro H locs ls hw hl
      have hw : xWd (dC, dI) A s.heap H locs (wM cI cZ cB cO m_ad m_p m_now m_held m_past m_pasts m_refused m_figures m_isLaid m_many m_isMade m_made m_images m_orbits m_chains m_isCarried m_carried m_carriedMany (1 : Int32) m_leasts_3 m_heads m_headFrom m_text m_typed m_at m_fault m_orders m_pointsThen m_letters m_numbers m_h) := hw
      have hl : lv_has ls 6 [(0, .ref m_ad), (1, .int (0 : Int32))] := hl
      refine lv_iconst (v := (0 : Int32)) hx hb dX8_sortSets_37 (by decide) ?_
      refine lv_istore_n (lv' := [(2, .int (0 : Int32)), (0, .ref m_ad), (1, .int (0 : Int32))]) hx hb dX8_sortSets_38 rfl hl (by decide) rfl (fun ls hl => ?_)
      obtain ⟨z, hr, h⟩ := xn_i h
      refine xL_w (fun (z : (Nat → Int32) × (Nat → Int32) × (Nat → Int32) × Int32 × (Nat → Int32) × (Nat → Int32) × (Nat → Int32) × Int32 × Int32) => ∀ (H : Heap) (locs : List Loc) (ls : Array Slot), xWd (dC, dI) A s.heap H locs (wM cI cZ cB cO m_ad m_p m_now m_held m_past m_pasts m_refused z.1 m_isLaid m_many m_isMade m_made m_images m_orbits m_chains z.2.1 z.2.2.1 z.2.2.2.1 (1 : Int32) z.2.2.2.2.1 z.2.2.2.2.2.1 z.2.2.2.2.2.2.1 m_text m_typed m_at m_fault m_orders m_pointsThen m_letters m_numbers m_h) → lv_has ls 6 [(0, .ref m_ad), (1, .int z.2.2.2.2.2.2.2.1), (2, .int z.2.2.2.2.2.2.2.2)] → W p l e R s m args below meth c H locs 0 0 Q (F0 m 39 ls [])) (fun (z : (Nat → Int32) × (Nat → Int32) × (Nat → Int32) × Int32 × (Nat → Int32) × (Nat → Int32) × (Nat → Int32) × Int32) => ∀ (H : Heap) (locs : List Loc) (ls : Array Slot), xWd (dC, dI) A s.heap H locs (wM cI cZ cB cO m_ad m_p m_now m_held m_past m_pasts m_refused z.1 m_isLaid m_many m_isMade m_made m_images m_orbits m_chains z.2.1 z.2.2.1 z.2.2.2.1 (1 : Int32) z.2.2.2.2.1 z.2.2.2.2.2.1 z.2.2.2.2.2.2.1 m_text m_typed m_at m_fault m_orders m_pointsThen m_letters m_numbers m_h) → lv_has ls 6 [(0, .ref m_ad), (1, .int z.2.2.2.2.2.2.2)] → W p l e R s m args below meth c H locs 0 0 Q (F0 m 156 ls [])) ?_ hr ?_ _ _ _ hw (lv_sub hl [1, 2, 0] rfl)
      · rintro ⟨m_figures_4, m_isCarried_5, m_carried_6, m_carriedMany_7, m_leasts_8, m_heads_9, m_headFrom_10, v1_11, v2_12⟩ o h k H locs ls hw hl
        have hw : xWd (dC, dI) A s.heap H locs (wM cI cZ cB cO m_ad m_p m_now m_held m_past m_pasts m_refused m_figures_4 m_isLaid m_many m_isMade m_made m_images m_orbits m_chains m_isCarried_5 m_carried_6 m_carriedMany_7 (1 : Int32) m_leasts_8 m_heads_9 m_headFrom_10 m_text m_typed m_at m_fault m_orders m_pointsThen m_letters m_numbers m_h) := hw
        have hl : lv_has ls 6 [(0, .ref m_ad), (1, .int v1_11), (2, .int v2_12)] := hl
        refine lv_iload_n hx hb dX8_sortSets_39 rfl (lv_at hl 2 rfl) ?_
        refine lv_bipush (v := (8 : Int32)) hx hb dX8_sortSets_40 (by decide) ?_
        refine lv_icmp_gt (tgt := 156) hx hb dX8_sortSets_42 (by decide) (fun b4 => ?_) (fun b4 => ?_)
        · replace h := xb_tt b4 h
          obtain rfl := Option.some.inj h
          exact k _ _ _ hw (lv_sub hl [0, 1] rfl)
        · replace h := xb_ff b4 h
          refine lv_aload_n hx hb dX8_sortSets_45 rfl (lv_at hl 0 rfl) ?_
          refine x_get (ci := 7) C hw inX8 rfl 19 (by decide) lkF_X8_54 rfl 0 rfl rfl dX8_sortSets_46 ?_
          refine lv_iload_n hx hb dX8_sortSets_49 rfl (lv_at hl 2 rfl) ?_
          refine lv_iload_n hx hb dX8_sortSets_50 rfl (lv_at hl 1 rfl) ?_
          obtain ⟨b5, h⟩ := xk_i h
          refine x_iast C hw 15 0 rfl rfl b5 dX8_sortSets_51 (fun H locs hw => ?_)
          have hw : xWd (dC, dI) A s.heap H locs (wM cI cZ cB cO m_ad m_p m_now m_held m_past m_pasts m_refused m_figures_4 m_isLaid m_many m_isMade m_made m_images m_orbits m_chains m_isCarried_5 m_carried_6 m_carriedMany_7 (1 : Int32) m_leasts_8 m_heads_9 (upd m_headFrom_10 v2_12.toNatClampNeg v1_11) m_text m_typed m_at m_fault m_orders m_pointsThen m_letters m_numbers m_h) := hw
          refine lv_sipush (v := (255 : Int32)) hx hb dX8_sortSets_52 (by decide) ?_
          refine lv_istore_n (lv' := [(3, .int (255 : Int32)), (0, .ref m_ad), (1, .int v1_11), (2, .int v2_12)]) hx hb dX8_sortSets_55 rfl hl (by decide) rfl (fun ls hl => ?_)
          obtain ⟨z, hr, h⟩ := xn_i h
          refine xL_w (fun (z : (Nat → Int32) × (Nat → Int32) × (Nat → Int32) × Int32 × (Nat → Int32) × (Nat → Int32) × Int32 × Int32) => ∀ (H : Heap) (locs : List Loc) (ls : Array Slot), xWd (dC, dI) A s.heap H locs (wM cI cZ cB cO m_ad m_p m_now m_held m_past m_pasts m_refused z.1 m_isLaid m_many m_isMade m_made m_images m_orbits m_chains z.2.1 z.2.2.1 z.2.2.2.1 (1 : Int32) z.2.2.2.2.1 z.2.2.2.2.2.1 (upd m_headFrom_10 v2_12.toNatClampNeg v1_11) m_text m_typed m_at m_fault m_orders m_pointsThen m_letters m_numbers m_h) → lv_has ls 6 [(0, .ref m_ad), (1, .int z.2.2.2.2.2.2.1), (2, .int v2_12), (3, .int z.2.2.2.2.2.2.2)] → W p l e R s m args below meth c H locs 0 0 Q (F0 m 56 ls [])) (fun (z : (Nat → Int32) × (Nat → Int32) × (Nat → Int32) × Int32 × (Nat → Int32) × (Nat → Int32) × Int32) => ∀ (H : Heap) (locs : List Loc) (ls : Array Slot), xWd (dC, dI) A s.heap H locs (wM cI cZ cB cO m_ad m_p m_now m_held m_past m_pasts m_refused z.1 m_isLaid m_many m_isMade m_made m_images m_orbits m_chains z.2.1 z.2.2.1 z.2.2.2.1 (1 : Int32) z.2.2.2.2.1 z.2.2.2.2.2.1 (upd m_headFrom_10 v2_12.toNatClampNeg v1_11) m_text m_typed m_at m_fault m_orders m_pointsThen m_letters m_numbers m_h) → lv_has ls 6 [(0, .ref m_ad), (1, .int z.2.2.2.2.2.2), (2, .int v2_12)] → W p l e R s m args below meth c H locs 0 0 Q (F0 m 150 ls [])) ?_ hr ?_ _ _ _ hw (lv_sub hl [1, 2, 3, 0] rfl)
          · rintro ⟨m_figures_21, m_isCarried_22, m_carried_23, m_carriedMany_24, m_leasts_25, m_heads_26, v1_27, v3_28⟩ o h k H locs ls hw hl
            have hw : xWd (dC, dI) A s.heap H locs (wM cI cZ cB cO m_ad m_p m_now m_held m_past m_pasts m_refused m_figures_21 m_isLaid m_many m_isMade m_made m_images m_orbits m_chains m_isCarried_22 m_carried_23 m_carriedMany_24 (1 : Int32) m_leasts_25 m_heads_26 (upd m_headFrom_10 v2_12.toNatClampNeg v1_11) m_text m_typed m_at m_fault m_orders m_pointsThen m_letters m_numbers m_h) := hw
            have hl : lv_has ls 6 [(0, .ref m_ad), (1, .int v1_27), (2, .int v2_12), (3, .int v3_28)] := hl
            refine lv_iload_n hx hb dX8_sortSets_56 rfl (lv_at hl 3 rfl) ?_
            refine lv_if_lt (tgt := 150) hx hb dX8_sortSets_57 (by decide) (fun b6 => ?_) (fun b6 => ?_)
            · replace h := xb_tt b6 h
              obtain rfl := Option.some.inj h
              exact k _ _ _ hw (lv_sub hl [0, 1, 2] rfl)
            · replace h := xb_ff b6 h
              refine lv_iload_n hx hb dX8_sortSets_60 rfl (lv_at hl 3 rfl) ?_
              obtain ⟨r_36, q7, h⟩ := xn_i h
              refine x_callSi (As := [.int v3_28]) (rest := []) C hw gc_X8_156 ds_X8_turned (by rw [hR]; exact Nat.le_of_ble_eq_true rfl) (by rw [hR]; exact Nat.le_of_ble_eq_true rfl) rfl rfl (Nat.zero_le _) (Nat.zero_le _) (c_X8_turned l dC dI cI cZ cB cO v3_28 _ q7 _) [] [0, 1, 2, 3, 4, 5, 6, 7, 8, 9, 10, 11, 12, 13, 14, 15, 16, 17, 18] (by decide) rfl rfl (by decide) (by decide) rfl hl.1 rfl (Nat.le_of_ble_eq_true rfl) dX8_sortSets_61 (fun H locs hw => ?_)
              have hw : xWd (dC, dI) A s.heap H locs (wM cI cZ cB cO m_ad m_p m_now m_held m_past m_pasts m_refused m_figures_21 m_isLaid m_many m_isMade m_made m_images m_orbits m_chains m_isCarried_22 m_carried_23 m_carriedMany_24 (1 : Int32) m_leasts_25 m_heads_26 (upd m_headFrom_10 v2_12.toNatClampNeg v1_11) m_text m_typed m_at m_fault m_orders m_pointsThen m_letters m_numbers m_h) := hw.sub [0, 1, 2, 3, 4, 5, 6, 7, 8, 9, 10, 11, 12, 13, 14, 15, 16, 17, 18] (by decide) rfl
              refine lv_istore (lv' := [(4, .int r_36), (0, .ref m_ad), (1, .int v1_27), (2, .int v2_12), (3, .int v3_28)]) hx hb dX8_sortSets_64 hl (by decide) rfl (fun ls hl => ?_)
              refine lv_aload_n hx hb dX8_sortSets_66 rfl (lv_at hl 1 rfl) ?_
              refine lv_iload hx hb dX8_sortSets_67 (lv_at hl 0 rfl) ?_
              obtain ⟨r_37, q8, h⟩ := xn_i h
              refine x_callVi (As := [.int r_36]) (rest := []) C hw gc_X8_144 ⟨rfl, rfl, ds_X8_isSet, (by rw [hR]; exact Nat.le_of_ble_eq_true rfl), (by rw [hR]; exact Nat.le_of_ble_eq_true rfl), Nat.zero_le _, Nat.zero_le _⟩ (c_X8_isSet l dC dI cI cZ cB cO m_ad m_p m_now m_held m_past m_pasts m_refused m_figures_21 m_isLaid m_many m_isMade m_made m_images m_orbits m_chains m_isCarried_22 m_carried_23 m_carriedMany_24 (1 : Int32) m_leasts_25 m_heads_26 (upd m_headFrom_10 v2_12.toNatClampNeg v1_11) m_text m_typed m_at m_fault m_orders m_pointsThen m_letters m_numbers m_h r_36 _ q8 _) [0, 1, 2, 3, 4, 5, 6, 7, 8, 9, 10, 11, 12, 13, 14, 15, 16, 17, 18] [] (by decide) rfl rfl (by decide) (by decide) rfl rfl rfl hl.1 rfl (Nat.le_of_ble_eq_true rfl) dX8_sortSets_69 (fun H locs hw => ?_)
              have hw : xWd (dC, dI) A s.heap H locs (wM cI cZ cB cO m_ad m_p m_now m_held m_past m_pasts m_refused m_figures_21 m_isLaid m_many m_isMade m_made m_images m_orbits m_chains m_isCarried_22 m_carried_23 m_carriedMany_24 (1 : Int32) m_leasts_25 m_heads_26 (upd m_headFrom_10 v2_12.toNatClampNeg v1_11) m_text m_typed m_at m_fault m_orders m_pointsThen m_letters m_numbers m_h) := hw
              refine lv_if_eq (tgt := 144) hx hb dX8_sortSets_72 (by decide) (fun b9 => ?_) (fun b9 => ?_)
              · replace h := xb_tt b9 h
                refine lv_iinc (v := (v3_28 + (-1 : Int32))) (lv' := [(3, .int (v3_28 + (-1 : Int32))), (4, .int r_36), (0, .ref m_ad), (1, .int v1_27), (2, .int v2_12)]) hx hb dX8_sortSets_144 hl (k := 4) rfl (congrArg (fun q => v3_28 + q) (by decide)) (by decide) rfl (fun ls hl => ?_)
                refine lv_goto (tgt := 56) hx hb dX8_sortSets_147 (by decide) ?_
                obtain rfl := Option.some.inj h
                exact k _ _ _ hw (lv_sub hl [2, 3, 4, 0] rfl)
              · replace h := xb_ff b9 h
                refine lv_iload hx hb dX8_sortSets_75 (lv_at hl 0 rfl) ?_
                obtain ⟨r_38, q10, h⟩ := xn_i h
                refine x_callSi (As := [.int r_36]) (rest := []) C hw gc_X8_159 ds_X8_size (by rw [hR]; exact Nat.le_of_ble_eq_true rfl) (by rw [hR]; exact Nat.le_of_ble_eq_true rfl) rfl rfl (Nat.zero_le _) (Nat.zero_le _) (c_X8_size l dC dI cI cZ cB cO r_36 _ q10 _) [] [0, 1, 2, 3, 4, 5, 6, 7, 8, 9, 10, 11, 12, 13, 14, 15, 16, 17, 18] (by decide) rfl rfl (by decide) (by decide) rfl hl.1 rfl (Nat.le_of_ble_eq_true rfl) dX8_sortSets_77 (fun H locs hw => ?_)
                have hw : xWd (dC, dI) A s.heap H locs (wM cI cZ cB cO m_ad m_p m_now m_held m_past m_pasts m_refused m_figures_21 m_isLaid m_many m_isMade m_made m_images m_orbits m_chains m_isCarried_22 m_carried_23 m_carriedMany_24 (1 : Int32) m_leasts_25 m_heads_26 (upd m_headFrom_10 v2_12.toNatClampNeg v1_11) m_text m_typed m_at m_fault m_orders m_pointsThen m_letters m_numbers m_h) := hw.sub [0, 1, 2, 3, 4, 5, 6, 7, 8, 9, 10, 11, 12, 13, 14, 15, 16, 17, 18] (by decide) rfl
                refine lv_iload_n hx hb dX8_sortSets_80 rfl (lv_at hl 3 rfl) ?_
                refine lv_icmp_ne (tgt := 144) hx hb dX8_sortSets_81 (by decide) (fun b11 => ?_) (fun b11 => ?_)
                · replace h := xb_ff b11 h
                  refine lv_iinc (v := (v3_28 + (-1 : Int32))) (lv' := [(3, .int (v3_28 + (-1 : Int32))), (4, .int r_36), (0, .ref m_ad), (1, .int v1_27), (2, .int v2_12)]) hx hb dX8_sortSets_144 hl (k := 4) rfl (congrArg (fun q => v3_28 + q) (by decide)) (by decide) rfl (fun ls hl => ?_)
                  refine lv_goto (tgt := 56) hx hb dX8_sortSets_147 (by decide) ?_
                  obtain rfl := Option.some.inj h
                  exact k _ _ _ hw (lv_sub hl [2, 3, 4, 0] rfl)
                · replace h := xb_tt b11 h
                  refine lv_aload_n hx hb dX8_sortSets_84 rfl (lv_at hl 1 rfl) ?_
                  refine x_get (ci := 7) C hw inX8 rfl 17 (by decide) lkF_X8_48 rfl 0 rfl rfl dX8_sortSets_85 ?_
                  refine lv_iload hx hb dX8_sortSets_88 (lv_at hl 0 rfl) ?_
                  obtain ⟨b12, h⟩ := xk_i h
                  refine x_iald C hw 13 0 rfl rfl b12 dX8_sortSets_90 ?_
                  refine lv_iconst (v := (-1 : Int32)) hx hb dX8_sortSets_91 (by decide) ?_
                  refine lv_icmp_ne (tgt := 144) hx hb dX8_sortSets_92 (by decide) (fun b13 => ?_) (fun b13 => ?_)
                  · replace h := xb_ff b13 h
                    refine lv_iinc (v := (v3_28 + (-1 : Int32))) (lv' := [(3, .int (v3_28 + (-1 : Int32))), (4, .int r_36), (0, .ref m_ad), (1, .int v1_27), (2, .int v2_12)]) hx hb dX8_sortSets_144 hl (k := 4) rfl (congrArg (fun q => v3_28 + q) (by decide)) (by decide) rfl (fun ls hl => ?_)
                    refine lv_goto (tgt := 56) hx hb dX8_sortSets_147 (by decide) ?_
                    obtain rfl := Option.some.inj h
                    exact k _ _ _ hw (lv_sub hl [2, 3, 4, 0] rfl)
                  · replace h := xb_tt b13 h
                    refine lv_aload_n hx hb dX8_sortSets_95 rfl (lv_at hl 1 rfl) ?_
                    refine x_get (ci := 7) C hw inX8 rfl 18 (by decide) lkF_X8_51 rfl 0 rfl rfl dX8_sortSets_96 ?_
                    refine lv_iload_n hx hb dX8_sortSets_99 rfl (lv_at hl 2 rfl) ?_
                    refine lv_iload hx hb dX8_sortSets_100 (lv_at hl 0 rfl) ?_
                    obtain ⟨b14, h⟩ := xk_i h
                    refine x_iast C hw 14 0 rfl rfl b14 dX8_sortSets_102 (fun H locs hw => ?_)
                    have hw : xWd (dC, dI) A s.heap H locs (wM cI cZ cB cO m_ad m_p m_now m_held m_past m_pasts m_refused m_figures_21 m_isLaid m_many m_isMade m_made m_images m_orbits m_chains m_isCarried_22 m_carried_23 m_carriedMany_24 (1 : Int32) m_leasts_25 (upd m_heads_26 v1_27.toNatClampNeg r_36) (upd m_headFrom_10 v2_12.toNatClampNeg v1_11) m_text m_typed m_at m_fault m_orders m_pointsThen m_letters m_numbers m_h) := hw
                    refine lv_iinc (v := (v1_27 + (1 : Int32))) (lv' := [(1, .int (v1_27 + (1 : Int32))), (4, .int r_36), (0, .ref m_ad), (2, .int v2_12), (3, .int v3_28)]) hx hb dX8_sortSets_103 hl (k := 2) rfl (congrArg (fun q => v1_27 + q) (by decide)) (by decide) rfl (fun ls hl => ?_)
                    refine lv_aload_n hx hb dX8_sortSets_106 rfl (lv_at hl 2 rfl) ?_
                    refine lv_iload hx hb dX8_sortSets_107 (lv_at hl 1 rfl) ?_
                    obtain ⟨⟨m_figures_39, m_isCarried_40, m_carried_41, m_carriedMany_42⟩, q15, h⟩ := xn_i h
                    refine x_callVv (As := [.int r_36]) (rest := []) C hw gc_X8_162 ⟨rfl, rfl, ds_X8_findImages, (by rw [hR]; exact Nat.le_of_ble_eq_true rfl), (by rw [hR]; exact Nat.le_of_ble_eq_true rfl), Nat.zero_le _, Nat.zero_le _⟩ (c_X8_findImages l dC dI cI cZ cB cO m_ad m_p m_now m_held m_past m_pasts m_refused m_figures_21 m_isLaid m_many m_isMade m_made m_images m_orbits m_chains m_isCarried_22 m_carried_23 m_carriedMany_24 (1 : Int32) m_leasts_25 (upd m_heads_26 v1_27.toNatClampNeg r_36) (upd m_headFrom_10 v2_12.toNatClampNeg v1_11) m_text m_typed m_at m_fault m_orders m_pointsThen m_letters m_numbers m_h r_36 _ q15 _) [0, 1, 2, 3, 4, 5, 6, 7, 8, 9, 10, 11, 12, 13, 14, 15, 16, 17, 18] [] (by decide) rfl rfl (by decide) (by decide) rfl rfl rfl hl.1 rfl (Nat.le_of_ble_eq_true rfl) dX8_sortSets_109 (fun H locs hw => ?_)
                    have hw : xWd (dC, dI) A s.heap H locs (wM cI cZ cB cO m_ad m_p m_now m_held m_past m_pasts m_refused m_figures_39 m_isLaid m_many m_isMade m_made m_images m_orbits m_chains m_isCarried_40 m_carried_41 m_carriedMany_42 (1 : Int32) m_leasts_25 (upd m_heads_26 v1_27.toNatClampNeg r_36) (upd m_headFrom_10 v2_12.toNatClampNeg v1_11) m_text m_typed m_at m_fault m_orders m_pointsThen m_letters m_numbers m_h) := hw
                    refine lv_iconst (v := (0 : Int32)) hx hb dX8_sortSets_112 (by decide) ?_
                    refine lv_istore (lv' := [(5, .int (0 : Int32)), (1, .int (v1_27 + (1 : Int32))), (4, .int r_36), (0, .ref m_ad), (2, .int v2_12), (3, .int v3_28)]) hx hb dX8_sortSets_113 hl (by decide) rfl (fun ls hl => ?_)
                    obtain ⟨z, hr, h⟩ := xn_i h
                    refine xL_w (fun (z : (Nat → Int32) × Int32) => ∀ (H : Heap) (locs : List Loc) (ls : Array Slot), xWd (dC, dI) A s.heap H locs (wM cI cZ cB cO m_ad m_p m_now m_held m_past m_pasts m_refused m_figures_39 m_isLaid m_many m_isMade m_made m_images m_orbits m_chains m_isCarried_40 m_carried_41 m_carriedMany_42 (1 : Int32) z.1 (upd m_heads_26 v1_27.toNatClampNeg r_36) (upd m_headFrom_10 v2_12.toNatClampNeg v1_11) m_text m_typed m_at m_fault m_orders m_pointsThen m_letters m_numbers m_h) → lv_has ls 6 [(0, .ref m_ad), (1, .int (v1_27 + (1 : Int32))), (2, .int v2_12), (3, .int v3_28), (4, .int r_36), (5, .int z.2)] → W p l e R s m args below meth c H locs 0 0 Q (F0 m 115 ls [])) (fun (z : (Nat → Int32)) => ∀ (H : Heap) (locs : List Loc) (ls : Array Slot), xWd (dC, dI) A s.heap H locs (wM cI cZ cB cO m_ad m_p m_now m_held m_past m_pasts m_refused m_figures_39 m_isLaid m_many m_isMade m_made m_images m_orbits m_chains m_isCarried_40 m_carried_41 m_carriedMany_42 (1 : Int32) z (upd m_heads_26 v1_27.toNatClampNeg r_36) (upd m_headFrom_10 v2_12.toNatClampNeg v1_11) m_text m_typed m_at m_fault m_orders m_pointsThen m_letters m_numbers m_h) → lv_has ls 6 [(0, .ref m_ad), (1, .int (v1_27 + (1 : Int32))), (2, .int v2_12), (3, .int v3_28)] → W p l e R s m args below meth c H locs 0 0 Q (F0 m 144 ls [])) ?_ hr ?_ _ _ _ hw (lv_sub hl [3, 1, 4, 5, 2, 0] rfl)
                    · rintro ⟨m_leasts_43, v5_44⟩ o h k H locs ls hw hl
                      have hw : xWd (dC, dI) A s.heap H locs (wM cI cZ cB cO m_ad m_p m_now m_held m_past m_pasts m_refused m_figures_39 m_isLaid m_many m_isMade m_made m_images m_orbits m_chains m_isCarried_40 m_carried_41 m_carriedMany_42 (1 : Int32) m_leasts_43 (upd m_heads_26 v1_27.toNatClampNeg r_36) (upd m_headFrom_10 v2_12.toNatClampNeg v1_11) m_text m_typed m_at m_fault m_orders m_pointsThen m_letters m_numbers m_h) := hw
                      have hl : lv_has ls 6 [(0, .ref m_ad), (1, .int (v1_27 + (1 : Int32))), (2, .int v2_12), (3, .int v3_28), (4, .int r_36), (5, .int v5_44)] := hl
                      refine lv_iload hx hb dX8_sortSets_115 (lv_at hl 5 rfl) ?_
                      refine lv_aload_n hx hb dX8_sortSets_117 rfl (lv_at hl 0 rfl) ?_
                      refine x_get (ci := 7) C hw inX8 rfl 15 (by decide) lkF_X8_150 rfl 0 rfl rfl dX8_sortSets_118 ?_
                      refine lv_icmp_ge (tgt := 144) hx hb dX8_sortSets_121 (by decide) (fun b16 => ?_) (fun b16 => ?_)
                      · replace h := xb_tt b16 h
                        obtain rfl := Option.some.inj h
                        exact k _ _ _ hw (lv_sub hl [0, 1, 2, 3] rfl)
                      · replace h := xb_ff b16 h
                        refine lv_aload_n hx hb dX8_sortSets_124 rfl (lv_at hl 0 rfl) ?_
                        refine x_get (ci := 7) C hw inX8 rfl 17 (by decide) lkF_X8_48 rfl 0 rfl rfl dX8_sortSets_125 ?_
                        refine lv_aload_n hx hb dX8_sortSets_128 rfl (lv_at hl 0 rfl) ?_
                        refine x_get (ci := 7) C hw inX8 rfl 14 (by decide) lkF_X8_45 rfl 0 rfl rfl dX8_sortSets_129 ?_
                        refine lv_iload hx hb dX8_sortSets_132 (lv_at hl 5 rfl) ?_
                        obtain ⟨b17, h⟩ := xk_i h
                        refine x_iald C hw 12 0 rfl rfl b17 dX8_sortSets_134 ?_
                        refine lv_iload hx hb dX8_sortSets_135 (lv_at hl 4 rfl) ?_
                        obtain ⟨b18, h⟩ := xk_i h
                        refine x_iast C hw 13 0 rfl rfl b18 dX8_sortSets_137 (fun H locs hw => ?_)
                        have hw : xWd (dC, dI) A s.heap H locs (wM cI cZ cB cO m_ad m_p m_now m_held m_past m_pasts m_refused m_figures_39 m_isLaid m_many m_isMade m_made m_images m_orbits m_chains m_isCarried_40 m_carried_41 m_carriedMany_42 (1 : Int32) (upd m_leasts_43 (m_carried_41 v5_44.toNatClampNeg).toNatClampNeg r_36) (upd m_heads_26 v1_27.toNatClampNeg r_36) (upd m_headFrom_10 v2_12.toNatClampNeg v1_11) m_text m_typed m_at m_fault m_orders m_pointsThen m_letters m_numbers m_h) := hw
                        refine lv_iinc (v := (v5_44 + (1 : Int32))) (lv' := [(5, .int (v5_44 + (1 : Int32))), (0, .ref m_ad), (1, .int (v1_27 + (1 : Int32))), (2, .int v2_12), (3, .int v3_28), (4, .int r_36)]) hx hb dX8_sortSets_138 hl (k := 5) rfl (congrArg (fun q => v5_44 + q) (by decide)) (by decide) rfl (fun ls hl => ?_)
                        refine lv_goto (tgt := 115) hx hb dX8_sortSets_141 (by decide) ?_
                        obtain rfl := Option.some.inj h
                        exact k _ _ _ hw (lv_sub hl [1, 2, 3, 4, 5, 0] rfl)
                    · obtain ⟨m_leasts_45, hz⟩ : ∃ q, q = z := ⟨z, rfl⟩
                      subst hz
                      intro H locs ls hw hl
                      have hw : xWd (dC, dI) A s.heap H locs (wM cI cZ cB cO m_ad m_p m_now m_held m_past m_pasts m_refused m_figures_39 m_isLaid m_many m_isMade m_made m_images m_orbits m_chains m_isCarried_40 m_carried_41 m_carriedMany_42 (1 : Int32) m_leasts_45 (upd m_heads_26 v1_27.toNatClampNeg r_36) (upd m_headFrom_10 v2_12.toNatClampNeg v1_11) m_text m_typed m_at m_fault m_orders m_pointsThen m_letters m_numbers m_h) := hw
                      have hl : lv_has ls 6 [(0, .ref m_ad), (1, .int (v1_27 + (1 : Int32))), (2, .int v2_12), (3, .int v3_28)] := hl
                      refine lv_iinc (v := (v3_28 + (-1 : Int32))) (lv' := [(3, .int (v3_28 + (-1 : Int32))), (0, .ref m_ad), (1, .int (v1_27 + (1 : Int32))), (2, .int v2_12)]) hx hb dX8_sortSets_144 hl (k := 3) rfl (congrArg (fun q => v3_28 + q) (by decide)) (by decide) rfl (fun ls hl => ?_)
                      refine lv_goto (tgt := 56) hx hb dX8_sortSets_147 (by decide) ?_
                      obtain rfl := Option.some.inj h
                      exact k _ _ _ hw (lv_sub hl [1, 2, 3, 0] rfl)
          · obtain ⟨m_figures_29, m_isCarried_30, m_carried_31, m_carriedMany_32, m_leasts_33, m_heads_34, v1_35⟩ := z
            intro H locs ls hw hl
            have hw : xWd (dC, dI) A s.heap H locs (wM cI cZ cB cO m_ad m_p m_now m_held m_past m_pasts m_refused m_figures_29 m_isLaid m_many m_isMade m_made m_images m_orbits m_chains m_isCarried_30 m_carried_31 m_carriedMany_32 (1 : Int32) m_leasts_33 m_heads_34 (upd m_headFrom_10 v2_12.toNatClampNeg v1_11) m_text m_typed m_at m_fault m_orders m_pointsThen m_letters m_numbers m_h) := hw
            have hl : lv_has ls 6 [(0, .ref m_ad), (1, .int v1_35), (2, .int v2_12)] := hl
            refine lv_iinc (v := (v2_12 + (1 : Int32))) (lv' := [(2, .int (v2_12 + (1 : Int32))), (0, .ref m_ad), (1, .int v1_35)]) hx hb dX8_sortSets_150 hl (k := 2) rfl (congrArg (fun q => v2_12 + q) (by decide)) (by decide) rfl (fun ls hl => ?_)
            refine lv_goto (tgt := 39) hx hb dX8_sortSets_153 (by decide) ?_
            obtain rfl := Option.some.inj h
            exact k _ _ _ hw (lv_sub hl [1, 2, 0] rfl)
      · obtain ⟨m_figures_13, m_isCarried_14, m_carried_15, m_carriedMany_16, m_leasts_17, m_heads_18, m_headFrom_19, v1_20⟩ := z
        intro H locs ls hw hl
        have hw : xWd (dC, dI) A s.heap H locs (wM cI cZ cB cO m_ad m_p m_now m_held m_past m_pasts m_refused m_figures_13 m_isLaid m_many m_isMade m_made m_images m_orbits m_chains m_isCarried_14 m_carried_15 m_carriedMany_16 (1 : Int32) m_leasts_17 m_heads_18 m_headFrom_19 m_text m_typed m_at m_fault m_orders m_pointsThen m_letters m_numbers m_h) := hw
        have hl : lv_has ls 6 [(0, .ref m_ad), (1, .int v1_20)] := hl
        refine lv_aload_n hx hb dX8_sortSets_156 rfl (lv_at hl 0 rfl) ?_
        refine x_get (ci := 7) C hw inX8 rfl 19 (by decide) lkF_X8_54 rfl 0 rfl rfl dX8_sortSets_157 ?_
        refine lv_bipush (v := (9 : Int32)) hx hb dX8_sortSets_160 (by decide) ?_
        refine lv_iload_n hx hb dX8_sortSets_162 rfl (lv_at hl 1 rfl) ?_
        refine x_iask C hw 15 0 rfl rfl (k := 9) (by decide) (vp_in_iff.mpr (by decide)) dX8_sortSets_163 (fun H locs hw => ?_)
        have hw : xWd (dC, dI) A s.heap H locs (wM cI cZ cB cO m_ad m_p m_now m_held m_past m_pasts m_refused m_figures_13 m_isLaid m_many m_isMade m_made m_images m_orbits m_chains m_isCarried_14 m_carried_15 m_carriedMany_16 (1 : Int32) m_leasts_17 m_heads_18 (upd m_headFrom_19 9 v1_20) m_text m_typed m_at m_fault m_orders m_pointsThen m_letters m_numbers m_h) := hw
        obtain rfl := Option.some.inj h
        exact x_retv C hQ hA hw dX8_sortSets_164
  · replace h := xb_ff b1 h
    obtain rfl := Option.some.inj h
    exact x_retv C hQ hA hw dX8_sortSets_7
noncomputable def f_X8_leastOf (m_now : (Nat → Int32)) (m_figures : (Nat → Int32)) (m_isCarried : (Nat → Int32)) (m_carried : (Nat → Int32)) (m_carriedMany : Int32) (m_isSorted : Int32) (m_leasts : (Nat → Int32)) (m_heads : (Nat → Int32)) (m_headFrom : (Nat → Int32)) (v1 : Int32) : Option ((Nat → Int32) × (Nat → Int32) × (Nat → Int32) × Int32 × Int32 × (Nat → Int32) × (Nat → Int32) × (Nat → Int32) × Int32) := xn (f_X8_sortSets m_now m_figures m_isCarried m_carried m_carriedMany m_isSorted m_leasts m_heads m_headFrom) (fun (z : (Nat → Int32) × (Nat → Int32) × (Nat → Int32) × Int32 × Int32 × (Nat → Int32) × (Nat → Int32) × (Nat → Int32)) => match z with | (m_figures_1, m_isCarried_2, m_carried_3, m_carriedMany_4, m_isSorted_5, m_leasts_6, m_heads_7, m_headFrom_8) => xk (vp_in v1 256) (some (m_figures_1, m_isCarried_2, m_carried_3, m_carriedMany_4, m_isSorted_5, m_leasts_6, m_heads_7, m_headFrom_8, (m_leasts_6 v1.toNatClampNeg))))
set_option maxHeartbeats 4000000 in
set_option maxRecDepth 100000 in
theorem c_X8_leastOf (l : Launch) (dC : Nat → ClassId) (dI : Nat → Nat → Nat) (cI cZ cB cO : ClassId) (m_ad : Nat) (m_p : Nat → Nat) (m_now : (Nat → Int32)) (m_held : (Nat → Int32)) (m_past : (Nat → Int32)) (m_pasts : Int32) (m_refused : (Nat → Int32)) (m_figures : (Nat → Int32)) (m_isLaid : Int32) (m_many : Int32) (m_isMade : (Nat → Int32)) (m_made : (Nat → Int32)) (m_images : (Nat → Int32)) (m_orbits : (Nat → Int32)) (m_chains : (Nat → Int32)) (m_isCarried : (Nat → Int32)) (m_carried : (Nat → Int32)) (m_carriedMany : Int32) (m_isSorted : Int32) (m_leasts : (Nat → Int32)) (m_heads : (Nat → Int32)) (m_headFrom : (Nat → Int32)) (m_text : (Nat → Int32)) (m_typed : Int32) (m_at : Int32) (m_fault : Int32) (m_orders : Int32) (m_pointsThen : Int32) (m_letters : (Nat → Int32)) (m_numbers : (Nat → Int32)) (m_h : Int64) (v1 : Int32) (o : (Nat → Int32) × (Nat → Int32) × (Nat → Int32) × Int32 × Int32 × (Nat → Int32) × (Nat → Int32) × (Nat → Int32) × Int32) (h : f_X8_leastOf m_now m_figures m_isCarried m_carried m_carriedMany m_isSorted m_leasts m_heads m_headFrom v1 = some o) (sz : Nat) : Met l yX8_leastOf (xW yX8_leastOf cX8_leastOf 2 (some .int)) { frames := 4, cells := 0, slots := 0, locals := 92 } (xPre dC dI (xT cI cZ cB cO) [.ref m_ad, .int v1] (wM cI cZ cB cO m_ad m_p m_now m_held m_past m_pasts m_refused m_figures m_isLaid m_many m_isMade m_made m_images m_orbits m_chains m_isCarried m_carried m_carriedMany m_isSorted m_leasts m_heads m_headFrom m_text m_typed m_at m_fault m_orders m_pointsThen m_letters m_numbers m_h) sz) (xQi dC dI (xT cI cZ cB cO) o.2.2.2.2.2.2.2.2 (wM cI cZ cB cO m_ad m_p m_now m_held m_past m_pasts m_refused m_figures m_isLaid m_many m_isMade m_made m_images m_orbits m_chains m_isCarried m_carried m_carriedMany m_isSorted m_leasts m_heads m_headFrom m_text m_typed m_at m_fault m_orders m_pointsThen m_letters m_numbers m_h) (wM cI cZ cB cO m_ad m_p m_now m_held m_past m_pasts m_refused o.1 m_isLaid m_many m_isMade m_made m_images m_orbits m_chains o.2.1 o.2.2.1 o.2.2.2.1 o.2.2.2.2.1 o.2.2.2.2.2.1 o.2.2.2.2.2.2.1 o.2.2.2.2.2.2.2.1 m_text m_typed m_at m_fault m_orders m_pointsThen m_letters m_numbers m_h) sz) 0 0 (va_A (wM cI cZ cB cO m_ad m_p m_now m_held m_past m_pasts m_refused m_figures m_isLaid m_many m_isMade m_made m_images m_orbits m_chains m_isCarried m_carried m_carriedMany m_isSorted m_leasts m_heads m_headFrom m_text m_typed m_at m_fault m_orders m_pointsThen m_letters m_numbers m_h) sz) := by
  refine x_met (by decide) (Nat.le_of_ble_eq_true rfl) ?_
  intro p e s m args below meth c R Q A hR hsz hA hQ hin C hw ls hl
  have hx := C.1
  have hb := C.2.1
  have hown := C.2.2.2.1
  have htb := C.2.2.2.2.1
  have hl : lv_has ls 2 [(0, .ref m_ad), (1, .int v1)] := hl
  refine lv_aload_n hx hb dX8_leastOf_0 rfl (lv_at hl 0 rfl) ?_
  obtain ⟨⟨m_figures_1, m_isCarried_2, m_carried_3, m_carriedMany_4, m_isSorted_5, m_leasts_6, m_heads_7, m_headFrom_8⟩, q1, h⟩ := xn_i h
  refine x_callVv (As := []) (rest := []) C hw gc_X8_165 ⟨rfl, rfl, ds_X8_sortSets, (by rw [hR]; exact Nat.le_of_ble_eq_true rfl), (by rw [hR]; exact Nat.le_of_ble_eq_true rfl), Nat.zero_le _, Nat.zero_le _⟩ (c_X8_sortSets l dC dI cI cZ cB cO m_ad m_p m_now m_held m_past m_pasts m_refused m_figures m_isLaid m_many m_isMade m_made m_images m_orbits m_chains m_isCarried m_carried m_carriedMany m_isSorted m_leasts m_heads m_headFrom m_text m_typed m_at m_fault m_orders m_pointsThen m_letters m_numbers m_h _ q1 _) [0, 1, 2, 3, 4, 5, 6, 7, 8, 9, 10, 11, 12, 13, 14, 15, 16, 17, 18] [] (by decide) rfl rfl (by decide) (by decide) rfl rfl rfl hl.1 rfl (Nat.le_of_ble_eq_true rfl) dX8_leastOf_1 (fun H locs hw => ?_)
  have hw : xWd (dC, dI) A s.heap H locs (wM cI cZ cB cO m_ad m_p m_now m_held m_past m_pasts m_refused m_figures_1 m_isLaid m_many m_isMade m_made m_images m_orbits m_chains m_isCarried_2 m_carried_3 m_carriedMany_4 m_isSorted_5 m_leasts_6 m_heads_7 m_headFrom_8 m_text m_typed m_at m_fault m_orders m_pointsThen m_letters m_numbers m_h) := hw
  refine lv_aload_n hx hb dX8_leastOf_4 rfl (lv_at hl 0 rfl) ?_
  refine x_get (ci := 7) C hw inX8 rfl 17 (by decide) lkF_X8_48 rfl 0 rfl rfl dX8_leastOf_5 ?_
  refine lv_iload_n hx hb dX8_leastOf_8 rfl (lv_at hl 1 rfl) ?_
  obtain ⟨b2, h⟩ := xk_i h
  refine x_iald C hw 13 0 rfl rfl b2 dX8_leastOf_9 ?_
  obtain rfl := Option.some.inj h
  exact x_reti C hQ hA hw dX8_leastOf_10
noncomputable def f_X8_least (m_now : (Nat → Int32)) (m_refused : (Nat → Int32)) (m_figures : (Nat → Int32)) (m_isCarried : (Nat → Int32)) (m_carried : (Nat → Int32)) (m_carriedMany : Int32) (m_isSorted : Int32) (m_leasts : (Nat → Int32)) (m_heads : (Nat → Int32)) (m_headFrom : (Nat → Int32)) (v1 : Int32) : Option ((Nat → Int32) × (Nat → Int32) × (Nat → Int32) × (Nat → Int32) × Int32 × Int32 × (Nat → Int32) × (Nat → Int32) × (Nat → Int32) × Int32) := xn (f_X8_isSet m_now v1) (fun (r_1 : Int32) => xb (r_1 = 0) (xn (f_X8_refuses m_refused (-2 : Int32)) (fun (z : (Nat → Int32) × Int32) => match z with | (m_refused_2, r_3) => some (m_refused_2, m_figures, m_isCarried, m_carried, m_carriedMany, m_isSorted, m_leasts, m_heads, m_headFrom, r_3))) (xn (f_X8_leastOf m_now m_figures m_isCarried m_carried m_carriedMany m_isSorted m_leasts m_heads m_headFrom v1) (fun (z : (Nat → Int32) × (Nat → Int32) × (Nat → Int32) × Int32 × Int32 × (Nat → Int32) × (Nat → Int32) × (Nat → Int32) × Int32) => match z with | (m_figures_4, m_isCarried_5, m_carried_6, m_carriedMany_7, m_isSorted_8, m_leasts_9, m_heads_10, m_headFrom_11, r_12) => some (m_refused, m_figures_4, m_isCarried_5, m_carried_6, m_carriedMany_7, m_isSorted_8, m_leasts_9, m_heads_10, m_headFrom_11, r_12))))
set_option maxHeartbeats 4000000 in
set_option maxRecDepth 100000 in
theorem c_X8_least (l : Launch) (dC : Nat → ClassId) (dI : Nat → Nat → Nat) (cI cZ cB cO : ClassId) (m_ad : Nat) (m_p : Nat → Nat) (m_now : (Nat → Int32)) (m_held : (Nat → Int32)) (m_past : (Nat → Int32)) (m_pasts : Int32) (m_refused : (Nat → Int32)) (m_figures : (Nat → Int32)) (m_isLaid : Int32) (m_many : Int32) (m_isMade : (Nat → Int32)) (m_made : (Nat → Int32)) (m_images : (Nat → Int32)) (m_orbits : (Nat → Int32)) (m_chains : (Nat → Int32)) (m_isCarried : (Nat → Int32)) (m_carried : (Nat → Int32)) (m_carriedMany : Int32) (m_isSorted : Int32) (m_leasts : (Nat → Int32)) (m_heads : (Nat → Int32)) (m_headFrom : (Nat → Int32)) (m_text : (Nat → Int32)) (m_typed : Int32) (m_at : Int32) (m_fault : Int32) (m_orders : Int32) (m_pointsThen : Int32) (m_letters : (Nat → Int32)) (m_numbers : (Nat → Int32)) (m_h : Int64) (v1 : Int32) (o : (Nat → Int32) × (Nat → Int32) × (Nat → Int32) × (Nat → Int32) × Int32 × Int32 × (Nat → Int32) × (Nat → Int32) × (Nat → Int32) × Int32) (h : f_X8_least m_now m_refused m_figures m_isCarried m_carried m_carriedMany m_isSorted m_leasts m_heads m_headFrom v1 = some o) (sz : Nat) : Met l yX8_least (xW yX8_least cX8_least 2 (some .int)) { frames := 5, cells := 0, slots := 0, locals := 113 } (xPre dC dI (xT cI cZ cB cO) [.ref m_ad, .int v1] (wM cI cZ cB cO m_ad m_p m_now m_held m_past m_pasts m_refused m_figures m_isLaid m_many m_isMade m_made m_images m_orbits m_chains m_isCarried m_carried m_carriedMany m_isSorted m_leasts m_heads m_headFrom m_text m_typed m_at m_fault m_orders m_pointsThen m_letters m_numbers m_h) sz) (xQi dC dI (xT cI cZ cB cO) o.2.2.2.2.2.2.2.2.2 (wM cI cZ cB cO m_ad m_p m_now m_held m_past m_pasts m_refused m_figures m_isLaid m_many m_isMade m_made m_images m_orbits m_chains m_isCarried m_carried m_carriedMany m_isSorted m_leasts m_heads m_headFrom m_text m_typed m_at m_fault m_orders m_pointsThen m_letters m_numbers m_h) (wM cI cZ cB cO m_ad m_p m_now m_held m_past m_pasts o.1 o.2.1 m_isLaid m_many m_isMade m_made m_images m_orbits m_chains o.2.2.1 o.2.2.2.1 o.2.2.2.2.1 o.2.2.2.2.2.1 o.2.2.2.2.2.2.1 o.2.2.2.2.2.2.2.1 o.2.2.2.2.2.2.2.2.1 m_text m_typed m_at m_fault m_orders m_pointsThen m_letters m_numbers m_h) sz) 0 0 (va_A (wM cI cZ cB cO m_ad m_p m_now m_held m_past m_pasts m_refused m_figures m_isLaid m_many m_isMade m_made m_images m_orbits m_chains m_isCarried m_carried m_carriedMany m_isSorted m_leasts m_heads m_headFrom m_text m_typed m_at m_fault m_orders m_pointsThen m_letters m_numbers m_h) sz) := by
  refine x_met (by decide) (Nat.le_of_ble_eq_true rfl) ?_
  intro p e s m args below meth c R Q A hR hsz hA hQ hin C hw ls hl
  have hx := C.1
  have hb := C.2.1
  have hown := C.2.2.2.1
  have htb := C.2.2.2.2.1
  have hl : lv_has ls 2 [(0, .ref m_ad), (1, .int v1)] := hl
  refine lv_aload_n hx hb dX8_least_0 rfl (lv_at hl 0 rfl) ?_
  refine lv_iload_n hx hb dX8_least_1 rfl (lv_at hl 1 rfl) ?_
  obtain ⟨r_1, q1, h⟩ := xn_i h
  refine x_callVi (As := [.int v1]) (rest := []) C hw gc_X8_144 ⟨rfl, rfl, ds_X8_isSet, (by rw [hR]; exact Nat.le_of_ble_eq_true rfl), (by rw [hR]; exact Nat.le_of_ble_eq_true rfl), Nat.zero_le _, Nat.zero_le _⟩ (c_X8_isSet l dC dI cI cZ cB cO m_ad m_p m_now m_held m_past m_pasts m_refused m_figures m_isLaid m_many m_isMade m_made m_images m_orbits m_chains m_isCarried m_carried m_carriedMany m_isSorted m_leasts m_heads m_headFrom m_text m_typed m_at m_fault m_orders m_pointsThen m_letters m_numbers m_h v1 _ q1 _) [0, 1, 2, 3, 4, 5, 6, 7, 8, 9, 10, 11, 12, 13, 14, 15, 16, 17, 18] [] (by decide) rfl rfl (by decide) (by decide) rfl rfl rfl hl.1 rfl (Nat.le_of_ble_eq_true rfl) dX8_least_2 (fun H locs hw => ?_)
  have hw : xWd (dC, dI) A s.heap H locs (wM cI cZ cB cO m_ad m_p m_now m_held m_past m_pasts m_refused m_figures m_isLaid m_many m_isMade m_made m_images m_orbits m_chains m_isCarried m_carried m_carriedMany m_isSorted m_leasts m_heads m_headFrom m_text m_typed m_at m_fault m_orders m_pointsThen m_letters m_numbers m_h) := hw
  refine lv_if_eq (tgt := 16) hx hb dX8_least_5 (by decide) (fun b2 => ?_) (fun b2 => ?_)
  · replace h := xb_tt b2 h
    refine lv_aload_n hx hb dX8_least_16 rfl (lv_at hl 0 rfl) ?_
    refine lv_bipush (v := (-2 : Int32)) hx hb dX8_least_17 (by decide) ?_
    obtain ⟨⟨m_refused_2, r_3⟩, q3, h⟩ := xn_i h
    refine x_callVi (As := [.int (-2 : Int32)]) (rest := []) C hw gc_X8_70 ⟨rfl, rfl, ds_X8_refuses, (by rw [hR]; exact Nat.le_of_ble_eq_true rfl), (by rw [hR]; exact Nat.le_of_ble_eq_true rfl), Nat.zero_le _, Nat.zero_le _⟩ (c_X8_refuses l dC dI cI cZ cB cO m_ad m_p m_now m_held m_past m_pasts m_refused m_figures m_isLaid m_many m_isMade m_made m_images m_orbits m_chains m_isCarried m_carried m_carriedMany m_isSorted m_leasts m_heads m_headFrom m_text m_typed m_at m_fault m_orders m_pointsThen m_letters m_numbers m_h (-2 : Int32) _ q3 _) [0, 1, 2, 3, 4, 5, 6, 7, 8, 9, 10, 11, 12, 13, 14, 15, 16, 17, 18] [] (by decide) rfl rfl (by decide) (by decide) rfl rfl rfl hl.1 rfl (Nat.le_of_ble_eq_true rfl) dX8_least_19 (fun H locs hw => ?_)
    have hw : xWd (dC, dI) A s.heap H locs (wM cI cZ cB cO m_ad m_p m_now m_held m_past m_pasts m_refused_2 m_figures m_isLaid m_many m_isMade m_made m_images m_orbits m_chains m_isCarried m_carried m_carriedMany m_isSorted m_leasts m_heads m_headFrom m_text m_typed m_at m_fault m_orders m_pointsThen m_letters m_numbers m_h) := hw
    obtain rfl := Option.some.inj h
    exact x_reti C hQ hA hw dX8_least_22
  · replace h := xb_ff b2 h
    refine lv_aload_n hx hb dX8_least_8 rfl (lv_at hl 0 rfl) ?_
    refine lv_iload_n hx hb dX8_least_9 rfl (lv_at hl 1 rfl) ?_
    obtain ⟨⟨m_figures_4, m_isCarried_5, m_carried_6, m_carriedMany_7, m_isSorted_8, m_leasts_9, m_heads_10, m_headFrom_11, r_12⟩, q4, h⟩ := xn_i h
    refine x_callVi (As := [.int v1]) (rest := []) C hw gc_X8_168 ⟨rfl, rfl, ds_X8_leastOf, (by rw [hR]; exact Nat.le_of_ble_eq_true rfl), (by rw [hR]; exact Nat.le_of_ble_eq_true rfl), Nat.zero_le _, Nat.zero_le _⟩ (c_X8_leastOf l dC dI cI cZ cB cO m_ad m_p m_now m_held m_past m_pasts m_refused m_figures m_isLaid m_many m_isMade m_made m_images m_orbits m_chains m_isCarried m_carried m_carriedMany m_isSorted m_leasts m_heads m_headFrom m_text m_typed m_at m_fault m_orders m_pointsThen m_letters m_numbers m_h v1 _ q4 _) [0, 1, 2, 3, 4, 5, 6, 7, 8, 9, 10, 11, 12, 13, 14, 15, 16, 17, 18] [] (by decide) rfl rfl (by decide) (by decide) rfl rfl rfl hl.1 rfl (Nat.le_of_ble_eq_true rfl) dX8_least_10 (fun H locs hw => ?_)
    have hw : xWd (dC, dI) A s.heap H locs (wM cI cZ cB cO m_ad m_p m_now m_held m_past m_pasts m_refused m_figures_4 m_isLaid m_many m_isMade m_made m_images m_orbits m_chains m_isCarried_5 m_carried_6 m_carriedMany_7 m_isSorted_8 m_leasts_9 m_heads_10 m_headFrom_11 m_text m_typed m_at m_fault m_orders m_pointsThen m_letters m_numbers m_h) := hw
    refine lv_goto (tgt := 22) hx hb dX8_least_13 (by decide) ?_
    obtain rfl := Option.some.inj h
    exact x_reti C hQ hA hw dX8_least_22
noncomputable def f_X8_images (m_now : (Nat → Int32)) (m_refused : (Nat → Int32)) (m_figures : (Nat → Int32)) (m_isCarried : (Nat → Int32)) (m_carried : (Nat → Int32)) (m_carriedMany : Int32) (v1 : Int32) (v2 : Int32) : Option ((Nat → Int32) × (Nat → Int32) × (Nat → Int32) × (Nat → Int32) × Int32 × Int32) := xn (f_X8_isSet m_now v1) (fun (r_1 : Int32) => xb (r_1 = 0) (xn (f_X8_refuses m_refused (-2 : Int32)) (fun (z : (Nat → Int32) × Int32) => match z with | (m_refused_2, r_3) => some (m_refused_2, m_figures, m_isCarried, m_carried, m_carriedMany, r_3))) (xb ((-1 : Int32) ≤ v2) (xn (f_X8_findImages m_now m_figures m_isCarried m_carried m_carriedMany v1) (fun (z : (Nat → Int32) × (Nat → Int32) × (Nat → Int32) × Int32) => match z with | (m_figures_4, m_isCarried_5, m_carried_6, m_carriedMany_7) => xb (v2 = (-1 : Int32)) (some (m_refused, m_figures_4, m_isCarried_5, m_carried_6, m_carriedMany_7, m_carriedMany_7)) (xb (m_carriedMany_7 ≤ v2) (some (m_refused, m_figures_4, m_isCarried_5, m_carried_6, m_carriedMany_7, (-5 : Int32))) (xk (vp_in v2 256) (some (m_refused, m_figures_4, m_isCarried_5, m_carried_6, m_carriedMany_7, (m_carried_6 v2.toNatClampNeg))))))) (xn (f_X8_refuses m_refused (-2 : Int32)) (fun (z : (Nat → Int32) × Int32) => match z with | (m_refused_8, r_9) => some (m_refused_8, m_figures, m_isCarried, m_carried, m_carriedMany, r_9)))))
set_option maxHeartbeats 4000000 in
set_option maxRecDepth 100000 in
theorem c_X8_images (l : Launch) (dC : Nat → ClassId) (dI : Nat → Nat → Nat) (cI cZ cB cO : ClassId) (m_ad : Nat) (m_p : Nat → Nat) (m_now : (Nat → Int32)) (m_held : (Nat → Int32)) (m_past : (Nat → Int32)) (m_pasts : Int32) (m_refused : (Nat → Int32)) (m_figures : (Nat → Int32)) (m_isLaid : Int32) (m_many : Int32) (m_isMade : (Nat → Int32)) (m_made : (Nat → Int32)) (m_images : (Nat → Int32)) (m_orbits : (Nat → Int32)) (m_chains : (Nat → Int32)) (m_isCarried : (Nat → Int32)) (m_carried : (Nat → Int32)) (m_carriedMany : Int32) (m_isSorted : Int32) (m_leasts : (Nat → Int32)) (m_heads : (Nat → Int32)) (m_headFrom : (Nat → Int32)) (m_text : (Nat → Int32)) (m_typed : Int32) (m_at : Int32) (m_fault : Int32) (m_orders : Int32) (m_pointsThen : Int32) (m_letters : (Nat → Int32)) (m_numbers : (Nat → Int32)) (m_h : Int64) (v1 : Int32) (v2 : Int32) (o : (Nat → Int32) × (Nat → Int32) × (Nat → Int32) × (Nat → Int32) × Int32 × Int32) (h : f_X8_images m_now m_refused m_figures m_isCarried m_carried m_carriedMany v1 v2 = some o) (sz : Nat) : Met l yX8_images (xW yX8_images cX8_images 3 (some .int)) { frames := 3, cells := 0, slots := 0, locals := 67 } (xPre dC dI (xT cI cZ cB cO) [.ref m_ad, .int v1, .int v2] (wM cI cZ cB cO m_ad m_p m_now m_held m_past m_pasts m_refused m_figures m_isLaid m_many m_isMade m_made m_images m_orbits m_chains m_isCarried m_carried m_carriedMany m_isSorted m_leasts m_heads m_headFrom m_text m_typed m_at m_fault m_orders m_pointsThen m_letters m_numbers m_h) sz) (xQi dC dI (xT cI cZ cB cO) o.2.2.2.2.2 (wM cI cZ cB cO m_ad m_p m_now m_held m_past m_pasts m_refused m_figures m_isLaid m_many m_isMade m_made m_images m_orbits m_chains m_isCarried m_carried m_carriedMany m_isSorted m_leasts m_heads m_headFrom m_text m_typed m_at m_fault m_orders m_pointsThen m_letters m_numbers m_h) (wM cI cZ cB cO m_ad m_p m_now m_held m_past m_pasts o.1 o.2.1 m_isLaid m_many m_isMade m_made m_images m_orbits m_chains o.2.2.1 o.2.2.2.1 o.2.2.2.2.1 m_isSorted m_leasts m_heads m_headFrom m_text m_typed m_at m_fault m_orders m_pointsThen m_letters m_numbers m_h) sz) 0 0 (va_A (wM cI cZ cB cO m_ad m_p m_now m_held m_past m_pasts m_refused m_figures m_isLaid m_many m_isMade m_made m_images m_orbits m_chains m_isCarried m_carried m_carriedMany m_isSorted m_leasts m_heads m_headFrom m_text m_typed m_at m_fault m_orders m_pointsThen m_letters m_numbers m_h) sz) := by
  refine x_met (by decide) (Nat.le_of_ble_eq_true rfl) ?_
  intro p e s m args below meth c R Q A hR hsz hA hQ hin C hw ls hl
  have hx := C.1
  have hb := C.2.1
  have hown := C.2.2.2.1
  have htb := C.2.2.2.2.1
  have hl : lv_has ls 3 [(0, .ref m_ad), (1, .int v1), (2, .int v2)] := hl
  refine lv_aload_n hx hb dX8_images_0 rfl (lv_at hl 0 rfl) ?_
  refine lv_iload_n hx hb dX8_images_1 rfl (lv_at hl 1 rfl) ?_
  obtain ⟨r_1, q1, h⟩ := xn_i h
  refine x_callVi (As := [.int v1]) (rest := []) C hw gc_X8_144 ⟨rfl, rfl, ds_X8_isSet, (by rw [hR]; exact Nat.le_of_ble_eq_true rfl), (by rw [hR]; exact Nat.le_of_ble_eq_true rfl), Nat.zero_le _, Nat.zero_le _⟩ (c_X8_isSet l dC dI cI cZ cB cO m_ad m_p m_now m_held m_past m_pasts m_refused m_figures m_isLaid m_many m_isMade m_made m_images m_orbits m_chains m_isCarried m_carried m_carriedMany m_isSorted m_leasts m_heads m_headFrom m_text m_typed m_at m_fault m_orders m_pointsThen m_letters m_numbers m_h v1 _ q1 _) [0, 1, 2, 3, 4, 5, 6, 7, 8, 9, 10, 11, 12, 13, 14, 15, 16, 17, 18] [] (by decide) rfl rfl (by decide) (by decide) rfl rfl rfl hl.1 rfl (Nat.le_of_ble_eq_true rfl) dX8_images_2 (fun H locs hw => ?_)
  have hw : xWd (dC, dI) A s.heap H locs (wM cI cZ cB cO m_ad m_p m_now m_held m_past m_pasts m_refused m_figures m_isLaid m_many m_isMade m_made m_images m_orbits m_chains m_isCarried m_carried m_carriedMany m_isSorted m_leasts m_heads m_headFrom m_text m_typed m_at m_fault m_orders m_pointsThen m_letters m_numbers m_h) := hw
  refine lv_if_eq (tgt := 13) hx hb dX8_images_5 (by decide) (fun b2 => ?_) (fun b2 => ?_)
  · replace h := xb_tt b2 h
    refine lv_aload_n hx hb dX8_images_13 rfl (lv_at hl 0 rfl) ?_
    refine lv_bipush (v := (-2 : Int32)) hx hb dX8_images_14 (by decide) ?_
    obtain ⟨⟨m_refused_2, r_3⟩, q3, h⟩ := xn_i h
    refine x_callVi (As := [.int (-2 : Int32)]) (rest := []) C hw gc_X8_70 ⟨rfl, rfl, ds_X8_refuses, (by rw [hR]; exact Nat.le_of_ble_eq_true rfl), (by rw [hR]; exact Nat.le_of_ble_eq_true rfl), Nat.zero_le _, Nat.zero_le _⟩ (c_X8_refuses l dC dI cI cZ cB cO m_ad m_p m_now m_held m_past m_pasts m_refused m_figures m_isLaid m_many m_isMade m_made m_images m_orbits m_chains m_isCarried m_carried m_carriedMany m_isSorted m_leasts m_heads m_headFrom m_text m_typed m_at m_fault m_orders m_pointsThen m_letters m_numbers m_h (-2 : Int32) _ q3 _) [0, 1, 2, 3, 4, 5, 6, 7, 8, 9, 10, 11, 12, 13, 14, 15, 16, 17, 18] [] (by decide) rfl rfl (by decide) (by decide) rfl rfl rfl hl.1 rfl (Nat.le_of_ble_eq_true rfl) dX8_images_16 (fun H locs hw => ?_)
    have hw : xWd (dC, dI) A s.heap H locs (wM cI cZ cB cO m_ad m_p m_now m_held m_past m_pasts m_refused_2 m_figures m_isLaid m_many m_isMade m_made m_images m_orbits m_chains m_isCarried m_carried m_carriedMany m_isSorted m_leasts m_heads m_headFrom m_text m_typed m_at m_fault m_orders m_pointsThen m_letters m_numbers m_h) := hw
    obtain rfl := Option.some.inj h
    exact x_reti C hQ hA hw dX8_images_19
  · replace h := xb_ff b2 h
    refine lv_iload_n hx hb dX8_images_8 rfl (lv_at hl 2 rfl) ?_
    refine lv_iconst (v := (-1 : Int32)) hx hb dX8_images_9 (by decide) ?_
    refine lv_icmp_ge (tgt := 20) hx hb dX8_images_10 (by decide) (fun b4 => ?_) (fun b4 => ?_)
    · replace h := xb_tt b4 h
      refine lv_aload_n hx hb dX8_images_20 rfl (lv_at hl 0 rfl) ?_
      refine lv_iload_n hx hb dX8_images_21 rfl (lv_at hl 1 rfl) ?_
      obtain ⟨⟨m_figures_4, m_isCarried_5, m_carried_6, m_carriedMany_7⟩, q5, h⟩ := xn_i h
      refine x_callVv (As := [.int v1]) (rest := []) C hw gc_X8_162 ⟨rfl, rfl, ds_X8_findImages, (by rw [hR]; exact Nat.le_of_ble_eq_true rfl), (by rw [hR]; exact Nat.le_of_ble_eq_true rfl), Nat.zero_le _, Nat.zero_le _⟩ (c_X8_findImages l dC dI cI cZ cB cO m_ad m_p m_now m_held m_past m_pasts m_refused m_figures m_isLaid m_many m_isMade m_made m_images m_orbits m_chains m_isCarried m_carried m_carriedMany m_isSorted m_leasts m_heads m_headFrom m_text m_typed m_at m_fault m_orders m_pointsThen m_letters m_numbers m_h v1 _ q5 _) [0, 1, 2, 3, 4, 5, 6, 7, 8, 9, 10, 11, 12, 13, 14, 15, 16, 17, 18] [] (by decide) rfl rfl (by decide) (by decide) rfl rfl rfl hl.1 rfl (Nat.le_of_ble_eq_true rfl) dX8_images_22 (fun H locs hw => ?_)
      have hw : xWd (dC, dI) A s.heap H locs (wM cI cZ cB cO m_ad m_p m_now m_held m_past m_pasts m_refused m_figures_4 m_isLaid m_many m_isMade m_made m_images m_orbits m_chains m_isCarried_5 m_carried_6 m_carriedMany_7 m_isSorted m_leasts m_heads m_headFrom m_text m_typed m_at m_fault m_orders m_pointsThen m_letters m_numbers m_h) := hw
      refine lv_iload_n hx hb dX8_images_25 rfl (lv_at hl 2 rfl) ?_
      refine lv_iconst (v := (-1 : Int32)) hx hb dX8_images_26 (by decide) ?_
      refine lv_icmp_ne (tgt := 37) hx hb dX8_images_27 (by decide) (fun b6 => ?_) (fun b6 => ?_)
      · replace h := xb_ff b6 h
        refine lv_iload_n hx hb dX8_images_37 rfl (lv_at hl 2 rfl) ?_
        refine lv_aload_n hx hb dX8_images_38 rfl (lv_at hl 0 rfl) ?_
        refine x_get (ci := 7) C hw inX8 rfl 15 (by decide) lkF_X8_150 rfl 0 rfl rfl dX8_images_39 ?_
        refine lv_icmp_ge (tgt := 54) hx hb dX8_images_42 (by decide) (fun b7 => ?_) (fun b7 => ?_)
        · replace h := xb_tt b7 h
          refine lv_bipush (v := (-5 : Int32)) hx hb dX8_images_54 (by decide) ?_
          obtain rfl := Option.some.inj h
          exact x_reti C hQ hA hw dX8_images_56
        · replace h := xb_ff b7 h
          refine lv_aload_n hx hb dX8_images_45 rfl (lv_at hl 0 rfl) ?_
          refine x_get (ci := 7) C hw inX8 rfl 14 (by decide) lkF_X8_45 rfl 0 rfl rfl dX8_images_46 ?_
          refine lv_iload_n hx hb dX8_images_49 rfl (lv_at hl 2 rfl) ?_
          obtain ⟨b8, h⟩ := xk_i h
          refine x_iald C hw 12 0 rfl rfl b8 dX8_images_50 ?_
          refine lv_goto (tgt := 56) hx hb dX8_images_51 (by decide) ?_
          obtain rfl := Option.some.inj h
          exact x_reti C hQ hA hw dX8_images_56
      · replace h := xb_tt b6 h
        refine lv_aload_n hx hb dX8_images_30 rfl (lv_at hl 0 rfl) ?_
        refine x_get (ci := 7) C hw inX8 rfl 15 (by decide) lkF_X8_150 rfl 0 rfl rfl dX8_images_31 ?_
        refine lv_goto (tgt := 56) hx hb dX8_images_34 (by decide) ?_
        obtain rfl := Option.some.inj h
        exact x_reti C hQ hA hw dX8_images_56
    · replace h := xb_ff b4 h
      refine lv_aload_n hx hb dX8_images_13 rfl (lv_at hl 0 rfl) ?_
      refine lv_bipush (v := (-2 : Int32)) hx hb dX8_images_14 (by decide) ?_
      obtain ⟨⟨m_refused_8, r_9⟩, q9, h⟩ := xn_i h
      refine x_callVi (As := [.int (-2 : Int32)]) (rest := []) C hw gc_X8_70 ⟨rfl, rfl, ds_X8_refuses, (by rw [hR]; exact Nat.le_of_ble_eq_true rfl), (by rw [hR]; exact Nat.le_of_ble_eq_true rfl), Nat.zero_le _, Nat.zero_le _⟩ (c_X8_refuses l dC dI cI cZ cB cO m_ad m_p m_now m_held m_past m_pasts m_refused m_figures m_isLaid m_many m_isMade m_made m_images m_orbits m_chains m_isCarried m_carried m_carriedMany m_isSorted m_leasts m_heads m_headFrom m_text m_typed m_at m_fault m_orders m_pointsThen m_letters m_numbers m_h (-2 : Int32) _ q9 _) [0, 1, 2, 3, 4, 5, 6, 7, 8, 9, 10, 11, 12, 13, 14, 15, 16, 17, 18] [] (by decide) rfl rfl (by decide) (by decide) rfl rfl rfl hl.1 rfl (Nat.le_of_ble_eq_true rfl) dX8_images_16 (fun H locs hw => ?_)
      have hw : xWd (dC, dI) A s.heap H locs (wM cI cZ cB cO m_ad m_p m_now m_held m_past m_pasts m_refused_8 m_figures m_isLaid m_many m_isMade m_made m_images m_orbits m_chains m_isCarried m_carried m_carriedMany m_isSorted m_leasts m_heads m_headFrom m_text m_typed m_at m_fault m_orders m_pointsThen m_letters m_numbers m_h) := hw
      obtain rfl := Option.some.inj h
      exact x_reti C hQ hA hw dX8_images_19
noncomputable def f_X8_carrier_L1 (m_many_11 : Int32) (m_now : (Nat → Int32)) (m_made_13 : (Nat → Int32)) (v1 : Int32) (v2 : Int32) (m_refused : (Nat → Int32)) (m_isLaid_10 : Int32) (m_isMade_12 : (Nat → Int32)) (m_images_14 : (Nat → Int32)) (m_orbits_15 : (Nat → Int32)) (m_chains_16 : (Nat → Int32)) (z : (Nat → Int32) × Int32) : Option (((Nat → Int32) × Int32) ⊕ (((Nat → Int32)) ⊕ ((Nat → Int32) × (Nat → Int32) × Int32 × Int32 × (Nat → Int32) × (Nat → Int32) × (Nat → Int32) × (Nat → Int32) × (Nat → Int32) × Int32))) := match z with
  | (m_figures_17, v3_18) => xb (m_many_11 ≤ v3_18) (some (.inr (.inl m_figures_17))) (xk (vp_in v3_18 40320) (xn (f_X8_codeAt m_now m_figures_17 (m_made_13 v3_18.toNatClampNeg)) (fun (z : (Nat → Int32) × Int32) => match z with | (m_figures_20, r_21) => xn (f_X8_imageOf m_now m_figures_20 v1) (fun (r_22 : Int32) => xb (r_22 = v2) (some (.inr (.inr (m_refused, m_figures_20, m_isLaid_10, m_many_11, m_isMade_12, m_made_13, m_images_14, m_orbits_15, m_chains_16, r_21)))) (some (.inl (m_figures_20, (v3_18 + (1 : Int32)))))))))
noncomputable def f_X8_carrier (m_now : (Nat → Int32)) (m_refused : (Nat → Int32)) (m_figures : (Nat → Int32)) (m_isLaid : Int32) (m_many : Int32) (m_isMade : (Nat → Int32)) (m_made : (Nat → Int32)) (m_images : (Nat → Int32)) (m_orbits : (Nat → Int32)) (m_chains : (Nat → Int32)) (v1 : Int32) (v2 : Int32) : Option ((Nat → Int32) × (Nat → Int32) × Int32 × Int32 × (Nat → Int32) × (Nat → Int32) × (Nat → Int32) × (Nat → Int32) × (Nat → Int32) × Int32) := xn (f_X8_isSet m_now v1) (fun (r_1 : Int32) => xb (r_1 = 0) (xn (f_X8_refuses m_refused (-2 : Int32)) (fun (z : (Nat → Int32) × Int32) => match z with | (m_refused_2, r_3) => some (m_refused_2, m_figures, m_isLaid, m_many, m_isMade, m_made, m_images, m_orbits, m_chains, r_3))) (xn (f_X8_isSet m_now v2) (fun (r_4 : Int32) => xb (r_4 = 0) (xn (f_X8_refuses m_refused (-2 : Int32)) (fun (z : (Nat → Int32) × Int32) => match z with | (m_refused_5, r_6) => some (m_refused_5, m_figures, m_isLaid, m_many, m_isMade, m_made, m_images, m_orbits, m_chains, r_6))) (xn (f_X8_size v1) (fun (r_7 : Int32) => xn (f_X8_size v2) (fun (r_8 : Int32) => xb (r_7 = r_8) (xn (f_X8_lay m_now m_figures m_isLaid m_many m_isMade m_made m_images m_orbits m_chains) (fun (z : (Nat → Int32) × Int32 × Int32 × (Nat → Int32) × (Nat → Int32) × (Nat → Int32) × (Nat → Int32) × (Nat → Int32)) => match z with | (m_figures_9, m_isLaid_10, m_many_11, m_isMade_12, m_made_13, m_images_14, m_orbits_15, m_chains_16) => xn (xL (f_X8_carrier_L1 m_many_11 m_now m_made_13 v1 v2 m_refused m_isLaid_10 m_isMade_12 m_images_14 m_orbits_15 m_chains_16) (m_figures_9, (0 : Int32))) (fun (x : ((Nat → Int32)) ⊕ ((Nat → Int32) × (Nat → Int32) × Int32 × Int32 × (Nat → Int32) × (Nat → Int32) × (Nat → Int32) × (Nat → Int32) × (Nat → Int32) × Int32)) => match x with | .inl z => (fun (m_figures_19 : (Nat → Int32)) => some (m_refused, m_figures_19, m_isLaid_10, m_many_11, m_isMade_12, m_made_13, m_images_14, m_orbits_15, m_chains_16, (-1 : Int32))) z | .inr z => some z))) (xn (f_X8_refuses m_refused (-2 : Int32)) (fun (z : (Nat → Int32) × Int32) => match z with | (m_refused_33, r_34) => some (m_refused_33, m_figures, m_isLaid, m_many, m_isMade, m_made, m_images, m_orbits, m_chains, r_34)))))))))
set_option maxHeartbeats 4000000 in
set_option maxRecDepth 100000 in
theorem c_X8_carrier (l : Launch) (dC : Nat → ClassId) (dI : Nat → Nat → Nat) (cI cZ cB cO : ClassId) (m_ad : Nat) (m_p : Nat → Nat) (m_now : (Nat → Int32)) (m_held : (Nat → Int32)) (m_past : (Nat → Int32)) (m_pasts : Int32) (m_refused : (Nat → Int32)) (m_figures : (Nat → Int32)) (m_isLaid : Int32) (m_many : Int32) (m_isMade : (Nat → Int32)) (m_made : (Nat → Int32)) (m_images : (Nat → Int32)) (m_orbits : (Nat → Int32)) (m_chains : (Nat → Int32)) (m_isCarried : (Nat → Int32)) (m_carried : (Nat → Int32)) (m_carriedMany : Int32) (m_isSorted : Int32) (m_leasts : (Nat → Int32)) (m_heads : (Nat → Int32)) (m_headFrom : (Nat → Int32)) (m_text : (Nat → Int32)) (m_typed : Int32) (m_at : Int32) (m_fault : Int32) (m_orders : Int32) (m_pointsThen : Int32) (m_letters : (Nat → Int32)) (m_numbers : (Nat → Int32)) (m_h : Int64) (v1 : Int32) (v2 : Int32) (o : (Nat → Int32) × (Nat → Int32) × Int32 × Int32 × (Nat → Int32) × (Nat → Int32) × (Nat → Int32) × (Nat → Int32) × (Nat → Int32) × Int32) (h : f_X8_carrier m_now m_refused m_figures m_isLaid m_many m_isMade m_made m_images m_orbits m_chains v1 v2 = some o) (sz : Nat) : Met l yX8_carrier (xW yX8_carrier cX8_carrier 5 (some .int)) { frames := 3, cells := 0, slots := 0, locals := 70 } (xPre dC dI (xT cI cZ cB cO) [.ref m_ad, .int v1, .int v2] (wM cI cZ cB cO m_ad m_p m_now m_held m_past m_pasts m_refused m_figures m_isLaid m_many m_isMade m_made m_images m_orbits m_chains m_isCarried m_carried m_carriedMany m_isSorted m_leasts m_heads m_headFrom m_text m_typed m_at m_fault m_orders m_pointsThen m_letters m_numbers m_h) sz) (xQi dC dI (xT cI cZ cB cO) o.2.2.2.2.2.2.2.2.2 (wM cI cZ cB cO m_ad m_p m_now m_held m_past m_pasts m_refused m_figures m_isLaid m_many m_isMade m_made m_images m_orbits m_chains m_isCarried m_carried m_carriedMany m_isSorted m_leasts m_heads m_headFrom m_text m_typed m_at m_fault m_orders m_pointsThen m_letters m_numbers m_h) (wM cI cZ cB cO m_ad m_p m_now m_held m_past m_pasts o.1 o.2.1 o.2.2.1 o.2.2.2.1 o.2.2.2.2.1 o.2.2.2.2.2.1 o.2.2.2.2.2.2.1 o.2.2.2.2.2.2.2.1 o.2.2.2.2.2.2.2.2.1 m_isCarried m_carried m_carriedMany m_isSorted m_leasts m_heads m_headFrom m_text m_typed m_at m_fault m_orders m_pointsThen m_letters m_numbers m_h) sz) 0 0 (va_A (wM cI cZ cB cO m_ad m_p m_now m_held m_past m_pasts m_refused m_figures m_isLaid m_many m_isMade m_made m_images m_orbits m_chains m_isCarried m_carried m_carriedMany m_isSorted m_leasts m_heads m_headFrom m_text m_typed m_at m_fault m_orders m_pointsThen m_letters m_numbers m_h) sz) := by
  refine x_met (by decide) (Nat.le_of_ble_eq_true rfl) ?_
  intro p e s m args below meth c R Q A hR hsz hA hQ hin C hw ls hl
  have hx := C.1
  have hb := C.2.1
  have hown := C.2.2.2.1
  have htb := C.2.2.2.2.1
  have hl : lv_has ls 5 [(0, .ref m_ad), (1, .int v1), (2, .int v2)] := hl
  refine lv_aload_n hx hb dX8_carrier_0 rfl (lv_at hl 0 rfl) ?_
  refine lv_iload_n hx hb dX8_carrier_1 rfl (lv_at hl 1 rfl) ?_
  obtain ⟨r_1, q1, h⟩ := xn_i h
  refine x_callVi (As := [.int v1]) (rest := []) C hw gc_X8_144 ⟨rfl, rfl, ds_X8_isSet, (by rw [hR]; exact Nat.le_of_ble_eq_true rfl), (by rw [hR]; exact Nat.le_of_ble_eq_true rfl), Nat.zero_le _, Nat.zero_le _⟩ (c_X8_isSet l dC dI cI cZ cB cO m_ad m_p m_now m_held m_past m_pasts m_refused m_figures m_isLaid m_many m_isMade m_made m_images m_orbits m_chains m_isCarried m_carried m_carriedMany m_isSorted m_leasts m_heads m_headFrom m_text m_typed m_at m_fault m_orders m_pointsThen m_letters m_numbers m_h v1 _ q1 _) [0, 1, 2, 3, 4, 5, 6, 7, 8, 9, 10, 11, 12, 13, 14, 15, 16, 17, 18] [] (by decide) rfl rfl (by decide) (by decide) rfl rfl rfl hl.1 rfl (Nat.le_of_ble_eq_true rfl) dX8_carrier_2 (fun H locs hw => ?_)
  have hw : xWd (dC, dI) A s.heap H locs (wM cI cZ cB cO m_ad m_p m_now m_held m_past m_pasts m_refused m_figures m_isLaid m_many m_isMade m_made m_images m_orbits m_chains m_isCarried m_carried m_carriedMany m_isSorted m_leasts m_heads m_headFrom m_text m_typed m_at m_fault m_orders m_pointsThen m_letters m_numbers m_h) := hw
  refine lv_if_eq (tgt := 27) hx hb dX8_carrier_5 (by decide) (fun b2 => ?_) (fun b2 => ?_)
  · replace h := xb_tt b2 h
    refine lv_aload_n hx hb dX8_carrier_27 rfl (lv_at hl 0 rfl) ?_
    refine lv_bipush (v := (-2 : Int32)) hx hb dX8_carrier_28 (by decide) ?_
    obtain ⟨⟨m_refused_2, r_3⟩, q3, h⟩ := xn_i h
    refine x_callVi (As := [.int (-2 : Int32)]) (rest := []) C hw gc_X8_70 ⟨rfl, rfl, ds_X8_refuses, (by rw [hR]; exact Nat.le_of_ble_eq_true rfl), (by rw [hR]; exact Nat.le_of_ble_eq_true rfl), Nat.zero_le _, Nat.zero_le _⟩ (c_X8_refuses l dC dI cI cZ cB cO m_ad m_p m_now m_held m_past m_pasts m_refused m_figures m_isLaid m_many m_isMade m_made m_images m_orbits m_chains m_isCarried m_carried m_carriedMany m_isSorted m_leasts m_heads m_headFrom m_text m_typed m_at m_fault m_orders m_pointsThen m_letters m_numbers m_h (-2 : Int32) _ q3 _) [0, 1, 2, 3, 4, 5, 6, 7, 8, 9, 10, 11, 12, 13, 14, 15, 16, 17, 18] [] (by decide) rfl rfl (by decide) (by decide) rfl rfl rfl hl.1 rfl (Nat.le_of_ble_eq_true rfl) dX8_carrier_30 (fun H locs hw => ?_)
    have hw : xWd (dC, dI) A s.heap H locs (wM cI cZ cB cO m_ad m_p m_now m_held m_past m_pasts m_refused_2 m_figures m_isLaid m_many m_isMade m_made m_images m_orbits m_chains m_isCarried m_carried m_carriedMany m_isSorted m_leasts m_heads m_headFrom m_text m_typed m_at m_fault m_orders m_pointsThen m_letters m_numbers m_h) := hw
    obtain rfl := Option.some.inj h
    exact x_reti C hQ hA hw dX8_carrier_33
  · replace h := xb_ff b2 h
    refine lv_aload_n hx hb dX8_carrier_8 rfl (lv_at hl 0 rfl) ?_
    refine lv_iload_n hx hb dX8_carrier_9 rfl (lv_at hl 2 rfl) ?_
    obtain ⟨r_4, q4, h⟩ := xn_i h
    refine x_callVi (As := [.int v2]) (rest := []) C hw gc_X8_144 ⟨rfl, rfl, ds_X8_isSet, (by rw [hR]; exact Nat.le_of_ble_eq_true rfl), (by rw [hR]; exact Nat.le_of_ble_eq_true rfl), Nat.zero_le _, Nat.zero_le _⟩ (c_X8_isSet l dC dI cI cZ cB cO m_ad m_p m_now m_held m_past m_pasts m_refused m_figures m_isLaid m_many m_isMade m_made m_images m_orbits m_chains m_isCarried m_carried m_carriedMany m_isSorted m_leasts m_heads m_headFrom m_text m_typed m_at m_fault m_orders m_pointsThen m_letters m_numbers m_h v2 _ q4 _) [0, 1, 2, 3, 4, 5, 6, 7, 8, 9, 10, 11, 12, 13, 14, 15, 16, 17, 18] [] (by decide) rfl rfl (by decide) (by decide) rfl rfl rfl hl.1 rfl (Nat.le_of_ble_eq_true rfl) dX8_carrier_10 (fun H locs hw => ?_)
    have hw : xWd (dC, dI) A s.heap H locs (wM cI cZ cB cO m_ad m_p m_now m_held m_past m_pasts m_refused m_figures m_isLaid m_many m_isMade m_made m_images m_orbits m_chains m_isCarried m_carried m_carriedMany m_isSorted m_leasts m_heads m_headFrom m_text m_typed m_at m_fault m_orders m_pointsThen m_letters m_numbers m_h) := hw
    refine lv_if_eq (tgt := 27) hx hb dX8_carrier_13 (by decide) (fun b5 => ?_) (fun b5 => ?_)
    · replace h := xb_tt b5 h
      refine lv_aload_n hx hb dX8_carrier_27 rfl (lv_at hl 0 rfl) ?_
      refine lv_bipush (v := (-2 : Int32)) hx hb dX8_carrier_28 (by decide) ?_
      obtain ⟨⟨m_refused_5, r_6⟩, q6, h⟩ := xn_i h
      refine x_callVi (As := [.int (-2 : Int32)]) (rest := []) C hw gc_X8_70 ⟨rfl, rfl, ds_X8_refuses, (by rw [hR]; exact Nat.le_of_ble_eq_true rfl), (by rw [hR]; exact Nat.le_of_ble_eq_true rfl), Nat.zero_le _, Nat.zero_le _⟩ (c_X8_refuses l dC dI cI cZ cB cO m_ad m_p m_now m_held m_past m_pasts m_refused m_figures m_isLaid m_many m_isMade m_made m_images m_orbits m_chains m_isCarried m_carried m_carriedMany m_isSorted m_leasts m_heads m_headFrom m_text m_typed m_at m_fault m_orders m_pointsThen m_letters m_numbers m_h (-2 : Int32) _ q6 _) [0, 1, 2, 3, 4, 5, 6, 7, 8, 9, 10, 11, 12, 13, 14, 15, 16, 17, 18] [] (by decide) rfl rfl (by decide) (by decide) rfl rfl rfl hl.1 rfl (Nat.le_of_ble_eq_true rfl) dX8_carrier_30 (fun H locs hw => ?_)
      have hw : xWd (dC, dI) A s.heap H locs (wM cI cZ cB cO m_ad m_p m_now m_held m_past m_pasts m_refused_5 m_figures m_isLaid m_many m_isMade m_made m_images m_orbits m_chains m_isCarried m_carried m_carriedMany m_isSorted m_leasts m_heads m_headFrom m_text m_typed m_at m_fault m_orders m_pointsThen m_letters m_numbers m_h) := hw
      obtain rfl := Option.some.inj h
      exact x_reti C hQ hA hw dX8_carrier_33
    · replace h := xb_ff b5 h
      refine lv_iload_n hx hb dX8_carrier_16 rfl (lv_at hl 1 rfl) ?_
      obtain ⟨r_7, q7, h⟩ := xn_i h
      refine x_callSi (As := [.int v1]) (rest := []) C hw gc_X8_159 ds_X8_size (by rw [hR]; exact Nat.le_of_ble_eq_true rfl) (by rw [hR]; exact Nat.le_of_ble_eq_true rfl) rfl rfl (Nat.zero_le _) (Nat.zero_le _) (c_X8_size l dC dI cI cZ cB cO v1 _ q7 _) [] [0, 1, 2, 3, 4, 5, 6, 7, 8, 9, 10, 11, 12, 13, 14, 15, 16, 17, 18] (by decide) rfl rfl (by decide) (by decide) rfl hl.1 rfl (Nat.le_of_ble_eq_true rfl) dX8_carrier_17 (fun H locs hw => ?_)
      have hw : xWd (dC, dI) A s.heap H locs (wM cI cZ cB cO m_ad m_p m_now m_held m_past m_pasts m_refused m_figures m_isLaid m_many m_isMade m_made m_images m_orbits m_chains m_isCarried m_carried m_carriedMany m_isSorted m_leasts m_heads m_headFrom m_text m_typed m_at m_fault m_orders m_pointsThen m_letters m_numbers m_h) := hw.sub [0, 1, 2, 3, 4, 5, 6, 7, 8, 9, 10, 11, 12, 13, 14, 15, 16, 17, 18] (by decide) rfl
      refine lv_iload_n hx hb dX8_carrier_20 rfl (lv_at hl 2 rfl) ?_
      obtain ⟨r_8, q8, h⟩ := xn_i h
      refine x_callSi (As := [.int v2]) (rest := [.int r_7]) C hw gc_X8_159 ds_X8_size (by rw [hR]; exact Nat.le_of_ble_eq_true rfl) (by rw [hR]; exact Nat.le_of_ble_eq_true rfl) rfl rfl (Nat.zero_le _) (Nat.zero_le _) (c_X8_size l dC dI cI cZ cB cO v2 _ q8 _) [] [0, 1, 2, 3, 4, 5, 6, 7, 8, 9, 10, 11, 12, 13, 14, 15, 16, 17, 18] (by decide) rfl rfl (by decide) (by decide) rfl hl.1 rfl (Nat.le_of_ble_eq_true rfl) dX8_carrier_21 (fun H locs hw => ?_)
      have hw : xWd (dC, dI) A s.heap H locs (wM cI cZ cB cO m_ad m_p m_now m_held m_past m_pasts m_refused m_figures m_isLaid m_many m_isMade m_made m_images m_orbits m_chains m_isCarried m_carried m_carriedMany m_isSorted m_leasts m_heads m_headFrom m_text m_typed m_at m_fault m_orders m_pointsThen m_letters m_numbers m_h) := hw.sub [0, 1, 2, 3, 4, 5, 6, 7, 8, 9, 10, 11, 12, 13, 14, 15, 16, 17, 18] (by decide) rfl
      refine lv_icmp_eq (tgt := 34) hx hb dX8_carrier_24 (by decide) (fun b9 => ?_) (fun b9 => ?_)
      · replace h := xb_tt b9 h
        refine lv_aload_n hx hb dX8_carrier_34 rfl (lv_at hl 0 rfl) ?_
        obtain ⟨⟨m_figures_9, m_isLaid_10, m_many_11, m_isMade_12, m_made_13, m_images_14, m_orbits_15, m_chains_16⟩, q10, h⟩ := xn_i h
        refine x_callVv (As := []) (rest := []) C hw gc_X8_130 ⟨rfl, rfl, ds_X8_lay, (by rw [hR]; exact Nat.le_of_ble_eq_true rfl), (by rw [hR]; exact Nat.le_of_ble_eq_true rfl), Nat.zero_le _, Nat.zero_le _⟩ (c_X8_lay l dC dI cI cZ cB cO m_ad m_p m_now m_held m_past m_pasts m_refused m_figures m_isLaid m_many m_isMade m_made m_images m_orbits m_chains m_isCarried m_carried m_carriedMany m_isSorted m_leasts m_heads m_headFrom m_text m_typed m_at m_fault m_orders m_pointsThen m_letters m_numbers m_h _ q10 _) [0, 1, 2, 3, 4, 5, 6, 7, 8, 9, 10, 11, 12, 13, 14, 15, 16, 17, 18] [] (by decide) rfl rfl (by decide) (by decide) rfl rfl rfl hl.1 rfl (Nat.le_of_ble_eq_true rfl) dX8_carrier_35 (fun H locs hw => ?_)
        have hw : xWd (dC, dI) A s.heap H locs (wM cI cZ cB cO m_ad m_p m_now m_held m_past m_pasts m_refused m_figures_9 m_isLaid_10 m_many_11 m_isMade_12 m_made_13 m_images_14 m_orbits_15 m_chains_16 m_isCarried m_carried m_carriedMany m_isSorted m_leasts m_heads m_headFrom m_text m_typed m_at m_fault m_orders m_pointsThen m_letters m_numbers m_h) := hw
        refine lv_iconst (v := (0 : Int32)) hx hb dX8_carrier_38 (by decide) ?_
        refine lv_istore_n (lv' := [(3, .int (0 : Int32)), (0, .ref m_ad), (1, .int v1), (2, .int v2)]) hx hb dX8_carrier_39 rfl hl (by decide) rfl (fun ls hl => ?_)
        obtain ⟨z, hr, h⟩ := xn_i h
        refine xL_w (fun (z : (Nat → Int32) × Int32) => ∀ (H : Heap) (locs : List Loc) (ls : Array Slot), xWd (dC, dI) A s.heap H locs (wM cI cZ cB cO m_ad m_p m_now m_held m_past m_pasts m_refused z.1 m_isLaid_10 m_many_11 m_isMade_12 m_made_13 m_images_14 m_orbits_15 m_chains_16 m_isCarried m_carried m_carriedMany m_isSorted m_leasts m_heads m_headFrom m_text m_typed m_at m_fault m_orders m_pointsThen m_letters m_numbers m_h) → lv_has ls 5 [(0, .ref m_ad), (1, .int v1), (2, .int v2), (3, .int z.2)] → W p l e R s m args below meth c H locs 0 0 Q (F0 m 40 ls [])) (Sum.elim (fun (z : (Nat → Int32)) => ∀ (H : Heap) (locs : List Loc) (ls : Array Slot), xWd (dC, dI) A s.heap H locs (wM cI cZ cB cO m_ad m_p m_now m_held m_past m_pasts m_refused z m_isLaid_10 m_many_11 m_isMade_12 m_made_13 m_images_14 m_orbits_15 m_chains_16 m_isCarried m_carried m_carriedMany m_isSorted m_leasts m_heads m_headFrom m_text m_typed m_at m_fault m_orders m_pointsThen m_letters m_numbers m_h) → lv_has ls 5 [] → W p l e R s m args below meth c H locs 0 0 Q (F0 m 78 ls [])) (fun (z : (Nat → Int32) × (Nat → Int32) × Int32 × Int32 × (Nat → Int32) × (Nat → Int32) × (Nat → Int32) × (Nat → Int32) × (Nat → Int32) × Int32) => ∀ (H : Heap) (locs : List Loc), xWd (dC, dI) A s.heap H locs (wM cI cZ cB cO m_ad m_p m_now m_held m_past m_pasts z.1 z.2.1 z.2.2.1 z.2.2.2.1 z.2.2.2.2.1 z.2.2.2.2.2.1 z.2.2.2.2.2.2.1 z.2.2.2.2.2.2.2.1 z.2.2.2.2.2.2.2.2.1 m_isCarried m_carried m_carriedMany m_isSorted m_leasts m_heads m_headFrom m_text m_typed m_at m_fault m_orders m_pointsThen m_letters m_numbers m_h) → ∀ (pc : Nat) (ls : Array Slot), decode cX8_carrier pc = .ok (.ireturn, 1) → W p l e R s m args below meth c H locs 0 0 Q (F0 m pc ls [.int z.2.2.2.2.2.2.2.2.2]))) ?_ hr ?_ _ _ _ hw (lv_sub hl [1, 2, 3, 0] rfl)
        · rintro ⟨m_figures_17, v3_18⟩ o h k H locs ls hw hl
          have hw : xWd (dC, dI) A s.heap H locs (wM cI cZ cB cO m_ad m_p m_now m_held m_past m_pasts m_refused m_figures_17 m_isLaid_10 m_many_11 m_isMade_12 m_made_13 m_images_14 m_orbits_15 m_chains_16 m_isCarried m_carried m_carriedMany m_isSorted m_leasts m_heads m_headFrom m_text m_typed m_at m_fault m_orders m_pointsThen m_letters m_numbers m_h) := hw
          have hl : lv_has ls 5 [(0, .ref m_ad), (1, .int v1), (2, .int v2), (3, .int v3_18)] := hl
          refine lv_iload_n hx hb dX8_carrier_40 rfl (lv_at hl 3 rfl) ?_
          refine lv_aload_n hx hb dX8_carrier_41 rfl (lv_at hl 0 rfl) ?_
          refine x_get (ci := 7) C hw inX8 rfl 7 (by decide) lkF_X8_111 rfl 0 rfl rfl dX8_carrier_42 ?_
          refine lv_icmp_ge (tgt := 78) hx hb dX8_carrier_45 (by decide) (fun b11 => ?_) (fun b11 => ?_)
          · replace h := xb_tt b11 h
            obtain rfl := Option.some.inj h
            exact k _ _ _ hw (lv_sub hl [] rfl)
          · replace h := xb_ff b11 h
            refine lv_aload_n hx hb dX8_carrier_48 rfl (lv_at hl 0 rfl) ?_
            refine lv_aload_n hx hb dX8_carrier_49 rfl (lv_at hl 0 rfl) ?_
            refine x_get (ci := 7) C hw inX8 rfl 9 (by decide) lkF_X8_30 rfl 0 rfl rfl dX8_carrier_50 ?_
            refine lv_iload_n hx hb dX8_carrier_53 rfl (lv_at hl 3 rfl) ?_
            obtain ⟨b12, h⟩ := xk_i h
            refine x_iald C hw 7 0 rfl rfl b12 dX8_carrier_54 ?_
            obtain ⟨⟨m_figures_20, r_21⟩, q13, h⟩ := xn_i h
            refine x_callVi (As := [.int (m_made_13 v3_18.toNatClampNeg)]) (rest := []) C hw gc_X8_117 ⟨rfl, rfl, ds_X8_codeAt, (by rw [hR]; exact Nat.le_of_ble_eq_true rfl), (by rw [hR]; exact Nat.le_of_ble_eq_true rfl), Nat.zero_le _, Nat.zero_le _⟩ (c_X8_codeAt l dC dI cI cZ cB cO m_ad m_p m_now m_held m_past m_pasts m_refused m_figures_17 m_isLaid_10 m_many_11 m_isMade_12 m_made_13 m_images_14 m_orbits_15 m_chains_16 m_isCarried m_carried m_carriedMany m_isSorted m_leasts m_heads m_headFrom m_text m_typed m_at m_fault m_orders m_pointsThen m_letters m_numbers m_h (m_made_13 v3_18.toNatClampNeg) _ q13 _) [0, 1, 2, 3, 4, 5, 6, 7, 8, 9, 10, 11, 12, 13, 14, 15, 16, 17, 18] [] (by decide) rfl rfl (by decide) (by decide) rfl rfl rfl hl.1 rfl (Nat.le_of_ble_eq_true rfl) dX8_carrier_55 (fun H locs hw => ?_)
            have hw : xWd (dC, dI) A s.heap H locs (wM cI cZ cB cO m_ad m_p m_now m_held m_past m_pasts m_refused m_figures_20 m_isLaid_10 m_many_11 m_isMade_12 m_made_13 m_images_14 m_orbits_15 m_chains_16 m_isCarried m_carried m_carriedMany m_isSorted m_leasts m_heads m_headFrom m_text m_typed m_at m_fault m_orders m_pointsThen m_letters m_numbers m_h) := hw
            refine lv_istore (lv' := [(4, .int r_21), (0, .ref m_ad), (1, .int v1), (2, .int v2), (3, .int v3_18)]) hx hb dX8_carrier_58 hl (by decide) rfl (fun ls hl => ?_)
            refine lv_aload_n hx hb dX8_carrier_60 rfl (lv_at hl 1 rfl) ?_
            refine lv_iload_n hx hb dX8_carrier_61 rfl (lv_at hl 2 rfl) ?_
            obtain ⟨r_22, q14, h⟩ := xn_i h
            refine x_callVi (As := [.int v1]) (rest := []) C hw gc_X8_147 ⟨rfl, rfl, ds_X8_imageOf, (by rw [hR]; exact Nat.le_of_ble_eq_true rfl), (by rw [hR]; exact Nat.le_of_ble_eq_true rfl), Nat.zero_le _, Nat.zero_le _⟩ (c_X8_imageOf l dC dI cI cZ cB cO m_ad m_p m_now m_held m_past m_pasts m_refused m_figures_20 m_isLaid_10 m_many_11 m_isMade_12 m_made_13 m_images_14 m_orbits_15 m_chains_16 m_isCarried m_carried m_carriedMany m_isSorted m_leasts m_heads m_headFrom m_text m_typed m_at m_fault m_orders m_pointsThen m_letters m_numbers m_h v1 _ q14 _) [0, 1, 2, 3, 4, 5, 6, 7, 8, 9, 10, 11, 12, 13, 14, 15, 16, 17, 18] [] (by decide) rfl rfl (by decide) (by decide) rfl rfl rfl hl.1 rfl (Nat.le_of_ble_eq_true rfl) dX8_carrier_62 (fun H locs hw => ?_)
            have hw : xWd (dC, dI) A s.heap H locs (wM cI cZ cB cO m_ad m_p m_now m_held m_past m_pasts m_refused m_figures_20 m_isLaid_10 m_many_11 m_isMade_12 m_made_13 m_images_14 m_orbits_15 m_chains_16 m_isCarried m_carried m_carriedMany m_isSorted m_leasts m_heads m_headFrom m_text m_typed m_at m_fault m_orders m_pointsThen m_letters m_numbers m_h) := hw
            refine lv_iload_n hx hb dX8_carrier_65 rfl (lv_at hl 3 rfl) ?_
            refine lv_icmp_ne (tgt := 72) hx hb dX8_carrier_66 (by decide) (fun b15 => ?_) (fun b15 => ?_)
            · replace h := xb_ff b15 h
              refine lv_iinc (v := (v3_18 + (1 : Int32))) (lv' := [(3, .int (v3_18 + (1 : Int32))), (4, .int r_21), (0, .ref m_ad), (1, .int v1), (2, .int v2)]) hx hb dX8_carrier_72 hl (k := 4) rfl (congrArg (fun q => v3_18 + q) (by decide)) (by decide) rfl (fun ls hl => ?_)
              refine lv_goto (tgt := 40) hx hb dX8_carrier_75 (by decide) ?_
              obtain rfl := Option.some.inj h
              exact k _ _ _ hw (lv_sub hl [2, 3, 4, 0] rfl)
            · replace h := xb_tt b15 h
              refine lv_iload hx hb dX8_carrier_69 (lv_at hl 0 rfl) ?_
              obtain rfl := Option.some.inj h
              exact k _ _ hw _ _ dX8_carrier_71
        · rcases z with z | z
          · obtain ⟨m_figures_19, hz⟩ : ∃ q, q = z := ⟨z, rfl⟩
            subst hz
            intro H locs ls hw hl
            have hw : xWd (dC, dI) A s.heap H locs (wM cI cZ cB cO m_ad m_p m_now m_held m_past m_pasts m_refused m_figures_19 m_isLaid_10 m_many_11 m_isMade_12 m_made_13 m_images_14 m_orbits_15 m_chains_16 m_isCarried m_carried m_carriedMany m_isSorted m_leasts m_heads m_headFrom m_text m_typed m_at m_fault m_orders m_pointsThen m_letters m_numbers m_h) := hw
            have hl : lv_has ls 5 [] := hl
            refine lv_iconst (v := (-1 : Int32)) hx hb dX8_carrier_78 (by decide) ?_
            obtain rfl := Option.some.inj h
            exact x_reti C hQ hA hw dX8_carrier_79
          · obtain rfl := Option.some.inj h
            intro H locs hw pc ls hd
            exact x_reti C hQ hA hw hd
      · replace h := xb_ff b9 h
        refine lv_aload_n hx hb dX8_carrier_27 rfl (lv_at hl 0 rfl) ?_
        refine lv_bipush (v := (-2 : Int32)) hx hb dX8_carrier_28 (by decide) ?_
        obtain ⟨⟨m_refused_33, r_34⟩, q16, h⟩ := xn_i h
        refine x_callVi (As := [.int (-2 : Int32)]) (rest := []) C hw gc_X8_70 ⟨rfl, rfl, ds_X8_refuses, (by rw [hR]; exact Nat.le_of_ble_eq_true rfl), (by rw [hR]; exact Nat.le_of_ble_eq_true rfl), Nat.zero_le _, Nat.zero_le _⟩ (c_X8_refuses l dC dI cI cZ cB cO m_ad m_p m_now m_held m_past m_pasts m_refused m_figures m_isLaid m_many m_isMade m_made m_images m_orbits m_chains m_isCarried m_carried m_carriedMany m_isSorted m_leasts m_heads m_headFrom m_text m_typed m_at m_fault m_orders m_pointsThen m_letters m_numbers m_h (-2 : Int32) _ q16 _) [0, 1, 2, 3, 4, 5, 6, 7, 8, 9, 10, 11, 12, 13, 14, 15, 16, 17, 18] [] (by decide) rfl rfl (by decide) (by decide) rfl rfl rfl hl.1 rfl (Nat.le_of_ble_eq_true rfl) dX8_carrier_30 (fun H locs hw => ?_)
        have hw : xWd (dC, dI) A s.heap H locs (wM cI cZ cB cO m_ad m_p m_now m_held m_past m_pasts m_refused_33 m_figures m_isLaid m_many m_isMade m_made m_images m_orbits m_chains m_isCarried m_carried m_carriedMany m_isSorted m_leasts m_heads m_headFrom m_text m_typed m_at m_fault m_orders m_pointsThen m_letters m_numbers m_h) := hw
        obtain rfl := Option.some.inj h
        exact x_reti C hQ hA hw dX8_carrier_33
noncomputable def f_X8_holds_L1 (m_many_4 : Int32) (m_now : (Nat → Int32)) (m_made_6 : (Nat → Int32)) (v1 : Int32) (z : (Nat → Int32) × Int32 × Int32) : Option (((Nat → Int32) × Int32 × Int32) ⊕ ((Nat → Int32) × Int32)) := match z with
  | (m_figures_10, v2_11, v3_12) => xb (m_many_4 ≤ v3_12) (some (.inr (m_figures_10, v2_11))) (xk (vp_in v3_12 40320) (xn (f_X8_codeAt m_now m_figures_10 (m_made_6 v3_12.toNatClampNeg)) (fun (z : (Nat → Int32) × Int32) => match z with | (m_figures_15, r_16) => xn (f_X8_imageOf m_now m_figures_15 v1) (fun (r_17 : Int32) => xb (r_17 = v1) (some (.inl (m_figures_15, (v2_11 + (1 : Int32)), (v3_12 + (1 : Int32))))) (some (.inl (m_figures_15, (v2_11 + (0 : Int32)), (v3_12 + (1 : Int32)))))))))
noncomputable def f_X8_holds (m_now : (Nat → Int32)) (m_refused : (Nat → Int32)) (m_figures : (Nat → Int32)) (m_isLaid : Int32) (m_many : Int32) (m_isMade : (Nat → Int32)) (m_made : (Nat → Int32)) (m_images : (Nat → Int32)) (m_orbits : (Nat → Int32)) (m_chains : (Nat → Int32)) (v1 : Int32) : Option ((Nat → Int32) × (Nat → Int32) × Int32 × Int32 × (Nat → Int32) × (Nat → Int32) × (Nat → Int32) × (Nat → Int32) × (Nat → Int32) × Int32) := xn (f_X8_isSet m_now v1) (fun (r_1 : Int32) => xb (r_1 = 0) (xn (f_X8_refuses m_refused (-2 : Int32)) (fun (z : (Nat → Int32) × Int32) => match z with | (m_refused_18, r_19) => some (m_refused_18, m_figures, m_isLaid, m_many, m_isMade, m_made, m_images, m_orbits, m_chains, r_19))) (xn (f_X8_lay m_now m_figures m_isLaid m_many m_isMade m_made m_images m_orbits m_chains) (fun (z : (Nat → Int32) × Int32 × Int32 × (Nat → Int32) × (Nat → Int32) × (Nat → Int32) × (Nat → Int32) × (Nat → Int32)) => match z with | (m_figures_2, m_isLaid_3, m_many_4, m_isMade_5, m_made_6, m_images_7, m_orbits_8, m_chains_9) => xn (xL (f_X8_holds_L1 m_many_4 m_now m_made_6 v1) (m_figures_2, (0 : Int32), (0 : Int32))) (fun (z : (Nat → Int32) × Int32) => match z with | (m_figures_13, v2_14) => some (m_refused, m_figures_13, m_isLaid_3, m_many_4, m_isMade_5, m_made_6, m_images_7, m_orbits_8, m_chains_9, v2_14)))))
set_option maxHeartbeats 4000000 in
set_option maxRecDepth 100000 in
theorem c_X8_holds (l : Launch) (dC : Nat → ClassId) (dI : Nat → Nat → Nat) (cI cZ cB cO : ClassId) (m_ad : Nat) (m_p : Nat → Nat) (m_now : (Nat → Int32)) (m_held : (Nat → Int32)) (m_past : (Nat → Int32)) (m_pasts : Int32) (m_refused : (Nat → Int32)) (m_figures : (Nat → Int32)) (m_isLaid : Int32) (m_many : Int32) (m_isMade : (Nat → Int32)) (m_made : (Nat → Int32)) (m_images : (Nat → Int32)) (m_orbits : (Nat → Int32)) (m_chains : (Nat → Int32)) (m_isCarried : (Nat → Int32)) (m_carried : (Nat → Int32)) (m_carriedMany : Int32) (m_isSorted : Int32) (m_leasts : (Nat → Int32)) (m_heads : (Nat → Int32)) (m_headFrom : (Nat → Int32)) (m_text : (Nat → Int32)) (m_typed : Int32) (m_at : Int32) (m_fault : Int32) (m_orders : Int32) (m_pointsThen : Int32) (m_letters : (Nat → Int32)) (m_numbers : (Nat → Int32)) (m_h : Int64) (v1 : Int32) (o : (Nat → Int32) × (Nat → Int32) × Int32 × Int32 × (Nat → Int32) × (Nat → Int32) × (Nat → Int32) × (Nat → Int32) × (Nat → Int32) × Int32) (h : f_X8_holds m_now m_refused m_figures m_isLaid m_many m_isMade m_made m_images m_orbits m_chains v1 = some o) (sz : Nat) : Met l yX8_holds (xW yX8_holds cX8_holds 4 (some .int)) { frames := 3, cells := 0, slots := 0, locals := 70 } (xPre dC dI (xT cI cZ cB cO) [.ref m_ad, .int v1] (wM cI cZ cB cO m_ad m_p m_now m_held m_past m_pasts m_refused m_figures m_isLaid m_many m_isMade m_made m_images m_orbits m_chains m_isCarried m_carried m_carriedMany m_isSorted m_leasts m_heads m_headFrom m_text m_typed m_at m_fault m_orders m_pointsThen m_letters m_numbers m_h) sz) (xQi dC dI (xT cI cZ cB cO) o.2.2.2.2.2.2.2.2.2 (wM cI cZ cB cO m_ad m_p m_now m_held m_past m_pasts m_refused m_figures m_isLaid m_many m_isMade m_made m_images m_orbits m_chains m_isCarried m_carried m_carriedMany m_isSorted m_leasts m_heads m_headFrom m_text m_typed m_at m_fault m_orders m_pointsThen m_letters m_numbers m_h) (wM cI cZ cB cO m_ad m_p m_now m_held m_past m_pasts o.1 o.2.1 o.2.2.1 o.2.2.2.1 o.2.2.2.2.1 o.2.2.2.2.2.1 o.2.2.2.2.2.2.1 o.2.2.2.2.2.2.2.1 o.2.2.2.2.2.2.2.2.1 m_isCarried m_carried m_carriedMany m_isSorted m_leasts m_heads m_headFrom m_text m_typed m_at m_fault m_orders m_pointsThen m_letters m_numbers m_h) sz) 0 0 (va_A (wM cI cZ cB cO m_ad m_p m_now m_held m_past m_pasts m_refused m_figures m_isLaid m_many m_isMade m_made m_images m_orbits m_chains m_isCarried m_carried m_carriedMany m_isSorted m_leasts m_heads m_headFrom m_text m_typed m_at m_fault m_orders m_pointsThen m_letters m_numbers m_h) sz) := by
  refine x_met (by decide) (Nat.le_of_ble_eq_true rfl) ?_
  intro p e s m args below meth c R Q A hR hsz hA hQ hin C hw ls hl
  have hx := C.1
  have hb := C.2.1
  have hown := C.2.2.2.1
  have htb := C.2.2.2.2.1
  have hl : lv_has ls 4 [(0, .ref m_ad), (1, .int v1)] := hl
  refine lv_aload_n hx hb dX8_holds_0 rfl (lv_at hl 0 rfl) ?_
  refine lv_iload_n hx hb dX8_holds_1 rfl (lv_at hl 1 rfl) ?_
  obtain ⟨r_1, q1, h⟩ := xn_i h
  refine x_callVi (As := [.int v1]) (rest := []) C hw gc_X8_144 ⟨rfl, rfl, ds_X8_isSet, (by rw [hR]; exact Nat.le_of_ble_eq_true rfl), (by rw [hR]; exact Nat.le_of_ble_eq_true rfl), Nat.zero_le _, Nat.zero_le _⟩ (c_X8_isSet l dC dI cI cZ cB cO m_ad m_p m_now m_held m_past m_pasts m_refused m_figures m_isLaid m_many m_isMade m_made m_images m_orbits m_chains m_isCarried m_carried m_carriedMany m_isSorted m_leasts m_heads m_headFrom m_text m_typed m_at m_fault m_orders m_pointsThen m_letters m_numbers m_h v1 _ q1 _) [0, 1, 2, 3, 4, 5, 6, 7, 8, 9, 10, 11, 12, 13, 14, 15, 16, 17, 18] [] (by decide) rfl rfl (by decide) (by decide) rfl rfl rfl hl.1 rfl (Nat.le_of_ble_eq_true rfl) dX8_holds_2 (fun H locs hw => ?_)
  have hw : xWd (dC, dI) A s.heap H locs (wM cI cZ cB cO m_ad m_p m_now m_held m_past m_pasts m_refused m_figures m_isLaid m_many m_isMade m_made m_images m_orbits m_chains m_isCarried m_carried m_carriedMany m_isSorted m_leasts m_heads m_headFrom m_text m_typed m_at m_fault m_orders m_pointsThen m_letters m_numbers m_h) := hw
  refine lv_if_ne (tgt := 15) hx hb dX8_holds_5 (by decide) (fun b2 => ?_) (fun b2 => ?_)
  · replace h := xb_ff b2 h
    refine lv_aload_n hx hb dX8_holds_15 rfl (lv_at hl 0 rfl) ?_
    obtain ⟨⟨m_figures_2, m_isLaid_3, m_many_4, m_isMade_5, m_made_6, m_images_7, m_orbits_8, m_chains_9⟩, q3, h⟩ := xn_i h
    refine x_callVv (As := []) (rest := []) C hw gc_X8_130 ⟨rfl, rfl, ds_X8_lay, (by rw [hR]; exact Nat.le_of_ble_eq_true rfl), (by rw [hR]; exact Nat.le_of_ble_eq_true rfl), Nat.zero_le _, Nat.zero_le _⟩ (c_X8_lay l dC dI cI cZ cB cO m_ad m_p m_now m_held m_past m_pasts m_refused m_figures m_isLaid m_many m_isMade m_made m_images m_orbits m_chains m_isCarried m_carried m_carriedMany m_isSorted m_leasts m_heads m_headFrom m_text m_typed m_at m_fault m_orders m_pointsThen m_letters m_numbers m_h _ q3 _) [0, 1, 2, 3, 4, 5, 6, 7, 8, 9, 10, 11, 12, 13, 14, 15, 16, 17, 18] [] (by decide) rfl rfl (by decide) (by decide) rfl rfl rfl hl.1 rfl (Nat.le_of_ble_eq_true rfl) dX8_holds_16 (fun H locs hw => ?_)
    have hw : xWd (dC, dI) A s.heap H locs (wM cI cZ cB cO m_ad m_p m_now m_held m_past m_pasts m_refused m_figures_2 m_isLaid_3 m_many_4 m_isMade_5 m_made_6 m_images_7 m_orbits_8 m_chains_9 m_isCarried m_carried m_carriedMany m_isSorted m_leasts m_heads m_headFrom m_text m_typed m_at m_fault m_orders m_pointsThen m_letters m_numbers m_h) := hw
    refine lv_iconst (v := (0 : Int32)) hx hb dX8_holds_19 (by decide) ?_
    refine lv_istore_n (lv' := [(2, .int (0 : Int32)), (0, .ref m_ad), (1, .int v1)]) hx hb dX8_holds_20 rfl hl (by decide) rfl (fun ls hl => ?_)
    refine lv_iconst (v := (0 : Int32)) hx hb dX8_holds_21 (by decide) ?_
    refine lv_istore_n (lv' := [(3, .int (0 : Int32)), (2, .int (0 : Int32)), (0, .ref m_ad), (1, .int v1)]) hx hb dX8_holds_22 rfl hl (by decide) rfl (fun ls hl => ?_)
    obtain ⟨z, hr, h⟩ := xn_i h
    refine xL_w (fun (z : (Nat → Int32) × Int32 × Int32) => ∀ (H : Heap) (locs : List Loc) (ls : Array Slot), xWd (dC, dI) A s.heap H locs (wM cI cZ cB cO m_ad m_p m_now m_held m_past m_pasts m_refused z.1 m_isLaid_3 m_many_4 m_isMade_5 m_made_6 m_images_7 m_orbits_8 m_chains_9 m_isCarried m_carried m_carriedMany m_isSorted m_leasts m_heads m_headFrom m_text m_typed m_at m_fault m_orders m_pointsThen m_letters m_numbers m_h) → lv_has ls 4 [(0, .ref m_ad), (1, .int v1), (2, .int z.2.1), (3, .int z.2.2)] → W p l e R s m args below meth c H locs 0 0 Q (F0 m 23 ls [])) (fun (z : (Nat → Int32) × Int32) => ∀ (H : Heap) (locs : List Loc) (ls : Array Slot), xWd (dC, dI) A s.heap H locs (wM cI cZ cB cO m_ad m_p m_now m_held m_past m_pasts m_refused z.1 m_isLaid_3 m_many_4 m_isMade_5 m_made_6 m_images_7 m_orbits_8 m_chains_9 m_isCarried m_carried m_carriedMany m_isSorted m_leasts m_heads m_headFrom m_text m_typed m_at m_fault m_orders m_pointsThen m_letters m_numbers m_h) → lv_has ls 4 [(2, .int z.2)] → W p l e R s m args below meth c H locs 0 0 Q (F0 m 65 ls [])) ?_ hr ?_ _ _ _ hw (lv_sub hl [2, 3, 1, 0] rfl)
    · rintro ⟨m_figures_10, v2_11, v3_12⟩ o h k H locs ls hw hl
      have hw : xWd (dC, dI) A s.heap H locs (wM cI cZ cB cO m_ad m_p m_now m_held m_past m_pasts m_refused m_figures_10 m_isLaid_3 m_many_4 m_isMade_5 m_made_6 m_images_7 m_orbits_8 m_chains_9 m_isCarried m_carried m_carriedMany m_isSorted m_leasts m_heads m_headFrom m_text m_typed m_at m_fault m_orders m_pointsThen m_letters m_numbers m_h) := hw
      have hl : lv_has ls 4 [(0, .ref m_ad), (1, .int v1), (2, .int v2_11), (3, .int v3_12)] := hl
      refine lv_iload_n hx hb dX8_holds_23 rfl (lv_at hl 3 rfl) ?_
      refine lv_aload_n hx hb dX8_holds_24 rfl (lv_at hl 0 rfl) ?_
      refine x_get (ci := 7) C hw inX8 rfl 7 (by decide) lkF_X8_111 rfl 0 rfl rfl dX8_holds_25 ?_
      refine lv_icmp_ge (tgt := 65) hx hb dX8_holds_28 (by decide) (fun b4 => ?_) (fun b4 => ?_)
      · replace h := xb_tt b4 h
        obtain rfl := Option.some.inj h
        exact k _ _ _ hw (lv_sub hl [2] rfl)
      · replace h := xb_ff b4 h
        refine lv_aload_n hx hb dX8_holds_31 rfl (lv_at hl 0 rfl) ?_
        refine lv_aload_n hx hb dX8_holds_32 rfl (lv_at hl 0 rfl) ?_
        refine x_get (ci := 7) C hw inX8 rfl 9 (by decide) lkF_X8_30 rfl 0 rfl rfl dX8_holds_33 ?_
        refine lv_iload_n hx hb dX8_holds_36 rfl (lv_at hl 3 rfl) ?_
        obtain ⟨b5, h⟩ := xk_i h
        refine x_iald C hw 7 0 rfl rfl b5 dX8_holds_37 ?_
        obtain ⟨⟨m_figures_15, r_16⟩, q6, h⟩ := xn_i h
        refine x_callVi (As := [.int (m_made_6 v3_12.toNatClampNeg)]) (rest := []) C hw gc_X8_117 ⟨rfl, rfl, ds_X8_codeAt, (by rw [hR]; exact Nat.le_of_ble_eq_true rfl), (by rw [hR]; exact Nat.le_of_ble_eq_true rfl), Nat.zero_le _, Nat.zero_le _⟩ (c_X8_codeAt l dC dI cI cZ cB cO m_ad m_p m_now m_held m_past m_pasts m_refused m_figures_10 m_isLaid_3 m_many_4 m_isMade_5 m_made_6 m_images_7 m_orbits_8 m_chains_9 m_isCarried m_carried m_carriedMany m_isSorted m_leasts m_heads m_headFrom m_text m_typed m_at m_fault m_orders m_pointsThen m_letters m_numbers m_h (m_made_6 v3_12.toNatClampNeg) _ q6 _) [0, 1, 2, 3, 4, 5, 6, 7, 8, 9, 10, 11, 12, 13, 14, 15, 16, 17, 18] [] (by decide) rfl rfl (by decide) (by decide) rfl rfl rfl hl.1 rfl (Nat.le_of_ble_eq_true rfl) dX8_holds_38 (fun H locs hw => ?_)
        have hw : xWd (dC, dI) A s.heap H locs (wM cI cZ cB cO m_ad m_p m_now m_held m_past m_pasts m_refused m_figures_15 m_isLaid_3 m_many_4 m_isMade_5 m_made_6 m_images_7 m_orbits_8 m_chains_9 m_isCarried m_carried m_carriedMany m_isSorted m_leasts m_heads m_headFrom m_text m_typed m_at m_fault m_orders m_pointsThen m_letters m_numbers m_h) := hw
        refine lv_pop hx hb dX8_holds_41 rfl ?_
        refine lv_iload_n hx hb dX8_holds_42 rfl (lv_at hl 2 rfl) ?_
        refine lv_aload_n hx hb dX8_holds_43 rfl (lv_at hl 0 rfl) ?_
        refine lv_iload_n hx hb dX8_holds_44 rfl (lv_at hl 1 rfl) ?_
        obtain ⟨r_17, q7, h⟩ := xn_i h
        refine x_callVi (As := [.int v1]) (rest := [.int v2_11]) C hw gc_X8_147 ⟨rfl, rfl, ds_X8_imageOf, (by rw [hR]; exact Nat.le_of_ble_eq_true rfl), (by rw [hR]; exact Nat.le_of_ble_eq_true rfl), Nat.zero_le _, Nat.zero_le _⟩ (c_X8_imageOf l dC dI cI cZ cB cO m_ad m_p m_now m_held m_past m_pasts m_refused m_figures_15 m_isLaid_3 m_many_4 m_isMade_5 m_made_6 m_images_7 m_orbits_8 m_chains_9 m_isCarried m_carried m_carriedMany m_isSorted m_leasts m_heads m_headFrom m_text m_typed m_at m_fault m_orders m_pointsThen m_letters m_numbers m_h v1 _ q7 _) [0, 1, 2, 3, 4, 5, 6, 7, 8, 9, 10, 11, 12, 13, 14, 15, 16, 17, 18] [] (by decide) rfl rfl (by decide) (by decide) rfl rfl rfl hl.1 rfl (Nat.le_of_ble_eq_true rfl) dX8_holds_45 (fun H locs hw => ?_)
        have hw : xWd (dC, dI) A s.heap H locs (wM cI cZ cB cO m_ad m_p m_now m_held m_past m_pasts m_refused m_figures_15 m_isLaid_3 m_many_4 m_isMade_5 m_made_6 m_images_7 m_orbits_8 m_chains_9 m_isCarried m_carried m_carriedMany m_isSorted m_leasts m_heads m_headFrom m_text m_typed m_at m_fault m_orders m_pointsThen m_letters m_numbers m_h) := hw
        refine lv_iload_n hx hb dX8_holds_48 rfl (lv_at hl 1 rfl) ?_
        refine lv_icmp_ne (tgt := 56) hx hb dX8_holds_49 (by decide) (fun b8 => ?_) (fun b8 => ?_)
        · replace h := xb_ff b8 h
          refine lv_iconst (v := (0 : Int32)) hx hb dX8_holds_56 (by decide) ?_
          refine lv_iadd hx hb dX8_holds_57 ?_
          refine lv_istore_n (lv' := [(2, .int (v2_11 + (0 : Int32))), (0, .ref m_ad), (1, .int v1), (3, .int v3_12)]) hx hb dX8_holds_58 rfl hl (by decide) rfl (fun ls hl => ?_)
          refine lv_iinc (v := (v3_12 + (1 : Int32))) (lv' := [(3, .int (v3_12 + (1 : Int32))), (2, .int (v2_11 + (0 : Int32))), (0, .ref m_ad), (1, .int v1)]) hx hb dX8_holds_59 hl (k := 3) rfl (congrArg (fun q => v3_12 + q) (by decide)) (by decide) rfl (fun ls hl => ?_)
          refine lv_goto (tgt := 23) hx hb dX8_holds_62 (by decide) ?_
          obtain rfl := Option.some.inj h
          exact k _ _ _ hw (lv_sub hl [2, 3, 1, 0] rfl)
        · replace h := xb_tt b8 h
          refine lv_iconst (v := (1 : Int32)) hx hb dX8_holds_52 (by decide) ?_
          refine lv_goto (tgt := 57) hx hb dX8_holds_53 (by decide) ?_
          refine lv_iadd hx hb dX8_holds_57 ?_
          refine lv_istore_n (lv' := [(2, .int (v2_11 + (1 : Int32))), (0, .ref m_ad), (1, .int v1), (3, .int v3_12)]) hx hb dX8_holds_58 rfl hl (by decide) rfl (fun ls hl => ?_)
          refine lv_iinc (v := (v3_12 + (1 : Int32))) (lv' := [(3, .int (v3_12 + (1 : Int32))), (2, .int (v2_11 + (1 : Int32))), (0, .ref m_ad), (1, .int v1)]) hx hb dX8_holds_59 hl (k := 3) rfl (congrArg (fun q => v3_12 + q) (by decide)) (by decide) rfl (fun ls hl => ?_)
          refine lv_goto (tgt := 23) hx hb dX8_holds_62 (by decide) ?_
          obtain rfl := Option.some.inj h
          exact k _ _ _ hw (lv_sub hl [2, 3, 1, 0] rfl)
    · obtain ⟨m_figures_13, v2_14⟩ := z
      intro H locs ls hw hl
      have hw : xWd (dC, dI) A s.heap H locs (wM cI cZ cB cO m_ad m_p m_now m_held m_past m_pasts m_refused m_figures_13 m_isLaid_3 m_many_4 m_isMade_5 m_made_6 m_images_7 m_orbits_8 m_chains_9 m_isCarried m_carried m_carriedMany m_isSorted m_leasts m_heads m_headFrom m_text m_typed m_at m_fault m_orders m_pointsThen m_letters m_numbers m_h) := hw
      have hl : lv_has ls 4 [(2, .int v2_14)] := hl
      refine lv_iload_n hx hb dX8_holds_65 rfl (lv_at hl 0 rfl) ?_
      obtain rfl := Option.some.inj h
      exact x_reti C hQ hA hw dX8_holds_66
  · replace h := xb_tt b2 h
    refine lv_aload_n hx hb dX8_holds_8 rfl (lv_at hl 0 rfl) ?_
    refine lv_bipush (v := (-2 : Int32)) hx hb dX8_holds_9 (by decide) ?_
    obtain ⟨⟨m_refused_18, r_19⟩, q9, h⟩ := xn_i h
    refine x_callVi (As := [.int (-2 : Int32)]) (rest := []) C hw gc_X8_70 ⟨rfl, rfl, ds_X8_refuses, (by rw [hR]; exact Nat.le_of_ble_eq_true rfl), (by rw [hR]; exact Nat.le_of_ble_eq_true rfl), Nat.zero_le _, Nat.zero_le _⟩ (c_X8_refuses l dC dI cI cZ cB cO m_ad m_p m_now m_held m_past m_pasts m_refused m_figures m_isLaid m_many m_isMade m_made m_images m_orbits m_chains m_isCarried m_carried m_carriedMany m_isSorted m_leasts m_heads m_headFrom m_text m_typed m_at m_fault m_orders m_pointsThen m_letters m_numbers m_h (-2 : Int32) _ q9 _) [0, 1, 2, 3, 4, 5, 6, 7, 8, 9, 10, 11, 12, 13, 14, 15, 16, 17, 18] [] (by decide) rfl rfl (by decide) (by decide) rfl rfl rfl hl.1 rfl (Nat.le_of_ble_eq_true rfl) dX8_holds_11 (fun H locs hw => ?_)
    have hw : xWd (dC, dI) A s.heap H locs (wM cI cZ cB cO m_ad m_p m_now m_held m_past m_pasts m_refused_18 m_figures m_isLaid m_many m_isMade m_made m_images m_orbits m_chains m_isCarried m_carried m_carriedMany m_isSorted m_leasts m_heads m_headFrom m_text m_typed m_at m_fault m_orders m_pointsThen m_letters m_numbers m_h) := hw
    obtain rfl := Option.some.inj h
    exact x_reti C hQ hA hw dX8_holds_14
noncomputable def f_X8_headsOf (m_now : (Nat → Int32)) (m_figures : (Nat → Int32)) (m_isCarried : (Nat → Int32)) (m_carried : (Nat → Int32)) (m_carriedMany : Int32) (m_isSorted : Int32) (m_leasts : (Nat → Int32)) (m_heads : (Nat → Int32)) (m_headFrom : (Nat → Int32)) (v1 : Int32) (v2 : Int32) : Option ((Nat → Int32) × (Nat → Int32) × (Nat → Int32) × Int32 × Int32 × (Nat → Int32) × (Nat → Int32) × (Nat → Int32) × Int32) := xn (f_X8_sortSets m_now m_figures m_isCarried m_carried m_carriedMany m_isSorted m_leasts m_heads m_headFrom) (fun (z : (Nat → Int32) × (Nat → Int32) × (Nat → Int32) × Int32 × Int32 × (Nat → Int32) × (Nat → Int32) × (Nat → Int32)) => match z with | (m_figures_1, m_isCarried_2, m_carried_3, m_carriedMany_4, m_isSorted_5, m_leasts_6, m_heads_7, m_headFrom_8) => xk (vp_in (v1 + (1 : Int32)) 10) (xk (vp_in v1 10) (xb (v2 = (-1 : Int32)) (some (m_figures_1, m_isCarried_2, m_carried_3, m_carriedMany_4, m_isSorted_5, m_leasts_6, m_heads_7, m_headFrom_8, ((m_headFrom_8 (v1 + (1 : Int32)).toNatClampNeg) - (m_headFrom_8 v1.toNatClampNeg)))) (xb (((m_headFrom_8 (v1 + (1 : Int32)).toNatClampNeg) - (m_headFrom_8 v1.toNatClampNeg)) ≤ v2) (some (m_figures_1, m_isCarried_2, m_carried_3, m_carriedMany_4, m_isSorted_5, m_leasts_6, m_heads_7, m_headFrom_8, (-5 : Int32))) (xk (vp_in ((m_headFrom_8 v1.toNatClampNeg) + v2) 256) (some (m_figures_1, m_isCarried_2, m_carried_3, m_carriedMany_4, m_isSorted_5, m_leasts_6, m_heads_7, m_headFrom_8, (m_heads_7 ((m_headFrom_8 v1.toNatClampNeg) + v2).toNatClampNeg))))))))
set_option maxHeartbeats 4000000 in
set_option maxRecDepth 100000 in
theorem c_X8_headsOf (l : Launch) (dC : Nat → ClassId) (dI : Nat → Nat → Nat) (cI cZ cB cO : ClassId) (m_ad : Nat) (m_p : Nat → Nat) (m_now : (Nat → Int32)) (m_held : (Nat → Int32)) (m_past : (Nat → Int32)) (m_pasts : Int32) (m_refused : (Nat → Int32)) (m_figures : (Nat → Int32)) (m_isLaid : Int32) (m_many : Int32) (m_isMade : (Nat → Int32)) (m_made : (Nat → Int32)) (m_images : (Nat → Int32)) (m_orbits : (Nat → Int32)) (m_chains : (Nat → Int32)) (m_isCarried : (Nat → Int32)) (m_carried : (Nat → Int32)) (m_carriedMany : Int32) (m_isSorted : Int32) (m_leasts : (Nat → Int32)) (m_heads : (Nat → Int32)) (m_headFrom : (Nat → Int32)) (m_text : (Nat → Int32)) (m_typed : Int32) (m_at : Int32) (m_fault : Int32) (m_orders : Int32) (m_pointsThen : Int32) (m_letters : (Nat → Int32)) (m_numbers : (Nat → Int32)) (m_h : Int64) (v1 : Int32) (v2 : Int32) (o : (Nat → Int32) × (Nat → Int32) × (Nat → Int32) × Int32 × Int32 × (Nat → Int32) × (Nat → Int32) × (Nat → Int32) × Int32) (h : f_X8_headsOf m_now m_figures m_isCarried m_carried m_carriedMany m_isSorted m_leasts m_heads m_headFrom v1 v2 = some o) (sz : Nat) : Met l yX8_headsOf (xW yX8_headsOf cX8_headsOf 4 (some .int)) { frames := 4, cells := 0, slots := 0, locals := 92 } (xPre dC dI (xT cI cZ cB cO) [.ref m_ad, .int v1, .int v2] (wM cI cZ cB cO m_ad m_p m_now m_held m_past m_pasts m_refused m_figures m_isLaid m_many m_isMade m_made m_images m_orbits m_chains m_isCarried m_carried m_carriedMany m_isSorted m_leasts m_heads m_headFrom m_text m_typed m_at m_fault m_orders m_pointsThen m_letters m_numbers m_h) sz) (xQi dC dI (xT cI cZ cB cO) o.2.2.2.2.2.2.2.2 (wM cI cZ cB cO m_ad m_p m_now m_held m_past m_pasts m_refused m_figures m_isLaid m_many m_isMade m_made m_images m_orbits m_chains m_isCarried m_carried m_carriedMany m_isSorted m_leasts m_heads m_headFrom m_text m_typed m_at m_fault m_orders m_pointsThen m_letters m_numbers m_h) (wM cI cZ cB cO m_ad m_p m_now m_held m_past m_pasts m_refused o.1 m_isLaid m_many m_isMade m_made m_images m_orbits m_chains o.2.1 o.2.2.1 o.2.2.2.1 o.2.2.2.2.1 o.2.2.2.2.2.1 o.2.2.2.2.2.2.1 o.2.2.2.2.2.2.2.1 m_text m_typed m_at m_fault m_orders m_pointsThen m_letters m_numbers m_h) sz) 0 0 (va_A (wM cI cZ cB cO m_ad m_p m_now m_held m_past m_pasts m_refused m_figures m_isLaid m_many m_isMade m_made m_images m_orbits m_chains m_isCarried m_carried m_carriedMany m_isSorted m_leasts m_heads m_headFrom m_text m_typed m_at m_fault m_orders m_pointsThen m_letters m_numbers m_h) sz) := by
  refine x_met (by decide) (Nat.le_of_ble_eq_true rfl) ?_
  intro p e s m args below meth c R Q A hR hsz hA hQ hin C hw ls hl
  have hx := C.1
  have hb := C.2.1
  have hown := C.2.2.2.1
  have htb := C.2.2.2.2.1
  have hl : lv_has ls 4 [(0, .ref m_ad), (1, .int v1), (2, .int v2)] := hl
  refine lv_aload_n hx hb dX8_headsOf_0 rfl (lv_at hl 0 rfl) ?_
  obtain ⟨⟨m_figures_1, m_isCarried_2, m_carried_3, m_carriedMany_4, m_isSorted_5, m_leasts_6, m_heads_7, m_headFrom_8⟩, q1, h⟩ := xn_i h
  refine x_callVv (As := []) (rest := []) C hw gc_X8_165 ⟨rfl, rfl, ds_X8_sortSets, (by rw [hR]; exact Nat.le_of_ble_eq_true rfl), (by rw [hR]; exact Nat.le_of_ble_eq_true rfl), Nat.zero_le _, Nat.zero_le _⟩ (c_X8_sortSets l dC dI cI cZ cB cO m_ad m_p m_now m_held m_past m_pasts m_refused m_figures m_isLaid m_many m_isMade m_made m_images m_orbits m_chains m_isCarried m_carried m_carriedMany m_isSorted m_leasts m_heads m_headFrom m_text m_typed m_at m_fault m_orders m_pointsThen m_letters m_numbers m_h _ q1 _) [0, 1, 2, 3, 4, 5, 6, 7, 8, 9, 10, 11, 12, 13, 14, 15, 16, 17, 18] [] (by decide) rfl rfl (by decide) (by decide) rfl rfl rfl hl.1 rfl (Nat.le_of_ble_eq_true rfl) dX8_headsOf_1 (fun H locs hw => ?_)
  have hw : xWd (dC, dI) A s.heap H locs (wM cI cZ cB cO m_ad m_p m_now m_held m_past m_pasts m_refused m_figures_1 m_isLaid m_many m_isMade m_made m_images m_orbits m_chains m_isCarried_2 m_carried_3 m_carriedMany_4 m_isSorted_5 m_leasts_6 m_heads_7 m_headFrom_8 m_text m_typed m_at m_fault m_orders m_pointsThen m_letters m_numbers m_h) := hw
  refine lv_aload_n hx hb dX8_headsOf_4 rfl (lv_at hl 0 rfl) ?_
  refine x_get (ci := 7) C hw inX8 rfl 19 (by decide) lkF_X8_54 rfl 0 rfl rfl dX8_headsOf_5 ?_
  refine lv_iload_n hx hb dX8_headsOf_8 rfl (lv_at hl 1 rfl) ?_
  refine lv_iconst (v := (1 : Int32)) hx hb dX8_headsOf_9 (by decide) ?_
  refine lv_iadd hx hb dX8_headsOf_10 ?_
  obtain ⟨b2, h⟩ := xk_i h
  refine x_iald C hw 15 0 rfl rfl b2 dX8_headsOf_11 ?_
  refine lv_aload_n hx hb dX8_headsOf_12 rfl (lv_at hl 0 rfl) ?_
  refine x_get (ci := 7) C hw inX8 rfl 19 (by decide) lkF_X8_54 rfl 0 rfl rfl dX8_headsOf_13 ?_
  refine lv_iload_n hx hb dX8_headsOf_16 rfl (lv_at hl 1 rfl) ?_
  obtain ⟨b3, h⟩ := xk_i h
  refine x_iald C hw 15 0 rfl rfl b3 dX8_headsOf_17 ?_
  refine lv_isub hx hb dX8_headsOf_18 ?_
  refine lv_istore_n (lv' := [(3, .int ((m_headFrom_8 (v1 + (1 : Int32)).toNatClampNeg) - (m_headFrom_8 v1.toNatClampNeg))), (0, .ref m_ad), (1, .int v1), (2, .int v2)]) hx hb dX8_headsOf_19 rfl hl (by decide) rfl (fun ls hl => ?_)
  refine lv_iload_n hx hb dX8_headsOf_20 rfl (lv_at hl 3 rfl) ?_
  refine lv_iconst (v := (-1 : Int32)) hx hb dX8_headsOf_21 (by decide) ?_
  refine lv_icmp_ne (tgt := 29) hx hb dX8_headsOf_22 (by decide) (fun b4 => ?_) (fun b4 => ?_)
  · replace h := xb_ff b4 h
    refine lv_iload_n hx hb dX8_headsOf_29 rfl (lv_at hl 3 rfl) ?_
    refine lv_iload_n hx hb dX8_headsOf_30 rfl (lv_at hl 0 rfl) ?_
    refine lv_icmp_ge (tgt := 50) hx hb dX8_headsOf_31 (by decide) (fun b5 => ?_) (fun b5 => ?_)
    · replace h := xb_tt b5 h
      refine lv_bipush (v := (-5 : Int32)) hx hb dX8_headsOf_50 (by decide) ?_
      obtain rfl := Option.some.inj h
      exact x_reti C hQ hA hw dX8_headsOf_52
    · replace h := xb_ff b5 h
      refine lv_aload_n hx hb dX8_headsOf_34 rfl (lv_at hl 1 rfl) ?_
      refine x_get (ci := 7) C hw inX8 rfl 18 (by decide) lkF_X8_51 rfl 0 rfl rfl dX8_headsOf_35 ?_
      refine lv_aload_n hx hb dX8_headsOf_38 rfl (lv_at hl 1 rfl) ?_
      refine x_get (ci := 7) C hw inX8 rfl 19 (by decide) lkF_X8_54 rfl 0 rfl rfl dX8_headsOf_39 ?_
      refine lv_iload_n hx hb dX8_headsOf_42 rfl (lv_at hl 2 rfl) ?_
      refine x_iald C hw 15 0 rfl rfl b3 dX8_headsOf_43 ?_
      refine lv_iload_n hx hb dX8_headsOf_44 rfl (lv_at hl 3 rfl) ?_
      refine lv_iadd hx hb dX8_headsOf_45 ?_
      obtain ⟨b6, h⟩ := xk_i h
      refine x_iald C hw 14 0 rfl rfl b6 dX8_headsOf_46 ?_
      refine lv_goto (tgt := 52) hx hb dX8_headsOf_47 (by decide) ?_
      obtain rfl := Option.some.inj h
      exact x_reti C hQ hA hw dX8_headsOf_52
  · replace h := xb_tt b4 h
    refine lv_iload_n hx hb dX8_headsOf_25 rfl (lv_at hl 0 rfl) ?_
    refine lv_goto (tgt := 52) hx hb dX8_headsOf_26 (by decide) ?_
    obtain rfl := Option.some.inj h
    exact x_reti C hQ hA hw dX8_headsOf_52
noncomputable def f_X8_heads (m_now : (Nat → Int32)) (m_refused : (Nat → Int32)) (m_figures : (Nat → Int32)) (m_isCarried : (Nat → Int32)) (m_carried : (Nat → Int32)) (m_carriedMany : Int32) (m_isSorted : Int32) (m_leasts : (Nat → Int32)) (m_heads : (Nat → Int32)) (m_headFrom : (Nat → Int32)) (v1 : Int32) (v2 : Int32) : Option ((Nat → Int32) × (Nat → Int32) × (Nat → Int32) × (Nat → Int32) × Int32 × Int32 × (Nat → Int32) × (Nat → Int32) × (Nat → Int32) × Int32) := xn (f_X8_in v1 (0 : Int32) (m_now 0)) (fun (r_1 : Int32) => xb (r_1 = 0) (xn (f_X8_refuses m_refused (-2 : Int32)) (fun (z : (Nat → Int32) × Int32) => match z with | (m_refused_2, r_3) => some (m_refused_2, m_figures, m_isCarried, m_carried, m_carriedMany, m_isSorted, m_leasts, m_heads, m_headFrom, r_3))) (xb (v2 < (-1 : Int32)) (xn (f_X8_refuses m_refused (-2 : Int32)) (fun (z : (Nat → Int32) × Int32) => match z with | (m_refused_4, r_5) => some (m_refused_4, m_figures, m_isCarried, m_carried, m_carriedMany, m_isSorted, m_leasts, m_heads, m_headFrom, r_5))) (xn (f_X8_headsOf m_now m_figures m_isCarried m_carried m_carriedMany m_isSorted m_leasts m_heads m_headFrom v1 v2) (fun (z : (Nat → Int32) × (Nat → Int32) × (Nat → Int32) × Int32 × Int32 × (Nat → Int32) × (Nat → Int32) × (Nat → Int32) × Int32) => match z with | (m_figures_6, m_isCarried_7, m_carried_8, m_carriedMany_9, m_isSorted_10, m_leasts_11, m_heads_12, m_headFrom_13, r_14) => some (m_refused, m_figures_6, m_isCarried_7, m_carried_8, m_carriedMany_9, m_isSorted_10, m_leasts_11, m_heads_12, m_headFrom_13, r_14)))))
set_option maxHeartbeats 4000000 in
set_option maxRecDepth 100000 in
theorem c_X8_heads (l : Launch) (dC : Nat → ClassId) (dI : Nat → Nat → Nat) (cI cZ cB cO : ClassId) (m_ad : Nat) (m_p : Nat → Nat) (m_now : (Nat → Int32)) (m_held : (Nat → Int32)) (m_past : (Nat → Int32)) (m_pasts : Int32) (m_refused : (Nat → Int32)) (m_figures : (Nat → Int32)) (m_isLaid : Int32) (m_many : Int32) (m_isMade : (Nat → Int32)) (m_made : (Nat → Int32)) (m_images : (Nat → Int32)) (m_orbits : (Nat → Int32)) (m_chains : (Nat → Int32)) (m_isCarried : (Nat → Int32)) (m_carried : (Nat → Int32)) (m_carriedMany : Int32) (m_isSorted : Int32) (m_leasts : (Nat → Int32)) (m_heads : (Nat → Int32)) (m_headFrom : (Nat → Int32)) (m_text : (Nat → Int32)) (m_typed : Int32) (m_at : Int32) (m_fault : Int32) (m_orders : Int32) (m_pointsThen : Int32) (m_letters : (Nat → Int32)) (m_numbers : (Nat → Int32)) (m_h : Int64) (v1 : Int32) (v2 : Int32) (o : (Nat → Int32) × (Nat → Int32) × (Nat → Int32) × (Nat → Int32) × Int32 × Int32 × (Nat → Int32) × (Nat → Int32) × (Nat → Int32) × Int32) (h : f_X8_heads m_now m_refused m_figures m_isCarried m_carried m_carriedMany m_isSorted m_leasts m_heads m_headFrom v1 v2 = some o) (sz : Nat) : Met l yX8_heads (xW yX8_heads cX8_heads 3 (some .int)) { frames := 5, cells := 0, slots := 0, locals := 115 } (xPre dC dI (xT cI cZ cB cO) [.ref m_ad, .int v1, .int v2] (wM cI cZ cB cO m_ad m_p m_now m_held m_past m_pasts m_refused m_figures m_isLaid m_many m_isMade m_made m_images m_orbits m_chains m_isCarried m_carried m_carriedMany m_isSorted m_leasts m_heads m_headFrom m_text m_typed m_at m_fault m_orders m_pointsThen m_letters m_numbers m_h) sz) (xQi dC dI (xT cI cZ cB cO) o.2.2.2.2.2.2.2.2.2 (wM cI cZ cB cO m_ad m_p m_now m_held m_past m_pasts m_refused m_figures m_isLaid m_many m_isMade m_made m_images m_orbits m_chains m_isCarried m_carried m_carriedMany m_isSorted m_leasts m_heads m_headFrom m_text m_typed m_at m_fault m_orders m_pointsThen m_letters m_numbers m_h) (wM cI cZ cB cO m_ad m_p m_now m_held m_past m_pasts o.1 o.2.1 m_isLaid m_many m_isMade m_made m_images m_orbits m_chains o.2.2.1 o.2.2.2.1 o.2.2.2.2.1 o.2.2.2.2.2.1 o.2.2.2.2.2.2.1 o.2.2.2.2.2.2.2.1 o.2.2.2.2.2.2.2.2.1 m_text m_typed m_at m_fault m_orders m_pointsThen m_letters m_numbers m_h) sz) 0 0 (va_A (wM cI cZ cB cO m_ad m_p m_now m_held m_past m_pasts m_refused m_figures m_isLaid m_many m_isMade m_made m_images m_orbits m_chains m_isCarried m_carried m_carriedMany m_isSorted m_leasts m_heads m_headFrom m_text m_typed m_at m_fault m_orders m_pointsThen m_letters m_numbers m_h) sz) := by
  refine x_met (by decide) (Nat.le_of_ble_eq_true rfl) ?_
  intro p e s m args below meth c R Q A hR hsz hA hQ hin C hw ls hl
  have hx := C.1
  have hb := C.2.1
  have hown := C.2.2.2.1
  have htb := C.2.2.2.2.1
  have hl : lv_has ls 3 [(0, .ref m_ad), (1, .int v1), (2, .int v2)] := hl
  refine lv_iload_n hx hb dX8_heads_0 rfl (lv_at hl 1 rfl) ?_
  refine lv_iconst (v := (0 : Int32)) hx hb dX8_heads_1 (by decide) ?_
  refine lv_aload_n hx hb dX8_heads_2 rfl (lv_at hl 0 rfl) ?_
  refine x_get (ci := 7) C hw inX8 rfl 0 (by decide) lkF_X8_7 rfl 0 rfl rfl dX8_heads_3 ?_
  refine lv_iconst (v := (0 : Int32)) hx hb dX8_heads_6 (by decide) ?_
  refine x_ialk C hw 1 0 rfl rfl (k := 0) (by decide) (vp_in_iff.mpr (by decide)) dX8_heads_7 ?_
  obtain ⟨r_1, q1, h⟩ := xn_i h
  refine x_callSi (As := [.int v1, .int (0 : Int32), .int (m_now 0)]) (rest := []) C hw gc_X8_84 ds_X8_in (by rw [hR]; exact Nat.le_of_ble_eq_true rfl) (by rw [hR]; exact Nat.le_of_ble_eq_true rfl) rfl rfl (Nat.zero_le _) (Nat.zero_le _) (c_X8_in l dC dI cI cZ cB cO v1 (0 : Int32) (m_now 0) _ q1 _) [] [0, 1, 2, 3, 4, 5, 6, 7, 8, 9, 10, 11, 12, 13, 14, 15, 16, 17, 18] (by decide) rfl rfl (by decide) (by decide) rfl hl.1 rfl (Nat.le_of_ble_eq_true rfl) dX8_heads_8 (fun H locs hw => ?_)
  have hw : xWd (dC, dI) A s.heap H locs (wM cI cZ cB cO m_ad m_p m_now m_held m_past m_pasts m_refused m_figures m_isLaid m_many m_isMade m_made m_images m_orbits m_chains m_isCarried m_carried m_carriedMany m_isSorted m_leasts m_heads m_headFrom m_text m_typed m_at m_fault m_orders m_pointsThen m_letters m_numbers m_h) := hw.sub [0, 1, 2, 3, 4, 5, 6, 7, 8, 9, 10, 11, 12, 13, 14, 15, 16, 17, 18] (by decide) rfl
  refine lv_if_eq (tgt := 28) hx hb dX8_heads_11 (by decide) (fun b2 => ?_) (fun b2 => ?_)
  · replace h := xb_tt b2 h
    refine lv_aload_n hx hb dX8_heads_28 rfl (lv_at hl 0 rfl) ?_
    refine lv_bipush (v := (-2 : Int32)) hx hb dX8_heads_29 (by decide) ?_
    obtain ⟨⟨m_refused_2, r_3⟩, q3, h⟩ := xn_i h
    refine x_callVi (As := [.int (-2 : Int32)]) (rest := []) C hw gc_X8_70 ⟨rfl, rfl, ds_X8_refuses, (by rw [hR]; exact Nat.le_of_ble_eq_true rfl), (by rw [hR]; exact Nat.le_of_ble_eq_true rfl), Nat.zero_le _, Nat.zero_le _⟩ (c_X8_refuses l dC dI cI cZ cB cO m_ad m_p m_now m_held m_past m_pasts m_refused m_figures m_isLaid m_many m_isMade m_made m_images m_orbits m_chains m_isCarried m_carried m_carriedMany m_isSorted m_leasts m_heads m_headFrom m_text m_typed m_at m_fault m_orders m_pointsThen m_letters m_numbers m_h (-2 : Int32) _ q3 _) [0, 1, 2, 3, 4, 5, 6, 7, 8, 9, 10, 11, 12, 13, 14, 15, 16, 17, 18] [] (by decide) rfl rfl (by decide) (by decide) rfl rfl rfl hl.1 rfl (Nat.le_of_ble_eq_true rfl) dX8_heads_31 (fun H locs hw => ?_)
    have hw : xWd (dC, dI) A s.heap H locs (wM cI cZ cB cO m_ad m_p m_now m_held m_past m_pasts m_refused_2 m_figures m_isLaid m_many m_isMade m_made m_images m_orbits m_chains m_isCarried m_carried m_carriedMany m_isSorted m_leasts m_heads m_headFrom m_text m_typed m_at m_fault m_orders m_pointsThen m_letters m_numbers m_h) := hw
    obtain rfl := Option.some.inj h
    exact x_reti C hQ hA hw dX8_heads_34
  · replace h := xb_ff b2 h
    refine lv_iload_n hx hb dX8_heads_14 rfl (lv_at hl 2 rfl) ?_
    refine lv_iconst (v := (-1 : Int32)) hx hb dX8_heads_15 (by decide) ?_
    refine lv_icmp_lt (tgt := 28) hx hb dX8_heads_16 (by decide) (fun b4 => ?_) (fun b4 => ?_)
    · replace h := xb_tt b4 h
      refine lv_aload_n hx hb dX8_heads_28 rfl (lv_at hl 0 rfl) ?_
      refine lv_bipush (v := (-2 : Int32)) hx hb dX8_heads_29 (by decide) ?_
      obtain ⟨⟨m_refused_4, r_5⟩, q5, h⟩ := xn_i h
      refine x_callVi (As := [.int (-2 : Int32)]) (rest := []) C hw gc_X8_70 ⟨rfl, rfl, ds_X8_refuses, (by rw [hR]; exact Nat.le_of_ble_eq_true rfl), (by rw [hR]; exact Nat.le_of_ble_eq_true rfl), Nat.zero_le _, Nat.zero_le _⟩ (c_X8_refuses l dC dI cI cZ cB cO m_ad m_p m_now m_held m_past m_pasts m_refused m_figures m_isLaid m_many m_isMade m_made m_images m_orbits m_chains m_isCarried m_carried m_carriedMany m_isSorted m_leasts m_heads m_headFrom m_text m_typed m_at m_fault m_orders m_pointsThen m_letters m_numbers m_h (-2 : Int32) _ q5 _) [0, 1, 2, 3, 4, 5, 6, 7, 8, 9, 10, 11, 12, 13, 14, 15, 16, 17, 18] [] (by decide) rfl rfl (by decide) (by decide) rfl rfl rfl hl.1 rfl (Nat.le_of_ble_eq_true rfl) dX8_heads_31 (fun H locs hw => ?_)
      have hw : xWd (dC, dI) A s.heap H locs (wM cI cZ cB cO m_ad m_p m_now m_held m_past m_pasts m_refused_4 m_figures m_isLaid m_many m_isMade m_made m_images m_orbits m_chains m_isCarried m_carried m_carriedMany m_isSorted m_leasts m_heads m_headFrom m_text m_typed m_at m_fault m_orders m_pointsThen m_letters m_numbers m_h) := hw
      obtain rfl := Option.some.inj h
      exact x_reti C hQ hA hw dX8_heads_34
    · replace h := xb_ff b4 h
      refine lv_aload_n hx hb dX8_heads_19 rfl (lv_at hl 0 rfl) ?_
      refine lv_iload_n hx hb dX8_heads_20 rfl (lv_at hl 1 rfl) ?_
      refine lv_iload_n hx hb dX8_heads_21 rfl (lv_at hl 2 rfl) ?_
      obtain ⟨⟨m_figures_6, m_isCarried_7, m_carried_8, m_carriedMany_9, m_isSorted_10, m_leasts_11, m_heads_12, m_headFrom_13, r_14⟩, q6, h⟩ := xn_i h
      refine x_callVi (As := [.int v1, .int v2]) (rest := []) C hw gc_X8_171 ⟨rfl, rfl, ds_X8_headsOf, (by rw [hR]; exact Nat.le_of_ble_eq_true rfl), (by rw [hR]; exact Nat.le_of_ble_eq_true rfl), Nat.zero_le _, Nat.zero_le _⟩ (c_X8_headsOf l dC dI cI cZ cB cO m_ad m_p m_now m_held m_past m_pasts m_refused m_figures m_isLaid m_many m_isMade m_made m_images m_orbits m_chains m_isCarried m_carried m_carriedMany m_isSorted m_leasts m_heads m_headFrom m_text m_typed m_at m_fault m_orders m_pointsThen m_letters m_numbers m_h v1 v2 _ q6 _) [0, 1, 2, 3, 4, 5, 6, 7, 8, 9, 10, 11, 12, 13, 14, 15, 16, 17, 18] [] (by decide) rfl rfl (by decide) (by decide) rfl rfl rfl hl.1 rfl (Nat.le_of_ble_eq_true rfl) dX8_heads_22 (fun H locs hw => ?_)
      have hw : xWd (dC, dI) A s.heap H locs (wM cI cZ cB cO m_ad m_p m_now m_held m_past m_pasts m_refused m_figures_6 m_isLaid m_many m_isMade m_made m_images m_orbits m_chains m_isCarried_7 m_carried_8 m_carriedMany_9 m_isSorted_10 m_leasts_11 m_heads_12 m_headFrom_13 m_text m_typed m_at m_fault m_orders m_pointsThen m_letters m_numbers m_h) := hw
      refine lv_goto (tgt := 34) hx hb dX8_heads_25 (by decide) ?_
      obtain rfl := Option.some.inj h
      exact x_reti C hQ hA hw dX8_heads_34
noncomputable def f_X8_head_L1 (m_heads_8 : (Nat → Int32)) (r_10 : Int32) (v3_12 : Int32) : Option ((Int32) ⊕ (Int32)) := xk (vp_in v3_12 256) (xb ((m_heads_8 v3_12.toNatClampNeg) = r_10) (some (.inr v3_12)) (some (.inl (v3_12 + (1 : Int32)))))
noncomputable def f_X8_head (m_now : (Nat → Int32)) (m_refused : (Nat → Int32)) (m_figures : (Nat → Int32)) (m_isCarried : (Nat → Int32)) (m_carried : (Nat → Int32)) (m_carriedMany : Int32) (m_isSorted : Int32) (m_leasts : (Nat → Int32)) (m_heads : (Nat → Int32)) (m_headFrom : (Nat → Int32)) (v1 : Int32) : Option ((Nat → Int32) × (Nat → Int32) × (Nat → Int32) × (Nat → Int32) × Int32 × Int32 × (Nat → Int32) × (Nat → Int32) × (Nat → Int32) × Int32) := xn (f_X8_isSet m_now v1) (fun (r_1 : Int32) => xb (r_1 = 0) (xn (f_X8_refuses m_refused (-2 : Int32)) (fun (z : (Nat → Int32) × Int32) => match z with | (m_refused_15, r_16) => some (m_refused_15, m_figures, m_isCarried, m_carried, m_carriedMany, m_isSorted, m_leasts, m_heads, m_headFrom, r_16))) (xn (f_X8_leastOf m_now m_figures m_isCarried m_carried m_carriedMany m_isSorted m_leasts m_heads m_headFrom v1) (fun (z : (Nat → Int32) × (Nat → Int32) × (Nat → Int32) × Int32 × Int32 × (Nat → Int32) × (Nat → Int32) × (Nat → Int32) × Int32) => match z with | (m_figures_2, m_isCarried_3, m_carried_4, m_carriedMany_5, m_isSorted_6, m_leasts_7, m_heads_8, m_headFrom_9, r_10) => xn (f_X8_size v1) (fun (r_11 : Int32) => xk (vp_in r_11 10) (xn (xL (f_X8_head_L1 m_heads_8 r_10) (m_headFrom_9 r_11.toNatClampNeg)) (fun (v3_13 : Int32) => xn (f_X8_size v1) (fun (r_14 : Int32) => xk (vp_in r_14 10) (some (m_refused, m_figures_2, m_isCarried_3, m_carried_4, m_carriedMany_5, m_isSorted_6, m_leasts_7, m_heads_8, m_headFrom_9, (v3_13 - (m_headFrom_9 r_14.toNatClampNeg)))))))))))
set_option maxHeartbeats 4000000 in
set_option maxRecDepth 100000 in
theorem c_X8_head (l : Launch) (dC : Nat → ClassId) (dI : Nat → Nat → Nat) (cI cZ cB cO : ClassId) (m_ad : Nat) (m_p : Nat → Nat) (m_now : (Nat → Int32)) (m_held : (Nat → Int32)) (m_past : (Nat → Int32)) (m_pasts : Int32) (m_refused : (Nat → Int32)) (m_figures : (Nat → Int32)) (m_isLaid : Int32) (m_many : Int32) (m_isMade : (Nat → Int32)) (m_made : (Nat → Int32)) (m_images : (Nat → Int32)) (m_orbits : (Nat → Int32)) (m_chains : (Nat → Int32)) (m_isCarried : (Nat → Int32)) (m_carried : (Nat → Int32)) (m_carriedMany : Int32) (m_isSorted : Int32) (m_leasts : (Nat → Int32)) (m_heads : (Nat → Int32)) (m_headFrom : (Nat → Int32)) (m_text : (Nat → Int32)) (m_typed : Int32) (m_at : Int32) (m_fault : Int32) (m_orders : Int32) (m_pointsThen : Int32) (m_letters : (Nat → Int32)) (m_numbers : (Nat → Int32)) (m_h : Int64) (v1 : Int32) (o : (Nat → Int32) × (Nat → Int32) × (Nat → Int32) × (Nat → Int32) × Int32 × Int32 × (Nat → Int32) × (Nat → Int32) × (Nat → Int32) × Int32) (h : f_X8_head m_now m_refused m_figures m_isCarried m_carried m_carriedMany m_isSorted m_leasts m_heads m_headFrom v1 = some o) (sz : Nat) : Met l yX8_head (xW yX8_head cX8_head 4 (some .int)) { frames := 5, cells := 0, slots := 0, locals := 113 } (xPre dC dI (xT cI cZ cB cO) [.ref m_ad, .int v1] (wM cI cZ cB cO m_ad m_p m_now m_held m_past m_pasts m_refused m_figures m_isLaid m_many m_isMade m_made m_images m_orbits m_chains m_isCarried m_carried m_carriedMany m_isSorted m_leasts m_heads m_headFrom m_text m_typed m_at m_fault m_orders m_pointsThen m_letters m_numbers m_h) sz) (xQi dC dI (xT cI cZ cB cO) o.2.2.2.2.2.2.2.2.2 (wM cI cZ cB cO m_ad m_p m_now m_held m_past m_pasts m_refused m_figures m_isLaid m_many m_isMade m_made m_images m_orbits m_chains m_isCarried m_carried m_carriedMany m_isSorted m_leasts m_heads m_headFrom m_text m_typed m_at m_fault m_orders m_pointsThen m_letters m_numbers m_h) (wM cI cZ cB cO m_ad m_p m_now m_held m_past m_pasts o.1 o.2.1 m_isLaid m_many m_isMade m_made m_images m_orbits m_chains o.2.2.1 o.2.2.2.1 o.2.2.2.2.1 o.2.2.2.2.2.1 o.2.2.2.2.2.2.1 o.2.2.2.2.2.2.2.1 o.2.2.2.2.2.2.2.2.1 m_text m_typed m_at m_fault m_orders m_pointsThen m_letters m_numbers m_h) sz) 0 0 (va_A (wM cI cZ cB cO m_ad m_p m_now m_held m_past m_pasts m_refused m_figures m_isLaid m_many m_isMade m_made m_images m_orbits m_chains m_isCarried m_carried m_carriedMany m_isSorted m_leasts m_heads m_headFrom m_text m_typed m_at m_fault m_orders m_pointsThen m_letters m_numbers m_h) sz) := by
  refine x_met (by decide) (Nat.le_of_ble_eq_true rfl) ?_
  intro p e s m args below meth c R Q A hR hsz hA hQ hin C hw ls hl
  have hx := C.1
  have hb := C.2.1
  have hown := C.2.2.2.1
  have htb := C.2.2.2.2.1
  have hl : lv_has ls 4 [(0, .ref m_ad), (1, .int v1)] := hl
  refine lv_aload_n hx hb dX8_head_0 rfl (lv_at hl 0 rfl) ?_
  refine lv_iload_n hx hb dX8_head_1 rfl (lv_at hl 1 rfl) ?_
  obtain ⟨r_1, q1, h⟩ := xn_i h
  refine x_callVi (As := [.int v1]) (rest := []) C hw gc_X8_144 ⟨rfl, rfl, ds_X8_isSet, (by rw [hR]; exact Nat.le_of_ble_eq_true rfl), (by rw [hR]; exact Nat.le_of_ble_eq_true rfl), Nat.zero_le _, Nat.zero_le _⟩ (c_X8_isSet l dC dI cI cZ cB cO m_ad m_p m_now m_held m_past m_pasts m_refused m_figures m_isLaid m_many m_isMade m_made m_images m_orbits m_chains m_isCarried m_carried m_carriedMany m_isSorted m_leasts m_heads m_headFrom m_text m_typed m_at m_fault m_orders m_pointsThen m_letters m_numbers m_h v1 _ q1 _) [0, 1, 2, 3, 4, 5, 6, 7, 8, 9, 10, 11, 12, 13, 14, 15, 16, 17, 18] [] (by decide) rfl rfl (by decide) (by decide) rfl rfl rfl hl.1 rfl (Nat.le_of_ble_eq_true rfl) dX8_head_2 (fun H locs hw => ?_)
  have hw : xWd (dC, dI) A s.heap H locs (wM cI cZ cB cO m_ad m_p m_now m_held m_past m_pasts m_refused m_figures m_isLaid m_many m_isMade m_made m_images m_orbits m_chains m_isCarried m_carried m_carriedMany m_isSorted m_leasts m_heads m_headFrom m_text m_typed m_at m_fault m_orders m_pointsThen m_letters m_numbers m_h) := hw
  refine lv_if_ne (tgt := 15) hx hb dX8_head_5 (by decide) (fun b2 => ?_) (fun b2 => ?_)
  · replace h := xb_ff b2 h
    refine lv_aload_n hx hb dX8_head_15 rfl (lv_at hl 0 rfl) ?_
    refine lv_iload_n hx hb dX8_head_16 rfl (lv_at hl 1 rfl) ?_
    obtain ⟨⟨m_figures_2, m_isCarried_3, m_carried_4, m_carriedMany_5, m_isSorted_6, m_leasts_7, m_heads_8, m_headFrom_9, r_10⟩, q3, h⟩ := xn_i h
    refine x_callVi (As := [.int v1]) (rest := []) C hw gc_X8_168 ⟨rfl, rfl, ds_X8_leastOf, (by rw [hR]; exact Nat.le_of_ble_eq_true rfl), (by rw [hR]; exact Nat.le_of_ble_eq_true rfl), Nat.zero_le _, Nat.zero_le _⟩ (c_X8_leastOf l dC dI cI cZ cB cO m_ad m_p m_now m_held m_past m_pasts m_refused m_figures m_isLaid m_many m_isMade m_made m_images m_orbits m_chains m_isCarried m_carried m_carriedMany m_isSorted m_leasts m_heads m_headFrom m_text m_typed m_at m_fault m_orders m_pointsThen m_letters m_numbers m_h v1 _ q3 _) [0, 1, 2, 3, 4, 5, 6, 7, 8, 9, 10, 11, 12, 13, 14, 15, 16, 17, 18] [] (by decide) rfl rfl (by decide) (by decide) rfl rfl rfl hl.1 rfl (Nat.le_of_ble_eq_true rfl) dX8_head_17 (fun H locs hw => ?_)
    have hw : xWd (dC, dI) A s.heap H locs (wM cI cZ cB cO m_ad m_p m_now m_held m_past m_pasts m_refused m_figures_2 m_isLaid m_many m_isMade m_made m_images m_orbits m_chains m_isCarried_3 m_carried_4 m_carriedMany_5 m_isSorted_6 m_leasts_7 m_heads_8 m_headFrom_9 m_text m_typed m_at m_fault m_orders m_pointsThen m_letters m_numbers m_h) := hw
    refine lv_istore_n (lv' := [(2, .int r_10), (0, .ref m_ad), (1, .int v1)]) hx hb dX8_head_20 rfl hl (by decide) rfl (fun ls hl => ?_)
    refine lv_aload_n hx hb dX8_head_21 rfl (lv_at hl 1 rfl) ?_
    refine x_get (ci := 7) C hw inX8 rfl 19 (by decide) lkF_X8_54 rfl 0 rfl rfl dX8_head_22 ?_
    refine lv_iload_n hx hb dX8_head_25 rfl (lv_at hl 2 rfl) ?_
    obtain ⟨r_11, q4, h⟩ := xn_i h
    refine x_callSi (As := [.int v1]) (rest := [.ref (m_p 19)]) C hw gc_X8_159 ds_X8_size (by rw [hR]; exact Nat.le_of_ble_eq_true rfl) (by rw [hR]; exact Nat.le_of_ble_eq_true rfl) rfl rfl (Nat.zero_le _) (Nat.zero_le _) (c_X8_size l dC dI cI cZ cB cO v1 _ q4 _) [] [0, 1, 2, 3, 4, 5, 6, 7, 8, 9, 10, 11, 12, 13, 14, 15, 16, 17, 18] (by decide) rfl rfl (by decide) (by decide) rfl hl.1 rfl (Nat.le_of_ble_eq_true rfl) dX8_head_26 (fun H locs hw => ?_)
    have hw : xWd (dC, dI) A s.heap H locs (wM cI cZ cB cO m_ad m_p m_now m_held m_past m_pasts m_refused m_figures_2 m_isLaid m_many m_isMade m_made m_images m_orbits m_chains m_isCarried_3 m_carried_4 m_carriedMany_5 m_isSorted_6 m_leasts_7 m_heads_8 m_headFrom_9 m_text m_typed m_at m_fault m_orders m_pointsThen m_letters m_numbers m_h) := hw.sub [0, 1, 2, 3, 4, 5, 6, 7, 8, 9, 10, 11, 12, 13, 14, 15, 16, 17, 18] (by decide) rfl
    obtain ⟨b5, h⟩ := xk_i h
    refine x_iald C hw 15 0 rfl rfl b5 dX8_head_29 ?_
    refine lv_istore_n (lv' := [(3, .int (m_headFrom_9 r_11.toNatClampNeg)), (2, .int r_10), (0, .ref m_ad), (1, .int v1)]) hx hb dX8_head_30 rfl hl (by decide) rfl (fun ls hl => ?_)
    obtain ⟨z, hr, h⟩ := xn_i h
    refine xL_w (fun (z : Int32) => ∀ (H : Heap) (locs : List Loc) (ls : Array Slot), xWd (dC, dI) A s.heap H locs (wM cI cZ cB cO m_ad m_p m_now m_held m_past m_pasts m_refused m_figures_2 m_isLaid m_many m_isMade m_made m_images m_orbits m_chains m_isCarried_3 m_carried_4 m_carriedMany_5 m_isSorted_6 m_leasts_7 m_heads_8 m_headFrom_9 m_text m_typed m_at m_fault m_orders m_pointsThen m_letters m_numbers m_h) → lv_has ls 4 [(0, .ref m_ad), (1, .int v1), (2, .int r_10), (3, .int z)] → W p l e R s m args below meth c H locs 0 0 Q (F0 m 31 ls [])) (fun (z : Int32) => ∀ (H : Heap) (locs : List Loc) (ls : Array Slot), xWd (dC, dI) A s.heap H locs (wM cI cZ cB cO m_ad m_p m_now m_held m_past m_pasts m_refused m_figures_2 m_isLaid m_many m_isMade m_made m_images m_orbits m_chains m_isCarried_3 m_carried_4 m_carriedMany_5 m_isSorted_6 m_leasts_7 m_heads_8 m_headFrom_9 m_text m_typed m_at m_fault m_orders m_pointsThen m_letters m_numbers m_h) → lv_has ls 4 [(0, .ref m_ad), (1, .int v1), (3, .int z)] → W p l e R s m args below meth c H locs 0 0 Q (F0 m 47 ls [])) ?_ hr ?_ _ _ _ hw (lv_sub hl [2, 3, 1, 0] rfl)
    · intro v3_12 o h k H locs ls hw hl
      have hw : xWd (dC, dI) A s.heap H locs (wM cI cZ cB cO m_ad m_p m_now m_held m_past m_pasts m_refused m_figures_2 m_isLaid m_many m_isMade m_made m_images m_orbits m_chains m_isCarried_3 m_carried_4 m_carriedMany_5 m_isSorted_6 m_leasts_7 m_heads_8 m_headFrom_9 m_text m_typed m_at m_fault m_orders m_pointsThen m_letters m_numbers m_h) := hw
      have hl : lv_has ls 4 [(0, .ref m_ad), (1, .int v1), (2, .int r_10), (3, .int v3_12)] := hl
      refine lv_aload_n hx hb dX8_head_31 rfl (lv_at hl 0 rfl) ?_
      refine x_get (ci := 7) C hw inX8 rfl 18 (by decide) lkF_X8_51 rfl 0 rfl rfl dX8_head_32 ?_
      refine lv_iload_n hx hb dX8_head_35 rfl (lv_at hl 3 rfl) ?_
      obtain ⟨b6, h⟩ := xk_i h
      refine x_iald C hw 14 0 rfl rfl b6 dX8_head_36 ?_
      refine lv_iload_n hx hb dX8_head_37 rfl (lv_at hl 2 rfl) ?_
      refine lv_icmp_eq (tgt := 47) hx hb dX8_head_38 (by decide) (fun b7 => ?_) (fun b7 => ?_)
      · replace h := xb_tt b7 h
        obtain rfl := Option.some.inj h
        exact k _ _ _ hw (lv_sub hl [0, 1, 3] rfl)
      · replace h := xb_ff b7 h
        refine lv_iinc (v := (v3_12 + (1 : Int32))) (lv' := [(3, .int (v3_12 + (1 : Int32))), (0, .ref m_ad), (1, .int v1), (2, .int r_10)]) hx hb dX8_head_41 hl (k := 3) rfl (congrArg (fun q => v3_12 + q) (by decide)) (by decide) rfl (fun ls hl => ?_)
        refine lv_goto (tgt := 31) hx hb dX8_head_44 (by decide) ?_
        obtain rfl := Option.some.inj h
        exact k _ _ _ hw (lv_sub hl [1, 2, 3, 0] rfl)
    · obtain ⟨v3_13, hz⟩ : ∃ q, q = z := ⟨z, rfl⟩
      subst hz
      intro H locs ls hw hl
      have hw : xWd (dC, dI) A s.heap H locs (wM cI cZ cB cO m_ad m_p m_now m_held m_past m_pasts m_refused m_figures_2 m_isLaid m_many m_isMade m_made m_images m_orbits m_chains m_isCarried_3 m_carried_4 m_carriedMany_5 m_isSorted_6 m_leasts_7 m_heads_8 m_headFrom_9 m_text m_typed m_at m_fault m_orders m_pointsThen m_letters m_numbers m_h) := hw
      have hl : lv_has ls 4 [(0, .ref m_ad), (1, .int v1), (3, .int v3_13)] := hl
      refine lv_iload_n hx hb dX8_head_47 rfl (lv_at hl 2 rfl) ?_
      refine lv_aload_n hx hb dX8_head_48 rfl (lv_at hl 0 rfl) ?_
      refine x_get (ci := 7) C hw inX8 rfl 19 (by decide) lkF_X8_54 rfl 0 rfl rfl dX8_head_49 ?_
      refine lv_iload_n hx hb dX8_head_52 rfl (lv_at hl 1 rfl) ?_
      obtain ⟨r_14, q8, h⟩ := xn_i h
      refine x_callSi (As := [.int v1]) (rest := [.ref (m_p 19), .int v3_13]) C hw gc_X8_159 ds_X8_size (by rw [hR]; exact Nat.le_of_ble_eq_true rfl) (by rw [hR]; exact Nat.le_of_ble_eq_true rfl) rfl rfl (Nat.zero_le _) (Nat.zero_le _) (c_X8_size l dC dI cI cZ cB cO v1 _ q8 _) [] [0, 1, 2, 3, 4, 5, 6, 7, 8, 9, 10, 11, 12, 13, 14, 15, 16, 17, 18] (by decide) rfl rfl (by decide) (by decide) rfl hl.1 rfl (Nat.le_of_ble_eq_true rfl) dX8_head_53 (fun H locs hw => ?_)
      have hw : xWd (dC, dI) A s.heap H locs (wM cI cZ cB cO m_ad m_p m_now m_held m_past m_pasts m_refused m_figures_2 m_isLaid m_many m_isMade m_made m_images m_orbits m_chains m_isCarried_3 m_carried_4 m_carriedMany_5 m_isSorted_6 m_leasts_7 m_heads_8 m_headFrom_9 m_text m_typed m_at m_fault m_orders m_pointsThen m_letters m_numbers m_h) := hw.sub [0, 1, 2, 3, 4, 5, 6, 7, 8, 9, 10, 11, 12, 13, 14, 15, 16, 17, 18] (by decide) rfl
      obtain ⟨b9, h⟩ := xk_i h
      refine x_iald C hw 15 0 rfl rfl b9 dX8_head_56 ?_
      refine lv_isub hx hb dX8_head_57 ?_
      obtain rfl := Option.some.inj h
      exact x_reti C hQ hA hw dX8_head_58
  · replace h := xb_tt b2 h
    refine lv_aload_n hx hb dX8_head_8 rfl (lv_at hl 0 rfl) ?_
    refine lv_bipush (v := (-2 : Int32)) hx hb dX8_head_9 (by decide) ?_
    obtain ⟨⟨m_refused_15, r_16⟩, q10, h⟩ := xn_i h
    refine x_callVi (As := [.int (-2 : Int32)]) (rest := []) C hw gc_X8_70 ⟨rfl, rfl, ds_X8_refuses, (by rw [hR]; exact Nat.le_of_ble_eq_true rfl), (by rw [hR]; exact Nat.le_of_ble_eq_true rfl), Nat.zero_le _, Nat.zero_le _⟩ (c_X8_refuses l dC dI cI cZ cB cO m_ad m_p m_now m_held m_past m_pasts m_refused m_figures m_isLaid m_many m_isMade m_made m_images m_orbits m_chains m_isCarried m_carried m_carriedMany m_isSorted m_leasts m_heads m_headFrom m_text m_typed m_at m_fault m_orders m_pointsThen m_letters m_numbers m_h (-2 : Int32) _ q10 _) [0, 1, 2, 3, 4, 5, 6, 7, 8, 9, 10, 11, 12, 13, 14, 15, 16, 17, 18] [] (by decide) rfl rfl (by decide) (by decide) rfl rfl rfl hl.1 rfl (Nat.le_of_ble_eq_true rfl) dX8_head_11 (fun H locs hw => ?_)
    have hw : xWd (dC, dI) A s.heap H locs (wM cI cZ cB cO m_ad m_p m_now m_held m_past m_pasts m_refused_15 m_figures m_isLaid m_many m_isMade m_made m_images m_orbits m_chains m_isCarried m_carried m_carriedMany m_isSorted m_leasts m_heads m_headFrom m_text m_typed m_at m_fault m_orders m_pointsThen m_letters m_numbers m_h) := hw
    obtain rfl := Option.some.inj h
    exact x_reti C hQ hA hw dX8_head_14
noncomputable def f_X8_type (m_refused : (Nat → Int32)) (m_text : (Nat → Int32)) (m_typed : Int32) (v1 : Int32) : Option ((Nat → Int32) × (Nat → Int32) × Int32 × Int32) := xn (f_X8_in v1 (0 : Int32) (127 : Int32)) (fun (r_1 : Int32) => xb (r_1 = 0) (xn (f_X8_refuses m_refused (-2 : Int32)) (fun (z : (Nat → Int32) × Int32) => match z with | (m_refused_4, r_5) => some (m_refused_4, m_text, m_typed, r_5))) (xb (m_typed = (80 : Int32)) (xn (f_X8_refuses m_refused (-4 : Int32)) (fun (z : (Nat → Int32) × Int32) => match z with | (m_refused_2, r_3) => some (m_refused_2, m_text, m_typed, r_3))) (xk (vp_in m_typed 80) (some (m_refused, (upd m_text m_typed.toNatClampNeg v1), (m_typed + (1 : Int32)), (m_typed + (1 : Int32)))))))
set_option maxHeartbeats 4000000 in
set_option maxRecDepth 100000 in
theorem c_X8_type (l : Launch) (dC : Nat → ClassId) (dI : Nat → Nat → Nat) (cI cZ cB cO : ClassId) (m_ad : Nat) (m_p : Nat → Nat) (m_now : (Nat → Int32)) (m_held : (Nat → Int32)) (m_past : (Nat → Int32)) (m_pasts : Int32) (m_refused : (Nat → Int32)) (m_figures : (Nat → Int32)) (m_isLaid : Int32) (m_many : Int32) (m_isMade : (Nat → Int32)) (m_made : (Nat → Int32)) (m_images : (Nat → Int32)) (m_orbits : (Nat → Int32)) (m_chains : (Nat → Int32)) (m_isCarried : (Nat → Int32)) (m_carried : (Nat → Int32)) (m_carriedMany : Int32) (m_isSorted : Int32) (m_leasts : (Nat → Int32)) (m_heads : (Nat → Int32)) (m_headFrom : (Nat → Int32)) (m_text : (Nat → Int32)) (m_typed : Int32) (m_at : Int32) (m_fault : Int32) (m_orders : Int32) (m_pointsThen : Int32) (m_letters : (Nat → Int32)) (m_numbers : (Nat → Int32)) (m_h : Int64) (v1 : Int32) (o : (Nat → Int32) × (Nat → Int32) × Int32 × Int32) (h : f_X8_type m_refused m_text m_typed v1 = some o) (sz : Nat) : Met l yX8_type (xW yX8_type cX8_type 2 (some .int)) { frames := 1, cells := 0, slots := 0, locals := 22 } (xPre dC dI (xT cI cZ cB cO) [.ref m_ad, .int v1] (wM cI cZ cB cO m_ad m_p m_now m_held m_past m_pasts m_refused m_figures m_isLaid m_many m_isMade m_made m_images m_orbits m_chains m_isCarried m_carried m_carriedMany m_isSorted m_leasts m_heads m_headFrom m_text m_typed m_at m_fault m_orders m_pointsThen m_letters m_numbers m_h) sz) (xQi dC dI (xT cI cZ cB cO) o.2.2.2 (wM cI cZ cB cO m_ad m_p m_now m_held m_past m_pasts m_refused m_figures m_isLaid m_many m_isMade m_made m_images m_orbits m_chains m_isCarried m_carried m_carriedMany m_isSorted m_leasts m_heads m_headFrom m_text m_typed m_at m_fault m_orders m_pointsThen m_letters m_numbers m_h) (wM cI cZ cB cO m_ad m_p m_now m_held m_past m_pasts o.1 m_figures m_isLaid m_many m_isMade m_made m_images m_orbits m_chains m_isCarried m_carried m_carriedMany m_isSorted m_leasts m_heads m_headFrom o.2.1 o.2.2.1 m_at m_fault m_orders m_pointsThen m_letters m_numbers m_h) sz) 0 0 (va_A (wM cI cZ cB cO m_ad m_p m_now m_held m_past m_pasts m_refused m_figures m_isLaid m_many m_isMade m_made m_images m_orbits m_chains m_isCarried m_carried m_carriedMany m_isSorted m_leasts m_heads m_headFrom m_text m_typed m_at m_fault m_orders m_pointsThen m_letters m_numbers m_h) sz) := by
  refine x_met (by decide) (Nat.le_of_ble_eq_true rfl) ?_
  intro p e s m args below meth c R Q A hR hsz hA hQ hin C hw ls hl
  have hx := C.1
  have hb := C.2.1
  have hown := C.2.2.2.1
  have htb := C.2.2.2.2.1
  have hl : lv_has ls 2 [(0, .ref m_ad), (1, .int v1)] := hl
  refine lv_iload_n hx hb dX8_type_0 rfl (lv_at hl 1 rfl) ?_
  refine lv_iconst (v := (0 : Int32)) hx hb dX8_type_1 (by decide) ?_
  refine lv_bipush (v := (127 : Int32)) hx hb dX8_type_2 (by decide) ?_
  obtain ⟨r_1, q1, h⟩ := xn_i h
  refine x_callSi (As := [.int v1, .int (0 : Int32), .int (127 : Int32)]) (rest := []) C hw gc_X8_84 ds_X8_in (by rw [hR]; exact Nat.le_of_ble_eq_true rfl) (by rw [hR]; exact Nat.le_of_ble_eq_true rfl) rfl rfl (Nat.zero_le _) (Nat.zero_le _) (c_X8_in l dC dI cI cZ cB cO v1 (0 : Int32) (127 : Int32) _ q1 _) [] [0, 1, 2, 3, 4, 5, 6, 7, 8, 9, 10, 11, 12, 13, 14, 15, 16, 17, 18] (by decide) rfl rfl (by decide) (by decide) rfl hl.1 rfl (Nat.le_of_ble_eq_true rfl) dX8_type_4 (fun H locs hw => ?_)
  have hw : xWd (dC, dI) A s.heap H locs (wM cI cZ cB cO m_ad m_p m_now m_held m_past m_pasts m_refused m_figures m_isLaid m_many m_isMade m_made m_images m_orbits m_chains m_isCarried m_carried m_carriedMany m_isSorted m_leasts m_heads m_headFrom m_text m_typed m_at m_fault m_orders m_pointsThen m_letters m_numbers m_h) := hw.sub [0, 1, 2, 3, 4, 5, 6, 7, 8, 9, 10, 11, 12, 13, 14, 15, 16, 17, 18] (by decide) rfl
  refine lv_if_ne (tgt := 17) hx hb dX8_type_7 (by decide) (fun b2 => ?_) (fun b2 => ?_)
  · replace h := xb_ff b2 h
    refine lv_aload_n hx hb dX8_type_17 rfl (lv_at hl 0 rfl) ?_
    refine x_get (ci := 7) C hw inX8 rfl 21 (by decide) lkF_X8_174 rfl 0 rfl rfl dX8_type_18 ?_
    refine lv_bipush (v := (80 : Int32)) hx hb dX8_type_21 (by decide) ?_
    refine lv_icmp_ne (tgt := 33) hx hb dX8_type_23 (by decide) (fun b3 => ?_) (fun b3 => ?_)
    · replace h := xb_ff b3 h
      refine lv_aload_n hx hb dX8_type_33 rfl (lv_at hl 0 rfl) ?_
      refine x_get (ci := 7) C hw inX8 rfl 20 (by decide) lkF_X8_57 rfl 0 rfl rfl dX8_type_34 ?_
      refine lv_aload_n hx hb dX8_type_37 rfl (lv_at hl 0 rfl) ?_
      refine x_get (ci := 7) C hw inX8 rfl 21 (by decide) lkF_X8_174 rfl 0 rfl rfl dX8_type_38 ?_
      refine lv_iload_n hx hb dX8_type_41 rfl (lv_at hl 1 rfl) ?_
      obtain ⟨b4, h⟩ := xk_i h
      refine x_iast C hw 16 0 rfl rfl b4 dX8_type_42 (fun H locs hw => ?_)
      have hw : xWd (dC, dI) A s.heap H locs (wM cI cZ cB cO m_ad m_p m_now m_held m_past m_pasts m_refused m_figures m_isLaid m_many m_isMade m_made m_images m_orbits m_chains m_isCarried m_carried m_carriedMany m_isSorted m_leasts m_heads m_headFrom (upd m_text m_typed.toNatClampNeg v1) m_typed m_at m_fault m_orders m_pointsThen m_letters m_numbers m_h) := hw
      refine lv_aload_n hx hb dX8_type_43 rfl (lv_at hl 0 rfl) ?_
      refine lv_dup hx hb dX8_type_44 rfl ?_
      refine x_get (ci := 7) C hw inX8 rfl 21 (by decide) lkF_X8_174 rfl 0 rfl rfl dX8_type_45 ?_
      refine lv_iconst (v := (1 : Int32)) hx hb dX8_type_48 (by decide) ?_
      refine lv_iadd hx hb dX8_type_49 ?_
      refine x_put (ci := 7) C hw inX8 tyX8 tyX8_ok nmX8 rfl 21 (by decide) lkF_X8_174 rfl rfl 0 rfl rfl rfl (Nat.le_of_ble_eq_true rfl) dX8_type_50 (fun H locs hw => ?_)
      have hw : xWd (dC, dI) A s.heap H locs (wM cI cZ cB cO m_ad m_p m_now m_held m_past m_pasts m_refused m_figures m_isLaid m_many m_isMade m_made m_images m_orbits m_chains m_isCarried m_carried m_carriedMany m_isSorted m_leasts m_heads m_headFrom (upd m_text m_typed.toNatClampNeg v1) (m_typed + (1 : Int32)) m_at m_fault m_orders m_pointsThen m_letters m_numbers m_h) := hw
      refine lv_aload_n hx hb dX8_type_53 rfl (lv_at hl 0 rfl) ?_
      refine x_get (ci := 7) C hw inX8 rfl 21 (by decide) lkF_X8_174 rfl 0 rfl rfl dX8_type_54 ?_
      obtain rfl := Option.some.inj h
      exact x_reti C hQ hA hw dX8_type_57
    · replace h := xb_tt b3 h
      refine lv_aload_n hx hb dX8_type_26 rfl (lv_at hl 0 rfl) ?_
      refine lv_bipush (v := (-4 : Int32)) hx hb dX8_type_27 (by decide) ?_
      obtain ⟨⟨m_refused_2, r_3⟩, q5, h⟩ := xn_i h
      refine x_callVi (As := [.int (-4 : Int32)]) (rest := []) C hw gc_X8_70 ⟨rfl, rfl, ds_X8_refuses, (by rw [hR]; exact Nat.le_of_ble_eq_true rfl), (by rw [hR]; exact Nat.le_of_ble_eq_true rfl), Nat.zero_le _, Nat.zero_le _⟩ (c_X8_refuses l dC dI cI cZ cB cO m_ad m_p m_now m_held m_past m_pasts m_refused m_figures m_isLaid m_many m_isMade m_made m_images m_orbits m_chains m_isCarried m_carried m_carriedMany m_isSorted m_leasts m_heads m_headFrom m_text m_typed m_at m_fault m_orders m_pointsThen m_letters m_numbers m_h (-4 : Int32) _ q5 _) [0, 1, 2, 3, 4, 5, 6, 7, 8, 9, 10, 11, 12, 13, 14, 15, 16, 17, 18] [] (by decide) rfl rfl (by decide) (by decide) rfl rfl rfl hl.1 rfl (Nat.le_of_ble_eq_true rfl) dX8_type_29 (fun H locs hw => ?_)
      have hw : xWd (dC, dI) A s.heap H locs (wM cI cZ cB cO m_ad m_p m_now m_held m_past m_pasts m_refused_2 m_figures m_isLaid m_many m_isMade m_made m_images m_orbits m_chains m_isCarried m_carried m_carriedMany m_isSorted m_leasts m_heads m_headFrom m_text m_typed m_at m_fault m_orders m_pointsThen m_letters m_numbers m_h) := hw
      obtain rfl := Option.some.inj h
      exact x_reti C hQ hA hw dX8_type_32
  · replace h := xb_tt b2 h
    refine lv_aload_n hx hb dX8_type_10 rfl (lv_at hl 0 rfl) ?_
    refine lv_bipush (v := (-2 : Int32)) hx hb dX8_type_11 (by decide) ?_
    obtain ⟨⟨m_refused_4, r_5⟩, q6, h⟩ := xn_i h
    refine x_callVi (As := [.int (-2 : Int32)]) (rest := []) C hw gc_X8_70 ⟨rfl, rfl, ds_X8_refuses, (by rw [hR]; exact Nat.le_of_ble_eq_true rfl), (by rw [hR]; exact Nat.le_of_ble_eq_true rfl), Nat.zero_le _, Nat.zero_le _⟩ (c_X8_refuses l dC dI cI cZ cB cO m_ad m_p m_now m_held m_past m_pasts m_refused m_figures m_isLaid m_many m_isMade m_made m_images m_orbits m_chains m_isCarried m_carried m_carriedMany m_isSorted m_leasts m_heads m_headFrom m_text m_typed m_at m_fault m_orders m_pointsThen m_letters m_numbers m_h (-2 : Int32) _ q6 _) [0, 1, 2, 3, 4, 5, 6, 7, 8, 9, 10, 11, 12, 13, 14, 15, 16, 17, 18] [] (by decide) rfl rfl (by decide) (by decide) rfl rfl rfl hl.1 rfl (Nat.le_of_ble_eq_true rfl) dX8_type_13 (fun H locs hw => ?_)
    have hw : xWd (dC, dI) A s.heap H locs (wM cI cZ cB cO m_ad m_p m_now m_held m_past m_pasts m_refused_4 m_figures m_isLaid m_many m_isMade m_made m_images m_orbits m_chains m_isCarried m_carried m_carriedMany m_isSorted m_leasts m_heads m_headFrom m_text m_typed m_at m_fault m_orders m_pointsThen m_letters m_numbers m_h) := hw
    obtain rfl := Option.some.inj h
    exact x_reti C hQ hA hw dX8_type_16
noncomputable def f_X8_clear (m_typed : Int32) : Option (Int32 × Int32) := some ((0 : Int32), m_typed)
set_option maxHeartbeats 4000000 in
set_option maxRecDepth 100000 in
theorem c_X8_clear (l : Launch) (dC : Nat → ClassId) (dI : Nat → Nat → Nat) (cI cZ cB cO : ClassId) (m_ad : Nat) (m_p : Nat → Nat) (m_now : (Nat → Int32)) (m_held : (Nat → Int32)) (m_past : (Nat → Int32)) (m_pasts : Int32) (m_refused : (Nat → Int32)) (m_figures : (Nat → Int32)) (m_isLaid : Int32) (m_many : Int32) (m_isMade : (Nat → Int32)) (m_made : (Nat → Int32)) (m_images : (Nat → Int32)) (m_orbits : (Nat → Int32)) (m_chains : (Nat → Int32)) (m_isCarried : (Nat → Int32)) (m_carried : (Nat → Int32)) (m_carriedMany : Int32) (m_isSorted : Int32) (m_leasts : (Nat → Int32)) (m_heads : (Nat → Int32)) (m_headFrom : (Nat → Int32)) (m_text : (Nat → Int32)) (m_typed : Int32) (m_at : Int32) (m_fault : Int32) (m_orders : Int32) (m_pointsThen : Int32) (m_letters : (Nat → Int32)) (m_numbers : (Nat → Int32)) (m_h : Int64) (o : Int32 × Int32) (h : f_X8_clear m_typed = some o) (sz : Nat) : Met l yX8_clear (xW yX8_clear cX8_clear 2 (some .int)) { frames := 0, cells := 0, slots := 0, locals := 0 } (xPre dC dI (xT cI cZ cB cO) [.ref m_ad] (wM cI cZ cB cO m_ad m_p m_now m_held m_past m_pasts m_refused m_figures m_isLaid m_many m_isMade m_made m_images m_orbits m_chains m_isCarried m_carried m_carriedMany m_isSorted m_leasts m_heads m_headFrom m_text m_typed m_at m_fault m_orders m_pointsThen m_letters m_numbers m_h) sz) (xQi dC dI (xT cI cZ cB cO) o.2 (wM cI cZ cB cO m_ad m_p m_now m_held m_past m_pasts m_refused m_figures m_isLaid m_many m_isMade m_made m_images m_orbits m_chains m_isCarried m_carried m_carriedMany m_isSorted m_leasts m_heads m_headFrom m_text m_typed m_at m_fault m_orders m_pointsThen m_letters m_numbers m_h) (wM cI cZ cB cO m_ad m_p m_now m_held m_past m_pasts m_refused m_figures m_isLaid m_many m_isMade m_made m_images m_orbits m_chains m_isCarried m_carried m_carriedMany m_isSorted m_leasts m_heads m_headFrom m_text o.1 m_at m_fault m_orders m_pointsThen m_letters m_numbers m_h) sz) 0 0 (va_A (wM cI cZ cB cO m_ad m_p m_now m_held m_past m_pasts m_refused m_figures m_isLaid m_many m_isMade m_made m_images m_orbits m_chains m_isCarried m_carried m_carriedMany m_isSorted m_leasts m_heads m_headFrom m_text m_typed m_at m_fault m_orders m_pointsThen m_letters m_numbers m_h) sz) := by
  refine x_met (by decide) (Nat.le_of_ble_eq_true rfl) ?_
  intro p e s m args below meth c R Q A hR hsz hA hQ hin C hw ls hl
  have hx := C.1
  have hb := C.2.1
  have hown := C.2.2.2.1
  have htb := C.2.2.2.2.1
  have hl : lv_has ls 2 [(0, .ref m_ad)] := hl
  refine lv_aload_n hx hb dX8_clear_0 rfl (lv_at hl 0 rfl) ?_
  refine x_get (ci := 7) C hw inX8 rfl 21 (by decide) lkF_X8_174 rfl 0 rfl rfl dX8_clear_1 ?_
  refine lv_istore_n (lv' := [(1, .int m_typed), (0, .ref m_ad)]) hx hb dX8_clear_4 rfl hl (by decide) rfl (fun ls hl => ?_)
  refine lv_aload_n hx hb dX8_clear_5 rfl (lv_at hl 1 rfl) ?_
  refine lv_iconst (v := (0 : Int32)) hx hb dX8_clear_6 (by decide) ?_
  refine x_put (ci := 7) C hw inX8 tyX8 tyX8_ok nmX8 rfl 21 (by decide) lkF_X8_174 rfl rfl 0 rfl rfl rfl (Nat.le_of_ble_eq_true rfl) dX8_clear_7 (fun H locs hw => ?_)
  have hw : xWd (dC, dI) A s.heap H locs (wM cI cZ cB cO m_ad m_p m_now m_held m_past m_pasts m_refused m_figures m_isLaid m_many m_isMade m_made m_images m_orbits m_chains m_isCarried m_carried m_carriedMany m_isSorted m_leasts m_heads m_headFrom m_text (0 : Int32) m_at m_fault m_orders m_pointsThen m_letters m_numbers m_h) := hw
  refine lv_iload_n hx hb dX8_clear_10 rfl (lv_at hl 0 rfl) ?_
  obtain rfl := Option.some.inj h
  exact x_reti C hQ hA hw dX8_clear_11
