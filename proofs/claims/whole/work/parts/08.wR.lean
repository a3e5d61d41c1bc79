theorem dX3_takesLetter_0 : decode cX3_takesLetter 0 = .ok (.aload_n 0, 1) := by decide +kernel
theorem dX3_takesLetter_1 : decode cX3_takesLetter 1 = .ok (.iload_n 1, 1) := by decide +kernel
theorem dX3_takesLetter_2 : decode cX3_takesLetter 2 = .ok (.putfield 28, 3) := by decide +kernel
theorem dX3_takesLetter_5 : decode cX3_takesLetter 5 = .ok (.aload_n 0, 1) := by decide +kernel
theorem dX3_takesLetter_6 : decode cX3_takesLetter 6 = .ok (.iconst 0, 1) := by decide +kernel
theorem dX3_takesLetter_7 : decode cX3_takesLetter 7 = .ok (.putfield 31, 3) := by decide +kernel
theorem dX3_takesLetter_10 : decode cX3_takesLetter 10 = .ok (.aload_n 0, 1) := by decide +kernel
theorem dX3_takesLetter_11 : decode cX3_takesLetter 11 = .ok (.iconst 0, 1) := by decide +kernel
theorem dX3_takesLetter_12 : decode cX3_takesLetter 12 = .ok (.putfield 34, 3) := by decide +kernel
theorem dX3_takesLetter_15 : decode cX3_takesLetter 15 = .ok (.aload_n 0, 1) := by decide +kernel
theorem dX3_takesLetter_16 : decode cX3_takesLetter 16 = .ok (.iconst 0, 1) := by decide +kernel
theorem dX3_takesLetter_17 : decode cX3_takesLetter 17 = .ok (.putfield 37, 3) := by decide +kernel
theorem dX3_takesLetter_20 : decode cX3_takesLetter 20 = .ok (.aload_n 0, 1) := by decide +kernel
theorem dX3_takesLetter_21 : decode cX3_takesLetter 21 = .ok (.iconst 1, 1) := by decide +kernel
theorem dX3_takesLetter_22 : decode cX3_takesLetter 22 = .ok (.putfield 25, 3) := by decide +kernel
theorem dX3_takesLetter_25 : decode cX3_takesLetter 25 = .ok (.iload_n 1, 1) := by decide +kernel
theorem dX3_takesLetter_26 : decode cX3_takesLetter 26 = .ok (.bipush 110, 2) := by decide +kernel
theorem dX3_takesLetter_28 : decode cX3_takesLetter 28 = .ok (.if_icmp .eq 15, 3) := by decide +kernel
theorem dX3_takesLetter_31 : decode cX3_takesLetter 31 = .ok (.iload_n 1, 1) := by decide +kernel
theorem dX3_takesLetter_32 : decode cX3_takesLetter 32 = .ok (.bipush 109, 2) := by decide +kernel
theorem dX3_takesLetter_34 : decode cX3_takesLetter 34 = .ok (.if_icmp .eq 9, 3) := by decide +kernel
theorem dX3_takesLetter_37 : decode cX3_takesLetter 37 = .ok (.iload_n 1, 1) := by decide +kernel
theorem dX3_takesLetter_38 : decode cX3_takesLetter 38 = .ok (.bipush 120, 2) := by decide +kernel
theorem dX3_takesLetter_40 : decode cX3_takesLetter 40 = .ok (.if_icmp .ne 7, 3) := by decide +kernel
theorem dX3_takesLetter_43 : decode cX3_takesLetter 43 = .ok (.iconst 1, 1) := by decide +kernel
theorem dX3_takesLetter_44 : decode cX3_takesLetter 44 = .ok (.goto 4, 3) := by decide +kernel
theorem dX3_takesLetter_47 : decode cX3_takesLetter 47 = .ok (.iconst 0, 1) := by decide +kernel
theorem dX3_takesLetter_48 : decode cX3_takesLetter 48 = .ok (.ireturn, 1) := by decide +kernel
theorem dX3_isDue_0 : decode cX3_isDue 0 = .ok (.aload_n 0, 1) := by decide +kernel
theorem dX3_isDue_1 : decode cX3_isDue 1 = .ok (.getfield 28, 3) := by decide +kernel
theorem dX3_isDue_4 : decode cX3_isDue 4 = .ok (.lookupswitch 77 #[(109, 45), (110, 28)], 28) := by decide +kernel
theorem dX3_isDue_32 : decode cX3_isDue 32 = .ok (.iload_n 1, 1) := by decide +kernel
theorem dX3_isDue_33 : decode cX3_isDue 33 = .ok (.iconst 1, 1) := by decide +kernel
theorem dX3_isDue_34 : decode cX3_isDue 34 = .ok (.if_icmp .lt 13, 3) := by decide +kernel
theorem dX3_isDue_37 : decode cX3_isDue 37 = .ok (.iload_n 1, 1) := by decide +kernel
theorem dX3_isDue_38 : decode cX3_isDue 38 = .ok (.bipush 8, 2) := by decide +kernel
theorem dX3_isDue_40 : decode cX3_isDue 40 = .ok (.if_icmp .gt 7, 3) := by decide +kernel
theorem dX3_isDue_43 : decode cX3_isDue 43 = .ok (.iconst 1, 1) := by decide +kernel
theorem dX3_isDue_44 : decode cX3_isDue 44 = .ok (.goto 4, 3) := by decide +kernel
theorem dX3_isDue_47 : decode cX3_isDue 47 = .ok (.iconst 0, 1) := by decide +kernel
theorem dX3_isDue_48 : decode cX3_isDue 48 = .ok (.ireturn, 1) := by decide +kernel
theorem dX3_isDue_49 : decode cX3_isDue 49 = .ok (.iload_n 1, 1) := by decide +kernel
theorem dX3_isDue_50 : decode cX3_isDue 50 = .ok (.ifCond .lt 29, 3) := by decide +kernel
theorem dX3_isDue_53 : decode cX3_isDue 53 = .ok (.iload_n 1, 1) := by decide +kernel
theorem dX3_isDue_54 : decode cX3_isDue 54 = .ok (.aload_n 0, 1) := by decide +kernel
theorem dX3_isDue_55 : decode cX3_isDue 55 = .ok (.getfield 12, 3) := by decide +kernel
theorem dX3_isDue_58 : decode cX3_isDue 58 = .ok (.getfield 69, 3) := by decide +kernel
theorem dX3_isDue_61 : decode cX3_isDue 61 = .ok (.if_icmp .ge 18, 3) := by decide +kernel
theorem dX3_isDue_64 : decode cX3_isDue 64 = .ok (.aload_n 0, 1) := by decide +kernel
theorem dX3_isDue_65 : decode cX3_isDue 65 = .ok (.getfield 37, 3) := by decide +kernel
theorem dX3_isDue_68 : decode cX3_isDue 68 = .ok (.iload_n 1, 1) := by decide +kernel
theorem dX3_isDue_69 : decode cX3_isDue 69 = .ok (.ishr, 1) := by decide +kernel
theorem dX3_isDue_70 : decode cX3_isDue 70 = .ok (.iconst 1, 1) := by decide +kernel
theorem dX3_isDue_71 : decode cX3_isDue 71 = .ok (.iand, 1) := by decide +kernel
theorem dX3_isDue_72 : decode cX3_isDue 72 = .ok (.ifCond .ne 7, 3) := by decide +kernel
theorem dX3_isDue_75 : decode cX3_isDue 75 = .ok (.iconst 1, 1) := by decide +kernel
theorem dX3_isDue_76 : decode cX3_isDue 76 = .ok (.goto 4, 3) := by decide +kernel
theorem dX3_isDue_79 : decode cX3_isDue 79 = .ok (.iconst 0, 1) := by decide +kernel
theorem dX3_isDue_80 : decode cX3_isDue 80 = .ok (.ireturn, 1) := by decide +kernel
theorem dX3_isDue_81 : decode cX3_isDue 81 = .ok (.iload_n 1, 1) := by decide +kernel
theorem dX3_isDue_82 : decode cX3_isDue 82 = .ok (.ifCond .lt 13, 3) := by decide +kernel
theorem dX3_isDue_85 : decode cX3_isDue 85 = .ok (.iload_n 1, 1) := by decide +kernel
theorem dX3_isDue_86 : decode cX3_isDue 86 = .ok (.bipush 9, 2) := by decide +kernel
theorem dX3_isDue_88 : decode cX3_isDue 88 = .ok (.if_icmp .gt 7, 3) := by decide +kernel
theorem dX3_isDue_91 : decode cX3_isDue 91 = .ok (.iconst 1, 1) := by decide +kernel
theorem dX3_isDue_92 : decode cX3_isDue 92 = .ok (.goto 4, 3) := by decide +kernel
theorem dX3_isDue_95 : decode cX3_isDue 95 = .ok (.iconst 0, 1) := by decide +kernel
theorem dX3_isDue_96 : decode cX3_isDue 96 = .ok (.ireturn, 1) := by decide +kernel
theorem dX3_takesFigure_0 : decode cX3_takesFigure 0 = .ok (.aload_n 0, 1) := by decide +kernel
theorem dX3_takesFigure_1 : decode cX3_takesFigure 1 = .ok (.iload_n 1, 1) := by decide +kernel
theorem dX3_takesFigure_2 : decode cX3_takesFigure 2 = .ok (.invokevirtual 66, 3) := by decide +kernel
theorem dX3_takesFigure_5 : decode cX3_takesFigure 5 = .ok (.ifCond .ne 5, 3) := by decide +kernel
theorem dX3_takesFigure_8 : decode cX3_takesFigure 8 = .ok (.iconst 0, 1) := by decide +kernel
theorem dX3_takesFigure_9 : decode cX3_takesFigure 9 = .ok (.ireturn, 1) := by decide +kernel
theorem dX3_takesFigure_10 : decode cX3_takesFigure 10 = .ok (.aload_n 0, 1) := by decide +kernel
theorem dX3_takesFigure_11 : decode cX3_takesFigure 11 = .ok (.bipush 10, 2) := by decide +kernel
theorem dX3_takesFigure_13 : decode cX3_takesFigure 13 = .ok (.aload_n 0, 1) := by decide +kernel
theorem dX3_takesFigure_14 : decode cX3_takesFigure 14 = .ok (.getfield 31, 3) := by decide +kernel
theorem dX3_takesFigure_17 : decode cX3_takesFigure 17 = .ok (.imul, 1) := by decide +kernel
theorem dX3_takesFigure_18 : decode cX3_takesFigure 18 = .ok (.iload_n 1, 1) := by decide +kernel
theorem dX3_takesFigure_19 : decode cX3_takesFigure 19 = .ok (.iadd, 1) := by decide +kernel
theorem dX3_takesFigure_20 : decode cX3_takesFigure 20 = .ok (.putfield 31, 3) := by decide +kernel
theorem dX3_takesFigure_23 : decode cX3_takesFigure 23 = .ok (.aload_n 0, 1) := by decide +kernel
theorem dX3_takesFigure_24 : decode cX3_takesFigure 24 = .ok (.dup, 1) := by decide +kernel
theorem dX3_takesFigure_25 : decode cX3_takesFigure 25 = .ok (.getfield 37, 3) := by decide +kernel
theorem dX3_takesFigure_28 : decode cX3_takesFigure 28 = .ok (.iconst 1, 1) := by decide +kernel
theorem dX3_takesFigure_29 : decode cX3_takesFigure 29 = .ok (.iload_n 1, 1) := by decide +kernel
theorem dX3_takesFigure_30 : decode cX3_takesFigure 30 = .ok (.ishl, 1) := by decide +kernel
theorem dX3_takesFigure_31 : decode cX3_takesFigure 31 = .ok (.ior, 1) := by decide +kernel
theorem dX3_takesFigure_32 : decode cX3_takesFigure 32 = .ok (.putfield 37, 3) := by decide +kernel
theorem dX3_takesFigure_35 : decode cX3_takesFigure 35 = .ok (.aload_n 0, 1) := by decide +kernel
theorem dX3_takesFigure_36 : decode cX3_takesFigure 36 = .ok (.dup, 1) := by decide +kernel
theorem dX3_takesFigure_37 : decode cX3_takesFigure 37 = .ok (.getfield 34, 3) := by decide +kernel
theorem dX3_takesFigure_40 : decode cX3_takesFigure 40 = .ok (.iconst 1, 1) := by decide +kernel
theorem dX3_takesFigure_41 : decode cX3_takesFigure 41 = .ok (.iadd, 1) := by decide +kernel
theorem dX3_takesFigure_42 : decode cX3_takesFigure 42 = .ok (.putfield 34, 3) := by decide +kernel
theorem dX3_takesFigure_45 : decode cX3_takesFigure 45 = .ok (.aload_n 0, 1) := by decide +kernel
theorem dX3_takesFigure_46 : decode cX3_takesFigure 46 = .ok (.getfield 34, 3) := by decide +kernel
theorem dX3_takesFigure_49 : decode cX3_takesFigure 49 = .ok (.aload_n 0, 1) := by decide +kernel
theorem dX3_takesFigure_50 : decode cX3_takesFigure 50 = .ok (.getfield 28, 3) := by decide +kernel
theorem dX3_takesFigure_53 : decode cX3_takesFigure 53 = .ok (.bipush 109, 2) := by decide +kernel
theorem dX3_takesFigure_55 : decode cX3_takesFigure 55 = .ok (.if_icmp .ne 13, 3) := by decide +kernel
theorem dX3_takesFigure_58 : decode cX3_takesFigure 58 = .ok (.aload_n 0, 1) := by decide +kernel
theorem dX3_takesFigure_59 : decode cX3_takesFigure 59 = .ok (.getfield 12, 3) := by decide +kernel
theorem dX3_takesFigure_62 : decode cX3_takesFigure 62 = .ok (.getfield 69, 3) := by decide +kernel
theorem dX3_takesFigure_65 : decode cX3_takesFigure 65 = .ok (.goto 4, 3) := by decide +kernel
theorem dX3_takesFigure_68 : decode cX3_takesFigure 68 = .ok (.iconst 1, 1) := by decide +kernel
theorem dX3_takesFigure_69 : decode cX3_takesFigure 69 = .ok (.if_icmp .lt 8, 3) := by decide +kernel
theorem dX3_takesFigure_72 : decode cX3_takesFigure 72 = .ok (.aload_n 0, 1) := by decide +kernel
theorem dX3_takesFigure_73 : decode cX3_takesFigure 73 = .ok (.iconst 2, 1) := by decide +kernel
theorem dX3_takesFigure_74 : decode cX3_takesFigure 74 = .ok (.putfield 25, 3) := by decide +kernel
theorem dX3_takesFigure_77 : decode cX3_takesFigure 77 = .ok (.iconst 1, 1) := by decide +kernel
theorem dX3_takesFigure_78 : decode cX3_takesFigure 78 = .ok (.ireturn, 1) := by decide +kernel
theorem dX3_obeys_0 : decode cX3_obeys 0 = .ok (.aload_n 0, 1) := by decide +kernel
theorem dX3_obeys_1 : decode cX3_obeys 1 = .ok (.getfield 28, 3) := by decide +kernel
theorem dX3_obeys_4 : decode cX3_obeys 4 = .ok (.lookupswitch 63 #[(109, 41), (110, 28)], 28) := by decide +kernel
theorem dX3_obeys_32 : decode cX3_obeys 32 = .ok (.aload_n 0, 1) := by decide +kernel
theorem dX3_obeys_33 : decode cX3_obeys 33 = .ok (.getfield 12, 3) := by decide +kernel
theorem dX3_obeys_36 : decode cX3_obeys 36 = .ok (.aload_n 0, 1) := by decide +kernel
theorem dX3_obeys_37 : decode cX3_obeys 37 = .ok (.getfield 31, 3) := by decide +kernel
theorem dX3_obeys_40 : decode cX3_obeys 40 = .ok (.invokevirtual 76, 3) := by decide +kernel
theorem dX3_obeys_43 : decode cX3_obeys 43 = .ok (.iconst 1, 1) := by decide +kernel
theorem dX3_obeys_44 : decode cX3_obeys 44 = .ok (.ireturn, 1) := by decide +kernel
theorem dX3_obeys_45 : decode cX3_obeys 45 = .ok (.aload_n 0, 1) := by decide +kernel
theorem dX3_obeys_46 : decode cX3_obeys 46 = .ok (.getfield 12, 3) := by decide +kernel
theorem dX3_obeys_49 : decode cX3_obeys 49 = .ok (.aload_n 0, 1) := by decide +kernel
theorem dX3_obeys_50 : decode cX3_obeys 50 = .ok (.getfield 31, 3) := by decide +kernel
theorem dX3_obeys_53 : decode cX3_obeys 53 = .ok (.aload_n 0, 1) := by decide +kernel
theorem dX3_obeys_54 : decode cX3_obeys 54 = .ok (.getfield 12, 3) := by decide +kernel
theorem dX3_obeys_57 : decode cX3_obeys 57 = .ok (.getfield 69, 3) := by decide +kernel
theorem dX3_obeys_60 : decode cX3_obeys 60 = .ok (.invokestatic 80, 3) := by decide +kernel
theorem dX3_obeys_63 : decode cX3_obeys 63 = .ok (.invokevirtual 86, 3) := by decide +kernel
theorem dX3_obeys_66 : decode cX3_obeys 66 = .ok (.ireturn, 1) := by decide +kernel
theorem dX3_obeys_67 : decode cX3_obeys 67 = .ok (.aload_n 0, 1) := by decide +kernel
theorem dX3_obeys_68 : decode cX3_obeys 68 = .ok (.getfield 12, 3) := by decide +kernel
theorem dX3_obeys_71 : decode cX3_obeys 71 = .ok (.aload_n 0, 1) := by decide +kernel
theorem dX3_obeys_72 : decode cX3_obeys 72 = .ok (.getfield 31, 3) := by decide +kernel
theorem dX3_obeys_75 : decode cX3_obeys 75 = .ok (.invokevirtual 89, 3) := by decide +kernel
theorem dX3_obeys_78 : decode cX3_obeys 78 = .ok (.ireturn, 1) := by decide +kernel
theorem dX3_takesEnd_0 : decode cX3_takesEnd 0 = .ok (.iload_n 1, 1) := by decide +kernel
theorem dX3_takesEnd_1 : decode cX3_takesEnd 1 = .ok (.bipush 59, 2) := by decide +kernel
theorem dX3_takesEnd_3 : decode cX3_takesEnd 3 = .ok (.if_icmp .eq 5, 3) := by decide +kernel
theorem dX3_takesEnd_6 : decode cX3_takesEnd 6 = .ok (.iconst 0, 1) := by decide +kernel
theorem dX3_takesEnd_7 : decode cX3_takesEnd 7 = .ok (.ireturn, 1) := by decide +kernel
theorem dX3_takesEnd_8 : decode cX3_takesEnd 8 = .ok (.aload_n 0, 1) := by decide +kernel
theorem dX3_takesEnd_9 : decode cX3_takesEnd 9 = .ok (.invokevirtual 72, 3) := by decide +kernel
theorem dX3_takesEnd_12 : decode cX3_takesEnd 12 = .ok (.ifCond .ne 19, 3) := by decide +kernel
theorem dX3_takesEnd_15 : decode cX3_takesEnd 15 = .ok (.aload_n 0, 1) := by decide +kernel
theorem dX3_takesEnd_16 : decode cX3_takesEnd 16 = .ok (.getfield 22, 3) := by decide +kernel
theorem dX3_takesEnd_19 : decode cX3_takesEnd 19 = .ok (.iconst (-1), 1) := by decide +kernel
theorem dX3_takesEnd_20 : decode cX3_takesEnd 20 = .ok (.if_icmp .ne 11, 3) := by decide +kernel
theorem dX3_takesEnd_23 : decode cX3_takesEnd 23 = .ok (.aload_n 0, 1) := by decide +kernel
theorem dX3_takesEnd_24 : decode cX3_takesEnd 24 = .ok (.aload_n 0, 1) := by decide +kernel
theorem dX3_takesEnd_25 : decode cX3_takesEnd 25 = .ok (.getfield 18, 3) := by decide +kernel
theorem dX3_takesEnd_28 : decode cX3_takesEnd 28 = .ok (.putfield 22, 3) := by decide +kernel
theorem dX3_takesEnd_31 : decode cX3_takesEnd 31 = .ok (.aload_n 0, 1) := by decide +kernel
theorem dX3_takesEnd_32 : decode cX3_takesEnd 32 = .ok (.dup, 1) := by decide +kernel
theorem dX3_takesEnd_33 : decode cX3_takesEnd 33 = .ok (.getfield 18, 3) := by decide +kernel
theorem dX3_takesEnd_36 : decode cX3_takesEnd 36 = .ok (.iconst 1, 1) := by decide +kernel
theorem dX3_takesEnd_37 : decode cX3_takesEnd 37 = .ok (.iadd, 1) := by decide +kernel
theorem dX3_takesEnd_38 : decode cX3_takesEnd 38 = .ok (.putfield 18, 3) := by decide +kernel
theorem dX3_takesEnd_41 : decode cX3_takesEnd 41 = .ok (.aload_n 0, 1) := by decide +kernel
theorem dX3_takesEnd_42 : decode cX3_takesEnd 42 = .ok (.iconst 0, 1) := by decide +kernel
theorem dX3_takesEnd_43 : decode cX3_takesEnd 43 = .ok (.putfield 25, 3) := by decide +kernel
theorem dX3_takesEnd_46 : decode cX3_takesEnd 46 = .ok (.iconst 1, 1) := by decide +kernel
theorem dX3_takesEnd_47 : decode cX3_takesEnd 47 = .ok (.ireturn, 1) := by decide +kernel
theorem dX3_takes_0 : decode cX3_takes 0 = .ok (.aload_n 0, 1) := by decide +kernel
theorem dX3_takes_1 : decode cX3_takes 1 = .ok (.getfield 25, 3) := by decide +kernel
theorem dX3_takes_4 : decode cX3_takes 4 = .ok (.lookupswitch 43 #[(0, 28), (1, 34)], 28) := by decide +kernel
theorem dX3_takes_32 : decode cX3_takes 32 = .ok (.aload_n 0, 1) := by decide +kernel
theorem dX3_takes_33 : decode cX3_takes 33 = .ok (.iload_n 1, 1) := by decide +kernel
theorem dX3_takes_34 : decode cX3_takes 34 = .ok (.invokevirtual 57, 3) := by decide +kernel
theorem dX3_takes_37 : decode cX3_takes 37 = .ok (.ireturn, 1) := by decide +kernel
theorem dX3_takes_38 : decode cX3_takes 38 = .ok (.aload_n 0, 1) := by decide +kernel
theorem dX3_takes_39 : decode cX3_takes 39 = .ok (.iload_n 1, 1) := by decide +kernel
theorem dX3_takes_40 : decode cX3_takes 40 = .ok (.bipush 48, 2) := by decide +kernel
theorem dX3_takes_42 : decode cX3_takes 42 = .ok (.isub, 1) := by decide +kernel
theorem dX3_takes_43 : decode cX3_takes 43 = .ok (.invokevirtual 60, 3) := by decide +kernel
theorem dX3_takes_46 : decode cX3_takes 46 = .ok (.ireturn, 1) := by decide +kernel
theorem dX3_takes_47 : decode cX3_takes 47 = .ok (.aload_n 0, 1) := by decide +kernel
theorem dX3_takes_48 : decode cX3_takes 48 = .ok (.iload_n 1, 1) := by decide +kernel
theorem dX3_takes_49 : decode cX3_takes 49 = .ok (.invokevirtual 63, 3) := by decide +kernel
theorem dX3_takes_52 : decode cX3_takes 52 = .ok (.ireturn, 1) := by decide +kernel
theorem dX3_read_0 : decode cX3_read 0 = .ok (.aload_n 0, 1) := by decide +kernel
theorem dX3_read_1 : decode cX3_read 1 = .ok (.getfield 12, 3) := by decide +kernel
theorem dX3_read_4 : decode cX3_read 4 = .ok (.aload_n 2, 1) := by decide +kernel
theorem dX3_read_5 : decode cX3_read 5 = .ok (.invokevirtual 40, 3) := by decide +kernel
theorem dX3_read_8 : decode cX3_read 8 = .ok (.aload_n 0, 1) := by decide +kernel
theorem dX3_read_9 : decode cX3_read 9 = .ok (.iconst 0, 1) := by decide +kernel
theorem dX3_read_10 : decode cX3_read 10 = .ok (.putfield 18, 3) := by decide +kernel
theorem dX3_read_13 : decode cX3_read 13 = .ok (.aload_n 0, 1) := by decide +kernel
theorem dX3_read_14 : decode cX3_read 14 = .ok (.iconst (-1), 1) := by decide +kernel
theorem dX3_read_15 : decode cX3_read 15 = .ok (.putfield 22, 3) := by decide +kernel
theorem dX3_read_18 : decode cX3_read 18 = .ok (.aload_n 0, 1) := by decide +kernel
theorem dX3_read_19 : decode cX3_read 19 = .ok (.iconst 0, 1) := by decide +kernel
theorem dX3_read_20 : decode cX3_read 20 = .ok (.putfield 25, 3) := by decide +kernel
theorem dX3_read_23 : decode cX3_read 23 = .ok (.iconst 0, 1) := by decide +kernel
theorem dX3_read_24 : decode cX3_read 24 = .ok (.istore_n 3, 1) := by decide +kernel
theorem dX3_read_25 : decode cX3_read 25 = .ok (.iload_n 3, 1) := by decide +kernel
theorem dX3_read_26 : decode cX3_read 26 = .ok (.aload_n 1, 1) := by decide +kernel
theorem dX3_read_27 : decode cX3_read 27 = .ok (.getfield 44, 3) := by decide +kernel
theorem dX3_read_30 : decode cX3_read 30 = .ok (.if_icmp .ge 34, 3) := by decide +kernel
theorem dX3_read_33 : decode cX3_read 33 = .ok (.aload_n 1, 1) := by decide +kernel
theorem dX3_read_34 : decode cX3_read 34 = .ok (.iload_n 3, 1) := by decide +kernel
theorem dX3_read_35 : decode cX3_read 35 = .ok (.invokevirtual 49, 3) := by decide +kernel
theorem dX3_read_38 : decode cX3_read 38 = .ok (.istore 4, 2) := by decide +kernel
theorem dX3_read_40 : decode cX3_read 40 = .ok (.iload 4, 2) := by decide +kernel
theorem dX3_read_42 : decode cX3_read 42 = .ok (.bipush 32, 2) := by decide +kernel
theorem dX3_read_44 : decode cX3_read 44 = .ok (.if_icmp .eq 14, 3) := by decide +kernel
theorem dX3_read_47 : decode cX3_read 47 = .ok (.aload_n 0, 1) := by decide +kernel
theorem dX3_read_48 : decode cX3_read 48 = .ok (.iload 4, 2) := by decide +kernel
theorem dX3_read_50 : decode cX3_read 50 = .ok (.invokevirtual 53, 3) := by decide +kernel
theorem dX3_read_53 : decode cX3_read 53 = .ok (.ifCond .ne 5, 3) := by decide +kernel
theorem dX3_read_56 : decode cX3_read 56 = .ok (.iload_n 3, 1) := by decide +kernel
theorem dX3_read_57 : decode cX3_read 57 = .ok (.ireturn, 1) := by decide +kernel
theorem dX3_read_58 : decode cX3_read 58 = .ok (.iinc 3 1, 3) := by decide +kernel
theorem dX3_read_61 : decode cX3_read 61 = .ok (.goto (-36), 3) := by decide +kernel
theorem dX3_read_64 : decode cX3_read 64 = .ok (.aload_n 0, 1) := by decide +kernel
theorem dX3_read_65 : decode cX3_read 65 = .ok (.getfield 18, 3) := by decide +kernel
theorem dX3_read_68 : decode cX3_read 68 = .ok (.ifCond .le 14, 3) := by decide +kernel
theorem dX3_read_71 : decode cX3_read 71 = .ok (.aload_n 0, 1) := by decide +kernel
theorem dX3_read_72 : decode cX3_read 72 = .ok (.getfield 25, 3) := by decide +kernel
theorem dX3_read_75 : decode cX3_read 75 = .ok (.ifCond .ne 7, 3) := by decide +kernel
theorem dX3_read_78 : decode cX3_read 78 = .ok (.iconst (-1), 1) := by decide +kernel
theorem dX3_read_79 : decode cX3_read 79 = .ok (.goto 7, 3) := by decide +kernel
theorem dX3_read_82 : decode cX3_read 82 = .ok (.aload_n 1, 1) := by decide +kernel
theorem dX3_read_83 : decode cX3_read 83 = .ok (.getfield 44, 3) := by decide +kernel
theorem dX3_read_86 : decode cX3_read 86 = .ok (.ireturn, 1) := by decide +kernel
theorem gc_X3_66 : GoodIn xtb (wsV RX3 66 yX3_isDue.cls yX3_isDue (xW yX3_isDue cX3_isDue 2 (some .boolean))) := x_good lkM_X3_66 wI_X3_isDue wS_X3_isDue wN_X3 wC_X3_isDue
theorem gc_X3_76 : GoodIn xtb (wsV RX3 76 yX4_start.cls yX4_start (xW yX4_start cX4_start 2 none)) := x_good lkM_X3_76 wI_X4_start wS_X4_start wN_X4 wC_X4_start
theorem gc_X3_80 : GoodIn xtb (va_wsS RX3 80 yX2_read (xW yX2_read cX2_read 7 (some .int))) := x_goodS lkM_X3_80 wT_X2_read wN_X2 wC_X2_read
theorem gc_X3_86 : GoodIn xtb (wsV RX3 86 yX4_adds.cls yX4_adds (xW yX4_adds cX4_adds 2 (some .boolean))) := x_good lkM_X3_86 wI_X4_adds wS_X4_adds wN_X4 wC_X4_adds
theorem gc_X3_89 : GoodIn xtb (wsV RX3 89 yX4_loses.cls yX4_loses (xW yX4_loses cX4_loses 3 (some .boolean))) := x_good lkM_X3_89 wI_X4_loses wS_X4_loses wN_X4 wC_X4_loses
theorem gc_X3_72 : GoodIn xtb (wsV RX3 72 yX3_obeys.cls yX3_obeys (xW yX3_obeys cX3_obeys 1 (some .boolean))) := x_good lkM_X3_72 wI_X3_obeys wS_X3_obeys wN_X3 wC_X3_obeys
theorem gc_X3_57 : GoodIn xtb (wsV RX3 57 yX3_takesLetter.cls yX3_takesLetter (xW yX3_takesLetter cX3_takesLetter 2 (some .boolean))) := x_good lkM_X3_57 wI_X3_takesLetter wS_X3_takesLetter wN_X3 wC_X3_takesLetter
theorem gc_X3_60 : GoodIn xtb (wsV RX3 60 yX3_takesFigure.cls yX3_takesFigure (xW yX3_takesFigure cX3_takesFigure 2 (some .boolean))) := x_good lkM_X3_60 wI_X3_takesFigure wS_X3_takesFigure wN_X3 wC_X3_takesFigure
theorem gc_X3_63 : GoodIn xtb (wsV RX3 63 yX3_takesEnd.cls yX3_takesEnd (xW yX3_takesEnd cX3_takesEnd 2 (some .boolean))) := x_good lkM_X3_63 wI_X3_takesEnd wS_X3_takesEnd wN_X3 wC_X3_takesEnd
theorem gc_X3_40 : GoodIn xtb (wsV RX3 40 yX4_copy.cls yX4_copy (xW yX4_copy cX4_copy 2 none)) := x_good lkM_X3_40 wI_X4_copy wS_X4_copy wN_X4 wC_X4_copy
theorem gc_X3_49 : GoodIn xtb (wsV RX3 49 yX6_at.cls yX6_at (xW yX6_at cX6_at 2 (some .int))) := x_good lkM_X3_49 wI_X6_at wS_X6_at wN_X6 wC_X6_at
theorem gc_X3_53 : GoodIn xtb (wsV RX3 53 yX3_takes.cls yX3_takes (xW yX3_takes cX3_takes 2 (some .boolean))) := x_good lkM_X3_53 wI_X3_takes wS_X3_takes wN_X3 wC_X3_takes
theorem ds_X3_takesLetter : xDs yX3_takesLetter 1 := by decide +kernel
theorem ds_X3_isDue : xDs yX3_isDue 1 := by decide +kernel
theorem ds_X3_takesFigure : xDs yX3_takesFigure 1 := by decide +kernel
theorem ds_X3_obeys : xDs yX3_obeys 0 := by decide +kernel
theorem ds_X3_takesEnd : xDs yX3_takesEnd 1 := by decide +kernel
theorem ds_X3_takes : xDs yX3_takes 1 := by decide +kernel
theorem ds_X3_read : xDs yX3_read 2 := by decide +kernel
noncomputable def f_X3_takesLetter (r_due : Int32) (r_letter : Int32) (r_value : Int32) (r_figures : Int32) (r_seen : Int32) (v1 : Int32) : Option (Int32 × Int32 × Int32 × Int32 × Int32 × Int32) := xb (v1 = (110 : Int32)) (some ((1 : Int32), v1, (0 : Int32), (0 : Int32), (0 : Int32), (1 : Int32))) (xb (v1 = (109 : Int32)) (some ((1 : Int32), v1, (0 : Int32), (0 : Int32), (0 : Int32), (1 : Int32))) (xb (v1 = (120 : Int32)) (some ((1 : Int32), v1, (0 : Int32), (0 : Int32), (0 : Int32), (1 : Int32))) (some ((1 : Int32), v1, (0 : Int32), (0 : Int32), (0 : Int32), (0 : Int32)))))
set_option maxHeartbeats 4000000 in
set_option maxRecDepth 100000 in
theorem c_X3_takesLetter (l : Launch) (dC : Nat → ClassId) (dI : Nat → Nat → Nat) (cI cZ cB cO : ClassId) (r_ad : Nat) (r_p : Nat → Nat) (rt_p : Nat → Nat) (r_done : Int32) (r_stopped : Int32) (r_due : Int32) (r_letter : Int32) (r_value : Int32) (r_figures : Int32) (r_seen : Int32) (rt_n : Int32) (rt_count : Int32) (rt_generators : (Nat → Int32)) (v1 : Int32) (o : Int32 × Int32 × Int32 × Int32 × Int32 × Int32) (h : f_X3_takesLetter r_due r_letter r_value r_figures r_seen v1 = some o) (sz : Nat) : Met l yX3_takesLetter (xW yX3_takesLetter cX3_takesLetter 2 (some .boolean)) { frames := 0, cells := 0, slots := 0, locals := 0 } (xPre dC dI (xT cI cZ cB cO) [.ref r_ad, .int v1] ((wR cI cZ cB cO r_ad r_p r_done r_stopped r_due r_letter r_value r_figures r_seen) ++ (wS cI cZ cB cO (r_p 0) rt_p rt_n rt_count rt_generators)) sz) (xQi dC dI (xT cI cZ cB cO) o.2.2.2.2.2 ((wR cI cZ cB cO r_ad r_p r_done r_stopped r_due r_letter r_value r_figures r_seen) ++ (wS cI cZ cB cO (r_p 0) rt_p rt_n rt_count rt_generators)) ((wR cI cZ cB cO r_ad r_p r_done r_stopped o.1 o.2.1 o.2.2.1 o.2.2.2.1 o.2.2.2.2.1) ++ (wS cI cZ cB cO (r_p 0) rt_p rt_n rt_count rt_generators)) sz) 0 0 (va_A ((wR cI cZ cB cO r_ad r_p r_done r_stopped r_due r_letter r_value r_figures r_seen) ++ (wS cI cZ cB cO (r_p 0) rt_p rt_n rt_count rt_generators)) sz) := by
  refine x_met (by decide) (Nat.le_of_ble_eq_true rfl) ?_
  intro p e s m args below meth c R Q A hR hsz hA hQ hin C hw ls hl
  have hx := C.1
  have hb := C.2.1
  have hown := C.2.2.2.1
  have htb := C.2.2.2.2.1
  have hl : lv_has ls 2 [(0, .ref r_ad), (1, .int v1)] := hl
  refine lv_aload_n hx hb dX3_takesLetter_0 rfl (lv_at hl 0 rfl) ?_
  refine lv_iload_n hx hb dX3_takesLetter_1 rfl (lv_at hl 1 rfl) ?_
  refine x_put (ci := 2) C hw inX3 tyX3 tyX3_ok nmX3 rfl 4 (by decide) lkF_X3_28 rfl rfl 0 rfl rfl rfl (Nat.le_of_ble_eq_true rfl) dX3_takesLetter_2 (fun H locs hw => ?_)
  have hw : xWd (dC, dI) A s.heap H locs ((wR cI cZ cB cO r_ad r_p r_done r_stopped r_due v1 r_value r_figures r_seen) ++ (wS cI cZ cB cO (r_p 0) rt_p rt_n rt_count rt_generators)) := hw
  refine lv_aload_n hx hb dX3_takesLetter_5 rfl (lv_at hl 0 rfl) ?_
  refine lv_iconst (v := (0 : Int32)) hx hb dX3_takesLetter_6 (by decide) ?_
  refine x_put (ci := 2) C hw inX3 tyX3 tyX3_ok nmX3 rfl 5 (by decide) lkF_X3_31 rfl rfl 0 rfl rfl rfl (Nat.le_of_ble_eq_true rfl) dX3_takesLetter_7 (fun H locs hw => ?_)
  have hw : xWd (dC, dI) A s.heap H locs ((wR cI cZ cB cO r_ad r_p r_done r_stopped r_due v1 (0 : Int32) r_figures r_seen) ++ (wS cI cZ cB cO (r_p 0) rt_p rt_n rt_count rt_generators)) := hw
  refine lv_aload_n hx hb dX3_takesLetter_10 rfl (lv_at hl 0 rfl) ?_
  refine lv_iconst (v := (0 : Int32)) hx hb dX3_takesLetter_11 (by decide) ?_
  refine x_put (ci := 2) C hw inX3 tyX3 tyX3_ok nmX3 rfl 6 (by decide) lkF_X3_34 rfl rfl 0 rfl rfl rfl (Nat.le_of_ble_eq_true rfl) dX3_takesLetter_12 (fun H locs hw => ?_)
  have hw : xWd (dC, dI) A s.heap H locs ((wR cI cZ cB cO r_ad r_p r_done r_stopped r_due v1 (0 : Int32) (0 : Int32) r_seen) ++ (wS cI cZ cB cO (r_p 0) rt_p rt_n rt_count rt_generators)) := hw
  refine lv_aload_n hx hb dX3_takesLetter_15 rfl (lv_at hl 0 rfl) ?_
  refine lv_iconst (v := (0 : Int32)) hx hb dX3_takesLetter_16 (by decide) ?_
  refine x_put (ci := 2) C hw inX3 tyX3 tyX3_ok nmX3 rfl 7 (by decide) lkF_X3_37 rfl rfl 0 rfl rfl rfl (Nat.le_of_ble_eq_true rfl) dX3_takesLetter_17 (fun H locs hw => ?_)
  have hw : xWd (dC, dI) A s.heap H locs ((wR cI cZ cB cO r_ad r_p r_done r_stopped r_due v1 (0 : Int32) (0 : Int32) (0 : Int32)) ++ (wS cI cZ cB cO (r_p 0) rt_p rt_n rt_count rt_generators)) := hw
  refine lv_aload_n hx hb dX3_takesLetter_20 rfl (lv_at hl 0 rfl) ?_
  refine lv_iconst (v := (1 : Int32)) hx hb dX3_takesLetter_21 (by decide) ?_
  refine x_put (ci := 2) C hw inX3 tyX3 tyX3_ok nmX3 rfl 3 (by decide) lkF_X3_25 rfl rfl 0 rfl rfl rfl (Nat.le_of_ble_eq_true rfl) dX3_takesLetter_22 (fun H locs hw => ?_)
  have hw : xWd (dC, dI) A s.heap H locs ((wR cI cZ cB cO r_ad r_p r_done r_stopped (1 : Int32) v1 (0 : Int32) (0 : Int32) (0 : Int32)) ++ (wS cI cZ cB cO (r_p 0) rt_p rt_n rt_count rt_generators)) := hw
  refine lv_iload_n hx hb dX3_takesLetter_25 rfl (lv_at hl 1 rfl) ?_
  refine lv_bipush (v := (110 : Int32)) hx hb dX3_takesLetter_26 (by decide) ?_
  refine lv_icmp_eq (tgt := 43) hx hb dX3_takesLetter_28 (by decide) (fun b1 => ?_) (fun b1 => ?_)
  · replace h := xb_tt b1 h
    refine lv_iconst (v := (1 : Int32)) hx hb dX3_takesLetter_43 (by decide) ?_
    refine lv_goto (tgt := 48) hx hb dX3_takesLetter_44 (by decide) ?_
    obtain rfl := Option.some.inj h
    exact x_retz C hQ hA hw (by decide) dX3_takesLetter_48
  · replace h := xb_ff b1 h
    refine lv_iload_n hx hb dX3_takesLetter_31 rfl (lv_at hl 1 rfl) ?_
    refine lv_bipush (v := (109 : Int32)) hx hb dX3_takesLetter_32 (by decide) ?_
    refine lv_icmp_eq (tgt := 43) hx hb dX3_takesLetter_34 (by decide) (fun b2 => ?_) (fun b2 => ?_)
    · replace h := xb_tt b2 h
      refine lv_iconst (v := (1 : Int32)) hx hb dX3_takesLetter_43 (by decide) ?_
      refine lv_goto (tgt := 48) hx hb dX3_takesLetter_44 (by decide) ?_
      obtain rfl := Option.some.inj h
      exact x_retz C hQ hA hw (by decide) dX3_takesLetter_48
    · replace h := xb_ff b2 h
      refine lv_iload_n hx hb dX3_takesLetter_37 rfl (lv_at hl 1 rfl) ?_
      refine lv_bipush (v := (120 : Int32)) hx hb dX3_takesLetter_38 (by decide) ?_
      refine lv_icmp_ne (tgt := 47) hx hb dX3_takesLetter_40 (by decide) (fun b3 => ?_) (fun b3 => ?_)
      · replace h := xb_ff b3 h
        refine lv_iconst (v := (0 : Int32)) hx hb dX3_takesLetter_47 (by decide) ?_
        obtain rfl := Option.some.inj h
        exact x_retz C hQ hA hw (by decide) dX3_takesLetter_48
      · replace h := xb_tt b3 h
        refine lv_iconst (v := (1 : Int32)) hx hb dX3_takesLetter_43 (by decide) ?_
        refine lv_goto (tgt := 48) hx hb dX3_takesLetter_44 (by decide) ?_
        obtain rfl := Option.some.inj h
        exact x_retz C hQ hA hw (by decide) dX3_takesLetter_48
noncomputable def f_X3_isDue (r_letter : Int32) (r_seen : Int32) (rt_n : Int32) (v1 : Int32) : Option (Int32) := xb (r_letter = (109 : Int32)) (xb (v1 < 0) (some (0 : Int32)) (xb (rt_n ≤ v1) (some (0 : Int32)) (xb (((r_seen >>> (v1 &&& 31)) &&& (1 : Int32)) = 0) (some (1 : Int32)) (some (0 : Int32))))) (xb (r_letter = (110 : Int32)) (xb (v1 < (1 : Int32)) (some (0 : Int32)) (xb ((8 : Int32) < v1) (some (0 : Int32)) (some (1 : Int32)))) (xb (v1 < 0) (some (0 : Int32)) (xb ((9 : Int32) < v1) (some (0 : Int32)) (some (1 : Int32)))))
set_option maxHeartbeats 4000000 in
set_option maxRecDepth 100000 in
theorem c_X3_isDue (l : Launch) (dC : Nat → ClassId) (dI : Nat → Nat → Nat) (cI cZ cB cO : ClassId) (r_ad : Nat) (r_p : Nat → Nat) (rt_p : Nat → Nat) (r_done : Int32) (r_stopped : Int32) (r_due : Int32) (r_letter : Int32) (r_value : Int32) (r_figures : Int32) (r_seen : Int32) (rt_n : Int32) (rt_count : Int32) (rt_generators : (Nat → Int32)) (v1 : Int32) (o : Int32) (h : f_X3_isDue r_letter r_seen rt_n v1 = some o) (sz : Nat) : Met l yX3_isDue (xW yX3_isDue cX3_isDue 2 (some .boolean)) { frames := 0, cells := 0, slots := 0, locals := 0 } (xPre dC dI (xT cI cZ cB cO) [.ref r_ad, .int v1] ((wR cI cZ cB cO r_ad r_p r_done r_stopped r_due r_letter r_value r_figures r_seen) ++ (wS cI cZ cB cO (r_p 0) rt_p rt_n rt_count rt_generators)) sz) (xQi dC dI (xT cI cZ cB cO) o ((wR cI cZ cB cO r_ad r_p r_done r_stopped r_due r_letter r_value r_figures r_seen) ++ (wS cI cZ cB cO (r_p 0) rt_p rt_n rt_count rt_generators)) ((wR cI cZ cB cO r_ad r_p r_done r_stopped r_due r_letter r_value r_figures r_seen) ++ (wS cI cZ cB cO (r_p 0) rt_p rt_n rt_count rt_generators)) sz) 0 0 (va_A ((wR cI cZ cB cO r_ad r_p r_done r_stopped r_due r_letter r_value r_figures r_seen) ++ (wS cI cZ cB cO (r_p 0) rt_p rt_n rt_count rt_generators)) sz) := by
  refine x_met (by decide) (Nat.le_of_ble_eq_true rfl) ?_
  intro p e s m args below meth c R Q A hR hsz hA hQ hin C hw ls hl
  have hx := C.1
  have hb := C.2.1
  have hown := C.2.2.2.1
  have htb := C.2.2.2.2.1
  have hl : lv_has ls 2 [(0, .ref r_ad), (1, .int v1)] := hl
  refine lv_aload_n hx hb dX3_isDue_0 rfl (lv_at hl 0 rfl) ?_
  refine x_get (ci := 2) C hw inX3 rfl 4 (by decide) lkF_X3_28 rfl 0 rfl rfl dX3_isDue_1 ?_
  rcases Classical.em (r_letter = (109 : Int32)) with b1 | b1
  · replace h := xb_tt b1 h
    refine lv_lookup (off := 45) (tgt := 49) hx hb dX3_isDue_4 (by decide) (by rw [b1]; rfl) (by decide) ?_
    refine lv_iload_n hx hb dX3_isDue_49 rfl (lv_at hl 1 rfl) ?_
    refine lv_if_lt (tgt := 79) hx hb dX3_isDue_50 (by decide) (fun b3 => ?_) (fun b3 => ?_)
    · replace h := xb_tt b3 h
      refine lv_iconst (v := (0 : Int32)) hx hb dX3_isDue_79 (by decide) ?_
      obtain rfl := Option.some.inj h
      exact x_retz C hQ hA hw (by decide) dX3_isDue_80
    · replace h := xb_ff b3 h
      refine lv_iload_n hx hb dX3_isDue_53 rfl (lv_at hl 1 rfl) ?_
      refine lv_aload_n hx hb dX3_isDue_54 rfl (lv_at hl 0 rfl) ?_
      refine x_get (ci := 2) C hw inX3 rfl 0 (by decide) lkF_X3_12 rfl 0 rfl rfl dX3_isDue_55 ?_
      refine x_get (ci := 3) C hw inX4 rfl 0 (by decide) lkF_X3_69 rfl 1 rfl rfl dX3_isDue_58 ?_
      refine lv_icmp_ge (tgt := 79) hx hb dX3_isDue_61 (by decide) (fun b4 => ?_) (fun b4 => ?_)
      · replace h := xb_tt b4 h
        refine lv_iconst (v := (0 : Int32)) hx hb dX3_isDue_79 (by decide) ?_
        obtain rfl := Option.some.inj h
        exact x_retz C hQ hA hw (by decide) dX3_isDue_80
      · replace h := xb_ff b4 h
        refine lv_aload_n hx hb dX3_isDue_64 rfl (lv_at hl 0 rfl) ?_
        refine x_get (ci := 2) C hw inX3 rfl 7 (by decide) lkF_X3_37 rfl 0 rfl rfl dX3_isDue_65 ?_
        refine lv_iload_n hx hb dX3_isDue_68 rfl (lv_at hl 1 rfl) ?_
        refine lv_ishr hx hb dX3_isDue_69 ?_
        refine lv_iconst (v := (1 : Int32)) hx hb dX3_isDue_70 (by decide) ?_
        refine lv_iand hx hb dX3_isDue_71 ?_
        refine lv_if_ne (tgt := 79) hx hb dX3_isDue_72 (by decide) (fun b5 => ?_) (fun b5 => ?_)
        · replace h := xb_ff b5 h
          refine lv_iconst (v := (0 : Int32)) hx hb dX3_isDue_79 (by decide) ?_
          obtain rfl := Option.some.inj h
          exact x_retz C hQ hA hw (by decide) dX3_isDue_80
        · replace h := xb_tt b5 h
          refine lv_iconst (v := (1 : Int32)) hx hb dX3_isDue_75 (by decide) ?_
          refine lv_goto (tgt := 80) hx hb dX3_isDue_76 (by decide) ?_
          obtain rfl := Option.some.inj h
          exact x_retz C hQ hA hw (by decide) dX3_isDue_80
  · replace h := xb_ff b1 h
    rcases Classical.em (r_letter = (110 : Int32)) with b2 | b2
    · replace h := xb_tt b2 h
      refine lv_lookup (off := 28) (tgt := 32) hx hb dX3_isDue_4 (by decide) ((lv_osw b1 (by decide)).trans (by rw [b2]; rfl)) (by decide) ?_
      refine lv_iload_n hx hb dX3_isDue_32 rfl (lv_at hl 1 rfl) ?_
      refine lv_iconst (v := (1 : Int32)) hx hb dX3_isDue_33 (by decide) ?_
      refine lv_icmp_lt (tgt := 47) hx hb dX3_isDue_34 (by decide) (fun b6 => ?_) (fun b6 => ?_)
      · replace h := xb_tt b6 h
        refine lv_iconst (v := (0 : Int32)) hx hb dX3_isDue_47 (by decide) ?_
        obtain rfl := Option.some.inj h
        exact x_retz C hQ hA hw (by decide) dX3_isDue_48
      · replace h := xb_ff b6 h
        refine lv_iload_n hx hb dX3_isDue_37 rfl (lv_at hl 1 rfl) ?_
        refine lv_bipush (v := (8 : Int32)) hx hb dX3_isDue_38 (by decide) ?_
        refine lv_icmp_gt (tgt := 47) hx hb dX3_isDue_40 (by decide) (fun b7 => ?_) (fun b7 => ?_)
        · replace h := xb_tt b7 h
          refine lv_iconst (v := (0 : Int32)) hx hb dX3_isDue_47 (by decide) ?_
          obtain rfl := Option.some.inj h
          exact x_retz C hQ hA hw (by decide) dX3_isDue_48
        · replace h := xb_ff b7 h
          refine lv_iconst (v := (1 : Int32)) hx hb dX3_isDue_43 (by decide) ?_
          refine lv_goto (tgt := 48) hx hb dX3_isDue_44 (by decide) ?_
          obtain rfl := Option.some.inj h
          exact x_retz C hQ hA hw (by decide) dX3_isDue_48
    · replace h := xb_ff b2 h
      refine lv_lookup (off := 77) (tgt := 81) hx hb dX3_isDue_4 (by decide) ((lv_osw b1 (by decide)).trans ((lv_osw b2 (by decide)).trans (rfl))) (by decide) ?_
      refine lv_iload_n hx hb dX3_isDue_81 rfl (lv_at hl 1 rfl) ?_
      refine lv_if_lt (tgt := 95) hx hb dX3_isDue_82 (by decide) (fun b8 => ?_) (fun b8 => ?_)
      · replace h := xb_tt b8 h
        refine lv_iconst (v := (0 : Int32)) hx hb dX3_isDue_95 (by decide) ?_
        obtain rfl := Option.some.inj h
        exact x_retz C hQ hA hw (by decide) dX3_isDue_96
      · replace h := xb_ff b8 h
        refine lv_iload_n hx hb dX3_isDue_85 rfl (lv_at hl 1 rfl) ?_
        refine lv_bipush (v := (9 : Int32)) hx hb dX3_isDue_86 (by decide) ?_
        refine lv_icmp_gt (tgt := 95) hx hb dX3_isDue_88 (by decide) (fun b9 => ?_) (fun b9 => ?_)
        · replace h := xb_tt b9 h
          refine lv_iconst (v := (0 : Int32)) hx hb dX3_isDue_95 (by decide) ?_
          obtain rfl := Option.some.inj h
          exact x_retz C hQ hA hw (by decide) dX3_isDue_96
        · replace h := xb_ff b9 h
          refine lv_iconst (v := (1 : Int32)) hx hb dX3_isDue_91 (by decide) ?_
          refine lv_goto (tgt := 96) hx hb dX3_isDue_92 (by decide) ?_
          obtain rfl := Option.some.inj h
          exact x_retz C hQ hA hw (by decide) dX3_isDue_96
noncomputable def f_X3_takesFigure (r_due : Int32) (r_letter : Int32) (r_value : Int32) (r_figures : Int32) (r_seen : Int32) (rt_n : Int32) (v1 : Int32) : Option (Int32 × Int32 × Int32 × Int32 × Int32) := xn (f_X3_isDue r_letter r_seen rt_n v1) (fun (r_1 : Int32) => xb (r_1 = 0) (some (r_due, r_value, r_figures, r_seen, (0 : Int32))) (xb (r_letter = (109 : Int32)) (xb ((r_figures + (1 : Int32)) < rt_n) (some (r_due, (((10 : Int32) * r_value) + v1), (r_figures + (1 : Int32)), (r_seen ||| ((1 : Int32) <<< (v1 &&& 31))), (1 : Int32))) (some ((2 : Int32), (((10 : Int32) * r_value) + v1), (r_figures + (1 : Int32)), (r_seen ||| ((1 : Int32) <<< (v1 &&& 31))), (1 : Int32)))) (xb ((r_figures + (1 : Int32)) < (1 : Int32)) (some (r_due, (((10 : Int32) * r_value) + v1), (r_figures + (1 : Int32)), (r_seen ||| ((1 : Int32) <<< (v1 &&& 31))), (1 : Int32))) (some ((2 : Int32), (((10 : Int32) * r_value) + v1), (r_figures + (1 : Int32)), (r_seen ||| ((1 : Int32) <<< (v1 &&& 31))), (1 : Int32))))))
set_option maxHeartbeats 4000000 in
set_option maxRecDepth 100000 in
theorem c_X3_takesFigure (l : Launch) (dC : Nat → ClassId) (dI : Nat → Nat → Nat) (cI cZ cB cO : ClassId) (r_ad : Nat) (r_p : Nat → Nat) (rt_p : Nat → Nat) (r_done : Int32) (r_stopped : Int32) (r_due : Int32) (r_letter : Int32) (r_value : Int32) (r_figures : Int32) (r_seen : Int32) (rt_n : Int32) (rt_count : Int32) (rt_generators : (Nat → Int32)) (v1 : Int32) (o : Int32 × Int32 × Int32 × Int32 × Int32) (h : f_X3_takesFigure r_due r_letter r_value r_figures r_seen rt_n v1 = some o) (sz : Nat) : Met l yX3_takesFigure (xW yX3_takesFigure cX3_takesFigure 2 (some .boolean)) { frames := 1, cells := 0, slots := 0, locals := 21 } (xPre dC dI (xT cI cZ cB cO) [.ref r_ad, .int v1] ((wR cI cZ cB cO r_ad r_p r_done r_stopped r_due r_letter r_value r_figures r_seen) ++ (wS cI cZ cB cO (r_p 0) rt_p rt_n rt_count rt_generators)) sz) (xQi dC dI (xT cI cZ cB cO) o.2.2.2.2 ((wR cI cZ cB cO r_ad r_p r_done r_stopped r_due r_letter r_value r_figures r_seen) ++ (wS cI cZ cB cO (r_p 0) rt_p rt_n rt_count rt_generators)) ((wR cI cZ cB cO r_ad r_p r_done r_stopped o.1 r_letter o.2.1 o.2.2.1 o.2.2.2.1) ++ (wS cI cZ cB cO (r_p 0) rt_p rt_n rt_count rt_generators)) sz) 0 0 (va_A ((wR cI cZ cB cO r_ad r_p r_done r_stopped r_due r_letter r_value r_figures r_seen) ++ (wS cI cZ cB cO (r_p 0) rt_p rt_n rt_count rt_generators)) sz) := by
  refine x_met (by decide) (Nat.le_of_ble_eq_true rfl) ?_
  intro p e s m args below meth c R Q A hR hsz hA hQ hin C hw ls hl
  have hx := C.1
  have hb := C.2.1
  have hown := C.2.2.2.1
  have htb := C.2.2.2.2.1
  have hl : lv_has ls 2 [(0, .ref r_ad), (1, .int v1)] := hl
  refine lv_aload_n hx hb dX3_takesFigure_0 rfl (lv_at hl 0 rfl) ?_
  refine lv_iload_n hx hb dX3_takesFigure_1 rfl (lv_at hl 1 rfl) ?_
  obtain ⟨r_1, q1, h⟩ := xn_i h
  refine x_callVi (As := [.int v1]) (rest := []) C hw gc_X3_66 ⟨rfl, rfl, ds_X3_isDue, (by rw [hR]; exact Nat.le_of_ble_eq_true rfl), (by rw [hR]; exact Nat.le_of_ble_eq_true rfl), Nat.zero_le _, Nat.zero_le _⟩ (c_X3_isDue l dC dI cI cZ cB cO r_ad r_p rt_p r_done r_stopped r_due r_letter r_value r_figures r_seen rt_n rt_count rt_generators v1 _ q1 _) [0, 1, 2] [] (by decide) rfl rfl (by decide) (by decide) rfl rfl rfl hl.1 rfl (Nat.le_of_ble_eq_true rfl) dX3_takesFigure_2 (fun H locs hw => ?_)
  have hw : xWd (dC, dI) A s.heap H locs ((wR cI cZ cB cO r_ad r_p r_done r_stopped r_due r_letter r_value r_figures r_seen) ++ (wS cI cZ cB cO (r_p 0) rt_p rt_n rt_count rt_generators)) := hw
  refine lv_if_ne (tgt := 10) hx hb dX3_takesFigure_5 (by decide) (fun b2 => ?_) (fun b2 => ?_)
  · replace h := xb_ff b2 h
    refine lv_aload_n hx hb dX3_takesFigure_10 rfl (lv_at hl 0 rfl) ?_
    refine lv_bipush (v := (10 : Int32)) hx hb dX3_takesFigure_11 (by decide) ?_
    refine lv_aload_n hx hb dX3_takesFigure_13 rfl (lv_at hl 0 rfl) ?_
    refine x_get (ci := 2) C hw inX3 rfl 5 (by decide) lkF_X3_31 rfl 0 rfl rfl dX3_takesFigure_14 ?_
    refine lv_imul hx hb dX3_takesFigure_17 ?_
    refine lv_iload_n hx hb dX3_takesFigure_18 rfl (lv_at hl 1 rfl) ?_
    refine lv_iadd hx hb dX3_takesFigure_19 ?_
    refine x_put (ci := 2) C hw inX3 tyX3 tyX3_ok nmX3 rfl 5 (by decide) lkF_X3_31 rfl rfl 0 rfl rfl rfl (Nat.le_of_ble_eq_true rfl) dX3_takesFigure_20 (fun H locs hw => ?_)
    have hw : xWd (dC, dI) A s.heap H locs ((wR cI cZ cB cO r_ad r_p r_done r_stopped r_due r_letter (((10 : Int32) * r_value) + v1) r_figures r_seen) ++ (wS cI cZ cB cO (r_p 0) rt_p rt_n rt_count rt_generators)) := hw
    refine lv_aload_n hx hb dX3_takesFigure_23 rfl (lv_at hl 0 rfl) ?_
    refine lv_dup hx hb dX3_takesFigure_24 rfl ?_
    refine x_get (ci := 2) C hw inX3 rfl 7 (by decide) lkF_X3_37 rfl 0 rfl rfl dX3_takesFigure_25 ?_
    refine lv_iconst (v := (1 : Int32)) hx hb dX3_takesFigure_28 (by decide) ?_
    refine lv_iload_n hx hb dX3_takesFigure_29 rfl (lv_at hl 1 rfl) ?_
    refine lv_ishl hx hb dX3_takesFigure_30 ?_
    refine lv_ior hx hb dX3_takesFigure_31 ?_
    refine x_put (ci := 2) C hw inX3 tyX3 tyX3_ok nmX3 rfl 7 (by decide) lkF_X3_37 rfl rfl 0 rfl rfl rfl (Nat.le_of_ble_eq_true rfl) dX3_takesFigure_32 (fun H locs hw => ?_)
    have hw : xWd (dC, dI) A s.heap H locs ((wR cI cZ cB cO r_ad r_p r_done r_stopped r_due r_letter (((10 : Int32) * r_value) + v1) r_figures (r_seen ||| ((1 : Int32) <<< (v1 &&& 31)))) ++ (wS cI cZ cB cO (r_p 0) rt_p rt_n rt_count rt_generators)) := hw
    refine lv_aload_n hx hb dX3_takesFigure_35 rfl (lv_at hl 0 rfl) ?_
    refine lv_dup hx hb dX3_takesFigure_36 rfl ?_
    refine x_get (ci := 2) C hw inX3 rfl 6 (by decide) lkF_X3_34 rfl 0 rfl rfl dX3_takesFigure_37 ?_
    refine lv_iconst (v := (1 : Int32)) hx hb dX3_takesFigure_40 (by decide) ?_
    refine lv_iadd hx hb dX3_takesFigure_41 ?_
    refine x_put (ci := 2) C hw inX3 tyX3 tyX3_ok nmX3 rfl 6 (by decide) lkF_X3_34 rfl rfl 0 rfl rfl rfl (Nat.le_of_ble_eq_true rfl) dX3_takesFigure_42 (fun H locs hw => ?_)
    have hw : xWd (dC, dI) A s.heap H locs ((wR cI cZ cB cO r_ad r_p r_done r_stopped r_due r_letter (((10 : Int32) * r_value) + v1) (r_figures + (1 : Int32)) (r_seen ||| ((1 : Int32) <<< (v1 &&& 31)))) ++ (wS cI cZ cB cO (r_p 0) rt_p rt_n rt_count rt_generators)) := hw
    refine lv_aload_n hx hb dX3_takesFigure_45 rfl (lv_at hl 0 rfl) ?_
    refine x_get (ci := 2) C hw inX3 rfl 6 (by decide) lkF_X3_34 rfl 0 rfl rfl dX3_takesFigure_46 ?_
    refine lv_aload_n hx hb dX3_takesFigure_49 rfl (lv_at hl 0 rfl) ?_
    refine x_get (ci := 2) C hw inX3 rfl 4 (by decide) lkF_X3_28 rfl 0 rfl rfl dX3_takesFigure_50 ?_
    refine lv_bipush (v := (109 : Int32)) hx hb dX3_takesFigure_53 (by decide) ?_
    refine lv_icmp_ne (tgt := 68) hx hb dX3_takesFigure_55 (by decide) (fun b3 => ?_) (fun b3 => ?_)
    · replace h := xb_ff b3 h
      refine lv_iconst (v := (1 : Int32)) hx hb dX3_takesFigure_68 (by decide) ?_
      refine lv_icmp_lt (tgt := 77) hx hb dX3_takesFigure_69 (by decide) (fun b4 => ?_) (fun b4 => ?_)
      · replace h := xb_tt b4 h
        refine lv_iconst (v := (1 : Int32)) hx hb dX3_takesFigure_77 (by decide) ?_
        obtain rfl := Option.some.inj h
        exact x_retz C hQ hA hw (by decide) dX3_takesFigure_78
      · replace h := xb_ff b4 h
        refine lv_aload_n hx hb dX3_takesFigure_72 rfl (lv_at hl 0 rfl) ?_
        refine lv_iconst (v := (2 : Int32)) hx hb dX3_takesFigure_73 (by decide) ?_
        refine x_put (ci := 2) C hw inX3 tyX3 tyX3_ok nmX3 rfl 3 (by decide) lkF_X3_25 rfl rfl 0 rfl rfl rfl (Nat.le_of_ble_eq_true rfl) dX3_takesFigure_74 (fun H locs hw => ?_)
        have hw : xWd (dC, dI) A s.heap H locs ((wR cI cZ cB cO r_ad r_p r_done r_stopped (2 : Int32) r_letter (((10 : Int32) * r_value) + v1) (r_figures + (1 : Int32)) (r_seen ||| ((1 : Int32) <<< (v1 &&& 31)))) ++ (wS cI cZ cB cO (r_p 0) rt_p rt_n rt_count rt_generators)) := hw
        refine lv_iconst (v := (1 : Int32)) hx hb dX3_takesFigure_77 (by decide) ?_
        obtain rfl := Option.some.inj h
        exact x_retz C hQ hA hw (by decide) dX3_takesFigure_78
    · replace h := xb_tt b3 h
      refine lv_aload_n hx hb dX3_takesFigure_58 rfl (lv_at hl 0 rfl) ?_
      refine x_get (ci := 2) C hw inX3 rfl 0 (by decide) lkF_X3_12 rfl 0 rfl rfl dX3_takesFigure_59 ?_
      refine x_get (ci := 3) C hw inX4 rfl 0 (by decide) lkF_X3_69 rfl 1 rfl rfl dX3_takesFigure_62 ?_
      refine lv_goto (tgt := 69) hx hb dX3_takesFigure_65 (by decide) ?_
      refine lv_icmp_lt (tgt := 77) hx hb dX3_takesFigure_69 (by decide) (fun b5 => ?_) (fun b5 => ?_)
      · replace h := xb_tt b5 h
        refine lv_iconst (v := (1 : Int32)) hx hb dX3_takesFigure_77 (by decide) ?_
        obtain rfl := Option.some.inj h
        exact x_retz C hQ hA hw (by decide) dX3_takesFigure_78
      · replace h := xb_ff b5 h
        refine lv_aload_n hx hb dX3_takesFigure_72 rfl (lv_at hl 0 rfl) ?_
        refine lv_iconst (v := (2 : Int32)) hx hb dX3_takesFigure_73 (by decide) ?_
        refine x_put (ci := 2) C hw inX3 tyX3 tyX3_ok nmX3 rfl 3 (by decide) lkF_X3_25 rfl rfl 0 rfl rfl rfl (Nat.le_of_ble_eq_true rfl) dX3_takesFigure_74 (fun H locs hw => ?_)
        have hw : xWd (dC, dI) A s.heap H locs ((wR cI cZ cB cO r_ad r_p r_done r_stopped (2 : Int32) r_letter (((10 : Int32) * r_value) + v1) (r_figures + (1 : Int32)) (r_seen ||| ((1 : Int32) <<< (v1 &&& 31)))) ++ (wS cI cZ cB cO (r_p 0) rt_p rt_n rt_count rt_generators)) := hw
        refine lv_iconst (v := (1 : Int32)) hx hb dX3_takesFigure_77 (by decide) ?_
        obtain rfl := Option.some.inj h
        exact x_retz C hQ hA hw (by decide) dX3_takesFigure_78
  · replace h := xb_tt b2 h
    refine lv_iconst (v := (0 : Int32)) hx hb dX3_takesFigure_8 (by decide) ?_
    obtain rfl := Option.some.inj h
    exact x_retz C hQ hA hw (by decide) dX3_takesFigure_9
noncomputable def f_X3_obeys (r_letter : Int32) (r_value : Int32) (rt_n : Int32) (rt_count : Int32) (rt_generators : (Nat → Int32)) : Option (Int32 × Int32 × (Nat → Int32) × Int32) := xb (r_letter = (109 : Int32)) (xn (f_X2_read r_value rt_n) (fun (r_1 : Int32) => xn (f_X4_adds rt_count rt_generators r_1) (fun (z : Int32 × (Nat → Int32) × Int32) => match z with | (rt_count_2, rt_generators_3, r_4) => xk (r_4 = 0 ∨ r_4 = 1) (some (rt_n, rt_count_2, rt_generators_3, r_4))))) (xb (r_letter = (110 : Int32)) (xn (f_X4_start rt_n rt_count r_value) (fun (z : Int32 × Int32) => match z with | (rt_n_5, rt_count_6) => some (rt_n_5, rt_count_6, rt_generators, (1 : Int32)))) (xn (f_X4_loses rt_count rt_generators r_value) (fun (z : Int32 × (Nat → Int32) × Int32) => match z with | (rt_count_7, rt_generators_8, r_9) => xk (r_9 = 0 ∨ r_9 = 1) (some (rt_n, rt_count_7, rt_generators_8, r_9)))))
set_option maxHeartbeats 4000000 in
set_option maxRecDepth 100000 in
theorem c_X3_obeys (l : Launch) (dC : Nat → ClassId) (dI : Nat → Nat → Nat) (cI cZ cB cO : ClassId) (r_ad : Nat) (r_p : Nat → Nat) (rt_p : Nat → Nat) (r_done : Int32) (r_stopped : Int32) (r_due : Int32) (r_letter : Int32) (r_value : Int32) (r_figures : Int32) (r_seen : Int32) (rt_n : Int32) (rt_count : Int32) (rt_generators : (Nat → Int32)) (o : Int32 × Int32 × (Nat → Int32) × Int32) (h : f_X3_obeys r_letter r_value rt_n rt_count rt_generators = some o) (sz : Nat) : Met l yX3_obeys (xW yX3_obeys cX3_obeys 1 (some .boolean)) { frames := 1, cells := 0, slots := 0, locals := 26 } (xPre dC dI (xT cI cZ cB cO) [.ref r_ad] ((wR cI cZ cB cO r_ad r_p r_done r_stopped r_due r_letter r_value r_figures r_seen) ++ (wS cI cZ cB cO (r_p 0) rt_p rt_n rt_count rt_generators)) sz) (xQi dC dI (xT cI cZ cB cO) o.2.2.2 ((wR cI cZ cB cO r_ad r_p r_done r_stopped r_due r_letter r_value r_figures r_seen) ++ (wS cI cZ cB cO (r_p 0) rt_p rt_n rt_count rt_generators)) ((wR cI cZ cB cO r_ad r_p r_done r_stopped r_due r_letter r_value r_figures r_seen) ++ (wS cI cZ cB cO (r_p 0) rt_p o.1 o.2.1 o.2.2.1)) sz) 0 0 (va_A ((wR cI cZ cB cO r_ad r_p r_done r_stopped r_due r_letter r_value r_figures r_seen) ++ (wS cI cZ cB cO (r_p 0) rt_p rt_n rt_count rt_generators)) sz) := by
  refine x_met (by decide) (Nat.le_of_ble_eq_true rfl) ?_
  intro p e s m args below meth c R Q A hR hsz hA hQ hin C hw ls hl
  have hx := C.1
  have hb := C.2.1
  have hown := C.2.2.2.1
  have htb := C.2.2.2.2.1
  have hl : lv_has ls 1 [(0, .ref r_ad)] := hl
  refine lv_aload_n hx hb dX3_obeys_0 rfl (lv_at hl 0 rfl) ?_
  refine x_get (ci := 2) C hw inX3 rfl 4 (by decide) lkF_X3_28 rfl 0 rfl rfl dX3_obeys_1 ?_
  rcases Classical.em (r_letter = (109 : Int32)) with b1 | b1
  · replace h := xb_tt b1 h
    refine lv_lookup (off := 41) (tgt := 45) hx hb dX3_obeys_4 (by decide) (by rw [b1]; rfl) (by decide) ?_
    refine lv_aload_n hx hb dX3_obeys_45 rfl (lv_at hl 0 rfl) ?_
    refine x_get (ci := 2) C hw inX3 rfl 0 (by decide) lkF_X3_12 rfl 0 rfl rfl dX3_obeys_46 ?_
    refine lv_aload_n hx hb dX3_obeys_49 rfl (lv_at hl 0 rfl) ?_
    refine x_get (ci := 2) C hw inX3 rfl 5 (by decide) lkF_X3_31 rfl 0 rfl rfl dX3_obeys_50 ?_
    refine lv_aload_n hx hb dX3_obeys_53 rfl (lv_at hl 0 rfl) ?_
    refine x_get (ci := 2) C hw inX3 rfl 0 (by decide) lkF_X3_12 rfl 0 rfl rfl dX3_obeys_54 ?_
    refine x_get (ci := 3) C hw inX4 rfl 0 (by decide) lkF_X3_69 rfl 1 rfl rfl dX3_obeys_57 ?_
    obtain ⟨r_1, q3, h⟩ := xn_i h
    refine x_callSi (As := [.int r_value, .int rt_n]) (rest := [.ref (r_p 0)]) C hw gc_X3_80 ds_X2_read (by rw [hR]; exact Nat.le_of_ble_eq_true rfl) (by rw [hR]; exact Nat.le_of_ble_eq_true rfl) rfl rfl (Nat.zero_le _) (Nat.zero_le _) (c_X2_read l dC dI cI cZ cB cO r_value rt_n _ q3 _) [] [0, 1, 2] (by decide) rfl rfl (by decide) (by decide) rfl hl.1 rfl (Nat.le_of_ble_eq_true rfl) dX3_obeys_60 (fun H locs hw => ?_)
    have hw : xWd (dC, dI) A s.heap H locs ((wR cI cZ cB cO r_ad r_p r_done r_stopped r_due r_letter r_value r_figures r_seen) ++ (wS cI cZ cB cO (r_p 0) rt_p rt_n rt_count rt_generators)) := hw.sub [0, 1, 2] (by decide) rfl
    obtain ⟨⟨rt_count_2, rt_generators_3, r_4⟩, q4, h⟩ := xn_i h
    refine x_callVi (As := [.int r_1]) (rest := []) C hw gc_X3_86 ⟨rfl, rfl, ds_X4_adds, (by rw [hR]; exact Nat.le_of_ble_eq_true rfl), (by rw [hR]; exact Nat.le_of_ble_eq_true rfl), Nat.zero_le _, Nat.zero_le _⟩ (c_X4_adds l dC dI cI cZ cB cO (r_p 0) rt_p rt_n rt_count rt_generators r_1 _ q4 _) [1, 2] [0] (by decide) rfl rfl (by decide) (by decide) rfl rfl rfl hl.1 rfl (Nat.le_of_ble_eq_true rfl) dX3_obeys_63 (fun H locs hw => ?_)
    have hw : xWd (dC, dI) A s.heap H locs ((wR cI cZ cB cO r_ad r_p r_done r_stopped r_due r_letter r_value r_figures r_seen) ++ (wS cI cZ cB cO (r_p 0) rt_p rt_n rt_count_2 rt_generators_3)) := hw
    obtain ⟨hz01, h⟩ := xk_i h
    obtain rfl := Option.some.inj h
    exact x_retz C hQ hA hw hz01 dX3_obeys_66
  · replace h := xb_ff b1 h
    rcases Classical.em (r_letter = (110 : Int32)) with b2 | b2
    · replace h := xb_tt b2 h
      refine lv_lookup (off := 28) (tgt := 32) hx hb dX3_obeys_4 (by decide) ((lv_osw b1 (by decide)).trans (by rw [b2]; rfl)) (by decide) ?_
      refine lv_aload_n hx hb dX3_obeys_32 rfl (lv_at hl 0 rfl) ?_
      refine x_get (ci := 2) C hw inX3 rfl 0 (by decide) lkF_X3_12 rfl 0 rfl rfl dX3_obeys_33 ?_
      refine lv_aload_n hx hb dX3_obeys_36 rfl (lv_at hl 0 rfl) ?_
      refine x_get (ci := 2) C hw inX3 rfl 5 (by decide) lkF_X3_31 rfl 0 rfl rfl dX3_obeys_37 ?_
      obtain ⟨⟨rt_n_5, rt_count_6⟩, q5, h⟩ := xn_i h
      refine x_callVv (As := [.int r_value]) (rest := []) C hw gc_X3_76 ⟨rfl, rfl, ds_X4_start, (by rw [hR]; exact Nat.le_of_ble_eq_true rfl), (by rw [hR]; exact Nat.le_of_ble_eq_true rfl), Nat.zero_le _, Nat.zero_le _⟩ (c_X4_start l dC dI cI cZ cB cO (r_p 0) rt_p rt_n rt_count rt_generators r_value _ q5 _) [1, 2] [0] (by decide) rfl rfl (by decide) (by decide) rfl rfl rfl hl.1 rfl (Nat.le_of_ble_eq_true rfl) dX3_obeys_40 (fun H locs hw => ?_)
      have hw : xWd (dC, dI) A s.heap H locs ((wR cI cZ cB cO r_ad r_p r_done r_stopped r_due r_letter r_value r_figures r_seen) ++ (wS cI cZ cB cO (r_p 0) rt_p rt_n_5 rt_count_6 rt_generators)) := hw
      refine lv_iconst (v := (1 : Int32)) hx hb dX3_obeys_43 (by decide) ?_
      obtain rfl := Option.some.inj h
      exact x_retz C hQ hA hw (by decide) dX3_obeys_44
    · replace h := xb_ff b2 h
      refine lv_lookup (off := 63) (tgt := 67) hx hb dX3_obeys_4 (by decide) ((lv_osw b1 (by decide)).trans ((lv_osw b2 (by decide)).trans (rfl))) (by decide) ?_
      refine lv_aload_n hx hb dX3_obeys_67 rfl (lv_at hl 0 rfl) ?_
      refine x_get (ci := 2) C hw inX3 rfl 0 (by decide) lkF_X3_12 rfl 0 rfl rfl dX3_obeys_68 ?_
      refine lv_aload_n hx hb dX3_obeys_71 rfl (lv_at hl 0 rfl) ?_
      refine x_get (ci := 2) C hw inX3 rfl 5 (by decide) lkF_X3_31 rfl 0 rfl rfl dX3_obeys_72 ?_
      obtain ⟨⟨rt_count_7, rt_generators_8, r_9⟩, q6, h⟩ := xn_i h
      refine x_callVi (As := [.int r_value]) (rest := []) C hw gc_X3_89 ⟨rfl, rfl, ds_X4_loses, (by rw [hR]; exact Nat.le_of_ble_eq_true rfl), (by rw [hR]; exact Nat.le_of_ble_eq_true rfl), Nat.zero_le _, Nat.zero_le _⟩ (c_X4_loses l dC dI cI cZ cB cO (r_p 0) rt_p rt_n rt_count rt_generators r_value _ q6 _) [1, 2] [0] (by decide) rfl rfl (by decide) (by decide) rfl rfl rfl hl.1 rfl (Nat.le_of_ble_eq_true rfl) dX3_obeys_75 (fun H locs hw => ?_)
      have hw : xWd (dC, dI) A s.heap H locs ((wR cI cZ cB cO r_ad r_p r_done r_stopped r_due r_letter r_value r_figures r_seen) ++ (wS cI cZ cB cO (r_p 0) rt_p rt_n rt_count_7 rt_generators_8)) := hw
      obtain ⟨hz01, h⟩ := xk_i h
      obtain rfl := Option.some.inj h
      exact x_retz C hQ hA hw hz01 dX3_obeys_78
noncomputable def f_X3_takesEnd (r_done : Int32) (r_stopped : Int32) (r_due : Int32) (r_letter : Int32) (r_value : Int32) (rt_n : Int32) (rt_count : Int32) (rt_generators : (Nat → Int32)) (v1 : Int32) : Option (Int32 × Int32 × Int32 × Int32 × Int32 × (Nat → Int32) × Int32) := xb (v1 = (59 : Int32)) (xn (f_X3_obeys r_letter r_value rt_n rt_count rt_generators) (fun (z : Int32 × Int32 × (Nat → Int32) × Int32) => match z with | (rt_n_1, rt_count_2, rt_generators_3, r_4) => xn (xb (r_4 = 0) (xb (r_stopped = (-1 : Int32)) (some (r_done)) (some (r_stopped))) (some (r_stopped))) (fun (r_stopped_5 : Int32) => some ((r_done + (1 : Int32)), r_stopped_5, (0 : Int32), rt_n_1, rt_count_2, rt_generators_3, (1 : Int32))))) (some (r_done, r_stopped, r_due, rt_n, rt_count, rt_generators, (0 : Int32)))
set_option maxHeartbeats 4000000 in
set_option maxRecDepth 100000 in
theorem c_X3_takesEnd (l : Launch) (dC : Nat → ClassId) (dI : Nat → Nat → Nat) (cI cZ cB cO : ClassId) (r_ad : Nat) (r_p : Nat → Nat) (rt_p : Nat → Nat) (r_done : Int32) (r_stopped : Int32) (r_due : Int32) (r_letter : Int32) (r_value : Int32) (r_figures : Int32) (r_seen : Int32) (rt_n : Int32) (rt_count : Int32) (rt_generators : (Nat → Int32)) (v1 : Int32) (o : Int32 × Int32 × Int32 × Int32 × Int32 × (Nat → Int32) × Int32) (h : f_X3_takesEnd r_done r_stopped r_due r_letter r_value rt_n rt_count rt_generators v1 = some o) (sz : Nat) : Met l yX3_takesEnd (xW yX3_takesEnd cX3_takesEnd 2 (some .boolean)) { frames := 2, cells := 0, slots := 0, locals := 46 } (xPre dC dI (xT cI cZ cB cO) [.ref r_ad, .int v1] ((wR cI cZ cB cO r_ad r_p r_done r_stopped r_due r_letter r_value r_figures r_seen) ++ (wS cI cZ cB cO (r_p 0) rt_p rt_n rt_count rt_generators)) sz) (xQi dC dI (xT cI cZ cB cO) o.2.2.2.2.2.2 ((wR cI cZ cB cO r_ad r_p r_done r_stopped r_due r_letter r_value r_figures r_seen) ++ (wS cI cZ cB cO (r_p 0) rt_p rt_n rt_count rt_generators)) ((wR cI cZ cB cO r_ad r_p o.1 o.2.1 o.2.2.1 r_letter r_value r_figures r_seen) ++ (wS cI cZ cB cO (r_p 0) rt_p o.2.2.2.1 o.2.2.2.2.1 o.2.2.2.2.2.1)) sz) 0 0 (va_A ((wR cI cZ cB cO r_ad r_p r_done r_stopped r_due r_letter r_value r_figures r_seen) ++ (wS cI cZ cB cO (r_p 0) rt_p rt_n rt_count rt_generators)) sz) := by
  refine x_met (by decide) (Nat.le_of_ble_eq_true rfl) ?_
  intro p e s m args below meth c R Q A hR hsz hA hQ hin C hw ls hl
  have hx := C.1
  have hb := C.2.1
  have hown := C.2.2.2.1
  have htb := C.2.2.2.2.1
  have hl : lv_has ls 2 [(0, .ref r_ad), (1, .int v1)] := hl
  refine lv_iload_n hx hb dX3_takesEnd_0 rfl (lv_at hl 1 rfl) ?_
  refine lv_bipush (v := (59 : Int32)) hx hb dX3_takesEnd_1 (by decide) ?_
  refine lv_icmp_eq (tgt := 8) hx hb dX3_takesEnd_3 (by decide) (fun b1 => ?_) (fun b1 => ?_)
  · replace h := xb_tt b1 h
    refine lv_aload_n hx hb dX3_takesEnd_8 rfl (lv_at hl 0 rfl) ?_
    obtain ⟨⟨rt_n_1, rt_count_2, rt_generators_3, r_4⟩, q2, h⟩ := xn_i h
    refine x_callVi (As := []) (rest := []) C hw gc_X3_72 ⟨rfl, rfl, ds_X3_obeys, (by rw [hR]; exact Nat.le_of_ble_eq_true rfl), (by rw [hR]; exact Nat.le_of_ble_eq_true rfl), Nat.zero_le _, Nat.zero_le _⟩ (c_X3_obeys l dC dI cI cZ cB cO r_ad r_p rt_p r_done r_stopped r_due r_letter r_value r_figures r_seen rt_n rt_count rt_generators _ q2 _) [0, 1, 2] [] (by decide) rfl rfl (by decide) (by decide) rfl rfl rfl hl.1 rfl (Nat.le_of_ble_eq_true rfl) dX3_takesEnd_9 (fun H locs hw => ?_)
    have hw : xWd (dC, dI) A s.heap H locs ((wR cI cZ cB cO r_ad r_p r_done r_stopped r_due r_letter r_value r_figures r_seen) ++ (wS cI cZ cB cO (r_p 0) rt_p rt_n_1 rt_count_2 rt_generators_3)) := hw
    obtain ⟨z, hj, h⟩ := xn_i h
    have k : ∀ (H : Heap) (locs : List Loc) (ls : Array Slot), xWd (dC, dI) A s.heap H locs ((wR cI cZ cB cO r_ad r_p r_done z r_due r_letter r_value r_figures r_seen) ++ (wS cI cZ cB cO (r_p 0) rt_p rt_n_1 rt_count_2 rt_generators_3)) → lv_has ls 2 [(0, .ref r_ad)] → W p l e R s m args below meth c H locs 0 0 Q (F0 m 31 ls []) := by
      obtain ⟨r_stopped_5, hz⟩ : ∃ q, q = z := ⟨z, rfl⟩
      subst hz
      intro H locs ls hw hl
      refine lv_aload_n hx hb dX3_takesEnd_31 rfl (lv_at hl 0 rfl) ?_
      refine lv_dup hx hb dX3_takesEnd_32 rfl ?_
      refine x_get (ci := 2) C hw inX3 rfl 1 (by decide) lkF_X3_18 rfl 0 rfl rfl dX3_takesEnd_33 ?_
      refine lv_iconst (v := (1 : Int32)) hx hb dX3_takesEnd_36 (by decide) ?_
      refine lv_iadd hx hb dX3_takesEnd_37 ?_
      refine x_put (ci := 2) C hw inX3 tyX3 tyX3_ok nmX3 rfl 1 (by decide) lkF_X3_18 rfl rfl 0 rfl rfl rfl (Nat.le_of_ble_eq_true rfl) dX3_takesEnd_38 (fun H locs hw => ?_)
      have hw : xWd (dC, dI) A s.heap H locs ((wR cI cZ cB cO r_ad r_p (r_done + (1 : Int32)) r_stopped_5 r_due r_letter r_value r_figures r_seen) ++ (wS cI cZ cB cO (r_p 0) rt_p rt_n_1 rt_count_2 rt_generators_3)) := hw
      refine lv_aload_n hx hb dX3_takesEnd_41 rfl (lv_at hl 0 rfl) ?_
      refine lv_iconst (v := (0 : Int32)) hx hb dX3_takesEnd_42 (by decide) ?_
      refine x_put (ci := 2) C hw inX3 tyX3 tyX3_ok nmX3 rfl 3 (by decide) lkF_X3_25 rfl rfl 0 rfl rfl rfl (Nat.le_of_ble_eq_true rfl) dX3_takesEnd_43 (fun H locs hw => ?_)
      have hw : xWd (dC, dI) A s.heap H locs ((wR cI cZ cB cO r_ad r_p (r_done + (1 : Int32)) r_stopped_5 (0 : Int32) r_letter r_value r_figures r_seen) ++ (wS cI cZ cB cO (r_p 0) rt_p rt_n_1 rt_count_2 rt_generators_3)) := hw
      refine lv_iconst (v := (1 : Int32)) hx hb dX3_takesEnd_46 (by decide) ?_
      obtain rfl := Option.some.inj h
      exact x_retz C hQ hA hw (by decide) dX3_takesEnd_47
    clear h
    have h := hj
    clear hj
    refine lv_if_ne (tgt := 31) hx hb dX3_takesEnd_12 (by decide) (fun b3 => ?_) (fun b3 => ?_)
    · replace h := xb_ff b3 h
      obtain rfl := Option.some.inj h
      exact k _ _ _ hw (lv_sub hl [0] rfl)
    · replace h := xb_tt b3 h
      refine lv_aload_n hx hb dX3_takesEnd_15 rfl (lv_at hl 0 rfl) ?_
      refine x_get (ci := 2) C hw inX3 rfl 2 (by decide) lkF_X3_22 rfl 0 rfl rfl dX3_takesEnd_16 ?_
      refine lv_iconst (v := (-1 : Int32)) hx hb dX3_takesEnd_19 (by decide) ?_
      refine lv_icmp_ne (tgt := 31) hx hb dX3_takesEnd_20 (by decide) (fun b4 => ?_) (fun b4 => ?_)
      · replace h := xb_ff b4 h
        obtain rfl := Option.some.inj h
        exact k _ _ _ hw (lv_sub hl [0] rfl)
      · replace h := xb_tt b4 h
        refine lv_aload_n hx hb dX3_takesEnd_23 rfl (lv_at hl 0 rfl) ?_
        refine lv_aload_n hx hb dX3_takesEnd_24 rfl (lv_at hl 0 rfl) ?_
        refine x_get (ci := 2) C hw inX3 rfl 1 (by decide) lkF_X3_18 rfl 0 rfl rfl dX3_takesEnd_25 ?_
        refine x_put (ci := 2) C hw inX3 tyX3 tyX3_ok nmX3 rfl 2 (by decide) lkF_X3_22 rfl rfl 0 rfl rfl rfl (Nat.le_of_ble_eq_true rfl) dX3_takesEnd_28 (fun H locs hw => ?_)
        have hw : xWd (dC, dI) A s.heap H locs ((wR cI cZ cB cO r_ad r_p r_done r_done r_due r_letter r_value r_figures r_seen) ++ (wS cI cZ cB cO (r_p 0) rt_p rt_n_1 rt_count_2 rt_generators_3)) := hw
        obtain rfl := Option.some.inj h
        exact k _ _ _ hw (lv_sub hl [0] rfl)
  · replace h := xb_ff b1 h
    refine lv_iconst (v := (0 : Int32)) hx hb dX3_takesEnd_6 (by decide) ?_
    obtain rfl := Option.some.inj h
    exact x_retz C hQ hA hw (by decide) dX3_takesEnd_7
noncomputable def f_X3_takes (r_done : Int32) (r_stopped : Int32) (r_due : Int32) (r_letter : Int32) (r_value : Int32) (r_figures : Int32) (r_seen : Int32) (rt_n : Int32) (rt_count : Int32) (rt_generators : (Nat → Int32)) (v1 : Int32) : Option (Int32 × Int32 × Int32 × Int32 × Int32 × Int32 × Int32 × Int32 × Int32 × (Nat → Int32) × Int32) := xb (r_due = (0 : Int32)) (xn (f_X3_takesLetter r_due r_letter r_value r_figures r_seen v1) (fun (z : Int32 × Int32 × Int32 × Int32 × Int32 × Int32) => match z with | (r_due_1, r_letter_2, r_value_3, r_figures_4, r_seen_5, r_6) => xk (r_6 = 0 ∨ r_6 = 1) (some (r_done, r_stopped, r_due_1, r_letter_2, r_value_3, r_figures_4, r_seen_5, rt_n, rt_count, rt_generators, r_6)))) (xb (r_due = (1 : Int32)) (xn (f_X3_takesFigure r_due r_letter r_value r_figures r_seen rt_n (v1 - (48 : Int32))) (fun (z : Int32 × Int32 × Int32 × Int32 × Int32) => match z with | (r_due_7, r_value_8, r_figures_9, r_seen_10, r_11) => xk (r_11 = 0 ∨ r_11 = 1) (some (r_done, r_stopped, r_due_7, r_letter, r_value_8, r_figures_9, r_seen_10, rt_n, rt_count, rt_generators, r_11)))) (xn (f_X3_takesEnd r_done r_stopped r_due r_letter r_value rt_n rt_count rt_generators v1) (fun (z : Int32 × Int32 × Int32 × Int32 × Int32 × (Nat → Int32) × Int32) => match z with | (r_done_12, r_stopped_13, r_due_14, rt_n_15, rt_count_16, rt_generators_17, r_18) => xk (r_18 = 0 ∨ r_18 = 1) (some (r_done_12, r_stopped_13, r_due_14, r_letter, r_value, r_figures, r_seen, rt_n_15, rt_count_16, rt_generators_17, r_18)))))
set_option maxHeartbeats 4000000 in
set_option maxRecDepth 100000 in
theorem c_X3_takes (l : Launch) (dC : Nat → ClassId) (dI : Nat → Nat → Nat) (cI cZ cB cO : ClassId) (r_ad : Nat) (r_p : Nat → Nat) (rt_p : Nat → Nat) (r_done : Int32) (r_stopped : Int32) (r_due : Int32) (r_letter : Int32) (r_value : Int32) (r_figures : Int32) (r_seen : Int32) (rt_n : Int32) (rt_count : Int32) (rt_generators : (Nat → Int32)) (v1 : Int32) (o : Int32 × Int32 × Int32 × Int32 × Int32 × Int32 × Int32 × Int32 × Int32 × (Nat → Int32) × Int32) (h : f_X3_takes r_done r_stopped r_due r_letter r_value r_figures r_seen rt_n rt_count rt_generators v1 = some o) (sz : Nat) : Met l yX3_takes (xW yX3_takes cX3_takes 2 (some .boolean)) { frames := 3, cells := 0, slots := 0, locals := 67 } (xPre dC dI (xT cI cZ cB cO) [.ref r_ad, .int v1] ((wR cI cZ cB cO r_ad r_p r_done r_stopped r_due r_letter r_value r_figures r_seen) ++ (wS cI cZ cB cO (r_p 0) rt_p rt_n rt_count rt_generators)) sz) (xQi dC dI (xT cI cZ cB cO) o.2.2.2.2.2.2.2.2.2.2 ((wR cI cZ cB cO r_ad r_p r_done r_stopped r_due r_letter r_value r_figures r_seen) ++ (wS cI cZ cB cO (r_p 0) rt_p rt_n rt_count rt_generators)) ((wR cI cZ cB cO r_ad r_p o.1 o.2.1 o.2.2.1 o.2.2.2.1 o.2.2.2.2.1 o.2.2.2.2.2.1 o.2.2.2.2.2.2.1) ++ (wS cI cZ cB cO (r_p 0) rt_p o.2.2.2.2.2.2.2.1 o.2.2.2.2.2.2.2.2.1 o.2.2.2.2.2.2.2.2.2.1)) sz) 0 0 (va_A ((wR cI cZ cB cO r_ad r_p r_done r_stopped r_due r_letter r_value r_figures r_seen) ++ (wS cI cZ cB cO (r_p 0) rt_p rt_n rt_count rt_generators)) sz) := by
  refine x_met (by decide) (Nat.le_of_ble_eq_true rfl) ?_
  intro p e s m args below meth c R Q A hR hsz hA hQ hin C hw ls hl
  have hx := C.1
  have hb := C.2.1
  have hown := C.2.2.2.1
  have htb := C.2.2.2.2.1
  have hl : lv_has ls 2 [(0, .ref r_ad), (1, .int v1)] := hl
  refine lv_aload_n hx hb dX3_takes_0 rfl (lv_at hl 0 rfl) ?_
  refine x_get (ci := 2) C hw inX3 rfl 3 (by decide) lkF_X3_25 rfl 0 rfl rfl dX3_takes_1 ?_
  rcases Classical.em (r_due = (0 : Int32)) with b1 | b1
  · replace h := xb_tt b1 h
    refine lv_lookup (off := 28) (tgt := 32) hx hb dX3_takes_4 (by decide) (by rw [b1]; rfl) (by decide) ?_
    refine lv_aload_n hx hb dX3_takes_32 rfl (lv_at hl 0 rfl) ?_
    refine lv_iload_n hx hb dX3_takes_33 rfl (lv_at hl 1 rfl) ?_
    obtain ⟨⟨r_due_1, r_letter_2, r_value_3, r_figures_4, r_seen_5, r_6⟩, q3, h⟩ := xn_i h
    refine x_callVi (As := [.int v1]) (rest := []) C hw gc_X3_57 ⟨rfl, rfl, ds_X3_takesLetter, (by rw [hR]; exact Nat.le_of_ble_eq_true rfl), (by rw [hR]; exact Nat.le_of_ble_eq_true rfl), Nat.zero_le _, Nat.zero_le _⟩ (c_X3_takesLetter l dC dI cI cZ cB cO r_ad r_p rt_p r_done r_stopped r_due r_letter r_value r_figures r_seen rt_n rt_count rt_generators v1 _ q3 _) [0, 1, 2] [] (by decide) rfl rfl (by decide) (by decide) rfl rfl rfl hl.1 rfl (Nat.le_of_ble_eq_true rfl) dX3_takes_34 (fun H locs hw => ?_)
    have hw : xWd (dC, dI) A s.heap H locs ((wR cI cZ cB cO r_ad r_p r_done r_stopped r_due_1 r_letter_2 r_value_3 r_figures_4 r_seen_5) ++ (wS cI cZ cB cO (r_p 0) rt_p rt_n rt_count rt_generators)) := hw
    obtain ⟨hz01, h⟩ := xk_i h
    obtain rfl := Option.some.inj h
    exact x_retz C hQ hA hw hz01 dX3_takes_37
  · replace h := xb_ff b1 h
    rcases Classical.em (r_due = (1 : Int32)) with b2 | b2
    · replace h := xb_tt b2 h
      refine lv_lookup (off := 34) (tgt := 38) hx hb dX3_takes_4 (by decide) ((lv_osw b1 (by decide)).trans (by rw [b2]; rfl)) (by decide) ?_
      refine lv_aload_n hx hb dX3_takes_38 rfl (lv_at hl 0 rfl) ?_
      refine lv_iload_n hx hb dX3_takes_39 rfl (lv_at hl 1 rfl) ?_
      refine lv_bipush (v := (48 : Int32)) hx hb dX3_takes_40 (by decide) ?_
      refine lv_isub hx hb dX3_takes_42 ?_
      obtain ⟨⟨r_due_7, r_value_8, r_figures_9, r_seen_10, r_11⟩, q4, h⟩ := xn_i h
      refine x_callVi (As := [.int (v1 - (48 : Int32))]) (rest := []) C hw gc_X3_60 ⟨rfl, rfl, ds_X3_takesFigure, (by rw [hR]; exact Nat.le_of_ble_eq_true rfl), (by rw [hR]; exact Nat.le_of_ble_eq_true rfl), Nat.zero_le _, Nat.zero_le _⟩ (c_X3_takesFigure l dC dI cI cZ cB cO r_ad r_p rt_p r_done r_stopped r_due r_letter r_value r_figures r_seen rt_n rt_count rt_generators (v1 - (48 : Int32)) _ q4 _) [0, 1, 2] [] (by decide) rfl rfl (by decide) (by decide) rfl rfl rfl hl.1 rfl (Nat.le_of_ble_eq_true rfl) dX3_takes_43 (fun H locs hw => ?_)
      have hw : xWd (dC, dI) A s.heap H locs ((wR cI cZ cB cO r_ad r_p r_done r_stopped r_due_7 r_letter r_value_8 r_figures_9 r_seen_10) ++ (wS cI cZ cB cO (r_p 0) rt_p rt_n rt_count rt_generators)) := hw
      obtain ⟨hz01, h⟩ := xk_i h
      obtain rfl := Option.some.inj h
      exact x_retz C hQ hA hw hz01 dX3_takes_46
    · replace h := xb_ff b2 h
      refine lv_lookup (off := 43) (tgt := 47) hx hb dX3_takes_4 (by decide) ((lv_osw b1 (by decide)).trans ((lv_osw b2 (by decide)).trans (rfl))) (by decide) ?_
      refine lv_aload_n hx hb dX3_takes_47 rfl (lv_at hl 0 rfl) ?_
      refine lv_iload_n hx hb dX3_takes_48 rfl (lv_at hl 1 rfl) ?_
      obtain ⟨⟨r_done_12, r_stopped_13, r_due_14, rt_n_15, rt_count_16, rt_generators_17, r_18⟩, q5, h⟩ := xn_i h
      refine x_callVi (As := [.int v1]) (rest := []) C hw gc_X3_63 ⟨rfl, rfl, ds_X3_takesEnd, (by rw [hR]; exact Nat.le_of_ble_eq_true rfl), (by rw [hR]; exact Nat.le_of_ble_eq_true rfl), Nat.zero_le _, Nat.zero_le _⟩ (c_X3_takesEnd l dC dI cI cZ cB cO r_ad r_p rt_p r_done r_stopped r_due r_letter r_value r_figures r_seen rt_n rt_count rt_generators v1 _ q5 _) [0, 1, 2] [] (by decide) rfl rfl (by decide) (by decide) rfl rfl rfl hl.1 rfl (Nat.le_of_ble_eq_true rfl) dX3_takes_49 (fun H locs hw => ?_)
      have hw : xWd (dC, dI) A s.heap H locs ((wR cI cZ cB cO r_ad r_p r_done_12 r_stopped_13 r_due_14 r_letter r_value r_figures r_seen) ++ (wS cI cZ cB cO (r_p 0) rt_p rt_n_15 rt_count_16 rt_generators_17)) := hw
      obtain ⟨hz01, h⟩ := xk_i h
      obtain rfl := Option.some.inj h
      exact x_retz C hQ hA hw hz01 dX3_takes_52
noncomputable def f_X3_read_L1 (t_length : Int32) (t_bytes : (Nat → Int32)) (z : Int32 × Int32 × Int32 × Int32 × Int32 × Int32 × Int32 × Int32 × Int32 × (Nat → Int32) × Int32) : Option ((Int32 × Int32 × Int32 × Int32 × Int32 × Int32 × Int32 × Int32 × Int32 × (Nat → Int32) × Int32) ⊕ ((Int32 × Int32 × Int32 × Int32 × Int32 × Int32 × Int32 × Int32 × Int32 × (Nat → Int32)) ⊕ (Int32 × Int32 × Int32 × Int32 × Int32 × Int32 × Int32 × Int32 × Int32 × (Nat → Int32) × Int32))) := match z with
  | (r_done_4, r_stopped_5, r_due_6, r_letter_7, r_value_8, r_figures_9, r_seen_10, rt_n_11, rt_count_12, rt_generators_13, v3_14) => xb (t_length ≤ v3_14) (some (.inr (.inl (r_done_4, r_stopped_5, r_due_6, r_letter_7, r_value_8, r_figures_9, r_seen_10, rt_n_11, rt_count_12, rt_generators_13)))) (xn (f_X6_at t_length t_bytes v3_14) (fun (r_25 : Int32) => xb (r_25 = (32 : Int32)) (some (.inl (r_done_4, r_stopped_5, r_due_6, r_letter_7, r_value_8, r_figures_9, r_seen_10, rt_n_11, rt_count_12, rt_generators_13, (v3_14 + (1 : Int32))))) (xn (f_X3_takes r_done_4 r_stopped_5 r_due_6 r_letter_7 r_value_8 r_figures_9 r_seen_10 rt_n_11 rt_count_12 rt_generators_13 r_25) (fun (z : Int32 × Int32 × Int32 × Int32 × Int32 × Int32 × Int32 × Int32 × Int32 × (Nat → Int32) × Int32) => match z with | (r_done_26, r_stopped_27, r_due_28, r_letter_29, r_value_30, r_figures_31, r_seen_32, rt_n_33, rt_count_34, rt_generators_35, r_36) => xb (r_36 = 0) (some (.inr (.inr (r_done_26, r_stopped_27, r_due_28, r_letter_29, r_value_30, r_figures_31, r_seen_32, rt_n_33, rt_count_34, rt_generators_35, v3_14)))) (some (.inl (r_done_26, r_stopped_27, r_due_28, r_letter_29, r_value_30, r_figures_31, r_seen_32, rt_n_33, rt_count_34, rt_generators_35, (v3_14 + (1 : Int32)))))))))
noncomputable def f_X3_read (r_done : Int32) (r_stopped : Int32) (r_due : Int32) (r_letter : Int32) (r_value : Int32) (r_figures : Int32) (r_seen : Int32) (rt_n : Int32) (rt_count : Int32) (rt_generators : (Nat → Int32)) (t_length : Int32) (t_bytes : (Nat → Int32)) (f_n : Int32) (f_count : Int32) (f_generators : (Nat → Int32)) : Option (Int32 × Int32 × Int32 × Int32 × Int32 × Int32 × Int32 × Int32 × Int32 × (Nat → Int32) × Int32) := xn (f_X4_copy rt_n rt_count rt_generators f_n f_count f_generators) (fun (z : Int32 × Int32 × (Nat → Int32)) => match z with | (rt_n_1, rt_count_2, rt_generators_3) => xn (xL (f_X3_read_L1 t_length t_bytes) ((0 : Int32), (-1 : Int32), (0 : Int32), r_letter, r_value, r_figures, r_seen, rt_n_1, rt_count_2, rt_generators_3, (0 : Int32))) (fun (x : (Int32 × Int32 × Int32 × Int32 × Int32 × Int32 × Int32 × Int32 × Int32 × (Nat → Int32)) ⊕ (Int32 × Int32 × Int32 × Int32 × Int32 × Int32 × Int32 × Int32 × Int32 × (Nat → Int32) × Int32)) => match x with | .inl z => (fun (z : Int32 × Int32 × Int32 × Int32 × Int32 × Int32 × Int32 × Int32 × Int32 × (Nat → Int32)) => match z with | (r_done_15, r_stopped_16, r_due_17, r_letter_18, r_value_19, r_figures_20, r_seen_21, rt_n_22, rt_count_23, rt_generators_24) => xb (r_done_15 ≤ 0) (some (r_done_15, r_stopped_16, r_due_17, r_letter_18, r_value_19, r_figures_20, r_seen_21, rt_n_22, rt_count_23, rt_generators_24, t_length)) (xb (r_due_17 = 0) (some (r_done_15, r_stopped_16, r_due_17, r_letter_18, r_value_19, r_figures_20, r_seen_21, rt_n_22, rt_count_23, rt_generators_24, (-1 : Int32))) (some (r_done_15, r_stopped_16, r_due_17, r_letter_18, r_value_19, r_figures_20, r_seen_21, rt_n_22, rt_count_23, rt_generators_24, t_length)))) z | .inr z => some z))
set_option maxHeartbeats 4000000 in
set_option maxRecDepth 100000 in
theorem c_X3_read (l : Launch) (dC : Nat → ClassId) (dI : Nat → Nat → Nat) (cI cZ cB cO : ClassId) (r_ad : Nat) (r_p : Nat → Nat) (rt_p : Nat → Nat) (t_ad : Nat) (t_p : Nat → Nat) (f_ad : Nat) (f_p : Nat → Nat) (r_done : Int32) (r_stopped : Int32) (r_due : Int32) (r_letter : Int32) (r_value : Int32) (r_figures : Int32) (r_seen : Int32) (rt_n : Int32) (rt_count : Int32) (rt_generators : (Nat → Int32)) (t_length : Int32) (t_bytes : (Nat → Int32)) (f_n : Int32) (f_count : Int32) (f_generators : (Nat → Int32)) (o : Int32 × Int32 × Int32 × Int32 × Int32 × Int32 × Int32 × Int32 × Int32 × (Nat → Int32) × Int32) (h : f_X3_read r_done r_stopped r_due r_letter r_value r_figures r_seen rt_n rt_count rt_generators t_length t_bytes f_n f_count f_generators = some o) (sz : Nat) : Met l yX3_read (xW yX3_read cX3_read 5 (some .int)) { frames := 4, cells := 0, slots := 0, locals := 88 } (xPre dC dI (xT cI cZ cB cO) [.ref r_ad, .ref t_ad, .ref f_ad] ((wR cI cZ cB cO r_ad r_p r_done r_stopped r_due r_letter r_value r_figures r_seen) ++ ((wS cI cZ cB cO (r_p 0) rt_p rt_n rt_count rt_generators) ++ ((wT cI cZ cB cO t_ad t_p t_length t_bytes) ++ (wS cI cZ cB cO f_ad f_p f_n f_count f_generators)))) sz) (xQi dC dI (xT cI cZ cB cO) o.2.2.2.2.2.2.2.2.2.2 ((wR cI cZ cB cO r_ad r_p r_done r_stopped r_due r_letter r_value r_figures r_seen) ++ ((wS cI cZ cB cO (r_p 0) rt_p rt_n rt_count rt_generators) ++ ((wT cI cZ cB cO t_ad t_p t_length t_bytes) ++ (wS cI cZ cB cO f_ad f_p f_n f_count f_generators)))) ((wR cI cZ cB cO r_ad r_p o.1 o.2.1 o.2.2.1 o.2.2.2.1 o.2.2.2.2.1 o.2.2.2.2.2.1 o.2.2.2.2.2.2.1) ++ ((wS cI cZ cB cO (r_p 0) rt_p o.2.2.2.2.2.2.2.1 o.2.2.2.2.2.2.2.2.1 o.2.2.2.2.2.2.2.2.2.1) ++ ((wT cI cZ cB cO t_ad t_p t_length t_bytes) ++ (wS cI cZ cB cO f_ad f_p f_n f_count f_generators)))) sz) 0 0 (va_A ((wR cI cZ cB cO r_ad r_p r_done r_stopped r_due r_letter r_value r_figures r_seen) ++ ((wS cI cZ cB cO (r_p 0) rt_p rt_n rt_count rt_generators) ++ ((wT cI cZ cB cO t_ad t_p t_length t_bytes) ++ (wS cI cZ cB cO f_ad f_p f_n f_count f_generators)))) sz) := by
  refine x_met (by decide) (Nat.le_of_ble_eq_true rfl) ?_
  intro p e s m args below meth c R Q A hR hsz hA hQ hin C hw ls hl
  have hx := C.1
  have hb := C.2.1
  have hown := C.2.2.2.1
  have htb := C.2.2.2.2.1
  have hl : lv_has ls 5 [(0, .ref r_ad), (1, .ref t_ad), (2, .ref f_ad)] := hl
  refine lv_aload_n hx hb dX3_read_0 rfl (lv_at hl 0 rfl) ?_
  refine x_get (ci := 2) C hw inX3 rfl 0 (by decide) lkF_X3_12 rfl 0 rfl rfl dX3_read_1 ?_
  refine lv_aload_n hx hb dX3_read_4 rfl (lv_at hl 2 rfl) ?_
  obtain ⟨⟨rt_n_1, rt_count_2, rt_generators_3⟩, q1, h⟩ := xn_i h
  refine x_callVv (As := [.ref f_ad]) (rest := []) C hw gc_X3_40 ⟨rfl, rfl, ds_X4_copy, (by rw [hR]; exact Nat.le_of_ble_eq_true rfl), (by rw [hR]; exact Nat.le_of_ble_eq_true rfl), Nat.zero_le _, Nat.zero_le _⟩ (c_X4_copy l dC dI cI cZ cB cO (r_p 0) rt_p f_ad f_p rt_n rt_count rt_generators f_n f_count f_generators _ q1 _) [1, 2, 5, 6] [0, 3, 4] (by decide) rfl rfl (by decide) (by decide) rfl rfl rfl hl.1 rfl (Nat.le_of_ble_eq_true rfl) dX3_read_5 (fun H locs hw => ?_)
  have hw : xWd (dC, dI) A s.heap H locs ((wR cI cZ cB cO r_ad r_p r_done r_stopped r_due r_letter r_value r_figures r_seen) ++ ((wS cI cZ cB cO (r_p 0) rt_p rt_n_1 rt_count_2 rt_generators_3) ++ ((wT cI cZ cB cO t_ad t_p t_length t_bytes) ++ (wS cI cZ cB cO f_ad f_p f_n f_count f_generators)))) := hw.sub [0, 3, 4, 1, 2, 5, 6] (by decide) rfl
  refine lv_aload_n hx hb dX3_read_8 rfl (lv_at hl 0 rfl) ?_
  refine lv_iconst (v := (0 : Int32)) hx hb dX3_read_9 (by decide) ?_
  refine x_put (ci := 2) C hw inX3 tyX3 tyX3_ok nmX3 rfl 1 (by decide) lkF_X3_18 rfl rfl 0 rfl rfl rfl (Nat.le_of_ble_eq_true rfl) dX3_read_10 (fun H locs hw => ?_)
  have hw : xWd (dC, dI) A s.heap H locs ((wR cI cZ cB cO r_ad r_p (0 : Int32) r_stopped r_due r_letter r_value r_figures r_seen) ++ ((wS cI cZ cB cO (r_p 0) rt_p rt_n_1 rt_count_2 rt_generators_3) ++ ((wT cI cZ cB cO t_ad t_p t_length t_bytes) ++ (wS cI cZ cB cO f_ad f_p f_n f_count f_generators)))) := hw
  refine lv_aload_n hx hb dX3_read_13 rfl (lv_at hl 0 rfl) ?_
  refine lv_iconst (v := (-1 : Int32)) hx hb dX3_read_14 (by decide) ?_
  refine x_put (ci := 2) C hw inX3 tyX3 tyX3_ok nmX3 rfl 2 (by decide) lkF_X3_22 rfl rfl 0 rfl rfl rfl (Nat.le_of_ble_eq_true rfl) dX3_read_15 (fun H locs hw => ?_)
  have hw : xWd (dC, dI) A s.heap H locs ((wR cI cZ cB cO r_ad r_p (0 : Int32) (-1 : Int32) r_due r_letter r_value r_figures r_seen) ++ ((wS cI cZ cB cO (r_p 0) rt_p rt_n_1 rt_count_2 rt_generators_3) ++ ((wT cI cZ cB cO t_ad t_p t_length t_bytes) ++ (wS cI cZ cB cO f_ad f_p f_n f_count f_generators)))) := hw
  refine lv_aload_n hx hb dX3_read_18 rfl (lv_at hl 0 rfl) ?_
  refine lv_iconst (v := (0 : Int32)) hx hb dX3_read_19 (by decide) ?_
  refine x_put (ci := 2) C hw inX3 tyX3 tyX3_ok nmX3 rfl 3 (by decide) lkF_X3_25 rfl rfl 0 rfl rfl rfl (Nat.le_of_ble_eq_true rfl) dX3_read_20 (fun H locs hw => ?_)
  have hw : xWd (dC, dI) A s.heap H locs ((wR cI cZ cB cO r_ad r_p (0 : Int32) (-1 : Int32) (0 : Int32) r_letter r_value r_figures r_seen) ++ ((wS cI cZ cB cO (r_p 0) rt_p rt_n_1 rt_count_2 rt_generators_3) ++ ((wT cI cZ cB cO t_ad t_p t_length t_bytes) ++ (wS cI cZ cB cO f_ad f_p f_n f_count f_generators)))) := hw
  refine lv_iconst (v := (0 : Int32)) hx hb dX3_read_23 (by decide) ?_
  refine lv_istore_n (lv' := [(3, .int (0 : Int32)), (0, .ref r_ad), (1, .ref t_ad), (2, .ref f_ad)]) hx hb dX3_read_24 rfl hl (by decide) rfl (fun ls hl => ?_)
  obtain ⟨z, hr, h⟩ := xn_i h
  refine xL_w (fun (z : Int32 × Int32 × Int32 × Int32 × Int32 × Int32 × Int32 × Int32 × Int32 × (Nat → Int32) × Int32) => ∀ (H : Heap) (locs : List Loc) (ls : Array Slot), xWd (dC, dI) A s.heap H locs ((wR cI cZ cB cO r_ad r_p z.1 z.2.1 z.2.2.1 z.2.2.2.1 z.2.2.2.2.1 z.2.2.2.2.2.1 z.2.2.2.2.2.2.1) ++ ((wS cI cZ cB cO (r_p 0) rt_p z.2.2.2.2.2.2.2.1 z.2.2.2.2.2.2.2.2.1 z.2.2.2.2.2.2.2.2.2.1) ++ ((wT cI cZ cB cO t_ad t_p t_length t_bytes) ++ (wS cI cZ cB cO f_ad f_p f_n f_count f_generators)))) → lv_has ls 5 [(0, .ref r_ad), (1, .ref t_ad), (3, .int z.2.2.2.2.2.2.2.2.2.2)] → W p l e R s m args below meth c H locs 0 0 Q (F0 m 25 ls [])) (Sum.elim (fun (z : Int32 × Int32 × Int32 × Int32 × Int32 × Int32 × Int32 × Int32 × Int32 × (Nat → Int32)) => ∀ (H : Heap) (locs : List Loc) (ls : Array Slot), xWd (dC, dI) A s.heap H locs ((wR cI cZ cB cO r_ad r_p z.1 z.2.1 z.2.2.1 z.2.2.2.1 z.2.2.2.2.1 z.2.2.2.2.2.1 z.2.2.2.2.2.2.1) ++ ((wS cI cZ cB cO (r_p 0) rt_p z.2.2.2.2.2.2.2.1 z.2.2.2.2.2.2.2.2.1 z.2.2.2.2.2.2.2.2.2) ++ ((wT cI cZ cB cO t_ad t_p t_length t_bytes) ++ (wS cI cZ cB cO f_ad f_p f_n f_count f_generators)))) → lv_has ls 5 [(0, .ref r_ad), (1, .ref t_ad)] → W p l e R s m args below meth c H locs 0 0 Q (F0 m 64 ls [])) (fun (z : Int32 × Int32 × Int32 × Int32 × Int32 × Int32 × Int32 × Int32 × Int32 × (Nat → Int32) × Int32) => ∀ (H : Heap) (locs : List Loc), xWd (dC, dI) A s.heap H locs ((wR cI cZ cB cO r_ad r_p z.1 z.2.1 z.2.2.1 z.2.2.2.1 z.2.2.2.2.1 z.2.2.2.2.2.1 z.2.2.2.2.2.2.1) ++ ((wS cI cZ cB cO (r_p 0) rt_p z.2.2.2.2.2.2.2.1 z.2.2.2.2.2.2.2.2.1 z.2.2.2.2.2.2.2.2.2.1) ++ ((wT cI cZ cB cO t_ad t_p t_length t_bytes) ++ (wS cI cZ cB cO f_ad f_p f_n f_count f_generators)))) → ∀ (pc : Nat) (ls : Array Slot), decode cX3_read pc = .ok (.ireturn, 1) → W p l e R s m args below meth c H locs 0 0 Q (F0 m pc ls [.int z.2.2.2.2.2.2.2.2.2.2]))) ?_ hr ?_ _ _ _ hw (lv_sub hl [1, 2, 0] rfl)
  · rintro ⟨r_done_4, r_stopped_5, r_due_6, r_letter_7, r_value_8, r_figures_9, r_seen_10, rt_n_11, rt_count_12, rt_generators_13, v3_14⟩ o h k H locs ls hw hl
    have hw : xWd (dC, dI) A s.heap H locs ((wR cI cZ cB cO r_ad r_p r_done_4 r_stopped_5 r_due_6 r_letter_7 r_value_8 r_figures_9 r_seen_10) ++ ((wS cI cZ cB cO (r_p 0) rt_p rt_n_11 rt_count_12 rt_generators_13) ++ ((wT cI cZ cB cO t_ad t_p t_length t_bytes) ++ (wS cI cZ cB cO f_ad f_p f_n f_count f_generators)))) := hw
    have hl : lv_has ls 5 [(0, .ref r_ad), (1, .ref t_ad), (3, .int v3_14)] := hl
    refine lv_iload_n hx hb dX3_read_25 rfl (lv_at hl 2 rfl) ?_
    refine lv_aload_n hx hb dX3_read_26 rfl (lv_at hl 1 rfl) ?_
    refine x_get (ci := 5) C hw inX6 rfl 0 (by decide) lkF_X3_44 rfl 3 rfl rfl dX3_read_27 ?_
    refine lv_icmp_ge (tgt := 64) hx hb dX3_read_30 (by decide) (fun b2 => ?_) (fun b2 => ?_)
    · replace h := xb_tt b2 h
      obtain rfl := Option.some.inj h
      exact k _ _ _ hw (lv_sub hl [0, 1] rfl)
    · replace h := xb_ff b2 h
      refine lv_aload_n hx hb dX3_read_33 rfl (lv_at hl 1 rfl) ?_
      refine lv_iload_n hx hb dX3_read_34 rfl (lv_at hl 2 rfl) ?_
      obtain ⟨r_25, q3, h⟩ := xn_i h
      refine x_callVi (As := [.int v3_14]) (rest := []) C hw gc_X3_49 ⟨rfl, rfl, ds_X6_at, (by rw [hR]; exact Nat.le_of_ble_eq_true rfl), (by rw [hR]; exact Nat.le_of_ble_eq_true rfl), Nat.zero_le _, Nat.zero_le _⟩ (c_X6_at l dC dI cI cZ cB cO t_ad t_p t_length t_bytes v3_14 _ q3 _) [3, 4] [0, 1, 2, 5, 6] (by decide) rfl rfl (by decide) (by decide) rfl rfl rfl hl.1 rfl (Nat.le_of_ble_eq_true rfl) dX3_read_35 (fun H locs hw => ?_)
      have hw : xWd (dC, dI) A s.heap H locs ((wR cI cZ cB cO r_ad r_p r_done_4 r_stopped_5 r_due_6 r_letter_7 r_value_8 r_figures_9 r_seen_10) ++ ((wS cI cZ cB cO (r_p 0) rt_p rt_n_11 rt_count_12 rt_generators_13) ++ ((wT cI cZ cB cO t_ad t_p t_length t_bytes) ++ (wS cI cZ cB cO f_ad f_p f_n f_count f_generators)))) := hw.sub [0, 1, 2, 5, 6, 3, 4] (by decide) rfl
      refine lv_istore (lv' := [(4, .int r_25), (0, .ref r_ad), (1, .ref t_ad), (3, .int v3_14)]) hx hb dX3_read_38 hl (by decide) rfl (fun ls hl => ?_)
      refine lv_iload hx hb dX3_read_40 (lv_at hl 0 rfl) ?_
      refine lv_bipush (v := (32 : Int32)) hx hb dX3_read_42 (by decide) ?_
      refine lv_icmp_eq (tgt := 58) hx hb dX3_read_44 (by decide) (fun b4 => ?_) (fun b4 => ?_)
      · replace h := xb_tt b4 h
        refine lv_iinc (v := (v3_14 + (1 : Int32))) (lv' := [(3, .int (v3_14 + (1 : Int32))), (4, .int r_25), (0, .ref r_ad), (1, .ref t_ad)]) hx hb dX3_read_58 hl (k := 3) rfl (congrArg (fun q => v3_14 + q) (by decide)) (by decide) rfl (fun ls hl => ?_)
        refine lv_goto (tgt := 25) hx hb dX3_read_61 (by decide) ?_
        obtain rfl := Option.some.inj h
        exact k _ _ _ hw (lv_sub hl [2, 3, 0] rfl)
      · replace h := xb_ff b4 h
        refine lv_aload_n hx hb dX3_read_47 rfl (lv_at hl 1 rfl) ?_
        refine lv_iload hx hb dX3_read_48 (lv_at hl 0 rfl) ?_
        obtain ⟨⟨r_done_26, r_stopped_27, r_due_28, r_letter_29, r_value_30, r_figures_31, r_seen_32, rt_n_33, rt_count_34, rt_generators_35, r_36⟩, q5, h⟩ := xn_i h
        refine x_callVi (As := [.int r_25]) (rest := []) C hw gc_X3_53 ⟨rfl, rfl, ds_X3_takes, (by rw [hR]; exact Nat.le_of_ble_eq_true rfl), (by rw [hR]; exact Nat.le_of_ble_eq_true rfl), Nat.zero_le _, Nat.zero_le _⟩ (c_X3_takes l dC dI cI cZ cB cO r_ad r_p rt_p r_done_4 r_stopped_5 r_due_6 r_letter_7 r_value_8 r_figures_9 r_seen_10 rt_n_11 rt_count_12 rt_generators_13 r_25 _ q5 _) [0, 1, 2] [3, 4, 5, 6] (by decide) rfl rfl (by decide) (by decide) rfl rfl rfl hl.1 rfl (Nat.le_of_ble_eq_true rfl) dX3_read_50 (fun H locs hw => ?_)
        have hw : xWd (dC, dI) A s.heap H locs ((wR cI cZ cB cO r_ad r_p r_done_26 r_stopped_27 r_due_28 r_letter_29 r_value_30 r_figures_31 r_seen_32) ++ ((wS cI cZ cB cO (r_p 0) rt_p rt_n_33 rt_count_34 rt_generators_35) ++ ((wT cI cZ cB cO t_ad t_p t_length t_bytes) ++ (wS cI cZ cB cO f_ad f_p f_n f_count f_generators)))) := hw.sub [4, 5, 6, 0, 1, 2, 3] (by decide) rfl
        refine lv_if_ne (tgt := 58) hx hb dX3_read_53 (by decide) (fun b6 => ?_) (fun b6 => ?_)
        · replace h := xb_ff b6 h
          refine lv_iinc (v := (v3_14 + (1 : Int32))) (lv' := [(3, .int (v3_14 + (1 : Int32))), (4, .int r_25), (0, .ref r_ad), (1, .ref t_ad)]) hx hb dX3_read_58 hl (k := 3) rfl (congrArg (fun q => v3_14 + q) (by decide)) (by decide) rfl (fun ls hl => ?_)
          refine lv_goto (tgt := 25) hx hb dX3_read_61 (by decide) ?_
          obtain rfl := Option.some.inj h
          exact k _ _ _ hw (lv_sub hl [2, 3, 0] rfl)
        · replace h := xb_tt b6 h
          refine lv_iload_n hx hb dX3_read_56 rfl (lv_at hl 3 rfl) ?_
          obtain rfl := Option.some.inj h
          exact k _ _ hw _ _ dX3_read_57
  · rcases z with z | z
    · obtain ⟨r_done_15, r_stopped_16, r_due_17, r_letter_18, r_value_19, r_figures_20, r_seen_21, rt_n_22, rt_count_23, rt_generators_24⟩ := z
      intro H locs ls hw hl
      have hw : xWd (dC, dI) A s.heap H locs ((wR cI cZ cB cO r_ad r_p r_done_15 r_stopped_16 r_due_17 r_letter_18 r_value_19 r_figures_20 r_seen_21) ++ ((wS cI cZ cB cO (r_p 0) rt_p rt_n_22 rt_count_23 rt_generators_24) ++ ((wT cI cZ cB cO t_ad t_p t_length t_bytes) ++ (wS cI cZ cB cO f_ad f_p f_n f_count f_generators)))) := hw
      have hl : lv_has ls 5 [(0, .ref r_ad), (1, .ref t_ad)] := hl
      refine lv_aload_n hx hb dX3_read_64 rfl (lv_at hl 0 rfl) ?_
      refine x_get (ci := 2) C hw inX3 rfl 1 (by decide) lkF_X3_18 rfl 0 rfl rfl dX3_read_65 ?_
      refine lv_if_le (tgt := 82) hx hb dX3_read_68 (by decide) (fun b7 => ?_) (fun b7 => ?_)
      · replace h := xb_tt b7 h
        refine lv_aload_n hx hb dX3_read_82 rfl (lv_at hl 1 rfl) ?_
        refine x_get (ci := 5) C hw inX6 rfl 0 (by decide) lkF_X3_44 rfl 3 rfl rfl dX3_read_83 ?_
        obtain rfl := Option.some.inj h
        exact x_reti C hQ hA hw dX3_read_86
      · replace h := xb_ff b7 h
        refine lv_aload_n hx hb dX3_read_71 rfl (lv_at hl 0 rfl) ?_
        refine x_get (ci := 2) C hw inX3 rfl 3 (by decide) lkF_X3_25 rfl 0 rfl rfl dX3_read_72 ?_
        refine lv_if_ne (tgt := 82) hx hb dX3_read_75 (by decide) (fun b8 => ?_) (fun b8 => ?_)
        · replace h := xb_ff b8 h
          refine lv_aload_n hx hb dX3_read_82 rfl (lv_at hl 1 rfl) ?_
          refine x_get (ci := 5) C hw inX6 rfl 0 (by decide) lkF_X3_44 rfl 3 rfl rfl dX3_read_83 ?_
          obtain rfl := Option.some.inj h
          exact x_reti C hQ hA hw dX3_read_86
        · replace h := xb_tt b8 h
          refine lv_iconst (v := (-1 : Int32)) hx hb dX3_read_78 (by decide) ?_
          refine lv_goto (tgt := 86) hx hb dX3_read_79 (by decide) ?_
          obtain rfl := Option.some.inj h
          exact x_reti C hQ hA hw dX3_read_86
    · obtain rfl := Option.some.inj h
      intro H locs hw pc ls hd
      exact x_reti C hQ hA hw hd
