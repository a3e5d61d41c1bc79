theorem dX1_howMany_0 : decode cX1_howMany 0 = .ok (.aload_n 0, 1) := by decide +kernel
theorem dX1_howMany_1 : decode cX1_howMany 1 = .ok (.getfield 25, 3) := by decide +kernel
theorem dX1_howMany_4 : decode cX1_howMany 4 = .ok (.iconst 0, 1) := by decide +kernel
theorem dX1_howMany_5 : decode cX1_howMany 5 = .ok (.iaload, 1) := by decide +kernel
theorem dX1_howMany_6 : decode cX1_howMany 6 = .ok (.ireturn, 1) := by decide +kernel
theorem dX1_chain_0 : decode cX1_chain 0 = .ok (.iload_n 1, 1) := by decide +kernel
theorem dX1_chain_1 : decode cX1_chain 1 = .ok (.ifCond .lt 18, 3) := by decide +kernel
theorem dX1_chain_4 : decode cX1_chain 4 = .ok (.iload_n 1, 1) := by decide +kernel
theorem dX1_chain_5 : decode cX1_chain 5 = .ok (.bipush 8, 2) := by decide +kernel
theorem dX1_chain_7 : decode cX1_chain 7 = .ok (.if_icmp .ge 12, 3) := by decide +kernel
theorem dX1_chain_10 : decode cX1_chain 10 = .ok (.aload_n 0, 1) := by decide +kernel
theorem dX1_chain_11 : decode cX1_chain 11 = .ok (.getfield 22, 3) := by decide +kernel
theorem dX1_chain_14 : decode cX1_chain 14 = .ok (.iload_n 1, 1) := by decide +kernel
theorem dX1_chain_15 : decode cX1_chain 15 = .ok (.iaload, 1) := by decide +kernel
theorem dX1_chain_16 : decode cX1_chain 16 = .ok (.goto 4, 3) := by decide +kernel
theorem dX1_chain_19 : decode cX1_chain 19 = .ok (.iconst 0, 1) := by decide +kernel
theorem dX1_chain_20 : decode cX1_chain 20 = .ok (.ireturn, 1) := by decide +kernel
theorem dX1_step_0 : decode cX1_step 0 = .ok (.aload_n 0, 1) := by decide +kernel
theorem dX1_step_1 : decode cX1_step 1 = .ok (.getfield 15, 3) := by decide +kernel
theorem dX1_step_4 : decode cX1_step 4 = .ok (.bipush 8, 2) := by decide +kernel
theorem dX1_step_6 : decode cX1_step 6 = .ok (.iload_n 1, 1) := by decide +kernel
theorem dX1_step_7 : decode cX1_step 7 = .ok (.bipush 7, 2) := by decide +kernel
theorem dX1_step_9 : decode cX1_step 9 = .ok (.iand, 1) := by decide +kernel
theorem dX1_step_10 : decode cX1_step 10 = .ok (.imul, 1) := by decide +kernel
theorem dX1_step_11 : decode cX1_step 11 = .ok (.iload_n 2, 1) := by decide +kernel
theorem dX1_step_12 : decode cX1_step 12 = .ok (.bipush 7, 2) := by decide +kernel
theorem dX1_step_14 : decode cX1_step 14 = .ok (.iand, 1) := by decide +kernel
theorem dX1_step_15 : decode cX1_step 15 = .ok (.iadd, 1) := by decide +kernel
theorem dX1_step_16 : decode cX1_step 16 = .ok (.iaload, 1) := by decide +kernel
theorem dX1_step_17 : decode cX1_step 17 = .ok (.ireturn, 1) := by decide +kernel
theorem dX1_addStep_0 : decode cX1_addStep 0 = .ok (.aload_n 0, 1) := by decide +kernel
theorem dX1_addStep_1 : decode cX1_addStep 1 = .ok (.getfield 34, 3) := by decide +kernel
theorem dX1_addStep_4 : decode cX1_addStep 4 = .ok (.bipush 28, 2) := by decide +kernel
theorem dX1_addStep_6 : decode cX1_addStep 6 = .ok (.if_icmp .ge 72, 3) := by decide +kernel
theorem dX1_addStep_9 : decode cX1_addStep 9 = .ok (.aload_n 0, 1) := by decide +kernel
theorem dX1_addStep_10 : decode cX1_addStep 10 = .ok (.getfield 22, 3) := by decide +kernel
theorem dX1_addStep_13 : decode cX1_addStep 13 = .ok (.iload_n 1, 1) := by decide +kernel
theorem dX1_addStep_14 : decode cX1_addStep 14 = .ok (.dup2, 1) := by decide +kernel
theorem dX1_addStep_15 : decode cX1_addStep 15 = .ok (.iaload, 1) := by decide +kernel
theorem dX1_addStep_16 : decode cX1_addStep 16 = .ok (.iconst 1, 1) := by decide +kernel
theorem dX1_addStep_17 : decode cX1_addStep 17 = .ok (.iload_n 2, 1) := by decide +kernel
theorem dX1_addStep_18 : decode cX1_addStep 18 = .ok (.ishl, 1) := by decide +kernel
theorem dX1_addStep_19 : decode cX1_addStep 19 = .ok (.ior, 1) := by decide +kernel
theorem dX1_addStep_20 : decode cX1_addStep 20 = .ok (.iastore, 1) := by decide +kernel
theorem dX1_addStep_21 : decode cX1_addStep 21 = .ok (.aload_n 0, 1) := by decide +kernel
theorem dX1_addStep_22 : decode cX1_addStep 22 = .ok (.getfield 15, 3) := by decide +kernel
theorem dX1_addStep_25 : decode cX1_addStep 25 = .ok (.bipush 8, 2) := by decide +kernel
theorem dX1_addStep_27 : decode cX1_addStep 27 = .ok (.iload_n 1, 1) := by decide +kernel
theorem dX1_addStep_28 : decode cX1_addStep 28 = .ok (.imul, 1) := by decide +kernel
theorem dX1_addStep_29 : decode cX1_addStep 29 = .ok (.iload_n 2, 1) := by decide +kernel
theorem dX1_addStep_30 : decode cX1_addStep 30 = .ok (.iadd, 1) := by decide +kernel
theorem dX1_addStep_31 : decode cX1_addStep 31 = .ok (.iload_n 3, 1) := by decide +kernel
theorem dX1_addStep_32 : decode cX1_addStep 32 = .ok (.iastore, 1) := by decide +kernel
theorem dX1_addStep_33 : decode cX1_addStep 33 = .ok (.aload_n 0, 1) := by decide +kernel
theorem dX1_addStep_34 : decode cX1_addStep 34 = .ok (.getfield 19, 3) := by decide +kernel
theorem dX1_addStep_37 : decode cX1_addStep 37 = .ok (.bipush 8, 2) := by decide +kernel
theorem dX1_addStep_39 : decode cX1_addStep 39 = .ok (.iload_n 1, 1) := by decide +kernel
theorem dX1_addStep_40 : decode cX1_addStep 40 = .ok (.imul, 1) := by decide +kernel
theorem dX1_addStep_41 : decode cX1_addStep 41 = .ok (.iload_n 2, 1) := by decide +kernel
theorem dX1_addStep_42 : decode cX1_addStep 42 = .ok (.iadd, 1) := by decide +kernel
theorem dX1_addStep_43 : decode cX1_addStep 43 = .ok (.iload_n 3, 1) := by decide +kernel
theorem dX1_addStep_44 : decode cX1_addStep 44 = .ok (.invokestatic 73, 3) := by decide +kernel
theorem dX1_addStep_47 : decode cX1_addStep 47 = .ok (.iastore, 1) := by decide +kernel
theorem dX1_addStep_48 : decode cX1_addStep 48 = .ok (.aload_n 0, 1) := by decide +kernel
theorem dX1_addStep_49 : decode cX1_addStep 49 = .ok (.getfield 28, 3) := by decide +kernel
theorem dX1_addStep_52 : decode cX1_addStep 52 = .ok (.aload_n 0, 1) := by decide +kernel
theorem dX1_addStep_53 : decode cX1_addStep 53 = .ok (.getfield 34, 3) := by decide +kernel
theorem dX1_addStep_56 : decode cX1_addStep 56 = .ok (.iload_n 3, 1) := by decide +kernel
theorem dX1_addStep_57 : decode cX1_addStep 57 = .ok (.iastore, 1) := by decide +kernel
theorem dX1_addStep_58 : decode cX1_addStep 58 = .ok (.aload_n 0, 1) := by decide +kernel
theorem dX1_addStep_59 : decode cX1_addStep 59 = .ok (.getfield 31, 3) := by decide +kernel
theorem dX1_addStep_62 : decode cX1_addStep 62 = .ok (.aload_n 0, 1) := by decide +kernel
theorem dX1_addStep_63 : decode cX1_addStep 63 = .ok (.getfield 34, 3) := by decide +kernel
theorem dX1_addStep_66 : decode cX1_addStep 66 = .ok (.iload_n 1, 1) := by decide +kernel
theorem dX1_addStep_67 : decode cX1_addStep 67 = .ok (.iastore, 1) := by decide +kernel
theorem dX1_addStep_68 : decode cX1_addStep 68 = .ok (.aload_n 0, 1) := by decide +kernel
theorem dX1_addStep_69 : decode cX1_addStep 69 = .ok (.dup, 1) := by decide +kernel
theorem dX1_addStep_70 : decode cX1_addStep 70 = .ok (.getfield 34, 3) := by decide +kernel
theorem dX1_addStep_73 : decode cX1_addStep 73 = .ok (.iconst 1, 1) := by decide +kernel
theorem dX1_addStep_74 : decode cX1_addStep 74 = .ok (.iadd, 1) := by decide +kernel
theorem dX1_addStep_75 : decode cX1_addStep 75 = .ok (.putfield 34, 3) := by decide +kernel
theorem dX1_addStep_78 : decode cX1_addStep 78 = .ok (.return_, 1) := by decide +kernel
theorem dX1_take_0 : decode cX1_take 0 = .ok (.iload_n 1, 1) := by decide +kernel
theorem dX1_take_1 : decode cX1_take 1 = .ok (.istore_n 2, 1) := by decide +kernel
theorem dX1_take_2 : decode cX1_take 2 = .ok (.iconst 0, 1) := by decide +kernel
theorem dX1_take_3 : decode cX1_take 3 = .ok (.istore_n 3, 1) := by decide +kernel
theorem dX1_take_4 : decode cX1_take 4 = .ok (.iload_n 3, 1) := by decide +kernel
theorem dX1_take_5 : decode cX1_take 5 = .ok (.bipush 8, 2) := by decide +kernel
theorem dX1_take_7 : decode cX1_take 7 = .ok (.if_icmp .ge 68, 3) := by decide +kernel
theorem dX1_take_10 : decode cX1_take 10 = .ok (.iload_n 2, 1) := by decide +kernel
theorem dX1_take_11 : decode cX1_take 11 = .ok (.ldc 42, 2) := by decide +kernel
theorem dX1_take_13 : decode cX1_take 13 = .ok (.if_icmp .eq 62, 3) := by decide +kernel
theorem dX1_take_16 : decode cX1_take 16 = .ok (.iload_n 2, 1) := by decide +kernel
theorem dX1_take_17 : decode cX1_take 17 = .ok (.iload_n 3, 1) := by decide +kernel
theorem dX1_take_18 : decode cX1_take 18 = .ok (.invokestatic 62, 3) := by decide +kernel
theorem dX1_take_21 : decode cX1_take 21 = .ok (.istore 4, 2) := by decide +kernel
theorem dX1_take_23 : decode cX1_take 23 = .ok (.aload_n 0, 1) := by decide +kernel
theorem dX1_take_24 : decode cX1_take 24 = .ok (.getfield 22, 3) := by decide +kernel
theorem dX1_take_27 : decode cX1_take 27 = .ok (.iload_n 3, 1) := by decide +kernel
theorem dX1_take_28 : decode cX1_take 28 = .ok (.iaload, 1) := by decide +kernel
theorem dX1_take_29 : decode cX1_take 29 = .ok (.iload 4, 2) := by decide +kernel
theorem dX1_take_31 : decode cX1_take 31 = .ok (.ishr, 1) := by decide +kernel
theorem dX1_take_32 : decode cX1_take 32 = .ok (.iconst 1, 1) := by decide +kernel
theorem dX1_take_33 : decode cX1_take 33 = .ok (.iand, 1) := by decide +kernel
theorem dX1_take_34 : decode cX1_take 34 = .ok (.ifCond .ne 12, 3) := by decide +kernel
theorem dX1_take_37 : decode cX1_take 37 = .ok (.aload_n 0, 1) := by decide +kernel
theorem dX1_take_38 : decode cX1_take 38 = .ok (.iload_n 3, 1) := by decide +kernel
theorem dX1_take_39 : decode cX1_take 39 = .ok (.iload 4, 2) := by decide +kernel
theorem dX1_take_41 : decode cX1_take 41 = .ok (.iload_n 2, 1) := by decide +kernel
theorem dX1_take_42 : decode cX1_take 42 = .ok (.invokevirtual 66, 3) := by decide +kernel
theorem dX1_take_45 : decode cX1_take 45 = .ok (.return_, 1) := by decide +kernel
theorem dX1_take_46 : decode cX1_take 46 = .ok (.iload 4, 2) := by decide +kernel
theorem dX1_take_48 : decode cX1_take 48 = .ok (.iload_n 3, 1) := by decide +kernel
theorem dX1_take_49 : decode cX1_take 49 = .ok (.if_icmp .eq 20, 3) := by decide +kernel
theorem dX1_take_52 : decode cX1_take 52 = .ok (.iload_n 2, 1) := by decide +kernel
theorem dX1_take_53 : decode cX1_take 53 = .ok (.aload_n 0, 1) := by decide +kernel
theorem dX1_take_54 : decode cX1_take 54 = .ok (.getfield 19, 3) := by decide +kernel
theorem dX1_take_57 : decode cX1_take 57 = .ok (.bipush 8, 2) := by decide +kernel
theorem dX1_take_59 : decode cX1_take 59 = .ok (.iload_n 3, 1) := by decide +kernel
theorem dX1_take_60 : decode cX1_take 60 = .ok (.imul, 1) := by decide +kernel
theorem dX1_take_61 : decode cX1_take 61 = .ok (.iload 4, 2) := by decide +kernel
theorem dX1_take_63 : decode cX1_take 63 = .ok (.iadd, 1) := by decide +kernel
theorem dX1_take_64 : decode cX1_take 64 = .ok (.iaload, 1) := by decide +kernel
theorem dX1_take_65 : decode cX1_take 65 = .ok (.invokestatic 70, 3) := by decide +kernel
theorem dX1_take_68 : decode cX1_take 68 = .ok (.istore_n 2, 1) := by decide +kernel
theorem dX1_take_69 : decode cX1_take 69 = .ok (.iinc 3 1, 3) := by decide +kernel
theorem dX1_take_72 : decode cX1_take 72 = .ok (.goto (-68), 3) := by decide +kernel
theorem dX1_take_75 : decode cX1_take 75 = .ok (.return_, 1) := by decide +kernel
theorem dX1_closeSteps_0 : decode cX1_closeSteps 0 = .ok (.iconst 0, 1) := by decide +kernel
theorem dX1_closeSteps_1 : decode cX1_closeSteps 1 = .ok (.istore_n 1, 1) := by decide +kernel
theorem dX1_closeSteps_2 : decode cX1_closeSteps 2 = .ok (.iload_n 1, 1) := by decide +kernel
theorem dX1_closeSteps_3 : decode cX1_closeSteps 3 = .ok (.aload_n 0, 1) := by decide +kernel
theorem dX1_closeSteps_4 : decode cX1_closeSteps 4 = .ok (.getfield 34, 3) := by decide +kernel
theorem dX1_closeSteps_7 : decode cX1_closeSteps 7 = .ok (.if_icmp .ge 96, 3) := by decide +kernel
theorem dX1_closeSteps_10 : decode cX1_closeSteps 10 = .ok (.iload_n 1, 1) := by decide +kernel
theorem dX1_closeSteps_11 : decode cX1_closeSteps 11 = .ok (.bipush 28, 2) := by decide +kernel
theorem dX1_closeSteps_13 : decode cX1_closeSteps 13 = .ok (.if_icmp .ge 90, 3) := by decide +kernel
theorem dX1_closeSteps_16 : decode cX1_closeSteps 16 = .ok (.iconst 0, 1) := by decide +kernel
theorem dX1_closeSteps_17 : decode cX1_closeSteps 17 = .ok (.istore_n 2, 1) := by decide +kernel
theorem dX1_closeSteps_18 : decode cX1_closeSteps 18 = .ok (.iload_n 2, 1) := by decide +kernel
theorem dX1_closeSteps_19 : decode cX1_closeSteps 19 = .ok (.iload_n 1, 1) := by decide +kernel
theorem dX1_closeSteps_20 : decode cX1_closeSteps 20 = .ok (.if_icmp .gt 77, 3) := by decide +kernel
theorem dX1_closeSteps_23 : decode cX1_closeSteps 23 = .ok (.aload_n 0, 1) := by decide +kernel
theorem dX1_closeSteps_24 : decode cX1_closeSteps 24 = .ok (.getfield 31, 3) := by decide +kernel
theorem dX1_closeSteps_27 : decode cX1_closeSteps 27 = .ok (.iload_n 2, 1) := by decide +kernel
theorem dX1_closeSteps_28 : decode cX1_closeSteps 28 = .ok (.iaload, 1) := by decide +kernel
theorem dX1_closeSteps_29 : decode cX1_closeSteps 29 = .ok (.aload_n 0, 1) := by decide +kernel
theorem dX1_closeSteps_30 : decode cX1_closeSteps 30 = .ok (.getfield 31, 3) := by decide +kernel
theorem dX1_closeSteps_33 : decode cX1_closeSteps 33 = .ok (.iload_n 1, 1) := by decide +kernel
theorem dX1_closeSteps_34 : decode cX1_closeSteps 34 = .ok (.iaload, 1) := by decide +kernel
theorem dX1_closeSteps_35 : decode cX1_closeSteps 35 = .ok (.if_icmp .gt 22, 3) := by decide +kernel
theorem dX1_closeSteps_38 : decode cX1_closeSteps 38 = .ok (.aload_n 0, 1) := by decide +kernel
theorem dX1_closeSteps_39 : decode cX1_closeSteps 39 = .ok (.aload_n 0, 1) := by decide +kernel
theorem dX1_closeSteps_40 : decode cX1_closeSteps 40 = .ok (.getfield 28, 3) := by decide +kernel
theorem dX1_closeSteps_43 : decode cX1_closeSteps 43 = .ok (.iload_n 2, 1) := by decide +kernel
theorem dX1_closeSteps_44 : decode cX1_closeSteps 44 = .ok (.iaload, 1) := by decide +kernel
theorem dX1_closeSteps_45 : decode cX1_closeSteps 45 = .ok (.aload_n 0, 1) := by decide +kernel
theorem dX1_closeSteps_46 : decode cX1_closeSteps 46 = .ok (.getfield 28, 3) := by decide +kernel
theorem dX1_closeSteps_49 : decode cX1_closeSteps 49 = .ok (.iload_n 1, 1) := by decide +kernel
theorem dX1_closeSteps_50 : decode cX1_closeSteps 50 = .ok (.iaload, 1) := by decide +kernel
theorem dX1_closeSteps_51 : decode cX1_closeSteps 51 = .ok (.invokestatic 70, 3) := by decide +kernel
theorem dX1_closeSteps_54 : decode cX1_closeSteps 54 = .ok (.invokevirtual 50, 3) := by decide +kernel
theorem dX1_closeSteps_57 : decode cX1_closeSteps 57 = .ok (.aload_n 0, 1) := by decide +kernel
theorem dX1_closeSteps_58 : decode cX1_closeSteps 58 = .ok (.getfield 31, 3) := by decide +kernel
theorem dX1_closeSteps_61 : decode cX1_closeSteps 61 = .ok (.iload_n 1, 1) := by decide +kernel
theorem dX1_closeSteps_62 : decode cX1_closeSteps 62 = .ok (.iaload, 1) := by decide +kernel
theorem dX1_closeSteps_63 : decode cX1_closeSteps 63 = .ok (.aload_n 0, 1) := by decide +kernel
theorem dX1_closeSteps_64 : decode cX1_closeSteps 64 = .ok (.getfield 31, 3) := by decide +kernel
theorem dX1_closeSteps_67 : decode cX1_closeSteps 67 = .ok (.iload_n 2, 1) := by decide +kernel
theorem dX1_closeSteps_68 : decode cX1_closeSteps 68 = .ok (.iaload, 1) := by decide +kernel
theorem dX1_closeSteps_69 : decode cX1_closeSteps 69 = .ok (.if_icmp .gt 22, 3) := by decide +kernel
theorem dX1_closeSteps_72 : decode cX1_closeSteps 72 = .ok (.aload_n 0, 1) := by decide +kernel
theorem dX1_closeSteps_73 : decode cX1_closeSteps 73 = .ok (.aload_n 0, 1) := by decide +kernel
theorem dX1_closeSteps_74 : decode cX1_closeSteps 74 = .ok (.getfield 28, 3) := by decide +kernel
theorem dX1_closeSteps_77 : decode cX1_closeSteps 77 = .ok (.iload_n 1, 1) := by decide +kernel
theorem dX1_closeSteps_78 : decode cX1_closeSteps 78 = .ok (.iaload, 1) := by decide +kernel
theorem dX1_closeSteps_79 : decode cX1_closeSteps 79 = .ok (.aload_n 0, 1) := by decide +kernel
theorem dX1_closeSteps_80 : decode cX1_closeSteps 80 = .ok (.getfield 28, 3) := by decide +kernel
theorem dX1_closeSteps_83 : decode cX1_closeSteps 83 = .ok (.iload_n 2, 1) := by decide +kernel
theorem dX1_closeSteps_84 : decode cX1_closeSteps 84 = .ok (.iaload, 1) := by decide +kernel
theorem dX1_closeSteps_85 : decode cX1_closeSteps 85 = .ok (.invokestatic 70, 3) := by decide +kernel
theorem dX1_closeSteps_88 : decode cX1_closeSteps 88 = .ok (.invokevirtual 50, 3) := by decide +kernel
theorem dX1_closeSteps_91 : decode cX1_closeSteps 91 = .ok (.iinc 2 1, 3) := by decide +kernel
theorem dX1_closeSteps_94 : decode cX1_closeSteps 94 = .ok (.goto (-76), 3) := by decide +kernel
theorem dX1_closeSteps_97 : decode cX1_closeSteps 97 = .ok (.iinc 1 1, 3) := by decide +kernel
theorem dX1_closeSteps_100 : decode cX1_closeSteps 100 = .ok (.goto (-98), 3) := by decide +kernel
theorem dX1_closeSteps_103 : decode cX1_closeSteps 103 = .ok (.return_, 1) := by decide +kernel
theorem dX1_make_0 : decode cX1_make 0 = .ok (.aload_n 0, 1) := by decide +kernel
theorem dX1_make_1 : decode cX1_make 1 = .ok (.aload_n 1, 1) := by decide +kernel
theorem dX1_make_2 : decode cX1_make 2 = .ok (.getfield 37, 3) := by decide +kernel
theorem dX1_make_5 : decode cX1_make 5 = .ok (.putfield 9, 3) := by decide +kernel
theorem dX1_make_8 : decode cX1_make 8 = .ok (.aload_n 0, 1) := by decide +kernel
theorem dX1_make_9 : decode cX1_make 9 = .ok (.iconst 0, 1) := by decide +kernel
theorem dX1_make_10 : decode cX1_make 10 = .ok (.putfield 34, 3) := by decide +kernel
theorem dX1_make_13 : decode cX1_make 13 = .ok (.iconst 0, 1) := by decide +kernel
theorem dX1_make_14 : decode cX1_make 14 = .ok (.istore_n 2, 1) := by decide +kernel
theorem dX1_make_15 : decode cX1_make 15 = .ok (.iload_n 2, 1) := by decide +kernel
theorem dX1_make_16 : decode cX1_make 16 = .ok (.bipush 8, 2) := by decide +kernel
theorem dX1_make_18 : decode cX1_make 18 = .ok (.if_icmp .ge 31, 3) := by decide +kernel
theorem dX1_make_21 : decode cX1_make 21 = .ok (.aload_n 0, 1) := by decide +kernel
theorem dX1_make_22 : decode cX1_make 22 = .ok (.getfield 22, 3) := by decide +kernel
theorem dX1_make_25 : decode cX1_make 25 = .ok (.iload_n 2, 1) := by decide +kernel
theorem dX1_make_26 : decode cX1_make 26 = .ok (.iconst 1, 1) := by decide +kernel
theorem dX1_make_27 : decode cX1_make 27 = .ok (.iload_n 2, 1) := by decide +kernel
theorem dX1_make_28 : decode cX1_make 28 = .ok (.ishl, 1) := by decide +kernel
theorem dX1_make_29 : decode cX1_make 29 = .ok (.iastore, 1) := by decide +kernel
theorem dX1_make_30 : decode cX1_make 30 = .ok (.aload_n 0, 1) := by decide +kernel
theorem dX1_make_31 : decode cX1_make 31 = .ok (.getfield 15, 3) := by decide +kernel
theorem dX1_make_34 : decode cX1_make 34 = .ok (.bipush 8, 2) := by decide +kernel
theorem dX1_make_36 : decode cX1_make 36 = .ok (.iload_n 2, 1) := by decide +kernel
theorem dX1_make_37 : decode cX1_make 37 = .ok (.imul, 1) := by decide +kernel
theorem dX1_make_38 : decode cX1_make 38 = .ok (.iload_n 2, 1) := by decide +kernel
theorem dX1_make_39 : decode cX1_make 39 = .ok (.iadd, 1) := by decide +kernel
theorem dX1_make_40 : decode cX1_make 40 = .ok (.ldc 42, 2) := by decide +kernel
theorem dX1_make_42 : decode cX1_make 42 = .ok (.iastore, 1) := by decide +kernel
theorem dX1_make_43 : decode cX1_make 43 = .ok (.iinc 2 1, 3) := by decide +kernel
theorem dX1_make_46 : decode cX1_make 46 = .ok (.goto (-31), 3) := by decide +kernel
theorem dX1_make_49 : decode cX1_make 49 = .ok (.iconst 0, 1) := by decide +kernel
theorem dX1_make_50 : decode cX1_make 50 = .ok (.istore_n 2, 1) := by decide +kernel
theorem dX1_make_51 : decode cX1_make 51 = .ok (.iload_n 2, 1) := by decide +kernel
theorem dX1_make_52 : decode cX1_make 52 = .ok (.aload_n 1, 1) := by decide +kernel
theorem dX1_make_53 : decode cX1_make 53 = .ok (.getfield 43, 3) := by decide +kernel
theorem dX1_make_56 : decode cX1_make 56 = .ok (.if_icmp .ge 18, 3) := by decide +kernel
theorem dX1_make_59 : decode cX1_make 59 = .ok (.aload_n 0, 1) := by decide +kernel
theorem dX1_make_60 : decode cX1_make 60 = .ok (.aload_n 1, 1) := by decide +kernel
theorem dX1_make_61 : decode cX1_make 61 = .ok (.iload_n 2, 1) := by decide +kernel
theorem dX1_make_62 : decode cX1_make 62 = .ok (.invokevirtual 46, 3) := by decide +kernel
theorem dX1_make_65 : decode cX1_make 65 = .ok (.invokevirtual 50, 3) := by decide +kernel
theorem dX1_make_68 : decode cX1_make 68 = .ok (.iinc 2 1, 3) := by decide +kernel
theorem dX1_make_71 : decode cX1_make 71 = .ok (.goto (-20), 3) := by decide +kernel
theorem dX1_make_74 : decode cX1_make 74 = .ok (.aload_n 0, 1) := by decide +kernel
theorem dX1_make_75 : decode cX1_make 75 = .ok (.invokevirtual 54, 3) := by decide +kernel
theorem dX1_make_78 : decode cX1_make 78 = .ok (.aload_n 0, 1) := by decide +kernel
theorem dX1_make_79 : decode cX1_make 79 = .ok (.getfield 25, 3) := by decide +kernel
theorem dX1_make_82 : decode cX1_make 82 = .ok (.bipush 8, 2) := by decide +kernel
theorem dX1_make_84 : decode cX1_make 84 = .ok (.iconst 1, 1) := by decide +kernel
theorem dX1_make_85 : decode cX1_make 85 = .ok (.iastore, 1) := by decide +kernel
theorem dX1_make_86 : decode cX1_make 86 = .ok (.bipush 7, 2) := by decide +kernel
theorem dX1_make_88 : decode cX1_make 88 = .ok (.istore_n 2, 1) := by decide +kernel
theorem dX1_make_89 : decode cX1_make 89 = .ok (.iload_n 2, 1) := by decide +kernel
theorem dX1_make_90 : decode cX1_make 90 = .ok (.ifCond .lt 33, 3) := by decide +kernel
theorem dX1_make_93 : decode cX1_make 93 = .ok (.aload_n 0, 1) := by decide +kernel
theorem dX1_make_94 : decode cX1_make 94 = .ok (.getfield 25, 3) := by decide +kernel
theorem dX1_make_97 : decode cX1_make 97 = .ok (.iload_n 2, 1) := by decide +kernel
theorem dX1_make_98 : decode cX1_make 98 = .ok (.aload_n 0, 1) := by decide +kernel
theorem dX1_make_99 : decode cX1_make 99 = .ok (.getfield 25, 3) := by decide +kernel
theorem dX1_make_102 : decode cX1_make 102 = .ok (.iload_n 2, 1) := by decide +kernel
theorem dX1_make_103 : decode cX1_make 103 = .ok (.iconst 1, 1) := by decide +kernel
theorem dX1_make_104 : decode cX1_make 104 = .ok (.iadd, 1) := by decide +kernel
theorem dX1_make_105 : decode cX1_make 105 = .ok (.iaload, 1) := by decide +kernel
theorem dX1_make_106 : decode cX1_make 106 = .ok (.aload_n 0, 1) := by decide +kernel
theorem dX1_make_107 : decode cX1_make 107 = .ok (.getfield 22, 3) := by decide +kernel
theorem dX1_make_110 : decode cX1_make 110 = .ok (.iload_n 2, 1) := by decide +kernel
theorem dX1_make_111 : decode cX1_make 111 = .ok (.iaload, 1) := by decide +kernel
theorem dX1_make_112 : decode cX1_make 112 = .ok (.invokestatic 57, 3) := by decide +kernel
theorem dX1_make_115 : decode cX1_make 115 = .ok (.imul, 1) := by decide +kernel
theorem dX1_make_116 : decode cX1_make 116 = .ok (.iastore, 1) := by decide +kernel
theorem dX1_make_117 : decode cX1_make 117 = .ok (.iinc 2 (-1), 3) := by decide +kernel
theorem dX1_make_120 : decode cX1_make 120 = .ok (.goto (-31), 3) := by decide +kernel
theorem dX1_make_123 : decode cX1_make 123 = .ok (.return_, 1) := by decide +kernel
theorem dX1_choices_0 : decode cX1_choices 0 = .ok (.aload_n 0, 1) := by decide +kernel
theorem dX1_choices_1 : decode cX1_choices 1 = .ok (.iload_n 2, 1) := by decide +kernel
theorem dX1_choices_2 : decode cX1_choices 2 = .ok (.invokevirtual 76, 3) := by decide +kernel
theorem dX1_choices_5 : decode cX1_choices 5 = .ok (.iload_n 1, 1) := by decide +kernel
theorem dX1_choices_6 : decode cX1_choices 6 = .ok (.invokestatic 79, 3) := by decide +kernel
theorem dX1_choices_9 : decode cX1_choices 9 = .ok (.ireturn, 1) := by decide +kernel
theorem dX1_goOn_0 : decode cX1_goOn 0 = .ok (.aload_n 0, 1) := by decide +kernel
theorem dX1_goOn_1 : decode cX1_goOn 1 = .ok (.iload_n 2, 1) := by decide +kernel
theorem dX1_goOn_2 : decode cX1_goOn 2 = .ok (.iload_n 1, 1) := by decide +kernel
theorem dX1_goOn_3 : decode cX1_goOn 3 = .ok (.invokestatic 73, 3) := by decide +kernel
theorem dX1_goOn_6 : decode cX1_goOn 6 = .ok (.iload_n 3, 1) := by decide +kernel
theorem dX1_goOn_7 : decode cX1_goOn 7 = .ok (.invokestatic 62, 3) := by decide +kernel
theorem dX1_goOn_10 : decode cX1_goOn 10 = .ok (.invokevirtual 82, 3) := by decide +kernel
theorem dX1_goOn_13 : decode cX1_goOn 13 = .ok (.iload_n 1, 1) := by decide +kernel
theorem dX1_goOn_14 : decode cX1_goOn 14 = .ok (.invokestatic 70, 3) := by decide +kernel
theorem dX1_goOn_17 : decode cX1_goOn 17 = .ok (.ireturn, 1) := by decide +kernel
theorem dX1_rank_0 : decode cX1_rank 0 = .ok (.ldc 42, 2) := by decide +kernel
theorem dX1_rank_2 : decode cX1_rank 2 = .ok (.istore_n 2, 1) := by decide +kernel
theorem dX1_rank_3 : decode cX1_rank 3 = .ok (.iconst 0, 1) := by decide +kernel
theorem dX1_rank_4 : decode cX1_rank 4 = .ok (.istore_n 3, 1) := by decide +kernel
theorem dX1_rank_5 : decode cX1_rank 5 = .ok (.iconst 0, 1) := by decide +kernel
theorem dX1_rank_6 : decode cX1_rank 6 = .ok (.istore 4, 2) := by decide +kernel
theorem dX1_rank_8 : decode cX1_rank 8 = .ok (.iload 4, 2) := by decide +kernel
theorem dX1_rank_10 : decode cX1_rank 10 = .ok (.aload_n 0, 1) := by decide +kernel
theorem dX1_rank_11 : decode cX1_rank 11 = .ok (.getfield 9, 3) := by decide +kernel
theorem dX1_rank_14 : decode cX1_rank 14 = .ok (.if_icmp .ge 80, 3) := by decide +kernel
theorem dX1_rank_17 : decode cX1_rank 17 = .ok (.iload 4, 2) := by decide +kernel
theorem dX1_rank_19 : decode cX1_rank 19 = .ok (.bipush 8, 2) := by decide +kernel
theorem dX1_rank_21 : decode cX1_rank 21 = .ok (.if_icmp .ge 73, 3) := by decide +kernel
theorem dX1_rank_24 : decode cX1_rank 24 = .ok (.iload_n 1, 1) := by decide +kernel
theorem dX1_rank_25 : decode cX1_rank 25 = .ok (.iload 4, 2) := by decide +kernel
theorem dX1_rank_27 : decode cX1_rank 27 = .ok (.invokestatic 62, 3) := by decide +kernel
theorem dX1_rank_30 : decode cX1_rank 30 = .ok (.istore 5, 2) := by decide +kernel
theorem dX1_rank_32 : decode cX1_rank 32 = .ok (.aload_n 0, 1) := by decide +kernel
theorem dX1_rank_33 : decode cX1_rank 33 = .ok (.iload_n 2, 1) := by decide +kernel
theorem dX1_rank_34 : decode cX1_rank 34 = .ok (.iload 4, 2) := by decide +kernel
theorem dX1_rank_36 : decode cX1_rank 36 = .ok (.invokevirtual 85, 3) := by decide +kernel
theorem dX1_rank_39 : decode cX1_rank 39 = .ok (.istore 6, 2) := by decide +kernel
theorem dX1_rank_41 : decode cX1_rank 41 = .ok (.iload 6, 2) := by decide +kernel
theorem dX1_rank_43 : decode cX1_rank 43 = .ok (.iload 5, 2) := by decide +kernel
theorem dX1_rank_45 : decode cX1_rank 45 = .ok (.ishr, 1) := by decide +kernel
theorem dX1_rank_46 : decode cX1_rank 46 = .ok (.iconst 1, 1) := by decide +kernel
theorem dX1_rank_47 : decode cX1_rank 47 = .ok (.iand, 1) := by decide +kernel
theorem dX1_rank_48 : decode cX1_rank 48 = .ok (.ifCond .ne 5, 3) := by decide +kernel
theorem dX1_rank_51 : decode cX1_rank 51 = .ok (.iconst (-1), 1) := by decide +kernel
theorem dX1_rank_52 : decode cX1_rank 52 = .ok (.ireturn, 1) := by decide +kernel
theorem dX1_rank_53 : decode cX1_rank 53 = .ok (.iload_n 3, 1) := by decide +kernel
theorem dX1_rank_54 : decode cX1_rank 54 = .ok (.iload 6, 2) := by decide +kernel
theorem dX1_rank_56 : decode cX1_rank 56 = .ok (.iconst 1, 1) := by decide +kernel
theorem dX1_rank_57 : decode cX1_rank 57 = .ok (.iload 5, 2) := by decide +kernel
theorem dX1_rank_59 : decode cX1_rank 59 = .ok (.ishl, 1) := by decide +kernel
theorem dX1_rank_60 : decode cX1_rank 60 = .ok (.iconst 1, 1) := by decide +kernel
theorem dX1_rank_61 : decode cX1_rank 61 = .ok (.isub, 1) := by decide +kernel
theorem dX1_rank_62 : decode cX1_rank 62 = .ok (.iand, 1) := by decide +kernel
theorem dX1_rank_63 : decode cX1_rank 63 = .ok (.invokestatic 57, 3) := by decide +kernel
theorem dX1_rank_66 : decode cX1_rank 66 = .ok (.aload_n 0, 1) := by decide +kernel
theorem dX1_rank_67 : decode cX1_rank 67 = .ok (.getfield 25, 3) := by decide +kernel
theorem dX1_rank_70 : decode cX1_rank 70 = .ok (.iload 4, 2) := by decide +kernel
theorem dX1_rank_72 : decode cX1_rank 72 = .ok (.iconst 1, 1) := by decide +kernel
theorem dX1_rank_73 : decode cX1_rank 73 = .ok (.iadd, 1) := by decide +kernel
theorem dX1_rank_74 : decode cX1_rank 74 = .ok (.iaload, 1) := by decide +kernel
theorem dX1_rank_75 : decode cX1_rank 75 = .ok (.imul, 1) := by decide +kernel
theorem dX1_rank_76 : decode cX1_rank 76 = .ok (.iadd, 1) := by decide +kernel
theorem dX1_rank_77 : decode cX1_rank 77 = .ok (.istore_n 3, 1) := by decide +kernel
theorem dX1_rank_78 : decode cX1_rank 78 = .ok (.aload_n 0, 1) := by decide +kernel
theorem dX1_rank_79 : decode cX1_rank 79 = .ok (.iload_n 2, 1) := by decide +kernel
theorem dX1_rank_80 : decode cX1_rank 80 = .ok (.iload 4, 2) := by decide +kernel
theorem dX1_rank_82 : decode cX1_rank 82 = .ok (.iload 5, 2) := by decide +kernel
theorem dX1_rank_84 : decode cX1_rank 84 = .ok (.invokevirtual 88, 3) := by decide +kernel
theorem dX1_rank_87 : decode cX1_rank 87 = .ok (.istore_n 2, 1) := by decide +kernel
theorem dX1_rank_88 : decode cX1_rank 88 = .ok (.iinc 4 1, 3) := by decide +kernel
theorem dX1_rank_91 : decode cX1_rank 91 = .ok (.goto (-83), 3) := by decide +kernel
theorem dX1_rank_94 : decode cX1_rank 94 = .ok (.iload_n 3, 1) := by decide +kernel
theorem dX1_rank_95 : decode cX1_rank 95 = .ok (.ireturn, 1) := by decide +kernel
theorem dX1_withRank_0 : decode cX1_withRank 0 = .ok (.ldc 42, 2) := by decide +kernel
theorem dX1_withRank_2 : decode cX1_withRank 2 = .ok (.istore_n 2, 1) := by decide +kernel
theorem dX1_withRank_3 : decode cX1_withRank 3 = .ok (.iload_n 1, 1) := by decide +kernel
theorem dX1_withRank_4 : decode cX1_withRank 4 = .ok (.istore_n 3, 1) := by decide +kernel
theorem dX1_withRank_5 : decode cX1_withRank 5 = .ok (.iconst 0, 1) := by decide +kernel
theorem dX1_withRank_6 : decode cX1_withRank 6 = .ok (.istore 4, 2) := by decide +kernel
theorem dX1_withRank_8 : decode cX1_withRank 8 = .ok (.iload 4, 2) := by decide +kernel
theorem dX1_withRank_10 : decode cX1_withRank 10 = .ok (.aload_n 0, 1) := by decide +kernel
theorem dX1_withRank_11 : decode cX1_withRank 11 = .ok (.getfield 9, 3) := by decide +kernel
theorem dX1_withRank_14 : decode cX1_withRank 14 = .ok (.if_icmp .ge 94, 3) := by decide +kernel
theorem dX1_withRank_17 : decode cX1_withRank 17 = .ok (.iload 4, 2) := by decide +kernel
theorem dX1_withRank_19 : decode cX1_withRank 19 = .ok (.bipush 8, 2) := by decide +kernel
theorem dX1_withRank_21 : decode cX1_withRank 21 = .ok (.if_icmp .ge 87, 3) := by decide +kernel
theorem dX1_withRank_24 : decode cX1_withRank 24 = .ok (.aload_n 0, 1) := by decide +kernel
theorem dX1_withRank_25 : decode cX1_withRank 25 = .ok (.iload_n 2, 1) := by decide +kernel
theorem dX1_withRank_26 : decode cX1_withRank 26 = .ok (.iload 4, 2) := by decide +kernel
theorem dX1_withRank_28 : decode cX1_withRank 28 = .ok (.invokevirtual 85, 3) := by decide +kernel
theorem dX1_withRank_31 : decode cX1_withRank 31 = .ok (.istore 5, 2) := by decide +kernel
theorem dX1_withRank_33 : decode cX1_withRank 33 = .ok (.iconst 0, 1) := by decide +kernel
theorem dX1_withRank_34 : decode cX1_withRank 34 = .ok (.istore 6, 2) := by decide +kernel
theorem dX1_withRank_36 : decode cX1_withRank 36 = .ok (.iload 6, 2) := by decide +kernel
theorem dX1_withRank_38 : decode cX1_withRank 38 = .ok (.bipush 7, 2) := by decide +kernel
theorem dX1_withRank_40 : decode cX1_withRank 40 = .ok (.if_icmp .ge 52, 3) := by decide +kernel
theorem dX1_withRank_43 : decode cX1_withRank 43 = .ok (.iload 5, 2) := by decide +kernel
theorem dX1_withRank_45 : decode cX1_withRank 45 = .ok (.iload 6, 2) := by decide +kernel
theorem dX1_withRank_47 : decode cX1_withRank 47 = .ok (.ishr, 1) := by decide +kernel
theorem dX1_withRank_48 : decode cX1_withRank 48 = .ok (.iconst 1, 1) := by decide +kernel
theorem dX1_withRank_49 : decode cX1_withRank 49 = .ok (.iand, 1) := by decide +kernel
theorem dX1_withRank_50 : decode cX1_withRank 50 = .ok (.ifCond .eq 16, 3) := by decide +kernel
theorem dX1_withRank_53 : decode cX1_withRank 53 = .ok (.iload_n 3, 1) := by decide +kernel
theorem dX1_withRank_54 : decode cX1_withRank 54 = .ok (.aload_n 0, 1) := by decide +kernel
theorem dX1_withRank_55 : decode cX1_withRank 55 = .ok (.getfield 25, 3) := by decide +kernel
theorem dX1_withRank_58 : decode cX1_withRank 58 = .ok (.iload 4, 2) := by decide +kernel
theorem dX1_withRank_60 : decode cX1_withRank 60 = .ok (.iconst 1, 1) := by decide +kernel
theorem dX1_withRank_61 : decode cX1_withRank 61 = .ok (.iadd, 1) := by decide +kernel
theorem dX1_withRank_62 : decode cX1_withRank 62 = .ok (.iaload, 1) := by decide +kernel
theorem dX1_withRank_63 : decode cX1_withRank 63 = .ok (.if_icmp .lt 29, 3) := by decide +kernel
theorem dX1_withRank_66 : decode cX1_withRank 66 = .ok (.iload_n 3, 1) := by decide +kernel
theorem dX1_withRank_67 : decode cX1_withRank 67 = .ok (.iload 5, 2) := by decide +kernel
theorem dX1_withRank_69 : decode cX1_withRank 69 = .ok (.iload 6, 2) := by decide +kernel
theorem dX1_withRank_71 : decode cX1_withRank 71 = .ok (.ishr, 1) := by decide +kernel
theorem dX1_withRank_72 : decode cX1_withRank 72 = .ok (.iconst 1, 1) := by decide +kernel
theorem dX1_withRank_73 : decode cX1_withRank 73 = .ok (.iand, 1) := by decide +kernel
theorem dX1_withRank_74 : decode cX1_withRank 74 = .ok (.aload_n 0, 1) := by decide +kernel
theorem dX1_withRank_75 : decode cX1_withRank 75 = .ok (.getfield 25, 3) := by decide +kernel
theorem dX1_withRank_78 : decode cX1_withRank 78 = .ok (.iload 4, 2) := by decide +kernel
theorem dX1_withRank_80 : decode cX1_withRank 80 = .ok (.iconst 1, 1) := by decide +kernel
theorem dX1_withRank_81 : decode cX1_withRank 81 = .ok (.iadd, 1) := by decide +kernel
theorem dX1_withRank_82 : decode cX1_withRank 82 = .ok (.iaload, 1) := by decide +kernel
theorem dX1_withRank_83 : decode cX1_withRank 83 = .ok (.imul, 1) := by decide +kernel
theorem dX1_withRank_84 : decode cX1_withRank 84 = .ok (.isub, 1) := by decide +kernel
theorem dX1_withRank_85 : decode cX1_withRank 85 = .ok (.istore_n 3, 1) := by decide +kernel
theorem dX1_withRank_86 : decode cX1_withRank 86 = .ok (.iinc 6 1, 3) := by decide +kernel
theorem dX1_withRank_89 : decode cX1_withRank 89 = .ok (.goto (-53), 3) := by decide +kernel
theorem dX1_withRank_92 : decode cX1_withRank 92 = .ok (.aload_n 0, 1) := by decide +kernel
theorem dX1_withRank_93 : decode cX1_withRank 93 = .ok (.iload_n 2, 1) := by decide +kernel
theorem dX1_withRank_94 : decode cX1_withRank 94 = .ok (.iload 4, 2) := by decide +kernel
theorem dX1_withRank_96 : decode cX1_withRank 96 = .ok (.iload 6, 2) := by decide +kernel
theorem dX1_withRank_98 : decode cX1_withRank 98 = .ok (.invokevirtual 88, 3) := by decide +kernel
theorem dX1_withRank_101 : decode cX1_withRank 101 = .ok (.istore_n 2, 1) := by decide +kernel
theorem dX1_withRank_102 : decode cX1_withRank 102 = .ok (.iinc 4 1, 3) := by decide +kernel
theorem dX1_withRank_105 : decode cX1_withRank 105 = .ok (.goto (-97), 3) := by decide +kernel
theorem dX1_withRank_108 : decode cX1_withRank 108 = .ok (.iload_n 2, 1) := by decide +kernel
theorem dX1_withRank_109 : decode cX1_withRank 109 = .ok (.ireturn, 1) := by decide +kernel
theorem gc_X1_73 : GoodIn xtb (va_wsS RX1 73 yX2_inverse (xW yX2_inverse cX2_inverse 3 (some .int))) := x_goodS lkM_X1_73 wT_X2_inverse wN_X2 wC_X2_inverse
theorem gc_X1_62 : GoodIn xtb (va_wsS RX1 62 yX2_at (xW yX2_at cX2_at 2 (some .int))) := x_goodS lkM_X1_62 wT_X2_at wN_X2 wC_X2_at
theorem gc_X1_66 : GoodIn xtb (wsV RX1 66 yX1_addStep.cls yX1_addStep (xW yX1_addStep cX1_addStep 4 none)) := x_good lkM_X1_66 wI_X1_addStep wS_X1_addStep wN_X1 wC_X1_addStep
theorem gc_X1_70 : GoodIn xtb (va_wsS RX1 70 yX2_then (xW yX2_then cX2_then 4 (some .int))) := x_goodS lkM_X1_70 wT_X2_then wN_X2 wC_X2_then
theorem gc_X1_50 : GoodIn xtb (wsV RX1 50 yX1_take.cls yX1_take (xW yX1_take cX1_take 5 none)) := x_good lkM_X1_50 wI_X1_take wS_X1_take wN_X1 wC_X1_take
theorem gc_X1_46 : GoodIn xtb (wsV RX1 46 yX4_generator.cls yX4_generator (xW yX4_generator cX4_generator 2 (some .int))) := x_good lkM_X1_46 wI_X4_generator wS_X4_generator wN_X4 wC_X4_generator
theorem gc_X1_54 : GoodIn xtb (wsV RX1 54 yX1_closeSteps.cls yX1_closeSteps (xW yX1_closeSteps cX1_closeSteps 3 none)) := x_good lkM_X1_54 wI_X1_closeSteps wS_X1_closeSteps wN_X1 wC_X1_closeSteps
theorem gc_X1_57 : GoodIn xtb (va_wsS RX1 57 yJ6_bitCount_0f7a4 (xW yJ6_bitCount_0f7a4 cJ6_bitCount_0f7a4 1 (some .int))) := x_goodS lkM_X1_57 wT_J6_bitCount_0f7a4 wN_J6 wC_J6_bitCount_0f7a4
theorem gc_X1_76 : GoodIn xtb (wsV RX1 76 yX1_chain.cls yX1_chain (xW yX1_chain cX1_chain 2 (some .int))) := x_good lkM_X1_76 wI_X1_chain wS_X1_chain wN_X1 wC_X1_chain
theorem gc_X1_79 : GoodIn xtb (va_wsS RX1 79 yX2_carry (xW yX2_carry cX2_carry 5 (some .int))) := x_goodS lkM_X1_79 wT_X2_carry wN_X2 wC_X2_carry
theorem gc_X1_82 : GoodIn xtb (wsV RX1 82 yX1_step.cls yX1_step (xW yX1_step cX1_step 3 (some .int))) := x_good lkM_X1_82 wI_X1_step wS_X1_step wN_X1 wC_X1_step
theorem gc_X1_85 : GoodIn xtb (wsV RX1 85 yX1_choices.cls yX1_choices (xW yX1_choices cX1_choices 3 (some .int))) := x_good lkM_X1_85 wI_X1_choices wS_X1_choices wN_X1 wC_X1_choices
theorem gc_X1_88 : GoodIn xtb (wsV RX1 88 yX1_goOn.cls yX1_goOn (xW yX1_goOn cX1_goOn 4 (some .int))) := x_good lkM_X1_88 wI_X1_goOn wS_X1_goOn wN_X1 wC_X1_goOn
theorem ds_X1_howMany : xDs yX1_howMany 0 := by decide +kernel
theorem ds_X1_chain : xDs yX1_chain 1 := by decide +kernel
theorem ds_X1_step : xDs yX1_step 2 := by decide +kernel
theorem ds_X1_addStep : xDs yX1_addStep 3 := by decide +kernel
theorem ds_X1_take : xDs yX1_take 1 := by decide +kernel
theorem ds_X1_closeSteps : xDs yX1_closeSteps 0 := by decide +kernel
theorem ds_X1_make : xDs yX1_make 1 := by decide +kernel
theorem ds_X1_choices : xDs yX1_choices 2 := by decide +kernel
theorem ds_X1_goOn : xDs yX1_goOn 3 := by decide +kernel
theorem ds_X1_rank : xDs yX1_rank 1 := by decide +kernel
theorem ds_X1_withRank : xDs yX1_withRank 1 := by decide +kernel
noncomputable def f_X1_howMany (e_leaving : (Nat → Int32)) : Option (Int32) := some (e_leaving 0)
set_option maxHeartbeats 4000000 in
set_option maxRecDepth 100000 in
theorem c_X1_howMany (l : Launch) (dC : Nat → ClassId) (dI : Nat → Nat → Nat) (cI cZ cB cO : ClassId) (e_ad : Nat) (e_p : Nat → Nat) (e_n : Int32) (e_steps : (Nat → Int32)) (e_undoing : (Nat → Int32)) (e_chains : (Nat → Int32)) (e_leaving : (Nat → Int32)) (e_found : (Nat → Int32)) (e_foundAt : (Nat → Int32)) (e_foundCount : Int32) (o : Int32) (h : f_X1_howMany e_leaving = some o) (sz : Nat) : Met l yX1_howMany (xW yX1_howMany cX1_howMany 1 (some .int)) { frames := 0, cells := 0, slots := 0, locals := 0 } (xPre dC dI (xT cI cZ cB cO) [.ref e_ad] (wE cI cZ cB cO e_ad e_p e_n e_steps e_undoing e_chains e_leaving e_found e_foundAt e_foundCount) sz) (xQi dC dI (xT cI cZ cB cO) o (wE cI cZ cB cO e_ad e_p e_n e_steps e_undoing e_chains e_leaving e_found e_foundAt e_foundCount) (wE cI cZ cB cO e_ad e_p e_n e_steps e_undoing e_chains e_leaving e_found e_foundAt e_foundCount) sz) 0 0 (va_A (wE cI cZ cB cO e_ad e_p e_n e_steps e_undoing e_chains e_leaving e_found e_foundAt e_foundCount) sz) := by
  refine x_met (by decide) (Nat.le_of_ble_eq_true rfl) ?_
  intro p e s m args below meth c R Q A hR hsz hA hQ hin C hw ls hl
  have hx := C.1
  have hb := C.2.1
  have hown := C.2.2.2.1
  have htb := C.2.2.2.2.1
  have hl : lv_has ls 1 [(0, .ref e_ad)] := hl
  refine lv_aload_n hx hb dX1_howMany_0 rfl (lv_at hl 0 rfl) ?_
  refine x_get (ci := 1) C hw inX1 rfl 4 (by decide) lkF_X1_25 rfl 0 rfl rfl dX1_howMany_1 ?_
  refine lv_iconst (v := (0 : Int32)) hx hb dX1_howMany_4 (by decide) ?_
  refine x_ialk C hw 4 0 rfl rfl (k := 0) (by decide) (vp_in_iff.mpr (by decide)) dX1_howMany_5 ?_
  obtain rfl := Option.some.inj h
  exact x_reti C hQ hA hw dX1_howMany_6
noncomputable def f_X1_chain (e_chains : (Nat → Int32)) (v1 : Int32) : Option (Int32) := xb (v1 < 0) (some (0 : Int32)) (xb ((8 : Int32) ≤ v1) (some (0 : Int32)) (xk (vp_in v1 8) (some (e_chains v1.toNatClampNeg))))
set_option maxHeartbeats 4000000 in
set_option maxRecDepth 100000 in
theorem c_X1_chain (l : Launch) (dC : Nat → ClassId) (dI : Nat → Nat → Nat) (cI cZ cB cO : ClassId) (e_ad : Nat) (e_p : Nat → Nat) (e_n : Int32) (e_steps : (Nat → Int32)) (e_undoing : (Nat → Int32)) (e_chains : (Nat → Int32)) (e_leaving : (Nat → Int32)) (e_found : (Nat → Int32)) (e_foundAt : (Nat → Int32)) (e_foundCount : Int32) (v1 : Int32) (o : Int32) (h : f_X1_chain e_chains v1 = some o) (sz : Nat) : Met l yX1_chain (xW yX1_chain cX1_chain 2 (some .int)) { frames := 0, cells := 0, slots := 0, locals := 0 } (xPre dC dI (xT cI cZ cB cO) [.ref e_ad, .int v1] (wE cI cZ cB cO e_ad e_p e_n e_steps e_undoing e_chains e_leaving e_found e_foundAt e_foundCount) sz) (xQi dC dI (xT cI cZ cB cO) o (wE cI cZ cB cO e_ad e_p e_n e_steps e_undoing e_chains e_leaving e_found e_foundAt e_foundCount) (wE cI cZ cB cO e_ad e_p e_n e_steps e_undoing e_chains e_leaving e_found e_foundAt e_foundCount) sz) 0 0 (va_A (wE cI cZ cB cO e_ad e_p e_n e_steps e_undoing e_chains e_leaving e_found e_foundAt e_foundCount) sz) := by
  refine x_met (by decide) (Nat.le_of_ble_eq_true rfl) ?_
  intro p e s m args below meth c R Q A hR hsz hA hQ hin C hw ls hl
  have hx := C.1
  have hb := C.2.1
  have hown := C.2.2.2.1
  have htb := C.2.2.2.2.1
  have hl : lv_has ls 2 [(0, .ref e_ad), (1, .int v1)] := hl
  refine lv_iload_n hx hb dX1_chain_0 rfl (lv_at hl 1 rfl) ?_
  refine lv_if_lt (tgt := 19) hx hb dX1_chain_1 (by decide) (fun b1 => ?_) (fun b1 => ?_)
  · replace h := xb_tt b1 h
    refine lv_iconst (v := (0 : Int32)) hx hb dX1_chain_19 (by decide) ?_
    obtain rfl := Option.some.inj h
    exact x_reti C hQ hA hw dX1_chain_20
  · replace h := xb_ff b1 h
    refine lv_iload_n hx hb dX1_chain_4 rfl (lv_at hl 1 rfl) ?_
    refine lv_bipush (v := (8 : Int32)) hx hb dX1_chain_5 (by decide) ?_
    refine lv_icmp_ge (tgt := 19) hx hb dX1_chain_7 (by decide) (fun b2 => ?_) (fun b2 => ?_)
    · replace h := xb_tt b2 h
      refine lv_iconst (v := (0 : Int32)) hx hb dX1_chain_19 (by decide) ?_
      obtain rfl := Option.some.inj h
      exact x_reti C hQ hA hw dX1_chain_20
    · replace h := xb_ff b2 h
      refine lv_aload_n hx hb dX1_chain_10 rfl (lv_at hl 0 rfl) ?_
      refine x_get (ci := 1) C hw inX1 rfl 3 (by decide) lkF_X1_22 rfl 0 rfl rfl dX1_chain_11 ?_
      refine lv_iload_n hx hb dX1_chain_14 rfl (lv_at hl 1 rfl) ?_
      obtain ⟨b3, h⟩ := xk_i h
      refine x_iald C hw 3 0 rfl rfl b3 dX1_chain_15 ?_
      refine lv_goto (tgt := 20) hx hb dX1_chain_16 (by decide) ?_
      obtain rfl := Option.some.inj h
      exact x_reti C hQ hA hw dX1_chain_20
noncomputable def f_X1_step (e_steps : (Nat → Int32)) (v1 : Int32) (v2 : Int32) : Option (Int32) := xk (vp_in (((8 : Int32) * (v1 &&& (7 : Int32))) + (v2 &&& (7 : Int32))) 64) (some (e_steps (((8 : Int32) * (v1 &&& (7 : Int32))) + (v2 &&& (7 : Int32))).toNatClampNeg))
set_option maxHeartbeats 4000000 in
set_option maxRecDepth 100000 in
theorem c_X1_step (l : Launch) (dC : Nat → ClassId) (dI : Nat → Nat → Nat) (cI cZ cB cO : ClassId) (e_ad : Nat) (e_p : Nat → Nat) (e_n : Int32) (e_steps : (Nat → Int32)) (e_undoing : (Nat → Int32)) (e_chains : (Nat → Int32)) (e_leaving : (Nat → Int32)) (e_found : (Nat → Int32)) (e_foundAt : (Nat → Int32)) (e_foundCount : Int32) (v1 : Int32) (v2 : Int32) (o : Int32) (h : f_X1_step e_steps v1 v2 = some o) (sz : Nat) : Met l yX1_step (xW yX1_step cX1_step 3 (some .int)) { frames := 0, cells := 0, slots := 0, locals := 0 } (xPre dC dI (xT cI cZ cB cO) [.ref e_ad, .int v1, .int v2] (wE cI cZ cB cO e_ad e_p e_n e_steps e_undoing e_chains e_leaving e_found e_foundAt e_foundCount) sz) (xQi dC dI (xT cI cZ cB cO) o (wE cI cZ cB cO e_ad e_p e_n e_steps e_undoing e_chains e_leaving e_found e_foundAt e_foundCount) (wE cI cZ cB cO e_ad e_p e_n e_steps e_undoing e_chains e_leaving e_found e_foundAt e_foundCount) sz) 0 0 (va_A (wE cI cZ cB cO e_ad e_p e_n e_steps e_undoing e_chains e_leaving e_found e_foundAt e_foundCount) sz) := by
  refine x_met (by decide) (Nat.le_of_ble_eq_true rfl) ?_
  intro p e s m args below meth c R Q A hR hsz hA hQ hin C hw ls hl
  have hx := C.1
  have hb := C.2.1
  have hown := C.2.2.2.1
  have htb := C.2.2.2.2.1
  have hl : lv_has ls 3 [(0, .ref e_ad), (1, .int v1), (2, .int v2)] := hl
  refine lv_aload_n hx hb dX1_step_0 rfl (lv_at hl 0 rfl) ?_
  refine x_get (ci := 1) C hw inX1 rfl 1 (by decide) lkF_X1_15 rfl 0 rfl rfl dX1_step_1 ?_
  refine lv_bipush (v := (8 : Int32)) hx hb dX1_step_4 (by decide) ?_
  refine lv_iload_n hx hb dX1_step_6 rfl (lv_at hl 1 rfl) ?_
  refine lv_bipush (v := (7 : Int32)) hx hb dX1_step_7 (by decide) ?_
  refine lv_iand hx hb dX1_step_9 ?_
  refine lv_imul hx hb dX1_step_10 ?_
  refine lv_iload_n hx hb dX1_step_11 rfl (lv_at hl 2 rfl) ?_
  refine lv_bipush (v := (7 : Int32)) hx hb dX1_step_12 (by decide) ?_
  refine lv_iand hx hb dX1_step_14 ?_
  refine lv_iadd hx hb dX1_step_15 ?_
  obtain ⟨b1, h⟩ := xk_i h
  refine x_iald C hw 1 0 rfl rfl b1 dX1_step_16 ?_
  obtain rfl := Option.some.inj h
  exact x_reti C hQ hA hw dX1_step_17
noncomputable def f_X1_addStep (e_steps : (Nat → Int32)) (e_undoing : (Nat → Int32)) (e_chains : (Nat → Int32)) (e_found : (Nat → Int32)) (e_foundAt : (Nat → Int32)) (e_foundCount : Int32) (v1 : Int32) (v2 : Int32) (v3 : Int32) : Option ((Nat → Int32) × (Nat → Int32) × (Nat → Int32) × (Nat → Int32) × (Nat → Int32) × Int32) := xb ((28 : Int32) ≤ e_foundCount) (some (e_steps, e_undoing, e_chains, e_found, e_foundAt, e_foundCount)) (xk (vp_in v1 8) (xk (vp_in (((8 : Int32) * v1) + v2) 64) (xn (f_X2_inverse v3) (fun (r_1 : Int32) => xk (vp_in e_foundCount 28) (some ((upd e_steps (((8 : Int32) * v1) + v2).toNatClampNeg v3), (upd e_undoing (((8 : Int32) * v1) + v2).toNatClampNeg r_1), (upd e_chains v1.toNatClampNeg ((e_chains v1.toNatClampNeg) ||| ((1 : Int32) <<< (v2 &&& 31)))), (upd e_found e_foundCount.toNatClampNeg v3), (upd e_foundAt e_foundCount.toNatClampNeg v1), (e_foundCount + (1 : Int32))))))))
set_option maxHeartbeats 4000000 in
set_option maxRecDepth 100000 in
theorem c_X1_addStep (l : Launch) (dC : Nat → ClassId) (dI : Nat → Nat → Nat) (cI cZ cB cO : ClassId) (e_ad : Nat) (e_p : Nat → Nat) (e_n : Int32) (e_steps : (Nat → Int32)) (e_undoing : (Nat → Int32)) (e_chains : (Nat → Int32)) (e_leaving : (Nat → Int32)) (e_found : (Nat → Int32)) (e_foundAt : (Nat → Int32)) (e_foundCount : Int32) (v1 : Int32) (v2 : Int32) (v3 : Int32) (o : (Nat → Int32) × (Nat → Int32) × (Nat → Int32) × (Nat → Int32) × (Nat → Int32) × Int32) (h : f_X1_addStep e_steps e_undoing e_chains e_found e_foundAt e_foundCount v1 v2 v3 = some o) (sz : Nat) : Met l yX1_addStep (xW yX1_addStep cX1_addStep 4 none) { frames := 1, cells := 0, slots := 0, locals := 22 } (xPre dC dI (xT cI cZ cB cO) [.ref e_ad, .int v1, .int v2, .int v3] (wE cI cZ cB cO e_ad e_p e_n e_steps e_undoing e_chains e_leaving e_found e_foundAt e_foundCount) sz) (xQv dC dI (xT cI cZ cB cO) (wE cI cZ cB cO e_ad e_p e_n e_steps e_undoing e_chains e_leaving e_found e_foundAt e_foundCount) (wE cI cZ cB cO e_ad e_p e_n o.1 o.2.1 o.2.2.1 e_leaving o.2.2.2.1 o.2.2.2.2.1 o.2.2.2.2.2) sz) 0 0 (va_A (wE cI cZ cB cO e_ad e_p e_n e_steps e_undoing e_chains e_leaving e_found e_foundAt e_foundCount) sz) := by
  refine x_met (by decide) (Nat.le_of_ble_eq_true rfl) ?_
  intro p e s m args below meth c R Q A hR hsz hA hQ hin C hw ls hl
  have hx := C.1
  have hb := C.2.1
  have hown := C.2.2.2.1
  have htb := C.2.2.2.2.1
  have hl : lv_has ls 4 [(0, .ref e_ad), (1, .int v1), (2, .int v2), (3, .int v3)] := hl
  refine lv_aload_n hx hb dX1_addStep_0 rfl (lv_at hl 0 rfl) ?_
  refine x_get (ci := 1) C hw inX1 rfl 7 (by decide) lkF_X1_34 rfl 0 rfl rfl dX1_addStep_1 ?_
  refine lv_bipush (v := (28 : Int32)) hx hb dX1_addStep_4 (by decide) ?_
  refine lv_icmp_ge (tgt := 78) hx hb dX1_addStep_6 (by decide) (fun b1 => ?_) (fun b1 => ?_)
  · replace h := xb_tt b1 h
    obtain rfl := Option.some.inj h
    exact x_retv C hQ hA hw dX1_addStep_78
  · replace h := xb_ff b1 h
    refine lv_aload_n hx hb dX1_addStep_9 rfl (lv_at hl 0 rfl) ?_
    refine x_get (ci := 1) C hw inX1 rfl 3 (by decide) lkF_X1_22 rfl 0 rfl rfl dX1_addStep_10 ?_
    refine lv_iload_n hx hb dX1_addStep_13 rfl (lv_at hl 1 rfl) ?_
    refine lv_dup2_11 hx hb dX1_addStep_14 rfl rfl ?_
    obtain ⟨b2, h⟩ := xk_i h
    refine x_iald C hw 3 0 rfl rfl b2 dX1_addStep_15 ?_
    refine lv_iconst (v := (1 : Int32)) hx hb dX1_addStep_16 (by decide) ?_
    refine lv_iload_n hx hb dX1_addStep_17 rfl (lv_at hl 2 rfl) ?_
    refine lv_ishl hx hb dX1_addStep_18 ?_
    refine lv_ior hx hb dX1_addStep_19 ?_
    refine x_iast C hw 3 0 rfl rfl b2 dX1_addStep_20 (fun H locs hw => ?_)
    have hw : xWd (dC, dI) A s.heap H locs (wE cI cZ cB cO e_ad e_p e_n e_steps e_undoing (upd e_chains v1.toNatClampNeg ((e_chains v1.toNatClampNeg) ||| ((1 : Int32) <<< (v2 &&& 31)))) e_leaving e_found e_foundAt e_foundCount) := hw
    refine lv_aload_n hx hb dX1_addStep_21 rfl (lv_at hl 0 rfl) ?_
    refine x_get (ci := 1) C hw inX1 rfl 1 (by decide) lkF_X1_15 rfl 0 rfl rfl dX1_addStep_22 ?_
    refine lv_bipush (v := (8 : Int32)) hx hb dX1_addStep_25 (by decide) ?_
    refine lv_iload_n hx hb dX1_addStep_27 rfl (lv_at hl 1 rfl) ?_
    refine lv_imul hx hb dX1_addStep_28 ?_
    refine lv_iload_n hx hb dX1_addStep_29 rfl (lv_at hl 2 rfl) ?_
    refine lv_iadd hx hb dX1_addStep_30 ?_
    refine lv_iload_n hx hb dX1_addStep_31 rfl (lv_at hl 3 rfl) ?_
    obtain ⟨b3, h⟩ := xk_i h
    refine x_iast C hw 1 0 rfl rfl b3 dX1_addStep_32 (fun H locs hw => ?_)
    have hw : xWd (dC, dI) A s.heap H locs (wE cI cZ cB cO e_ad e_p e_n (upd e_steps (((8 : Int32) * v1) + v2).toNatClampNeg v3) e_undoing (upd e_chains v1.toNatClampNeg ((e_chains v1.toNatClampNeg) ||| ((1 : Int32) <<< (v2 &&& 31)))) e_leaving e_found e_foundAt e_foundCount) := hw
    refine lv_aload_n hx hb dX1_addStep_33 rfl (lv_at hl 0 rfl) ?_
    refine x_get (ci := 1) C hw inX1 rfl 2 (by decide) lkF_X1_19 rfl 0 rfl rfl dX1_addStep_34 ?_
    refine lv_bipush (v := (8 : Int32)) hx hb dX1_addStep_37 (by decide) ?_
    refine lv_iload_n hx hb dX1_addStep_39 rfl (lv_at hl 1 rfl) ?_
    refine lv_imul hx hb dX1_addStep_40 ?_
    refine lv_iload_n hx hb dX1_addStep_41 rfl (lv_at hl 2 rfl) ?_
    refine lv_iadd hx hb dX1_addStep_42 ?_
    refine lv_iload_n hx hb dX1_addStep_43 rfl (lv_at hl 3 rfl) ?_
    obtain ⟨r_1, q4, h⟩ := xn_i h
    refine x_callSi (As := [.int v3]) (rest := [.int (((8 : Int32) * v1) + v2), .ref (e_p 2)]) C hw gc_X1_73 ds_X2_inverse (by rw [hR]; exact Nat.le_of_ble_eq_true rfl) (by rw [hR]; exact Nat.le_of_ble_eq_true rfl) rfl rfl (Nat.zero_le _) (Nat.zero_le _) (c_X2_inverse l dC dI cI cZ cB cO v3 _ q4 _) [] [0, 1, 2, 3, 4, 5, 6] (by decide) rfl rfl (by decide) (by decide) rfl hl.1 rfl (Nat.le_of_ble_eq_true rfl) dX1_addStep_44 (fun H locs hw => ?_)
    have hw : xWd (dC, dI) A s.heap H locs (wE cI cZ cB cO e_ad e_p e_n (upd e_steps (((8 : Int32) * v1) + v2).toNatClampNeg v3) e_undoing (upd e_chains v1.toNatClampNeg ((e_chains v1.toNatClampNeg) ||| ((1 : Int32) <<< (v2 &&& 31)))) e_leaving e_found e_foundAt e_foundCount) := hw.sub [0, 1, 2, 3, 4, 5, 6] (by decide) rfl
    refine x_iast C hw 2 0 rfl rfl b3 dX1_addStep_47 (fun H locs hw => ?_)
    have hw : xWd (dC, dI) A s.heap H locs (wE cI cZ cB cO e_ad e_p e_n (upd e_steps (((8 : Int32) * v1) + v2).toNatClampNeg v3) (upd e_undoing (((8 : Int32) * v1) + v2).toNatClampNeg r_1) (upd e_chains v1.toNatClampNeg ((e_chains v1.toNatClampNeg) ||| ((1 : Int32) <<< (v2 &&& 31)))) e_leaving e_found e_foundAt e_foundCount) := hw
    refine lv_aload_n hx hb dX1_addStep_48 rfl (lv_at hl 0 rfl) ?_
    refine x_get (ci := 1) C hw inX1 rfl 5 (by decide) lkF_X1_28 rfl 0 rfl rfl dX1_addStep_49 ?_
    refine lv_aload_n hx hb dX1_addStep_52 rfl (lv_at hl 0 rfl) ?_
    refine x_get (ci := 1) C hw inX1 rfl 7 (by decide) lkF_X1_34 rfl 0 rfl rfl dX1_addStep_53 ?_
    refine lv_iload_n hx hb dX1_addStep_56 rfl (lv_at hl 3 rfl) ?_
    obtain ⟨b5, h⟩ := xk_i h
    refine x_iast C hw 5 0 rfl rfl b5 dX1_addStep_57 (fun H locs hw => ?_)
    have hw : xWd (dC, dI) A s.heap H locs (wE cI cZ cB cO e_ad e_p e_n (upd e_steps (((8 : Int32) * v1) + v2).toNatClampNeg v3) (upd e_undoing (((8 : Int32) * v1) + v2).toNatClampNeg r_1) (upd e_chains v1.toNatClampNeg ((e_chains v1.toNatClampNeg) ||| ((1 : Int32) <<< (v2 &&& 31)))) e_leaving (upd e_found e_foundCount.toNatClampNeg v3) e_foundAt e_foundCount) := hw
    refine lv_aload_n hx hb dX1_addStep_58 rfl (lv_at hl 0 rfl) ?_
    refine x_get (ci := 1) C hw inX1 rfl 6 (by decide) lkF_X1_31 rfl 0 rfl rfl dX1_addStep_59 ?_
    refine lv_aload_n hx hb dX1_addStep_62 rfl (lv_at hl 0 rfl) ?_
    refine x_get (ci := 1) C hw inX1 rfl 7 (by decide) lkF_X1_34 rfl 0 rfl rfl dX1_addStep_63 ?_
    refine lv_iload_n hx hb dX1_addStep_66 rfl (lv_at hl 1 rfl) ?_
    refine x_iast C hw 6 0 rfl rfl b5 dX1_addStep_67 (fun H locs hw => ?_)
    have hw : xWd (dC, dI) A s.heap H locs (wE cI cZ cB cO e_ad e_p e_n (upd e_steps (((8 : Int32) * v1) + v2).toNatClampNeg v3) (upd e_undoing (((8 : Int32) * v1) + v2).toNatClampNeg r_1) (upd e_chains v1.toNatClampNeg ((e_chains v1.toNatClampNeg) ||| ((1 : Int32) <<< (v2 &&& 31)))) e_leaving (upd e_found e_foundCount.toNatClampNeg v3) (upd e_foundAt e_foundCount.toNatClampNeg v1) e_foundCount) := hw
    refine lv_aload_n hx hb dX1_addStep_68 rfl (lv_at hl 0 rfl) ?_
    refine lv_dup hx hb dX1_addStep_69 rfl ?_
    refine x_get (ci := 1) C hw inX1 rfl 7 (by decide) lkF_X1_34 rfl 0 rfl rfl dX1_addStep_70 ?_
    refine lv_iconst (v := (1 : Int32)) hx hb dX1_addStep_73 (by decide) ?_
    refine lv_iadd hx hb dX1_addStep_74 ?_
    refine x_put (ci := 1) C hw inX1 tyX1 tyX1_ok nmX1 rfl 7 (by decide) lkF_X1_34 rfl rfl 0 rfl rfl rfl (Nat.le_of_ble_eq_true rfl) dX1_addStep_75 (fun H locs hw => ?_)
    have hw : xWd (dC, dI) A s.heap H locs (wE cI cZ cB cO e_ad e_p e_n (upd e_steps (((8 : Int32) * v1) + v2).toNatClampNeg v3) (upd e_undoing (((8 : Int32) * v1) + v2).toNatClampNeg r_1) (upd e_chains v1.toNatClampNeg ((e_chains v1.toNatClampNeg) ||| ((1 : Int32) <<< (v2 &&& 31)))) e_leaving (upd e_found e_foundCount.toNatClampNeg v3) (upd e_foundAt e_foundCount.toNatClampNeg v1) (e_foundCount + (1 : Int32))) := hw
    obtain rfl := Option.some.inj h
    exact x_retv C hQ hA hw dX1_addStep_78
noncomputable def f_X1_take_L1  (z : (Nat → Int32) × (Nat → Int32) × (Nat → Int32) × (Nat → Int32) × (Nat → Int32) × Int32 × Int32 × Int32) : Option (((Nat → Int32) × (Nat → Int32) × (Nat → Int32) × (Nat → Int32) × (Nat → Int32) × Int32 × Int32 × Int32) ⊕ (((Nat → Int32) × (Nat → Int32) × (Nat → Int32) × (Nat → Int32) × (Nat → Int32) × Int32) ⊕ ((Nat → Int32) × (Nat → Int32) × (Nat → Int32) × (Nat → Int32) × (Nat → Int32) × Int32))) := match z with
  | (e_steps_1, e_undoing_2, e_chains_3, e_found_4, e_foundAt_5, e_foundCount_6, v2_7, v3_8) => xb ((8 : Int32) ≤ v3_8) (some (.inr (.inl (e_steps_1, e_undoing_2, e_chains_3, e_found_4, e_foundAt_5, e_foundCount_6)))) (xb (v2_7 = (16434824 : Int32)) (some (.inr (.inl (e_steps_1, e_undoing_2, e_chains_3, e_found_4, e_foundAt_5, e_foundCount_6)))) (xn (f_X2_at v2_7 v3_8) (fun (r_15 : Int32) => xk (vp_in v3_8 8) (xb ((((e_chains_3 v3_8.toNatClampNeg) >>> (r_15 &&& 31)) &&& (1 : Int32)) = 0) (xn (f_X1_addStep e_steps_1 e_undoing_2 e_chains_3 e_found_4 e_foundAt_5 e_foundCount_6 v3_8 r_15 v2_7) (fun (z : (Nat → Int32) × (Nat → Int32) × (Nat → Int32) × (Nat → Int32) × (Nat → Int32) × Int32) => match z with | (e_steps_17, e_undoing_18, e_chains_19, e_found_20, e_foundAt_21, e_foundCount_22) => some (.inr (.inr (e_steps_17, e_undoing_18, e_chains_19, e_found_20, e_foundAt_21, e_foundCount_22))))) (xb (r_15 = v3_8) (some (.inl (e_steps_1, e_undoing_2, e_chains_3, e_found_4, e_foundAt_5, e_foundCount_6, v2_7, (v3_8 + (1 : Int32))))) (xk (vp_in (((8 : Int32) * v3_8) + r_15) 64) (xn (f_X2_then v2_7 (e_undoing_2 (((8 : Int32) * v3_8) + r_15).toNatClampNeg)) (fun (r_16 : Int32) => some (.inl (e_steps_1, e_undoing_2, e_chains_3, e_found_4, e_foundAt_5, e_foundCount_6, r_16, (v3_8 + (1 : Int32))))))))))))
noncomputable def f_X1_take (e_steps : (Nat → Int32)) (e_undoing : (Nat → Int32)) (e_chains : (Nat → Int32)) (e_found : (Nat → Int32)) (e_foundAt : (Nat → Int32)) (e_foundCount : Int32) (v1 : Int32) : Option ((Nat → Int32) × (Nat → Int32) × (Nat → Int32) × (Nat → Int32) × (Nat → Int32) × Int32) := xn (xL f_X1_take_L1 (e_steps, e_undoing, e_chains, e_found, e_foundAt, e_foundCount, v1, (0 : Int32))) (fun (x : ((Nat → Int32) × (Nat → Int32) × (Nat → Int32) × (Nat → Int32) × (Nat → Int32) × Int32) ⊕ ((Nat → Int32) × (Nat → Int32) × (Nat → Int32) × (Nat → Int32) × (Nat → Int32) × Int32)) => match x with | .inl z => (fun (z : (Nat → Int32) × (Nat → Int32) × (Nat → Int32) × (Nat → Int32) × (Nat → Int32) × Int32) => match z with | (e_steps_9, e_undoing_10, e_chains_11, e_found_12, e_foundAt_13, e_foundCount_14) => some (e_steps_9, e_undoing_10, e_chains_11, e_found_12, e_foundAt_13, e_foundCount_14)) z | .inr z => some z)
set_option maxHeartbeats 4000000 in
set_option maxRecDepth 100000 in
theorem c_X1_take (l : Launch) (dC : Nat → ClassId) (dI : Nat → Nat → Nat) (cI cZ cB cO : ClassId) (e_ad : Nat) (e_p : Nat → Nat) (e_n : Int32) (e_steps : (Nat → Int32)) (e_undoing : (Nat → Int32)) (e_chains : (Nat → Int32)) (e_leaving : (Nat → Int32)) (e_found : (Nat → Int32)) (e_foundAt : (Nat → Int32)) (e_foundCount : Int32) (v1 : Int32) (o : (Nat → Int32) × (Nat → Int32) × (Nat → Int32) × (Nat → Int32) × (Nat → Int32) × Int32) (h : f_X1_take e_steps e_undoing e_chains e_found e_foundAt e_foundCount v1 = some o) (sz : Nat) : Met l yX1_take (xW yX1_take cX1_take 5 none) { frames := 2, cells := 0, slots := 0, locals := 45 } (xPre dC dI (xT cI cZ cB cO) [.ref e_ad, .int v1] (wE cI cZ cB cO e_ad e_p e_n e_steps e_undoing e_chains e_leaving e_found e_foundAt e_foundCount) sz) (xQv dC dI (xT cI cZ cB cO) (wE cI cZ cB cO e_ad e_p e_n e_steps e_undoing e_chains e_leaving e_found e_foundAt e_foundCount) (wE cI cZ cB cO e_ad e_p e_n o.1 o.2.1 o.2.2.1 e_leaving o.2.2.2.1 o.2.2.2.2.1 o.2.2.2.2.2) sz) 0 0 (va_A (wE cI cZ cB cO e_ad e_p e_n e_steps e_undoing e_chains e_leaving e_found e_foundAt e_foundCount) sz) := by
  refine x_met (by decide) (Nat.le_of_ble_eq_true rfl) ?_
  intro p e s m args below meth c R Q A hR hsz hA hQ hin C hw ls hl
  have hx := C.1
  have hb := C.2.1
  have hown := C.2.2.2.1
  have htb := C.2.2.2.2.1
  have hl : lv_has ls 5 [(0, .ref e_ad), (1, .int v1)] := hl
  refine lv_iload_n hx hb dX1_take_0 rfl (lv_at hl 1 rfl) ?_
  refine lv_istore_n (lv' := [(2, .int v1), (0, .ref e_ad), (1, .int v1)]) hx hb dX1_take_1 rfl hl (by decide) rfl (fun ls hl => ?_)
  refine lv_iconst (v := (0 : Int32)) hx hb dX1_take_2 (by decide) ?_
  refine lv_istore_n (lv' := [(3, .int (0 : Int32)), (2, .int v1), (0, .ref e_ad), (1, .int v1)]) hx hb dX1_take_3 rfl hl (by decide) rfl (fun ls hl => ?_)
  obtain ⟨z, hr, h⟩ := xn_i h
  refine xL_w (fun (z : (Nat → Int32) × (Nat → Int32) × (Nat → Int32) × (Nat → Int32) × (Nat → Int32) × Int32 × Int32 × Int32) => ∀ (H : Heap) (locs : List Loc) (ls : Array Slot), xWd (dC, dI) A s.heap H locs (wE cI cZ cB cO e_ad e_p e_n z.1 z.2.1 z.2.2.1 e_leaving z.2.2.2.1 z.2.2.2.2.1 z.2.2.2.2.2.1) → lv_has ls 5 [(0, .ref e_ad), (2, .int z.2.2.2.2.2.2.1), (3, .int z.2.2.2.2.2.2.2)] → W p l e R s m args below meth c H locs 0 0 Q (F0 m 4 ls [])) (Sum.elim (fun (z : (Nat → Int32) × (Nat → Int32) × (Nat → Int32) × (Nat → Int32) × (Nat → Int32) × Int32) => ∀ (H : Heap) (locs : List Loc) (ls : Array Slot), xWd (dC, dI) A s.heap H locs (wE cI cZ cB cO e_ad e_p e_n z.1 z.2.1 z.2.2.1 e_leaving z.2.2.2.1 z.2.2.2.2.1 z.2.2.2.2.2) → lv_has ls 5 [] → W p l e R s m args below meth c H locs 0 0 Q (F0 m 75 ls [])) (fun (z : (Nat → Int32) × (Nat → Int32) × (Nat → Int32) × (Nat → Int32) × (Nat → Int32) × Int32) => ∀ (H : Heap) (locs : List Loc), xWd (dC, dI) A s.heap H locs (wE cI cZ cB cO e_ad e_p e_n z.1 z.2.1 z.2.2.1 e_leaving z.2.2.2.1 z.2.2.2.2.1 z.2.2.2.2.2) → ∀ (pc : Nat) (ls : Array Slot), decode cX1_take pc = .ok (.return_, 1) → W p l e R s m args below meth c H locs 0 0 Q (F0 m pc ls []))) ?_ hr ?_ _ _ _ hw (lv_sub hl [2, 1, 0] rfl)
  · rintro ⟨e_steps_1, e_undoing_2, e_chains_3, e_found_4, e_foundAt_5, e_foundCount_6, v2_7, v3_8⟩ o h k H locs ls hw hl
    have hw : xWd (dC, dI) A s.heap H locs (wE cI cZ cB cO e_ad e_p e_n e_steps_1 e_undoing_2 e_chains_3 e_leaving e_found_4 e_foundAt_5 e_foundCount_6) := hw
    have hl : lv_has ls 5 [(0, .ref e_ad), (2, .int v2_7), (3, .int v3_8)] := hl
    refine lv_iload_n hx hb dX1_take_4 rfl (lv_at hl 2 rfl) ?_
    refine lv_bipush (v := (8 : Int32)) hx hb dX1_take_5 (by decide) ?_
    refine lv_icmp_ge (tgt := 75) hx hb dX1_take_7 (by decide) (fun b1 => ?_) (fun b1 => ?_)
    · replace h := xb_tt b1 h
      obtain rfl := Option.some.inj h
      exact k _ _ _ hw (lv_sub hl [] rfl)
    · replace h := xb_ff b1 h
      refine lv_iload_n hx hb dX1_take_10 rfl (lv_at hl 1 rfl) ?_
      refine lv_ldc hx hb hown (htb _ kI_X1_42) dX1_take_11 ?_
      refine lv_icmp_eq (tgt := 75) hx hb dX1_take_13 (by decide) (fun b2 => ?_) (fun b2 => ?_)
      · replace h := xb_tt b2 h
        obtain rfl := Option.some.inj h
        exact k _ _ _ hw (lv_sub hl [] rfl)
      · replace h := xb_ff b2 h
        refine lv_iload_n hx hb dX1_take_16 rfl (lv_at hl 1 rfl) ?_
        refine lv_iload_n hx hb dX1_take_17 rfl (lv_at hl 2 rfl) ?_
        obtain ⟨r_15, q3, h⟩ := xn_i h
        refine x_callSi (As := [.int v2_7, .int v3_8]) (rest := []) C hw gc_X1_62 ds_X2_at (by rw [hR]; exact Nat.le_of_ble_eq_true rfl) (by rw [hR]; exact Nat.le_of_ble_eq_true rfl) rfl rfl (Nat.zero_le _) (Nat.zero_le _) (c_X2_at l dC dI cI cZ cB cO v2_7 v3_8 _ q3 _) [] [0, 1, 2, 3, 4, 5, 6] (by decide) rfl rfl (by decide) (by decide) rfl hl.1 rfl (Nat.le_of_ble_eq_true rfl) dX1_take_18 (fun H locs hw => ?_)
        have hw : xWd (dC, dI) A s.heap H locs (wE cI cZ cB cO e_ad e_p e_n e_steps_1 e_undoing_2 e_chains_3 e_leaving e_found_4 e_foundAt_5 e_foundCount_6) := hw.sub [0, 1, 2, 3, 4, 5, 6] (by decide) rfl
        refine lv_istore (lv' := [(4, .int r_15), (0, .ref e_ad), (2, .int v2_7), (3, .int v3_8)]) hx hb dX1_take_21 hl (by decide) rfl (fun ls hl => ?_)
        refine lv_aload_n hx hb dX1_take_23 rfl (lv_at hl 1 rfl) ?_
        refine x_get (ci := 1) C hw inX1 rfl 3 (by decide) lkF_X1_22 rfl 0 rfl rfl dX1_take_24 ?_
        refine lv_iload_n hx hb dX1_take_27 rfl (lv_at hl 3 rfl) ?_
        obtain ⟨b4, h⟩ := xk_i h
        refine x_iald C hw 3 0 rfl rfl b4 dX1_take_28 ?_
        refine lv_iload hx hb dX1_take_29 (lv_at hl 0 rfl) ?_
        refine lv_ishr hx hb dX1_take_31 ?_
        refine lv_iconst (v := (1 : Int32)) hx hb dX1_take_32 (by decide) ?_
        refine lv_iand hx hb dX1_take_33 ?_
        refine lv_if_ne (tgt := 46) hx hb dX1_take_34 (by decide) (fun b5 => ?_) (fun b5 => ?_)
        · replace h := xb_ff b5 h
          refine lv_iload hx hb dX1_take_46 (lv_at hl 0 rfl) ?_
          refine lv_iload_n hx hb dX1_take_48 rfl (lv_at hl 3 rfl) ?_
          refine lv_icmp_eq (tgt := 69) hx hb dX1_take_49 (by decide) (fun b6 => ?_) (fun b6 => ?_)
          · replace h := xb_tt b6 h
            refine lv_iinc (v := (v3_8 + (1 : Int32))) (lv' := [(3, .int (v3_8 + (1 : Int32))), (4, .int r_15), (0, .ref e_ad), (2, .int v2_7)]) hx hb dX1_take_69 hl (k := 3) rfl (congrArg (fun q => v3_8 + q) (by decide)) (by decide) rfl (fun ls hl => ?_)
            refine lv_goto (tgt := 4) hx hb dX1_take_72 (by decide) ?_
            obtain rfl := Option.some.inj h
            exact k _ _ _ hw (lv_sub hl [2, 3, 0] rfl)
          · replace h := xb_ff b6 h
            refine lv_iload_n hx hb dX1_take_52 rfl (lv_at hl 2 rfl) ?_
            refine lv_aload_n hx hb dX1_take_53 rfl (lv_at hl 1 rfl) ?_
            refine x_get (ci := 1) C hw inX1 rfl 2 (by decide) lkF_X1_19 rfl 0 rfl rfl dX1_take_54 ?_
            refine lv_bipush (v := (8 : Int32)) hx hb dX1_take_57 (by decide) ?_
            refine lv_iload_n hx hb dX1_take_59 rfl (lv_at hl 3 rfl) ?_
            refine lv_imul hx hb dX1_take_60 ?_
            refine lv_iload hx hb dX1_take_61 (lv_at hl 0 rfl) ?_
            refine lv_iadd hx hb dX1_take_63 ?_
            obtain ⟨b7, h⟩ := xk_i h
            refine x_iald C hw 2 0 rfl rfl b7 dX1_take_64 ?_
            obtain ⟨r_16, q8, h⟩ := xn_i h
            refine x_callSi (As := [.int v2_7, .int (e_undoing_2 (((8 : Int32) * v3_8) + r_15).toNatClampNeg)]) (rest := []) C hw gc_X1_70 ds_X2_then (by rw [hR]; exact Nat.le_of_ble_eq_true rfl) (by rw [hR]; exact Nat.le_of_ble_eq_true rfl) rfl rfl (Nat.zero_le _) (Nat.zero_le _) (c_X2_then l dC dI cI cZ cB cO v2_7 (e_undoing_2 (((8 : Int32) * v3_8) + r_15).toNatClampNeg) _ q8 _) [] [0, 1, 2, 3, 4, 5, 6] (by decide) rfl rfl (by decide) (by decide) rfl hl.1 rfl (Nat.le_of_ble_eq_true rfl) dX1_take_65 (fun H locs hw => ?_)
            have hw : xWd (dC, dI) A s.heap H locs (wE cI cZ cB cO e_ad e_p e_n e_steps_1 e_undoing_2 e_chains_3 e_leaving e_found_4 e_foundAt_5 e_foundCount_6) := hw.sub [0, 1, 2, 3, 4, 5, 6] (by decide) rfl
            refine lv_istore_n (lv' := [(2, .int r_16), (4, .int r_15), (0, .ref e_ad), (3, .int v3_8)]) hx hb dX1_take_68 rfl hl (by decide) rfl (fun ls hl => ?_)
            refine lv_iinc (v := (v3_8 + (1 : Int32))) (lv' := [(3, .int (v3_8 + (1 : Int32))), (2, .int r_16), (4, .int r_15), (0, .ref e_ad)]) hx hb dX1_take_69 hl (k := 3) rfl (congrArg (fun q => v3_8 + q) (by decide)) (by decide) rfl (fun ls hl => ?_)
            refine lv_goto (tgt := 4) hx hb dX1_take_72 (by decide) ?_
            obtain rfl := Option.some.inj h
            exact k _ _ _ hw (lv_sub hl [3, 1, 0] rfl)
        · replace h := xb_tt b5 h
          refine lv_aload_n hx hb dX1_take_37 rfl (lv_at hl 1 rfl) ?_
          refine lv_iload_n hx hb dX1_take_38 rfl (lv_at hl 3 rfl) ?_
          refine lv_iload hx hb dX1_take_39 (lv_at hl 0 rfl) ?_
          refine lv_iload_n hx hb dX1_take_41 rfl (lv_at hl 2 rfl) ?_
          obtain ⟨⟨e_steps_17, e_undoing_18, e_chains_19, e_found_20, e_foundAt_21, e_foundCount_22⟩, q9, h⟩ := xn_i h
          refine x_callVv (As := [.int v3_8, .int r_15, .int v2_7]) (rest := []) C hw gc_X1_66 ⟨rfl, rfl, ds_X1_addStep, (by rw [hR]; exact Nat.le_of_ble_eq_true rfl), (by rw [hR]; exact Nat.le_of_ble_eq_true rfl), Nat.zero_le _, Nat.zero_le _⟩ (c_X1_addStep l dC dI cI cZ cB cO e_ad e_p e_n e_steps_1 e_undoing_2 e_chains_3 e_leaving e_found_4 e_foundAt_5 e_foundCount_6 v3_8 r_15 v2_7 _ q9 _) [0, 1, 2, 3, 4, 5, 6] [] (by decide) rfl rfl (by decide) (by decide) rfl rfl rfl hl.1 rfl (Nat.le_of_ble_eq_true rfl) dX1_take_42 (fun H locs hw => ?_)
          have hw : xWd (dC, dI) A s.heap H locs (wE cI cZ cB cO e_ad e_p e_n e_steps_17 e_undoing_18 e_chains_19 e_leaving e_found_20 e_foundAt_21 e_foundCount_22) := hw
          obtain rfl := Option.some.inj h
          exact k _ _ hw _ _ dX1_take_45
  · rcases z with z | z
    · obtain ⟨e_steps_9, e_undoing_10, e_chains_11, e_found_12, e_foundAt_13, e_foundCount_14⟩ := z
      intro H locs ls hw hl
      have hw : xWd (dC, dI) A s.heap H locs (wE cI cZ cB cO e_ad e_p e_n e_steps_9 e_undoing_10 e_chains_11 e_leaving e_found_12 e_foundAt_13 e_foundCount_14) := hw
      have hl : lv_has ls 5 [] := hl
      obtain rfl := Option.some.inj h
      exact x_retv C hQ hA hw dX1_take_75
    · obtain rfl := Option.some.inj h
      intro H locs hw pc ls hd
      exact x_retv C hQ hA hw hd
noncomputable def f_X1_closeSteps_L2 (v1_7 : Int32) (z : (Nat → Int32) × (Nat → Int32) × (Nat → Int32) × (Nat → Int32) × (Nat → Int32) × Int32 × Int32) : Option (((Nat → Int32) × (Nat → Int32) × (Nat → Int32) × (Nat → Int32) × (Nat → Int32) × Int32 × Int32) ⊕ ((Nat → Int32) × (Nat → Int32) × (Nat → Int32) × (Nat → Int32) × (Nat → Int32) × Int32)) := match z with
  | (e_steps_14, e_undoing_15, e_chains_16, e_found_17, e_foundAt_18, e_foundCount_19, v2_20) => xb (v1_7 < v2_20) (some (.inr (e_steps_14, e_undoing_15, e_chains_16, e_found_17, e_foundAt_18, e_foundCount_19))) (xk (vp_in v2_20 28) (xk (vp_in v1_7 28) (xn (xb ((e_foundAt_18 v1_7.toNatClampNeg) < (e_foundAt_18 v2_20.toNatClampNeg)) (some (e_steps_14, e_undoing_15, e_chains_16, e_found_17, e_foundAt_18, e_foundCount_19)) (xn (f_X2_then (e_found_17 v2_20.toNatClampNeg) (e_found_17 v1_7.toNatClampNeg)) (fun (r_33 : Int32) => xn (f_X1_take e_steps_14 e_undoing_15 e_chains_16 e_found_17 e_foundAt_18 e_foundCount_19 r_33) (fun (z : (Nat → Int32) × (Nat → Int32) × (Nat → Int32) × (Nat → Int32) × (Nat → Int32) × Int32) => match z with | (e_steps_34, e_undoing_35, e_chains_36, e_found_37, e_foundAt_38, e_foundCount_39) => some (e_steps_34, e_undoing_35, e_chains_36, e_found_37, e_foundAt_38, e_foundCount_39))))) (fun (z : (Nat → Int32) × (Nat → Int32) × (Nat → Int32) × (Nat → Int32) × (Nat → Int32) × Int32) => match z with | (e_steps_27, e_undoing_28, e_chains_29, e_found_30, e_foundAt_31, e_foundCount_32) => xb ((e_foundAt_31 v2_20.toNatClampNeg) < (e_foundAt_31 v1_7.toNatClampNeg)) (some (.inl (e_steps_27, e_undoing_28, e_chains_29, e_found_30, e_foundAt_31, e_foundCount_32, (v2_20 + (1 : Int32))))) (xn (f_X2_then (e_found_30 v1_7.toNatClampNeg) (e_found_30 v2_20.toNatClampNeg)) (fun (r_40 : Int32) => xn (f_X1_take e_steps_27 e_undoing_28 e_chains_29 e_found_30 e_foundAt_31 e_foundCount_32 r_40) (fun (z : (Nat → Int32) × (Nat → Int32) × (Nat → Int32) × (Nat → Int32) × (Nat → Int32) × Int32) => match z with | (e_steps_41, e_undoing_42, e_chains_43, e_found_44, e_foundAt_45, e_foundCount_46) => some (.inl (e_steps_41, e_undoing_42, e_chains_43, e_found_44, e_foundAt_45, e_foundCount_46, (v2_20 + (1 : Int32)))))))))))
noncomputable def f_X1_closeSteps_L1  (z : (Nat → Int32) × (Nat → Int32) × (Nat → Int32) × (Nat → Int32) × (Nat → Int32) × Int32 × Int32) : Option (((Nat → Int32) × (Nat → Int32) × (Nat → Int32) × (Nat → Int32) × (Nat → Int32) × Int32 × Int32) ⊕ ((Nat → Int32) × (Nat → Int32) × (Nat → Int32) × (Nat → Int32) × (Nat → Int32) × Int32)) := match z with
  | (e_steps_1, e_undoing_2, e_chains_3, e_found_4, e_foundAt_5, e_foundCount_6, v1_7) => xb (e_foundCount_6 ≤ v1_7) (some (.inr (e_steps_1, e_undoing_2, e_chains_3, e_found_4, e_foundAt_5, e_foundCount_6))) (xb ((28 : Int32) ≤ v1_7) (some (.inr (e_steps_1, e_undoing_2, e_chains_3, e_found_4, e_foundAt_5, e_foundCount_6))) (xn (xL (f_X1_closeSteps_L2 v1_7) (e_steps_1, e_undoing_2, e_chains_3, e_found_4, e_foundAt_5, e_foundCount_6, (0 : Int32))) (fun (z : (Nat → Int32) × (Nat → Int32) × (Nat → Int32) × (Nat → Int32) × (Nat → Int32) × Int32) => match z with | (e_steps_21, e_undoing_22, e_chains_23, e_found_24, e_foundAt_25, e_foundCount_26) => some (.inl (e_steps_21, e_undoing_22, e_chains_23, e_found_24, e_foundAt_25, e_foundCount_26, (v1_7 + (1 : Int32)))))))
noncomputable def f_X1_closeSteps (e_steps : (Nat → Int32)) (e_undoing : (Nat → Int32)) (e_chains : (Nat → Int32)) (e_found : (Nat → Int32)) (e_foundAt : (Nat → Int32)) (e_foundCount : Int32) : Option ((Nat → Int32) × (Nat → Int32) × (Nat → Int32) × (Nat → Int32) × (Nat → Int32) × Int32) := xn (xL f_X1_closeSteps_L1 (e_steps, e_undoing, e_chains, e_found, e_foundAt, e_foundCount, (0 : Int32))) (fun (z : (Nat → Int32) × (Nat → Int32) × (Nat → Int32) × (Nat → Int32) × (Nat → Int32) × Int32) => match z with | (e_steps_8, e_undoing_9, e_chains_10, e_found_11, e_foundAt_12, e_foundCount_13) => some (e_steps_8, e_undoing_9, e_chains_10, e_found_11, e_foundAt_12, e_foundCount_13))
set_option maxHeartbeats 4000000 in
set_option maxRecDepth 100000 in
theorem c_X1_closeSteps (l : Launch) (dC : Nat → ClassId) (dI : Nat → Nat → Nat) (cI cZ cB cO : ClassId) (e_ad : Nat) (e_p : Nat → Nat) (e_n : Int32) (e_steps : (Nat → Int32)) (e_undoing : (Nat → Int32)) (e_chains : (Nat → Int32)) (e_leaving : (Nat → Int32)) (e_found : (Nat → Int32)) (e_foundAt : (Nat → Int32)) (e_foundCount : Int32) (o : (Nat → Int32) × (Nat → Int32) × (Nat → Int32) × (Nat → Int32) × (Nat → Int32) × Int32) (h : f_X1_closeSteps e_steps e_undoing e_chains e_found e_foundAt e_foundCount = some o) (sz : Nat) : Met l yX1_closeSteps (xW yX1_closeSteps cX1_closeSteps 3 none) { frames := 3, cells := 0, slots := 0, locals := 69 } (xPre dC dI (xT cI cZ cB cO) [.ref e_ad] (wE cI cZ cB cO e_ad e_p e_n e_steps e_undoing e_chains e_leaving e_found e_foundAt e_foundCount) sz) (xQv dC dI (xT cI cZ cB cO) (wE cI cZ cB cO e_ad e_p e_n e_steps e_undoing e_chains e_leaving e_found e_foundAt e_foundCount) (wE cI cZ cB cO e_ad e_p e_n o.1 o.2.1 o.2.2.1 e_leaving o.2.2.2.1 o.2.2.2.2.1 o.2.2.2.2.2) sz) 0 0 (va_A (wE cI cZ cB cO e_ad e_p e_n e_steps e_undoing e_chains e_leaving e_found e_foundAt e_foundCount) sz) := by
  refine x_met (by decide) (Nat.le_of_ble_eq_true rfl) ?_
  intro p e s m args below meth c R Q A hR hsz hA hQ hin C hw ls hl
  have hx := C.1
  have hb := C.2.1
  have hown := C.2.2.2.1
  have htb := C.2.2.2.2.1
  have hl : lv_has ls 3 [(0, .ref e_ad)] := hl
  refine lv_iconst (v := (0 : Int32)) hx hb dX1_closeSteps_0 (by decide) ?_
  refine lv_istore_n (lv' := [(1, .int (0 : Int32)), (0, .ref e_ad)]) hx hb dX1_closeSteps_1 rfl hl (by decide) rfl (fun ls hl => ?_)
  obtain ⟨z, hr, h⟩ := xn_i h
  refine xL_w (fun (z : (Nat → Int32) × (Nat → Int32) × (Nat → Int32) × (Nat → Int32) × (Nat → Int32) × Int32 × Int32) => ∀ (H : Heap) (locs : List Loc) (ls : Array Slot), xWd (dC, dI) A s.heap H locs (wE cI cZ cB cO e_ad e_p e_n z.1 z.2.1 z.2.2.1 e_leaving z.2.2.2.1 z.2.2.2.2.1 z.2.2.2.2.2.1) → lv_has ls 3 [(0, .ref e_ad), (1, .int z.2.2.2.2.2.2)] → W p l e R s m args below meth c H locs 0 0 Q (F0 m 2 ls [])) (fun (z : (Nat → Int32) × (Nat → Int32) × (Nat → Int32) × (Nat → Int32) × (Nat → Int32) × Int32) => ∀ (H : Heap) (locs : List Loc) (ls : Array Slot), xWd (dC, dI) A s.heap H locs (wE cI cZ cB cO e_ad e_p e_n z.1 z.2.1 z.2.2.1 e_leaving z.2.2.2.1 z.2.2.2.2.1 z.2.2.2.2.2) → lv_has ls 3 [] → W p l e R s m args below meth c H locs 0 0 Q (F0 m 103 ls [])) ?_ hr ?_ _ _ _ hw (lv_sub hl [1, 0] rfl)
  · rintro ⟨e_steps_1, e_undoing_2, e_chains_3, e_found_4, e_foundAt_5, e_foundCount_6, v1_7⟩ o h k H locs ls hw hl
    have hw : xWd (dC, dI) A s.heap H locs (wE cI cZ cB cO e_ad e_p e_n e_steps_1 e_undoing_2 e_chains_3 e_leaving e_found_4 e_foundAt_5 e_foundCount_6) := hw
    have hl : lv_has ls 3 [(0, .ref e_ad), (1, .int v1_7)] := hl
    refine lv_iload_n hx hb dX1_closeSteps_2 rfl (lv_at hl 1 rfl) ?_
    refine lv_aload_n hx hb dX1_closeSteps_3 rfl (lv_at hl 0 rfl) ?_
    refine x_get (ci := 1) C hw inX1 rfl 7 (by decide) lkF_X1_34 rfl 0 rfl rfl dX1_closeSteps_4 ?_
    refine lv_icmp_ge (tgt := 103) hx hb dX1_closeSteps_7 (by decide) (fun b1 => ?_) (fun b1 => ?_)
    · replace h := xb_tt b1 h
      obtain rfl := Option.some.inj h
      exact k _ _ _ hw (lv_sub hl [] rfl)
    · replace h := xb_ff b1 h
      refine lv_iload_n hx hb dX1_closeSteps_10 rfl (lv_at hl 1 rfl) ?_
      refine lv_bipush (v := (28 : Int32)) hx hb dX1_closeSteps_11 (by decide) ?_
      refine lv_icmp_ge (tgt := 103) hx hb dX1_closeSteps_13 (by decide) (fun b2 => ?_) (fun b2 => ?_)
      · replace h := xb_tt b2 h
        obtain rfl := Option.some.inj h
        exact k _ _ _ hw (lv_sub hl [] rfl)
      · replace h := xb_ff b2 h
        refine lv_iconst (v := (0 : Int32)) hx hb dX1_closeSteps_16 (by decide) ?_
        refine lv_istore_n (lv' := [(2, .int (0 : Int32)), (0, .ref e_ad), (1, .int v1_7)]) hx hb dX1_closeSteps_17 rfl hl (by decide) rfl (fun ls hl => ?_)
        obtain ⟨z, hr, h⟩ := xn_i h
        refine xL_w (fun (z : (Nat → Int32) × (Nat → Int32) × (Nat → Int32) × (Nat → Int32) × (Nat → Int32) × Int32 × Int32) => ∀ (H : Heap) (locs : List Loc) (ls : Array Slot), xWd (dC, dI) A s.heap H locs (wE cI cZ cB cO e_ad e_p e_n z.1 z.2.1 z.2.2.1 e_leaving z.2.2.2.1 z.2.2.2.2.1 z.2.2.2.2.2.1) → lv_has ls 3 [(0, .ref e_ad), (1, .int v1_7), (2, .int z.2.2.2.2.2.2)] → W p l e R s m args below meth c H locs 0 0 Q (F0 m 18 ls [])) (fun (z : (Nat → Int32) × (Nat → Int32) × (Nat → Int32) × (Nat → Int32) × (Nat → Int32) × Int32) => ∀ (H : Heap) (locs : List Loc) (ls : Array Slot), xWd (dC, dI) A s.heap H locs (wE cI cZ cB cO e_ad e_p e_n z.1 z.2.1 z.2.2.1 e_leaving z.2.2.2.1 z.2.2.2.2.1 z.2.2.2.2.2) → lv_has ls 3 [(0, .ref e_ad), (1, .int v1_7)] → W p l e R s m args below meth c H locs 0 0 Q (F0 m 97 ls [])) ?_ hr ?_ _ _ _ hw (lv_sub hl [1, 2, 0] rfl)
        · rintro ⟨e_steps_14, e_undoing_15, e_chains_16, e_found_17, e_foundAt_18, e_foundCount_19, v2_20⟩ o h k H locs ls hw hl
          have hw : xWd (dC, dI) A s.heap H locs (wE cI cZ cB cO e_ad e_p e_n e_steps_14 e_undoing_15 e_chains_16 e_leaving e_found_17 e_foundAt_18 e_foundCount_19) := hw
          have hl : lv_has ls 3 [(0, .ref e_ad), (1, .int v1_7), (2, .int v2_20)] := hl
          refine lv_iload_n hx hb dX1_closeSteps_18 rfl (lv_at hl 2 rfl) ?_
          refine lv_iload_n hx hb dX1_closeSteps_19 rfl (lv_at hl 1 rfl) ?_
          refine lv_icmp_gt (tgt := 97) hx hb dX1_closeSteps_20 (by decide) (fun b3 => ?_) (fun b3 => ?_)
          · replace h := xb_tt b3 h
            obtain rfl := Option.some.inj h
            exact k _ _ _ hw (lv_sub hl [0, 1] rfl)
          · replace h := xb_ff b3 h
            refine lv_aload_n hx hb dX1_closeSteps_23 rfl (lv_at hl 0 rfl) ?_
            refine x_get (ci := 1) C hw inX1 rfl 6 (by decide) lkF_X1_31 rfl 0 rfl rfl dX1_closeSteps_24 ?_
            refine lv_iload_n hx hb dX1_closeSteps_27 rfl (lv_at hl 2 rfl) ?_
            obtain ⟨b4, h⟩ := xk_i h
            refine x_iald C hw 6 0 rfl rfl b4 dX1_closeSteps_28 ?_
            refine lv_aload_n hx hb dX1_closeSteps_29 rfl (lv_at hl 0 rfl) ?_
            refine x_get (ci := 1) C hw inX1 rfl 6 (by decide) lkF_X1_31 rfl 0 rfl rfl dX1_closeSteps_30 ?_
            refine lv_iload_n hx hb dX1_closeSteps_33 rfl (lv_at hl 1 rfl) ?_
            obtain ⟨b5, h⟩ := xk_i h
            refine x_iald C hw 6 0 rfl rfl b5 dX1_closeSteps_34 ?_
            obtain ⟨z, hj, h⟩ := xn_i h
            have k : ∀ (H : Heap) (locs : List Loc) (ls : Array Slot), xWd (dC, dI) A s.heap H locs (wE cI cZ cB cO e_ad e_p e_n z.1 z.2.1 z.2.2.1 e_leaving z.2.2.2.1 z.2.2.2.2.1 z.2.2.2.2.2) → lv_has ls 3 [(0, .ref e_ad), (1, .int v1_7), (2, .int v2_20)] → W p l e R s m args below meth c H locs 0 0 Q (F0 m 57 ls []) := by
              obtain ⟨e_steps_27, e_undoing_28, e_chains_29, e_found_30, e_foundAt_31, e_foundCount_32⟩ := z
              intro H locs ls hw hl
              have hw : xWd (dC, dI) A s.heap H locs (wE cI cZ cB cO e_ad e_p e_n e_steps_27 e_undoing_28 e_chains_29 e_leaving e_found_30 e_foundAt_31 e_foundCount_32) := hw
              have hl : lv_has ls 3 [(0, .ref e_ad), (1, .int v1_7), (2, .int v2_20)] := hl
              show W p l e R s m args below meth c H locs 0 0 Q (F0 m 57 ls [])
              refine lv_aload_n hx hb dX1_closeSteps_57 rfl (lv_at hl 0 rfl) ?_
              refine x_get (ci := 1) C hw inX1 rfl 6 (by decide) lkF_X1_31 rfl 0 rfl rfl dX1_closeSteps_58 ?_
              refine lv_iload_n hx hb dX1_closeSteps_61 rfl (lv_at hl 1 rfl) ?_
              refine x_iald C hw 6 0 rfl rfl b5 dX1_closeSteps_62 ?_
              refine lv_aload_n hx hb dX1_closeSteps_63 rfl (lv_at hl 0 rfl) ?_
              refine x_get (ci := 1) C hw inX1 rfl 6 (by decide) lkF_X1_31 rfl 0 rfl rfl dX1_closeSteps_64 ?_
              refine lv_iload_n hx hb dX1_closeSteps_67 rfl (lv_at hl 2 rfl) ?_
              refine x_iald C hw 6 0 rfl rfl b4 dX1_closeSteps_68 ?_
              refine lv_icmp_gt (tgt := 91) hx hb dX1_closeSteps_69 (by decide) (fun b9 => ?_) (fun b9 => ?_)
              · replace h := xb_tt b9 h
                refine lv_iinc (v := (v2_20 + (1 : Int32))) (lv' := [(2, .int (v2_20 + (1 : Int32))), (0, .ref e_ad), (1, .int v1_7)]) hx hb dX1_closeSteps_91 hl (k := 2) rfl (congrArg (fun q => v2_20 + q) (by decide)) (by decide) rfl (fun ls hl => ?_)
                refine lv_goto (tgt := 18) hx hb dX1_closeSteps_94 (by decide) ?_
                obtain rfl := Option.some.inj h
                exact k _ _ _ hw (lv_sub hl [1, 2, 0] rfl)
              · replace h := xb_ff b9 h
                refine lv_aload_n hx hb dX1_closeSteps_72 rfl (lv_at hl 0 rfl) ?_
                refine lv_aload_n hx hb dX1_closeSteps_73 rfl (lv_at hl 0 rfl) ?_
                refine x_get (ci := 1) C hw inX1 rfl 5 (by decide) lkF_X1_28 rfl 0 rfl rfl dX1_closeSteps_74 ?_
                refine lv_iload_n hx hb dX1_closeSteps_77 rfl (lv_at hl 1 rfl) ?_
                refine x_iald C hw 5 0 rfl rfl b5 dX1_closeSteps_78 ?_
                refine lv_aload_n hx hb dX1_closeSteps_79 rfl (lv_at hl 0 rfl) ?_
                refine x_get (ci := 1) C hw inX1 rfl 5 (by decide) lkF_X1_28 rfl 0 rfl rfl dX1_closeSteps_80 ?_
                refine lv_iload_n hx hb dX1_closeSteps_83 rfl (lv_at hl 2 rfl) ?_
                refine x_iald C hw 5 0 rfl rfl b4 dX1_closeSteps_84 ?_
                obtain ⟨r_40, q10, h⟩ := xn_i h
                refine x_callSi (As := [.int (e_found_30 v1_7.toNatClampNeg), .int (e_found_30 v2_20.toNatClampNeg)]) (rest := [.ref e_ad]) C hw gc_X1_70 ds_X2_then (by rw [hR]; exact Nat.le_of_ble_eq_true rfl) (by rw [hR]; exact Nat.le_of_ble_eq_true rfl) rfl rfl (Nat.zero_le _) (Nat.zero_le _) (c_X2_then l dC dI cI cZ cB cO (e_found_30 v1_7.toNatClampNeg) (e_found_30 v2_20.toNatClampNeg) _ q10 _) [] [0, 1, 2, 3, 4, 5, 6] (by decide) rfl rfl (by decide) (by decide) rfl hl.1 rfl (Nat.le_of_ble_eq_true rfl) dX1_closeSteps_85 (fun H locs hw => ?_)
                have hw : xWd (dC, dI) A s.heap H locs (wE cI cZ cB cO e_ad e_p e_n e_steps_27 e_undoing_28 e_chains_29 e_leaving e_found_30 e_foundAt_31 e_foundCount_32) := hw.sub [0, 1, 2, 3, 4, 5, 6] (by decide) rfl
                obtain ⟨⟨e_steps_41, e_undoing_42, e_chains_43, e_found_44, e_foundAt_45, e_foundCount_46⟩, q11, h⟩ := xn_i h
                refine x_callVv (As := [.int r_40]) (rest := []) C hw gc_X1_50 ⟨rfl, rfl, ds_X1_take, (by rw [hR]; exact Nat.le_of_ble_eq_true rfl), (by rw [hR]; exact Nat.le_of_ble_eq_true rfl), Nat.zero_le _, Nat.zero_le _⟩ (c_X1_take l dC dI cI cZ cB cO e_ad e_p e_n e_steps_27 e_undoing_28 e_chains_29 e_leaving e_found_30 e_foundAt_31 e_foundCount_32 r_40 _ q11 _) [0, 1, 2, 3, 4, 5, 6] [] (by decide) rfl rfl (by decide) (by decide) rfl rfl rfl hl.1 rfl (Nat.le_of_ble_eq_true rfl) dX1_closeSteps_88 (fun H locs hw => ?_)
                have hw : xWd (dC, dI) A s.heap H locs (wE cI cZ cB cO e_ad e_p e_n e_steps_41 e_undoing_42 e_chains_43 e_leaving e_found_44 e_foundAt_45 e_foundCount_46) := hw
                refine lv_iinc (v := (v2_20 + (1 : Int32))) (lv' := [(2, .int (v2_20 + (1 : Int32))), (0, .ref e_ad), (1, .int v1_7)]) hx hb dX1_closeSteps_91 hl (k := 2) rfl (congrArg (fun q => v2_20 + q) (by decide)) (by decide) rfl (fun ls hl => ?_)
                refine lv_goto (tgt := 18) hx hb dX1_closeSteps_94 (by decide) ?_
                obtain rfl := Option.some.inj h
                exact k _ _ _ hw (lv_sub hl [1, 2, 0] rfl)
            clear h
            have h := hj
            clear hj
            refine lv_icmp_gt (tgt := 57) hx hb dX1_closeSteps_35 (by decide) (fun b6 => ?_) (fun b6 => ?_)
            · replace h := xb_tt b6 h
              obtain rfl := Option.some.inj h
              exact k _ _ _ hw (lv_sub hl [0, 1, 2] rfl)
            · replace h := xb_ff b6 h
              refine lv_aload_n hx hb dX1_closeSteps_38 rfl (lv_at hl 0 rfl) ?_
              refine lv_aload_n hx hb dX1_closeSteps_39 rfl (lv_at hl 0 rfl) ?_
              refine x_get (ci := 1) C hw inX1 rfl 5 (by decide) lkF_X1_28 rfl 0 rfl rfl dX1_closeSteps_40 ?_
              refine lv_iload_n hx hb dX1_closeSteps_43 rfl (lv_at hl 2 rfl) ?_
              refine x_iald C hw 5 0 rfl rfl b4 dX1_closeSteps_44 ?_
              refine lv_aload_n hx hb dX1_closeSteps_45 rfl (lv_at hl 0 rfl) ?_
              refine x_get (ci := 1) C hw inX1 rfl 5 (by decide) lkF_X1_28 rfl 0 rfl rfl dX1_closeSteps_46 ?_
              refine lv_iload_n hx hb dX1_closeSteps_49 rfl (lv_at hl 1 rfl) ?_
              refine x_iald C hw 5 0 rfl rfl b5 dX1_closeSteps_50 ?_
              obtain ⟨r_33, q7, h⟩ := xn_i h
              refine x_callSi (As := [.int (e_found_17 v2_20.toNatClampNeg), .int (e_found_17 v1_7.toNatClampNeg)]) (rest := [.ref e_ad]) C hw gc_X1_70 ds_X2_then (by rw [hR]; exact Nat.le_of_ble_eq_true rfl) (by rw [hR]; exact Nat.le_of_ble_eq_true rfl) rfl rfl (Nat.zero_le _) (Nat.zero_le _) (c_X2_then l dC dI cI cZ cB cO (e_found_17 v2_20.toNatClampNeg) (e_found_17 v1_7.toNatClampNeg) _ q7 _) [] [0, 1, 2, 3, 4, 5, 6] (by decide) rfl rfl (by decide) (by decide) rfl hl.1 rfl (Nat.le_of_ble_eq_true rfl) dX1_closeSteps_51 (fun H locs hw => ?_)
              have hw : xWd (dC, dI) A s.heap H locs (wE cI cZ cB cO e_ad e_p e_n e_steps_14 e_undoing_15 e_chains_16 e_leaving e_found_17 e_foundAt_18 e_foundCount_19) := hw.sub [0, 1, 2, 3, 4, 5, 6] (by decide) rfl
              obtain ⟨⟨e_steps_34, e_undoing_35, e_chains_36, e_found_37, e_foundAt_38, e_foundCount_39⟩, q8, h⟩ := xn_i h
              refine x_callVv (As := [.int r_33]) (rest := []) C hw gc_X1_50 ⟨rfl, rfl, ds_X1_take, (by rw [hR]; exact Nat.le_of_ble_eq_true rfl), (by rw [hR]; exact Nat.le_of_ble_eq_true rfl), Nat.zero_le _, Nat.zero_le _⟩ (c_X1_take l dC dI cI cZ cB cO e_ad e_p e_n e_steps_14 e_undoing_15 e_chains_16 e_leaving e_found_17 e_foundAt_18 e_foundCount_19 r_33 _ q8 _) [0, 1, 2, 3, 4, 5, 6] [] (by decide) rfl rfl (by decide) (by decide) rfl rfl rfl hl.1 rfl (Nat.le_of_ble_eq_true rfl) dX1_closeSteps_54 (fun H locs hw => ?_)
              have hw : xWd (dC, dI) A s.heap H locs (wE cI cZ cB cO e_ad e_p e_n e_steps_34 e_undoing_35 e_chains_36 e_leaving e_found_37 e_foundAt_38 e_foundCount_39) := hw
              obtain rfl := Option.some.inj h
              exact k _ _ _ hw (lv_sub hl [0, 1, 2] rfl)
        · obtain ⟨e_steps_21, e_undoing_22, e_chains_23, e_found_24, e_foundAt_25, e_foundCount_26⟩ := z
          intro H locs ls hw hl
          have hw : xWd (dC, dI) A s.heap H locs (wE cI cZ cB cO e_ad e_p e_n e_steps_21 e_undoing_22 e_chains_23 e_leaving e_found_24 e_foundAt_25 e_foundCount_26) := hw
          have hl : lv_has ls 3 [(0, .ref e_ad), (1, .int v1_7)] := hl
          refine lv_iinc (v := (v1_7 + (1 : Int32))) (lv' := [(1, .int (v1_7 + (1 : Int32))), (0, .ref e_ad)]) hx hb dX1_closeSteps_97 hl (k := 1) rfl (congrArg (fun q => v1_7 + q) (by decide)) (by decide) rfl (fun ls hl => ?_)
          refine lv_goto (tgt := 2) hx hb dX1_closeSteps_100 (by decide) ?_
          obtain rfl := Option.some.inj h
          exact k _ _ _ hw (lv_sub hl [1, 0] rfl)
  · obtain ⟨e_steps_8, e_undoing_9, e_chains_10, e_found_11, e_foundAt_12, e_foundCount_13⟩ := z
    intro H locs ls hw hl
    have hw : xWd (dC, dI) A s.heap H locs (wE cI cZ cB cO e_ad e_p e_n e_steps_8 e_undoing_9 e_chains_10 e_leaving e_found_11 e_foundAt_12 e_foundCount_13) := hw
    have hl : lv_has ls 3 [] := hl
    obtain rfl := Option.some.inj h
    exact x_retv C hQ hA hw dX1_closeSteps_103
noncomputable def f_X1_make_L3 (e_chains_28 : (Nat → Int32)) (z : (Nat → Int32) × Int32) : Option (((Nat → Int32) × Int32) ⊕ ((Nat → Int32))) := match z with
  | (e_leaving_32, v2_33) => xb (v2_33 < 0) (some (.inr e_leaving_32)) (xk (vp_in (v2_33 + (1 : Int32)) 9) (xk (vp_in v2_33 8) (xn (f_J6_bitCount_0f7a4 (e_chains_28 v2_33.toNatClampNeg)) (fun (r_35 : Int32) => xk (vp_in v2_33 9) (some (.inl ((upd e_leaving_32 v2_33.toNatClampNeg ((e_leaving_32 (v2_33 + (1 : Int32)).toNatClampNeg) * r_35)), (v2_33 + (-1 : Int32)))))))))
noncomputable def f_X1_make_L2 (s_count : Int32) (s_generators : (Nat → Int32)) (z : (Nat → Int32) × (Nat → Int32) × (Nat → Int32) × (Nat → Int32) × (Nat → Int32) × Int32 × Int32) : Option (((Nat → Int32) × (Nat → Int32) × (Nat → Int32) × (Nat → Int32) × (Nat → Int32) × Int32 × Int32) ⊕ ((Nat → Int32) × (Nat → Int32) × (Nat → Int32) × (Nat → Int32) × (Nat → Int32) × Int32)) := match z with
  | (e_steps_6, e_undoing_7, e_chains_8, e_found_9, e_foundAt_10, e_foundCount_11, v2_12) => xb (s_count ≤ v2_12) (some (.inr (e_steps_6, e_undoing_7, e_chains_8, e_found_9, e_foundAt_10, e_foundCount_11))) (xn (f_X4_generator s_count s_generators v2_12) (fun (r_19 : Int32) => xn (f_X1_take e_steps_6 e_undoing_7 e_chains_8 e_found_9 e_foundAt_10 e_foundCount_11 r_19) (fun (z : (Nat → Int32) × (Nat → Int32) × (Nat → Int32) × (Nat → Int32) × (Nat → Int32) × Int32) => match z with | (e_steps_20, e_undoing_21, e_chains_22, e_found_23, e_foundAt_24, e_foundCount_25) => some (.inl (e_steps_20, e_undoing_21, e_chains_22, e_found_23, e_foundAt_24, e_foundCount_25, (v2_12 + (1 : Int32)))))))
noncomputable def f_X1_make_L1  (z : (Nat → Int32) × (Nat → Int32) × Int32) : Option (((Nat → Int32) × (Nat → Int32) × Int32) ⊕ ((Nat → Int32) × (Nat → Int32))) := match z with
  | (e_steps_1, e_chains_2, v2_3) => xb ((8 : Int32) ≤ v2_3) (some (.inr (e_steps_1, e_chains_2))) (xk (vp_in v2_3 8) (xk (vp_in (((8 : Int32) * v2_3) + v2_3) 64) (some (.inl ((upd e_steps_1 (((8 : Int32) * v2_3) + v2_3).toNatClampNeg (16434824 : Int32)), (upd e_chains_2 v2_3.toNatClampNeg ((1 : Int32) <<< (v2_3 &&& 31))), (v2_3 + (1 : Int32)))))))
noncomputable def f_X1_make (e_n : Int32) (e_steps : (Nat → Int32)) (e_undoing : (Nat → Int32)) (e_chains : (Nat → Int32)) (e_leaving : (Nat → Int32)) (e_found : (Nat → Int32)) (e_foundAt : (Nat → Int32)) (e_foundCount : Int32) (s_n : Int32) (s_count : Int32) (s_generators : (Nat → Int32)) : Option (Int32 × (Nat → Int32) × (Nat → Int32) × (Nat → Int32) × (Nat → Int32) × (Nat → Int32) × (Nat → Int32) × Int32) := xn (xL f_X1_make_L1 (e_steps, e_chains, (0 : Int32))) (fun (z : (Nat → Int32) × (Nat → Int32)) => match z with | (e_steps_4, e_chains_5) => xn (xL (f_X1_make_L2 s_count s_generators) (e_steps_4, e_undoing, e_chains_5, e_found, e_foundAt, (0 : Int32), (0 : Int32))) (fun (z : (Nat → Int32) × (Nat → Int32) × (Nat → Int32) × (Nat → Int32) × (Nat → Int32) × Int32) => match z with | (e_steps_13, e_undoing_14, e_chains_15, e_found_16, e_foundAt_17, e_foundCount_18) => xn (f_X1_closeSteps e_steps_13 e_undoing_14 e_chains_15 e_found_16 e_foundAt_17 e_foundCount_18) (fun (z : (Nat → Int32) × (Nat → Int32) × (Nat → Int32) × (Nat → Int32) × (Nat → Int32) × Int32) => match z with | (e_steps_26, e_undoing_27, e_chains_28, e_found_29, e_foundAt_30, e_foundCount_31) => xn (xL (f_X1_make_L3 e_chains_28) ((upd e_leaving 8 (1 : Int32)), (7 : Int32))) (fun (e_leaving_34 : (Nat → Int32)) => some (s_n, e_steps_26, e_undoing_27, e_chains_28, e_leaving_34, e_found_29, e_foundAt_30, e_foundCount_31)))))
set_option maxHeartbeats 4000000 in
set_option maxRecDepth 100000 in
theorem c_X1_make (l : Launch) (dC : Nat → ClassId) (dI : Nat → Nat → Nat) (cI cZ cB cO : ClassId) (e_ad : Nat) (e_p : Nat → Nat) (s_ad : Nat) (s_p : Nat → Nat) (e_n : Int32) (e_steps : (Nat → Int32)) (e_undoing : (Nat → Int32)) (e_chains : (Nat → Int32)) (e_leaving : (Nat → Int32)) (e_found : (Nat → Int32)) (e_foundAt : (Nat → Int32)) (e_foundCount : Int32) (s_n : Int32) (s_count : Int32) (s_generators : (Nat → Int32)) (o : Int32 × (Nat → Int32) × (Nat → Int32) × (Nat → Int32) × (Nat → Int32) × (Nat → Int32) × (Nat → Int32) × Int32) (h : f_X1_make e_n e_steps e_undoing e_chains e_leaving e_found e_foundAt e_foundCount s_n s_count s_generators = some o) (sz : Nat) : Met l yX1_make (xW yX1_make cX1_make 3 none) { frames := 4, cells := 0, slots := 0, locals := 91 } (xPre dC dI (xT cI cZ cB cO) [.ref e_ad, .ref s_ad] ((wE cI cZ cB cO e_ad e_p e_n e_steps e_undoing e_chains e_leaving e_found e_foundAt e_foundCount) ++ (wS cI cZ cB cO s_ad s_p s_n s_count s_generators)) sz) (xQv dC dI (xT cI cZ cB cO) ((wE cI cZ cB cO e_ad e_p e_n e_steps e_undoing e_chains e_leaving e_found e_foundAt e_foundCount) ++ (wS cI cZ cB cO s_ad s_p s_n s_count s_generators)) ((wE cI cZ cB cO e_ad e_p o.1 o.2.1 o.2.2.1 o.2.2.2.1 o.2.2.2.2.1 o.2.2.2.2.2.1 o.2.2.2.2.2.2.1 o.2.2.2.2.2.2.2) ++ (wS cI cZ cB cO s_ad s_p s_n s_count s_generators)) sz) 0 0 (va_A ((wE cI cZ cB cO e_ad e_p e_n e_steps e_undoing e_chains e_leaving e_found e_foundAt e_foundCount) ++ (wS cI cZ cB cO s_ad s_p s_n s_count s_generators)) sz) := by
  refine x_met (by decide) (Nat.le_of_ble_eq_true rfl) ?_
  intro p e s m args below meth c R Q A hR hsz hA hQ hin C hw ls hl
  have hx := C.1
  have hb := C.2.1
  have hown := C.2.2.2.1
  have htb := C.2.2.2.2.1
  have hl : lv_has ls 3 [(0, .ref e_ad), (1, .ref s_ad)] := hl
  refine lv_aload_n hx hb dX1_make_0 rfl (lv_at hl 0 rfl) ?_
  refine lv_aload_n hx hb dX1_make_1 rfl (lv_at hl 1 rfl) ?_
  refine x_get (ci := 3) C hw inX4 rfl 0 (by decide) lkF_X1_37 rfl 7 rfl rfl dX1_make_2 ?_
  refine x_put (ci := 1) C hw inX1 tyX1 tyX1_ok nmX1 rfl 0 (by decide) lkF_X1_9 rfl rfl 0 rfl rfl rfl (Nat.le_of_ble_eq_true rfl) dX1_make_5 (fun H locs hw => ?_)
  have hw : xWd (dC, dI) A s.heap H locs ((wE cI cZ cB cO e_ad e_p s_n e_steps e_undoing e_chains e_leaving e_found e_foundAt e_foundCount) ++ (wS cI cZ cB cO s_ad s_p s_n s_count s_generators)) := hw
  refine lv_aload_n hx hb dX1_make_8 rfl (lv_at hl 0 rfl) ?_
  refine lv_iconst (v := (0 : Int32)) hx hb dX1_make_9 (by decide) ?_
  refine x_put (ci := 1) C hw inX1 tyX1 tyX1_ok nmX1 rfl 7 (by decide) lkF_X1_34 rfl rfl 0 rfl rfl rfl (Nat.le_of_ble_eq_true rfl) dX1_make_10 (fun H locs hw => ?_)
  have hw : xWd (dC, dI) A s.heap H locs ((wE cI cZ cB cO e_ad e_p s_n e_steps e_undoing e_chains e_leaving e_found e_foundAt (0 : Int32)) ++ (wS cI cZ cB cO s_ad s_p s_n s_count s_generators)) := hw
  refine lv_iconst (v := (0 : Int32)) hx hb dX1_make_13 (by decide) ?_
  refine lv_istore_n (lv' := [(2, .int (0 : Int32)), (0, .ref e_ad), (1, .ref s_ad)]) hx hb dX1_make_14 rfl hl (by decide) rfl (fun ls hl => ?_)
  obtain ⟨z, hr, h⟩ := xn_i h
  refine xL_w (fun (z : (Nat → Int32) × (Nat → Int32) × Int32) => ∀ (H : Heap) (locs : List Loc) (ls : Array Slot), xWd (dC, dI) A s.heap H locs ((wE cI cZ cB cO e_ad e_p s_n z.1 e_undoing z.2.1 e_leaving e_found e_foundAt (0 : Int32)) ++ (wS cI cZ cB cO s_ad s_p s_n s_count s_generators)) → lv_has ls 3 [(0, .ref e_ad), (1, .ref s_ad), (2, .int z.2.2)] → W p l e R s m args below meth c H locs 0 0 Q (F0 m 15 ls [])) (fun (z : (Nat → Int32) × (Nat → Int32)) => ∀ (H : Heap) (locs : List Loc) (ls : Array Slot), xWd (dC, dI) A s.heap H locs ((wE cI cZ cB cO e_ad e_p s_n z.1 e_undoing z.2 e_leaving e_found e_foundAt (0 : Int32)) ++ (wS cI cZ cB cO s_ad s_p s_n s_count s_generators)) → lv_has ls 3 [(0, .ref e_ad), (1, .ref s_ad)] → W p l e R s m args below meth c H locs 0 0 Q (F0 m 49 ls [])) ?_ hr ?_ _ _ _ hw (lv_sub hl [1, 2, 0] rfl)
  · rintro ⟨e_steps_1, e_chains_2, v2_3⟩ o h k H locs ls hw hl
    have hw : xWd (dC, dI) A s.heap H locs ((wE cI cZ cB cO e_ad e_p s_n e_steps_1 e_undoing e_chains_2 e_leaving e_found e_foundAt (0 : Int32)) ++ (wS cI cZ cB cO s_ad s_p s_n s_count s_generators)) := hw
    have hl : lv_has ls 3 [(0, .ref e_ad), (1, .ref s_ad), (2, .int v2_3)] := hl
    refine lv_iload_n hx hb dX1_make_15 rfl (lv_at hl 2 rfl) ?_
    refine lv_bipush (v := (8 : Int32)) hx hb dX1_make_16 (by decide) ?_
    refine lv_icmp_ge (tgt := 49) hx hb dX1_make_18 (by decide) (fun b1 => ?_) (fun b1 => ?_)
    · replace h := xb_tt b1 h
      obtain rfl := Option.some.inj h
      exact k _ _ _ hw (lv_sub hl [0, 1] rfl)
    · replace h := xb_ff b1 h
      refine lv_aload_n hx hb dX1_make_21 rfl (lv_at hl 0 rfl) ?_
      refine x_get (ci := 1) C hw inX1 rfl 3 (by decide) lkF_X1_22 rfl 0 rfl rfl dX1_make_22 ?_
      refine lv_iload_n hx hb dX1_make_25 rfl (lv_at hl 2 rfl) ?_
      refine lv_iconst (v := (1 : Int32)) hx hb dX1_make_26 (by decide) ?_
      refine lv_iload_n hx hb dX1_make_27 rfl (lv_at hl 2 rfl) ?_
      refine lv_ishl hx hb dX1_make_28 ?_
      obtain ⟨b2, h⟩ := xk_i h
      refine x_iast C hw 3 0 rfl rfl b2 dX1_make_29 (fun H locs hw => ?_)
      have hw : xWd (dC, dI) A s.heap H locs ((wE cI cZ cB cO e_ad e_p s_n e_steps_1 e_undoing (upd e_chains_2 v2_3.toNatClampNeg ((1 : Int32) <<< (v2_3 &&& 31))) e_leaving e_found e_foundAt (0 : Int32)) ++ (wS cI cZ cB cO s_ad s_p s_n s_count s_generators)) := hw
      refine lv_aload_n hx hb dX1_make_30 rfl (lv_at hl 0 rfl) ?_
      refine x_get (ci := 1) C hw inX1 rfl 1 (by decide) lkF_X1_15 rfl 0 rfl rfl dX1_make_31 ?_
      refine lv_bipush (v := (8 : Int32)) hx hb dX1_make_34 (by decide) ?_
      refine lv_iload_n hx hb dX1_make_36 rfl (lv_at hl 2 rfl) ?_
      refine lv_imul hx hb dX1_make_37 ?_
      refine lv_iload_n hx hb dX1_make_38 rfl (lv_at hl 2 rfl) ?_
      refine lv_iadd hx hb dX1_make_39 ?_
      refine lv_ldc hx hb hown (htb _ kI_X1_42) dX1_make_40 ?_
      obtain ⟨b3, h⟩ := xk_i h
      refine x_iast C hw 1 0 rfl rfl b3 dX1_make_42 (fun H locs hw => ?_)
      have hw : xWd (dC, dI) A s.heap H locs ((wE cI cZ cB cO e_ad e_p s_n (upd e_steps_1 (((8 : Int32) * v2_3) + v2_3).toNatClampNeg (16434824 : Int32)) e_undoing (upd e_chains_2 v2_3.toNatClampNeg ((1 : Int32) <<< (v2_3 &&& 31))) e_leaving e_found e_foundAt (0 : Int32)) ++ (wS cI cZ cB cO s_ad s_p s_n s_count s_generators)) := hw
      refine lv_iinc (v := (v2_3 + (1 : Int32))) (lv' := [(2, .int (v2_3 + (1 : Int32))), (0, .ref e_ad), (1, .ref s_ad)]) hx hb dX1_make_43 hl (k := 2) rfl (congrArg (fun q => v2_3 + q) (by decide)) (by decide) rfl (fun ls hl => ?_)
      refine lv_goto (tgt := 15) hx hb dX1_make_46 (by decide) ?_
      obtain rfl := Option.some.inj h
      exact k _ _ _ hw (lv_sub hl [1, 2, 0] rfl)
  · obtain ⟨e_steps_4, e_chains_5⟩ := z
    intro H locs ls hw hl
    have hw : xWd (dC, dI) A s.heap H locs ((wE cI cZ cB cO e_ad e_p s_n e_steps_4 e_undoing e_chains_5 e_leaving e_found e_foundAt (0 : Int32)) ++ (wS cI cZ cB cO s_ad s_p s_n s_count s_generators)) := hw
    have hl : lv_has ls 3 [(0, .ref e_ad), (1, .ref s_ad)] := hl
    refine lv_iconst (v := (0 : Int32)) hx hb dX1_make_49 (by decide) ?_
    refine lv_istore_n (lv' := [(2, .int (0 : Int32)), (0, .ref e_ad), (1, .ref s_ad)]) hx hb dX1_make_50 rfl hl (by decide) rfl (fun ls hl => ?_)
    obtain ⟨z, hr, h⟩ := xn_i h
    refine xL_w (fun (z : (Nat → Int32) × (Nat → Int32) × (Nat → Int32) × (Nat → Int32) × (Nat → Int32) × Int32 × Int32) => ∀ (H : Heap) (locs : List Loc) (ls : Array Slot), xWd (dC, dI) A s.heap H locs ((wE cI cZ cB cO e_ad e_p s_n z.1 z.2.1 z.2.2.1 e_leaving z.2.2.2.1 z.2.2.2.2.1 z.2.2.2.2.2.1) ++ (wS cI cZ cB cO s_ad s_p s_n s_count s_generators)) → lv_has ls 3 [(0, .ref e_ad), (1, .ref s_ad), (2, .int z.2.2.2.2.2.2)] → W p l e R s m args below meth c H locs 0 0 Q (F0 m 51 ls [])) (fun (z : (Nat → Int32) × (Nat → Int32) × (Nat → Int32) × (Nat → Int32) × (Nat → Int32) × Int32) => ∀ (H : Heap) (locs : List Loc) (ls : Array Slot), xWd (dC, dI) A s.heap H locs ((wE cI cZ cB cO e_ad e_p s_n z.1 z.2.1 z.2.2.1 e_leaving z.2.2.2.1 z.2.2.2.2.1 z.2.2.2.2.2) ++ (wS cI cZ cB cO s_ad s_p s_n s_count s_generators)) → lv_has ls 3 [(0, .ref e_ad)] → W p l e R s m args below meth c H locs 0 0 Q (F0 m 74 ls [])) ?_ hr ?_ _ _ _ hw (lv_sub hl [1, 2, 0] rfl)
    · rintro ⟨e_steps_6, e_undoing_7, e_chains_8, e_found_9, e_foundAt_10, e_foundCount_11, v2_12⟩ o h k H locs ls hw hl
      have hw : xWd (dC, dI) A s.heap H locs ((wE cI cZ cB cO e_ad e_p s_n e_steps_6 e_undoing_7 e_chains_8 e_leaving e_found_9 e_foundAt_10 e_foundCount_11) ++ (wS cI cZ cB cO s_ad s_p s_n s_count s_generators)) := hw
      have hl : lv_has ls 3 [(0, .ref e_ad), (1, .ref s_ad), (2, .int v2_12)] := hl
      refine lv_iload_n hx hb dX1_make_51 rfl (lv_at hl 2 rfl) ?_
      refine lv_aload_n hx hb dX1_make_52 rfl (lv_at hl 1 rfl) ?_
      refine x_get (ci := 3) C hw inX4 rfl 1 (by decide) lkF_X1_43 rfl 7 rfl rfl dX1_make_53 ?_
      refine lv_icmp_ge (tgt := 74) hx hb dX1_make_56 (by decide) (fun b4 => ?_) (fun b4 => ?_)
      · replace h := xb_tt b4 h
        obtain rfl := Option.some.inj h
        exact k _ _ _ hw (lv_sub hl [0] rfl)
      · replace h := xb_ff b4 h
        refine lv_aload_n hx hb dX1_make_59 rfl (lv_at hl 0 rfl) ?_
        refine lv_aload_n hx hb dX1_make_60 rfl (lv_at hl 1 rfl) ?_
        refine lv_iload_n hx hb dX1_make_61 rfl (lv_at hl 2 rfl) ?_
        obtain ⟨r_19, q5, h⟩ := xn_i h
        refine x_callVi (As := [.int v2_12]) (rest := [.ref e_ad]) C hw gc_X1_46 ⟨rfl, rfl, ds_X4_generator, (by rw [hR]; exact Nat.le_of_ble_eq_true rfl), (by rw [hR]; exact Nat.le_of_ble_eq_true rfl), Nat.zero_le _, Nat.zero_le _⟩ (c_X4_generator l dC dI cI cZ cB cO s_ad s_p s_n s_count s_generators v2_12 _ q5 _) [7, 8] [0, 1, 2, 3, 4, 5, 6] (by decide) rfl rfl (by decide) (by decide) rfl rfl rfl hl.1 rfl (Nat.le_of_ble_eq_true rfl) dX1_make_62 (fun H locs hw => ?_)
        have hw : xWd (dC, dI) A s.heap H locs ((wE cI cZ cB cO e_ad e_p s_n e_steps_6 e_undoing_7 e_chains_8 e_leaving e_found_9 e_foundAt_10 e_foundCount_11) ++ (wS cI cZ cB cO s_ad s_p s_n s_count s_generators)) := hw
        obtain ⟨⟨e_steps_20, e_undoing_21, e_chains_22, e_found_23, e_foundAt_24, e_foundCount_25⟩, q6, h⟩ := xn_i h
        refine x_callVv (As := [.int r_19]) (rest := []) C hw gc_X1_50 ⟨rfl, rfl, ds_X1_take, (by rw [hR]; exact Nat.le_of_ble_eq_true rfl), (by rw [hR]; exact Nat.le_of_ble_eq_true rfl), Nat.zero_le _, Nat.zero_le _⟩ (c_X1_take l dC dI cI cZ cB cO e_ad e_p s_n e_steps_6 e_undoing_7 e_chains_8 e_leaving e_found_9 e_foundAt_10 e_foundCount_11 r_19 _ q6 _) [0, 1, 2, 3, 4, 5, 6] [7, 8] (by decide) rfl rfl (by decide) (by decide) rfl rfl rfl hl.1 rfl (Nat.le_of_ble_eq_true rfl) dX1_make_65 (fun H locs hw => ?_)
        have hw : xWd (dC, dI) A s.heap H locs ((wE cI cZ cB cO e_ad e_p s_n e_steps_20 e_undoing_21 e_chains_22 e_leaving e_found_23 e_foundAt_24 e_foundCount_25) ++ (wS cI cZ cB cO s_ad s_p s_n s_count s_generators)) := hw.sub [2, 3, 4, 5, 6, 7, 8, 0, 1] (by decide) rfl
        refine lv_iinc (v := (v2_12 + (1 : Int32))) (lv' := [(2, .int (v2_12 + (1 : Int32))), (0, .ref e_ad), (1, .ref s_ad)]) hx hb dX1_make_68 hl (k := 2) rfl (congrArg (fun q => v2_12 + q) (by decide)) (by decide) rfl (fun ls hl => ?_)
        refine lv_goto (tgt := 51) hx hb dX1_make_71 (by decide) ?_
        obtain rfl := Option.some.inj h
        exact k _ _ _ hw (lv_sub hl [1, 2, 0] rfl)
    · obtain ⟨e_steps_13, e_undoing_14, e_chains_15, e_found_16, e_foundAt_17, e_foundCount_18⟩ := z
      intro H locs ls hw hl
      have hw : xWd (dC, dI) A s.heap H locs ((wE cI cZ cB cO e_ad e_p s_n e_steps_13 e_undoing_14 e_chains_15 e_leaving e_found_16 e_foundAt_17 e_foundCount_18) ++ (wS cI cZ cB cO s_ad s_p s_n s_count s_generators)) := hw
      have hl : lv_has ls 3 [(0, .ref e_ad)] := hl
      refine lv_aload_n hx hb dX1_make_74 rfl (lv_at hl 0 rfl) ?_
      obtain ⟨⟨e_steps_26, e_undoing_27, e_chains_28, e_found_29, e_foundAt_30, e_foundCount_31⟩, q7, h⟩ := xn_i h
      refine x_callVv (As := []) (rest := []) C hw gc_X1_54 ⟨rfl, rfl, ds_X1_closeSteps, (by rw [hR]; exact Nat.le_of_ble_eq_true rfl), (by rw [hR]; exact Nat.le_of_ble_eq_true rfl), Nat.zero_le _, Nat.zero_le _⟩ (c_X1_closeSteps l dC dI cI cZ cB cO e_ad e_p s_n e_steps_13 e_undoing_14 e_chains_15 e_leaving e_found_16 e_foundAt_17 e_foundCount_18 _ q7 _) [0, 1, 2, 3, 4, 5, 6] [7, 8] (by decide) rfl rfl (by decide) (by decide) rfl rfl rfl hl.1 rfl (Nat.le_of_ble_eq_true rfl) dX1_make_75 (fun H locs hw => ?_)
      have hw : xWd (dC, dI) A s.heap H locs ((wE cI cZ cB cO e_ad e_p s_n e_steps_26 e_undoing_27 e_chains_28 e_leaving e_found_29 e_foundAt_30 e_foundCount_31) ++ (wS cI cZ cB cO s_ad s_p s_n s_count s_generators)) := hw.sub [2, 3, 4, 5, 6, 7, 8, 0, 1] (by decide) rfl
      refine lv_aload_n hx hb dX1_make_78 rfl (lv_at hl 0 rfl) ?_
      refine x_get (ci := 1) C hw inX1 rfl 4 (by decide) lkF_X1_25 rfl 0 rfl rfl dX1_make_79 ?_
      refine lv_bipush (v := (8 : Int32)) hx hb dX1_make_82 (by decide) ?_
      refine lv_iconst (v := (1 : Int32)) hx hb dX1_make_84 (by decide) ?_
      refine x_iask C hw 4 0 rfl rfl (k := 8) (by decide) (vp_in_iff.mpr (by decide)) dX1_make_85 (fun H locs hw => ?_)
      have hw : xWd (dC, dI) A s.heap H locs ((wE cI cZ cB cO e_ad e_p s_n e_steps_26 e_undoing_27 e_chains_28 (upd e_leaving 8 (1 : Int32)) e_found_29 e_foundAt_30 e_foundCount_31) ++ (wS cI cZ cB cO s_ad s_p s_n s_count s_generators)) := hw
      refine lv_bipush (v := (7 : Int32)) hx hb dX1_make_86 (by decide) ?_
      refine lv_istore_n (lv' := [(2, .int (7 : Int32)), (0, .ref e_ad)]) hx hb dX1_make_88 rfl hl (by decide) rfl (fun ls hl => ?_)
      obtain ⟨z, hr, h⟩ := xn_i h
      refine xL_w (fun (z : (Nat → Int32) × Int32) => ∀ (H : Heap) (locs : List Loc) (ls : Array Slot), xWd (dC, dI) A s.heap H locs ((wE cI cZ cB cO e_ad e_p s_n e_steps_26 e_undoing_27 e_chains_28 z.1 e_found_29 e_foundAt_30 e_foundCount_31) ++ (wS cI cZ cB cO s_ad s_p s_n s_count s_generators)) → lv_has ls 3 [(0, .ref e_ad), (2, .int z.2)] → W p l e R s m args below meth c H locs 0 0 Q (F0 m 89 ls [])) (fun (z : (Nat → Int32)) => ∀ (H : Heap) (locs : List Loc) (ls : Array Slot), xWd (dC, dI) A s.heap H locs ((wE cI cZ cB cO e_ad e_p s_n e_steps_26 e_undoing_27 e_chains_28 z e_found_29 e_foundAt_30 e_foundCount_31) ++ (wS cI cZ cB cO s_ad s_p s_n s_count s_generators)) → lv_has ls 3 [] → W p l e R s m args below meth c H locs 0 0 Q (F0 m 123 ls [])) ?_ hr ?_ _ _ _ hw (lv_sub hl [1, 0] rfl)
      · rintro ⟨e_leaving_32, v2_33⟩ o h k H locs ls hw hl
        have hw : xWd (dC, dI) A s.heap H locs ((wE cI cZ cB cO e_ad e_p s_n e_steps_26 e_undoing_27 e_chains_28 e_leaving_32 e_found_29 e_foundAt_30 e_foundCount_31) ++ (wS cI cZ cB cO s_ad s_p s_n s_count s_generators)) := hw
        have hl : lv_has ls 3 [(0, .ref e_ad), (2, .int v2_33)] := hl
        refine lv_iload_n hx hb dX1_make_89 rfl (lv_at hl 1 rfl) ?_
        refine lv_if_lt (tgt := 123) hx hb dX1_make_90 (by decide) (fun b8 => ?_) (fun b8 => ?_)
        · replace h := xb_tt b8 h
          obtain rfl := Option.some.inj h
          exact k _ _ _ hw (lv_sub hl [] rfl)
        · replace h := xb_ff b8 h
          refine lv_aload_n hx hb dX1_make_93 rfl (lv_at hl 0 rfl) ?_
          refine x_get (ci := 1) C hw inX1 rfl 4 (by decide) lkF_X1_25 rfl 0 rfl rfl dX1_make_94 ?_
          refine lv_iload_n hx hb dX1_make_97 rfl (lv_at hl 1 rfl) ?_
          refine lv_aload_n hx hb dX1_make_98 rfl (lv_at hl 0 rfl) ?_
          refine x_get (ci := 1) C hw inX1 rfl 4 (by decide) lkF_X1_25 rfl 0 rfl rfl dX1_make_99 ?_
          refine lv_iload_n hx hb dX1_make_102 rfl (lv_at hl 1 rfl) ?_
          refine lv_iconst (v := (1 : Int32)) hx hb dX1_make_103 (by decide) ?_
          refine lv_iadd hx hb dX1_make_104 ?_
          obtain ⟨b9, h⟩ := xk_i h
          refine x_iald C hw 4 0 rfl rfl b9 dX1_make_105 ?_
          refine lv_aload_n hx hb dX1_make_106 rfl (lv_at hl 0 rfl) ?_
          refine x_get (ci := 1) C hw inX1 rfl 3 (by decide) lkF_X1_22 rfl 0 rfl rfl dX1_make_107 ?_
          refine lv_iload_n hx hb dX1_make_110 rfl (lv_at hl 1 rfl) ?_
          obtain ⟨b10, h⟩ := xk_i h
          refine x_iald C hw 3 0 rfl rfl b10 dX1_make_111 ?_
          obtain ⟨r_35, q11, h⟩ := xn_i h
          refine x_callSi (As := [.int (e_chains_28 v2_33.toNatClampNeg)]) (rest := [.int (e_leaving_32 (v2_33 + (1 : Int32)).toNatClampNeg), .int v2_33, .ref (e_p 4)]) C hw gc_X1_57 ds_J6_bitCount_0f7a4 (by rw [hR]; exact Nat.le_of_ble_eq_true rfl) (by rw [hR]; exact Nat.le_of_ble_eq_true rfl) rfl rfl (Nat.zero_le _) (Nat.zero_le _) (c_J6_bitCount_0f7a4 l dC dI cI cZ cB cO (e_chains_28 v2_33.toNatClampNeg) _ q11 _) [] [0, 1, 2, 3, 4, 5, 6, 7, 8] (by decide) rfl rfl (by decide) (by decide) rfl hl.1 rfl (Nat.le_of_ble_eq_true rfl) dX1_make_112 (fun H locs hw => ?_)
          have hw : xWd (dC, dI) A s.heap H locs ((wE cI cZ cB cO e_ad e_p s_n e_steps_26 e_undoing_27 e_chains_28 e_leaving_32 e_found_29 e_foundAt_30 e_foundCount_31) ++ (wS cI cZ cB cO s_ad s_p s_n s_count s_generators)) := hw.sub [0, 1, 2, 3, 4, 5, 6, 7, 8] (by decide) rfl
          refine lv_imul hx hb dX1_make_115 ?_
          obtain ⟨b12, h⟩ := xk_i h
          refine x_iast C hw 4 0 rfl rfl b12 dX1_make_116 (fun H locs hw => ?_)
          have hw : xWd (dC, dI) A s.heap H locs ((wE cI cZ cB cO e_ad e_p s_n e_steps_26 e_undoing_27 e_chains_28 (upd e_leaving_32 v2_33.toNatClampNeg ((e_leaving_32 (v2_33 + (1 : Int32)).toNatClampNeg) * r_35)) e_found_29 e_foundAt_30 e_foundCount_31) ++ (wS cI cZ cB cO s_ad s_p s_n s_count s_generators)) := hw
          refine lv_iinc (v := (v2_33 + (-1 : Int32))) (lv' := [(2, .int (v2_33 + (-1 : Int32))), (0, .ref e_ad)]) hx hb dX1_make_117 hl (k := 1) rfl (congrArg (fun q => v2_33 + q) (by decide)) (by decide) rfl (fun ls hl => ?_)
          refine lv_goto (tgt := 89) hx hb dX1_make_120 (by decide) ?_
          obtain rfl := Option.some.inj h
          exact k _ _ _ hw (lv_sub hl [1, 0] rfl)
      · obtain ⟨e_leaving_34, hz⟩ : ∃ q, q = z := ⟨z, rfl⟩
        subst hz
        intro H locs ls hw hl
        have hw : xWd (dC, dI) A s.heap H locs ((wE cI cZ cB cO e_ad e_p s_n e_steps_26 e_undoing_27 e_chains_28 e_leaving_34 e_found_29 e_foundAt_30 e_foundCount_31) ++ (wS cI cZ cB cO s_ad s_p s_n s_count s_generators)) := hw
        have hl : lv_has ls 3 [] := hl
        obtain rfl := Option.some.inj h
        exact x_retv C hQ hA hw dX1_make_123
noncomputable def f_X1_choices (e_chains : (Nat → Int32)) (v1 : Int32) (v2 : Int32) : Option (Int32) := xn (f_X1_chain e_chains v2) (fun (r_1 : Int32) => xn (f_X2_carry r_1 v1) (fun (r_2 : Int32) => some r_2))
set_option maxHeartbeats 4000000 in
set_option maxRecDepth 100000 in
theorem c_X1_choices (l : Launch) (dC : Nat → ClassId) (dI : Nat → Nat → Nat) (cI cZ cB cO : ClassId) (e_ad : Nat) (e_p : Nat → Nat) (e_n : Int32) (e_steps : (Nat → Int32)) (e_undoing : (Nat → Int32)) (e_chains : (Nat → Int32)) (e_leaving : (Nat → Int32)) (e_found : (Nat → Int32)) (e_foundAt : (Nat → Int32)) (e_foundCount : Int32) (v1 : Int32) (v2 : Int32) (o : Int32) (h : f_X1_choices e_chains v1 v2 = some o) (sz : Nat) : Met l yX1_choices (xW yX1_choices cX1_choices 3 (some .int)) { frames := 1, cells := 0, slots := 0, locals := 24 } (xPre dC dI (xT cI cZ cB cO) [.ref e_ad, .int v1, .int v2] (wE cI cZ cB cO e_ad e_p e_n e_steps e_undoing e_chains e_leaving e_found e_foundAt e_foundCount) sz) (xQi dC dI (xT cI cZ cB cO) o (wE cI cZ cB cO e_ad e_p e_n e_steps e_undoing e_chains e_leaving e_found e_foundAt e_foundCount) (wE cI cZ cB cO e_ad e_p e_n e_steps e_undoing e_chains e_leaving e_found e_foundAt e_foundCount) sz) 0 0 (va_A (wE cI cZ cB cO e_ad e_p e_n e_steps e_undoing e_chains e_leaving e_found e_foundAt e_foundCount) sz) := by
  refine x_met (by decide) (Nat.le_of_ble_eq_true rfl) ?_
  intro p e s m args below meth c R Q A hR hsz hA hQ hin C hw ls hl
  have hx := C.1
  have hb := C.2.1
  have hown := C.2.2.2.1
  have htb := C.2.2.2.2.1
  have hl : lv_has ls 3 [(0, .ref e_ad), (1, .int v1), (2, .int v2)] := hl
  refine lv_aload_n hx hb dX1_choices_0 rfl (lv_at hl 0 rfl) ?_
  refine lv_iload_n hx hb dX1_choices_1 rfl (lv_at hl 2 rfl) ?_
  obtain ⟨r_1, q1, h⟩ := xn_i h
  refine x_callVi (As := [.int v2]) (rest := []) C hw gc_X1_76 ⟨rfl, rfl, ds_X1_chain, (by rw [hR]; exact Nat.le_of_ble_eq_true rfl), (by rw [hR]; exact Nat.le_of_ble_eq_true rfl), Nat.zero_le _, Nat.zero_le _⟩ (c_X1_chain l dC dI cI cZ cB cO e_ad e_p e_n e_steps e_undoing e_chains e_leaving e_found e_foundAt e_foundCount v2 _ q1 _) [0, 1, 2, 3, 4, 5, 6] [] (by decide) rfl rfl (by decide) (by decide) rfl rfl rfl hl.1 rfl (Nat.le_of_ble_eq_true rfl) dX1_choices_2 (fun H locs hw => ?_)
  have hw : xWd (dC, dI) A s.heap H locs (wE cI cZ cB cO e_ad e_p e_n e_steps e_undoing e_chains e_leaving e_found e_foundAt e_foundCount) := hw
  refine lv_iload_n hx hb dX1_choices_5 rfl (lv_at hl 1 rfl) ?_
  obtain ⟨r_2, q2, h⟩ := xn_i h
  refine x_callSi (As := [.int r_1, .int v1]) (rest := []) C hw gc_X1_79 ds_X2_carry (by rw [hR]; exact Nat.le_of_ble_eq_true rfl) (by rw [hR]; exact Nat.le_of_ble_eq_true rfl) rfl rfl (Nat.zero_le _) (Nat.zero_le _) (c_X2_carry l dC dI cI cZ cB cO r_1 v1 _ q2 _) [] [0, 1, 2, 3, 4, 5, 6] (by decide) rfl rfl (by decide) (by decide) rfl hl.1 rfl (Nat.le_of_ble_eq_true rfl) dX1_choices_6 (fun H locs hw => ?_)
  have hw : xWd (dC, dI) A s.heap H locs (wE cI cZ cB cO e_ad e_p e_n e_steps e_undoing e_chains e_leaving e_found e_foundAt e_foundCount) := hw.sub [0, 1, 2, 3, 4, 5, 6] (by decide) rfl
  obtain rfl := Option.some.inj h
  exact x_reti C hQ hA hw dX1_choices_9
noncomputable def f_X1_goOn (e_steps : (Nat → Int32)) (v1 : Int32) (v2 : Int32) (v3 : Int32) : Option (Int32) := xn (f_X2_inverse v1) (fun (r_1 : Int32) => xn (f_X2_at r_1 v3) (fun (r_2 : Int32) => xn (f_X1_step e_steps v2 r_2) (fun (r_3 : Int32) => xn (f_X2_then r_3 v1) (fun (r_4 : Int32) => some r_4))))
set_option maxHeartbeats 4000000 in
set_option maxRecDepth 100000 in
theorem c_X1_goOn (l : Launch) (dC : Nat → ClassId) (dI : Nat → Nat → Nat) (cI cZ cB cO : ClassId) (e_ad : Nat) (e_p : Nat → Nat) (e_n : Int32) (e_steps : (Nat → Int32)) (e_undoing : (Nat → Int32)) (e_chains : (Nat → Int32)) (e_leaving : (Nat → Int32)) (e_found : (Nat → Int32)) (e_foundAt : (Nat → Int32)) (e_foundCount : Int32) (v1 : Int32) (v2 : Int32) (v3 : Int32) (o : Int32) (h : f_X1_goOn e_steps v1 v2 v3 = some o) (sz : Nat) : Met l yX1_goOn (xW yX1_goOn cX1_goOn 4 (some .int)) { frames := 1, cells := 0, slots := 0, locals := 23 } (xPre dC dI (xT cI cZ cB cO) [.ref e_ad, .int v1, .int v2, .int v3] (wE cI cZ cB cO e_ad e_p e_n e_steps e_undoing e_chains e_leaving e_found e_foundAt e_foundCount) sz) (xQi dC dI (xT cI cZ cB cO) o (wE cI cZ cB cO e_ad e_p e_n e_steps e_undoing e_chains e_leaving e_found e_foundAt e_foundCount) (wE cI cZ cB cO e_ad e_p e_n e_steps e_undoing e_chains e_leaving e_found e_foundAt e_foundCount) sz) 0 0 (va_A (wE cI cZ cB cO e_ad e_p e_n e_steps e_undoing e_chains e_leaving e_found e_foundAt e_foundCount) sz) := by
  refine x_met (by decide) (Nat.le_of_ble_eq_true rfl) ?_
  intro p e s m args below meth c R Q A hR hsz hA hQ hin C hw ls hl
  have hx := C.1
  have hb := C.2.1
  have hown := C.2.2.2.1
  have htb := C.2.2.2.2.1
  have hl : lv_has ls 4 [(0, .ref e_ad), (1, .int v1), (2, .int v2), (3, .int v3)] := hl
  refine lv_aload_n hx hb dX1_goOn_0 rfl (lv_at hl 0 rfl) ?_
  refine lv_iload_n hx hb dX1_goOn_1 rfl (lv_at hl 2 rfl) ?_
  refine lv_iload_n hx hb dX1_goOn_2 rfl (lv_at hl 1 rfl) ?_
  obtain ⟨r_1, q1, h⟩ := xn_i h
  refine x_callSi (As := [.int v1]) (rest := [.int v2, .ref e_ad]) C hw gc_X1_73 ds_X2_inverse (by rw [hR]; exact Nat.le_of_ble_eq_true rfl) (by rw [hR]; exact Nat.le_of_ble_eq_true rfl) rfl rfl (Nat.zero_le _) (Nat.zero_le _) (c_X2_inverse l dC dI cI cZ cB cO v1 _ q1 _) [] [0, 1, 2, 3, 4, 5, 6] (by decide) rfl rfl (by decide) (by decide) rfl hl.1 rfl (Nat.le_of_ble_eq_true rfl) dX1_goOn_3 (fun H locs hw => ?_)
  have hw : xWd (dC, dI) A s.heap H locs (wE cI cZ cB cO e_ad e_p e_n e_steps e_undoing e_chains e_leaving e_found e_foundAt e_foundCount) := hw.sub [0, 1, 2, 3, 4, 5, 6] (by decide) rfl
  refine lv_iload_n hx hb dX1_goOn_6 rfl (lv_at hl 3 rfl) ?_
  obtain ⟨r_2, q2, h⟩ := xn_i h
  refine x_callSi (As := [.int r_1, .int v3]) (rest := [.int v2, .ref e_ad]) C hw gc_X1_62 ds_X2_at (by rw [hR]; exact Nat.le_of_ble_eq_true rfl) (by rw [hR]; exact Nat.le_of_ble_eq_true rfl) rfl rfl (Nat.zero_le _) (Nat.zero_le _) (c_X2_at l dC dI cI cZ cB cO r_1 v3 _ q2 _) [] [0, 1, 2, 3, 4, 5, 6] (by decide) rfl rfl (by decide) (by decide) rfl hl.1 rfl (Nat.le_of_ble_eq_true rfl) dX1_goOn_7 (fun H locs hw => ?_)
  have hw : xWd (dC, dI) A s.heap H locs (wE cI cZ cB cO e_ad e_p e_n e_steps e_undoing e_chains e_leaving e_found e_foundAt e_foundCount) := hw.sub [0, 1, 2, 3, 4, 5, 6] (by decide) rfl
  obtain ⟨r_3, q3, h⟩ := xn_i h
  refine x_callVi (As := [.int v2, .int r_2]) (rest := []) C hw gc_X1_82 ⟨rfl, rfl, ds_X1_step, (by rw [hR]; exact Nat.le_of_ble_eq_true rfl), (by rw [hR]; exact Nat.le_of_ble_eq_true rfl), Nat.zero_le _, Nat.zero_le _⟩ (c_X1_step l dC dI cI cZ cB cO e_ad e_p e_n e_steps e_undoing e_chains e_leaving e_found e_foundAt e_foundCount v2 r_2 _ q3 _) [0, 1, 2, 3, 4, 5, 6] [] (by decide) rfl rfl (by decide) (by decide) rfl rfl rfl hl.1 rfl (Nat.le_of_ble_eq_true rfl) dX1_goOn_10 (fun H locs hw => ?_)
  have hw : xWd (dC, dI) A s.heap H locs (wE cI cZ cB cO e_ad e_p e_n e_steps e_undoing e_chains e_leaving e_found e_foundAt e_foundCount) := hw
  refine lv_iload_n hx hb dX1_goOn_13 rfl (lv_at hl 1 rfl) ?_
  obtain ⟨r_4, q4, h⟩ := xn_i h
  refine x_callSi (As := [.int r_3, .int v1]) (rest := []) C hw gc_X1_70 ds_X2_then (by rw [hR]; exact Nat.le_of_ble_eq_true rfl) (by rw [hR]; exact Nat.le_of_ble_eq_true rfl) rfl rfl (Nat.zero_le _) (Nat.zero_le _) (c_X2_then l dC dI cI cZ cB cO r_3 v1 _ q4 _) [] [0, 1, 2, 3, 4, 5, 6] (by decide) rfl rfl (by decide) (by decide) rfl hl.1 rfl (Nat.le_of_ble_eq_true rfl) dX1_goOn_14 (fun H locs hw => ?_)
  have hw : xWd (dC, dI) A s.heap H locs (wE cI cZ cB cO e_ad e_p e_n e_steps e_undoing e_chains e_leaving e_found e_foundAt e_foundCount) := hw.sub [0, 1, 2, 3, 4, 5, 6] (by decide) rfl
  obtain rfl := Option.some.inj h
  exact x_reti C hQ hA hw dX1_goOn_17
noncomputable def f_X1_rank_L1 (e_n : Int32) (v1 : Int32) (e_chains : (Nat → Int32)) (e_steps : (Nat → Int32)) (e_leaving : (Nat → Int32)) (z : Int32 × Int32 × Int32) : Option ((Int32 × Int32 × Int32) ⊕ ((Int32) ⊕ (Int32))) := match z with
  | (v2_1, v3_2, v4_3) => xb (e_n ≤ v4_3) (some (.inr (.inl v3_2))) (xb ((8 : Int32) ≤ v4_3) (some (.inr (.inl v3_2))) (xn (f_X2_at v1 v4_3) (fun (r_5 : Int32) => xn (f_X1_choices e_chains v2_1 v4_3) (fun (r_6 : Int32) => xb (((r_6 >>> (r_5 &&& 31)) &&& (1 : Int32)) = 0) (some (.inr (.inr (-1 : Int32)))) (xn (f_J6_bitCount_0f7a4 (r_6 &&& (((1 : Int32) <<< (r_5 &&& 31)) - (1 : Int32)))) (fun (r_7 : Int32) => xk (vp_in (v4_3 + (1 : Int32)) 9) (xn (f_X1_goOn e_steps v2_1 v4_3 r_5) (fun (r_8 : Int32) => some (.inl (r_8, (v3_2 + (r_7 * (e_leaving (v4_3 + (1 : Int32)).toNatClampNeg))), (v4_3 + (1 : Int32))))))))))))
noncomputable def f_X1_rank (e_n : Int32) (e_steps : (Nat → Int32)) (e_chains : (Nat → Int32)) (e_leaving : (Nat → Int32)) (v1 : Int32) : Option (Int32) := xn (xL (f_X1_rank_L1 e_n v1 e_chains e_steps e_leaving) ((16434824 : Int32), (0 : Int32), (0 : Int32))) (fun (x : (Int32) ⊕ (Int32)) => match x with | .inl z => (fun (v3_4 : Int32) => some v3_4) z | .inr z => some z)
set_option maxHeartbeats 4000000 in
set_option maxRecDepth 100000 in
theorem c_X1_rank (l : Launch) (dC : Nat → ClassId) (dI : Nat → Nat → Nat) (cI cZ cB cO : ClassId) (e_ad : Nat) (e_p : Nat → Nat) (e_n : Int32) (e_steps : (Nat → Int32)) (e_undoing : (Nat → Int32)) (e_chains : (Nat → Int32)) (e_leaving : (Nat → Int32)) (e_found : (Nat → Int32)) (e_foundAt : (Nat → Int32)) (e_foundCount : Int32) (v1 : Int32) (o : Int32) (h : f_X1_rank e_n e_steps e_chains e_leaving v1 = some o) (sz : Nat) : Met l yX1_rank (xW yX1_rank cX1_rank 7 (some .int)) { frames := 2, cells := 0, slots := 0, locals := 46 } (xPre dC dI (xT cI cZ cB cO) [.ref e_ad, .int v1] (wE cI cZ cB cO e_ad e_p e_n e_steps e_undoing e_chains e_leaving e_found e_foundAt e_foundCount) sz) (xQi dC dI (xT cI cZ cB cO) o (wE cI cZ cB cO e_ad e_p e_n e_steps e_undoing e_chains e_leaving e_found e_foundAt e_foundCount) (wE cI cZ cB cO e_ad e_p e_n e_steps e_undoing e_chains e_leaving e_found e_foundAt e_foundCount) sz) 0 0 (va_A (wE cI cZ cB cO e_ad e_p e_n e_steps e_undoing e_chains e_leaving e_found e_foundAt e_foundCount) sz) := by
  refine x_met (by decide) (Nat.le_of_ble_eq_true rfl) ?_
  intro p e s m args below meth c R Q A hR hsz hA hQ hin C hw ls hl
  have hx := C.1
  have hb := C.2.1
  have hown := C.2.2.2.1
  have htb := C.2.2.2.2.1
  have hl : lv_has ls 7 [(0, .ref e_ad), (1, .int v1)] := hl
  refine lv_ldc hx hb hown (htb _ kI_X1_42) dX1_rank_0 ?_
  refine lv_istore_n (lv' := [(2, .int (16434824 : Int32)), (0, .ref e_ad), (1, .int v1)]) hx hb dX1_rank_2 rfl hl (by decide) rfl (fun ls hl => ?_)
  refine lv_iconst (v := (0 : Int32)) hx hb dX1_rank_3 (by decide) ?_
  refine lv_istore_n (lv' := [(3, .int (0 : Int32)), (2, .int (16434824 : Int32)), (0, .ref e_ad), (1, .int v1)]) hx hb dX1_rank_4 rfl hl (by decide) rfl (fun ls hl => ?_)
  refine lv_iconst (v := (0 : Int32)) hx hb dX1_rank_5 (by decide) ?_
  refine lv_istore (lv' := [(4, .int (0 : Int32)), (3, .int (0 : Int32)), (2, .int (16434824 : Int32)), (0, .ref e_ad), (1, .int v1)]) hx hb dX1_rank_6 hl (by decide) rfl (fun ls hl => ?_)
  obtain ⟨z, hr, h⟩ := xn_i h
  refine xL_w (fun (z : Int32 × Int32 × Int32) => ∀ (H : Heap) (locs : List Loc) (ls : Array Slot), xWd (dC, dI) A s.heap H locs (wE cI cZ cB cO e_ad e_p e_n e_steps e_undoing e_chains e_leaving e_found e_foundAt e_foundCount) → lv_has ls 7 [(0, .ref e_ad), (1, .int v1), (2, .int z.1), (3, .int z.2.1), (4, .int z.2.2)] → W p l e R s m args below meth c H locs 0 0 Q (F0 m 8 ls [])) (Sum.elim (fun (z : Int32) => ∀ (H : Heap) (locs : List Loc) (ls : Array Slot), xWd (dC, dI) A s.heap H locs (wE cI cZ cB cO e_ad e_p e_n e_steps e_undoing e_chains e_leaving e_found e_foundAt e_foundCount) → lv_has ls 7 [(3, .int z)] → W p l e R s m args below meth c H locs 0 0 Q (F0 m 94 ls [])) (fun (z : Int32) => ∀ (H : Heap) (locs : List Loc), xWd (dC, dI) A s.heap H locs (wE cI cZ cB cO e_ad e_p e_n e_steps e_undoing e_chains e_leaving e_found e_foundAt e_foundCount) → ∀ (pc : Nat) (ls : Array Slot), decode cX1_rank pc = .ok (.ireturn, 1) → W p l e R s m args below meth c H locs 0 0 Q (F0 m pc ls [.int z]))) ?_ hr ?_ _ _ _ hw (lv_sub hl [3, 4, 2, 1, 0] rfl)
  · rintro ⟨v2_1, v3_2, v4_3⟩ o h k H locs ls hw hl
    have hw : xWd (dC, dI) A s.heap H locs (wE cI cZ cB cO e_ad e_p e_n e_steps e_undoing e_chains e_leaving e_found e_foundAt e_foundCount) := hw
    have hl : lv_has ls 7 [(0, .ref e_ad), (1, .int v1), (2, .int v2_1), (3, .int v3_2), (4, .int v4_3)] := hl
    refine lv_iload hx hb dX1_rank_8 (lv_at hl 4 rfl) ?_
    refine lv_aload_n hx hb dX1_rank_10 rfl (lv_at hl 0 rfl) ?_
    refine x_get (ci := 1) C hw inX1 rfl 0 (by decide) lkF_X1_9 rfl 0 rfl rfl dX1_rank_11 ?_
    refine lv_icmp_ge (tgt := 94) hx hb dX1_rank_14 (by decide) (fun b1 => ?_) (fun b1 => ?_)
    · replace h := xb_tt b1 h
      obtain rfl := Option.some.inj h
      exact k _ _ _ hw (lv_sub hl [3] rfl)
    · replace h := xb_ff b1 h
      refine lv_iload hx hb dX1_rank_17 (lv_at hl 4 rfl) ?_
      refine lv_bipush (v := (8 : Int32)) hx hb dX1_rank_19 (by decide) ?_
      refine lv_icmp_ge (tgt := 94) hx hb dX1_rank_21 (by decide) (fun b2 => ?_) (fun b2 => ?_)
      · replace h := xb_tt b2 h
        obtain rfl := Option.some.inj h
        exact k _ _ _ hw (lv_sub hl [3] rfl)
      · replace h := xb_ff b2 h
        refine lv_iload_n hx hb dX1_rank_24 rfl (lv_at hl 1 rfl) ?_
        refine lv_iload hx hb dX1_rank_25 (lv_at hl 4 rfl) ?_
        obtain ⟨r_5, q3, h⟩ := xn_i h
        refine x_callSi (As := [.int v1, .int v4_3]) (rest := []) C hw gc_X1_62 ds_X2_at (by rw [hR]; exact Nat.le_of_ble_eq_true rfl) (by rw [hR]; exact Nat.le_of_ble_eq_true rfl) rfl rfl (Nat.zero_le _) (Nat.zero_le _) (c_X2_at l dC dI cI cZ cB cO v1 v4_3 _ q3 _) [] [0, 1, 2, 3, 4, 5, 6] (by decide) rfl rfl (by decide) (by decide) rfl hl.1 rfl (Nat.le_of_ble_eq_true rfl) dX1_rank_27 (fun H locs hw => ?_)
        have hw : xWd (dC, dI) A s.heap H locs (wE cI cZ cB cO e_ad e_p e_n e_steps e_undoing e_chains e_leaving e_found e_foundAt e_foundCount) := hw.sub [0, 1, 2, 3, 4, 5, 6] (by decide) rfl
        refine lv_istore (lv' := [(5, .int r_5), (0, .ref e_ad), (1, .int v1), (2, .int v2_1), (3, .int v3_2), (4, .int v4_3)]) hx hb dX1_rank_30 hl (by decide) rfl (fun ls hl => ?_)
        refine lv_aload_n hx hb dX1_rank_32 rfl (lv_at hl 1 rfl) ?_
        refine lv_iload_n hx hb dX1_rank_33 rfl (lv_at hl 3 rfl) ?_
        refine lv_iload hx hb dX1_rank_34 (lv_at hl 5 rfl) ?_
        obtain ⟨r_6, q4, h⟩ := xn_i h
        refine x_callVi (As := [.int v2_1, .int v4_3]) (rest := []) C hw gc_X1_85 ⟨rfl, rfl, ds_X1_choices, (by rw [hR]; exact Nat.le_of_ble_eq_true rfl), (by rw [hR]; exact Nat.le_of_ble_eq_true rfl), Nat.zero_le _, Nat.zero_le _⟩ (c_X1_choices l dC dI cI cZ cB cO e_ad e_p e_n e_steps e_undoing e_chains e_leaving e_found e_foundAt e_foundCount v2_1 v4_3 _ q4 _) [0, 1, 2, 3, 4, 5, 6] [] (by decide) rfl rfl (by decide) (by decide) rfl rfl rfl hl.1 rfl (Nat.le_of_ble_eq_true rfl) dX1_rank_36 (fun H locs hw => ?_)
        have hw : xWd (dC, dI) A s.heap H locs (wE cI cZ cB cO e_ad e_p e_n e_steps e_undoing e_chains e_leaving e_found e_foundAt e_foundCount) := hw
        refine lv_istore (lv' := [(6, .int r_6), (5, .int r_5), (0, .ref e_ad), (1, .int v1), (2, .int v2_1), (3, .int v3_2), (4, .int v4_3)]) hx hb dX1_rank_39 hl (by decide) rfl (fun ls hl => ?_)
        refine lv_iload hx hb dX1_rank_41 (lv_at hl 0 rfl) ?_
        refine lv_iload hx hb dX1_rank_43 (lv_at hl 1 rfl) ?_
        refine lv_ishr hx hb dX1_rank_45 ?_
        refine lv_iconst (v := (1 : Int32)) hx hb dX1_rank_46 (by decide) ?_
        refine lv_iand hx hb dX1_rank_47 ?_
        refine lv_if_ne (tgt := 53) hx hb dX1_rank_48 (by decide) (fun b5 => ?_) (fun b5 => ?_)
        · replace h := xb_ff b5 h
          refine lv_iload_n hx hb dX1_rank_53 rfl (lv_at hl 5 rfl) ?_
          refine lv_iload hx hb dX1_rank_54 (lv_at hl 0 rfl) ?_
          refine lv_iconst (v := (1 : Int32)) hx hb dX1_rank_56 (by decide) ?_
          refine lv_iload hx hb dX1_rank_57 (lv_at hl 1 rfl) ?_
          refine lv_ishl hx hb dX1_rank_59 ?_
          refine lv_iconst (v := (1 : Int32)) hx hb dX1_rank_60 (by decide) ?_
          refine lv_isub hx hb dX1_rank_61 ?_
          refine lv_iand hx hb dX1_rank_62 ?_
          obtain ⟨r_7, q6, h⟩ := xn_i h
          refine x_callSi (As := [.int (r_6 &&& (((1 : Int32) <<< (r_5 &&& 31)) - (1 : Int32)))]) (rest := [.int v3_2]) C hw gc_X1_57 ds_J6_bitCount_0f7a4 (by rw [hR]; exact Nat.le_of_ble_eq_true rfl) (by rw [hR]; exact Nat.le_of_ble_eq_true rfl) rfl rfl (Nat.zero_le _) (Nat.zero_le _) (c_J6_bitCount_0f7a4 l dC dI cI cZ cB cO (r_6 &&& (((1 : Int32) <<< (r_5 &&& 31)) - (1 : Int32))) _ q6 _) [] [0, 1, 2, 3, 4, 5, 6] (by decide) rfl rfl (by decide) (by decide) rfl hl.1 rfl (Nat.le_of_ble_eq_true rfl) dX1_rank_63 (fun H locs hw => ?_)
          have hw : xWd (dC, dI) A s.heap H locs (wE cI cZ cB cO e_ad e_p e_n e_steps e_undoing e_chains e_leaving e_found e_foundAt e_foundCount) := hw.sub [0, 1, 2, 3, 4, 5, 6] (by decide) rfl
          refine lv_aload_n hx hb dX1_rank_66 rfl (lv_at hl 2 rfl) ?_
          refine x_get (ci := 1) C hw inX1 rfl 4 (by decide) lkF_X1_25 rfl 0 rfl rfl dX1_rank_67 ?_
          refine lv_iload hx hb dX1_rank_70 (lv_at hl 6 rfl) ?_
          refine lv_iconst (v := (1 : Int32)) hx hb dX1_rank_72 (by decide) ?_
          refine lv_iadd hx hb dX1_rank_73 ?_
          obtain ⟨b7, h⟩ := xk_i h
          refine x_iald C hw 4 0 rfl rfl b7 dX1_rank_74 ?_
          refine lv_imul hx hb dX1_rank_75 ?_
          refine lv_iadd hx hb dX1_rank_76 ?_
          refine lv_istore_n (lv' := [(3, .int (v3_2 + (r_7 * (e_leaving (v4_3 + (1 : Int32)).toNatClampNeg)))), (6, .int r_6), (5, .int r_5), (0, .ref e_ad), (1, .int v1), (2, .int v2_1), (4, .int v4_3)]) hx hb dX1_rank_77 rfl hl (by decide) rfl (fun ls hl => ?_)
          refine lv_aload_n hx hb dX1_rank_78 rfl (lv_at hl 3 rfl) ?_
          refine lv_iload_n hx hb dX1_rank_79 rfl (lv_at hl 5 rfl) ?_
          refine lv_iload hx hb dX1_rank_80 (lv_at hl 6 rfl) ?_
          refine lv_iload hx hb dX1_rank_82 (lv_at hl 2 rfl) ?_
          obtain ⟨r_8, q8, h⟩ := xn_i h
          refine x_callVi (As := [.int v2_1, .int v4_3, .int r_5]) (rest := []) C hw gc_X1_88 ⟨rfl, rfl, ds_X1_goOn, (by rw [hR]; exact Nat.le_of_ble_eq_true rfl), (by rw [hR]; exact Nat.le_of_ble_eq_true rfl), Nat.zero_le _, Nat.zero_le _⟩ (c_X1_goOn l dC dI cI cZ cB cO e_ad e_p e_n e_steps e_undoing e_chains e_leaving e_found e_foundAt e_foundCount v2_1 v4_3 r_5 _ q8 _) [0, 1, 2, 3, 4, 5, 6] [] (by decide) rfl rfl (by decide) (by decide) rfl rfl rfl hl.1 rfl (Nat.le_of_ble_eq_true rfl) dX1_rank_84 (fun H locs hw => ?_)
          have hw : xWd (dC, dI) A s.heap H locs (wE cI cZ cB cO e_ad e_p e_n e_steps e_undoing e_chains e_leaving e_found e_foundAt e_foundCount) := hw
          refine lv_istore_n (lv' := [(2, .int r_8), (3, .int (v3_2 + (r_7 * (e_leaving (v4_3 + (1 : Int32)).toNatClampNeg)))), (6, .int r_6), (5, .int r_5), (0, .ref e_ad), (1, .int v1), (4, .int v4_3)]) hx hb dX1_rank_87 rfl hl (by decide) rfl (fun ls hl => ?_)
          refine lv_iinc (v := (v4_3 + (1 : Int32))) (lv' := [(4, .int (v4_3 + (1 : Int32))), (2, .int r_8), (3, .int (v3_2 + (r_7 * (e_leaving (v4_3 + (1 : Int32)).toNatClampNeg)))), (6, .int r_6), (5, .int r_5), (0, .ref e_ad), (1, .int v1)]) hx hb dX1_rank_88 hl (k := 6) rfl (congrArg (fun q => v4_3 + q) (by decide)) (by decide) rfl (fun ls hl => ?_)
          refine lv_goto (tgt := 8) hx hb dX1_rank_91 (by decide) ?_
          obtain rfl := Option.some.inj h
          exact k _ _ _ hw (lv_sub hl [5, 6, 1, 2, 0] rfl)
        · replace h := xb_tt b5 h
          refine lv_iconst (v := (-1 : Int32)) hx hb dX1_rank_51 (by decide) ?_
          obtain rfl := Option.some.inj h
          exact k _ _ hw _ _ dX1_rank_52
  · rcases z with z | z
    · obtain ⟨v3_4, hz⟩ : ∃ q, q = z := ⟨z, rfl⟩
      subst hz
      intro H locs ls hw hl
      have hw : xWd (dC, dI) A s.heap H locs (wE cI cZ cB cO e_ad e_p e_n e_steps e_undoing e_chains e_leaving e_found e_foundAt e_foundCount) := hw
      have hl : lv_has ls 7 [(3, .int v3_4)] := hl
      refine lv_iload_n hx hb dX1_rank_94 rfl (lv_at hl 0 rfl) ?_
      obtain rfl := Option.some.inj h
      exact x_reti C hQ hA hw dX1_rank_95
    · obtain rfl := Option.some.inj h
      intro H locs hw pc ls hd
      exact x_reti C hQ hA hw hd
noncomputable def f_X1_withRank_L2 (r_5 : Int32) (v4_3 : Int32) (e_leaving : (Nat → Int32)) (z : Int32 × Int32) : Option ((Int32 × Int32) ⊕ (Int32 × Int32)) := match z with
  | (v3_6, v6_7) => xb ((7 : Int32) ≤ v6_7) (some (.inr (v3_6, v6_7))) (xb (((r_5 >>> (v6_7 &&& 31)) &&& (1 : Int32)) = 0) (xk (vp_in (v4_3 + (1 : Int32)) 9) (some (.inl ((v3_6 - (((r_5 >>> (v6_7 &&& 31)) &&& (1 : Int32)) * (e_leaving (v4_3 + (1 : Int32)).toNatClampNeg))), (v6_7 + (1 : Int32)))))) (xk (vp_in (v4_3 + (1 : Int32)) 9) (xb (v3_6 < (e_leaving (v4_3 + (1 : Int32)).toNatClampNeg)) (some (.inr (v3_6, v6_7))) (some (.inl ((v3_6 - (((r_5 >>> (v6_7 &&& 31)) &&& (1 : Int32)) * (e_leaving (v4_3 + (1 : Int32)).toNatClampNeg))), (v6_7 + (1 : Int32))))))))
noncomputable def f_X1_withRank_L1 (e_n : Int32) (e_chains : (Nat → Int32)) (e_leaving : (Nat → Int32)) (e_steps : (Nat → Int32)) (z : Int32 × Int32 × Int32) : Option ((Int32 × Int32 × Int32) ⊕ (Int32)) := match z with
  | (v2_1, v3_2, v4_3) => xb (e_n ≤ v4_3) (some (.inr v2_1)) (xb ((8 : Int32) ≤ v4_3) (some (.inr v2_1)) (xn (f_X1_choices e_chains v2_1 v4_3) (fun (r_5 : Int32) => xn (xL (f_X1_withRank_L2 r_5 v4_3 e_leaving) (v3_2, (0 : Int32))) (fun (z : Int32 × Int32) => match z with | (v3_8, v6_9) => xn (f_X1_goOn e_steps v2_1 v4_3 v6_9) (fun (r_10 : Int32) => some (.inl (r_10, v3_8, (v4_3 + (1 : Int32)))))))))
noncomputable def f_X1_withRank (e_n : Int32) (e_steps : (Nat → Int32)) (e_chains : (Nat → Int32)) (e_leaving : (Nat → Int32)) (v1 : Int32) : Option (Int32) := xn (xL (f_X1_withRank_L1 e_n e_chains e_leaving e_steps) ((16434824 : Int32), v1, (0 : Int32))) (fun (v2_4 : Int32) => some v2_4)
set_option maxHeartbeats 4000000 in
set_option maxRecDepth 100000 in
theorem c_X1_withRank (l : Launch) (dC : Nat → ClassId) (dI : Nat → Nat → Nat) (cI cZ cB cO : ClassId) (e_ad : Nat) (e_p : Nat → Nat) (e_n : Int32) (e_steps : (Nat → Int32)) (e_undoing : (Nat → Int32)) (e_chains : (Nat → Int32)) (e_leaving : (Nat → Int32)) (e_found : (Nat → Int32)) (e_foundAt : (Nat → Int32)) (e_foundCount : Int32) (v1 : Int32) (o : Int32) (h : f_X1_withRank e_n e_steps e_chains e_leaving v1 = some o) (sz : Nat) : Met l yX1_withRank (xW yX1_withRank cX1_withRank 7 (some .int)) { frames := 2, cells := 0, slots := 0, locals := 46 } (xPre dC dI (xT cI cZ cB cO) [.ref e_ad, .int v1] (wE cI cZ cB cO e_ad e_p e_n e_steps e_undoing e_chains e_leaving e_found e_foundAt e_foundCount) sz) (xQi dC dI (xT cI cZ cB cO) o (wE cI cZ cB cO e_ad e_p e_n e_steps e_undoing e_chains e_leaving e_found e_foundAt e_foundCount) (wE cI cZ cB cO e_ad e_p e_n e_steps e_undoing e_chains e_leaving e_found e_foundAt e_foundCount) sz) 0 0 (va_A (wE cI cZ cB cO e_ad e_p e_n e_steps e_undoing e_chains e_leaving e_found e_foundAt e_foundCount) sz) := by
  refine x_met (by decide) (Nat.le_of_ble_eq_true rfl) ?_
  intro p e s m args below meth c R Q A hR hsz hA hQ hin C hw ls hl
  have hx := C.1
  have hb := C.2.1
  have hown := C.2.2.2.1
  have htb := C.2.2.2.2.1
  have hl : lv_has ls 7 [(0, .ref e_ad), (1, .int v1)] := hl
  refine lv_ldc hx hb hown (htb _ kI_X1_42) dX1_withRank_0 ?_
  refine lv_istore_n (lv' := [(2, .int (16434824 : Int32)), (0, .ref e_ad), (1, .int v1)]) hx hb dX1_withRank_2 rfl hl (by decide) rfl (fun ls hl => ?_)
  refine lv_iload_n hx hb dX1_withRank_3 rfl (lv_at hl 2 rfl) ?_
  refine lv_istore_n (lv' := [(3, .int v1), (2, .int (16434824 : Int32)), (0, .ref e_ad), (1, .int v1)]) hx hb dX1_withRank_4 rfl hl (by decide) rfl (fun ls hl => ?_)
  refine lv_iconst (v := (0 : Int32)) hx hb dX1_withRank_5 (by decide) ?_
  refine lv_istore (lv' := [(4, .int (0 : Int32)), (3, .int v1), (2, .int (16434824 : Int32)), (0, .ref e_ad), (1, .int v1)]) hx hb dX1_withRank_6 hl (by decide) rfl (fun ls hl => ?_)
  obtain ⟨z, hr, h⟩ := xn_i h
  refine xL_w (fun (z : Int32 × Int32 × Int32) => ∀ (H : Heap) (locs : List Loc) (ls : Array Slot), xWd (dC, dI) A s.heap H locs (wE cI cZ cB cO e_ad e_p e_n e_steps e_undoing e_chains e_leaving e_found e_foundAt e_foundCount) → lv_has ls 7 [(0, .ref e_ad), (2, .int z.1), (3, .int z.2.1), (4, .int z.2.2)] → W p l e R s m args below meth c H locs 0 0 Q (F0 m 8 ls [])) (fun (z : Int32) => ∀ (H : Heap) (locs : List Loc) (ls : Array Slot), xWd (dC, dI) A s.heap H locs (wE cI cZ cB cO e_ad e_p e_n e_steps e_undoing e_chains e_leaving e_found e_foundAt e_foundCount) → lv_has ls 7 [(2, .int z)] → W p l e R s m args below meth c H locs 0 0 Q (F0 m 108 ls [])) ?_ hr ?_ _ _ _ hw (lv_sub hl [3, 2, 1, 0] rfl)
  · rintro ⟨v2_1, v3_2, v4_3⟩ o h k H locs ls hw hl
    have hw : xWd (dC, dI) A s.heap H locs (wE cI cZ cB cO e_ad e_p e_n e_steps e_undoing e_chains e_leaving e_found e_foundAt e_foundCount) := hw
    have hl : lv_has ls 7 [(0, .ref e_ad), (2, .int v2_1), (3, .int v3_2), (4, .int v4_3)] := hl
    refine lv_iload hx hb dX1_withRank_8 (lv_at hl 3 rfl) ?_
    refine lv_aload_n hx hb dX1_withRank_10 rfl (lv_at hl 0 rfl) ?_
    refine x_get (ci := 1) C hw inX1 rfl 0 (by decide) lkF_X1_9 rfl 0 rfl rfl dX1_withRank_11 ?_
    refine lv_icmp_ge (tgt := 108) hx hb dX1_withRank_14 (by decide) (fun b1 => ?_) (fun b1 => ?_)
    · replace h := xb_tt b1 h
      obtain rfl := Option.some.inj h
      exact k _ _ _ hw (lv_sub hl [1] rfl)
    · replace h := xb_ff b1 h
      refine lv_iload hx hb dX1_withRank_17 (lv_at hl 3 rfl) ?_
      refine lv_bipush (v := (8 : Int32)) hx hb dX1_withRank_19 (by decide) ?_
      refine lv_icmp_ge (tgt := 108) hx hb dX1_withRank_21 (by decide) (fun b2 => ?_) (fun b2 => ?_)
      · replace h := xb_tt b2 h
        obtain rfl := Option.some.inj h
        exact k _ _ _ hw (lv_sub hl [1] rfl)
      · replace h := xb_ff b2 h
        refine lv_aload_n hx hb dX1_withRank_24 rfl (lv_at hl 0 rfl) ?_
        refine lv_iload_n hx hb dX1_withRank_25 rfl (lv_at hl 1 rfl) ?_
        refine lv_iload hx hb dX1_withRank_26 (lv_at hl 3 rfl) ?_
        obtain ⟨r_5, q3, h⟩ := xn_i h
        refine x_callVi (As := [.int v2_1, .int v4_3]) (rest := []) C hw gc_X1_85 ⟨rfl, rfl, ds_X1_choices, (by rw [hR]; exact Nat.le_of_ble_eq_true rfl), (by rw [hR]; exact Nat.le_of_ble_eq_true rfl), Nat.zero_le _, Nat.zero_le _⟩ (c_X1_choices l dC dI cI cZ cB cO e_ad e_p e_n e_steps e_undoing e_chains e_leaving e_found e_foundAt e_foundCount v2_1 v4_3 _ q3 _) [0, 1, 2, 3, 4, 5, 6] [] (by decide) rfl rfl (by decide) (by decide) rfl rfl rfl hl.1 rfl (Nat.le_of_ble_eq_true rfl) dX1_withRank_28 (fun H locs hw => ?_)
        have hw : xWd (dC, dI) A s.heap H locs (wE cI cZ cB cO e_ad e_p e_n e_steps e_undoing e_chains e_leaving e_found e_foundAt e_foundCount) := hw
        refine lv_istore (lv' := [(5, .int r_5), (0, .ref e_ad), (2, .int v2_1), (3, .int v3_2), (4, .int v4_3)]) hx hb dX1_withRank_31 hl (by decide) rfl (fun ls hl => ?_)
        refine lv_iconst (v := (0 : Int32)) hx hb dX1_withRank_33 (by decide) ?_
        refine lv_istore (lv' := [(6, .int (0 : Int32)), (5, .int r_5), (0, .ref e_ad), (2, .int v2_1), (3, .int v3_2), (4, .int v4_3)]) hx hb dX1_withRank_34 hl (by decide) rfl (fun ls hl => ?_)
        obtain ⟨z, hr, h⟩ := xn_i h
        refine xL_w (fun (z : Int32 × Int32) => ∀ (H : Heap) (locs : List Loc) (ls : Array Slot), xWd (dC, dI) A s.heap H locs (wE cI cZ cB cO e_ad e_p e_n e_steps e_undoing e_chains e_leaving e_found e_foundAt e_foundCount) → lv_has ls 7 [(0, .ref e_ad), (2, .int v2_1), (3, .int z.1), (4, .int v4_3), (5, .int r_5), (6, .int z.2)] → W p l e R s m args below meth c H locs 0 0 Q (F0 m 36 ls [])) (fun (z : Int32 × Int32) => ∀ (H : Heap) (locs : List Loc) (ls : Array Slot), xWd (dC, dI) A s.heap H locs (wE cI cZ cB cO e_ad e_p e_n e_steps e_undoing e_chains e_leaving e_found e_foundAt e_foundCount) → lv_has ls 7 [(0, .ref e_ad), (2, .int v2_1), (3, .int z.1), (4, .int v4_3), (6, .int z.2)] → W p l e R s m args below meth c H locs 0 0 Q (F0 m 92 ls [])) ?_ hr ?_ _ _ _ hw (lv_sub hl [2, 3, 4, 5, 1, 0] rfl)
        · rintro ⟨v3_6, v6_7⟩ o h k H locs ls hw hl
          have hw : xWd (dC, dI) A s.heap H locs (wE cI cZ cB cO e_ad e_p e_n e_steps e_undoing e_chains e_leaving e_found e_foundAt e_foundCount) := hw
          have hl : lv_has ls 7 [(0, .ref e_ad), (2, .int v2_1), (3, .int v3_6), (4, .int v4_3), (5, .int r_5), (6, .int v6_7)] := hl
          refine lv_iload hx hb dX1_withRank_36 (lv_at hl 5 rfl) ?_
          refine lv_bipush (v := (7 : Int32)) hx hb dX1_withRank_38 (by decide) ?_
          refine lv_icmp_ge (tgt := 92) hx hb dX1_withRank_40 (by decide) (fun b4 => ?_) (fun b4 => ?_)
          · replace h := xb_tt b4 h
            obtain rfl := Option.some.inj h
            exact k _ _ _ hw (lv_sub hl [0, 1, 2, 3, 5] rfl)
          · replace h := xb_ff b4 h
            refine lv_iload hx hb dX1_withRank_43 (lv_at hl 4 rfl) ?_
            refine lv_iload hx hb dX1_withRank_45 (lv_at hl 5 rfl) ?_
            refine lv_ishr hx hb dX1_withRank_47 ?_
            refine lv_iconst (v := (1 : Int32)) hx hb dX1_withRank_48 (by decide) ?_
            refine lv_iand hx hb dX1_withRank_49 ?_
            refine lv_if_eq (tgt := 66) hx hb dX1_withRank_50 (by decide) (fun b5 => ?_) (fun b5 => ?_)
            · replace h := xb_tt b5 h
              refine lv_iload_n hx hb dX1_withRank_66 rfl (lv_at hl 2 rfl) ?_
              refine lv_iload hx hb dX1_withRank_67 (lv_at hl 4 rfl) ?_
              refine lv_iload hx hb dX1_withRank_69 (lv_at hl 5 rfl) ?_
              refine lv_ishr hx hb dX1_withRank_71 ?_
              refine lv_iconst (v := (1 : Int32)) hx hb dX1_withRank_72 (by decide) ?_
              refine lv_iand hx hb dX1_withRank_73 ?_
              refine lv_aload_n hx hb dX1_withRank_74 rfl (lv_at hl 0 rfl) ?_
              refine x_get (ci := 1) C hw inX1 rfl 4 (by decide) lkF_X1_25 rfl 0 rfl rfl dX1_withRank_75 ?_
              refine lv_iload hx hb dX1_withRank_78 (lv_at hl 3 rfl) ?_
              refine lv_iconst (v := (1 : Int32)) hx hb dX1_withRank_80 (by decide) ?_
              refine lv_iadd hx hb dX1_withRank_81 ?_
              obtain ⟨b6, h⟩ := xk_i h
              refine x_iald C hw 4 0 rfl rfl b6 dX1_withRank_82 ?_
              refine lv_imul hx hb dX1_withRank_83 ?_
              refine lv_isub hx hb dX1_withRank_84 ?_
              refine lv_istore_n (lv' := [(3, .int (v3_6 - (((r_5 >>> (v6_7 &&& 31)) &&& (1 : Int32)) * (e_leaving (v4_3 + (1 : Int32)).toNatClampNeg)))), (0, .ref e_ad), (2, .int v2_1), (4, .int v4_3), (5, .int r_5), (6, .int v6_7)]) hx hb dX1_withRank_85 rfl hl (by decide) rfl (fun ls hl => ?_)
              refine lv_iinc (v := (v6_7 + (1 : Int32))) (lv' := [(6, .int (v6_7 + (1 : Int32))), (3, .int (v3_6 - (((r_5 >>> (v6_7 &&& 31)) &&& (1 : Int32)) * (e_leaving (v4_3 + (1 : Int32)).toNatClampNeg)))), (0, .ref e_ad), (2, .int v2_1), (4, .int v4_3), (5, .int r_5)]) hx hb dX1_withRank_86 hl (k := 5) rfl (congrArg (fun q => v6_7 + q) (by decide)) (by decide) rfl (fun ls hl => ?_)
              refine lv_goto (tgt := 36) hx hb dX1_withRank_89 (by decide) ?_
              obtain rfl := Option.some.inj h
              exact k _ _ _ hw (lv_sub hl [2, 3, 1, 4, 5, 0] rfl)
            · replace h := xb_ff b5 h
              refine lv_iload_n hx hb dX1_withRank_53 rfl (lv_at hl 2 rfl) ?_
              refine lv_aload_n hx hb dX1_withRank_54 rfl (lv_at hl 0 rfl) ?_
              refine x_get (ci := 1) C hw inX1 rfl 4 (by decide) lkF_X1_25 rfl 0 rfl rfl dX1_withRank_55 ?_
              refine lv_iload hx hb dX1_withRank_58 (lv_at hl 3 rfl) ?_
              refine lv_iconst (v := (1 : Int32)) hx hb dX1_withRank_60 (by decide) ?_
              refine lv_iadd hx hb dX1_withRank_61 ?_
              obtain ⟨b7, h⟩ := xk_i h
              refine x_iald C hw 4 0 rfl rfl b7 dX1_withRank_62 ?_
              refine lv_icmp_lt (tgt := 92) hx hb dX1_withRank_63 (by decide) (fun b8 => ?_) (fun b8 => ?_)
              · replace h := xb_tt b8 h
                obtain rfl := Option.some.inj h
                exact k _ _ _ hw (lv_sub hl [0, 1, 2, 3, 5] rfl)
              · replace h := xb_ff b8 h
                refine lv_iload_n hx hb dX1_withRank_66 rfl (lv_at hl 2 rfl) ?_
                refine lv_iload hx hb dX1_withRank_67 (lv_at hl 4 rfl) ?_
                refine lv_iload hx hb dX1_withRank_69 (lv_at hl 5 rfl) ?_
                refine lv_ishr hx hb dX1_withRank_71 ?_
                refine lv_iconst (v := (1 : Int32)) hx hb dX1_withRank_72 (by decide) ?_
                refine lv_iand hx hb dX1_withRank_73 ?_
                refine lv_aload_n hx hb dX1_withRank_74 rfl (lv_at hl 0 rfl) ?_
                refine x_get (ci := 1) C hw inX1 rfl 4 (by decide) lkF_X1_25 rfl 0 rfl rfl dX1_withRank_75 ?_
                refine lv_iload hx hb dX1_withRank_78 (lv_at hl 3 rfl) ?_
                refine lv_iconst (v := (1 : Int32)) hx hb dX1_withRank_80 (by decide) ?_
                refine lv_iadd hx hb dX1_withRank_81 ?_
                refine x_iald C hw 4 0 rfl rfl b7 dX1_withRank_82 ?_
                refine lv_imul hx hb dX1_withRank_83 ?_
                refine lv_isub hx hb dX1_withRank_84 ?_
                refine lv_istore_n (lv' := [(3, .int (v3_6 - (((r_5 >>> (v6_7 &&& 31)) &&& (1 : Int32)) * (e_leaving (v4_3 + (1 : Int32)).toNatClampNeg)))), (0, .ref e_ad), (2, .int v2_1), (4, .int v4_3), (5, .int r_5), (6, .int v6_7)]) hx hb dX1_withRank_85 rfl hl (by decide) rfl (fun ls hl => ?_)
                refine lv_iinc (v := (v6_7 + (1 : Int32))) (lv' := [(6, .int (v6_7 + (1 : Int32))), (3, .int (v3_6 - (((r_5 >>> (v6_7 &&& 31)) &&& (1 : Int32)) * (e_leaving (v4_3 + (1 : Int32)).toNatClampNeg)))), (0, .ref e_ad), (2, .int v2_1), (4, .int v4_3), (5, .int r_5)]) hx hb dX1_withRank_86 hl (k := 5) rfl (congrArg (fun q => v6_7 + q) (by decide)) (by decide) rfl (fun ls hl => ?_)
                refine lv_goto (tgt := 36) hx hb dX1_withRank_89 (by decide) ?_
                obtain rfl := Option.some.inj h
                exact k _ _ _ hw (lv_sub hl [2, 3, 1, 4, 5, 0] rfl)
        · obtain ⟨v3_8, v6_9⟩ := z
          intro H locs ls hw hl
          have hw : xWd (dC, dI) A s.heap H locs (wE cI cZ cB cO e_ad e_p e_n e_steps e_undoing e_chains e_leaving e_found e_foundAt e_foundCount) := hw
          have hl : lv_has ls 7 [(0, .ref e_ad), (2, .int v2_1), (3, .int v3_8), (4, .int v4_3), (6, .int v6_9)] := hl
          refine lv_aload_n hx hb dX1_withRank_92 rfl (lv_at hl 0 rfl) ?_
          refine lv_iload_n hx hb dX1_withRank_93 rfl (lv_at hl 1 rfl) ?_
          refine lv_iload hx hb dX1_withRank_94 (lv_at hl 3 rfl) ?_
          refine lv_iload hx hb dX1_withRank_96 (lv_at hl 4 rfl) ?_
          obtain ⟨r_10, q9, h⟩ := xn_i h
          refine x_callVi (As := [.int v2_1, .int v4_3, .int v6_9]) (rest := []) C hw gc_X1_88 ⟨rfl, rfl, ds_X1_goOn, (by rw [hR]; exact Nat.le_of_ble_eq_true rfl), (by rw [hR]; exact Nat.le_of_ble_eq_true rfl), Nat.zero_le _, Nat.zero_le _⟩ (c_X1_goOn l dC dI cI cZ cB cO e_ad e_p e_n e_steps e_undoing e_chains e_leaving e_found e_foundAt e_foundCount v2_1 v4_3 v6_9 _ q9 _) [0, 1, 2, 3, 4, 5, 6] [] (by decide) rfl rfl (by decide) (by decide) rfl rfl rfl hl.1 rfl (Nat.le_of_ble_eq_true rfl) dX1_withRank_98 (fun H locs hw => ?_)
          have hw : xWd (dC, dI) A s.heap H locs (wE cI cZ cB cO e_ad e_p e_n e_steps e_undoing e_chains e_leaving e_found e_foundAt e_foundCount) := hw
          refine lv_istore_n (lv' := [(2, .int r_10), (0, .ref e_ad), (3, .int v3_8), (4, .int v4_3), (6, .int v6_9)]) hx hb dX1_withRank_101 rfl hl (by decide) rfl (fun ls hl => ?_)
          refine lv_iinc (v := (v4_3 + (1 : Int32))) (lv' := [(4, .int (v4_3 + (1 : Int32))), (2, .int r_10), (0, .ref e_ad), (3, .int v3_8), (6, .int v6_9)]) hx hb dX1_withRank_102 hl (k := 3) rfl (congrArg (fun q => v4_3 + q) (by decide)) (by decide) rfl (fun ls hl => ?_)
          refine lv_goto (tgt := 8) hx hb dX1_withRank_105 (by decide) ?_
          obtain rfl := Option.some.inj h
          exact k _ _ _ hw (lv_sub hl [2, 1, 3, 0] rfl)
  · obtain ⟨v2_4, hz⟩ : ∃ q, q = z := ⟨z, rfl⟩
    subst hz
    intro H locs ls hw hl
    have hw : xWd (dC, dI) A s.heap H locs (wE cI cZ cB cO e_ad e_p e_n e_steps e_undoing e_chains e_leaving e_found e_foundAt e_foundCount) := hw
    have hl : lv_has ls 7 [(2, .int v2_4)] := hl
    refine lv_iload_n hx hb dX1_withRank_108 rfl (lv_at hl 0 rfl) ?_
    obtain rfl := Option.some.inj h
    exact x_reti C hQ hA hw dX1_withRank_109
