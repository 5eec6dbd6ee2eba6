theorem dMo_goesRound_6 : decode zbMo_goesRound 6 = .ok (.istore 5, 2) := by decide +kernel
theorem dMo_goesRound_8 : decode zbMo_goesRound 8 = .ok (.iload 5, 2) := by decide +kernel
theorem dMo_goesRound_10 : decode zbMo_goesRound 10 = .ok (.bipush 10, 2) := by decide +kernel
theorem dMo_goesRound_12 : decode zbMo_goesRound 12 = .ok (.if_icmp .ge 47, 3) := by decide +kernel
theorem dMo_goesRound_15 : decode zbMo_goesRound 15 = .ok (.iload 4, 2) := by decide +kernel
theorem dMo_goesRound_17 : decode zbMo_goesRound 17 = .ok (.ifCond .ne 42, 3) := by decide +kernel
theorem dMo_goesRound_20 : decode zbMo_goesRound 20 = .ok (.aload_n 0, 1) := by decide +kernel
theorem dMo_goesRound_21 : decode zbMo_goesRound 21 = .ok (.getfield 42, 3) := by decide +kernel
theorem dMo_goesRound_24 : decode zbMo_goesRound 24 = .ok (.iload_n 1, 1) := by decide +kernel
theorem dMo_goesRound_25 : decode zbMo_goesRound 25 = .ok (.iload_n 3, 1) := by decide +kernel
theorem dMo_goesRound_26 : decode zbMo_goesRound 26 = .ok (.iadd, 1) := by decide +kernel
theorem dMo_goesRound_27 : decode zbMo_goesRound 27 = .ok (.iaload, 1) := by decide +kernel
theorem dMo_goesRound_28 : decode zbMo_goesRound 28 = .ok (.iconst 4, 1) := by decide +kernel
theorem dMo_goesRound_29 : decode zbMo_goesRound 29 = .ok (.if_icmp .ne 30, 3) := by decide +kernel
theorem dMo_goesRound_32 : decode zbMo_goesRound 32 = .ok (.aload_n 0, 1) := by decide +kernel
theorem dMo_goesRound_33 : decode zbMo_goesRound 33 = .ok (.getfield 45, 3) := by decide +kernel
theorem dMo_goesRound_36 : decode zbMo_goesRound 36 = .ok (.iload_n 1, 1) := by decide +kernel
theorem dMo_goesRound_37 : decode zbMo_goesRound 37 = .ok (.iload_n 3, 1) := by decide +kernel
theorem dMo_goesRound_38 : decode zbMo_goesRound 38 = .ok (.iadd, 1) := by decide +kernel
theorem dMo_goesRound_39 : decode zbMo_goesRound 39 = .ok (.iaload, 1) := by decide +kernel
theorem dMo_goesRound_40 : decode zbMo_goesRound 40 = .ok (.istore_n 3, 1) := by decide +kernel
theorem dMo_goesRound_41 : decode zbMo_goesRound 41 = .ok (.iload_n 3, 1) := by decide +kernel
theorem dMo_goesRound_42 : decode zbMo_goesRound 42 = .ok (.iload_n 2, 1) := by decide +kernel
theorem dMo_goesRound_43 : decode zbMo_goesRound 43 = .ok (.if_icmp .ne 7, 3) := by decide +kernel
theorem dMo_goesRound_46 : decode zbMo_goesRound 46 = .ok (.iconst 1, 1) := by decide +kernel
theorem dMo_goesRound_47 : decode zbMo_goesRound 47 = .ok (.goto 4, 3) := by decide +kernel
theorem dMo_goesRound_50 : decode zbMo_goesRound 50 = .ok (.iconst 0, 1) := by decide +kernel
theorem dMo_goesRound_51 : decode zbMo_goesRound 51 = .ok (.istore 4, 2) := by decide +kernel
theorem dMo_goesRound_53 : decode zbMo_goesRound 53 = .ok (.iinc 5 1, 3) := by decide +kernel
theorem dMo_goesRound_56 : decode zbMo_goesRound 56 = .ok (.goto (-48), 3) := by decide +kernel
theorem dMo_goesRound_59 : decode zbMo_goesRound 59 = .ok (.iload 4, 2) := by decide +kernel
theorem dMo_goesRound_61 : decode zbMo_goesRound 61 = .ok (.ireturn, 1) := by decide +kernel
theorem dMo_faultOf_0 : decode zbMo_faultOf 0 = .ok (.iload_n 2, 1) := by decide +kernel
theorem dMo_faultOf_1 : decode zbMo_faultOf 1 = .ok (.ifCond .ge 7, 3) := by decide +kernel
theorem dMo_faultOf_4 : decode zbMo_faultOf 4 = .ok (.iconst (-1), 1) := by decide +kernel
theorem dMo_faultOf_5 : decode zbMo_faultOf 5 = .ok (.iload_n 2, 1) := by decide +kernel
theorem dMo_faultOf_6 : decode zbMo_faultOf 6 = .ok (.isub, 1) := by decide +kernel
theorem dMo_faultOf_7 : decode zbMo_faultOf 7 = .ok (.ireturn, 1) := by decide +kernel
theorem dMo_faultOf_8 : decode zbMo_faultOf 8 = .ok (.iconst 0, 1) := by decide +kernel
theorem dMo_faultOf_9 : decode zbMo_faultOf 9 = .ok (.istore_n 3, 1) := by decide +kernel
theorem dMo_faultOf_10 : decode zbMo_faultOf 10 = .ok (.iload_n 3, 1) := by decide +kernel
theorem dMo_faultOf_11 : decode zbMo_faultOf 11 = .ok (.iload_n 2, 1) := by decide +kernel
theorem dMo_faultOf_12 : decode zbMo_faultOf 12 = .ok (.if_icmp .ge 25, 3) := by decide +kernel
theorem dMo_faultOf_15 : decode zbMo_faultOf 15 = .ok (.aload_n 0, 1) := by decide +kernel
theorem dMo_faultOf_16 : decode zbMo_faultOf 16 = .ok (.iload_n 1, 1) := by decide +kernel
theorem dMo_faultOf_17 : decode zbMo_faultOf 17 = .ok (.iload_n 3, 1) := by decide +kernel
theorem dMo_faultOf_18 : decode zbMo_faultOf 18 = .ok (.iload_n 2, 1) := by decide +kernel
theorem dMo_faultOf_19 : decode zbMo_faultOf 19 = .ok (.invokevirtual 101, 3) := by decide +kernel
theorem dMo_faultOf_22 : decode zbMo_faultOf 22 = .ok (.ifCond .ne 9, 3) := by decide +kernel
theorem dMo_faultOf_25 : decode zbMo_faultOf 25 = .ok (.sipush 200, 3) := by decide +kernel
theorem dMo_faultOf_28 : decode zbMo_faultOf 28 = .ok (.iload_n 3, 1) := by decide +kernel
theorem dMo_faultOf_29 : decode zbMo_faultOf 29 = .ok (.iadd, 1) := by decide +kernel
theorem dMo_faultOf_30 : decode zbMo_faultOf 30 = .ok (.ireturn, 1) := by decide +kernel
theorem dMo_faultOf_31 : decode zbMo_faultOf 31 = .ok (.iinc 3 1, 3) := by decide +kernel
theorem dMo_faultOf_34 : decode zbMo_faultOf 34 = .ok (.goto (-24), 3) := by decide +kernel
theorem dMo_faultOf_37 : decode zbMo_faultOf 37 = .ok (.iconst 0, 1) := by decide +kernel
theorem dMo_faultOf_38 : decode zbMo_faultOf 38 = .ok (.istore_n 3, 1) := by decide +kernel
theorem dMo_faultOf_39 : decode zbMo_faultOf 39 = .ok (.iload_n 3, 1) := by decide +kernel
theorem dMo_faultOf_40 : decode zbMo_faultOf 40 = .ok (.iload_n 2, 1) := by decide +kernel
theorem dMo_faultOf_41 : decode zbMo_faultOf 41 = .ok (.if_icmp .ge 24, 3) := by decide +kernel
theorem dMo_faultOf_44 : decode zbMo_faultOf 44 = .ok (.aload_n 0, 1) := by decide +kernel
theorem dMo_faultOf_45 : decode zbMo_faultOf 45 = .ok (.iload_n 1, 1) := by decide +kernel
theorem dMo_faultOf_46 : decode zbMo_faultOf 46 = .ok (.iload_n 3, 1) := by decide +kernel
theorem dMo_faultOf_47 : decode zbMo_faultOf 47 = .ok (.invokevirtual 105, 3) := by decide +kernel
theorem dMo_faultOf_50 : decode zbMo_faultOf 50 = .ok (.ifCond .eq 9, 3) := by decide +kernel
theorem dMo_faultOf_53 : decode zbMo_faultOf 53 = .ok (.sipush 300, 3) := by decide +kernel
theorem dMo_faultOf_56 : decode zbMo_faultOf 56 = .ok (.iload_n 3, 1) := by decide +kernel
theorem dMo_faultOf_57 : decode zbMo_faultOf 57 = .ok (.iadd, 1) := by decide +kernel
theorem dMo_faultOf_58 : decode zbMo_faultOf 58 = .ok (.ireturn, 1) := by decide +kernel
theorem dMo_faultOf_59 : decode zbMo_faultOf 59 = .ok (.iinc 3 1, 3) := by decide +kernel
theorem dMo_faultOf_62 : decode zbMo_faultOf 62 = .ok (.goto (-23), 3) := by decide +kernel
theorem dMo_faultOf_65 : decode zbMo_faultOf 65 = .ok (.iconst (-1), 1) := by decide +kernel
theorem dMo_faultOf_66 : decode zbMo_faultOf 66 = .ok (.ireturn, 1) := by decide +kernel
theorem dMo_copy_0 : decode zbMo_copy 0 = .ok (.iconst 0, 1) := by decide +kernel
theorem dMo_copy_1 : decode zbMo_copy 1 = .ok (.istore_n 3, 1) := by decide +kernel
theorem dMo_copy_2 : decode zbMo_copy 2 = .ok (.iload_n 3, 1) := by decide +kernel
theorem dMo_copy_3 : decode zbMo_copy 3 = .ok (.bipush 71, 2) := by decide +kernel
theorem dMo_copy_5 : decode zbMo_copy 5 = .ok (.if_icmp .ge 31, 3) := by decide +kernel
theorem dMo_copy_8 : decode zbMo_copy 8 = .ok (.aload_n 0, 1) := by decide +kernel
theorem dMo_copy_9 : decode zbMo_copy 9 = .ok (.getfield 54, 3) := by decide +kernel
theorem dMo_copy_12 : decode zbMo_copy 12 = .ok (.bipush 71, 2) := by decide +kernel
theorem dMo_copy_14 : decode zbMo_copy 14 = .ok (.iload_n 2, 1) := by decide +kernel
theorem dMo_copy_15 : decode zbMo_copy 15 = .ok (.imul, 1) := by decide +kernel
theorem dMo_copy_16 : decode zbMo_copy 16 = .ok (.iload_n 3, 1) := by decide +kernel
theorem dMo_copy_17 : decode zbMo_copy 17 = .ok (.iadd, 1) := by decide +kernel
theorem dMo_copy_18 : decode zbMo_copy 18 = .ok (.aload_n 0, 1) := by decide +kernel
theorem dMo_copy_19 : decode zbMo_copy 19 = .ok (.getfield 54, 3) := by decide +kernel
theorem dMo_copy_22 : decode zbMo_copy 22 = .ok (.bipush 71, 2) := by decide +kernel
theorem dMo_copy_24 : decode zbMo_copy 24 = .ok (.iload_n 1, 1) := by decide +kernel
theorem dMo_copy_25 : decode zbMo_copy 25 = .ok (.imul, 1) := by decide +kernel
theorem dMo_copy_26 : decode zbMo_copy 26 = .ok (.iload_n 3, 1) := by decide +kernel
theorem dMo_copy_27 : decode zbMo_copy 27 = .ok (.iadd, 1) := by decide +kernel
theorem dMo_copy_28 : decode zbMo_copy 28 = .ok (.iaload, 1) := by decide +kernel
theorem dMo_copy_29 : decode zbMo_copy 29 = .ok (.iastore, 1) := by decide +kernel
theorem dMo_copy_30 : decode zbMo_copy 30 = .ok (.iinc 3 1, 3) := by decide +kernel
theorem dMo_copy_33 : decode zbMo_copy 33 = .ok (.goto (-31), 3) := by decide +kernel
theorem dMo_copy_36 : decode zbMo_copy 36 = .ok (.return_, 1) := by decide +kernel
theorem dMo_dayAfter_0 : decode zbMo_dayAfter 0 = .ok (.iload_n 1, 1) := by decide +kernel
theorem dMo_dayAfter_1 : decode zbMo_dayAfter 1 = .ok (.istore_n 3, 1) := by decide +kernel
theorem dMo_dayAfter_2 : decode zbMo_dayAfter 2 = .ok (.iload_n 2, 1) := by decide +kernel
theorem dMo_dayAfter_3 : decode zbMo_dayAfter 3 = .ok (.istore 4, 2) := by decide +kernel
theorem dMo_dayAfter_5 : decode zbMo_dayAfter 5 = .ok (.iload 4, 2) := by decide +kernel
theorem dMo_dayAfter_7 : decode zbMo_dayAfter 7 = .ok (.ifCond .le 36, 3) := by decide +kernel
theorem dMo_dayAfter_10 : decode zbMo_dayAfter 10 = .ok (.iload_n 3, 1) := by decide +kernel
theorem dMo_dayAfter_11 : decode zbMo_dayAfter 11 = .ok (.iconst 1, 1) := by decide +kernel
theorem dMo_dayAfter_12 : decode zbMo_dayAfter 12 = .ok (.iadd, 1) := by decide +kernel
theorem dMo_dayAfter_13 : decode zbMo_dayAfter 13 = .ok (.istore_n 3, 1) := by decide +kernel
theorem dMo_dayAfter_14 : decode zbMo_dayAfter 14 = .ok (.iload_n 3, 1) := by decide +kernel
theorem dMo_dayAfter_15 : decode zbMo_dayAfter 15 = .ok (.bipush 60, 2) := by decide +kernel
theorem dMo_dayAfter_17 : decode zbMo_dayAfter 17 = .ok (.if_icmp .gt 12, 3) := by decide +kernel
theorem dMo_dayAfter_20 : decode zbMo_dayAfter 20 = .ok (.aload_n 0, 1) := by decide +kernel
theorem dMo_dayAfter_21 : decode zbMo_dayAfter 21 = .ok (.getfield 17, 3) := by decide +kernel
theorem dMo_dayAfter_24 : decode zbMo_dayAfter 24 = .ok (.iload_n 3, 1) := by decide +kernel
theorem dMo_dayAfter_25 : decode zbMo_dayAfter 25 = .ok (.baload, 1) := by decide +kernel
theorem dMo_dayAfter_26 : decode zbMo_dayAfter 26 = .ok (.ifCond .ne 10, 3) := by decide +kernel
theorem dMo_dayAfter_29 : decode zbMo_dayAfter 29 = .ok (.iload 4, 2) := by decide +kernel
theorem dMo_dayAfter_31 : decode zbMo_dayAfter 31 = .ok (.iconst 1, 1) := by decide +kernel
theorem dMo_dayAfter_32 : decode zbMo_dayAfter 32 = .ok (.isub, 1) := by decide +kernel
theorem dMo_dayAfter_33 : decode zbMo_dayAfter 33 = .ok (.goto 5, 3) := by decide +kernel
theorem dMo_dayAfter_36 : decode zbMo_dayAfter 36 = .ok (.iload 4, 2) := by decide +kernel
theorem dMo_dayAfter_38 : decode zbMo_dayAfter 38 = .ok (.istore 4, 2) := by decide +kernel
theorem dMo_dayAfter_40 : decode zbMo_dayAfter 40 = .ok (.goto (-35), 3) := by decide +kernel
theorem dMo_dayAfter_43 : decode zbMo_dayAfter 43 = .ok (.iload_n 3, 1) := by decide +kernel
theorem dMo_dayAfter_44 : decode zbMo_dayAfter 44 = .ok (.ireturn, 1) := by decide +kernel
theorem dMo_put_0 : decode zbMo_put 0 = .ok (.aload_n 0, 1) := by decide +kernel
theorem dMo_put_1 : decode zbMo_put 1 = .ok (.getfield 54, 3) := by decide +kernel
theorem dMo_put_4 : decode zbMo_put 4 = .ok (.bipush 71, 2) := by decide +kernel
theorem dMo_put_6 : decode zbMo_put 6 = .ok (.iload_n 1, 1) := by decide +kernel
theorem dMo_put_7 : decode zbMo_put 7 = .ok (.imul, 1) := by decide +kernel
theorem dMo_put_8 : decode zbMo_put 8 = .ok (.iload_n 2, 1) := by decide +kernel
theorem dMo_put_9 : decode zbMo_put 9 = .ok (.iadd, 1) := by decide +kernel
theorem dMo_put_10 : decode zbMo_put 10 = .ok (.iaload, 1) := by decide +kernel
theorem dMo_put_11 : decode zbMo_put 11 = .ok (.istore 5, 2) := by decide +kernel
theorem dMo_put_13 : decode zbMo_put 13 = .ok (.aload_n 0, 1) := by decide +kernel
theorem dMo_put_14 : decode zbMo_put 14 = .ok (.aload_n 0, 1) := by decide +kernel
theorem dMo_put_15 : decode zbMo_put 15 = .ok (.getfield 109, 3) := by decide +kernel
theorem dMo_put_18 : decode zbMo_put 18 = .ok (.ifCond .ne 10, 3) := by decide +kernel
theorem dMo_put_21 : decode zbMo_put 21 = .ok (.iload 5, 2) := by decide +kernel
theorem dMo_put_23 : decode zbMo_put 23 = .ok (.bipush 8, 2) := by decide +kernel
theorem dMo_put_25 : decode zbMo_put 25 = .ok (.if_icmp .ne 7, 3) := by decide +kernel
theorem dMo_put_28 : decode zbMo_put 28 = .ok (.iconst 1, 1) := by decide +kernel
theorem dMo_put_29 : decode zbMo_put 29 = .ok (.goto 4, 3) := by decide +kernel
theorem dMo_put_32 : decode zbMo_put 32 = .ok (.iconst 0, 1) := by decide +kernel
theorem dMo_put_33 : decode zbMo_put 33 = .ok (.putfield 109, 3) := by decide +kernel
theorem dMo_put_36 : decode zbMo_put 36 = .ok (.aload_n 0, 1) := by decide +kernel
theorem dMo_put_37 : decode zbMo_put 37 = .ok (.getfield 109, 3) := by decide +kernel
theorem dMo_put_40 : decode zbMo_put 40 = .ok (.ifCond .ne 57, 3) := by decide +kernel
theorem dMo_put_43 : decode zbMo_put 43 = .ok (.aload_n 0, 1) := by decide +kernel
theorem dMo_put_44 : decode zbMo_put 44 = .ok (.getfield 54, 3) := by decide +kernel
theorem dMo_put_47 : decode zbMo_put 47 = .ok (.bipush 71, 2) := by decide +kernel
theorem dMo_put_49 : decode zbMo_put 49 = .ok (.iload_n 1, 1) := by decide +kernel
theorem dMo_put_50 : decode zbMo_put 50 = .ok (.imul, 1) := by decide +kernel
theorem dMo_put_51 : decode zbMo_put 51 = .ok (.iload_n 2, 1) := by decide +kernel
theorem dMo_put_52 : decode zbMo_put 52 = .ok (.iadd, 1) := by decide +kernel
theorem dMo_put_53 : decode zbMo_put 53 = .ok (.iconst 1, 1) := by decide +kernel
theorem dMo_put_54 : decode zbMo_put 54 = .ok (.iadd, 1) := by decide +kernel
theorem dMo_put_55 : decode zbMo_put 55 = .ok (.iconst 2, 1) := by decide +kernel
theorem dMo_put_56 : decode zbMo_put 56 = .ok (.iload 5, 2) := by decide +kernel
theorem dMo_put_58 : decode zbMo_put 58 = .ok (.imul, 1) := by decide +kernel
theorem dMo_put_59 : decode zbMo_put 59 = .ok (.iadd, 1) := by decide +kernel
theorem dMo_put_60 : decode zbMo_put 60 = .ok (.iload_n 3, 1) := by decide +kernel
theorem dMo_put_61 : decode zbMo_put 61 = .ok (.iastore, 1) := by decide +kernel
theorem dMo_put_62 : decode zbMo_put 62 = .ok (.aload_n 0, 1) := by decide +kernel
theorem dMo_put_63 : decode zbMo_put 63 = .ok (.getfield 54, 3) := by decide +kernel
theorem dMo_put_66 : decode zbMo_put 66 = .ok (.bipush 71, 2) := by decide +kernel
theorem dMo_put_68 : decode zbMo_put 68 = .ok (.iload_n 1, 1) := by decide +kernel
theorem dMo_put_69 : decode zbMo_put 69 = .ok (.imul, 1) := by decide +kernel
theorem dMo_put_70 : decode zbMo_put 70 = .ok (.iload_n 2, 1) := by decide +kernel
theorem dMo_put_71 : decode zbMo_put 71 = .ok (.iadd, 1) := by decide +kernel
theorem dMo_put_72 : decode zbMo_put 72 = .ok (.iconst 2, 1) := by decide +kernel
theorem dMo_put_73 : decode zbMo_put 73 = .ok (.iadd, 1) := by decide +kernel
theorem dMo_put_74 : decode zbMo_put 74 = .ok (.iconst 2, 1) := by decide +kernel
theorem dMo_put_75 : decode zbMo_put 75 = .ok (.iload 5, 2) := by decide +kernel
theorem dMo_put_77 : decode zbMo_put 77 = .ok (.imul, 1) := by decide +kernel
theorem dMo_put_78 : decode zbMo_put 78 = .ok (.iadd, 1) := by decide +kernel
theorem dMo_put_79 : decode zbMo_put 79 = .ok (.iload 4, 2) := by decide +kernel
theorem dMo_put_81 : decode zbMo_put 81 = .ok (.iastore, 1) := by decide +kernel
theorem dMo_put_82 : decode zbMo_put 82 = .ok (.aload_n 0, 1) := by decide +kernel
theorem dMo_put_83 : decode zbMo_put 83 = .ok (.getfield 54, 3) := by decide +kernel
theorem dMo_put_86 : decode zbMo_put 86 = .ok (.bipush 71, 2) := by decide +kernel
theorem dMo_put_88 : decode zbMo_put 88 = .ok (.iload_n 1, 1) := by decide +kernel
theorem dMo_put_89 : decode zbMo_put 89 = .ok (.imul, 1) := by decide +kernel
theorem dMo_put_90 : decode zbMo_put 90 = .ok (.iload_n 2, 1) := by decide +kernel
theorem dMo_put_91 : decode zbMo_put 91 = .ok (.iadd, 1) := by decide +kernel
theorem dMo_put_92 : decode zbMo_put 92 = .ok (.iload 5, 2) := by decide +kernel
theorem dMo_put_94 : decode zbMo_put 94 = .ok (.iconst 1, 1) := by decide +kernel
theorem dMo_put_95 : decode zbMo_put 95 = .ok (.iadd, 1) := by decide +kernel
theorem dMo_put_96 : decode zbMo_put 96 = .ok (.iastore, 1) := by decide +kernel
theorem dMo_put_97 : decode zbMo_put 97 = .ok (.return_, 1) := by decide +kernel
theorem dMo_takeOut_0 : decode zbMo_takeOut 0 = .ok (.aload_n 0, 1) := by decide +kernel
theorem dMo_takeOut_1 : decode zbMo_takeOut 1 = .ok (.getfield 54, 3) := by decide +kernel
theorem dMo_takeOut_4 : decode zbMo_takeOut 4 = .ok (.bipush 71, 2) := by decide +kernel
theorem dMo_takeOut_6 : decode zbMo_takeOut 6 = .ok (.iload_n 1, 1) := by decide +kernel
theorem dMo_takeOut_7 : decode zbMo_takeOut 7 = .ok (.imul, 1) := by decide +kernel
theorem dMo_takeOut_8 : decode zbMo_takeOut 8 = .ok (.iload_n 2, 1) := by decide +kernel
theorem dMo_takeOut_9 : decode zbMo_takeOut 9 = .ok (.iadd, 1) := by decide +kernel
theorem dMo_takeOut_10 : decode zbMo_takeOut 10 = .ok (.iaload, 1) := by decide +kernel
theorem dMo_takeOut_11 : decode zbMo_takeOut 11 = .ok (.iconst 1, 1) := by decide +kernel
theorem dMo_takeOut_12 : decode zbMo_takeOut 12 = .ok (.isub, 1) := by decide +kernel
theorem dMo_takeOut_13 : decode zbMo_takeOut 13 = .ok (.istore 4, 2) := by decide +kernel
theorem dMo_takeOut_15 : decode zbMo_takeOut 15 = .ok (.aload_n 0, 1) := by decide +kernel
theorem dMo_takeOut_16 : decode zbMo_takeOut 16 = .ok (.getfield 54, 3) := by decide +kernel
theorem dMo_takeOut_19 : decode zbMo_takeOut 19 = .ok (.bipush 71, 2) := by decide +kernel
theorem dMo_takeOut_21 : decode zbMo_takeOut 21 = .ok (.iload_n 1, 1) := by decide +kernel
theorem dMo_takeOut_22 : decode zbMo_takeOut 22 = .ok (.imul, 1) := by decide +kernel
theorem dMo_takeOut_23 : decode zbMo_takeOut 23 = .ok (.iload_n 2, 1) := by decide +kernel
theorem dMo_takeOut_24 : decode zbMo_takeOut 24 = .ok (.iadd, 1) := by decide +kernel
theorem dMo_takeOut_25 : decode zbMo_takeOut 25 = .ok (.iload 4, 2) := by decide +kernel
theorem dMo_takeOut_27 : decode zbMo_takeOut 27 = .ok (.iastore, 1) := by decide +kernel
theorem dMo_takeOut_28 : decode zbMo_takeOut 28 = .ok (.iconst 2, 1) := by decide +kernel
theorem dMo_takeOut_29 : decode zbMo_takeOut 29 = .ok (.iload_n 3, 1) := by decide +kernel
theorem dMo_takeOut_30 : decode zbMo_takeOut 30 = .ok (.imul, 1) := by decide +kernel
theorem dMo_takeOut_31 : decode zbMo_takeOut 31 = .ok (.istore 5, 2) := by decide +kernel
theorem dMo_takeOut_33 : decode zbMo_takeOut 33 = .ok (.iload 5, 2) := by decide +kernel
theorem dMo_takeOut_35 : decode zbMo_takeOut 35 = .ok (.iconst 2, 1) := by decide +kernel
theorem dMo_takeOut_36 : decode zbMo_takeOut 36 = .ok (.iload 4, 2) := by decide +kernel
theorem dMo_takeOut_38 : decode zbMo_takeOut 38 = .ok (.imul, 1) := by decide +kernel
theorem dMo_takeOut_39 : decode zbMo_takeOut 39 = .ok (.if_icmp .ge 41, 3) := by decide +kernel
theorem dMo_takeOut_42 : decode zbMo_takeOut 42 = .ok (.aload_n 0, 1) := by decide +kernel
theorem dMo_takeOut_43 : decode zbMo_takeOut 43 = .ok (.getfield 54, 3) := by decide +kernel
theorem dMo_takeOut_46 : decode zbMo_takeOut 46 = .ok (.bipush 71, 2) := by decide +kernel
theorem dMo_takeOut_48 : decode zbMo_takeOut 48 = .ok (.iload_n 1, 1) := by decide +kernel
theorem dMo_takeOut_49 : decode zbMo_takeOut 49 = .ok (.imul, 1) := by decide +kernel
theorem dMo_takeOut_50 : decode zbMo_takeOut 50 = .ok (.iload_n 2, 1) := by decide +kernel
theorem dMo_takeOut_51 : decode zbMo_takeOut 51 = .ok (.iadd, 1) := by decide +kernel
theorem dMo_takeOut_52 : decode zbMo_takeOut 52 = .ok (.iconst 1, 1) := by decide +kernel
theorem dMo_takeOut_53 : decode zbMo_takeOut 53 = .ok (.iadd, 1) := by decide +kernel
theorem dMo_takeOut_54 : decode zbMo_takeOut 54 = .ok (.iload 5, 2) := by decide +kernel
theorem dMo_takeOut_56 : decode zbMo_takeOut 56 = .ok (.iadd, 1) := by decide +kernel
theorem dMo_takeOut_57 : decode zbMo_takeOut 57 = .ok (.aload_n 0, 1) := by decide +kernel
theorem dMo_takeOut_58 : decode zbMo_takeOut 58 = .ok (.getfield 54, 3) := by decide +kernel
theorem dMo_takeOut_61 : decode zbMo_takeOut 61 = .ok (.bipush 71, 2) := by decide +kernel
theorem dMo_takeOut_63 : decode zbMo_takeOut 63 = .ok (.iload_n 1, 1) := by decide +kernel
theorem dMo_takeOut_64 : decode zbMo_takeOut 64 = .ok (.imul, 1) := by decide +kernel
theorem dMo_takeOut_65 : decode zbMo_takeOut 65 = .ok (.iload_n 2, 1) := by decide +kernel
theorem dMo_takeOut_66 : decode zbMo_takeOut 66 = .ok (.iadd, 1) := by decide +kernel
theorem dMo_takeOut_67 : decode zbMo_takeOut 67 = .ok (.iconst 3, 1) := by decide +kernel
theorem dMo_takeOut_68 : decode zbMo_takeOut 68 = .ok (.iadd, 1) := by decide +kernel
theorem dMo_takeOut_69 : decode zbMo_takeOut 69 = .ok (.iload 5, 2) := by decide +kernel
theorem dMo_takeOut_71 : decode zbMo_takeOut 71 = .ok (.iadd, 1) := by decide +kernel
theorem dMo_takeOut_72 : decode zbMo_takeOut 72 = .ok (.iaload, 1) := by decide +kernel
theorem dMo_takeOut_73 : decode zbMo_takeOut 73 = .ok (.iastore, 1) := by decide +kernel
theorem dMo_takeOut_74 : decode zbMo_takeOut 74 = .ok (.iinc 5 1, 3) := by decide +kernel
theorem dMo_takeOut_77 : decode zbMo_takeOut 77 = .ok (.goto (-44), 3) := by decide +kernel
theorem dMo_takeOut_80 : decode zbMo_takeOut 80 = .ok (.return_, 1) := by decide +kernel
theorem dMo_clauseAt_0 : decode zbMo_clauseAt 0 = .ok (.aload_n 0, 1) := by decide +kernel
theorem dMo_clauseAt_1 : decode zbMo_clauseAt 1 = .ok (.getfield 54, 3) := by decide +kernel
theorem dMo_clauseAt_4 : decode zbMo_clauseAt 4 = .ok (.bipush 71, 2) := by decide +kernel
theorem dMo_clauseAt_6 : decode zbMo_clauseAt 6 = .ok (.iload_n 1, 1) := by decide +kernel
theorem dMo_clauseAt_7 : decode zbMo_clauseAt 7 = .ok (.imul, 1) := by decide +kernel
theorem dMo_clauseAt_8 : decode zbMo_clauseAt 8 = .ok (.iload_n 2, 1) := by decide +kernel
theorem dMo_clauseAt_9 : decode zbMo_clauseAt 9 = .ok (.iadd, 1) := by decide +kernel
theorem dMo_clauseAt_10 : decode zbMo_clauseAt 10 = .ok (.iconst 1, 1) := by decide +kernel
theorem dMo_clauseAt_11 : decode zbMo_clauseAt 11 = .ok (.iadd, 1) := by decide +kernel
theorem dMo_clauseAt_12 : decode zbMo_clauseAt 12 = .ok (.iconst 2, 1) := by decide +kernel
theorem dMo_clauseAt_13 : decode zbMo_clauseAt 13 = .ok (.iload_n 3, 1) := by decide +kernel
theorem dMo_clauseAt_14 : decode zbMo_clauseAt 14 = .ok (.imul, 1) := by decide +kernel
theorem dMo_clauseAt_15 : decode zbMo_clauseAt 15 = .ok (.iadd, 1) := by decide +kernel
theorem dMo_clauseAt_16 : decode zbMo_clauseAt 16 = .ok (.iaload, 1) := by decide +kernel
theorem dMo_clauseAt_17 : decode zbMo_clauseAt 17 = .ok (.ireturn, 1) := by decide +kernel
theorem dMo_dayAt_0 : decode zbMo_dayAt 0 = .ok (.aload_n 0, 1) := by decide +kernel
theorem dMo_dayAt_1 : decode zbMo_dayAt 1 = .ok (.getfield 54, 3) := by decide +kernel
theorem dMo_dayAt_4 : decode zbMo_dayAt 4 = .ok (.bipush 71, 2) := by decide +kernel
theorem dMo_dayAt_6 : decode zbMo_dayAt 6 = .ok (.iload_n 1, 1) := by decide +kernel
theorem dMo_dayAt_7 : decode zbMo_dayAt 7 = .ok (.imul, 1) := by decide +kernel
theorem dMo_dayAt_8 : decode zbMo_dayAt 8 = .ok (.iload_n 2, 1) := by decide +kernel
theorem dMo_dayAt_9 : decode zbMo_dayAt 9 = .ok (.iadd, 1) := by decide +kernel
theorem dMo_dayAt_10 : decode zbMo_dayAt 10 = .ok (.iconst 2, 1) := by decide +kernel
theorem dMo_dayAt_11 : decode zbMo_dayAt 11 = .ok (.iadd, 1) := by decide +kernel
theorem dMo_dayAt_12 : decode zbMo_dayAt 12 = .ok (.iconst 2, 1) := by decide +kernel
theorem dMo_dayAt_13 : decode zbMo_dayAt 13 = .ok (.iload_n 3, 1) := by decide +kernel
theorem dMo_dayAt_14 : decode zbMo_dayAt 14 = .ok (.imul, 1) := by decide +kernel
theorem dMo_dayAt_15 : decode zbMo_dayAt 15 = .ok (.iadd, 1) := by decide +kernel
theorem dMo_dayAt_16 : decode zbMo_dayAt 16 = .ok (.iaload, 1) := by decide +kernel
theorem dMo_dayAt_17 : decode zbMo_dayAt 17 = .ok (.ireturn, 1) := by decide +kernel
theorem dMo_isOf_0 : decode zbMo_isOf 0 = .ok (.aload_n 0, 1) := by decide +kernel
theorem dMo_isOf_1 : decode zbMo_isOf 1 = .ok (.getfield 45, 3) := by decide +kernel
theorem dMo_isOf_4 : decode zbMo_isOf 4 = .ok (.bipush 10, 2) := by decide +kernel
theorem dMo_isOf_6 : decode zbMo_isOf 6 = .ok (.aload_n 0, 1) := by decide +kernel
theorem dMo_isOf_7 : decode zbMo_isOf 7 = .ok (.getfield 112, 3) := by decide +kernel
theorem dMo_isOf_10 : decode zbMo_isOf 10 = .ok (.imul, 1) := by decide +kernel
theorem dMo_isOf_11 : decode zbMo_isOf 11 = .ok (.iload_n 1, 1) := by decide +kernel
theorem dMo_isOf_12 : decode zbMo_isOf 12 = .ok (.iadd, 1) := by decide +kernel
theorem dMo_isOf_13 : decode zbMo_isOf 13 = .ok (.iaload, 1) := by decide +kernel
theorem dMo_isOf_14 : decode zbMo_isOf 14 = .ok (.iload_n 2, 1) := by decide +kernel
theorem dMo_isOf_15 : decode zbMo_isOf 15 = .ok (.if_icmp .ne 25, 3) := by decide +kernel
theorem dMo_isOf_18 : decode zbMo_isOf 18 = .ok (.aload_n 0, 1) := by decide +kernel
theorem dMo_isOf_19 : decode zbMo_isOf 19 = .ok (.getfield 48, 3) := by decide +kernel
theorem dMo_isOf_22 : decode zbMo_isOf 22 = .ok (.bipush 10, 2) := by decide +kernel
theorem dMo_isOf_24 : decode zbMo_isOf 24 = .ok (.aload_n 0, 1) := by decide +kernel
theorem dMo_isOf_25 : decode zbMo_isOf 25 = .ok (.getfield 112, 3) := by decide +kernel
theorem dMo_isOf_28 : decode zbMo_isOf 28 = .ok (.imul, 1) := by decide +kernel
theorem dMo_isOf_29 : decode zbMo_isOf 29 = .ok (.iload_n 1, 1) := by decide +kernel
theorem dMo_isOf_30 : decode zbMo_isOf 30 = .ok (.iadd, 1) := by decide +kernel
theorem dMo_isOf_31 : decode zbMo_isOf 31 = .ok (.iaload, 1) := by decide +kernel
theorem dMo_isOf_32 : decode zbMo_isOf 32 = .ok (.iload_n 3, 1) := by decide +kernel
theorem dMo_isOf_33 : decode zbMo_isOf 33 = .ok (.if_icmp .ne 7, 3) := by decide +kernel
theorem dMo_isOf_36 : decode zbMo_isOf 36 = .ok (.iconst 1, 1) := by decide +kernel
theorem dMo_isOf_37 : decode zbMo_isOf 37 = .ok (.goto 4, 3) := by decide +kernel
theorem dMo_isOf_40 : decode zbMo_isOf 40 = .ok (.iconst 0, 1) := by decide +kernel
theorem dMo_isOf_41 : decode zbMo_isOf 41 = .ok (.ireturn, 1) := by decide +kernel
theorem dMo_first_0 : decode zbMo_first 0 = .ok (.iconst (-1), 1) := by decide +kernel
theorem dMo_first_1 : decode zbMo_first 1 = .ok (.istore 5, 2) := by decide +kernel
theorem dMo_first_3 : decode zbMo_first 3 = .ok (.iconst 0, 1) := by decide +kernel
theorem dMo_first_4 : decode zbMo_first 4 = .ok (.istore 6, 2) := by decide +kernel
theorem dMo_first_6 : decode zbMo_first 6 = .ok (.iload 6, 2) := by decide +kernel
theorem dMo_first_8 : decode zbMo_first 8 = .ok (.aload_n 0, 1) := by decide +kernel
theorem dMo_first_9 : decode zbMo_first 9 = .ok (.getfield 54, 3) := by decide +kernel
theorem dMo_first_12 : decode zbMo_first 12 = .ok (.bipush 71, 2) := by decide +kernel
theorem dMo_first_14 : decode zbMo_first 14 = .ok (.iload_n 1, 1) := by decide +kernel
theorem dMo_first_15 : decode zbMo_first 15 = .ok (.imul, 1) := by decide +kernel
theorem dMo_first_16 : decode zbMo_first 16 = .ok (.iload_n 2, 1) := by decide +kernel
theorem dMo_first_17 : decode zbMo_first 17 = .ok (.iadd, 1) := by decide +kernel
theorem dMo_first_18 : decode zbMo_first 18 = .ok (.iaload, 1) := by decide +kernel
theorem dMo_first_19 : decode zbMo_first 19 = .ok (.if_icmp .ge 100, 3) := by decide +kernel
theorem dMo_first_22 : decode zbMo_first 22 = .ok (.aload_n 0, 1) := by decide +kernel
theorem dMo_first_23 : decode zbMo_first 23 = .ok (.aload_n 0, 1) := by decide +kernel
theorem dMo_first_24 : decode zbMo_first 24 = .ok (.iload_n 1, 1) := by decide +kernel
theorem dMo_first_25 : decode zbMo_first 25 = .ok (.iload_n 2, 1) := by decide +kernel
theorem dMo_first_26 : decode zbMo_first 26 = .ok (.iload 6, 2) := by decide +kernel
theorem dMo_first_28 : decode zbMo_first 28 = .ok (.invokevirtual 115, 3) := by decide +kernel
theorem dMo_first_31 : decode zbMo_first 31 = .ok (.iload_n 3, 1) := by decide +kernel
theorem dMo_first_32 : decode zbMo_first 32 = .ok (.iload 4, 2) := by decide +kernel
theorem dMo_first_34 : decode zbMo_first 34 = .ok (.invokevirtual 119, 3) := by decide +kernel
theorem dMo_first_37 : decode zbMo_first 37 = .ok (.istore 7, 2) := by decide +kernel
theorem dMo_first_39 : decode zbMo_first 39 = .ok (.iload 5, 2) := by decide +kernel
theorem dMo_first_41 : decode zbMo_first 41 = .ok (.ifCond .lt 46, 3) := by decide +kernel
theorem dMo_first_44 : decode zbMo_first 44 = .ok (.bipush 100, 2) := by decide +kernel
theorem dMo_first_46 : decode zbMo_first 46 = .ok (.aload_n 0, 1) := by decide +kernel
theorem dMo_first_47 : decode zbMo_first 47 = .ok (.iload_n 1, 1) := by decide +kernel
theorem dMo_first_48 : decode zbMo_first 48 = .ok (.iload_n 2, 1) := by decide +kernel
theorem dMo_first_49 : decode zbMo_first 49 = .ok (.iload 6, 2) := by decide +kernel
theorem dMo_first_51 : decode zbMo_first 51 = .ok (.invokevirtual 122, 3) := by decide +kernel
theorem dMo_first_54 : decode zbMo_first 54 = .ok (.imul, 1) := by decide +kernel
theorem dMo_first_55 : decode zbMo_first 55 = .ok (.aload_n 0, 1) := by decide +kernel
theorem dMo_first_56 : decode zbMo_first 56 = .ok (.iload_n 1, 1) := by decide +kernel
theorem dMo_first_57 : decode zbMo_first 57 = .ok (.iload_n 2, 1) := by decide +kernel
theorem dMo_first_58 : decode zbMo_first 58 = .ok (.iload 6, 2) := by decide +kernel
theorem dMo_first_60 : decode zbMo_first 60 = .ok (.invokevirtual 115, 3) := by decide +kernel
theorem dMo_first_63 : decode zbMo_first 63 = .ok (.iadd, 1) := by decide +kernel
theorem dMo_first_64 : decode zbMo_first 64 = .ok (.bipush 100, 2) := by decide +kernel
theorem dMo_first_66 : decode zbMo_first 66 = .ok (.aload_n 0, 1) := by decide +kernel
theorem dMo_first_67 : decode zbMo_first 67 = .ok (.iload_n 1, 1) := by decide +kernel
theorem dMo_first_68 : decode zbMo_first 68 = .ok (.iload_n 2, 1) := by decide +kernel
theorem dMo_first_69 : decode zbMo_first 69 = .ok (.iload 5, 2) := by decide +kernel
theorem dMo_first_71 : decode zbMo_first 71 = .ok (.invokevirtual 122, 3) := by decide +kernel
theorem dMo_first_74 : decode zbMo_first 74 = .ok (.imul, 1) := by decide +kernel
theorem dMo_first_75 : decode zbMo_first 75 = .ok (.aload_n 0, 1) := by decide +kernel
theorem dMo_first_76 : decode zbMo_first 76 = .ok (.iload_n 1, 1) := by decide +kernel
theorem dMo_first_77 : decode zbMo_first 77 = .ok (.iload_n 2, 1) := by decide +kernel
theorem dMo_first_78 : decode zbMo_first 78 = .ok (.iload 5, 2) := by decide +kernel
theorem dMo_first_80 : decode zbMo_first 80 = .ok (.invokevirtual 115, 3) := by decide +kernel
theorem dMo_first_83 : decode zbMo_first 83 = .ok (.iadd, 1) := by decide +kernel
theorem dMo_first_84 : decode zbMo_first 84 = .ok (.if_icmp .ge 7, 3) := by decide +kernel
theorem dMo_first_87 : decode zbMo_first 87 = .ok (.iconst 1, 1) := by decide +kernel
theorem dMo_first_88 : decode zbMo_first 88 = .ok (.goto 4, 3) := by decide +kernel
theorem dMo_first_91 : decode zbMo_first 91 = .ok (.iconst 0, 1) := by decide +kernel
theorem dMo_first_92 : decode zbMo_first 92 = .ok (.istore 8, 2) := by decide +kernel
theorem dMo_first_94 : decode zbMo_first 94 = .ok (.iload 7, 2) := by decide +kernel
theorem dMo_first_96 : decode zbMo_first 96 = .ok (.ifCond .eq 13, 3) := by decide +kernel
theorem dMo_first_99 : decode zbMo_first 99 = .ok (.iload 8, 2) := by decide +kernel
theorem dMo_first_101 : decode zbMo_first 101 = .ok (.ifCond .eq 8, 3) := by decide +kernel
theorem dMo_first_104 : decode zbMo_first 104 = .ok (.iload 6, 2) := by decide +kernel
theorem dMo_first_106 : decode zbMo_first 106 = .ok (.goto 5, 3) := by decide +kernel
theorem dMo_first_109 : decode zbMo_first 109 = .ok (.iload 5, 2) := by decide +kernel
theorem dMo_first_111 : decode zbMo_first 111 = .ok (.istore 5, 2) := by decide +kernel
theorem dMo_first_113 : decode zbMo_first 113 = .ok (.iinc 6 1, 3) := by decide +kernel
theorem dMo_first_116 : decode zbMo_first 116 = .ok (.goto (-110), 3) := by decide +kernel
theorem dMo_first_119 : decode zbMo_first 119 = .ok (.iload 5, 2) := by decide +kernel
theorem dMo_first_121 : decode zbMo_first 121 = .ok (.ireturn, 1) := by decide +kernel
theorem dMo_await_0 : decode zbMo_await 0 = .ok (.iconst 0, 1) := by decide +kernel
theorem dMo_await_1 : decode zbMo_await 1 = .ok (.istore 4, 2) := by decide +kernel
theorem dMo_await_3 : decode zbMo_await 3 = .ok (.iload 4, 2) := by decide +kernel
theorem dMo_await_5 : decode zbMo_await 5 = .ok (.aload_n 0, 1) := by decide +kernel
theorem dMo_await_6 : decode zbMo_await 6 = .ok (.getfield 125, 3) := by decide +kernel
theorem dMo_await_9 : decode zbMo_await 9 = .ok (.if_icmp .ge 96, 3) := by decide +kernel
theorem dMo_await_12 : decode zbMo_await 12 = .ok (.bipush 10, 2) := by decide +kernel
theorem dMo_await_14 : decode zbMo_await 14 = .ok (.aload_n 0, 1) := by decide +kernel
theorem dMo_await_15 : decode zbMo_await 15 = .ok (.getfield 112, 3) := by decide +kernel
theorem dMo_await_18 : decode zbMo_await 18 = .ok (.imul, 1) := by decide +kernel
theorem dMo_await_19 : decode zbMo_await 19 = .ok (.iload 4, 2) := by decide +kernel
theorem dMo_await_21 : decode zbMo_await 21 = .ok (.iadd, 1) := by decide +kernel
theorem dMo_await_22 : decode zbMo_await 22 = .ok (.istore 5, 2) := by decide +kernel
theorem dMo_await_24 : decode zbMo_await 24 = .ok (.aload_n 0, 1) := by decide +kernel
theorem dMo_await_25 : decode zbMo_await 25 = .ok (.getfield 21, 3) := by decide +kernel
theorem dMo_await_28 : decode zbMo_await 28 = .ok (.iload 5, 2) := by decide +kernel
theorem dMo_await_30 : decode zbMo_await 30 = .ok (.iaload, 1) := by decide +kernel
theorem dMo_await_31 : decode zbMo_await 31 = .ok (.iload_n 1, 1) := by decide +kernel
theorem dMo_await_32 : decode zbMo_await 32 = .ok (.if_icmp .ne 38, 3) := by decide +kernel
theorem dMo_await_35 : decode zbMo_await 35 = .ok (.iload_n 1, 1) := by decide +kernel
theorem dMo_await_36 : decode zbMo_await 36 = .ok (.ifCond .eq 14, 3) := by decide +kernel
theorem dMo_await_39 : decode zbMo_await 39 = .ok (.aload_n 0, 1) := by decide +kernel
theorem dMo_await_40 : decode zbMo_await 40 = .ok (.getfield 24, 3) := by decide +kernel
theorem dMo_await_43 : decode zbMo_await 43 = .ok (.iload 5, 2) := by decide +kernel
theorem dMo_await_45 : decode zbMo_await 45 = .ok (.iaload, 1) := by decide +kernel
theorem dMo_await_46 : decode zbMo_await 46 = .ok (.iload_n 2, 1) := by decide +kernel
theorem dMo_await_47 : decode zbMo_await 47 = .ok (.if_icmp .ne 23, 3) := by decide +kernel
theorem dMo_await_50 : decode zbMo_await 50 = .ok (.iload_n 1, 1) := by decide +kernel
theorem dMo_await_51 : decode zbMo_await 51 = .ok (.iconst 1, 1) := by decide +kernel
theorem dMo_await_52 : decode zbMo_await 52 = .ok (.if_icmp .ne 14, 3) := by decide +kernel
theorem dMo_await_55 : decode zbMo_await 55 = .ok (.aload_n 0, 1) := by decide +kernel
theorem dMo_await_56 : decode zbMo_await 56 = .ok (.getfield 27, 3) := by decide +kernel
theorem dMo_await_59 : decode zbMo_await 59 = .ok (.iload 5, 2) := by decide +kernel
theorem dMo_await_61 : decode zbMo_await 61 = .ok (.iaload, 1) := by decide +kernel
theorem dMo_await_62 : decode zbMo_await 62 = .ok (.iload_n 3, 1) := by decide +kernel
theorem dMo_await_63 : decode zbMo_await 63 = .ok (.if_icmp .ne 7, 3) := by decide +kernel
theorem dMo_await_66 : decode zbMo_await 66 = .ok (.iconst 1, 1) := by decide +kernel
theorem dMo_await_67 : decode zbMo_await 67 = .ok (.goto 4, 3) := by decide +kernel
theorem dMo_await_70 : decode zbMo_await 70 = .ok (.iconst 0, 1) := by decide +kernel
theorem dMo_await_71 : decode zbMo_await 71 = .ok (.istore 6, 2) := by decide +kernel
theorem dMo_await_73 : decode zbMo_await 73 = .ok (.iload 6, 2) := by decide +kernel
theorem dMo_await_75 : decode zbMo_await 75 = .ok (.ifCond .eq 24, 3) := by decide +kernel
theorem dMo_await_78 : decode zbMo_await 78 = .ok (.aload_n 0, 1) := by decide +kernel
theorem dMo_await_79 : decode zbMo_await 79 = .ok (.getfield 57, 3) := by decide +kernel
theorem dMo_await_82 : decode zbMo_await 82 = .ok (.aload_n 0, 1) := by decide +kernel
theorem dMo_await_83 : decode zbMo_await 83 = .ok (.getfield 128, 3) := by decide +kernel
theorem dMo_await_86 : decode zbMo_await 86 = .ok (.iload 4, 2) := by decide +kernel
theorem dMo_await_88 : decode zbMo_await 88 = .ok (.iastore, 1) := by decide +kernel
theorem dMo_await_89 : decode zbMo_await 89 = .ok (.aload_n 0, 1) := by decide +kernel
theorem dMo_await_90 : decode zbMo_await 90 = .ok (.aload_n 0, 1) := by decide +kernel
theorem dMo_await_91 : decode zbMo_await 91 = .ok (.getfield 128, 3) := by decide +kernel
theorem dMo_await_94 : decode zbMo_await 94 = .ok (.iconst 1, 1) := by decide +kernel
theorem dMo_await_95 : decode zbMo_await 95 = .ok (.iadd, 1) := by decide +kernel
theorem dMo_await_96 : decode zbMo_await 96 = .ok (.putfield 128, 3) := by decide +kernel
theorem dMo_await_99 : decode zbMo_await 99 = .ok (.iinc 4 1, 3) := by decide +kernel
theorem dMo_await_102 : decode zbMo_await 102 = .ok (.goto (-99), 3) := by decide +kernel
theorem dMo_await_105 : decode zbMo_await 105 = .ok (.return_, 1) := by decide +kernel
theorem dMo_breach_0 : decode zbMo_breach 0 = .ok (.bipush 71, 2) := by decide +kernel
theorem dMo_breach_2 : decode zbMo_breach 2 = .ok (.iload_n 1, 1) := by decide +kernel
theorem dMo_breach_3 : decode zbMo_breach 3 = .ok (.imul, 1) := by decide +kernel
theorem dMo_breach_4 : decode zbMo_breach 4 = .ok (.bipush 61, 2) := by decide +kernel
theorem dMo_breach_6 : decode zbMo_breach 6 = .ok (.iadd, 1) := by decide +kernel
theorem dMo_breach_7 : decode zbMo_breach 7 = .ok (.iload_n 2, 1) := by decide +kernel
theorem dMo_breach_8 : decode zbMo_breach 8 = .ok (.iadd, 1) := by decide +kernel
theorem dMo_breach_9 : decode zbMo_breach 9 = .ok (.istore_n 3, 1) := by decide +kernel
theorem dMo_breach_10 : decode zbMo_breach 10 = .ok (.aload_n 0, 1) := by decide +kernel
theorem dMo_breach_11 : decode zbMo_breach 11 = .ok (.getfield 54, 3) := by decide +kernel
theorem dMo_breach_14 : decode zbMo_breach 14 = .ok (.iload_n 3, 1) := by decide +kernel
theorem dMo_breach_15 : decode zbMo_breach 15 = .ok (.aload_n 0, 1) := by decide +kernel
theorem dMo_breach_16 : decode zbMo_breach 16 = .ok (.getfield 54, 3) := by decide +kernel
theorem dMo_breach_19 : decode zbMo_breach 19 = .ok (.iload_n 3, 1) := by decide +kernel
theorem dMo_breach_20 : decode zbMo_breach 20 = .ok (.iaload, 1) := by decide +kernel
theorem dMo_breach_21 : decode zbMo_breach 21 = .ok (.iconst 1, 1) := by decide +kernel
theorem dMo_breach_22 : decode zbMo_breach 22 = .ok (.iadd, 1) := by decide +kernel
theorem dMo_breach_23 : decode zbMo_breach 23 = .ok (.iastore, 1) := by decide +kernel
theorem dMo_breach_24 : decode zbMo_breach 24 = .ok (.aload_n 0, 1) := by decide +kernel
theorem dMo_breach_25 : decode zbMo_breach 25 = .ok (.aload_n 0, 1) := by decide +kernel
theorem dMo_breach_26 : decode zbMo_breach 26 = .ok (.getfield 131, 3) := by decide +kernel
theorem dMo_breach_29 : decode zbMo_breach 29 = .ok (.iconst 1, 1) := by decide +kernel
theorem dMo_breach_30 : decode zbMo_breach 30 = .ok (.iadd, 1) := by decide +kernel
theorem dMo_breach_31 : decode zbMo_breach 31 = .ok (.putfield 131, 3) := by decide +kernel
theorem dMo_breach_34 : decode zbMo_breach 34 = .ok (.aload_n 0, 1) := by decide +kernel
theorem dMo_breach_35 : decode zbMo_breach 35 = .ok (.aload_n 0, 1) := by decide +kernel
theorem dMo_breach_36 : decode zbMo_breach 36 = .ok (.getfield 134, 3) := by decide +kernel
theorem dMo_breach_39 : decode zbMo_breach 39 = .ok (.iconst 1, 1) := by decide +kernel
theorem dMo_breach_40 : decode zbMo_breach 40 = .ok (.aload_n 0, 1) := by decide +kernel
theorem dMo_breach_41 : decode zbMo_breach 41 = .ok (.getfield 45, 3) := by decide +kernel
theorem dMo_breach_44 : decode zbMo_breach 44 = .ok (.bipush 10, 2) := by decide +kernel
theorem dMo_breach_46 : decode zbMo_breach 46 = .ok (.aload_n 0, 1) := by decide +kernel
theorem dMo_breach_47 : decode zbMo_breach 47 = .ok (.getfield 112, 3) := by decide +kernel
theorem dMo_breach_50 : decode zbMo_breach 50 = .ok (.imul, 1) := by decide +kernel
theorem dMo_breach_51 : decode zbMo_breach 51 = .ok (.iload_n 2, 1) := by decide +kernel
theorem dMo_breach_52 : decode zbMo_breach 52 = .ok (.iadd, 1) := by decide +kernel
theorem dMo_breach_53 : decode zbMo_breach 53 = .ok (.iaload, 1) := by decide +kernel
theorem dMo_breach_54 : decode zbMo_breach 54 = .ok (.ishl, 1) := by decide +kernel
theorem dMo_breach_55 : decode zbMo_breach 55 = .ok (.ior, 1) := by decide +kernel
theorem dMo_breach_56 : decode zbMo_breach 56 = .ok (.putfield 134, 3) := by decide +kernel
theorem dMo_breach_59 : decode zbMo_breach 59 = .ok (.aload_n 0, 1) := by decide +kernel
theorem dMo_breach_60 : decode zbMo_breach 60 = .ok (.iconst 2, 1) := by decide +kernel
theorem dMo_breach_61 : decode zbMo_breach 61 = .ok (.iload_n 2, 1) := by decide +kernel
theorem dMo_breach_62 : decode zbMo_breach 62 = .ok (.iconst 0, 1) := by decide +kernel
theorem dMo_breach_63 : decode zbMo_breach 63 = .ok (.invokevirtual 137, 3) := by decide +kernel
theorem dMo_breach_66 : decode zbMo_breach 66 = .ok (.return_, 1) := by decide +kernel
theorem dMo_act_0 : decode zbMo_act 0 = .ok (.bipush 10, 2) := by decide +kernel
theorem dMo_act_2 : decode zbMo_act 2 = .ok (.aload_n 0, 1) := by decide +kernel
theorem dMo_act_3 : decode zbMo_act 3 = .ok (.getfield 112, 3) := by decide +kernel
theorem dMo_act_6 : decode zbMo_act 6 = .ok (.imul, 1) := by decide +kernel
theorem dMo_act_7 : decode zbMo_act 7 = .ok (.iload_n 2, 1) := by decide +kernel
theorem dMo_act_8 : decode zbMo_act 8 = .ok (.iadd, 1) := by decide +kernel
theorem dMo_act_9 : decode zbMo_act 9 = .ok (.istore_n 3, 1) := by decide +kernel
theorem dMo_act_10 : decode zbMo_act 10 = .ok (.aload_n 0, 1) := by decide +kernel
theorem dMo_act_11 : decode zbMo_act 11 = .ok (.getfield 54, 3) := by decide +kernel
theorem dMo_act_14 : decode zbMo_act 14 = .ok (.bipush 71, 2) := by decide +kernel
theorem dMo_act_16 : decode zbMo_act 16 = .ok (.iload_n 1, 1) := by decide +kernel
theorem dMo_act_17 : decode zbMo_act 17 = .ok (.imul, 1) := by decide +kernel
theorem dMo_act_18 : decode zbMo_act 18 = .ok (.iaload, 1) := by decide +kernel
theorem dMo_act_19 : decode zbMo_act 19 = .ok (.istore 4, 2) := by decide +kernel
theorem dMo_act_21 : decode zbMo_act 21 = .ok (.aload_n 0, 1) := by decide +kernel
theorem dMo_act_22 : decode zbMo_act 22 = .ok (.getfield 42, 3) := by decide +kernel
theorem dMo_act_25 : decode zbMo_act 25 = .ok (.iload_n 3, 1) := by decide +kernel
theorem dMo_act_26 : decode zbMo_act 26 = .ok (.iaload, 1) := by decide +kernel
theorem dMo_act_27 : decode zbMo_act 27 = .ok (.istore 5, 2) := by decide +kernel
theorem dMo_act_29 : decode zbMo_act 29 = .ok (.iload 5, 2) := by decide +kernel
theorem dMo_act_31 : decode zbMo_act 31 = .ok (.ifCond .ne 25, 3) := by decide +kernel
theorem dMo_act_34 : decode zbMo_act 34 = .ok (.aload_n 0, 1) := by decide +kernel
theorem dMo_act_35 : decode zbMo_act 35 = .ok (.iload_n 1, 1) := by decide +kernel
theorem dMo_act_36 : decode zbMo_act 36 = .ok (.iconst 1, 1) := by decide +kernel
theorem dMo_act_37 : decode zbMo_act 37 = .ok (.iload_n 2, 1) := by decide +kernel
theorem dMo_act_38 : decode zbMo_act 38 = .ok (.aload_n 0, 1) := by decide +kernel
theorem dMo_act_39 : decode zbMo_act 39 = .ok (.iload 4, 2) := by decide +kernel
theorem dMo_act_41 : decode zbMo_act 41 = .ok (.aload_n 0, 1) := by decide +kernel
theorem dMo_act_42 : decode zbMo_act 42 = .ok (.getfield 51, 3) := by decide +kernel
theorem dMo_act_45 : decode zbMo_act 45 = .ok (.iload_n 3, 1) := by decide +kernel
theorem dMo_act_46 : decode zbMo_act 46 = .ok (.iaload, 1) := by decide +kernel
theorem dMo_act_47 : decode zbMo_act 47 = .ok (.invokevirtual 141, 3) := by decide +kernel
theorem dMo_act_50 : decode zbMo_act 50 = .ok (.invokevirtual 144, 3) := by decide +kernel
theorem dMo_act_53 : decode zbMo_act 53 = .ok (.goto 156, 3) := by decide +kernel
theorem dMo_act_56 : decode zbMo_act 56 = .ok (.iload 5, 2) := by decide +kernel
theorem dMo_act_58 : decode zbMo_act 58 = .ok (.iconst 3, 1) := by decide +kernel
theorem dMo_act_59 : decode zbMo_act 59 = .ok (.if_icmp .ge 34, 3) := by decide +kernel
theorem dMo_act_62 : decode zbMo_act 62 = .ok (.aload_n 0, 1) := by decide +kernel
theorem dMo_act_63 : decode zbMo_act 63 = .ok (.iload_n 1, 1) := by decide +kernel
theorem dMo_act_64 : decode zbMo_act 64 = .ok (.iload 5, 2) := by decide +kernel
theorem dMo_act_66 : decode zbMo_act 66 = .ok (.iconst 1, 1) := by decide +kernel
theorem dMo_act_67 : decode zbMo_act 67 = .ok (.if_icmp .ne 8, 3) := by decide +kernel
theorem dMo_act_70 : decode zbMo_act 70 = .ok (.bipush 18, 2) := by decide +kernel
theorem dMo_act_72 : decode zbMo_act 72 = .ok (.goto 5, 3) := by decide +kernel
theorem dMo_act_75 : decode zbMo_act 75 = .ok (.bipush 35, 2) := by decide +kernel
theorem dMo_act_77 : decode zbMo_act 77 = .ok (.iload_n 2, 1) := by decide +kernel
theorem dMo_act_78 : decode zbMo_act 78 = .ok (.iload 4, 2) := by decide +kernel
theorem dMo_act_80 : decode zbMo_act 80 = .ok (.aload_n 0, 1) := by decide +kernel
theorem dMo_act_81 : decode zbMo_act 81 = .ok (.getfield 51, 3) := by decide +kernel
theorem dMo_act_84 : decode zbMo_act 84 = .ok (.iload_n 3, 1) := by decide +kernel
theorem dMo_act_85 : decode zbMo_act 85 = .ok (.iaload, 1) := by decide +kernel
theorem dMo_act_86 : decode zbMo_act 86 = .ok (.iadd, 1) := by decide +kernel
theorem dMo_act_87 : decode zbMo_act 87 = .ok (.invokevirtual 144, 3) := by decide +kernel
theorem dMo_act_90 : decode zbMo_act 90 = .ok (.goto 119, 3) := by decide +kernel
theorem dMo_act_93 : decode zbMo_act 93 = .ok (.iload 5, 2) := by decide +kernel
theorem dMo_act_95 : decode zbMo_act 95 = .ok (.iconst 3, 1) := by decide +kernel
theorem dMo_act_96 : decode zbMo_act 96 = .ok (.if_icmp .ne 88, 3) := by decide +kernel
theorem dMo_act_99 : decode zbMo_act 99 = .ok (.bipush 71, 2) := by decide +kernel
theorem dMo_act_101 : decode zbMo_act 101 = .ok (.iload_n 1, 1) := by decide +kernel
theorem dMo_act_102 : decode zbMo_act 102 = .ok (.imul, 1) := by decide +kernel
theorem dMo_act_103 : decode zbMo_act 103 = .ok (.bipush 52, 2) := by decide +kernel
theorem dMo_act_105 : decode zbMo_act 105 = .ok (.iadd, 1) := by decide +kernel
theorem dMo_act_106 : decode zbMo_act 106 = .ok (.iconst 3, 1) := by decide +kernel
theorem dMo_act_107 : decode zbMo_act 107 = .ok (.aload_n 0, 1) := by decide +kernel
theorem dMo_act_108 : decode zbMo_act 108 = .ok (.getfield 45, 3) := by decide +kernel
theorem dMo_act_111 : decode zbMo_act 111 = .ok (.iload_n 3, 1) := by decide +kernel
theorem dMo_act_112 : decode zbMo_act 112 = .ok (.iaload, 1) := by decide +kernel
theorem dMo_act_113 : decode zbMo_act 113 = .ok (.imul, 1) := by decide +kernel
theorem dMo_act_114 : decode zbMo_act 114 = .ok (.iadd, 1) := by decide +kernel
theorem dMo_act_115 : decode zbMo_act 115 = .ok (.aload_n 0, 1) := by decide +kernel
theorem dMo_act_116 : decode zbMo_act 116 = .ok (.getfield 48, 3) := by decide +kernel
theorem dMo_act_119 : decode zbMo_act 119 = .ok (.iload_n 3, 1) := by decide +kernel
theorem dMo_act_120 : decode zbMo_act 120 = .ok (.iaload, 1) := by decide +kernel
theorem dMo_act_121 : decode zbMo_act 121 = .ok (.iadd, 1) := by decide +kernel
theorem dMo_act_122 : decode zbMo_act 122 = .ok (.istore 6, 2) := by decide +kernel
theorem dMo_act_124 : decode zbMo_act 124 = .ok (.aload_n 0, 1) := by decide +kernel
theorem dMo_act_125 : decode zbMo_act 125 = .ok (.aload_n 0, 1) := by decide +kernel
theorem dMo_act_126 : decode zbMo_act 126 = .ok (.getfield 109, 3) := by decide +kernel
theorem dMo_act_129 : decode zbMo_act 129 = .ok (.ifCond .ne 23, 3) := by decide +kernel
theorem dMo_act_132 : decode zbMo_act 132 = .ok (.aload_n 0, 1) := by decide +kernel
theorem dMo_act_133 : decode zbMo_act 133 = .ok (.getfield 54, 3) := by decide +kernel
theorem dMo_act_136 : decode zbMo_act 136 = .ok (.iload 6, 2) := by decide +kernel
theorem dMo_act_138 : decode zbMo_act 138 = .ok (.iaload, 1) := by decide +kernel
theorem dMo_act_139 : decode zbMo_act 139 = .ok (.aload_n 0, 1) := by decide +kernel
theorem dMo_act_140 : decode zbMo_act 140 = .ok (.getfield 51, 3) := by decide +kernel
theorem dMo_act_143 : decode zbMo_act 143 = .ok (.iload_n 3, 1) := by decide +kernel
theorem dMo_act_144 : decode zbMo_act 144 = .ok (.iaload, 1) := by decide +kernel
theorem dMo_act_145 : decode zbMo_act 145 = .ok (.iadd, 1) := by decide +kernel
theorem dMo_act_146 : decode zbMo_act 146 = .ok (.sipush 999, 3) := by decide +kernel
theorem dMo_act_149 : decode zbMo_act 149 = .ok (.if_icmp .le 7, 3) := by decide +kernel
theorem dMo_act_152 : decode zbMo_act 152 = .ok (.iconst 1, 1) := by decide +kernel
theorem dMo_act_153 : decode zbMo_act 153 = .ok (.goto 4, 3) := by decide +kernel
theorem dMo_act_156 : decode zbMo_act 156 = .ok (.iconst 0, 1) := by decide +kernel
theorem dMo_act_157 : decode zbMo_act 157 = .ok (.putfield 109, 3) := by decide +kernel
theorem dMo_act_160 : decode zbMo_act 160 = .ok (.aload_n 0, 1) := by decide +kernel
theorem dMo_act_161 : decode zbMo_act 161 = .ok (.getfield 54, 3) := by decide +kernel
theorem dMo_act_164 : decode zbMo_act 164 = .ok (.iload 6, 2) := by decide +kernel
theorem dMo_act_166 : decode zbMo_act 166 = .ok (.aload_n 0, 1) := by decide +kernel
theorem dMo_act_167 : decode zbMo_act 167 = .ok (.getfield 54, 3) := by decide +kernel
theorem dMo_act_170 : decode zbMo_act 170 = .ok (.iload 6, 2) := by decide +kernel
theorem dMo_act_172 : decode zbMo_act 172 = .ok (.iaload, 1) := by decide +kernel
theorem dMo_act_173 : decode zbMo_act 173 = .ok (.aload_n 0, 1) := by decide +kernel
theorem dMo_act_174 : decode zbMo_act 174 = .ok (.getfield 51, 3) := by decide +kernel
theorem dMo_act_177 : decode zbMo_act 177 = .ok (.iload_n 3, 1) := by decide +kernel
theorem dMo_act_178 : decode zbMo_act 178 = .ok (.iaload, 1) := by decide +kernel
theorem dMo_act_179 : decode zbMo_act 179 = .ok (.iadd, 1) := by decide +kernel
theorem dMo_act_180 : decode zbMo_act 180 = .ok (.iastore, 1) := by decide +kernel
theorem dMo_act_181 : decode zbMo_act 181 = .ok (.goto 28, 3) := by decide +kernel
theorem dMo_act_184 : decode zbMo_act 184 = .ok (.aload_n 0, 1) := by decide +kernel
theorem dMo_act_185 : decode zbMo_act 185 = .ok (.getfield 57, 3) := by decide +kernel
theorem dMo_act_188 : decode zbMo_act 188 = .ok (.aload_n 0, 1) := by decide +kernel
theorem dMo_act_189 : decode zbMo_act 189 = .ok (.getfield 128, 3) := by decide +kernel
theorem dMo_act_192 : decode zbMo_act 192 = .ok (.aload_n 0, 1) := by decide +kernel
theorem dMo_act_193 : decode zbMo_act 193 = .ok (.getfield 45, 3) := by decide +kernel
theorem dMo_act_196 : decode zbMo_act 196 = .ok (.iload_n 3, 1) := by decide +kernel
theorem dMo_act_197 : decode zbMo_act 197 = .ok (.iaload, 1) := by decide +kernel
theorem dMo_act_198 : decode zbMo_act 198 = .ok (.iastore, 1) := by decide +kernel
theorem dMo_act_199 : decode zbMo_act 199 = .ok (.aload_n 0, 1) := by decide +kernel
theorem dMo_act_200 : decode zbMo_act 200 = .ok (.aload_n 0, 1) := by decide +kernel
theorem dMo_act_201 : decode zbMo_act 201 = .ok (.getfield 128, 3) := by decide +kernel
theorem dMo_act_204 : decode zbMo_act 204 = .ok (.iconst 1, 1) := by decide +kernel
theorem dMo_act_205 : decode zbMo_act 205 = .ok (.iadd, 1) := by decide +kernel
theorem dMo_act_206 : decode zbMo_act 206 = .ok (.putfield 128, 3) := by decide +kernel
theorem dMo_act_209 : decode zbMo_act 209 = .ok (.return_, 1) := by decide +kernel
theorem dMo_run_0 : decode zbMo_run 0 = .ok (.iconst 0, 1) := by decide +kernel
theorem dMo_run_1 : decode zbMo_run 1 = .ok (.istore_n 2, 1) := by decide +kernel
theorem dMo_run_2 : decode zbMo_run 2 = .ok (.iload_n 2, 1) := by decide +kernel
theorem dMo_run_3 : decode zbMo_run 3 = .ok (.aload_n 0, 1) := by decide +kernel
theorem dMo_run_4 : decode zbMo_run 4 = .ok (.getfield 128, 3) := by decide +kernel
theorem dMo_run_7 : decode zbMo_run 7 = .ok (.if_icmp .ge 100, 3) := by decide +kernel
theorem dMo_run_10 : decode zbMo_run 10 = .ok (.aload_n 0, 1) := by decide +kernel
theorem dMo_run_11 : decode zbMo_run 11 = .ok (.getfield 109, 3) := by decide +kernel
theorem dMo_run_14 : decode zbMo_run 14 = .ok (.ifCond .ne 93, 3) := by decide +kernel
theorem dMo_run_17 : decode zbMo_run 17 = .ok (.bipush 10, 2) := by decide +kernel
theorem dMo_run_19 : decode zbMo_run 19 = .ok (.aload_n 0, 1) := by decide +kernel
theorem dMo_run_20 : decode zbMo_run 20 = .ok (.getfield 112, 3) := by decide +kernel
theorem dMo_run_23 : decode zbMo_run 23 = .ok (.imul, 1) := by decide +kernel
theorem dMo_run_24 : decode zbMo_run 24 = .ok (.aload_n 0, 1) := by decide +kernel
theorem dMo_run_25 : decode zbMo_run 25 = .ok (.getfield 57, 3) := by decide +kernel
theorem dMo_run_28 : decode zbMo_run 28 = .ok (.iload_n 2, 1) := by decide +kernel
theorem dMo_run_29 : decode zbMo_run 29 = .ok (.iaload, 1) := by decide +kernel
theorem dMo_run_30 : decode zbMo_run 30 = .ok (.iadd, 1) := by decide +kernel
theorem dMo_run_31 : decode zbMo_run 31 = .ok (.istore_n 3, 1) := by decide +kernel
theorem dMo_run_32 : decode zbMo_run 32 = .ok (.aload_n 0, 1) := by decide +kernel
theorem dMo_run_33 : decode zbMo_run 33 = .ok (.getfield 30, 3) := by decide +kernel
theorem dMo_run_36 : decode zbMo_run 36 = .ok (.iload_n 3, 1) := by decide +kernel
theorem dMo_run_37 : decode zbMo_run 37 = .ok (.baload, 1) := by decide +kernel
theorem dMo_run_38 : decode zbMo_run 38 = .ok (.ifCond .eq 40, 3) := by decide +kernel
theorem dMo_run_41 : decode zbMo_run 41 = .ok (.aload_n 0, 1) := by decide +kernel
theorem dMo_run_42 : decode zbMo_run 42 = .ok (.getfield 54, 3) := by decide +kernel
theorem dMo_run_45 : decode zbMo_run 45 = .ok (.bipush 71, 2) := by decide +kernel
theorem dMo_run_47 : decode zbMo_run 47 = .ok (.iload_n 1, 1) := by decide +kernel
theorem dMo_run_48 : decode zbMo_run 48 = .ok (.imul, 1) := by decide +kernel
theorem dMo_run_49 : decode zbMo_run 49 = .ok (.bipush 52, 2) := by decide +kernel
theorem dMo_run_51 : decode zbMo_run 51 = .ok (.iadd, 1) := by decide +kernel
theorem dMo_run_52 : decode zbMo_run 52 = .ok (.iconst 3, 1) := by decide +kernel
theorem dMo_run_53 : decode zbMo_run 53 = .ok (.aload_n 0, 1) := by decide +kernel
theorem dMo_run_54 : decode zbMo_run 54 = .ok (.getfield 33, 3) := by decide +kernel
theorem dMo_run_57 : decode zbMo_run 57 = .ok (.iload_n 3, 1) := by decide +kernel
theorem dMo_run_58 : decode zbMo_run 58 = .ok (.iaload, 1) := by decide +kernel
theorem dMo_run_59 : decode zbMo_run 59 = .ok (.imul, 1) := by decide +kernel
theorem dMo_run_60 : decode zbMo_run 60 = .ok (.iadd, 1) := by decide +kernel
theorem dMo_run_61 : decode zbMo_run 61 = .ok (.aload_n 0, 1) := by decide +kernel
theorem dMo_run_62 : decode zbMo_run 62 = .ok (.getfield 36, 3) := by decide +kernel
theorem dMo_run_65 : decode zbMo_run 65 = .ok (.iload_n 3, 1) := by decide +kernel
theorem dMo_run_66 : decode zbMo_run 66 = .ok (.iaload, 1) := by decide +kernel
theorem dMo_run_67 : decode zbMo_run 67 = .ok (.iadd, 1) := by decide +kernel
theorem dMo_run_68 : decode zbMo_run 68 = .ok (.iaload, 1) := by decide +kernel
theorem dMo_run_69 : decode zbMo_run 69 = .ok (.aload_n 0, 1) := by decide +kernel
theorem dMo_run_70 : decode zbMo_run 70 = .ok (.getfield 39, 3) := by decide +kernel
theorem dMo_run_73 : decode zbMo_run 73 = .ok (.iload_n 3, 1) := by decide +kernel
theorem dMo_run_74 : decode zbMo_run 74 = .ok (.iaload, 1) := by decide +kernel
theorem dMo_run_75 : decode zbMo_run 75 = .ok (.if_icmp .le 7, 3) := by decide +kernel
theorem dMo_run_78 : decode zbMo_run 78 = .ok (.iconst 1, 1) := by decide +kernel
theorem dMo_run_79 : decode zbMo_run 79 = .ok (.goto 4, 3) := by decide +kernel
theorem dMo_run_82 : decode zbMo_run 82 = .ok (.iconst 0, 1) := by decide +kernel
theorem dMo_run_83 : decode zbMo_run 83 = .ok (.istore 4, 2) := by decide +kernel
theorem dMo_run_85 : decode zbMo_run 85 = .ok (.iload 4, 2) := by decide +kernel
theorem dMo_run_87 : decode zbMo_run 87 = .ok (.ifCond .eq 14, 3) := by decide +kernel
theorem dMo_run_90 : decode zbMo_run 90 = .ok (.aload_n 0, 1) := by decide +kernel
theorem dMo_run_91 : decode zbMo_run 91 = .ok (.iload_n 1, 1) := by decide +kernel
theorem dMo_run_92 : decode zbMo_run 92 = .ok (.aload_n 0, 1) := by decide +kernel
theorem dMo_run_93 : decode zbMo_run 93 = .ok (.getfield 57, 3) := by decide +kernel
theorem dMo_run_96 : decode zbMo_run 96 = .ok (.iload_n 2, 1) := by decide +kernel
theorem dMo_run_97 : decode zbMo_run 97 = .ok (.iaload, 1) := by decide +kernel
theorem dMo_run_98 : decode zbMo_run 98 = .ok (.invokevirtual 148, 3) := by decide +kernel
theorem dMo_run_101 : decode zbMo_run 101 = .ok (.iinc 2 1, 3) := by decide +kernel
theorem dMo_run_104 : decode zbMo_run 104 = .ok (.goto (-102), 3) := by decide +kernel
theorem dMo_run_107 : decode zbMo_run 107 = .ok (.return_, 1) := by decide +kernel
theorem dMo_start_0 : decode zbMo_start 0 = .ok (.aload_n 0, 1) := by decide +kernel
theorem dMo_start_1 : decode zbMo_start 1 = .ok (.iconst 0, 1) := by decide +kernel
theorem dMo_start_2 : decode zbMo_start 2 = .ok (.putfield 128, 3) := by decide +kernel
theorem dMo_start_5 : decode zbMo_start 5 = .ok (.aload_n 0, 1) := by decide +kernel
theorem dMo_start_6 : decode zbMo_start 6 = .ok (.iconst 0, 1) := by decide +kernel
theorem dMo_start_7 : decode zbMo_start 7 = .ok (.putfield 109, 3) := by decide +kernel
theorem dMo_start_10 : decode zbMo_start 10 = .ok (.aload_n 0, 1) := by decide +kernel
theorem dMo_start_11 : decode zbMo_start 11 = .ok (.iconst 0, 1) := by decide +kernel
theorem dMo_start_12 : decode zbMo_start 12 = .ok (.putfield 131, 3) := by decide +kernel
theorem dMo_start_15 : decode zbMo_start 15 = .ok (.aload_n 0, 1) := by decide +kernel
theorem dMo_start_16 : decode zbMo_start 16 = .ok (.iconst 0, 1) := by decide +kernel
theorem dMo_start_17 : decode zbMo_start 17 = .ok (.putfield 134, 3) := by decide +kernel
theorem dMo_start_20 : decode zbMo_start 20 = .ok (.return_, 1) := by decide +kernel
theorem dMo_eventIn_0 : decode zbMo_eventIn 0 = .ok (.aload_n 0, 1) := by decide +kernel
theorem dMo_eventIn_1 : decode zbMo_eventIn 1 = .ok (.invokevirtual 152, 3) := by decide +kernel
theorem dMo_eventIn_4 : decode zbMo_eventIn 4 = .ok (.aload_n 0, 1) := by decide +kernel
theorem dMo_eventIn_5 : decode zbMo_eventIn 5 = .ok (.iconst 1, 1) := by decide +kernel
theorem dMo_eventIn_6 : decode zbMo_eventIn 6 = .ok (.iload_n 2, 1) := by decide +kernel
theorem dMo_eventIn_7 : decode zbMo_eventIn 7 = .ok (.iload_n 3, 1) := by decide +kernel
theorem dMo_eventIn_8 : decode zbMo_eventIn 8 = .ok (.invokevirtual 137, 3) := by decide +kernel
theorem dMo_eventIn_11 : decode zbMo_eventIn 11 = .ok (.aload_n 0, 1) := by decide +kernel
theorem dMo_eventIn_12 : decode zbMo_eventIn 12 = .ok (.iload_n 1, 1) := by decide +kernel
theorem dMo_eventIn_13 : decode zbMo_eventIn 13 = .ok (.bipush 18, 2) := by decide +kernel
theorem dMo_eventIn_15 : decode zbMo_eventIn 15 = .ok (.iload_n 2, 1) := by decide +kernel
theorem dMo_eventIn_16 : decode zbMo_eventIn 16 = .ok (.iload_n 3, 1) := by decide +kernel
theorem dMo_eventIn_17 : decode zbMo_eventIn 17 = .ok (.invokevirtual 155, 3) := by decide +kernel
theorem dMo_eventIn_20 : decode zbMo_eventIn 20 = .ok (.ifCond .lt 109, 3) := by decide +kernel
theorem dMo_eventIn_23 : decode zbMo_eventIn 23 = .ok (.aload_n 0, 1) := by decide +kernel
theorem dMo_eventIn_24 : decode zbMo_eventIn 24 = .ok (.iload_n 1, 1) := by decide +kernel
theorem dMo_eventIn_25 : decode zbMo_eventIn 25 = .ok (.bipush 35, 2) := by decide +kernel
theorem dMo_eventIn_27 : decode zbMo_eventIn 27 = .ok (.iload_n 2, 1) := by decide +kernel
theorem dMo_eventIn_28 : decode zbMo_eventIn 28 = .ok (.iload_n 3, 1) := by decide +kernel
theorem dMo_eventIn_29 : decode zbMo_eventIn 29 = .ok (.invokevirtual 155, 3) := by decide +kernel
theorem dMo_eventIn_32 : decode zbMo_eventIn 32 = .ok (.istore 4, 2) := by decide +kernel
theorem dMo_eventIn_34 : decode zbMo_eventIn 34 = .ok (.iload 4, 2) := by decide +kernel
theorem dMo_eventIn_36 : decode zbMo_eventIn 36 = .ok (.ifCond .lt 12, 3) := by decide +kernel
theorem dMo_eventIn_39 : decode zbMo_eventIn 39 = .ok (.aload_n 0, 1) := by decide +kernel
theorem dMo_eventIn_40 : decode zbMo_eventIn 40 = .ok (.iload_n 1, 1) := by decide +kernel
theorem dMo_eventIn_41 : decode zbMo_eventIn 41 = .ok (.bipush 35, 2) := by decide +kernel
theorem dMo_eventIn_43 : decode zbMo_eventIn 43 = .ok (.iload 4, 2) := by decide +kernel
theorem dMo_eventIn_45 : decode zbMo_eventIn 45 = .ok (.invokevirtual 159, 3) := by decide +kernel
theorem dMo_eventIn_48 : decode zbMo_eventIn 48 = .ok (.iconst 0, 1) := by decide +kernel
theorem dMo_eventIn_49 : decode zbMo_eventIn 49 = .ok (.istore 5, 2) := by decide +kernel
theorem dMo_eventIn_51 : decode zbMo_eventIn 51 = .ok (.iload 5, 2) := by decide +kernel
theorem dMo_eventIn_53 : decode zbMo_eventIn 53 = .ok (.aload_n 0, 1) := by decide +kernel
theorem dMo_eventIn_54 : decode zbMo_eventIn 54 = .ok (.getfield 125, 3) := by decide +kernel
theorem dMo_eventIn_57 : decode zbMo_eventIn 57 = .ok (.if_icmp .ge 72, 3) := by decide +kernel
theorem dMo_eventIn_60 : decode zbMo_eventIn 60 = .ok (.iload 4, 2) := by decide +kernel
theorem dMo_eventIn_62 : decode zbMo_eventIn 62 = .ok (.ifCond .ge 67, 3) := by decide +kernel
theorem dMo_eventIn_65 : decode zbMo_eventIn 65 = .ok (.iconst 0, 1) := by decide +kernel
theorem dMo_eventIn_66 : decode zbMo_eventIn 66 = .ok (.istore 6, 2) := by decide +kernel
theorem dMo_eventIn_68 : decode zbMo_eventIn 68 = .ok (.iload 6, 2) := by decide +kernel
theorem dMo_eventIn_70 : decode zbMo_eventIn 70 = .ok (.aload_n 0, 1) := by decide +kernel
theorem dMo_eventIn_71 : decode zbMo_eventIn 71 = .ok (.getfield 54, 3) := by decide +kernel
theorem dMo_eventIn_74 : decode zbMo_eventIn 74 = .ok (.bipush 71, 2) := by decide +kernel
theorem dMo_eventIn_76 : decode zbMo_eventIn 76 = .ok (.iload_n 1, 1) := by decide +kernel
theorem dMo_eventIn_77 : decode zbMo_eventIn 77 = .ok (.imul, 1) := by decide +kernel
theorem dMo_eventIn_78 : decode zbMo_eventIn 78 = .ok (.bipush 18, 2) := by decide +kernel
theorem dMo_eventIn_80 : decode zbMo_eventIn 80 = .ok (.iadd, 1) := by decide +kernel
theorem dMo_eventIn_81 : decode zbMo_eventIn 81 = .ok (.iaload, 1) := by decide +kernel
theorem dMo_eventIn_82 : decode zbMo_eventIn 82 = .ok (.if_icmp .ge 41, 3) := by decide +kernel
theorem dMo_eventIn_85 : decode zbMo_eventIn 85 = .ok (.aload_n 0, 1) := by decide +kernel
theorem dMo_eventIn_86 : decode zbMo_eventIn 86 = .ok (.iload_n 1, 1) := by decide +kernel
theorem dMo_eventIn_87 : decode zbMo_eventIn 87 = .ok (.bipush 18, 2) := by decide +kernel
theorem dMo_eventIn_89 : decode zbMo_eventIn 89 = .ok (.iload 6, 2) := by decide +kernel
theorem dMo_eventIn_91 : decode zbMo_eventIn 91 = .ok (.invokevirtual 115, 3) := by decide +kernel
theorem dMo_eventIn_94 : decode zbMo_eventIn 94 = .ok (.iload 5, 2) := by decide +kernel
theorem dMo_eventIn_96 : decode zbMo_eventIn 96 = .ok (.if_icmp .ne 21, 3) := by decide +kernel
theorem dMo_eventIn_99 : decode zbMo_eventIn 99 = .ok (.aload_n 0, 1) := by decide +kernel
theorem dMo_eventIn_100 : decode zbMo_eventIn 100 = .ok (.iload 5, 2) := by decide +kernel
theorem dMo_eventIn_102 : decode zbMo_eventIn 102 = .ok (.iload_n 2, 1) := by decide +kernel
theorem dMo_eventIn_103 : decode zbMo_eventIn 103 = .ok (.iload_n 3, 1) := by decide +kernel
theorem dMo_eventIn_104 : decode zbMo_eventIn 104 = .ok (.invokevirtual 119, 3) := by decide +kernel
theorem dMo_eventIn_107 : decode zbMo_eventIn 107 = .ok (.ifCond .eq 10, 3) := by decide +kernel
theorem dMo_eventIn_110 : decode zbMo_eventIn 110 = .ok (.aload_n 0, 1) := by decide +kernel
theorem dMo_eventIn_111 : decode zbMo_eventIn 111 = .ok (.iload_n 1, 1) := by decide +kernel
theorem dMo_eventIn_112 : decode zbMo_eventIn 112 = .ok (.iload 5, 2) := by decide +kernel
theorem dMo_eventIn_114 : decode zbMo_eventIn 114 = .ok (.invokevirtual 162, 3) := by decide +kernel
theorem dMo_eventIn_117 : decode zbMo_eventIn 117 = .ok (.iinc 6 1, 3) := by decide +kernel
theorem dMo_eventIn_120 : decode zbMo_eventIn 120 = .ok (.goto (-52), 3) := by decide +kernel
theorem dMo_eventIn_123 : decode zbMo_eventIn 123 = .ok (.iinc 5 1, 3) := by decide +kernel
theorem dMo_eventIn_126 : decode zbMo_eventIn 126 = .ok (.goto (-75), 3) := by decide +kernel
theorem dMo_eventIn_129 : decode zbMo_eventIn 129 = .ok (.aload_n 0, 1) := by decide +kernel
theorem dMo_eventIn_130 : decode zbMo_eventIn 130 = .ok (.iload_n 1, 1) := by decide +kernel
theorem dMo_eventIn_131 : decode zbMo_eventIn 131 = .ok (.iconst 1, 1) := by decide +kernel
theorem dMo_eventIn_132 : decode zbMo_eventIn 132 = .ok (.iload_n 2, 1) := by decide +kernel
theorem dMo_eventIn_133 : decode zbMo_eventIn 133 = .ok (.iload_n 3, 1) := by decide +kernel
theorem dMo_eventIn_134 : decode zbMo_eventIn 134 = .ok (.invokevirtual 155, 3) := by decide +kernel
theorem dMo_eventIn_137 : decode zbMo_eventIn 137 = .ok (.istore 4, 2) := by decide +kernel
theorem dMo_eventIn_139 : decode zbMo_eventIn 139 = .ok (.iload 4, 2) := by decide +kernel
theorem dMo_eventIn_141 : decode zbMo_eventIn 141 = .ok (.ifCond .lt 29, 3) := by decide +kernel
theorem dMo_eventIn_144 : decode zbMo_eventIn 144 = .ok (.aload_n 0, 1) := by decide +kernel
theorem dMo_eventIn_145 : decode zbMo_eventIn 145 = .ok (.iload_n 1, 1) := by decide +kernel
theorem dMo_eventIn_146 : decode zbMo_eventIn 146 = .ok (.iconst 1, 1) := by decide +kernel
theorem dMo_eventIn_147 : decode zbMo_eventIn 147 = .ok (.iload 4, 2) := by decide +kernel
theorem dMo_eventIn_149 : decode zbMo_eventIn 149 = .ok (.invokevirtual 115, 3) := by decide +kernel
theorem dMo_eventIn_152 : decode zbMo_eventIn 152 = .ok (.istore 5, 2) := by decide +kernel
theorem dMo_eventIn_154 : decode zbMo_eventIn 154 = .ok (.aload_n 0, 1) := by decide +kernel
theorem dMo_eventIn_155 : decode zbMo_eventIn 155 = .ok (.iload_n 1, 1) := by decide +kernel
theorem dMo_eventIn_156 : decode zbMo_eventIn 156 = .ok (.iconst 1, 1) := by decide +kernel
theorem dMo_eventIn_157 : decode zbMo_eventIn 157 = .ok (.iload 4, 2) := by decide +kernel
theorem dMo_eventIn_159 : decode zbMo_eventIn 159 = .ok (.invokevirtual 159, 3) := by decide +kernel
theorem dMo_eventIn_162 : decode zbMo_eventIn 162 = .ok (.aload_n 0, 1) := by decide +kernel
theorem dMo_eventIn_163 : decode zbMo_eventIn 163 = .ok (.iconst 3, 1) := by decide +kernel
theorem dMo_eventIn_164 : decode zbMo_eventIn 164 = .ok (.iload 5, 2) := by decide +kernel
theorem dMo_eventIn_166 : decode zbMo_eventIn 166 = .ok (.iconst 0, 1) := by decide +kernel
theorem dMo_eventIn_167 : decode zbMo_eventIn 167 = .ok (.invokevirtual 137, 3) := by decide +kernel
theorem dMo_eventIn_170 : decode zbMo_eventIn 170 = .ok (.aload_n 0, 1) := by decide +kernel
theorem dMo_eventIn_171 : decode zbMo_eventIn 171 = .ok (.iload_n 1, 1) := by decide +kernel
theorem dMo_eventIn_172 : decode zbMo_eventIn 172 = .ok (.invokevirtual 165, 3) := by decide +kernel
theorem dMo_eventIn_175 : decode zbMo_eventIn 175 = .ok (.return_, 1) := by decide +kernel
theorem dMo_passOver_0 : decode zbMo_passOver 0 = .ok (.iconst 0, 1) := by decide +kernel
theorem dMo_passOver_1 : decode zbMo_passOver 1 = .ok (.istore_n 3, 1) := by decide +kernel
theorem dMo_passOver_2 : decode zbMo_passOver 2 = .ok (.iload_n 3, 1) := by decide +kernel
theorem dMo_passOver_3 : decode zbMo_passOver 3 = .ok (.aload_n 0, 1) := by decide +kernel
theorem dMo_passOver_4 : decode zbMo_passOver 4 = .ok (.getfield 54, 3) := by decide +kernel
theorem dMo_passOver_7 : decode zbMo_passOver 7 = .ok (.bipush 71, 2) := by decide +kernel
theorem dMo_passOver_9 : decode zbMo_passOver 9 = .ok (.iload_n 1, 1) := by decide +kernel
theorem dMo_passOver_10 : decode zbMo_passOver 10 = .ok (.imul, 1) := by decide +kernel
theorem dMo_passOver_11 : decode zbMo_passOver 11 = .ok (.iload_n 2, 1) := by decide +kernel
theorem dMo_passOver_12 : decode zbMo_passOver 12 = .ok (.iadd, 1) := by decide +kernel
theorem dMo_passOver_13 : decode zbMo_passOver 13 = .ok (.iaload, 1) := by decide +kernel
theorem dMo_passOver_14 : decode zbMo_passOver 14 = .ok (.if_icmp .ge 39, 3) := by decide +kernel
theorem dMo_passOver_17 : decode zbMo_passOver 17 = .ok (.aload_n 0, 1) := by decide +kernel
theorem dMo_passOver_18 : decode zbMo_passOver 18 = .ok (.iload_n 1, 1) := by decide +kernel
theorem dMo_passOver_19 : decode zbMo_passOver 19 = .ok (.iload_n 2, 1) := by decide +kernel
theorem dMo_passOver_20 : decode zbMo_passOver 20 = .ok (.iload_n 3, 1) := by decide +kernel
theorem dMo_passOver_21 : decode zbMo_passOver 21 = .ok (.invokevirtual 122, 3) := by decide +kernel
theorem dMo_passOver_24 : decode zbMo_passOver 24 = .ok (.aload_n 0, 1) := by decide +kernel
theorem dMo_passOver_25 : decode zbMo_passOver 25 = .ok (.getfield 54, 3) := by decide +kernel
theorem dMo_passOver_28 : decode zbMo_passOver 28 = .ok (.bipush 71, 2) := by decide +kernel
theorem dMo_passOver_30 : decode zbMo_passOver 30 = .ok (.iload_n 1, 1) := by decide +kernel
theorem dMo_passOver_31 : decode zbMo_passOver 31 = .ok (.imul, 1) := by decide +kernel
theorem dMo_passOver_32 : decode zbMo_passOver 32 = .ok (.iaload, 1) := by decide +kernel
theorem dMo_passOver_33 : decode zbMo_passOver 33 = .ok (.if_icmp .ge 13, 3) := by decide +kernel
theorem dMo_passOver_36 : decode zbMo_passOver 36 = .ok (.aload_n 0, 1) := by decide +kernel
theorem dMo_passOver_37 : decode zbMo_passOver 37 = .ok (.iload_n 1, 1) := by decide +kernel
theorem dMo_passOver_38 : decode zbMo_passOver 38 = .ok (.iload_n 2, 1) := by decide +kernel
theorem dMo_passOver_39 : decode zbMo_passOver 39 = .ok (.iload_n 3, 1) := by decide +kernel
theorem dMo_passOver_40 : decode zbMo_passOver 40 = .ok (.invokevirtual 159, 3) := by decide +kernel
theorem dMo_passOver_43 : decode zbMo_passOver 43 = .ok (.goto (-41), 3) := by decide +kernel
theorem dMo_passOver_46 : decode zbMo_passOver 46 = .ok (.iload_n 3, 1) := by decide +kernel
theorem dMo_passOver_47 : decode zbMo_passOver 47 = .ok (.iconst 1, 1) := by decide +kernel
theorem dMo_passOver_48 : decode zbMo_passOver 48 = .ok (.iadd, 1) := by decide +kernel
theorem dMo_passOver_49 : decode zbMo_passOver 49 = .ok (.istore_n 3, 1) := by decide +kernel
theorem dMo_passOver_50 : decode zbMo_passOver 50 = .ok (.goto (-48), 3) := by decide +kernel
theorem dMo_passOver_53 : decode zbMo_passOver 53 = .ok (.return_, 1) := by decide +kernel
theorem dMo_endIn_0 : decode zbMo_endIn 0 = .ok (.aload_n 0, 1) := by decide +kernel
theorem dMo_endIn_1 : decode zbMo_endIn 1 = .ok (.invokevirtual 152, 3) := by decide +kernel
theorem dMo_endIn_4 : decode zbMo_endIn 4 = .ok (.iconst 0, 1) := by decide +kernel
theorem dMo_endIn_5 : decode zbMo_endIn 5 = .ok (.istore_n 2, 1) := by decide +kernel
theorem dMo_endIn_6 : decode zbMo_endIn 6 = .ok (.iload_n 2, 1) := by decide +kernel
theorem dMo_endIn_7 : decode zbMo_endIn 7 = .ok (.aload_n 0, 1) := by decide +kernel
theorem dMo_endIn_8 : decode zbMo_endIn 8 = .ok (.getfield 125, 3) := by decide +kernel
theorem dMo_endIn_11 : decode zbMo_endIn 11 = .ok (.if_icmp .ge 79, 3) := by decide +kernel
theorem dMo_endIn_14 : decode zbMo_endIn 14 = .ok (.iconst 0, 1) := by decide +kernel
theorem dMo_endIn_15 : decode zbMo_endIn 15 = .ok (.istore_n 3, 1) := by decide +kernel
theorem dMo_endIn_16 : decode zbMo_endIn 16 = .ok (.iload_n 3, 1) := by decide +kernel
theorem dMo_endIn_17 : decode zbMo_endIn 17 = .ok (.aload_n 0, 1) := by decide +kernel
theorem dMo_endIn_18 : decode zbMo_endIn 18 = .ok (.getfield 54, 3) := by decide +kernel
theorem dMo_endIn_21 : decode zbMo_endIn 21 = .ok (.bipush 71, 2) := by decide +kernel
theorem dMo_endIn_23 : decode zbMo_endIn 23 = .ok (.iload_n 1, 1) := by decide +kernel
theorem dMo_endIn_24 : decode zbMo_endIn 24 = .ok (.imul, 1) := by decide +kernel
theorem dMo_endIn_25 : decode zbMo_endIn 25 = .ok (.iconst 1, 1) := by decide +kernel
theorem dMo_endIn_26 : decode zbMo_endIn 26 = .ok (.iadd, 1) := by decide +kernel
theorem dMo_endIn_27 : decode zbMo_endIn 27 = .ok (.iaload, 1) := by decide +kernel
theorem dMo_endIn_28 : decode zbMo_endIn 28 = .ok (.if_icmp .ge 56, 3) := by decide +kernel
theorem dMo_endIn_31 : decode zbMo_endIn 31 = .ok (.aload_n 0, 1) := by decide +kernel
theorem dMo_endIn_32 : decode zbMo_endIn 32 = .ok (.iload_n 1, 1) := by decide +kernel
theorem dMo_endIn_33 : decode zbMo_endIn 33 = .ok (.iconst 1, 1) := by decide +kernel
theorem dMo_endIn_34 : decode zbMo_endIn 34 = .ok (.iload_n 3, 1) := by decide +kernel
theorem dMo_endIn_35 : decode zbMo_endIn 35 = .ok (.invokevirtual 115, 3) := by decide +kernel
theorem dMo_endIn_38 : decode zbMo_endIn 38 = .ok (.iload_n 2, 1) := by decide +kernel
theorem dMo_endIn_39 : decode zbMo_endIn 39 = .ok (.if_icmp .ne 38, 3) := by decide +kernel
theorem dMo_endIn_42 : decode zbMo_endIn 42 = .ok (.aload_n 0, 1) := by decide +kernel
theorem dMo_endIn_43 : decode zbMo_endIn 43 = .ok (.iload_n 1, 1) := by decide +kernel
theorem dMo_endIn_44 : decode zbMo_endIn 44 = .ok (.iconst 1, 1) := by decide +kernel
theorem dMo_endIn_45 : decode zbMo_endIn 45 = .ok (.iload_n 3, 1) := by decide +kernel
theorem dMo_endIn_46 : decode zbMo_endIn 46 = .ok (.invokevirtual 122, 3) := by decide +kernel
theorem dMo_endIn_49 : decode zbMo_endIn 49 = .ok (.aload_n 0, 1) := by decide +kernel
theorem dMo_endIn_50 : decode zbMo_endIn 50 = .ok (.getfield 54, 3) := by decide +kernel
theorem dMo_endIn_53 : decode zbMo_endIn 53 = .ok (.bipush 71, 2) := by decide +kernel
theorem dMo_endIn_55 : decode zbMo_endIn 55 = .ok (.iload_n 1, 1) := by decide +kernel
theorem dMo_endIn_56 : decode zbMo_endIn 56 = .ok (.imul, 1) := by decide +kernel
theorem dMo_endIn_57 : decode zbMo_endIn 57 = .ok (.iaload, 1) := by decide +kernel
theorem dMo_endIn_58 : decode zbMo_endIn 58 = .ok (.if_icmp .gt 19, 3) := by decide +kernel
theorem dMo_endIn_61 : decode zbMo_endIn 61 = .ok (.aload_n 0, 1) := by decide +kernel
theorem dMo_endIn_62 : decode zbMo_endIn 62 = .ok (.iload_n 1, 1) := by decide +kernel
theorem dMo_endIn_63 : decode zbMo_endIn 63 = .ok (.iconst 1, 1) := by decide +kernel
theorem dMo_endIn_64 : decode zbMo_endIn 64 = .ok (.iload_n 3, 1) := by decide +kernel
theorem dMo_endIn_65 : decode zbMo_endIn 65 = .ok (.invokevirtual 159, 3) := by decide +kernel
theorem dMo_endIn_68 : decode zbMo_endIn 68 = .ok (.aload_n 0, 1) := by decide +kernel
theorem dMo_endIn_69 : decode zbMo_endIn 69 = .ok (.iload_n 1, 1) := by decide +kernel
theorem dMo_endIn_70 : decode zbMo_endIn 70 = .ok (.iload_n 2, 1) := by decide +kernel
theorem dMo_endIn_71 : decode zbMo_endIn 71 = .ok (.invokevirtual 162, 3) := by decide +kernel
theorem dMo_endIn_74 : decode zbMo_endIn 74 = .ok (.goto (-58), 3) := by decide +kernel
theorem dMo_endIn_77 : decode zbMo_endIn 77 = .ok (.iload_n 3, 1) := by decide +kernel
theorem dMo_endIn_78 : decode zbMo_endIn 78 = .ok (.iconst 1, 1) := by decide +kernel
theorem dMo_endIn_79 : decode zbMo_endIn 79 = .ok (.iadd, 1) := by decide +kernel
theorem dMo_endIn_80 : decode zbMo_endIn 80 = .ok (.istore_n 3, 1) := by decide +kernel
theorem dMo_endIn_81 : decode zbMo_endIn 81 = .ok (.goto (-65), 3) := by decide +kernel
theorem dMo_endIn_84 : decode zbMo_endIn 84 = .ok (.iinc 2 1, 3) := by decide +kernel
theorem dMo_endIn_87 : decode zbMo_endIn 87 = .ok (.goto (-81), 3) := by decide +kernel
theorem dMo_endIn_90 : decode zbMo_endIn 90 = .ok (.aload_n 0, 1) := by decide +kernel
theorem dMo_endIn_91 : decode zbMo_endIn 91 = .ok (.iload_n 1, 1) := by decide +kernel
theorem dMo_endIn_92 : decode zbMo_endIn 92 = .ok (.invokevirtual 165, 3) := by decide +kernel
theorem dMo_endIn_95 : decode zbMo_endIn 95 = .ok (.aload_n 0, 1) := by decide +kernel
theorem dMo_endIn_96 : decode zbMo_endIn 96 = .ok (.getfield 54, 3) := by decide +kernel
theorem dMo_endIn_99 : decode zbMo_endIn 99 = .ok (.bipush 71, 2) := by decide +kernel
theorem dMo_endIn_101 : decode zbMo_endIn 101 = .ok (.iload_n 1, 1) := by decide +kernel
theorem dMo_endIn_102 : decode zbMo_endIn 102 = .ok (.imul, 1) := by decide +kernel
theorem dMo_endIn_103 : decode zbMo_endIn 103 = .ok (.aload_n 0, 1) := by decide +kernel
theorem dMo_endIn_104 : decode zbMo_endIn 104 = .ok (.getfield 54, 3) := by decide +kernel
theorem dMo_endIn_107 : decode zbMo_endIn 107 = .ok (.bipush 71, 2) := by decide +kernel
theorem dMo_endIn_109 : decode zbMo_endIn 109 = .ok (.iload_n 1, 1) := by decide +kernel
theorem dMo_endIn_110 : decode zbMo_endIn 110 = .ok (.imul, 1) := by decide +kernel
theorem dMo_endIn_111 : decode zbMo_endIn 111 = .ok (.iaload, 1) := by decide +kernel
theorem dMo_endIn_112 : decode zbMo_endIn 112 = .ok (.iconst 1, 1) := by decide +kernel
theorem dMo_endIn_113 : decode zbMo_endIn 113 = .ok (.iadd, 1) := by decide +kernel
theorem dMo_endIn_114 : decode zbMo_endIn 114 = .ok (.iastore, 1) := by decide +kernel
theorem dMo_endIn_115 : decode zbMo_endIn 115 = .ok (.aload_n 0, 1) := by decide +kernel
theorem dMo_endIn_116 : decode zbMo_endIn 116 = .ok (.iload_n 1, 1) := by decide +kernel
theorem dMo_endIn_117 : decode zbMo_endIn 117 = .ok (.bipush 18, 2) := by decide +kernel
theorem dMo_endIn_119 : decode zbMo_endIn 119 = .ok (.invokevirtual 169, 3) := by decide +kernel
theorem dMo_endIn_122 : decode zbMo_endIn 122 = .ok (.aload_n 0, 1) := by decide +kernel
theorem dMo_endIn_123 : decode zbMo_endIn 123 = .ok (.iload_n 1, 1) := by decide +kernel
theorem dMo_endIn_124 : decode zbMo_endIn 124 = .ok (.bipush 35, 2) := by decide +kernel
theorem dMo_endIn_126 : decode zbMo_endIn 126 = .ok (.invokevirtual 169, 3) := by decide +kernel
theorem dMo_endIn_129 : decode zbMo_endIn 129 = .ok (.return_, 1) := by decide +kernel
theorem dMo_begin_0 : decode zbMo_begin 0 = .ok (.iconst 1, 1) := by decide +kernel
theorem dMo_begin_1 : decode zbMo_begin 1 = .ok (.aload_n 0, 1) := by decide +kernel
theorem dMo_begin_2 : decode zbMo_begin 2 = .ok (.getfield 112, 3) := by decide +kernel
theorem dMo_begin_5 : decode zbMo_begin 5 = .ok (.isub, 1) := by decide +kernel
theorem dMo_begin_6 : decode zbMo_begin 6 = .ok (.istore_n 1, 1) := by decide +kernel
theorem dMo_begin_7 : decode zbMo_begin 7 = .ok (.aload_n 0, 1) := by decide +kernel
theorem dMo_begin_8 : decode zbMo_begin 8 = .ok (.bipush 10, 2) := by decide +kernel
theorem dMo_begin_10 : decode zbMo_begin 10 = .ok (.iload_n 1, 1) := by decide +kernel
theorem dMo_begin_11 : decode zbMo_begin 11 = .ok (.imul, 1) := by decide +kernel
theorem dMo_begin_12 : decode zbMo_begin 12 = .ok (.invokevirtual 172, 3) := by decide +kernel
theorem dMo_begin_15 : decode zbMo_begin 15 = .ok (.istore_n 2, 1) := by decide +kernel
theorem dMo_begin_16 : decode zbMo_begin 16 = .ok (.aload_n 0, 1) := by decide +kernel
theorem dMo_begin_17 : decode zbMo_begin 17 = .ok (.aload_n 0, 1) := by decide +kernel
theorem dMo_begin_18 : decode zbMo_begin 18 = .ok (.bipush 10, 2) := by decide +kernel
theorem dMo_begin_20 : decode zbMo_begin 20 = .ok (.iload_n 1, 1) := by decide +kernel
theorem dMo_begin_21 : decode zbMo_begin 21 = .ok (.imul, 1) := by decide +kernel
theorem dMo_begin_22 : decode zbMo_begin 22 = .ok (.iload_n 2, 1) := by decide +kernel
theorem dMo_begin_23 : decode zbMo_begin 23 = .ok (.invokevirtual 175, 3) := by decide +kernel
theorem dMo_begin_26 : decode zbMo_begin 26 = .ok (.putfield 13, 3) := by decide +kernel
theorem dMo_begin_29 : decode zbMo_begin 29 = .ok (.aload_n 0, 1) := by decide +kernel
theorem dMo_begin_30 : decode zbMo_begin 30 = .ok (.aload_n 0, 1) := by decide +kernel
theorem dMo_begin_31 : decode zbMo_begin 31 = .ok (.getfield 13, 3) := by decide +kernel
theorem dMo_begin_34 : decode zbMo_begin 34 = .ok (.ifCond .lt 7, 3) := by decide +kernel
theorem dMo_begin_37 : decode zbMo_begin 37 = .ok (.iconst 1, 1) := by decide +kernel
theorem dMo_begin_38 : decode zbMo_begin 38 = .ok (.goto 4, 3) := by decide +kernel
theorem dMo_begin_41 : decode zbMo_begin 41 = .ok (.iconst 0, 1) := by decide +kernel
theorem dMo_begin_42 : decode zbMo_begin 42 = .ok (.putfield 60, 3) := by decide +kernel
theorem dMo_begin_45 : decode zbMo_begin 45 = .ok (.aload_n 0, 1) := by decide +kernel
theorem dMo_begin_46 : decode zbMo_begin 46 = .ok (.getfield 60, 3) := by decide +kernel
theorem dMo_begin_49 : decode zbMo_begin 49 = .ok (.ifCond .le 5, 3) := by decide +kernel
theorem dMo_begin_52 : decode zbMo_begin 52 = .ok (.iconst 0, 1) := by decide +kernel
theorem dMo_begin_53 : decode zbMo_begin 53 = .ok (.ireturn, 1) := by decide +kernel
theorem dMo_begin_54 : decode zbMo_begin 54 = .ok (.aload_n 0, 1) := by decide +kernel
theorem dMo_begin_55 : decode zbMo_begin 55 = .ok (.getfield 125, 3) := by decide +kernel
theorem dMo_begin_58 : decode zbMo_begin 58 = .ok (.istore_n 3, 1) := by decide +kernel
theorem dMo_begin_59 : decode zbMo_begin 59 = .ok (.aload_n 0, 1) := by decide +kernel
theorem dMo_begin_60 : decode zbMo_begin 60 = .ok (.iload_n 1, 1) := by decide +kernel
theorem dMo_begin_61 : decode zbMo_begin 61 = .ok (.putfield 112, 3) := by decide +kernel
theorem dMo_begin_64 : decode zbMo_begin 64 = .ok (.aload_n 0, 1) := by decide +kernel
theorem dMo_begin_65 : decode zbMo_begin 65 = .ok (.iload_n 2, 1) := by decide +kernel
theorem dMo_begin_66 : decode zbMo_begin 66 = .ok (.putfield 125, 3) := by decide +kernel
theorem dMo_begin_69 : decode zbMo_begin 69 = .ok (.iconst 0, 1) := by decide +kernel
theorem dMo_begin_70 : decode zbMo_begin 70 = .ok (.istore 4, 2) := by decide +kernel
theorem dMo_begin_72 : decode zbMo_begin 72 = .ok (.iload 4, 2) := by decide +kernel
theorem dMo_begin_74 : decode zbMo_begin 74 = .ok (.bipush 71, 2) := by decide +kernel
theorem dMo_begin_76 : decode zbMo_begin 76 = .ok (.if_icmp .ge 21, 3) := by decide +kernel
theorem dMo_begin_79 : decode zbMo_begin 79 = .ok (.aload_n 0, 1) := by decide +kernel
theorem dMo_begin_80 : decode zbMo_begin 80 = .ok (.getfield 54, 3) := by decide +kernel
theorem dMo_begin_83 : decode zbMo_begin 83 = .ok (.sipush 923, 3) := by decide +kernel
theorem dMo_begin_86 : decode zbMo_begin 86 = .ok (.iload 4, 2) := by decide +kernel
theorem dMo_begin_88 : decode zbMo_begin 88 = .ok (.iadd, 1) := by decide +kernel
theorem dMo_begin_89 : decode zbMo_begin 89 = .ok (.iconst 0, 1) := by decide +kernel
theorem dMo_begin_90 : decode zbMo_begin 90 = .ok (.iastore, 1) := by decide +kernel
theorem dMo_begin_91 : decode zbMo_begin 91 = .ok (.iinc 4 1, 3) := by decide +kernel
theorem dMo_begin_94 : decode zbMo_begin 94 = .ok (.goto (-22), 3) := by decide +kernel
theorem dMo_begin_97 : decode zbMo_begin 97 = .ok (.aload_n 0, 1) := by decide +kernel
theorem dMo_begin_98 : decode zbMo_begin 98 = .ok (.invokevirtual 152, 3) := by decide +kernel
theorem dMo_begin_101 : decode zbMo_begin 101 = .ok (.aload_n 0, 1) := by decide +kernel
theorem dMo_begin_102 : decode zbMo_begin 102 = .ok (.iconst 0, 1) := by decide +kernel
theorem dMo_begin_103 : decode zbMo_begin 103 = .ok (.iconst 0, 1) := by decide +kernel
theorem dMo_begin_104 : decode zbMo_begin 104 = .ok (.iconst 0, 1) := by decide +kernel
theorem dMo_begin_105 : decode zbMo_begin 105 = .ok (.invokevirtual 137, 3) := by decide +kernel
theorem dMo_begin_108 : decode zbMo_begin 108 = .ok (.aload_n 0, 1) := by decide +kernel
theorem dMo_begin_109 : decode zbMo_begin 109 = .ok (.bipush 13, 2) := by decide +kernel
theorem dMo_begin_111 : decode zbMo_begin 111 = .ok (.invokevirtual 165, 3) := by decide +kernel
theorem dMo_begin_114 : decode zbMo_begin 114 = .ok (.aload_n 0, 1) := by decide +kernel
theorem dMo_begin_115 : decode zbMo_begin 115 = .ok (.getfield 109, 3) := by decide +kernel
theorem dMo_begin_118 : decode zbMo_begin 118 = .ok (.ifCond .eq 25, 3) := by decide +kernel
theorem dMo_begin_121 : decode zbMo_begin 121 = .ok (.aload_n 0, 1) := by decide +kernel
theorem dMo_begin_122 : decode zbMo_begin 122 = .ok (.iconst 1, 1) := by decide +kernel
theorem dMo_begin_123 : decode zbMo_begin 123 = .ok (.aload_n 0, 1) := by decide +kernel
theorem dMo_begin_124 : decode zbMo_begin 124 = .ok (.getfield 112, 3) := by decide +kernel
theorem dMo_begin_127 : decode zbMo_begin 127 = .ok (.isub, 1) := by decide +kernel
theorem dMo_begin_128 : decode zbMo_begin 128 = .ok (.putfield 112, 3) := by decide +kernel
theorem dMo_begin_131 : decode zbMo_begin 131 = .ok (.aload_n 0, 1) := by decide +kernel
theorem dMo_begin_132 : decode zbMo_begin 132 = .ok (.iload_n 3, 1) := by decide +kernel
theorem dMo_begin_133 : decode zbMo_begin 133 = .ok (.putfield 125, 3) := by decide +kernel
theorem dMo_begin_136 : decode zbMo_begin 136 = .ok (.aload_n 0, 1) := by decide +kernel
theorem dMo_begin_137 : decode zbMo_begin 137 = .ok (.iconst 2, 1) := by decide +kernel
theorem dMo_begin_138 : decode zbMo_begin 138 = .ok (.putfield 60, 3) := by decide +kernel
theorem dMo_begin_141 : decode zbMo_begin 141 = .ok (.iconst 0, 1) := by decide +kernel
theorem dMo_begin_142 : decode zbMo_begin 142 = .ok (.ireturn, 1) := by decide +kernel
theorem dMo_begin_143 : decode zbMo_begin 143 = .ok (.aload_n 0, 1) := by decide +kernel
theorem dMo_begin_144 : decode zbMo_begin 144 = .ok (.bipush 13, 2) := by decide +kernel
theorem dMo_begin_146 : decode zbMo_begin 146 = .ok (.iconst 0, 1) := by decide +kernel
theorem dMo_begin_147 : decode zbMo_begin 147 = .ok (.invokevirtual 178, 3) := by decide +kernel
theorem dMo_begin_150 : decode zbMo_begin 150 = .ok (.aload_n 0, 1) := by decide +kernel
theorem dMo_begin_151 : decode zbMo_begin 151 = .ok (.iconst 1, 1) := by decide +kernel
theorem dMo_begin_152 : decode zbMo_begin 152 = .ok (.putfield 68, 3) := by decide +kernel
theorem dMo_begin_155 : decode zbMo_begin 155 = .ok (.aload_n 0, 1) := by decide +kernel
theorem dMo_begin_156 : decode zbMo_begin 156 = .ok (.iconst 0, 1) := by decide +kernel
theorem dMo_begin_157 : decode zbMo_begin 157 = .ok (.putfield 181, 3) := by decide +kernel
theorem dMo_begin_160 : decode zbMo_begin 160 = .ok (.aload_n 0, 1) := by decide +kernel
theorem dMo_begin_161 : decode zbMo_begin 161 = .ok (.iconst 0, 1) := by decide +kernel
theorem dMo_begin_162 : decode zbMo_begin 162 = .ok (.putfield 65, 3) := by decide +kernel
theorem dMo_begin_165 : decode zbMo_begin 165 = .ok (.iload_n 2, 1) := by decide +kernel
theorem dMo_begin_166 : decode zbMo_begin 166 = .ok (.ireturn, 1) := by decide +kernel
theorem dMo_stop_0 : decode zbMo_stop 0 = .ok (.aload_n 0, 1) := by decide +kernel
theorem dMo_stop_1 : decode zbMo_stop 1 = .ok (.iconst 0, 1) := by decide +kernel
theorem dMo_stop_2 : decode zbMo_stop 2 = .ok (.putfield 60, 3) := by decide +kernel
theorem dMo_stop_5 : decode zbMo_stop 5 = .ok (.aload_n 0, 1) := by decide +kernel
theorem dMo_stop_6 : decode zbMo_stop 6 = .ok (.getfield 68, 3) := by decide +kernel
theorem dMo_stop_9 : decode zbMo_stop 9 = .ok (.istore_n 1, 1) := by decide +kernel
theorem dMo_stop_10 : decode zbMo_stop 10 = .ok (.aload_n 0, 1) := by decide +kernel
theorem dMo_stop_11 : decode zbMo_stop 11 = .ok (.iconst 0, 1) := by decide +kernel
theorem dMo_stop_12 : decode zbMo_stop 12 = .ok (.putfield 68, 3) := by decide +kernel
theorem dMo_stop_15 : decode zbMo_stop 15 = .ok (.aload_n 0, 1) := by decide +kernel
theorem dMo_stop_16 : decode zbMo_stop 16 = .ok (.iconst 0, 1) := by decide +kernel
theorem dMo_stop_17 : decode zbMo_stop 17 = .ok (.putfield 181, 3) := by decide +kernel
theorem dMo_stop_20 : decode zbMo_stop 20 = .ok (.iload_n 1, 1) := by decide +kernel
theorem dMo_stop_21 : decode zbMo_stop 21 = .ok (.ireturn, 1) := by decide +kernel
theorem dMo_fault_0 : decode zbMo_fault 0 = .ok (.aload_n 0, 1) := by decide +kernel
theorem dMo_fault_1 : decode zbMo_fault 1 = .ok (.iconst 0, 1) := by decide +kernel
theorem dMo_fault_2 : decode zbMo_fault 2 = .ok (.putfield 60, 3) := by decide +kernel
theorem dMo_fault_5 : decode zbMo_fault 5 = .ok (.aload_n 0, 1) := by decide +kernel
theorem dMo_fault_6 : decode zbMo_fault 6 = .ok (.getfield 13, 3) := by decide +kernel
theorem dMo_fault_9 : decode zbMo_fault 9 = .ok (.ireturn, 1) := by decide +kernel
theorem dMo_settle_0 : decode zbMo_settle 0 = .ok (.aload_n 0, 1) := by decide +kernel
theorem dMo_settle_1 : decode zbMo_settle 1 = .ok (.getfield 109, 3) := by decide +kernel
theorem dMo_settle_4 : decode zbMo_settle 4 = .ok (.ifCond .eq 10, 3) := by decide +kernel
theorem dMo_settle_7 : decode zbMo_settle 7 = .ok (.aload_n 0, 1) := by decide +kernel
theorem dMo_settle_8 : decode zbMo_settle 8 = .ok (.iconst 3, 1) := by decide +kernel
theorem dMo_settle_9 : decode zbMo_settle 9 = .ok (.putfield 60, 3) := by decide +kernel
theorem dMo_settle_12 : decode zbMo_settle 12 = .ok (.iconst 0, 1) := by decide +kernel
theorem dMo_settle_13 : decode zbMo_settle 13 = .ok (.ireturn, 1) := by decide +kernel
theorem dMo_settle_14 : decode zbMo_settle 14 = .ok (.aload_n 0, 1) := by decide +kernel
theorem dMo_settle_15 : decode zbMo_settle 15 = .ok (.getfield 181, 3) := by decide +kernel
theorem dMo_settle_18 : decode zbMo_settle 18 = .ok (.bipush 12, 2) := by decide +kernel
theorem dMo_settle_20 : decode zbMo_settle 20 = .ok (.if_icmp .ge 10, 3) := by decide +kernel
theorem dMo_settle_23 : decode zbMo_settle 23 = .ok (.aload_n 0, 1) := by decide +kernel
theorem dMo_settle_24 : decode zbMo_settle 24 = .ok (.getfield 181, 3) := by decide +kernel
theorem dMo_settle_27 : decode zbMo_settle 27 = .ok (.goto 5, 3) := by decide +kernel
theorem dMo_settle_30 : decode zbMo_settle 30 = .ok (.bipush 11, 2) := by decide +kernel
theorem dMo_settle_32 : decode zbMo_settle 32 = .ok (.istore_n 1, 1) := by decide +kernel
theorem dMo_settle_33 : decode zbMo_settle 33 = .ok (.iload_n 1, 1) := by decide +kernel
theorem dMo_settle_34 : decode zbMo_settle 34 = .ok (.ifCond .le 17, 3) := by decide +kernel
theorem dMo_settle_37 : decode zbMo_settle 37 = .ok (.aload_n 0, 1) := by decide +kernel
theorem dMo_settle_38 : decode zbMo_settle 38 = .ok (.iload_n 1, 1) := by decide +kernel
theorem dMo_settle_39 : decode zbMo_settle 39 = .ok (.iload_n 1, 1) := by decide +kernel
theorem dMo_settle_40 : decode zbMo_settle 40 = .ok (.iconst 1, 1) := by decide +kernel
theorem dMo_settle_41 : decode zbMo_settle 41 = .ok (.iadd, 1) := by decide +kernel
theorem dMo_settle_42 : decode zbMo_settle 42 = .ok (.invokevirtual 178, 3) := by decide +kernel
theorem dMo_settle_45 : decode zbMo_settle 45 = .ok (.iinc 1 (-1), 3) := by decide +kernel
theorem dMo_settle_48 : decode zbMo_settle 48 = .ok (.goto (-15), 3) := by decide +kernel
theorem dMo_settle_51 : decode zbMo_settle 51 = .ok (.aload_n 0, 1) := by decide +kernel
theorem dMo_settle_52 : decode zbMo_settle 52 = .ok (.aload_n 0, 1) := by decide +kernel
theorem dMo_settle_53 : decode zbMo_settle 53 = .ok (.getfield 181, 3) := by decide +kernel
theorem dMo_settle_56 : decode zbMo_settle 56 = .ok (.bipush 12, 2) := by decide +kernel
theorem dMo_settle_58 : decode zbMo_settle 58 = .ok (.if_icmp .ge 12, 3) := by decide +kernel
theorem dMo_settle_61 : decode zbMo_settle 61 = .ok (.aload_n 0, 1) := by decide +kernel
theorem dMo_settle_62 : decode zbMo_settle 62 = .ok (.getfield 181, 3) := by decide +kernel
theorem dMo_settle_65 : decode zbMo_settle 65 = .ok (.iconst 1, 1) := by decide +kernel
theorem dMo_settle_66 : decode zbMo_settle 66 = .ok (.iadd, 1) := by decide +kernel
theorem dMo_settle_67 : decode zbMo_settle 67 = .ok (.goto 5, 3) := by decide +kernel
theorem dMo_settle_70 : decode zbMo_settle 70 = .ok (.bipush 12, 2) := by decide +kernel
theorem dMo_settle_72 : decode zbMo_settle 72 = .ok (.putfield 181, 3) := by decide +kernel
theorem dMo_settle_75 : decode zbMo_settle 75 = .ok (.aload_n 0, 1) := by decide +kernel
theorem dMo_settle_76 : decode zbMo_settle 76 = .ok (.iconst 0, 1) := by decide +kernel
theorem dMo_settle_77 : decode zbMo_settle 77 = .ok (.iconst 1, 1) := by decide +kernel
theorem dMo_settle_78 : decode zbMo_settle 78 = .ok (.invokevirtual 178, 3) := by decide +kernel
theorem dMo_settle_81 : decode zbMo_settle 81 = .ok (.aload_n 0, 1) := by decide +kernel
theorem dMo_settle_82 : decode zbMo_settle 82 = .ok (.bipush 13, 2) := by decide +kernel
theorem dMo_settle_84 : decode zbMo_settle 84 = .ok (.iconst 0, 1) := by decide +kernel
theorem dMo_settle_85 : decode zbMo_settle 85 = .ok (.invokevirtual 178, 3) := by decide +kernel
theorem dMo_settle_88 : decode zbMo_settle 88 = .ok (.aload_n 0, 1) := by decide +kernel
theorem dMo_settle_89 : decode zbMo_settle 89 = .ok (.getfield 131, 3) := by decide +kernel
theorem dMo_settle_92 : decode zbMo_settle 92 = .ok (.ireturn, 1) := by decide +kernel
theorem dMo_isParty_0 : decode zbMo_isParty 0 = .ok (.iload_n 0, 1) := by decide +kernel
theorem dMo_isParty_1 : decode zbMo_isParty 1 = .ok (.ifCond .lt 12, 3) := by decide +kernel
theorem dMo_isParty_4 : decode zbMo_isParty 4 = .ok (.iload_n 0, 1) := by decide +kernel
theorem dMo_isParty_5 : decode zbMo_isParty 5 = .ok (.iconst 3, 1) := by decide +kernel
theorem dMo_isParty_6 : decode zbMo_isParty 6 = .ok (.if_icmp .ge 7, 3) := by decide +kernel
theorem dMo_isParty_9 : decode zbMo_isParty 9 = .ok (.iconst 1, 1) := by decide +kernel
theorem dMo_isParty_10 : decode zbMo_isParty 10 = .ok (.goto 4, 3) := by decide +kernel
theorem dMo_isParty_13 : decode zbMo_isParty 13 = .ok (.iconst 0, 1) := by decide +kernel
theorem dMo_isParty_14 : decode zbMo_isParty 14 = .ok (.ireturn, 1) := by decide +kernel
theorem dMo_isKind_0 : decode zbMo_isKind 0 = .ok (.iload_n 0, 1) := by decide +kernel
theorem dMo_isKind_1 : decode zbMo_isKind 1 = .ok (.ifCond .lt 12, 3) := by decide +kernel
theorem dMo_isKind_4 : decode zbMo_isKind 4 = .ok (.iload_n 0, 1) := by decide +kernel
theorem dMo_isKind_5 : decode zbMo_isKind 5 = .ok (.iconst 5, 1) := by decide +kernel
theorem dMo_isKind_6 : decode zbMo_isKind 6 = .ok (.if_icmp .ge 7, 3) := by decide +kernel
theorem dMo_isKind_9 : decode zbMo_isKind 9 = .ok (.iconst 1, 1) := by decide +kernel
theorem dMo_isKind_10 : decode zbMo_isKind 10 = .ok (.goto 4, 3) := by decide +kernel
theorem dMo_isKind_13 : decode zbMo_isKind 13 = .ok (.iconst 0, 1) := by decide +kernel
theorem dMo_isKind_14 : decode zbMo_isKind 14 = .ok (.ireturn, 1) := by decide +kernel
theorem dMo_event_0 : decode zbMo_event 0 = .ok (.aload_n 0, 1) := by decide +kernel
theorem dMo_event_1 : decode zbMo_event 1 = .ok (.aload_n 0, 1) := by decide +kernel
theorem dMo_event_2 : decode zbMo_event 2 = .ok (.getfield 68, 3) := by decide +kernel
theorem dMo_event_5 : decode zbMo_event 5 = .ok (.ifCond .ne 7, 3) := by decide +kernel
theorem dMo_event_8 : decode zbMo_event 8 = .ok (.iconst 1, 1) := by decide +kernel
theorem dMo_event_9 : decode zbMo_event 9 = .ok (.goto 22, 3) := by decide +kernel
theorem dMo_event_12 : decode zbMo_event 12 = .ok (.iload_n 1, 1) := by decide +kernel
theorem dMo_event_13 : decode zbMo_event 13 = .ok (.invokestatic 184, 3) := by decide +kernel
theorem dMo_event_16 : decode zbMo_event 16 = .ok (.ifCond .eq 10, 3) := by decide +kernel
theorem dMo_event_19 : decode zbMo_event 19 = .ok (.iload_n 2, 1) := by decide +kernel
theorem dMo_event_20 : decode zbMo_event 20 = .ok (.invokestatic 188, 3) := by decide +kernel
theorem dMo_event_23 : decode zbMo_event 23 = .ok (.ifCond .ne 7, 3) := by decide +kernel
theorem dMo_event_26 : decode zbMo_event 26 = .ok (.iconst 2, 1) := by decide +kernel
theorem dMo_event_27 : decode zbMo_event 27 = .ok (.goto 4, 3) := by decide +kernel
theorem dMo_event_30 : decode zbMo_event 30 = .ok (.iconst 0, 1) := by decide +kernel
theorem dMo_event_31 : decode zbMo_event 31 = .ok (.putfield 60, 3) := by decide +kernel
theorem dMo_event_34 : decode zbMo_event 34 = .ok (.aload_n 0, 1) := by decide +kernel
theorem dMo_event_35 : decode zbMo_event 35 = .ok (.getfield 60, 3) := by decide +kernel
theorem dMo_event_38 : decode zbMo_event 38 = .ok (.ifCond .le 5, 3) := by decide +kernel
theorem dMo_event_41 : decode zbMo_event 41 = .ok (.iconst 0, 1) := by decide +kernel
theorem dMo_event_42 : decode zbMo_event 42 = .ok (.ireturn, 1) := by decide +kernel
theorem dMo_event_43 : decode zbMo_event 43 = .ok (.aload_n 0, 1) := by decide +kernel
theorem dMo_event_44 : decode zbMo_event 44 = .ok (.iconst 0, 1) := by decide +kernel
theorem dMo_event_45 : decode zbMo_event 45 = .ok (.bipush 13, 2) := by decide +kernel
theorem dMo_event_47 : decode zbMo_event 47 = .ok (.invokevirtual 178, 3) := by decide +kernel
theorem dMo_event_50 : decode zbMo_event 50 = .ok (.aload_n 0, 1) := by decide +kernel
theorem dMo_event_51 : decode zbMo_event 51 = .ok (.bipush 13, 2) := by decide +kernel
theorem dMo_event_53 : decode zbMo_event 53 = .ok (.iload_n 1, 1) := by decide +kernel
theorem dMo_event_54 : decode zbMo_event 54 = .ok (.iload_n 2, 1) := by decide +kernel
theorem dMo_event_55 : decode zbMo_event 55 = .ok (.invokevirtual 191, 3) := by decide +kernel
theorem dMo_event_58 : decode zbMo_event 58 = .ok (.aload_n 0, 1) := by decide +kernel
theorem dMo_event_59 : decode zbMo_event 59 = .ok (.invokevirtual 194, 3) := by decide +kernel
theorem dMo_event_62 : decode zbMo_event 62 = .ok (.ireturn, 1) := by decide +kernel
theorem dMo_nextDay_0 : decode zbMo_nextDay 0 = .ok (.aload_n 0, 1) := by decide +kernel
theorem dMo_nextDay_1 : decode zbMo_nextDay 1 = .ok (.aload_n 0, 1) := by decide +kernel
theorem dMo_nextDay_2 : decode zbMo_nextDay 2 = .ok (.getfield 68, 3) := by decide +kernel
theorem dMo_nextDay_5 : decode zbMo_nextDay 5 = .ok (.ifCond .eq 14, 3) := by decide +kernel
theorem dMo_nextDay_8 : decode zbMo_nextDay 8 = .ok (.aload_n 0, 1) := by decide +kernel
theorem dMo_nextDay_9 : decode zbMo_nextDay 9 = .ok (.getfield 54, 3) := by decide +kernel
theorem dMo_nextDay_12 : decode zbMo_nextDay 12 = .ok (.iconst 0, 1) := by decide +kernel
theorem dMo_nextDay_13 : decode zbMo_nextDay 13 = .ok (.iaload, 1) := by decide +kernel
theorem dMo_nextDay_14 : decode zbMo_nextDay 14 = .ok (.bipush 60, 2) := by decide +kernel
theorem dMo_nextDay_16 : decode zbMo_nextDay 16 = .ok (.if_icmp .ne 7, 3) := by decide +kernel
theorem dMo_nextDay_19 : decode zbMo_nextDay 19 = .ok (.iconst 1, 1) := by decide +kernel
theorem dMo_nextDay_20 : decode zbMo_nextDay 20 = .ok (.goto 4, 3) := by decide +kernel
theorem dMo_nextDay_23 : decode zbMo_nextDay 23 = .ok (.iconst 0, 1) := by decide +kernel
theorem dMo_nextDay_24 : decode zbMo_nextDay 24 = .ok (.putfield 60, 3) := by decide +kernel
theorem dMo_nextDay_27 : decode zbMo_nextDay 27 = .ok (.aload_n 0, 1) := by decide +kernel
theorem dMo_nextDay_28 : decode zbMo_nextDay 28 = .ok (.getfield 60, 3) := by decide +kernel
theorem dMo_nextDay_31 : decode zbMo_nextDay 31 = .ok (.ifCond .le 5, 3) := by decide +kernel
theorem dMo_nextDay_34 : decode zbMo_nextDay 34 = .ok (.iconst 0, 1) := by decide +kernel
theorem dMo_nextDay_35 : decode zbMo_nextDay 35 = .ok (.ireturn, 1) := by decide +kernel
theorem dMo_nextDay_36 : decode zbMo_nextDay 36 = .ok (.aload_n 0, 1) := by decide +kernel
theorem dMo_nextDay_37 : decode zbMo_nextDay 37 = .ok (.iconst 0, 1) := by decide +kernel
theorem dMo_nextDay_38 : decode zbMo_nextDay 38 = .ok (.bipush 13, 2) := by decide +kernel
theorem dMo_nextDay_40 : decode zbMo_nextDay 40 = .ok (.invokevirtual 178, 3) := by decide +kernel
theorem dMo_nextDay_43 : decode zbMo_nextDay 43 = .ok (.aload_n 0, 1) := by decide +kernel
theorem dMo_nextDay_44 : decode zbMo_nextDay 44 = .ok (.bipush 13, 2) := by decide +kernel
theorem dMo_nextDay_46 : decode zbMo_nextDay 46 = .ok (.invokevirtual 198, 3) := by decide +kernel
theorem dMo_nextDay_49 : decode zbMo_nextDay 49 = .ok (.aload_n 0, 1) := by decide +kernel
theorem dMo_nextDay_50 : decode zbMo_nextDay 50 = .ok (.invokevirtual 194, 3) := by decide +kernel
theorem dMo_nextDay_53 : decode zbMo_nextDay 53 = .ok (.istore_n 1, 1) := by decide +kernel
theorem dMo_nextDay_54 : decode zbMo_nextDay 54 = .ok (.aload_n 0, 1) := by decide +kernel
theorem dMo_nextDay_55 : decode zbMo_nextDay 55 = .ok (.aload_n 0, 1) := by decide +kernel
theorem dMo_nextDay_56 : decode zbMo_nextDay 56 = .ok (.getfield 60, 3) := by decide +kernel
theorem dMo_nextDay_59 : decode zbMo_nextDay 59 = .ok (.iconst 3, 1) := by decide +kernel
theorem dMo_nextDay_60 : decode zbMo_nextDay 60 = .ok (.if_icmp .ne 7, 3) := by decide +kernel
theorem dMo_nextDay_63 : decode zbMo_nextDay 63 = .ok (.iconst 2, 1) := by decide +kernel
theorem dMo_nextDay_64 : decode zbMo_nextDay 64 = .ok (.goto 7, 3) := by decide +kernel
theorem dMo_nextDay_67 : decode zbMo_nextDay 67 = .ok (.aload_n 0, 1) := by decide +kernel
theorem dMo_nextDay_68 : decode zbMo_nextDay 68 = .ok (.getfield 60, 3) := by decide +kernel
theorem dMo_nextDay_71 : decode zbMo_nextDay 71 = .ok (.putfield 60, 3) := by decide +kernel
theorem dMo_nextDay_74 : decode zbMo_nextDay 74 = .ok (.iload_n 1, 1) := by decide +kernel
theorem dMo_nextDay_75 : decode zbMo_nextDay 75 = .ok (.ireturn, 1) := by decide +kernel
theorem dMo_undo_0 : decode zbMo_undo 0 = .ok (.aload_n 0, 1) := by decide +kernel
theorem dMo_undo_1 : decode zbMo_undo 1 = .ok (.iconst 0, 1) := by decide +kernel
theorem dMo_undo_2 : decode zbMo_undo 2 = .ok (.putfield 60, 3) := by decide +kernel
theorem dMo_undo_5 : decode zbMo_undo 5 = .ok (.aload_n 0, 1) := by decide +kernel
theorem dMo_undo_6 : decode zbMo_undo 6 = .ok (.getfield 181, 3) := by decide +kernel
theorem dMo_undo_9 : decode zbMo_undo 9 = .ok (.ifCond .ne 5, 3) := by decide +kernel
theorem dMo_undo_12 : decode zbMo_undo 12 = .ok (.iconst 0, 1) := by decide +kernel
theorem dMo_undo_13 : decode zbMo_undo 13 = .ok (.ireturn, 1) := by decide +kernel
theorem dMo_undo_14 : decode zbMo_undo 14 = .ok (.iconst 0, 1) := by decide +kernel
theorem dMo_undo_15 : decode zbMo_undo 15 = .ok (.istore_n 1, 1) := by decide +kernel
theorem dMo_undo_16 : decode zbMo_undo 16 = .ok (.iload_n 1, 1) := by decide +kernel
theorem dMo_undo_17 : decode zbMo_undo 17 = .ok (.aload_n 0, 1) := by decide +kernel
theorem dMo_undo_18 : decode zbMo_undo 18 = .ok (.getfield 181, 3) := by decide +kernel
theorem dMo_undo_21 : decode zbMo_undo 21 = .ok (.if_icmp .ge 17, 3) := by decide +kernel
theorem dMo_undo_24 : decode zbMo_undo 24 = .ok (.aload_n 0, 1) := by decide +kernel
theorem dMo_undo_25 : decode zbMo_undo 25 = .ok (.iload_n 1, 1) := by decide +kernel
theorem dMo_undo_26 : decode zbMo_undo 26 = .ok (.iconst 1, 1) := by decide +kernel
theorem dMo_undo_27 : decode zbMo_undo 27 = .ok (.iadd, 1) := by decide +kernel
theorem dMo_undo_28 : decode zbMo_undo 28 = .ok (.iload_n 1, 1) := by decide +kernel
theorem dMo_undo_29 : decode zbMo_undo 29 = .ok (.invokevirtual 178, 3) := by decide +kernel
theorem dMo_undo_32 : decode zbMo_undo 32 = .ok (.iinc 1 1, 3) := by decide +kernel
theorem dMo_undo_35 : decode zbMo_undo 35 = .ok (.goto (-19), 3) := by decide +kernel
theorem dMo_undo_38 : decode zbMo_undo 38 = .ok (.aload_n 0, 1) := by decide +kernel
theorem dMo_undo_39 : decode zbMo_undo 39 = .ok (.aload_n 0, 1) := by decide +kernel
theorem dMo_undo_40 : decode zbMo_undo 40 = .ok (.getfield 181, 3) := by decide +kernel
theorem dMo_undo_43 : decode zbMo_undo 43 = .ok (.iconst 1, 1) := by decide +kernel
theorem dMo_undo_44 : decode zbMo_undo 44 = .ok (.isub, 1) := by decide +kernel
theorem dMo_undo_45 : decode zbMo_undo 45 = .ok (.putfield 181, 3) := by decide +kernel
theorem dMo_undo_48 : decode zbMo_undo 48 = .ok (.iconst 1, 1) := by decide +kernel
theorem dMo_undo_49 : decode zbMo_undo 49 = .ok (.ireturn, 1) := by decide +kernel
theorem dMo_today_0 : decode zbMo_today 0 = .ok (.aload_n 0, 1) := by decide +kernel
theorem dMo_today_1 : decode zbMo_today 1 = .ok (.iconst 0, 1) := by decide +kernel
theorem dMo_today_2 : decode zbMo_today 2 = .ok (.putfield 60, 3) := by decide +kernel
theorem dMo_today_5 : decode zbMo_today 5 = .ok (.aload_n 0, 1) := by decide +kernel
theorem dMo_today_6 : decode zbMo_today 6 = .ok (.getfield 68, 3) := by decide +kernel
theorem dMo_today_9 : decode zbMo_today 9 = .ok (.ifCond .eq 12, 3) := by decide +kernel
theorem dMo_today_12 : decode zbMo_today 12 = .ok (.aload_n 0, 1) := by decide +kernel
theorem dMo_today_13 : decode zbMo_today 13 = .ok (.getfield 54, 3) := by decide +kernel
theorem dMo_today_16 : decode zbMo_today 16 = .ok (.iconst 0, 1) := by decide +kernel
theorem dMo_today_17 : decode zbMo_today 17 = .ok (.iaload, 1) := by decide +kernel
theorem dMo_today_18 : decode zbMo_today 18 = .ok (.goto 4, 3) := by decide +kernel
theorem dMo_today_21 : decode zbMo_today 21 = .ok (.iconst (-1), 1) := by decide +kernel
theorem dMo_today_22 : decode zbMo_today 22 = .ok (.ireturn, 1) := by decide +kernel
theorem dMo_duty_0 : decode zbMo_duty 0 = .ok (.aload_n 0, 1) := by decide +kernel
theorem dMo_duty_1 : decode zbMo_duty 1 = .ok (.iconst 0, 1) := by decide +kernel
theorem dMo_duty_2 : decode zbMo_duty 2 = .ok (.putfield 60, 3) := by decide +kernel
theorem dMo_duty_5 : decode zbMo_duty 5 = .ok (.aload_n 0, 1) := by decide +kernel
theorem dMo_duty_6 : decode zbMo_duty 6 = .ok (.getfield 68, 3) := by decide +kernel
theorem dMo_duty_9 : decode zbMo_duty 9 = .ok (.ifCond .eq 12, 3) := by decide +kernel
theorem dMo_duty_12 : decode zbMo_duty 12 = .ok (.aload_n 0, 1) := by decide +kernel
theorem dMo_duty_13 : decode zbMo_duty 13 = .ok (.getfield 54, 3) := by decide +kernel
theorem dMo_duty_16 : decode zbMo_duty 16 = .ok (.iconst 1, 1) := by decide +kernel
theorem dMo_duty_17 : decode zbMo_duty 17 = .ok (.iaload, 1) := by decide +kernel
theorem dMo_duty_18 : decode zbMo_duty 18 = .ok (.goto 4, 3) := by decide +kernel
theorem dMo_duty_21 : decode zbMo_duty 21 = .ok (.iconst 0, 1) := by decide +kernel
theorem dMo_duty_22 : decode zbMo_duty 22 = .ok (.istore_n 2, 1) := by decide +kernel
theorem dMo_duty_23 : decode zbMo_duty 23 = .ok (.iconst 0, 1) := by decide +kernel
theorem dMo_duty_24 : decode zbMo_duty 24 = .ok (.istore_n 3, 1) := by decide +kernel
theorem dMo_duty_25 : decode zbMo_duty 25 = .ok (.iload_n 3, 1) := by decide +kernel
theorem dMo_duty_26 : decode zbMo_duty 26 = .ok (.iload_n 2, 1) := by decide +kernel
theorem dMo_duty_27 : decode zbMo_duty 27 = .ok (.if_icmp .ge 109, 3) := by decide +kernel
theorem dMo_duty_30 : decode zbMo_duty 30 = .ok (.bipush 100, 2) := by decide +kernel
theorem dMo_duty_32 : decode zbMo_duty 32 = .ok (.aload_n 0, 1) := by decide +kernel
theorem dMo_duty_33 : decode zbMo_duty 33 = .ok (.iconst 0, 1) := by decide +kernel
theorem dMo_duty_34 : decode zbMo_duty 34 = .ok (.iconst 1, 1) := by decide +kernel
theorem dMo_duty_35 : decode zbMo_duty 35 = .ok (.iload_n 3, 1) := by decide +kernel
theorem dMo_duty_36 : decode zbMo_duty 36 = .ok (.invokevirtual 122, 3) := by decide +kernel
theorem dMo_duty_39 : decode zbMo_duty 39 = .ok (.imul, 1) := by decide +kernel
theorem dMo_duty_40 : decode zbMo_duty 40 = .ok (.aload_n 0, 1) := by decide +kernel
theorem dMo_duty_41 : decode zbMo_duty 41 = .ok (.iconst 0, 1) := by decide +kernel
theorem dMo_duty_42 : decode zbMo_duty 42 = .ok (.iconst 1, 1) := by decide +kernel
theorem dMo_duty_43 : decode zbMo_duty 43 = .ok (.iload_n 3, 1) := by decide +kernel
theorem dMo_duty_44 : decode zbMo_duty 44 = .ok (.invokevirtual 115, 3) := by decide +kernel
theorem dMo_duty_47 : decode zbMo_duty 47 = .ok (.iadd, 1) := by decide +kernel
theorem dMo_duty_48 : decode zbMo_duty 48 = .ok (.istore 4, 2) := by decide +kernel
theorem dMo_duty_50 : decode zbMo_duty 50 = .ok (.iconst 0, 1) := by decide +kernel
theorem dMo_duty_51 : decode zbMo_duty 51 = .ok (.istore 5, 2) := by decide +kernel
theorem dMo_duty_53 : decode zbMo_duty 53 = .ok (.iconst 0, 1) := by decide +kernel
theorem dMo_duty_54 : decode zbMo_duty 54 = .ok (.istore 6, 2) := by decide +kernel
theorem dMo_duty_56 : decode zbMo_duty 56 = .ok (.iload 6, 2) := by decide +kernel
theorem dMo_duty_58 : decode zbMo_duty 58 = .ok (.iload_n 2, 1) := by decide +kernel
theorem dMo_duty_59 : decode zbMo_duty 59 = .ok (.if_icmp .ge 62, 3) := by decide +kernel
theorem dMo_duty_62 : decode zbMo_duty 62 = .ok (.bipush 100, 2) := by decide +kernel
theorem dMo_duty_64 : decode zbMo_duty 64 = .ok (.aload_n 0, 1) := by decide +kernel
theorem dMo_duty_65 : decode zbMo_duty 65 = .ok (.iconst 0, 1) := by decide +kernel
theorem dMo_duty_66 : decode zbMo_duty 66 = .ok (.iconst 1, 1) := by decide +kernel
theorem dMo_duty_67 : decode zbMo_duty 67 = .ok (.iload 6, 2) := by decide +kernel
theorem dMo_duty_69 : decode zbMo_duty 69 = .ok (.invokevirtual 122, 3) := by decide +kernel
theorem dMo_duty_72 : decode zbMo_duty 72 = .ok (.imul, 1) := by decide +kernel
theorem dMo_duty_73 : decode zbMo_duty 73 = .ok (.aload_n 0, 1) := by decide +kernel
theorem dMo_duty_74 : decode zbMo_duty 74 = .ok (.iconst 0, 1) := by decide +kernel
theorem dMo_duty_75 : decode zbMo_duty 75 = .ok (.iconst 1, 1) := by decide +kernel
theorem dMo_duty_76 : decode zbMo_duty 76 = .ok (.iload 6, 2) := by decide +kernel
theorem dMo_duty_78 : decode zbMo_duty 78 = .ok (.invokevirtual 115, 3) := by decide +kernel
theorem dMo_duty_81 : decode zbMo_duty 81 = .ok (.iadd, 1) := by decide +kernel
theorem dMo_duty_82 : decode zbMo_duty 82 = .ok (.istore 7, 2) := by decide +kernel
theorem dMo_duty_84 : decode zbMo_duty 84 = .ok (.iload 7, 2) := by decide +kernel
theorem dMo_duty_86 : decode zbMo_duty 86 = .ok (.iload 4, 2) := by decide +kernel
theorem dMo_duty_88 : decode zbMo_duty 88 = .ok (.if_icmp .lt 16, 3) := by decide +kernel
theorem dMo_duty_91 : decode zbMo_duty 91 = .ok (.iload 7, 2) := by decide +kernel
theorem dMo_duty_93 : decode zbMo_duty 93 = .ok (.iload 4, 2) := by decide +kernel
theorem dMo_duty_95 : decode zbMo_duty 95 = .ok (.if_icmp .ne 16, 3) := by decide +kernel
theorem dMo_duty_98 : decode zbMo_duty 98 = .ok (.iload 6, 2) := by decide +kernel
theorem dMo_duty_100 : decode zbMo_duty 100 = .ok (.iload_n 3, 1) := by decide +kernel
theorem dMo_duty_101 : decode zbMo_duty 101 = .ok (.if_icmp .ge 10, 3) := by decide +kernel
theorem dMo_duty_104 : decode zbMo_duty 104 = .ok (.iload 5, 2) := by decide +kernel
theorem dMo_duty_106 : decode zbMo_duty 106 = .ok (.iconst 1, 1) := by decide +kernel
theorem dMo_duty_107 : decode zbMo_duty 107 = .ok (.iadd, 1) := by decide +kernel
theorem dMo_duty_108 : decode zbMo_duty 108 = .ok (.goto 5, 3) := by decide +kernel
theorem dMo_duty_111 : decode zbMo_duty 111 = .ok (.iload 5, 2) := by decide +kernel
theorem dMo_duty_113 : decode zbMo_duty 113 = .ok (.istore 5, 2) := by decide +kernel
theorem dMo_duty_115 : decode zbMo_duty 115 = .ok (.iinc 6 1, 3) := by decide +kernel
theorem dMo_duty_118 : decode zbMo_duty 118 = .ok (.goto (-62), 3) := by decide +kernel
theorem dMo_duty_121 : decode zbMo_duty 121 = .ok (.iload 5, 2) := by decide +kernel
theorem dMo_duty_123 : decode zbMo_duty 123 = .ok (.iload_n 1, 1) := by decide +kernel
theorem dMo_duty_124 : decode zbMo_duty 124 = .ok (.if_icmp .ne 6, 3) := by decide +kernel
theorem dMo_duty_127 : decode zbMo_duty 127 = .ok (.iload 4, 2) := by decide +kernel
theorem dMo_duty_129 : decode zbMo_duty 129 = .ok (.ireturn, 1) := by decide +kernel
theorem dMo_duty_130 : decode zbMo_duty 130 = .ok (.iinc 3 1, 3) := by decide +kernel
theorem dMo_duty_133 : decode zbMo_duty 133 = .ok (.goto (-108), 3) := by decide +kernel
theorem dMo_duty_136 : decode zbMo_duty 136 = .ok (.iconst (-1), 1) := by decide +kernel
theorem dMo_duty_137 : decode zbMo_duty 137 = .ok (.ireturn, 1) := by decide +kernel
theorem dMo_count_0 : decode zbMo_count 0 = .ok (.aload_n 0, 1) := by decide +kernel
theorem dMo_count_1 : decode zbMo_count 1 = .ok (.iconst 0, 1) := by decide +kernel
theorem dMo_count_2 : decode zbMo_count 2 = .ok (.putfield 60, 3) := by decide +kernel
theorem dMo_count_5 : decode zbMo_count 5 = .ok (.aload_n 0, 1) := by decide +kernel
theorem dMo_count_6 : decode zbMo_count 6 = .ok (.getfield 68, 3) := by decide +kernel
theorem dMo_count_9 : decode zbMo_count 9 = .ok (.ifCond .eq 12, 3) := by decide +kernel
theorem dMo_count_12 : decode zbMo_count 12 = .ok (.iload_n 1, 1) := by decide +kernel
theorem dMo_count_13 : decode zbMo_count 13 = .ok (.ifCond .lt 8, 3) := by decide +kernel
theorem dMo_count_16 : decode zbMo_count 16 = .ok (.iload_n 1, 1) := by decide +kernel
theorem dMo_count_17 : decode zbMo_count 17 = .ok (.iconst 2, 1) := by decide +kernel
theorem dMo_count_18 : decode zbMo_count 18 = .ok (.if_icmp .le 7, 3) := by decide +kernel
theorem dMo_count_21 : decode zbMo_count 21 = .ok (.iconst 0, 1) := by decide +kernel
theorem dMo_count_22 : decode zbMo_count 22 = .ok (.goto 28, 3) := by decide +kernel
theorem dMo_count_25 : decode zbMo_count 25 = .ok (.aload_n 0, 1) := by decide +kernel
theorem dMo_count_26 : decode zbMo_count 26 = .ok (.getfield 54, 3) := by decide +kernel
theorem dMo_count_29 : decode zbMo_count 29 = .ok (.iload_n 1, 1) := by decide +kernel
theorem dMo_count_30 : decode zbMo_count 30 = .ok (.ifCond .ne 7, 3) := by decide +kernel
theorem dMo_count_33 : decode zbMo_count 33 = .ok (.iconst 1, 1) := by decide +kernel
theorem dMo_count_34 : decode zbMo_count 34 = .ok (.goto 15, 3) := by decide +kernel
theorem dMo_count_37 : decode zbMo_count 37 = .ok (.iload_n 1, 1) := by decide +kernel
theorem dMo_count_38 : decode zbMo_count 38 = .ok (.iconst 1, 1) := by decide +kernel
theorem dMo_count_39 : decode zbMo_count 39 = .ok (.if_icmp .ne 8, 3) := by decide +kernel
theorem dMo_count_42 : decode zbMo_count 42 = .ok (.bipush 18, 2) := by decide +kernel
theorem dMo_count_44 : decode zbMo_count 44 = .ok (.goto 5, 3) := by decide +kernel
theorem dMo_count_47 : decode zbMo_count 47 = .ok (.bipush 35, 2) := by decide +kernel
theorem dMo_count_49 : decode zbMo_count 49 = .ok (.iaload, 1) := by decide +kernel
theorem dMo_count_50 : decode zbMo_count 50 = .ok (.ireturn, 1) := by decide +kernel
theorem dMo_breaches_0 : decode zbMo_breaches 0 = .ok (.aload_n 0, 1) := by decide +kernel
