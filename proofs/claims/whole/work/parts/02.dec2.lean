theorem dMo_breaches_1 : decode zbMo_breaches 1 = .ok (.iconst 0, 1) := by decide +kernel
theorem dMo_breaches_2 : decode zbMo_breaches 2 = .ok (.putfield 60, 3) := by decide +kernel
theorem dMo_breaches_5 : decode zbMo_breaches 5 = .ok (.aload_n 0, 1) := by decide +kernel
theorem dMo_breaches_6 : decode zbMo_breaches 6 = .ok (.getfield 68, 3) := by decide +kernel
theorem dMo_breaches_9 : decode zbMo_breaches 9 = .ok (.ifCond .eq 27, 3) := by decide +kernel
theorem dMo_breaches_12 : decode zbMo_breaches 12 = .ok (.iload_n 1, 1) := by decide +kernel
theorem dMo_breaches_13 : decode zbMo_breaches 13 = .ok (.ifCond .lt 23, 3) := by decide +kernel
theorem dMo_breaches_16 : decode zbMo_breaches 16 = .ok (.iload_n 1, 1) := by decide +kernel
theorem dMo_breaches_17 : decode zbMo_breaches 17 = .ok (.aload_n 0, 1) := by decide +kernel
theorem dMo_breaches_18 : decode zbMo_breaches 18 = .ok (.getfield 125, 3) := by decide +kernel
theorem dMo_breaches_21 : decode zbMo_breaches 21 = .ok (.if_icmp .ge 15, 3) := by decide +kernel
theorem dMo_breaches_24 : decode zbMo_breaches 24 = .ok (.aload_n 0, 1) := by decide +kernel
theorem dMo_breaches_25 : decode zbMo_breaches 25 = .ok (.getfield 54, 3) := by decide +kernel
theorem dMo_breaches_28 : decode zbMo_breaches 28 = .ok (.bipush 61, 2) := by decide +kernel
theorem dMo_breaches_30 : decode zbMo_breaches 30 = .ok (.iload_n 1, 1) := by decide +kernel
theorem dMo_breaches_31 : decode zbMo_breaches 31 = .ok (.iadd, 1) := by decide +kernel
theorem dMo_breaches_32 : decode zbMo_breaches 32 = .ok (.iaload, 1) := by decide +kernel
theorem dMo_breaches_33 : decode zbMo_breaches 33 = .ok (.goto 4, 3) := by decide +kernel
theorem dMo_breaches_36 : decode zbMo_breaches 36 = .ok (.iconst 0, 1) := by decide +kernel
theorem dMo_breaches_37 : decode zbMo_breaches 37 = .ok (.ireturn, 1) := by decide +kernel
theorem dMo_may_0 : decode zbMo_may 0 = .ok (.aload_n 0, 1) := by decide +kernel
theorem dMo_may_1 : decode zbMo_may 1 = .ok (.iconst 0, 1) := by decide +kernel
theorem dMo_may_2 : decode zbMo_may 2 = .ok (.putfield 60, 3) := by decide +kernel
theorem dMo_may_5 : decode zbMo_may 5 = .ok (.aload_n 0, 1) := by decide +kernel
theorem dMo_may_6 : decode zbMo_may 6 = .ok (.getfield 68, 3) := by decide +kernel
theorem dMo_may_9 : decode zbMo_may 9 = .ok (.ifCond .eq 17, 3) := by decide +kernel
theorem dMo_may_12 : decode zbMo_may 12 = .ok (.iload_n 1, 1) := by decide +kernel
theorem dMo_may_13 : decode zbMo_may 13 = .ok (.invokestatic 184, 3) := by decide +kernel
theorem dMo_may_16 : decode zbMo_may 16 = .ok (.ifCond .eq 10, 3) := by decide +kernel
theorem dMo_may_19 : decode zbMo_may 19 = .ok (.iload_n 2, 1) := by decide +kernel
theorem dMo_may_20 : decode zbMo_may 20 = .ok (.invokestatic 188, 3) := by decide +kernel
theorem dMo_may_23 : decode zbMo_may 23 = .ok (.ifCond .ne 5, 3) := by decide +kernel
theorem dMo_may_26 : decode zbMo_may 26 = .ok (.iconst (-1), 1) := by decide +kernel
theorem dMo_may_27 : decode zbMo_may 27 = .ok (.ireturn, 1) := by decide +kernel
theorem dMo_may_28 : decode zbMo_may 28 = .ok (.aload_n 0, 1) := by decide +kernel
theorem dMo_may_29 : decode zbMo_may 29 = .ok (.iconst 0, 1) := by decide +kernel
theorem dMo_may_30 : decode zbMo_may 30 = .ok (.bipush 18, 2) := by decide +kernel
theorem dMo_may_32 : decode zbMo_may 32 = .ok (.iload_n 1, 1) := by decide +kernel
theorem dMo_may_33 : decode zbMo_may 33 = .ok (.iload_n 2, 1) := by decide +kernel
theorem dMo_may_34 : decode zbMo_may 34 = .ok (.invokevirtual 155, 3) := by decide +kernel
theorem dMo_may_37 : decode zbMo_may 37 = .ok (.ifCond .ge 7, 3) := by decide +kernel
theorem dMo_may_40 : decode zbMo_may 40 = .ok (.iconst 0, 1) := by decide +kernel
theorem dMo_may_41 : decode zbMo_may 41 = .ok (.goto 20, 3) := by decide +kernel
theorem dMo_may_44 : decode zbMo_may 44 = .ok (.aload_n 0, 1) := by decide +kernel
theorem dMo_may_45 : decode zbMo_may 45 = .ok (.iconst 0, 1) := by decide +kernel
theorem dMo_may_46 : decode zbMo_may 46 = .ok (.bipush 35, 2) := by decide +kernel
theorem dMo_may_48 : decode zbMo_may 48 = .ok (.iload_n 1, 1) := by decide +kernel
theorem dMo_may_49 : decode zbMo_may 49 = .ok (.iload_n 2, 1) := by decide +kernel
theorem dMo_may_50 : decode zbMo_may 50 = .ok (.invokevirtual 155, 3) := by decide +kernel
theorem dMo_may_53 : decode zbMo_may 53 = .ok (.ifCond .ge 7, 3) := by decide +kernel
theorem dMo_may_56 : decode zbMo_may 56 = .ok (.iconst 2, 1) := by decide +kernel
theorem dMo_may_57 : decode zbMo_may 57 = .ok (.goto 4, 3) := by decide +kernel
theorem dMo_may_60 : decode zbMo_may 60 = .ok (.iconst 1, 1) := by decide +kernel
theorem dMo_may_61 : decode zbMo_may 61 = .ok (.ireturn, 1) := by decide +kernel
theorem dMo_owed_0 : decode zbMo_owed 0 = .ok (.aload_n 0, 1) := by decide +kernel
theorem dMo_owed_1 : decode zbMo_owed 1 = .ok (.iconst 0, 1) := by decide +kernel
theorem dMo_owed_2 : decode zbMo_owed 2 = .ok (.putfield 60, 3) := by decide +kernel
theorem dMo_owed_5 : decode zbMo_owed 5 = .ok (.aload_n 0, 1) := by decide +kernel
theorem dMo_owed_6 : decode zbMo_owed 6 = .ok (.getfield 68, 3) := by decide +kernel
theorem dMo_owed_9 : decode zbMo_owed 9 = .ok (.ifCond .eq 33, 3) := by decide +kernel
theorem dMo_owed_12 : decode zbMo_owed 12 = .ok (.iload_n 1, 1) := by decide +kernel
theorem dMo_owed_13 : decode zbMo_owed 13 = .ok (.invokestatic 184, 3) := by decide +kernel
theorem dMo_owed_16 : decode zbMo_owed 16 = .ok (.ifCond .eq 26, 3) := by decide +kernel
theorem dMo_owed_19 : decode zbMo_owed 19 = .ok (.iload_n 2, 1) := by decide +kernel
theorem dMo_owed_20 : decode zbMo_owed 20 = .ok (.invokestatic 184, 3) := by decide +kernel
theorem dMo_owed_23 : decode zbMo_owed 23 = .ok (.ifCond .eq 19, 3) := by decide +kernel
theorem dMo_owed_26 : decode zbMo_owed 26 = .ok (.aload_n 0, 1) := by decide +kernel
theorem dMo_owed_27 : decode zbMo_owed 27 = .ok (.getfield 54, 3) := by decide +kernel
theorem dMo_owed_30 : decode zbMo_owed 30 = .ok (.bipush 52, 2) := by decide +kernel
theorem dMo_owed_32 : decode zbMo_owed 32 = .ok (.iconst 3, 1) := by decide +kernel
theorem dMo_owed_33 : decode zbMo_owed 33 = .ok (.iload_n 1, 1) := by decide +kernel
theorem dMo_owed_34 : decode zbMo_owed 34 = .ok (.imul, 1) := by decide +kernel
theorem dMo_owed_35 : decode zbMo_owed 35 = .ok (.iadd, 1) := by decide +kernel
theorem dMo_owed_36 : decode zbMo_owed 36 = .ok (.iload_n 2, 1) := by decide +kernel
theorem dMo_owed_37 : decode zbMo_owed 37 = .ok (.iadd, 1) := by decide +kernel
theorem dMo_owed_38 : decode zbMo_owed 38 = .ok (.iaload, 1) := by decide +kernel
theorem dMo_owed_39 : decode zbMo_owed 39 = .ok (.goto 4, 3) := by decide +kernel
theorem dMo_owed_42 : decode zbMo_owed 42 = .ok (.iconst 0, 1) := by decide +kernel
theorem dMo_owed_43 : decode zbMo_owed 43 = .ok (.ireturn, 1) := by decide +kernel
theorem dMo_goes_0 : decode zbMo_goes 0 = .ok (.aload_n 0, 1) := by decide +kernel
theorem dMo_goes_1 : decode zbMo_goes 1 = .ok (.iload_n 1, 1) := by decide +kernel
theorem dMo_goes_2 : decode zbMo_goes 2 = .ok (.iload_n 2, 1) := by decide +kernel
theorem dMo_goes_3 : decode zbMo_goes 3 = .ok (.invokevirtual 178, 3) := by decide +kernel
theorem dMo_goes_6 : decode zbMo_goes 6 = .ok (.iconst 1, 1) := by decide +kernel
theorem dMo_goes_7 : decode zbMo_goes 7 = .ok (.istore 5, 2) := by decide +kernel
theorem dMo_goes_9 : decode zbMo_goes 9 = .ok (.iconst 0, 1) := by decide +kernel
theorem dMo_goes_10 : decode zbMo_goes 10 = .ok (.istore 6, 2) := by decide +kernel
theorem dMo_goes_12 : decode zbMo_goes 12 = .ok (.iload 6, 2) := by decide +kernel
theorem dMo_goes_14 : decode zbMo_goes 14 = .ok (.iconst 2, 1) := by decide +kernel
theorem dMo_goes_15 : decode zbMo_goes 15 = .ok (.if_icmp .ge 108, 3) := by decide +kernel
theorem dMo_goes_18 : decode zbMo_goes 18 = .ok (.iload 5, 2) := by decide +kernel
theorem dMo_goes_20 : decode zbMo_goes 20 = .ok (.ifCond .eq 103, 3) := by decide +kernel
theorem dMo_goes_23 : decode zbMo_goes 23 = .ok (.iload 4, 2) := by decide +kernel
theorem dMo_goes_25 : decode zbMo_goes 25 = .ok (.ifCond .ne 7, 3) := by decide +kernel
theorem dMo_goes_28 : decode zbMo_goes 28 = .ok (.iconst (-1), 1) := by decide +kernel
theorem dMo_goes_29 : decode zbMo_goes 29 = .ok (.goto 48, 3) := by decide +kernel
theorem dMo_goes_32 : decode zbMo_goes 32 = .ok (.iload 4, 2) := by decide +kernel
theorem dMo_goes_34 : decode zbMo_goes 34 = .ok (.bipush 6, 2) := by decide +kernel
theorem dMo_goes_36 : decode zbMo_goes 36 = .ok (.if_icmp .ge 19, 3) := by decide +kernel
theorem dMo_goes_39 : decode zbMo_goes 39 = .ok (.iload 6, 2) := by decide +kernel
theorem dMo_goes_41 : decode zbMo_goes 41 = .ok (.ifCond .ne 10, 3) := by decide +kernel
theorem dMo_goes_44 : decode zbMo_goes 44 = .ok (.iload 4, 2) := by decide +kernel
theorem dMo_goes_46 : decode zbMo_goes 46 = .ok (.iconst 1, 1) := by decide +kernel
theorem dMo_goes_47 : decode zbMo_goes 47 = .ok (.isub, 1) := by decide +kernel
theorem dMo_goes_48 : decode zbMo_goes 48 = .ok (.goto 29, 3) := by decide +kernel
theorem dMo_goes_51 : decode zbMo_goes 51 = .ok (.iconst (-1), 1) := by decide +kernel
theorem dMo_goes_52 : decode zbMo_goes 52 = .ok (.goto 25, 3) := by decide +kernel
theorem dMo_goes_55 : decode zbMo_goes 55 = .ok (.iload 6, 2) := by decide +kernel
theorem dMo_goes_57 : decode zbMo_goes 57 = .ok (.ifCond .ne 13, 3) := by decide +kernel
theorem dMo_goes_60 : decode zbMo_goes 60 = .ok (.iload 4, 2) := by decide +kernel
theorem dMo_goes_62 : decode zbMo_goes 62 = .ok (.bipush 6, 2) := by decide +kernel
theorem dMo_goes_64 : decode zbMo_goes 64 = .ok (.isub, 1) := by decide +kernel
theorem dMo_goes_65 : decode zbMo_goes 65 = .ok (.iconst 5, 1) := by decide +kernel
theorem dMo_goes_66 : decode zbMo_goes 66 = .ok (.idiv, 1) := by decide +kernel
theorem dMo_goes_67 : decode zbMo_goes 67 = .ok (.goto 10, 3) := by decide +kernel
theorem dMo_goes_70 : decode zbMo_goes 70 = .ok (.iload 4, 2) := by decide +kernel
theorem dMo_goes_72 : decode zbMo_goes 72 = .ok (.bipush 6, 2) := by decide +kernel
theorem dMo_goes_74 : decode zbMo_goes 74 = .ok (.isub, 1) := by decide +kernel
theorem dMo_goes_75 : decode zbMo_goes 75 = .ok (.iconst 5, 1) := by decide +kernel
theorem dMo_goes_76 : decode zbMo_goes 76 = .ok (.irem, 1) := by decide +kernel
theorem dMo_goes_77 : decode zbMo_goes 77 = .ok (.istore 7, 2) := by decide +kernel
theorem dMo_goes_79 : decode zbMo_goes 79 = .ok (.iload 7, 2) := by decide +kernel
theorem dMo_goes_81 : decode zbMo_goes 81 = .ok (.ifCond .lt 36, 3) := by decide +kernel
theorem dMo_goes_84 : decode zbMo_goes 84 = .ok (.aload_n 0, 1) := by decide +kernel
theorem dMo_goes_85 : decode zbMo_goes 85 = .ok (.iload_n 2, 1) := by decide +kernel
theorem dMo_goes_86 : decode zbMo_goes 86 = .ok (.iload_n 3, 1) := by decide +kernel
theorem dMo_goes_87 : decode zbMo_goes 87 = .ok (.iload 7, 2) := by decide +kernel
theorem dMo_goes_89 : decode zbMo_goes 89 = .ok (.invokevirtual 191, 3) := by decide +kernel
theorem dMo_goes_92 : decode zbMo_goes 92 = .ok (.aload_n 0, 1) := by decide +kernel
theorem dMo_goes_93 : decode zbMo_goes 93 = .ok (.getfield 109, 3) := by decide +kernel
theorem dMo_goes_96 : decode zbMo_goes 96 = .ok (.ifCond .ne 18, 3) := by decide +kernel
theorem dMo_goes_99 : decode zbMo_goes 99 = .ok (.aload_n 0, 1) := by decide +kernel
theorem dMo_goes_100 : decode zbMo_goes 100 = .ok (.getfield 134, 3) := by decide +kernel
theorem dMo_goes_103 : decode zbMo_goes 103 = .ok (.iload_n 3, 1) := by decide +kernel
theorem dMo_goes_104 : decode zbMo_goes 104 = .ok (.ishr, 1) := by decide +kernel
theorem dMo_goes_105 : decode zbMo_goes 105 = .ok (.iconst 1, 1) := by decide +kernel
theorem dMo_goes_106 : decode zbMo_goes 106 = .ok (.iand, 1) := by decide +kernel
theorem dMo_goes_107 : decode zbMo_goes 107 = .ok (.ifCond .ne 7, 3) := by decide +kernel
theorem dMo_goes_110 : decode zbMo_goes 110 = .ok (.iconst 1, 1) := by decide +kernel
theorem dMo_goes_111 : decode zbMo_goes 111 = .ok (.goto 4, 3) := by decide +kernel
theorem dMo_goes_114 : decode zbMo_goes 114 = .ok (.iconst 0, 1) := by decide +kernel
theorem dMo_goes_115 : decode zbMo_goes 115 = .ok (.istore 5, 2) := by decide +kernel
theorem dMo_goes_117 : decode zbMo_goes 117 = .ok (.iinc 6 1, 3) := by decide +kernel
theorem dMo_goes_120 : decode zbMo_goes 120 = .ok (.goto (-108), 3) := by decide +kernel
theorem dMo_goes_123 : decode zbMo_goes 123 = .ok (.iload 5, 2) := by decide +kernel
theorem dMo_goes_125 : decode zbMo_goes 125 = .ok (.ifCond .eq 33, 3) := by decide +kernel
theorem dMo_goes_128 : decode zbMo_goes 128 = .ok (.aload_n 0, 1) := by decide +kernel
theorem dMo_goes_129 : decode zbMo_goes 129 = .ok (.iload_n 2, 1) := by decide +kernel
theorem dMo_goes_130 : decode zbMo_goes 130 = .ok (.invokevirtual 198, 3) := by decide +kernel
theorem dMo_goes_133 : decode zbMo_goes 133 = .ok (.aload_n 0, 1) := by decide +kernel
theorem dMo_goes_134 : decode zbMo_goes 134 = .ok (.getfield 109, 3) := by decide +kernel
theorem dMo_goes_137 : decode zbMo_goes 137 = .ok (.ifCond .ne 18, 3) := by decide +kernel
theorem dMo_goes_140 : decode zbMo_goes 140 = .ok (.aload_n 0, 1) := by decide +kernel
theorem dMo_goes_141 : decode zbMo_goes 141 = .ok (.getfield 134, 3) := by decide +kernel
theorem dMo_goes_144 : decode zbMo_goes 144 = .ok (.iload_n 3, 1) := by decide +kernel
theorem dMo_goes_145 : decode zbMo_goes 145 = .ok (.ishr, 1) := by decide +kernel
theorem dMo_goes_146 : decode zbMo_goes 146 = .ok (.iconst 1, 1) := by decide +kernel
theorem dMo_goes_147 : decode zbMo_goes 147 = .ok (.iand, 1) := by decide +kernel
theorem dMo_goes_148 : decode zbMo_goes 148 = .ok (.ifCond .ne 7, 3) := by decide +kernel
theorem dMo_goes_151 : decode zbMo_goes 151 = .ok (.iconst 1, 1) := by decide +kernel
theorem dMo_goes_152 : decode zbMo_goes 152 = .ok (.goto 4, 3) := by decide +kernel
theorem dMo_goes_155 : decode zbMo_goes 155 = .ok (.iconst 0, 1) := by decide +kernel
theorem dMo_goes_156 : decode zbMo_goes 156 = .ok (.istore 5, 2) := by decide +kernel
theorem dMo_goes_158 : decode zbMo_goes 158 = .ok (.iload 5, 2) := by decide +kernel
theorem dMo_goes_160 : decode zbMo_goes 160 = .ok (.ireturn, 1) := by decide +kernel
theorem dMo_hasOne_0 : decode zbMo_hasOne 0 = .ok (.iconst 0, 1) := by decide +kernel
theorem dMo_hasOne_1 : decode zbMo_hasOne 1 = .ok (.istore 4, 2) := by decide +kernel
theorem dMo_hasOne_3 : decode zbMo_hasOne 3 = .ok (.iconst 0, 1) := by decide +kernel
theorem dMo_hasOne_4 : decode zbMo_hasOne 4 = .ok (.istore 5, 2) := by decide +kernel
theorem dMo_hasOne_6 : decode zbMo_hasOne 6 = .ok (.iload 5, 2) := by decide +kernel
theorem dMo_hasOne_8 : decode zbMo_hasOne 8 = .ok (.bipush 31, 2) := by decide +kernel
theorem dMo_hasOne_10 : decode zbMo_hasOne 10 = .ok (.if_icmp .ge 25, 3) := by decide +kernel
theorem dMo_hasOne_13 : decode zbMo_hasOne 13 = .ok (.iload 4, 2) := by decide +kernel
theorem dMo_hasOne_15 : decode zbMo_hasOne 15 = .ok (.ifCond .ne 20, 3) := by decide +kernel
theorem dMo_hasOne_18 : decode zbMo_hasOne 18 = .ok (.aload_n 0, 1) := by decide +kernel
theorem dMo_hasOne_19 : decode zbMo_hasOne 19 = .ok (.iload_n 1, 1) := by decide +kernel
theorem dMo_hasOne_20 : decode zbMo_hasOne 20 = .ok (.iload_n 2, 1) := by decide +kernel
theorem dMo_hasOne_21 : decode zbMo_hasOne 21 = .ok (.iload_n 3, 1) := by decide +kernel
theorem dMo_hasOne_22 : decode zbMo_hasOne 22 = .ok (.iload 5, 2) := by decide +kernel
theorem dMo_hasOne_24 : decode zbMo_hasOne 24 = .ok (.invokevirtual 201, 3) := by decide +kernel
theorem dMo_hasOne_27 : decode zbMo_hasOne 27 = .ok (.istore 4, 2) := by decide +kernel
theorem dMo_hasOne_29 : decode zbMo_hasOne 29 = .ok (.iinc 5 1, 3) := by decide +kernel
theorem dMo_hasOne_32 : decode zbMo_hasOne 32 = .ok (.goto (-26), 3) := by decide +kernel
theorem dMo_hasOne_35 : decode zbMo_hasOne 35 = .ok (.iload 4, 2) := by decide +kernel
theorem dMo_hasOne_37 : decode zbMo_hasOne 37 = .ok (.ireturn, 1) := by decide +kernel
theorem dMo_firstCourse_0 : decode zbMo_firstCourse 0 = .ok (.iconst 0, 1) := by decide +kernel
theorem dMo_firstCourse_1 : decode zbMo_firstCourse 1 = .ok (.istore 4, 2) := by decide +kernel
theorem dMo_firstCourse_3 : decode zbMo_firstCourse 3 = .ok (.iload 4, 2) := by decide +kernel
theorem dMo_firstCourse_5 : decode zbMo_firstCourse 5 = .ok (.bipush 31, 2) := by decide +kernel
theorem dMo_firstCourse_7 : decode zbMo_firstCourse 7 = .ok (.if_icmp .ge 42, 3) := by decide +kernel
theorem dMo_firstCourse_10 : decode zbMo_firstCourse 10 = .ok (.aload_n 0, 1) := by decide +kernel
theorem dMo_firstCourse_11 : decode zbMo_firstCourse 11 = .ok (.iload_n 1, 1) := by decide +kernel
theorem dMo_firstCourse_12 : decode zbMo_firstCourse 12 = .ok (.bipush 15, 2) := by decide +kernel
theorem dMo_firstCourse_14 : decode zbMo_firstCourse 14 = .ok (.iload_n 2, 1) := by decide +kernel
theorem dMo_firstCourse_15 : decode zbMo_firstCourse 15 = .ok (.iload 4, 2) := by decide +kernel
theorem dMo_firstCourse_17 : decode zbMo_firstCourse 17 = .ok (.invokevirtual 201, 3) := by decide +kernel
theorem dMo_firstCourse_20 : decode zbMo_firstCourse 20 = .ok (.ifCond .eq 23, 3) := by decide +kernel
theorem dMo_firstCourse_23 : decode zbMo_firstCourse 23 = .ok (.iload_n 3, 1) := by decide +kernel
theorem dMo_firstCourse_24 : decode zbMo_firstCourse 24 = .ok (.iconst 1, 1) := by decide +kernel
theorem dMo_firstCourse_25 : decode zbMo_firstCourse 25 = .ok (.if_icmp .eq 15, 3) := by decide +kernel
theorem dMo_firstCourse_28 : decode zbMo_firstCourse 28 = .ok (.aload_n 0, 1) := by decide +kernel
theorem dMo_firstCourse_29 : decode zbMo_firstCourse 29 = .ok (.bipush 15, 2) := by decide +kernel
theorem dMo_firstCourse_31 : decode zbMo_firstCourse 31 = .ok (.bipush 16, 2) := by decide +kernel
theorem dMo_firstCourse_33 : decode zbMo_firstCourse 33 = .ok (.iload_n 2, 1) := by decide +kernel
theorem dMo_firstCourse_34 : decode zbMo_firstCourse 34 = .ok (.invokevirtual 205, 3) := by decide +kernel
theorem dMo_firstCourse_37 : decode zbMo_firstCourse 37 = .ok (.ifCond .eq 6, 3) := by decide +kernel
theorem dMo_firstCourse_40 : decode zbMo_firstCourse 40 = .ok (.iload 4, 2) := by decide +kernel
theorem dMo_firstCourse_42 : decode zbMo_firstCourse 42 = .ok (.ireturn, 1) := by decide +kernel
theorem dMo_firstCourse_43 : decode zbMo_firstCourse 43 = .ok (.iinc 4 1, 3) := by decide +kernel
theorem dMo_firstCourse_46 : decode zbMo_firstCourse 46 = .ok (.goto (-43), 3) := by decide +kernel
theorem dMo_firstCourse_49 : decode zbMo_firstCourse 49 = .ok (.iconst (-1), 1) := by decide +kernel
theorem dMo_firstCourse_50 : decode zbMo_firstCourse 50 = .ok (.ireturn, 1) := by decide +kernel
theorem dMo_askCode_0 : decode zbMo_askCode 0 = .ok (.aload_n 0, 1) := by decide +kernel
theorem dMo_askCode_1 : decode zbMo_askCode 1 = .ok (.getfield 68, 3) := by decide +kernel
theorem dMo_askCode_4 : decode zbMo_askCode 4 = .ok (.ifCond .ne 7, 3) := by decide +kernel
theorem dMo_askCode_7 : decode zbMo_askCode 7 = .ok (.iconst 1, 1) := by decide +kernel
theorem dMo_askCode_8 : decode zbMo_askCode 8 = .ok (.goto 36, 3) := by decide +kernel
theorem dMo_askCode_11 : decode zbMo_askCode 11 = .ok (.iload_n 1, 1) := by decide +kernel
theorem dMo_askCode_12 : decode zbMo_askCode 12 = .ok (.invokestatic 184, 3) := by decide +kernel
theorem dMo_askCode_15 : decode zbMo_askCode 15 = .ok (.ifCond .eq 24, 3) := by decide +kernel
theorem dMo_askCode_18 : decode zbMo_askCode 18 = .ok (.iload_n 2, 1) := by decide +kernel
theorem dMo_askCode_19 : decode zbMo_askCode 19 = .ok (.iconst 1, 1) := by decide +kernel
theorem dMo_askCode_20 : decode zbMo_askCode 20 = .ok (.if_icmp .lt 19, 3) := by decide +kernel
theorem dMo_askCode_23 : decode zbMo_askCode 23 = .ok (.iload_n 2, 1) := by decide +kernel
theorem dMo_askCode_24 : decode zbMo_askCode 24 = .ok (.iconst 2, 1) := by decide +kernel
theorem dMo_askCode_25 : decode zbMo_askCode 25 = .ok (.if_icmp .gt 14, 3) := by decide +kernel
theorem dMo_askCode_28 : decode zbMo_askCode 28 = .ok (.aload_n 0, 1) := by decide +kernel
theorem dMo_askCode_29 : decode zbMo_askCode 29 = .ok (.getfield 54, 3) := by decide +kernel
theorem dMo_askCode_32 : decode zbMo_askCode 32 = .ok (.iconst 0, 1) := by decide +kernel
theorem dMo_askCode_33 : decode zbMo_askCode 33 = .ok (.iaload, 1) := by decide +kernel
theorem dMo_askCode_34 : decode zbMo_askCode 34 = .ok (.bipush 58, 2) := by decide +kernel
theorem dMo_askCode_36 : decode zbMo_askCode 36 = .ok (.if_icmp .le 7, 3) := by decide +kernel
theorem dMo_askCode_39 : decode zbMo_askCode 39 = .ok (.iconst 2, 1) := by decide +kernel
theorem dMo_askCode_40 : decode zbMo_askCode 40 = .ok (.goto 4, 3) := by decide +kernel
theorem dMo_askCode_43 : decode zbMo_askCode 43 = .ok (.iconst 0, 1) := by decide +kernel
theorem dMo_askCode_44 : decode zbMo_askCode 44 = .ok (.ireturn, 1) := by decide +kernel
theorem dMo_course_0 : decode zbMo_course 0 = .ok (.aload_n 0, 1) := by decide +kernel
theorem dMo_course_1 : decode zbMo_course 1 = .ok (.aload_n 0, 1) := by decide +kernel
theorem dMo_course_2 : decode zbMo_course 2 = .ok (.iload_n 1, 1) := by decide +kernel
theorem dMo_course_3 : decode zbMo_course 3 = .ok (.iload_n 2, 1) := by decide +kernel
theorem dMo_course_4 : decode zbMo_course 4 = .ok (.invokevirtual 208, 3) := by decide +kernel
theorem dMo_course_7 : decode zbMo_course 7 = .ok (.putfield 60, 3) := by decide +kernel
theorem dMo_course_10 : decode zbMo_course 10 = .ok (.aload_n 0, 1) := by decide +kernel
theorem dMo_course_11 : decode zbMo_course 11 = .ok (.getfield 60, 3) := by decide +kernel
theorem dMo_course_14 : decode zbMo_course 14 = .ok (.ifCond .le 5, 3) := by decide +kernel
theorem dMo_course_17 : decode zbMo_course 17 = .ok (.iconst 0, 1) := by decide +kernel
theorem dMo_course_18 : decode zbMo_course 18 = .ok (.ireturn, 1) := by decide +kernel
theorem dMo_course_19 : decode zbMo_course 19 = .ok (.aload_n 0, 1) := by decide +kernel
theorem dMo_course_20 : decode zbMo_course 20 = .ok (.iconst 0, 1) := by decide +kernel
theorem dMo_course_21 : decode zbMo_course 21 = .ok (.iload_n 1, 1) := by decide +kernel
theorem dMo_course_22 : decode zbMo_course 22 = .ok (.iload_n 2, 1) := by decide +kernel
theorem dMo_course_23 : decode zbMo_course 23 = .ok (.invokevirtual 211, 3) := by decide +kernel
theorem dMo_course_26 : decode zbMo_course 26 = .ok (.istore_n 3, 1) := by decide +kernel
theorem dMo_course_27 : decode zbMo_course 27 = .ok (.iload_n 3, 1) := by decide +kernel
theorem dMo_course_28 : decode zbMo_course 28 = .ok (.iconst 1, 1) := by decide +kernel
theorem dMo_course_29 : decode zbMo_course 29 = .ok (.if_icmp .ge 7, 3) := by decide +kernel
theorem dMo_course_32 : decode zbMo_course 32 = .ok (.iload_n 3, 1) := by decide +kernel
theorem dMo_course_33 : decode zbMo_course 33 = .ok (.goto 35, 3) := by decide +kernel
theorem dMo_course_36 : decode zbMo_course 36 = .ok (.iload_n 3, 1) := by decide +kernel
theorem dMo_course_37 : decode zbMo_course 37 = .ok (.bipush 6, 2) := by decide +kernel
theorem dMo_course_39 : decode zbMo_course 39 = .ok (.if_icmp .ge 10, 3) := by decide +kernel
theorem dMo_course_42 : decode zbMo_course 42 = .ok (.bipush 9, 2) := by decide +kernel
theorem dMo_course_44 : decode zbMo_course 44 = .ok (.iload_n 3, 1) := by decide +kernel
theorem dMo_course_45 : decode zbMo_course 45 = .ok (.iadd, 1) := by decide +kernel
theorem dMo_course_46 : decode zbMo_course 46 = .ok (.goto 22, 3) := by decide +kernel
theorem dMo_course_49 : decode zbMo_course 49 = .ok (.bipush 100, 2) := by decide +kernel
theorem dMo_course_51 : decode zbMo_course 51 = .ok (.bipush 10, 2) := by decide +kernel
theorem dMo_course_53 : decode zbMo_course 53 = .ok (.iload_n 3, 1) := by decide +kernel
theorem dMo_course_54 : decode zbMo_course 54 = .ok (.bipush 6, 2) := by decide +kernel
theorem dMo_course_56 : decode zbMo_course 56 = .ok (.isub, 1) := by decide +kernel
theorem dMo_course_57 : decode zbMo_course 57 = .ok (.iconst 5, 1) := by decide +kernel
theorem dMo_course_58 : decode zbMo_course 58 = .ok (.idiv, 1) := by decide +kernel
theorem dMo_course_59 : decode zbMo_course 59 = .ok (.imul, 1) := by decide +kernel
theorem dMo_course_60 : decode zbMo_course 60 = .ok (.iadd, 1) := by decide +kernel
theorem dMo_course_61 : decode zbMo_course 61 = .ok (.iload_n 3, 1) := by decide +kernel
theorem dMo_course_62 : decode zbMo_course 62 = .ok (.bipush 6, 2) := by decide +kernel
theorem dMo_course_64 : decode zbMo_course 64 = .ok (.isub, 1) := by decide +kernel
theorem dMo_course_65 : decode zbMo_course 65 = .ok (.iconst 5, 1) := by decide +kernel
theorem dMo_course_66 : decode zbMo_course 66 = .ok (.irem, 1) := by decide +kernel
theorem dMo_course_67 : decode zbMo_course 67 = .ok (.iadd, 1) := by decide +kernel
theorem dMo_course_68 : decode zbMo_course 68 = .ok (.ireturn, 1) := by decide +kernel
theorem dMo_threat_0 : decode zbMo_threat 0 = .ok (.aload_n 0, 1) := by decide +kernel
theorem dMo_threat_1 : decode zbMo_threat 1 = .ok (.aload_n 0, 1) := by decide +kernel
theorem dMo_threat_2 : decode zbMo_threat 2 = .ok (.iload_n 1, 1) := by decide +kernel
theorem dMo_threat_3 : decode zbMo_threat 3 = .ok (.iload_n 2, 1) := by decide +kernel
theorem dMo_threat_4 : decode zbMo_threat 4 = .ok (.invokevirtual 208, 3) := by decide +kernel
theorem dMo_threat_7 : decode zbMo_threat 7 = .ok (.putfield 60, 3) := by decide +kernel
theorem dMo_threat_10 : decode zbMo_threat 10 = .ok (.aload_n 0, 1) := by decide +kernel
theorem dMo_threat_11 : decode zbMo_threat 11 = .ok (.getfield 60, 3) := by decide +kernel
theorem dMo_threat_14 : decode zbMo_threat 14 = .ok (.ifCond .gt 13, 3) := by decide +kernel
theorem dMo_threat_17 : decode zbMo_threat 17 = .ok (.aload_n 0, 1) := by decide +kernel
theorem dMo_threat_18 : decode zbMo_threat 18 = .ok (.iconst 0, 1) := by decide +kernel
theorem dMo_threat_19 : decode zbMo_threat 19 = .ok (.iload_n 1, 1) := by decide +kernel
theorem dMo_threat_20 : decode zbMo_threat 20 = .ok (.iload_n 2, 1) := by decide +kernel
theorem dMo_threat_21 : decode zbMo_threat 21 = .ok (.invokevirtual 211, 3) := by decide +kernel
theorem dMo_threat_24 : decode zbMo_threat 24 = .ok (.ifCond .ge 16, 3) := by decide +kernel
theorem dMo_threat_27 : decode zbMo_threat 27 = .ok (.aload_n 0, 1) := by decide +kernel
theorem dMo_threat_28 : decode zbMo_threat 28 = .ok (.getfield 60, 3) := by decide +kernel
theorem dMo_threat_31 : decode zbMo_threat 31 = .ok (.ifCond .le 7, 3) := by decide +kernel
theorem dMo_threat_34 : decode zbMo_threat 34 = .ok (.iconst 0, 1) := by decide +kernel
theorem dMo_threat_35 : decode zbMo_threat 35 = .ok (.goto 4, 3) := by decide +kernel
theorem dMo_threat_38 : decode zbMo_threat 38 = .ok (.iconst (-1), 1) := by decide +kernel
theorem dMo_threat_39 : decode zbMo_threat 39 = .ok (.ireturn, 1) := by decide +kernel
theorem dMo_threat_40 : decode zbMo_threat 40 = .ok (.iconst 0, 1) := by decide +kernel
theorem dMo_threat_41 : decode zbMo_threat 41 = .ok (.istore_n 3, 1) := by decide +kernel
theorem dMo_threat_42 : decode zbMo_threat 42 = .ok (.iload_n 3, 1) := by decide +kernel
theorem dMo_threat_43 : decode zbMo_threat 43 = .ok (.bipush 15, 2) := by decide +kernel
theorem dMo_threat_45 : decode zbMo_threat 45 = .ok (.if_icmp .ge 74, 3) := by decide +kernel
theorem dMo_threat_48 : decode zbMo_threat 48 = .ok (.iload_n 3, 1) := by decide +kernel
theorem dMo_threat_49 : decode zbMo_threat 49 = .ok (.iconst 5, 1) := by decide +kernel
theorem dMo_threat_50 : decode zbMo_threat 50 = .ok (.idiv, 1) := by decide +kernel
theorem dMo_threat_51 : decode zbMo_threat 51 = .ok (.iload_n 1, 1) := by decide +kernel
theorem dMo_threat_52 : decode zbMo_threat 52 = .ok (.if_icmp .eq 61, 3) := by decide +kernel
theorem dMo_threat_55 : decode zbMo_threat 55 = .ok (.aload_n 0, 1) := by decide +kernel
theorem dMo_threat_56 : decode zbMo_threat 56 = .ok (.iconst 0, 1) := by decide +kernel
theorem dMo_threat_57 : decode zbMo_threat 57 = .ok (.bipush 14, 2) := by decide +kernel
theorem dMo_threat_59 : decode zbMo_threat 59 = .ok (.invokevirtual 178, 3) := by decide +kernel
theorem dMo_threat_62 : decode zbMo_threat 62 = .ok (.aload_n 0, 1) := by decide +kernel
theorem dMo_threat_63 : decode zbMo_threat 63 = .ok (.bipush 14, 2) := by decide +kernel
theorem dMo_threat_65 : decode zbMo_threat 65 = .ok (.iload_n 3, 1) := by decide +kernel
theorem dMo_threat_66 : decode zbMo_threat 66 = .ok (.iconst 5, 1) := by decide +kernel
theorem dMo_threat_67 : decode zbMo_threat 67 = .ok (.idiv, 1) := by decide +kernel
theorem dMo_threat_68 : decode zbMo_threat 68 = .ok (.iload_n 3, 1) := by decide +kernel
theorem dMo_threat_69 : decode zbMo_threat 69 = .ok (.iconst 5, 1) := by decide +kernel
theorem dMo_threat_70 : decode zbMo_threat 70 = .ok (.irem, 1) := by decide +kernel
theorem dMo_threat_71 : decode zbMo_threat 71 = .ok (.invokevirtual 191, 3) := by decide +kernel
theorem dMo_threat_74 : decode zbMo_threat 74 = .ok (.aload_n 0, 1) := by decide +kernel
theorem dMo_threat_75 : decode zbMo_threat 75 = .ok (.getfield 109, 3) := by decide +kernel
theorem dMo_threat_78 : decode zbMo_threat 78 = .ok (.ifCond .ne 14, 3) := by decide +kernel
theorem dMo_threat_81 : decode zbMo_threat 81 = .ok (.aload_n 0, 1) := by decide +kernel
theorem dMo_threat_82 : decode zbMo_threat 82 = .ok (.getfield 131, 3) := by decide +kernel
theorem dMo_threat_85 : decode zbMo_threat 85 = .ok (.ifCond .ne 7, 3) := by decide +kernel
theorem dMo_threat_88 : decode zbMo_threat 88 = .ok (.iconst 1, 1) := by decide +kernel
theorem dMo_threat_89 : decode zbMo_threat 89 = .ok (.goto 4, 3) := by decide +kernel
theorem dMo_threat_92 : decode zbMo_threat 92 = .ok (.iconst 0, 1) := by decide +kernel
theorem dMo_threat_93 : decode zbMo_threat 93 = .ok (.istore 4, 2) := by decide +kernel
theorem dMo_threat_95 : decode zbMo_threat 95 = .ok (.iload 4, 2) := by decide +kernel
theorem dMo_threat_97 : decode zbMo_threat 97 = .ok (.ifCond .eq 16, 3) := by decide +kernel
theorem dMo_threat_100 : decode zbMo_threat 100 = .ok (.aload_n 0, 1) := by decide +kernel
theorem dMo_threat_101 : decode zbMo_threat 101 = .ok (.bipush 14, 2) := by decide +kernel
theorem dMo_threat_103 : decode zbMo_threat 103 = .ok (.iload_n 1, 1) := by decide +kernel
theorem dMo_threat_104 : decode zbMo_threat 104 = .ok (.iload_n 2, 1) := by decide +kernel
theorem dMo_threat_105 : decode zbMo_threat 105 = .ok (.invokevirtual 211, 3) := by decide +kernel
theorem dMo_threat_108 : decode zbMo_threat 108 = .ok (.ifCond .ge 5, 3) := by decide +kernel
theorem dMo_threat_111 : decode zbMo_threat 111 = .ok (.iload_n 3, 1) := by decide +kernel
theorem dMo_threat_112 : decode zbMo_threat 112 = .ok (.ireturn, 1) := by decide +kernel
theorem dMo_threat_113 : decode zbMo_threat 113 = .ok (.iinc 3 1, 3) := by decide +kernel
theorem dMo_threat_116 : decode zbMo_threat 116 = .ok (.goto (-74), 3) := by decide +kernel
theorem dMo_threat_119 : decode zbMo_threat 119 = .ok (.iconst (-1), 1) := by decide +kernel
theorem dMo_threat_120 : decode zbMo_threat 120 = .ok (.ireturn, 1) := by decide +kernel
theorem dAg_init_0 : decode zbAg_init 0 = .ok (.aload_n 0, 1) := by decide +kernel
theorem dAg_init_1 : decode zbAg_init 1 = .ok (.invokespecial 3, 3) := by decide +kernel
theorem dAg_init_4 : decode zbAg_init 4 = .ok (.aload_n 0, 1) := by decide +kernel
theorem dAg_init_5 : decode zbAg_init 5 = .ok (.bipush 10, 2) := by decide +kernel
theorem dAg_init_7 : decode zbAg_init 7 = .ok (.anewarray 9, 3) := by decide +kernel
theorem dAg_init_10 : decode zbAg_init 10 = .ok (.putfield 11, 3) := by decide +kernel
theorem dAg_init_13 : decode zbAg_init 13 = .ok (.aload_n 0, 1) := by decide +kernel
theorem dAg_init_14 : decode zbAg_init 14 = .ok (.iconst 0, 1) := by decide +kernel
theorem dAg_init_15 : decode zbAg_init 15 = .ok (.putfield 17, 3) := by decide +kernel
theorem dAg_init_18 : decode zbAg_init 18 = .ok (.iconst 0, 1) := by decide +kernel
theorem dAg_init_19 : decode zbAg_init 19 = .ok (.istore_n 1, 1) := by decide +kernel
theorem dAg_init_20 : decode zbAg_init 20 = .ok (.iload_n 1, 1) := by decide +kernel
theorem dAg_init_21 : decode zbAg_init 21 = .ok (.bipush 10, 2) := by decide +kernel
theorem dAg_init_23 : decode zbAg_init 23 = .ok (.if_icmp .ge 22, 3) := by decide +kernel
theorem dAg_init_26 : decode zbAg_init 26 = .ok (.aload_n 0, 1) := by decide +kernel
theorem dAg_init_27 : decode zbAg_init 27 = .ok (.getfield 11, 3) := by decide +kernel
theorem dAg_init_30 : decode zbAg_init 30 = .ok (.iload_n 1, 1) := by decide +kernel
theorem dAg_init_31 : decode zbAg_init 31 = .ok (.new 9, 3) := by decide +kernel
theorem dAg_init_34 : decode zbAg_init 34 = .ok (.dup, 1) := by decide +kernel
theorem dAg_init_35 : decode zbAg_init 35 = .ok (.invokespecial 21, 3) := by decide +kernel
theorem dAg_init_38 : decode zbAg_init 38 = .ok (.aastore, 1) := by decide +kernel
theorem dAg_init_39 : decode zbAg_init 39 = .ok (.iinc 1 1, 3) := by decide +kernel
theorem dAg_init_42 : decode zbAg_init 42 = .ok (.goto (-22), 3) := by decide +kernel
theorem dAg_init_45 : decode zbAg_init 45 = .ok (.return_, 1) := by decide +kernel
theorem dAg_find_0 : decode zbAg_find 0 = .ok (.iconst 0, 1) := by decide +kernel
theorem dAg_find_1 : decode zbAg_find 1 = .ok (.istore 4, 2) := by decide +kernel
theorem dAg_find_3 : decode zbAg_find 3 = .ok (.iload 4, 2) := by decide +kernel
theorem dAg_find_5 : decode zbAg_find 5 = .ok (.aload_n 1, 1) := by decide +kernel
theorem dAg_find_6 : decode zbAg_find 6 = .ok (.getfield 22, 3) := by decide +kernel
theorem dAg_find_9 : decode zbAg_find 9 = .ok (.if_icmp .ge 31, 3) := by decide +kernel
theorem dAg_find_12 : decode zbAg_find 12 = .ok (.aload_n 0, 1) := by decide +kernel
theorem dAg_find_13 : decode zbAg_find 13 = .ok (.getfield 11, 3) := by decide +kernel
theorem dAg_find_16 : decode zbAg_find 16 = .ok (.aload_n 1, 1) := by decide +kernel
theorem dAg_find_17 : decode zbAg_find 17 = .ok (.iload 4, 2) := by decide +kernel
theorem dAg_find_19 : decode zbAg_find 19 = .ok (.invokevirtual 25, 3) := by decide +kernel
theorem dAg_find_22 : decode zbAg_find 22 = .ok (.aaload, 1) := by decide +kernel
theorem dAg_find_23 : decode zbAg_find 23 = .ok (.iload_n 2, 1) := by decide +kernel
theorem dAg_find_24 : decode zbAg_find 24 = .ok (.iload_n 3, 1) := by decide +kernel
theorem dAg_find_25 : decode zbAg_find 25 = .ok (.invokevirtual 29, 3) := by decide +kernel
theorem dAg_find_28 : decode zbAg_find 28 = .ok (.ifCond .eq 6, 3) := by decide +kernel
theorem dAg_find_31 : decode zbAg_find 31 = .ok (.iload 4, 2) := by decide +kernel
theorem dAg_find_33 : decode zbAg_find 33 = .ok (.ireturn, 1) := by decide +kernel
theorem dAg_find_34 : decode zbAg_find 34 = .ok (.iinc 4 1, 3) := by decide +kernel
theorem dAg_find_37 : decode zbAg_find 37 = .ok (.goto (-34), 3) := by decide +kernel
theorem dAg_find_40 : decode zbAg_find 40 = .ok (.iconst (-1), 1) := by decide +kernel
theorem dAg_find_41 : decode zbAg_find 41 = .ok (.ireturn, 1) := by decide +kernel
theorem dAg_isTouchedBy_0 : decode zbAg_isTouchedBy 0 = .ok (.iconst 0, 1) := by decide +kernel
theorem dAg_isTouchedBy_1 : decode zbAg_isTouchedBy 1 = .ok (.istore 4, 2) := by decide +kernel
theorem dAg_isTouchedBy_3 : decode zbAg_isTouchedBy 3 = .ok (.iload 4, 2) := by decide +kernel
theorem dAg_isTouchedBy_5 : decode zbAg_isTouchedBy 5 = .ok (.aload_n 0, 1) := by decide +kernel
theorem dAg_isTouchedBy_6 : decode zbAg_isTouchedBy 6 = .ok (.getfield 17, 3) := by decide +kernel
theorem dAg_isTouchedBy_9 : decode zbAg_isTouchedBy 9 = .ok (.if_icmp .ge 26, 3) := by decide +kernel
theorem dAg_isTouchedBy_12 : decode zbAg_isTouchedBy 12 = .ok (.aload_n 0, 1) := by decide +kernel
theorem dAg_isTouchedBy_13 : decode zbAg_isTouchedBy 13 = .ok (.getfield 11, 3) := by decide +kernel
theorem dAg_isTouchedBy_16 : decode zbAg_isTouchedBy 16 = .ok (.iload 4, 2) := by decide +kernel
theorem dAg_isTouchedBy_18 : decode zbAg_isTouchedBy 18 = .ok (.aaload, 1) := by decide +kernel
theorem dAg_isTouchedBy_19 : decode zbAg_isTouchedBy 19 = .ok (.iload_n 2, 1) := by decide +kernel
theorem dAg_isTouchedBy_20 : decode zbAg_isTouchedBy 20 = .ok (.iload_n 3, 1) := by decide +kernel
theorem dAg_isTouchedBy_21 : decode zbAg_isTouchedBy 21 = .ok (.invokevirtual 33, 3) := by decide +kernel
theorem dAg_isTouchedBy_24 : decode zbAg_isTouchedBy 24 = .ok (.ifCond .eq 5, 3) := by decide +kernel
theorem dAg_isTouchedBy_27 : decode zbAg_isTouchedBy 27 = .ok (.iconst 1, 1) := by decide +kernel
theorem dAg_isTouchedBy_28 : decode zbAg_isTouchedBy 28 = .ok (.ireturn, 1) := by decide +kernel
theorem dAg_isTouchedBy_29 : decode zbAg_isTouchedBy 29 = .ok (.iinc 4 1, 3) := by decide +kernel
theorem dAg_isTouchedBy_32 : decode zbAg_isTouchedBy 32 = .ok (.goto (-29), 3) := by decide +kernel
theorem dAg_isTouchedBy_35 : decode zbAg_isTouchedBy 35 = .ok (.aload_n 0, 1) := by decide +kernel
theorem dAg_isTouchedBy_36 : decode zbAg_isTouchedBy 36 = .ok (.aload_n 1, 1) := by decide +kernel
theorem dAg_isTouchedBy_37 : decode zbAg_isTouchedBy 37 = .ok (.getfield 36, 3) := by decide +kernel
theorem dAg_isTouchedBy_40 : decode zbAg_isTouchedBy 40 = .ok (.iload_n 2, 1) := by decide +kernel
theorem dAg_isTouchedBy_41 : decode zbAg_isTouchedBy 41 = .ok (.iload_n 3, 1) := by decide +kernel
theorem dAg_isTouchedBy_42 : decode zbAg_isTouchedBy 42 = .ok (.invokevirtual 42, 3) := by decide +kernel
theorem dAg_isTouchedBy_45 : decode zbAg_isTouchedBy 45 = .ok (.iconst (-1), 1) := by decide +kernel
theorem dAg_isTouchedBy_46 : decode zbAg_isTouchedBy 46 = .ok (.if_icmp .ne 17, 3) := by decide +kernel
theorem dAg_isTouchedBy_49 : decode zbAg_isTouchedBy 49 = .ok (.aload_n 0, 1) := by decide +kernel
theorem dAg_isTouchedBy_50 : decode zbAg_isTouchedBy 50 = .ok (.aload_n 1, 1) := by decide +kernel
theorem dAg_isTouchedBy_51 : decode zbAg_isTouchedBy 51 = .ok (.getfield 46, 3) := by decide +kernel
theorem dAg_isTouchedBy_54 : decode zbAg_isTouchedBy 54 = .ok (.iload_n 2, 1) := by decide +kernel
theorem dAg_isTouchedBy_55 : decode zbAg_isTouchedBy 55 = .ok (.iload_n 3, 1) := by decide +kernel
theorem dAg_isTouchedBy_56 : decode zbAg_isTouchedBy 56 = .ok (.invokevirtual 42, 3) := by decide +kernel
theorem dAg_isTouchedBy_59 : decode zbAg_isTouchedBy 59 = .ok (.iconst (-1), 1) := by decide +kernel
theorem dAg_isTouchedBy_60 : decode zbAg_isTouchedBy 60 = .ok (.if_icmp .eq 7, 3) := by decide +kernel
theorem dAg_isTouchedBy_63 : decode zbAg_isTouchedBy 63 = .ok (.iconst 1, 1) := by decide +kernel
theorem dAg_isTouchedBy_64 : decode zbAg_isTouchedBy 64 = .ok (.goto 4, 3) := by decide +kernel
theorem dAg_isTouchedBy_67 : decode zbAg_isTouchedBy 67 = .ok (.iconst 0, 1) := by decide +kernel
theorem dAg_isTouchedBy_68 : decode zbAg_isTouchedBy 68 = .ok (.ireturn, 1) := by decide +kernel
theorem dAg_hasDutyDue_0 : decode zbAg_hasDutyDue 0 = .ok (.iconst 0, 1) := by decide +kernel
theorem dAg_hasDutyDue_1 : decode zbAg_hasDutyDue 1 = .ok (.istore_n 3, 1) := by decide +kernel
theorem dAg_hasDutyDue_2 : decode zbAg_hasDutyDue 2 = .ok (.iload_n 3, 1) := by decide +kernel
theorem dAg_hasDutyDue_3 : decode zbAg_hasDutyDue 3 = .ok (.aload_n 1, 1) := by decide +kernel
theorem dAg_hasDutyDue_4 : decode zbAg_hasDutyDue 4 = .ok (.getfield 46, 3) := by decide +kernel
theorem dAg_hasDutyDue_7 : decode zbAg_hasDutyDue 7 = .ok (.getfield 22, 3) := by decide +kernel
theorem dAg_hasDutyDue_10 : decode zbAg_hasDutyDue 10 = .ok (.if_icmp .ge 46, 3) := by decide +kernel
theorem dAg_hasDutyDue_13 : decode zbAg_hasDutyDue 13 = .ok (.aload_n 1, 1) := by decide +kernel
theorem dAg_hasDutyDue_14 : decode zbAg_hasDutyDue 14 = .ok (.getfield 46, 3) := by decide +kernel
theorem dAg_hasDutyDue_17 : decode zbAg_hasDutyDue 17 = .ok (.iload_n 3, 1) := by decide +kernel
theorem dAg_hasDutyDue_18 : decode zbAg_hasDutyDue 18 = .ok (.invokevirtual 49, 3) := by decide +kernel
theorem dAg_hasDutyDue_21 : decode zbAg_hasDutyDue 21 = .ok (.aload_n 1, 1) := by decide +kernel
theorem dAg_hasDutyDue_22 : decode zbAg_hasDutyDue 22 = .ok (.getfield 52, 3) := by decide +kernel
theorem dAg_hasDutyDue_25 : decode zbAg_hasDutyDue 25 = .ok (.if_icmp .gt 25, 3) := by decide +kernel
theorem dAg_hasDutyDue_28 : decode zbAg_hasDutyDue 28 = .ok (.aload_n 0, 1) := by decide +kernel
theorem dAg_hasDutyDue_29 : decode zbAg_hasDutyDue 29 = .ok (.getfield 11, 3) := by decide +kernel
theorem dAg_hasDutyDue_32 : decode zbAg_hasDutyDue 32 = .ok (.aload_n 1, 1) := by decide +kernel
theorem dAg_hasDutyDue_33 : decode zbAg_hasDutyDue 33 = .ok (.getfield 46, 3) := by decide +kernel
theorem dAg_hasDutyDue_36 : decode zbAg_hasDutyDue 36 = .ok (.iload_n 3, 1) := by decide +kernel
theorem dAg_hasDutyDue_37 : decode zbAg_hasDutyDue 37 = .ok (.invokevirtual 25, 3) := by decide +kernel
theorem dAg_hasDutyDue_40 : decode zbAg_hasDutyDue 40 = .ok (.aaload, 1) := by decide +kernel
theorem dAg_hasDutyDue_41 : decode zbAg_hasDutyDue 41 = .ok (.getfield 55, 3) := by decide +kernel
theorem dAg_hasDutyDue_44 : decode zbAg_hasDutyDue 44 = .ok (.iload_n 2, 1) := by decide +kernel
theorem dAg_hasDutyDue_45 : decode zbAg_hasDutyDue 45 = .ok (.if_icmp .ne 5, 3) := by decide +kernel
theorem dAg_hasDutyDue_48 : decode zbAg_hasDutyDue 48 = .ok (.iconst 1, 1) := by decide +kernel
theorem dAg_hasDutyDue_49 : decode zbAg_hasDutyDue 49 = .ok (.ireturn, 1) := by decide +kernel
theorem dAg_hasDutyDue_50 : decode zbAg_hasDutyDue 50 = .ok (.iinc 3 1, 3) := by decide +kernel
theorem dAg_hasDutyDue_53 : decode zbAg_hasDutyDue 53 = .ok (.goto (-51), 3) := by decide +kernel
theorem dAg_hasDutyDue_56 : decode zbAg_hasDutyDue 56 = .ok (.iconst 0, 1) := by decide +kernel
theorem dAg_hasDutyDue_57 : decode zbAg_hasDutyDue 57 = .ok (.ireturn, 1) := by decide +kernel
theorem dAg_faultOfReferences_0 : decode zbAg_faultOfReferences 0 = .ok (.iconst 0, 1) := by decide +kernel
theorem dAg_faultOfReferences_1 : decode zbAg_faultOfReferences 1 = .ok (.istore_n 1, 1) := by decide +kernel
theorem dAg_faultOfReferences_2 : decode zbAg_faultOfReferences 2 = .ok (.iload_n 1, 1) := by decide +kernel
theorem dAg_faultOfReferences_3 : decode zbAg_faultOfReferences 3 = .ok (.aload_n 0, 1) := by decide +kernel
theorem dAg_faultOfReferences_4 : decode zbAg_faultOfReferences 4 = .ok (.getfield 17, 3) := by decide +kernel
theorem dAg_faultOfReferences_7 : decode zbAg_faultOfReferences 7 = .ok (.if_icmp .ge 28, 3) := by decide +kernel
theorem dAg_faultOfReferences_10 : decode zbAg_faultOfReferences 10 = .ok (.aload_n 0, 1) := by decide +kernel
theorem dAg_faultOfReferences_11 : decode zbAg_faultOfReferences 11 = .ok (.aload_n 0, 1) := by decide +kernel
theorem dAg_faultOfReferences_12 : decode zbAg_faultOfReferences 12 = .ok (.getfield 11, 3) := by decide +kernel
theorem dAg_faultOfReferences_15 : decode zbAg_faultOfReferences 15 = .ok (.iload_n 1, 1) := by decide +kernel
theorem dAg_faultOfReferences_16 : decode zbAg_faultOfReferences 16 = .ok (.aaload, 1) := by decide +kernel
theorem dAg_faultOfReferences_17 : decode zbAg_faultOfReferences 17 = .ok (.invokevirtual 58, 3) := by decide +kernel
theorem dAg_faultOfReferences_20 : decode zbAg_faultOfReferences 20 = .ok (.ifCond .ne 9, 3) := by decide +kernel
theorem dAg_faultOfReferences_23 : decode zbAg_faultOfReferences 23 = .ok (.sipush 200, 3) := by decide +kernel
theorem dAg_faultOfReferences_26 : decode zbAg_faultOfReferences 26 = .ok (.iload_n 1, 1) := by decide +kernel
theorem dAg_faultOfReferences_27 : decode zbAg_faultOfReferences 27 = .ok (.iadd, 1) := by decide +kernel
theorem dAg_faultOfReferences_28 : decode zbAg_faultOfReferences 28 = .ok (.ireturn, 1) := by decide +kernel
theorem dAg_faultOfReferences_29 : decode zbAg_faultOfReferences 29 = .ok (.iinc 1 1, 3) := by decide +kernel
theorem dAg_faultOfReferences_32 : decode zbAg_faultOfReferences 32 = .ok (.goto (-30), 3) := by decide +kernel
theorem dAg_faultOfReferences_35 : decode zbAg_faultOfReferences 35 = .ok (.iconst 0, 1) := by decide +kernel
theorem dAg_faultOfReferences_36 : decode zbAg_faultOfReferences 36 = .ok (.istore_n 1, 1) := by decide +kernel
theorem dAg_faultOfReferences_37 : decode zbAg_faultOfReferences 37 = .ok (.iload_n 1, 1) := by decide +kernel
theorem dAg_faultOfReferences_38 : decode zbAg_faultOfReferences 38 = .ok (.aload_n 0, 1) := by decide +kernel
theorem dAg_faultOfReferences_39 : decode zbAg_faultOfReferences 39 = .ok (.getfield 17, 3) := by decide +kernel
theorem dAg_faultOfReferences_42 : decode zbAg_faultOfReferences 42 = .ok (.if_icmp .ge 23, 3) := by decide +kernel
theorem dAg_faultOfReferences_45 : decode zbAg_faultOfReferences 45 = .ok (.aload_n 0, 1) := by decide +kernel
theorem dAg_faultOfReferences_46 : decode zbAg_faultOfReferences 46 = .ok (.iload_n 1, 1) := by decide +kernel
theorem dAg_faultOfReferences_47 : decode zbAg_faultOfReferences 47 = .ok (.invokevirtual 62, 3) := by decide +kernel
theorem dAg_faultOfReferences_50 : decode zbAg_faultOfReferences 50 = .ok (.ifCond .eq 9, 3) := by decide +kernel
theorem dAg_faultOfReferences_53 : decode zbAg_faultOfReferences 53 = .ok (.sipush 300, 3) := by decide +kernel
theorem dAg_faultOfReferences_56 : decode zbAg_faultOfReferences 56 = .ok (.iload_n 1, 1) := by decide +kernel
theorem dAg_faultOfReferences_57 : decode zbAg_faultOfReferences 57 = .ok (.iadd, 1) := by decide +kernel
theorem dAg_faultOfReferences_58 : decode zbAg_faultOfReferences 58 = .ok (.ireturn, 1) := by decide +kernel
theorem dAg_faultOfReferences_59 : decode zbAg_faultOfReferences 59 = .ok (.iinc 1 1, 3) := by decide +kernel
theorem dAg_faultOfReferences_62 : decode zbAg_faultOfReferences 62 = .ok (.goto (-25), 3) := by decide +kernel
theorem dAg_faultOfReferences_65 : decode zbAg_faultOfReferences 65 = .ok (.iconst (-1), 1) := by decide +kernel
theorem dAg_faultOfReferences_66 : decode zbAg_faultOfReferences 66 = .ok (.ireturn, 1) := by decide +kernel
theorem dAg_refersRightly_0 : decode zbAg_refersRightly 0 = .ok (.aload_n 1, 1) := by decide +kernel
theorem dAg_refersRightly_1 : decode zbAg_refersRightly 1 = .ok (.getfield 66, 3) := by decide +kernel
theorem dAg_refersRightly_4 : decode zbAg_refersRightly 4 = .ok (.bipush 61, 2) := by decide +kernel
theorem dAg_refersRightly_6 : decode zbAg_refersRightly 6 = .ok (.if_icmp .ne 16, 3) := by decide +kernel
theorem dAg_refersRightly_9 : decode zbAg_refersRightly 9 = .ok (.aload_n 1, 1) := by decide +kernel
theorem dAg_refersRightly_10 : decode zbAg_refersRightly 10 = .ok (.getfield 69, 3) := by decide +kernel
theorem dAg_refersRightly_13 : decode zbAg_refersRightly 13 = .ok (.aload_n 0, 1) := by decide +kernel
theorem dAg_refersRightly_14 : decode zbAg_refersRightly 14 = .ok (.getfield 17, 3) := by decide +kernel
theorem dAg_refersRightly_17 : decode zbAg_refersRightly 17 = .ok (.if_icmp .lt 5, 3) := by decide +kernel
theorem dAg_refersRightly_20 : decode zbAg_refersRightly 20 = .ok (.iconst 0, 1) := by decide +kernel
theorem dAg_refersRightly_21 : decode zbAg_refersRightly 21 = .ok (.ireturn, 1) := by decide +kernel
theorem dAg_refersRightly_22 : decode zbAg_refersRightly 22 = .ok (.aload_n 1, 1) := by decide +kernel
theorem dAg_refersRightly_23 : decode zbAg_refersRightly 23 = .ok (.getfield 72, 3) := by decide +kernel
theorem dAg_refersRightly_26 : decode zbAg_refersRightly 26 = .ok (.bipush 120, 2) := by decide +kernel
theorem dAg_refersRightly_28 : decode zbAg_refersRightly 28 = .ok (.if_icmp .eq 14, 3) := by decide +kernel
theorem dAg_refersRightly_31 : decode zbAg_refersRightly 31 = .ok (.aload_n 1, 1) := by decide +kernel
theorem dAg_refersRightly_32 : decode zbAg_refersRightly 32 = .ok (.getfield 72, 3) := by decide +kernel
theorem dAg_refersRightly_35 : decode zbAg_refersRightly 35 = .ok (.bipush 102, 2) := by decide +kernel
theorem dAg_refersRightly_37 : decode zbAg_refersRightly 37 = .ok (.if_icmp .eq 5, 3) := by decide +kernel
theorem dAg_refersRightly_40 : decode zbAg_refersRightly 40 = .ok (.iconst 1, 1) := by decide +kernel
theorem dAg_refersRightly_41 : decode zbAg_refersRightly 41 = .ok (.ireturn, 1) := by decide +kernel
theorem dAg_refersRightly_42 : decode zbAg_refersRightly 42 = .ok (.aload_n 1, 1) := by decide +kernel
theorem dAg_refersRightly_43 : decode zbAg_refersRightly 43 = .ok (.getfield 75, 3) := by decide +kernel
theorem dAg_refersRightly_46 : decode zbAg_refersRightly 46 = .ok (.aload_n 0, 1) := by decide +kernel
theorem dAg_refersRightly_47 : decode zbAg_refersRightly 47 = .ok (.getfield 17, 3) := by decide +kernel
theorem dAg_refersRightly_50 : decode zbAg_refersRightly 50 = .ok (.if_icmp .lt 5, 3) := by decide +kernel
theorem dAg_refersRightly_53 : decode zbAg_refersRightly 53 = .ok (.iconst 0, 1) := by decide +kernel
theorem dAg_refersRightly_54 : decode zbAg_refersRightly 54 = .ok (.ireturn, 1) := by decide +kernel
theorem dAg_refersRightly_55 : decode zbAg_refersRightly 55 = .ok (.aload_n 0, 1) := by decide +kernel
theorem dAg_refersRightly_56 : decode zbAg_refersRightly 56 = .ok (.getfield 11, 3) := by decide +kernel
theorem dAg_refersRightly_59 : decode zbAg_refersRightly 59 = .ok (.aload_n 1, 1) := by decide +kernel
theorem dAg_refersRightly_60 : decode zbAg_refersRightly 60 = .ok (.getfield 75, 3) := by decide +kernel
theorem dAg_refersRightly_63 : decode zbAg_refersRightly 63 = .ok (.aaload, 1) := by decide +kernel
theorem dAg_refersRightly_64 : decode zbAg_refersRightly 64 = .ok (.getfield 66, 3) := by decide +kernel
theorem dAg_refersRightly_67 : decode zbAg_refersRightly 67 = .ok (.istore_n 2, 1) := by decide +kernel
theorem dAg_refersRightly_68 : decode zbAg_refersRightly 68 = .ok (.iload_n 2, 1) := by decide +kernel
theorem dAg_refersRightly_69 : decode zbAg_refersRightly 69 = .ok (.bipush 33, 2) := by decide +kernel
theorem dAg_refersRightly_71 : decode zbAg_refersRightly 71 = .ok (.if_icmp .eq 18, 3) := by decide +kernel
theorem dAg_refersRightly_74 : decode zbAg_refersRightly 74 = .ok (.iload_n 2, 1) := by decide +kernel
theorem dAg_refersRightly_75 : decode zbAg_refersRightly 75 = .ok (.bipush 126, 2) := by decide +kernel
theorem dAg_refersRightly_77 : decode zbAg_refersRightly 77 = .ok (.if_icmp .ne 16, 3) := by decide +kernel
theorem dAg_refersRightly_80 : decode zbAg_refersRightly 80 = .ok (.aload_n 1, 1) := by decide +kernel
theorem dAg_refersRightly_81 : decode zbAg_refersRightly 81 = .ok (.getfield 72, 3) := by decide +kernel
theorem dAg_refersRightly_84 : decode zbAg_refersRightly 84 = .ok (.bipush 120, 2) := by decide +kernel
theorem dAg_refersRightly_86 : decode zbAg_refersRightly 86 = .ok (.if_icmp .ne 7, 3) := by decide +kernel
theorem dAg_refersRightly_89 : decode zbAg_refersRightly 89 = .ok (.iconst 1, 1) := by decide +kernel
theorem dAg_refersRightly_90 : decode zbAg_refersRightly 90 = .ok (.goto 4, 3) := by decide +kernel
theorem dAg_refersRightly_93 : decode zbAg_refersRightly 93 = .ok (.iconst 0, 1) := by decide +kernel
theorem dAg_refersRightly_94 : decode zbAg_refersRightly 94 = .ok (.ireturn, 1) := by decide +kernel
theorem dAg_liesOnRound_0 : decode zbAg_liesOnRound 0 = .ok (.iload_n 1, 1) := by decide +kernel
theorem dAg_liesOnRound_1 : decode zbAg_liesOnRound 1 = .ok (.istore_n 2, 1) := by decide +kernel
theorem dAg_liesOnRound_2 : decode zbAg_liesOnRound 2 = .ok (.iconst 0, 1) := by decide +kernel
theorem dAg_liesOnRound_3 : decode zbAg_liesOnRound 3 = .ok (.istore_n 3, 1) := by decide +kernel
theorem dAg_liesOnRound_4 : decode zbAg_liesOnRound 4 = .ok (.iload_n 3, 1) := by decide +kernel
theorem dAg_liesOnRound_5 : decode zbAg_liesOnRound 5 = .ok (.aload_n 0, 1) := by decide +kernel
theorem dAg_liesOnRound_6 : decode zbAg_liesOnRound 6 = .ok (.getfield 17, 3) := by decide +kernel
theorem dAg_liesOnRound_9 : decode zbAg_liesOnRound 9 = .ok (.if_icmp .ge 42, 3) := by decide +kernel
theorem dAg_liesOnRound_12 : decode zbAg_liesOnRound 12 = .ok (.aload_n 0, 1) := by decide +kernel
theorem dAg_liesOnRound_13 : decode zbAg_liesOnRound 13 = .ok (.getfield 11, 3) := by decide +kernel
theorem dAg_liesOnRound_16 : decode zbAg_liesOnRound 16 = .ok (.iload_n 2, 1) := by decide +kernel
theorem dAg_liesOnRound_17 : decode zbAg_liesOnRound 17 = .ok (.aaload, 1) := by decide +kernel
theorem dAg_liesOnRound_18 : decode zbAg_liesOnRound 18 = .ok (.getfield 66, 3) := by decide +kernel
theorem dAg_liesOnRound_21 : decode zbAg_liesOnRound 21 = .ok (.bipush 61, 2) := by decide +kernel
theorem dAg_liesOnRound_23 : decode zbAg_liesOnRound 23 = .ok (.if_icmp .eq 5, 3) := by decide +kernel
theorem dAg_liesOnRound_26 : decode zbAg_liesOnRound 26 = .ok (.iconst 0, 1) := by decide +kernel
theorem dAg_liesOnRound_27 : decode zbAg_liesOnRound 27 = .ok (.ireturn, 1) := by decide +kernel
theorem dAg_liesOnRound_28 : decode zbAg_liesOnRound 28 = .ok (.aload_n 0, 1) := by decide +kernel
theorem dAg_liesOnRound_29 : decode zbAg_liesOnRound 29 = .ok (.getfield 11, 3) := by decide +kernel
theorem dAg_liesOnRound_32 : decode zbAg_liesOnRound 32 = .ok (.iload_n 2, 1) := by decide +kernel
theorem dAg_liesOnRound_33 : decode zbAg_liesOnRound 33 = .ok (.aaload, 1) := by decide +kernel
theorem dAg_liesOnRound_34 : decode zbAg_liesOnRound 34 = .ok (.getfield 69, 3) := by decide +kernel
theorem dAg_liesOnRound_37 : decode zbAg_liesOnRound 37 = .ok (.istore_n 2, 1) := by decide +kernel
theorem dAg_liesOnRound_38 : decode zbAg_liesOnRound 38 = .ok (.iload_n 2, 1) := by decide +kernel
theorem dAg_liesOnRound_39 : decode zbAg_liesOnRound 39 = .ok (.iload_n 1, 1) := by decide +kernel
theorem dAg_liesOnRound_40 : decode zbAg_liesOnRound 40 = .ok (.if_icmp .ne 5, 3) := by decide +kernel
theorem dAg_liesOnRound_43 : decode zbAg_liesOnRound 43 = .ok (.iconst 1, 1) := by decide +kernel
theorem dAg_liesOnRound_44 : decode zbAg_liesOnRound 44 = .ok (.ireturn, 1) := by decide +kernel
theorem dAg_liesOnRound_45 : decode zbAg_liesOnRound 45 = .ok (.iinc 3 1, 3) := by decide +kernel
theorem dAg_liesOnRound_48 : decode zbAg_liesOnRound 48 = .ok (.goto (-44), 3) := by decide +kernel
theorem dAg_liesOnRound_51 : decode zbAg_liesOnRound 51 = .ok (.iconst 0, 1) := by decide +kernel
theorem dAg_liesOnRound_52 : decode zbAg_liesOnRound 52 = .ok (.ireturn, 1) := by decide +kernel
theorem dCl_init_0 : decode zbCl_init 0 = .ok (.aload_n 0, 1) := by decide +kernel
theorem dCl_init_1 : decode zbCl_init 1 = .ok (.invokespecial 3, 3) := by decide +kernel
theorem dCl_init_4 : decode zbCl_init 4 = .ok (.aload_n 0, 1) := by decide +kernel
theorem dCl_init_5 : decode zbCl_init 5 = .ok (.bipush 115, 2) := by decide +kernel
theorem dCl_init_7 : decode zbCl_init 7 = .ok (.putfield 9, 3) := by decide +kernel
theorem dCl_init_10 : decode zbCl_init 10 = .ok (.aload_n 0, 1) := by decide +kernel
theorem dCl_init_11 : decode zbCl_init 11 = .ok (.iconst (-1), 1) := by decide +kernel
theorem dCl_init_12 : decode zbCl_init 12 = .ok (.putfield 15, 3) := by decide +kernel
theorem dCl_init_15 : decode zbCl_init 15 = .ok (.aload_n 0, 1) := by decide +kernel
theorem dCl_init_16 : decode zbCl_init 16 = .ok (.iconst (-1), 1) := by decide +kernel
theorem dCl_init_17 : decode zbCl_init 17 = .ok (.putfield 18, 3) := by decide +kernel
theorem dCl_init_20 : decode zbCl_init 20 = .ok (.aload_n 0, 1) := by decide +kernel
theorem dCl_init_21 : decode zbCl_init 21 = .ok (.iconst (-1), 1) := by decide +kernel
theorem dCl_init_22 : decode zbCl_init 22 = .ok (.putfield 21, 3) := by decide +kernel
theorem dCl_init_25 : decode zbCl_init 25 = .ok (.aload_n 0, 1) := by decide +kernel
theorem dCl_init_26 : decode zbCl_init 26 = .ok (.iconst 0, 1) := by decide +kernel
theorem dCl_init_27 : decode zbCl_init 27 = .ok (.putfield 24, 3) := by decide +kernel
theorem dCl_init_30 : decode zbCl_init 30 = .ok (.aload_n 0, 1) := by decide +kernel
theorem dCl_init_31 : decode zbCl_init 31 = .ok (.iconst 0, 1) := by decide +kernel
theorem dCl_init_32 : decode zbCl_init 32 = .ok (.putfield 28, 3) := by decide +kernel
theorem dCl_init_35 : decode zbCl_init 35 = .ok (.aload_n 0, 1) := by decide +kernel
theorem dCl_init_36 : decode zbCl_init 36 = .ok (.iconst 0, 1) := by decide +kernel
theorem dCl_init_37 : decode zbCl_init 37 = .ok (.putfield 31, 3) := by decide +kernel
theorem dCl_init_40 : decode zbCl_init 40 = .ok (.aload_n 0, 1) := by decide +kernel
theorem dCl_init_41 : decode zbCl_init 41 = .ok (.iconst 0, 1) := by decide +kernel
theorem dCl_init_42 : decode zbCl_init 42 = .ok (.putfield 34, 3) := by decide +kernel
theorem dCl_init_45 : decode zbCl_init 45 = .ok (.aload_n 0, 1) := by decide +kernel
theorem dCl_init_46 : decode zbCl_init 46 = .ok (.bipush 36, 2) := by decide +kernel
theorem dCl_init_48 : decode zbCl_init 48 = .ok (.putfield 37, 3) := by decide +kernel
theorem dCl_init_51 : decode zbCl_init 51 = .ok (.aload_n 0, 1) := by decide +kernel
theorem dCl_init_52 : decode zbCl_init 52 = .ok (.iconst (-1), 1) := by decide +kernel
theorem dCl_init_53 : decode zbCl_init 53 = .ok (.putfield 40, 3) := by decide +kernel
theorem dCl_init_56 : decode zbCl_init 56 = .ok (.aload_n 0, 1) := by decide +kernel
theorem dCl_init_57 : decode zbCl_init 57 = .ok (.iconst (-1), 1) := by decide +kernel
theorem dCl_init_58 : decode zbCl_init 58 = .ok (.putfield 43, 3) := by decide +kernel
theorem dCl_init_61 : decode zbCl_init 61 = .ok (.aload_n 0, 1) := by decide +kernel
theorem dCl_init_62 : decode zbCl_init 62 = .ok (.iconst (-1), 1) := by decide +kernel
theorem dCl_init_63 : decode zbCl_init 63 = .ok (.putfield 46, 3) := by decide +kernel
theorem dCl_init_66 : decode zbCl_init 66 = .ok (.aload_n 0, 1) := by decide +kernel
theorem dCl_init_67 : decode zbCl_init 67 = .ok (.iconst 0, 1) := by decide +kernel
theorem dCl_init_68 : decode zbCl_init 68 = .ok (.putfield 49, 3) := by decide +kernel
theorem dCl_init_71 : decode zbCl_init 71 = .ok (.return_, 1) := by decide +kernel
theorem dCl_isOnEvent_0 : decode zbCl_isOnEvent 0 = .ok (.aload_n 0, 1) := by decide +kernel
theorem dCl_isOnEvent_1 : decode zbCl_isOnEvent 1 = .ok (.getfield 9, 3) := by decide +kernel
theorem dCl_isOnEvent_4 : decode zbCl_isOnEvent 4 = .ok (.bipush 101, 2) := by decide +kernel
theorem dCl_isOnEvent_6 : decode zbCl_isOnEvent 6 = .ok (.if_icmp .ne 23, 3) := by decide +kernel
theorem dCl_isOnEvent_9 : decode zbCl_isOnEvent 9 = .ok (.aload_n 0, 1) := by decide +kernel
theorem dCl_isOnEvent_10 : decode zbCl_isOnEvent 10 = .ok (.getfield 15, 3) := by decide +kernel
theorem dCl_isOnEvent_13 : decode zbCl_isOnEvent 13 = .ok (.iload_n 1, 1) := by decide +kernel
theorem dCl_isOnEvent_14 : decode zbCl_isOnEvent 14 = .ok (.if_icmp .ne 15, 3) := by decide +kernel
theorem dCl_isOnEvent_17 : decode zbCl_isOnEvent 17 = .ok (.aload_n 0, 1) := by decide +kernel
theorem dCl_isOnEvent_18 : decode zbCl_isOnEvent 18 = .ok (.getfield 18, 3) := by decide +kernel
theorem dCl_isOnEvent_21 : decode zbCl_isOnEvent 21 = .ok (.iload_n 2, 1) := by decide +kernel
theorem dCl_isOnEvent_22 : decode zbCl_isOnEvent 22 = .ok (.if_icmp .ne 7, 3) := by decide +kernel
theorem dCl_isOnEvent_25 : decode zbCl_isOnEvent 25 = .ok (.iconst 1, 1) := by decide +kernel
theorem dCl_isOnEvent_26 : decode zbCl_isOnEvent 26 = .ok (.goto 4, 3) := by decide +kernel
theorem dCl_isOnEvent_29 : decode zbCl_isOnEvent 29 = .ok (.iconst 0, 1) := by decide +kernel
theorem dCl_isOnEvent_30 : decode zbCl_isOnEvent 30 = .ok (.ireturn, 1) := by decide +kernel
theorem dCl_isOn_0 : decode zbCl_isOn 0 = .ok (.aload_n 0, 1) := by decide +kernel
theorem dCl_isOn_1 : decode zbCl_isOn 1 = .ok (.getfield 9, 3) := by decide +kernel
theorem dCl_isOn_4 : decode zbCl_isOn 4 = .ok (.iload_n 1, 1) := by decide +kernel
theorem dCl_isOn_5 : decode zbCl_isOn 5 = .ok (.if_icmp .ne 15, 3) := by decide +kernel
theorem dCl_isOn_8 : decode zbCl_isOn 8 = .ok (.aload_n 0, 1) := by decide +kernel
theorem dCl_isOn_9 : decode zbCl_isOn 9 = .ok (.getfield 21, 3) := by decide +kernel
theorem dCl_isOn_12 : decode zbCl_isOn 12 = .ok (.iload_n 2, 1) := by decide +kernel
theorem dCl_isOn_13 : decode zbCl_isOn 13 = .ok (.if_icmp .ne 7, 3) := by decide +kernel
theorem dCl_isOn_16 : decode zbCl_isOn 16 = .ok (.iconst 1, 1) := by decide +kernel
theorem dCl_isOn_17 : decode zbCl_isOn 17 = .ok (.goto 4, 3) := by decide +kernel
theorem dCl_isOn_20 : decode zbCl_isOn 20 = .ok (.iconst 0, 1) := by decide +kernel
theorem dCl_isOn_21 : decode zbCl_isOn 21 = .ok (.ireturn, 1) := by decide +kernel
theorem dCl_isFor_0 : decode zbCl_isFor 0 = .ok (.aload_n 0, 1) := by decide +kernel
theorem dCl_isFor_1 : decode zbCl_isFor 1 = .ok (.getfield 40, 3) := by decide +kernel
theorem dCl_isFor_4 : decode zbCl_isFor 4 = .ok (.iload_n 1, 1) := by decide +kernel
theorem dCl_isFor_5 : decode zbCl_isFor 5 = .ok (.if_icmp .ne 15, 3) := by decide +kernel
theorem dCl_isFor_8 : decode zbCl_isFor 8 = .ok (.aload_n 0, 1) := by decide +kernel
theorem dCl_isFor_9 : decode zbCl_isFor 9 = .ok (.getfield 43, 3) := by decide +kernel
theorem dCl_isFor_12 : decode zbCl_isFor 12 = .ok (.iload_n 2, 1) := by decide +kernel
theorem dCl_isFor_13 : decode zbCl_isFor 13 = .ok (.if_icmp .ne 7, 3) := by decide +kernel
theorem dCl_isFor_16 : decode zbCl_isFor 16 = .ok (.iconst 1, 1) := by decide +kernel
theorem dCl_isFor_17 : decode zbCl_isFor 17 = .ok (.goto 4, 3) := by decide +kernel
theorem dCl_isFor_20 : decode zbCl_isFor 20 = .ok (.iconst 0, 1) := by decide +kernel
theorem dCl_isFor_21 : decode zbCl_isFor 21 = .ok (.ireturn, 1) := by decide +kernel
theorem dCl_holds_0 : decode zbCl_holds 0 = .ok (.aload_n 0, 1) := by decide +kernel
theorem dCl_holds_1 : decode zbCl_holds 1 = .ok (.getfield 24, 3) := by decide +kernel
theorem dCl_holds_4 : decode zbCl_holds 4 = .ok (.ifCond .eq 22, 3) := by decide +kernel
theorem dCl_holds_7 : decode zbCl_holds 7 = .ok (.aload_n 1, 1) := by decide +kernel
theorem dCl_holds_8 : decode zbCl_holds 8 = .ok (.aload_n 0, 1) := by decide +kernel
theorem dCl_holds_9 : decode zbCl_holds 9 = .ok (.getfield 28, 3) := by decide +kernel
theorem dCl_holds_12 : decode zbCl_holds 12 = .ok (.aload_n 0, 1) := by decide +kernel
theorem dCl_holds_13 : decode zbCl_holds 13 = .ok (.getfield 31, 3) := by decide +kernel
theorem dCl_holds_16 : decode zbCl_holds 16 = .ok (.invokevirtual 52, 3) := by decide +kernel
theorem dCl_holds_19 : decode zbCl_holds 19 = .ok (.aload_n 0, 1) := by decide +kernel
theorem dCl_holds_20 : decode zbCl_holds 20 = .ok (.getfield 34, 3) := by decide +kernel
theorem dCl_holds_23 : decode zbCl_holds 23 = .ok (.if_icmp .le 7, 3) := by decide +kernel
theorem dCl_holds_26 : decode zbCl_holds 26 = .ok (.iconst 1, 1) := by decide +kernel
theorem dCl_holds_27 : decode zbCl_holds 27 = .ok (.goto 4, 3) := by decide +kernel
theorem dCl_holds_30 : decode zbCl_holds 30 = .ok (.iconst 0, 1) := by decide +kernel
theorem dCl_holds_31 : decode zbCl_holds 31 = .ok (.ireturn, 1) := by decide +kernel
theorem dHi_init_0 : decode zbHi_init 0 = .ok (.aload_n 0, 1) := by decide +kernel
theorem dHi_init_1 : decode zbHi_init 1 = .ok (.invokespecial 3, 3) := by decide +kernel
theorem dHi_init_4 : decode zbHi_init 4 = .ok (.aload_n 0, 1) := by decide +kernel
theorem dHi_init_5 : decode zbHi_init 5 = .ok (.bipush 12, 2) := by decide +kernel
theorem dHi_init_7 : decode zbHi_init 7 = .ok (.anewarray 9, 3) := by decide +kernel
theorem dHi_init_10 : decode zbHi_init 10 = .ok (.putfield 11, 3) := by decide +kernel
theorem dHi_init_13 : decode zbHi_init 13 = .ok (.aload_n 0, 1) := by decide +kernel
theorem dHi_init_14 : decode zbHi_init 14 = .ok (.iconst 0, 1) := by decide +kernel
theorem dHi_init_15 : decode zbHi_init 15 = .ok (.putfield 17, 3) := by decide +kernel
theorem dHi_init_18 : decode zbHi_init 18 = .ok (.aload_n 0, 1) := by decide +kernel
theorem dHi_init_19 : decode zbHi_init 19 = .ok (.iconst 0, 1) := by decide +kernel
theorem dHi_init_20 : decode zbHi_init 20 = .ok (.putfield 21, 3) := by decide +kernel
theorem dHi_init_23 : decode zbHi_init 23 = .ok (.iconst 0, 1) := by decide +kernel
theorem dHi_init_24 : decode zbHi_init 24 = .ok (.istore_n 1, 1) := by decide +kernel
theorem dHi_init_25 : decode zbHi_init 25 = .ok (.iload_n 1, 1) := by decide +kernel
theorem dHi_init_26 : decode zbHi_init 26 = .ok (.bipush 12, 2) := by decide +kernel
theorem dHi_init_28 : decode zbHi_init 28 = .ok (.if_icmp .ge 22, 3) := by decide +kernel
theorem dHi_init_31 : decode zbHi_init 31 = .ok (.aload_n 0, 1) := by decide +kernel
theorem dHi_init_32 : decode zbHi_init 32 = .ok (.getfield 11, 3) := by decide +kernel
theorem dHi_init_35 : decode zbHi_init 35 = .ok (.iload_n 1, 1) := by decide +kernel
theorem dHi_init_36 : decode zbHi_init 36 = .ok (.new 9, 3) := by decide +kernel
theorem dHi_init_39 : decode zbHi_init 39 = .ok (.dup, 1) := by decide +kernel
theorem dHi_init_40 : decode zbHi_init 40 = .ok (.invokespecial 24, 3) := by decide +kernel
theorem dHi_init_43 : decode zbHi_init 43 = .ok (.aastore, 1) := by decide +kernel
theorem dHi_init_44 : decode zbHi_init 44 = .ok (.iinc 1 1, 3) := by decide +kernel
theorem dHi_init_47 : decode zbHi_init 47 = .ok (.goto (-22), 3) := by decide +kernel
theorem dHi_init_50 : decode zbHi_init 50 = .ok (.return_, 1) := by decide +kernel
theorem dHi_keep_0 : decode zbHi_keep 0 = .ok (.aload_n 0, 1) := by decide +kernel
theorem dHi_keep_1 : decode zbHi_keep 1 = .ok (.getfield 11, 3) := by decide +kernel
theorem dHi_keep_4 : decode zbHi_keep 4 = .ok (.aload_n 0, 1) := by decide +kernel
theorem dHi_keep_5 : decode zbHi_keep 5 = .ok (.getfield 21, 3) := by decide +kernel
theorem dHi_keep_8 : decode zbHi_keep 8 = .ok (.aaload, 1) := by decide +kernel
theorem dHi_keep_9 : decode zbHi_keep 9 = .ok (.aload_n 1, 1) := by decide +kernel
theorem dHi_keep_10 : decode zbHi_keep 10 = .ok (.invokevirtual 25, 3) := by decide +kernel
theorem dHi_keep_13 : decode zbHi_keep 13 = .ok (.aload_n 0, 1) := by decide +kernel
theorem dHi_keep_14 : decode zbHi_keep 14 = .ok (.aload_n 0, 1) := by decide +kernel
theorem dHi_keep_15 : decode zbHi_keep 15 = .ok (.getfield 21, 3) := by decide +kernel
theorem dHi_keep_18 : decode zbHi_keep 18 = .ok (.iconst 1, 1) := by decide +kernel
theorem dHi_keep_19 : decode zbHi_keep 19 = .ok (.iadd, 1) := by decide +kernel
theorem dHi_keep_20 : decode zbHi_keep 20 = .ok (.bipush 12, 2) := by decide +kernel
theorem dHi_keep_22 : decode zbHi_keep 22 = .ok (.irem, 1) := by decide +kernel
theorem dHi_keep_23 : decode zbHi_keep 23 = .ok (.putfield 21, 3) := by decide +kernel
theorem dHi_keep_26 : decode zbHi_keep 26 = .ok (.aload_n 0, 1) := by decide +kernel
theorem dHi_keep_27 : decode zbHi_keep 27 = .ok (.aload_n 0, 1) := by decide +kernel
theorem dHi_keep_28 : decode zbHi_keep 28 = .ok (.getfield 17, 3) := by decide +kernel
theorem dHi_keep_31 : decode zbHi_keep 31 = .ok (.iconst 1, 1) := by decide +kernel
theorem dHi_keep_32 : decode zbHi_keep 32 = .ok (.iadd, 1) := by decide +kernel
theorem dHi_keep_33 : decode zbHi_keep 33 = .ok (.bipush 12, 2) := by decide +kernel
theorem dHi_keep_35 : decode zbHi_keep 35 = .ok (.invokestatic 29, 3) := by decide +kernel
theorem dHi_keep_38 : decode zbHi_keep 38 = .ok (.putfield 17, 3) := by decide +kernel
theorem dHi_keep_41 : decode zbHi_keep 41 = .ok (.return_, 1) := by decide +kernel
theorem dHi_giveBack_0 : decode zbHi_giveBack 0 = .ok (.aload_n 0, 1) := by decide +kernel
theorem dHi_giveBack_1 : decode zbHi_giveBack 1 = .ok (.getfield 17, 3) := by decide +kernel
theorem dHi_giveBack_4 : decode zbHi_giveBack 4 = .ok (.ifCond .ne 5, 3) := by decide +kernel
theorem dHi_giveBack_7 : decode zbHi_giveBack 7 = .ok (.iconst 0, 1) := by decide +kernel
theorem dHi_giveBack_8 : decode zbHi_giveBack 8 = .ok (.ireturn, 1) := by decide +kernel
theorem dHi_giveBack_9 : decode zbHi_giveBack 9 = .ok (.aload_n 0, 1) := by decide +kernel
theorem dHi_giveBack_10 : decode zbHi_giveBack 10 = .ok (.aload_n 0, 1) := by decide +kernel
theorem dHi_giveBack_11 : decode zbHi_giveBack 11 = .ok (.getfield 21, 3) := by decide +kernel
theorem dHi_giveBack_14 : decode zbHi_giveBack 14 = .ok (.bipush 12, 2) := by decide +kernel
theorem dHi_giveBack_16 : decode zbHi_giveBack 16 = .ok (.iadd, 1) := by decide +kernel
theorem dHi_giveBack_17 : decode zbHi_giveBack 17 = .ok (.iconst 1, 1) := by decide +kernel
theorem dHi_giveBack_18 : decode zbHi_giveBack 18 = .ok (.isub, 1) := by decide +kernel
theorem dHi_giveBack_19 : decode zbHi_giveBack 19 = .ok (.bipush 12, 2) := by decide +kernel
theorem dHi_giveBack_21 : decode zbHi_giveBack 21 = .ok (.irem, 1) := by decide +kernel
theorem dHi_giveBack_22 : decode zbHi_giveBack 22 = .ok (.putfield 21, 3) := by decide +kernel
theorem dHi_giveBack_25 : decode zbHi_giveBack 25 = .ok (.aload_n 0, 1) := by decide +kernel
theorem dHi_giveBack_26 : decode zbHi_giveBack 26 = .ok (.dup, 1) := by decide +kernel
theorem dHi_giveBack_27 : decode zbHi_giveBack 27 = .ok (.getfield 17, 3) := by decide +kernel
theorem dHi_giveBack_30 : decode zbHi_giveBack 30 = .ok (.iconst 1, 1) := by decide +kernel
theorem dHi_giveBack_31 : decode zbHi_giveBack 31 = .ok (.isub, 1) := by decide +kernel
theorem dHi_giveBack_32 : decode zbHi_giveBack 32 = .ok (.putfield 17, 3) := by decide +kernel
theorem dHi_giveBack_35 : decode zbHi_giveBack 35 = .ok (.aload_n 1, 1) := by decide +kernel
theorem dHi_giveBack_36 : decode zbHi_giveBack 36 = .ok (.aload_n 0, 1) := by decide +kernel
theorem dHi_giveBack_37 : decode zbHi_giveBack 37 = .ok (.getfield 11, 3) := by decide +kernel
theorem dHi_giveBack_40 : decode zbHi_giveBack 40 = .ok (.aload_n 0, 1) := by decide +kernel
theorem dHi_giveBack_41 : decode zbHi_giveBack 41 = .ok (.getfield 21, 3) := by decide +kernel
theorem dHi_giveBack_44 : decode zbHi_giveBack 44 = .ok (.aaload, 1) := by decide +kernel
theorem dHi_giveBack_45 : decode zbHi_giveBack 45 = .ok (.invokevirtual 25, 3) := by decide +kernel
theorem dHi_giveBack_48 : decode zbHi_giveBack 48 = .ok (.iconst 1, 1) := by decide +kernel
theorem dHi_giveBack_49 : decode zbHi_giveBack 49 = .ok (.ireturn, 1) := by decide +kernel
theorem dHi_forget_0 : decode zbHi_forget 0 = .ok (.aload_n 0, 1) := by decide +kernel
theorem dHi_forget_1 : decode zbHi_forget 1 = .ok (.iconst 0, 1) := by decide +kernel
theorem dHi_forget_2 : decode zbHi_forget 2 = .ok (.putfield 17, 3) := by decide +kernel
theorem dHi_forget_5 : decode zbHi_forget 5 = .ok (.return_, 1) := by decide +kernel
theorem dRu_init_0 : decode zbRu_init 0 = .ok (.aload_n 0, 1) := by decide +kernel
theorem dRu_init_1 : decode zbRu_init 1 = .ok (.invokespecial 3, 3) := by decide +kernel
theorem dRu_init_4 : decode zbRu_init 4 = .ok (.aload_n 0, 1) := by decide +kernel
theorem dRu_init_5 : decode zbRu_init 5 = .ok (.bipush 61, 2) := by decide +kernel
theorem dRu_init_7 : decode zbRu_init 7 = .ok (.newarray .boolean, 2) := by decide +kernel
theorem dRu_init_9 : decode zbRu_init 9 = .ok (.putfield 9, 3) := by decide +kernel
theorem dRu_init_12 : decode zbRu_init 12 = .ok (.aload_n 0, 1) := by decide +kernel
theorem dRu_init_13 : decode zbRu_init 13 = .ok (.sipush 800, 3) := by decide +kernel
theorem dRu_init_16 : decode zbRu_init 16 = .ok (.newarray .int, 2) := by decide +kernel
theorem dRu_init_18 : decode zbRu_init 18 = .ok (.putfield 15, 3) := by decide +kernel
theorem dRu_init_21 : decode zbRu_init 21 = .ok (.aload_n 0, 1) := by decide +kernel
theorem dRu_init_22 : decode zbRu_init 22 = .ok (.iconst 0, 1) := by decide +kernel
theorem dRu_init_23 : decode zbRu_init 23 = .ok (.putfield 19, 3) := by decide +kernel
theorem dRu_init_26 : decode zbRu_init 26 = .ok (.return_, 1) := by decide +kernel
theorem dRu_start_0 : decode zbRu_start 0 = .ok (.aload_n 0, 1) := by decide +kernel
theorem dRu_start_1 : decode zbRu_start 1 = .ok (.iconst 0, 1) := by decide +kernel
theorem dRu_start_2 : decode zbRu_start 2 = .ok (.putfield 19, 3) := by decide +kernel
theorem dRu_start_5 : decode zbRu_start 5 = .ok (.iconst 0, 1) := by decide +kernel
theorem dRu_start_6 : decode zbRu_start 6 = .ok (.istore_n 3, 1) := by decide +kernel
theorem dRu_start_7 : decode zbRu_start 7 = .ok (.iload_n 3, 1) := by decide +kernel
theorem dRu_start_8 : decode zbRu_start 8 = .ok (.aload_n 1, 1) := by decide +kernel
theorem dRu_start_9 : decode zbRu_start 9 = .ok (.getfield 23, 3) := by decide +kernel
theorem dRu_start_12 : decode zbRu_start 12 = .ok (.if_icmp .ge 28, 3) := by decide +kernel
theorem dRu_start_15 : decode zbRu_start 15 = .ok (.aload_n 1, 1) := by decide +kernel
theorem dRu_start_16 : decode zbRu_start 16 = .ok (.getfield 28, 3) := by decide +kernel
theorem dRu_start_19 : decode zbRu_start 19 = .ok (.iload_n 3, 1) := by decide +kernel
theorem dRu_start_20 : decode zbRu_start 20 = .ok (.aaload, 1) := by decide +kernel
theorem dRu_start_21 : decode zbRu_start 21 = .ok (.getfield 32, 3) := by decide +kernel
theorem dRu_start_24 : decode zbRu_start 24 = .ok (.bipush 115, 2) := by decide +kernel
theorem dRu_start_26 : decode zbRu_start 26 = .ok (.if_icmp .ne 8, 3) := by decide +kernel
theorem dRu_start_29 : decode zbRu_start 29 = .ok (.aload_n 0, 1) := by decide +kernel
theorem dRu_start_30 : decode zbRu_start 30 = .ok (.iload_n 3, 1) := by decide +kernel
theorem dRu_start_31 : decode zbRu_start 31 = .ok (.invokevirtual 37, 3) := by decide +kernel
theorem dRu_start_34 : decode zbRu_start 34 = .ok (.iinc 3 1, 3) := by decide +kernel
theorem dRu_start_37 : decode zbRu_start 37 = .ok (.goto (-30), 3) := by decide +kernel
theorem dRu_start_40 : decode zbRu_start 40 = .ok (.aload_n 0, 1) := by decide +kernel
theorem dRu_start_41 : decode zbRu_start 41 = .ok (.aload_n 1, 1) := by decide +kernel
theorem dRu_start_42 : decode zbRu_start 42 = .ok (.aload_n 2, 1) := by decide +kernel
theorem dRu_start_43 : decode zbRu_start 43 = .ok (.invokevirtual 41, 3) := by decide +kernel
theorem dRu_start_46 : decode zbRu_start 46 = .ok (.ireturn, 1) := by decide +kernel
theorem dRu_happen_0 : decode zbRu_happen 0 = .ok (.aload_n 0, 1) := by decide +kernel
theorem dRu_happen_1 : decode zbRu_happen 1 = .ok (.iconst 0, 1) := by decide +kernel
theorem dRu_happen_2 : decode zbRu_happen 2 = .ok (.putfield 19, 3) := by decide +kernel
theorem dRu_happen_5 : decode zbRu_happen 5 = .ok (.iconst 0, 1) := by decide +kernel
theorem dRu_happen_6 : decode zbRu_happen 6 = .ok (.istore 5, 2) := by decide +kernel
theorem dRu_happen_8 : decode zbRu_happen 8 = .ok (.iload 5, 2) := by decide +kernel
theorem dRu_happen_10 : decode zbRu_happen 10 = .ok (.aload_n 1, 1) := by decide +kernel
theorem dRu_happen_11 : decode zbRu_happen 11 = .ok (.getfield 23, 3) := by decide +kernel
theorem dRu_happen_14 : decode zbRu_happen 14 = .ok (.if_icmp .ge 31, 3) := by decide +kernel
theorem dRu_happen_17 : decode zbRu_happen 17 = .ok (.aload_n 1, 1) := by decide +kernel
theorem dRu_happen_18 : decode zbRu_happen 18 = .ok (.getfield 28, 3) := by decide +kernel
theorem dRu_happen_21 : decode zbRu_happen 21 = .ok (.iload 5, 2) := by decide +kernel
theorem dRu_happen_23 : decode zbRu_happen 23 = .ok (.aaload, 1) := by decide +kernel
theorem dRu_happen_24 : decode zbRu_happen 24 = .ok (.iload_n 3, 1) := by decide +kernel
theorem dRu_happen_25 : decode zbRu_happen 25 = .ok (.iload 4, 2) := by decide +kernel
theorem dRu_happen_27 : decode zbRu_happen 27 = .ok (.invokevirtual 45, 3) := by decide +kernel
theorem dRu_happen_30 : decode zbRu_happen 30 = .ok (.ifCond .eq 9, 3) := by decide +kernel
theorem dRu_happen_33 : decode zbRu_happen 33 = .ok (.aload_n 0, 1) := by decide +kernel
theorem dRu_happen_34 : decode zbRu_happen 34 = .ok (.iload 5, 2) := by decide +kernel
theorem dRu_happen_36 : decode zbRu_happen 36 = .ok (.invokevirtual 37, 3) := by decide +kernel
theorem dRu_happen_39 : decode zbRu_happen 39 = .ok (.iinc 5 1, 3) := by decide +kernel
theorem dRu_happen_42 : decode zbRu_happen 42 = .ok (.goto (-34), 3) := by decide +kernel
theorem dRu_happen_45 : decode zbRu_happen 45 = .ok (.iconst 0, 1) := by decide +kernel
theorem dRu_happen_46 : decode zbRu_happen 46 = .ok (.istore 5, 2) := by decide +kernel
theorem dRu_happen_48 : decode zbRu_happen 48 = .ok (.aload_n 1, 1) := by decide +kernel
theorem dRu_happen_49 : decode zbRu_happen 49 = .ok (.aload_n 2, 1) := by decide +kernel
theorem dRu_happen_50 : decode zbRu_happen 50 = .ok (.getfield 49, 3) := by decide +kernel
theorem dRu_happen_53 : decode zbRu_happen 53 = .ok (.iload_n 3, 1) := by decide +kernel
theorem dRu_happen_54 : decode zbRu_happen 54 = .ok (.iload 4, 2) := by decide +kernel
theorem dRu_happen_56 : decode zbRu_happen 56 = .ok (.invokevirtual 55, 3) := by decide +kernel
theorem dRu_happen_59 : decode zbRu_happen 59 = .ok (.iconst (-1), 1) := by decide +kernel
theorem dRu_happen_60 : decode zbRu_happen 60 = .ok (.if_icmp .eq 46, 3) := by decide +kernel
theorem dRu_happen_63 : decode zbRu_happen 63 = .ok (.aload_n 1, 1) := by decide +kernel
theorem dRu_happen_64 : decode zbRu_happen 64 = .ok (.aload_n 2, 1) := by decide +kernel
theorem dRu_happen_65 : decode zbRu_happen 65 = .ok (.getfield 59, 3) := by decide +kernel
theorem dRu_happen_68 : decode zbRu_happen 68 = .ok (.iload_n 3, 1) := by decide +kernel
theorem dRu_happen_69 : decode zbRu_happen 69 = .ok (.iload 4, 2) := by decide +kernel
theorem dRu_happen_71 : decode zbRu_happen 71 = .ok (.invokevirtual 55, 3) := by decide +kernel
theorem dRu_happen_74 : decode zbRu_happen 74 = .ok (.istore 6, 2) := by decide +kernel
theorem dRu_happen_76 : decode zbRu_happen 76 = .ok (.iload 6, 2) := by decide +kernel
theorem dRu_happen_78 : decode zbRu_happen 78 = .ok (.iconst (-1), 1) := by decide +kernel
theorem dRu_happen_79 : decode zbRu_happen 79 = .ok (.if_icmp .ne 17, 3) := by decide +kernel
theorem dRu_happen_82 : decode zbRu_happen 82 = .ok (.aload_n 0, 1) := by decide +kernel
theorem dRu_happen_83 : decode zbRu_happen 83 = .ok (.aload_n 1, 1) := by decide +kernel
theorem dRu_happen_84 : decode zbRu_happen 84 = .ok (.aload_n 2, 1) := by decide +kernel
theorem dRu_happen_85 : decode zbRu_happen 85 = .ok (.iload_n 3, 1) := by decide +kernel
theorem dRu_happen_86 : decode zbRu_happen 86 = .ok (.iload 4, 2) := by decide +kernel
theorem dRu_happen_88 : decode zbRu_happen 88 = .ok (.invokevirtual 62, 3) := by decide +kernel
theorem dRu_happen_91 : decode zbRu_happen 91 = .ok (.istore 5, 2) := by decide +kernel
theorem dRu_happen_93 : decode zbRu_happen 93 = .ok (.goto 13, 3) := by decide +kernel
theorem dRu_happen_96 : decode zbRu_happen 96 = .ok (.aload_n 2, 1) := by decide +kernel
theorem dRu_happen_97 : decode zbRu_happen 97 = .ok (.getfield 59, 3) := by decide +kernel
theorem dRu_happen_100 : decode zbRu_happen 100 = .ok (.iload 6, 2) := by decide +kernel
theorem dRu_happen_102 : decode zbRu_happen 102 = .ok (.iconst 1, 1) := by decide +kernel
theorem dRu_happen_103 : decode zbRu_happen 103 = .ok (.invokevirtual 66, 3) := by decide +kernel
theorem dRu_happen_106 : decode zbRu_happen 106 = .ok (.aload_n 0, 1) := by decide +kernel
theorem dRu_happen_107 : decode zbRu_happen 107 = .ok (.aload_n 1, 1) := by decide +kernel
theorem dRu_happen_108 : decode zbRu_happen 108 = .ok (.aload_n 2, 1) := by decide +kernel
theorem dRu_happen_109 : decode zbRu_happen 109 = .ok (.iload_n 3, 1) := by decide +kernel
theorem dRu_happen_110 : decode zbRu_happen 110 = .ok (.iload 4, 2) := by decide +kernel
theorem dRu_happen_112 : decode zbRu_happen 112 = .ok (.invokevirtual 72, 3) := by decide +kernel
theorem dRu_happen_115 : decode zbRu_happen 115 = .ok (.aload_n 0, 1) := by decide +kernel
theorem dRu_happen_116 : decode zbRu_happen 116 = .ok (.aload_n 1, 1) := by decide +kernel
theorem dRu_happen_117 : decode zbRu_happen 117 = .ok (.aload_n 2, 1) := by decide +kernel
theorem dRu_happen_118 : decode zbRu_happen 118 = .ok (.invokevirtual 41, 3) := by decide +kernel
theorem dRu_happen_121 : decode zbRu_happen 121 = .ok (.ifCond .eq 8, 3) := by decide +kernel
theorem dRu_happen_124 : decode zbRu_happen 124 = .ok (.iload 5, 2) := by decide +kernel
theorem dRu_happen_126 : decode zbRu_happen 126 = .ok (.goto 5, 3) := by decide +kernel
theorem dRu_happen_129 : decode zbRu_happen 129 = .ok (.bipush (-2), 2) := by decide +kernel
theorem dRu_happen_131 : decode zbRu_happen 131 = .ok (.ireturn, 1) := by decide +kernel
theorem dRu_endDay_0 : decode zbRu_endDay 0 = .ok (.aload_n 0, 1) := by decide +kernel
theorem dRu_endDay_1 : decode zbRu_endDay 1 = .ok (.iconst 0, 1) := by decide +kernel
theorem dRu_endDay_2 : decode zbRu_endDay 2 = .ok (.putfield 19, 3) := by decide +kernel
theorem dRu_endDay_5 : decode zbRu_endDay 5 = .ok (.iconst 0, 1) := by decide +kernel
theorem dRu_endDay_6 : decode zbRu_endDay 6 = .ok (.istore_n 3, 1) := by decide +kernel
theorem dRu_endDay_7 : decode zbRu_endDay 7 = .ok (.iconst 0, 1) := by decide +kernel
theorem dRu_endDay_8 : decode zbRu_endDay 8 = .ok (.istore 4, 2) := by decide +kernel
theorem dRu_endDay_10 : decode zbRu_endDay 10 = .ok (.iload 4, 2) := by decide +kernel
theorem dRu_endDay_12 : decode zbRu_endDay 12 = .ok (.aload_n 1, 1) := by decide +kernel
theorem dRu_endDay_13 : decode zbRu_endDay 13 = .ok (.getfield 23, 3) := by decide +kernel
theorem dRu_endDay_16 : decode zbRu_endDay 16 = .ok (.if_icmp .ge 52, 3) := by decide +kernel
theorem dRu_endDay_19 : decode zbRu_endDay 19 = .ok (.aload_n 2, 1) := by decide +kernel
theorem dRu_endDay_20 : decode zbRu_endDay 20 = .ok (.getfield 76, 3) := by decide +kernel
theorem dRu_endDay_23 : decode zbRu_endDay 23 = .ok (.iload 4, 2) := by decide +kernel
theorem dRu_endDay_25 : decode zbRu_endDay 25 = .ok (.aload_n 2, 1) := by decide +kernel
theorem dRu_endDay_26 : decode zbRu_endDay 26 = .ok (.getfield 79, 3) := by decide +kernel
theorem dRu_endDay_29 : decode zbRu_endDay 29 = .ok (.invokevirtual 82, 3) := by decide +kernel
theorem dRu_endDay_32 : decode zbRu_endDay 32 = .ok (.istore 5, 2) := by decide +kernel
theorem dRu_endDay_34 : decode zbRu_endDay 34 = .ok (.aload_n 2, 1) := by decide +kernel
theorem dRu_endDay_35 : decode zbRu_endDay 35 = .ok (.getfield 86, 3) := by decide +kernel
theorem dRu_endDay_38 : decode zbRu_endDay 38 = .ok (.iload 4, 2) := by decide +kernel
theorem dRu_endDay_40 : decode zbRu_endDay 40 = .ok (.dup2, 1) := by decide +kernel
theorem dRu_endDay_41 : decode zbRu_endDay 41 = .ok (.iaload, 1) := by decide +kernel
theorem dRu_endDay_42 : decode zbRu_endDay 42 = .ok (.iload 5, 2) := by decide +kernel
theorem dRu_endDay_44 : decode zbRu_endDay 44 = .ok (.iadd, 1) := by decide +kernel
theorem dRu_endDay_45 : decode zbRu_endDay 45 = .ok (.iastore, 1) := by decide +kernel
theorem dRu_endDay_46 : decode zbRu_endDay 46 = .ok (.aload_n 0, 1) := by decide +kernel
theorem dRu_endDay_47 : decode zbRu_endDay 47 = .ok (.aload_n 1, 1) := by decide +kernel
theorem dRu_endDay_48 : decode zbRu_endDay 48 = .ok (.bipush 120, 2) := by decide +kernel
theorem dRu_endDay_50 : decode zbRu_endDay 50 = .ok (.iload 4, 2) := by decide +kernel
theorem dRu_endDay_52 : decode zbRu_endDay 52 = .ok (.iload 5, 2) := by decide +kernel
theorem dRu_endDay_54 : decode zbRu_endDay 54 = .ok (.invokevirtual 89, 3) := by decide +kernel
theorem dRu_endDay_57 : decode zbRu_endDay 57 = .ok (.iload_n 3, 1) := by decide +kernel
theorem dRu_endDay_58 : decode zbRu_endDay 58 = .ok (.iload 5, 2) := by decide +kernel
theorem dRu_endDay_60 : decode zbRu_endDay 60 = .ok (.iadd, 1) := by decide +kernel
theorem dRu_endDay_61 : decode zbRu_endDay 61 = .ok (.istore_n 3, 1) := by decide +kernel
theorem dRu_endDay_62 : decode zbRu_endDay 62 = .ok (.iinc 4 1, 3) := by decide +kernel
theorem dRu_endDay_65 : decode zbRu_endDay 65 = .ok (.goto (-55), 3) := by decide +kernel
theorem dRu_endDay_68 : decode zbRu_endDay 68 = .ok (.aload_n 2, 1) := by decide +kernel
theorem dRu_endDay_69 : decode zbRu_endDay 69 = .ok (.getfield 76, 3) := by decide +kernel
theorem dRu_endDay_72 : decode zbRu_endDay 72 = .ok (.aload_n 2, 1) := by decide +kernel
theorem dRu_endDay_73 : decode zbRu_endDay 73 = .ok (.getfield 79, 3) := by decide +kernel
theorem dRu_endDay_76 : decode zbRu_endDay 76 = .ok (.iconst 1, 1) := by decide +kernel
theorem dRu_endDay_77 : decode zbRu_endDay 77 = .ok (.iadd, 1) := by decide +kernel
theorem dRu_endDay_78 : decode zbRu_endDay 78 = .ok (.invokevirtual 93, 3) := by decide +kernel
theorem dRu_endDay_81 : decode zbRu_endDay 81 = .ok (.aload_n 0, 1) := by decide +kernel
theorem dRu_endDay_82 : decode zbRu_endDay 82 = .ok (.aload_n 1, 1) := by decide +kernel
theorem dRu_endDay_83 : decode zbRu_endDay 83 = .ok (.aload_n 2, 1) := by decide +kernel
theorem dRu_endDay_84 : decode zbRu_endDay 84 = .ok (.invokevirtual 41, 3) := by decide +kernel
theorem dRu_endDay_87 : decode zbRu_endDay 87 = .ok (.ifCond .ne 6, 3) := by decide +kernel
theorem dRu_endDay_90 : decode zbRu_endDay 90 = .ok (.bipush (-2), 2) := by decide +kernel
theorem dRu_endDay_92 : decode zbRu_endDay 92 = .ok (.ireturn, 1) := by decide +kernel
theorem dRu_endDay_93 : decode zbRu_endDay 93 = .ok (.aload_n 2, 1) := by decide +kernel
theorem dRu_endDay_94 : decode zbRu_endDay 94 = .ok (.dup, 1) := by decide +kernel
theorem dRu_endDay_95 : decode zbRu_endDay 95 = .ok (.getfield 79, 3) := by decide +kernel
theorem dRu_endDay_98 : decode zbRu_endDay 98 = .ok (.iconst 1, 1) := by decide +kernel
theorem dRu_endDay_99 : decode zbRu_endDay 99 = .ok (.iadd, 1) := by decide +kernel
theorem dRu_endDay_100 : decode zbRu_endDay 100 = .ok (.putfield 79, 3) := by decide +kernel
theorem dRu_endDay_103 : decode zbRu_endDay 103 = .ok (.aload_n 2, 1) := by decide +kernel
theorem dRu_endDay_104 : decode zbRu_endDay 104 = .ok (.getfield 49, 3) := by decide +kernel
theorem dRu_endDay_107 : decode zbRu_endDay 107 = .ok (.aload_n 2, 1) := by decide +kernel
theorem dRu_endDay_108 : decode zbRu_endDay 108 = .ok (.getfield 79, 3) := by decide +kernel
theorem dRu_endDay_111 : decode zbRu_endDay 111 = .ok (.invokevirtual 93, 3) := by decide +kernel
theorem dRu_endDay_114 : decode zbRu_endDay 114 = .ok (.aload_n 2, 1) := by decide +kernel
theorem dRu_endDay_115 : decode zbRu_endDay 115 = .ok (.getfield 59, 3) := by decide +kernel
theorem dRu_endDay_118 : decode zbRu_endDay 118 = .ok (.aload_n 2, 1) := by decide +kernel
theorem dRu_endDay_119 : decode zbRu_endDay 119 = .ok (.getfield 79, 3) := by decide +kernel
theorem dRu_endDay_122 : decode zbRu_endDay 122 = .ok (.invokevirtual 93, 3) := by decide +kernel
theorem dRu_endDay_125 : decode zbRu_endDay 125 = .ok (.iload_n 3, 1) := by decide +kernel
theorem dRu_endDay_126 : decode zbRu_endDay 126 = .ok (.ireturn, 1) := by decide +kernel
theorem dRu_breachBans_0 : decode zbRu_breachBans 0 = .ok (.iconst 0, 1) := by decide +kernel
theorem dRu_breachBans_1 : decode zbRu_breachBans 1 = .ok (.istore 5, 2) := by decide +kernel
theorem dRu_breachBans_3 : decode zbRu_breachBans 3 = .ok (.iconst 0, 1) := by decide +kernel
theorem dRu_breachBans_4 : decode zbRu_breachBans 4 = .ok (.istore 6, 2) := by decide +kernel
theorem dRu_breachBans_6 : decode zbRu_breachBans 6 = .ok (.iload 6, 2) := by decide +kernel
theorem dRu_breachBans_8 : decode zbRu_breachBans 8 = .ok (.aload_n 1, 1) := by decide +kernel
theorem dRu_breachBans_9 : decode zbRu_breachBans 9 = .ok (.getfield 23, 3) := by decide +kernel
theorem dRu_breachBans_12 : decode zbRu_breachBans 12 = .ok (.if_icmp .ge 68, 3) := by decide +kernel
theorem dRu_breachBans_15 : decode zbRu_breachBans 15 = .ok (.aload_n 1, 1) := by decide +kernel
theorem dRu_breachBans_16 : decode zbRu_breachBans 16 = .ok (.getfield 28, 3) := by decide +kernel
theorem dRu_breachBans_19 : decode zbRu_breachBans 19 = .ok (.iload 6, 2) := by decide +kernel
theorem dRu_breachBans_21 : decode zbRu_breachBans 21 = .ok (.aaload, 1) := by decide +kernel
theorem dRu_breachBans_22 : decode zbRu_breachBans 22 = .ok (.iload_n 3, 1) := by decide +kernel
theorem dRu_breachBans_23 : decode zbRu_breachBans 23 = .ok (.iload 4, 2) := by decide +kernel
theorem dRu_breachBans_25 : decode zbRu_breachBans 25 = .ok (.invokevirtual 96, 3) := by decide +kernel
theorem dRu_breachBans_28 : decode zbRu_breachBans 28 = .ok (.ifCond .eq 46, 3) := by decide +kernel
theorem dRu_breachBans_31 : decode zbRu_breachBans 31 = .ok (.aload_n 2, 1) := by decide +kernel
theorem dRu_breachBans_32 : decode zbRu_breachBans 32 = .ok (.getfield 49, 3) := by decide +kernel
theorem dRu_breachBans_35 : decode zbRu_breachBans 35 = .ok (.iload 6, 2) := by decide +kernel
theorem dRu_breachBans_37 : decode zbRu_breachBans 37 = .ok (.bipush 69, 2) := by decide +kernel
theorem dRu_breachBans_39 : decode zbRu_breachBans 39 = .ok (.invokevirtual 82, 3) := by decide +kernel
theorem dRu_breachBans_42 : decode zbRu_breachBans 42 = .ok (.istore 7, 2) := by decide +kernel
theorem dRu_breachBans_44 : decode zbRu_breachBans 44 = .ok (.aload_n 2, 1) := by decide +kernel
theorem dRu_breachBans_45 : decode zbRu_breachBans 45 = .ok (.getfield 86, 3) := by decide +kernel
theorem dRu_breachBans_48 : decode zbRu_breachBans 48 = .ok (.iload 6, 2) := by decide +kernel
theorem dRu_breachBans_50 : decode zbRu_breachBans 50 = .ok (.dup2, 1) := by decide +kernel
theorem dRu_breachBans_51 : decode zbRu_breachBans 51 = .ok (.iaload, 1) := by decide +kernel
theorem dRu_breachBans_52 : decode zbRu_breachBans 52 = .ok (.iload 7, 2) := by decide +kernel
theorem dRu_breachBans_54 : decode zbRu_breachBans 54 = .ok (.iadd, 1) := by decide +kernel
theorem dRu_breachBans_55 : decode zbRu_breachBans 55 = .ok (.iastore, 1) := by decide +kernel
theorem dRu_breachBans_56 : decode zbRu_breachBans 56 = .ok (.aload_n 0, 1) := by decide +kernel
theorem dRu_breachBans_57 : decode zbRu_breachBans 57 = .ok (.aload_n 1, 1) := by decide +kernel
theorem dRu_breachBans_58 : decode zbRu_breachBans 58 = .ok (.bipush 120, 2) := by decide +kernel
theorem dRu_breachBans_60 : decode zbRu_breachBans 60 = .ok (.iload 6, 2) := by decide +kernel
theorem dRu_breachBans_62 : decode zbRu_breachBans 62 = .ok (.iload 7, 2) := by decide +kernel
theorem dRu_breachBans_64 : decode zbRu_breachBans 64 = .ok (.invokevirtual 89, 3) := by decide +kernel
theorem dRu_breachBans_67 : decode zbRu_breachBans 67 = .ok (.iload 5, 2) := by decide +kernel
theorem dRu_breachBans_69 : decode zbRu_breachBans 69 = .ok (.iload 7, 2) := by decide +kernel
theorem dRu_breachBans_71 : decode zbRu_breachBans 71 = .ok (.iadd, 1) := by decide +kernel
theorem dRu_breachBans_72 : decode zbRu_breachBans 72 = .ok (.istore 5, 2) := by decide +kernel
theorem dRu_breachBans_74 : decode zbRu_breachBans 74 = .ok (.iinc 6 1, 3) := by decide +kernel
theorem dRu_breachBans_77 : decode zbRu_breachBans 77 = .ok (.goto (-71), 3) := by decide +kernel
theorem dRu_breachBans_80 : decode zbRu_breachBans 80 = .ok (.iload 5, 2) := by decide +kernel
theorem dRu_breachBans_82 : decode zbRu_breachBans 82 = .ok (.ireturn, 1) := by decide +kernel
theorem dRu_fulfilDuty_0 : decode zbRu_fulfilDuty 0 = .ok (.aload_n 1, 1) := by decide +kernel
theorem dRu_fulfilDuty_1 : decode zbRu_fulfilDuty 1 = .ok (.aload_n 2, 1) := by decide +kernel
theorem dRu_fulfilDuty_2 : decode zbRu_fulfilDuty 2 = .ok (.getfield 76, 3) := by decide +kernel
theorem dRu_fulfilDuty_5 : decode zbRu_fulfilDuty 5 = .ok (.iload_n 3, 1) := by decide +kernel
theorem dRu_fulfilDuty_6 : decode zbRu_fulfilDuty 6 = .ok (.iload 4, 2) := by decide +kernel
theorem dRu_fulfilDuty_8 : decode zbRu_fulfilDuty 8 = .ok (.invokevirtual 55, 3) := by decide +kernel
theorem dRu_fulfilDuty_11 : decode zbRu_fulfilDuty 11 = .ok (.istore 5, 2) := by decide +kernel
theorem dRu_fulfilDuty_13 : decode zbRu_fulfilDuty 13 = .ok (.iload 5, 2) := by decide +kernel
theorem dRu_fulfilDuty_15 : decode zbRu_fulfilDuty 15 = .ok (.iconst (-1), 1) := by decide +kernel
theorem dRu_fulfilDuty_16 : decode zbRu_fulfilDuty 16 = .ok (.if_icmp .eq 30, 3) := by decide +kernel
theorem dRu_fulfilDuty_19 : decode zbRu_fulfilDuty 19 = .ok (.aload_n 0, 1) := by decide +kernel
theorem dRu_fulfilDuty_20 : decode zbRu_fulfilDuty 20 = .ok (.aload_n 1, 1) := by decide +kernel
theorem dRu_fulfilDuty_21 : decode zbRu_fulfilDuty 21 = .ok (.bipush 102, 2) := by decide +kernel
theorem dRu_fulfilDuty_23 : decode zbRu_fulfilDuty 23 = .ok (.aload_n 2, 1) := by decide +kernel
theorem dRu_fulfilDuty_24 : decode zbRu_fulfilDuty 24 = .ok (.getfield 76, 3) := by decide +kernel
theorem dRu_fulfilDuty_27 : decode zbRu_fulfilDuty 27 = .ok (.iload 5, 2) := by decide +kernel
theorem dRu_fulfilDuty_29 : decode zbRu_fulfilDuty 29 = .ok (.invokevirtual 99, 3) := by decide +kernel
theorem dRu_fulfilDuty_32 : decode zbRu_fulfilDuty 32 = .ok (.iconst 1, 1) := by decide +kernel
theorem dRu_fulfilDuty_33 : decode zbRu_fulfilDuty 33 = .ok (.invokevirtual 89, 3) := by decide +kernel
theorem dRu_fulfilDuty_36 : decode zbRu_fulfilDuty 36 = .ok (.aload_n 2, 1) := by decide +kernel
theorem dRu_fulfilDuty_37 : decode zbRu_fulfilDuty 37 = .ok (.getfield 76, 3) := by decide +kernel
theorem dRu_fulfilDuty_40 : decode zbRu_fulfilDuty 40 = .ok (.iload 5, 2) := by decide +kernel
theorem dRu_fulfilDuty_42 : decode zbRu_fulfilDuty 42 = .ok (.iconst 1, 1) := by decide +kernel
theorem dRu_fulfilDuty_43 : decode zbRu_fulfilDuty 43 = .ok (.invokevirtual 66, 3) := by decide +kernel
theorem dRu_fulfilDuty_46 : decode zbRu_fulfilDuty 46 = .ok (.return_, 1) := by decide +kernel
theorem dRu_awaitAllOn_0 : decode zbRu_awaitAllOn 0 = .ok (.iconst 0, 1) := by decide +kernel
theorem dRu_awaitAllOn_1 : decode zbRu_awaitAllOn 1 = .ok (.istore 5, 2) := by decide +kernel
theorem dRu_awaitAllOn_3 : decode zbRu_awaitAllOn 3 = .ok (.iload 5, 2) := by decide +kernel
theorem dRu_awaitAllOn_5 : decode zbRu_awaitAllOn 5 = .ok (.iload 4, 2) := by decide +kernel
theorem dRu_awaitAllOn_7 : decode zbRu_awaitAllOn 7 = .ok (.if_icmp .ge 48, 3) := by decide +kernel
theorem dRu_awaitAllOn_10 : decode zbRu_awaitAllOn 10 = .ok (.iconst 0, 1) := by decide +kernel
theorem dRu_awaitAllOn_11 : decode zbRu_awaitAllOn 11 = .ok (.istore 6, 2) := by decide +kernel
theorem dRu_awaitAllOn_13 : decode zbRu_awaitAllOn 13 = .ok (.iload 6, 2) := by decide +kernel
theorem dRu_awaitAllOn_15 : decode zbRu_awaitAllOn 15 = .ok (.aload_n 1, 1) := by decide +kernel
theorem dRu_awaitAllOn_16 : decode zbRu_awaitAllOn 16 = .ok (.getfield 23, 3) := by decide +kernel
theorem dRu_awaitAllOn_19 : decode zbRu_awaitAllOn 19 = .ok (.if_icmp .ge 30, 3) := by decide +kernel
theorem dRu_awaitAllOn_22 : decode zbRu_awaitAllOn 22 = .ok (.aload_n 1, 1) := by decide +kernel
theorem dRu_awaitAllOn_23 : decode zbRu_awaitAllOn 23 = .ok (.getfield 28, 3) := by decide +kernel
theorem dRu_awaitAllOn_26 : decode zbRu_awaitAllOn 26 = .ok (.iload 6, 2) := by decide +kernel
theorem dRu_awaitAllOn_28 : decode zbRu_awaitAllOn 28 = .ok (.aaload, 1) := by decide +kernel
theorem dRu_awaitAllOn_29 : decode zbRu_awaitAllOn 29 = .ok (.iload_n 2, 1) := by decide +kernel
theorem dRu_awaitAllOn_30 : decode zbRu_awaitAllOn 30 = .ok (.iload_n 3, 1) := by decide +kernel
theorem dRu_awaitAllOn_31 : decode zbRu_awaitAllOn 31 = .ok (.invokevirtual 103, 3) := by decide +kernel
theorem dRu_awaitAllOn_34 : decode zbRu_awaitAllOn 34 = .ok (.ifCond .eq 9, 3) := by decide +kernel
theorem dRu_awaitAllOn_37 : decode zbRu_awaitAllOn 37 = .ok (.aload_n 0, 1) := by decide +kernel
theorem dRu_awaitAllOn_38 : decode zbRu_awaitAllOn 38 = .ok (.iload 6, 2) := by decide +kernel
theorem dRu_awaitAllOn_40 : decode zbRu_awaitAllOn 40 = .ok (.invokevirtual 37, 3) := by decide +kernel
theorem dRu_awaitAllOn_43 : decode zbRu_awaitAllOn 43 = .ok (.iinc 6 1, 3) := by decide +kernel
theorem dRu_awaitAllOn_46 : decode zbRu_awaitAllOn 46 = .ok (.goto (-33), 3) := by decide +kernel
theorem dRu_awaitAllOn_49 : decode zbRu_awaitAllOn 49 = .ok (.iinc 5 1, 3) := by decide +kernel
theorem dRu_awaitAllOn_52 : decode zbRu_awaitAllOn 52 = .ok (.goto (-49), 3) := by decide +kernel
theorem dRu_awaitAllOn_55 : decode zbRu_awaitAllOn 55 = .ok (.return_, 1) := by decide +kernel
theorem dRu_await_0 : decode zbRu_await 0 = .ok (.aload_n 0, 1) := by decide +kernel
theorem dRu_await_1 : decode zbRu_await 1 = .ok (.getfield 19, 3) := by decide +kernel
theorem dRu_await_4 : decode zbRu_await 4 = .ok (.sipush 800, 3) := by decide +kernel
theorem dRu_await_7 : decode zbRu_await 7 = .ok (.if_icmp .ge 23, 3) := by decide +kernel
theorem dRu_await_10 : decode zbRu_await 10 = .ok (.aload_n 0, 1) := by decide +kernel
theorem dRu_await_11 : decode zbRu_await 11 = .ok (.getfield 15, 3) := by decide +kernel
theorem dRu_await_14 : decode zbRu_await 14 = .ok (.aload_n 0, 1) := by decide +kernel
theorem dRu_await_15 : decode zbRu_await 15 = .ok (.getfield 19, 3) := by decide +kernel
theorem dRu_await_18 : decode zbRu_await 18 = .ok (.iload_n 1, 1) := by decide +kernel
theorem dRu_await_19 : decode zbRu_await 19 = .ok (.iastore, 1) := by decide +kernel
theorem dRu_await_20 : decode zbRu_await 20 = .ok (.aload_n 0, 1) := by decide +kernel
theorem dRu_await_21 : decode zbRu_await 21 = .ok (.dup, 1) := by decide +kernel
theorem dRu_await_22 : decode zbRu_await 22 = .ok (.getfield 19, 3) := by decide +kernel
theorem dRu_await_25 : decode zbRu_await 25 = .ok (.iconst 1, 1) := by decide +kernel
theorem dRu_await_26 : decode zbRu_await 26 = .ok (.iadd, 1) := by decide +kernel
theorem dRu_await_27 : decode zbRu_await 27 = .ok (.putfield 19, 3) := by decide +kernel
theorem dRu_await_30 : decode zbRu_await 30 = .ok (.return_, 1) := by decide +kernel
theorem dRu_runWaiting_0 : decode zbRu_runWaiting 0 = .ok (.iconst 0, 1) := by decide +kernel
theorem dRu_runWaiting_1 : decode zbRu_runWaiting 1 = .ok (.istore_n 3, 1) := by decide +kernel
theorem dRu_runWaiting_2 : decode zbRu_runWaiting 2 = .ok (.iload_n 3, 1) := by decide +kernel
theorem dRu_runWaiting_3 : decode zbRu_runWaiting 3 = .ok (.aload_n 0, 1) := by decide +kernel
theorem dRu_runWaiting_4 : decode zbRu_runWaiting 4 = .ok (.getfield 19, 3) := by decide +kernel
theorem dRu_runWaiting_7 : decode zbRu_runWaiting 7 = .ok (.if_icmp .ge 56, 3) := by decide +kernel
theorem dRu_runWaiting_10 : decode zbRu_runWaiting 10 = .ok (.iload_n 3, 1) := by decide +kernel
theorem dRu_runWaiting_11 : decode zbRu_runWaiting 11 = .ok (.sipush 800, 3) := by decide +kernel
theorem dRu_runWaiting_14 : decode zbRu_runWaiting 14 = .ok (.if_icmp .ge 49, 3) := by decide +kernel
theorem dRu_runWaiting_17 : decode zbRu_runWaiting 17 = .ok (.aload_n 1, 1) := by decide +kernel
theorem dRu_runWaiting_18 : decode zbRu_runWaiting 18 = .ok (.getfield 28, 3) := by decide +kernel
theorem dRu_runWaiting_21 : decode zbRu_runWaiting 21 = .ok (.aload_n 0, 1) := by decide +kernel
theorem dRu_runWaiting_22 : decode zbRu_runWaiting 22 = .ok (.getfield 15, 3) := by decide +kernel
theorem dRu_runWaiting_25 : decode zbRu_runWaiting 25 = .ok (.iload_n 3, 1) := by decide +kernel
theorem dRu_runWaiting_26 : decode zbRu_runWaiting 26 = .ok (.iaload, 1) := by decide +kernel
theorem dRu_runWaiting_27 : decode zbRu_runWaiting 27 = .ok (.aaload, 1) := by decide +kernel
theorem dRu_runWaiting_28 : decode zbRu_runWaiting 28 = .ok (.astore 4, 2) := by decide +kernel
theorem dRu_runWaiting_30 : decode zbRu_runWaiting 30 = .ok (.aload 4, 2) := by decide +kernel
theorem dRu_runWaiting_32 : decode zbRu_runWaiting 32 = .ok (.aload_n 2, 1) := by decide +kernel
theorem dRu_runWaiting_33 : decode zbRu_runWaiting 33 = .ok (.invokevirtual 106, 3) := by decide +kernel
theorem dRu_runWaiting_36 : decode zbRu_runWaiting 36 = .ok (.ifCond .eq 21, 3) := by decide +kernel
theorem dRu_runWaiting_39 : decode zbRu_runWaiting 39 = .ok (.aload_n 0, 1) := by decide +kernel
theorem dRu_runWaiting_40 : decode zbRu_runWaiting 40 = .ok (.aload 4, 2) := by decide +kernel
theorem dRu_runWaiting_42 : decode zbRu_runWaiting 42 = .ok (.aload_n 0, 1) := by decide +kernel
theorem dRu_runWaiting_43 : decode zbRu_runWaiting 43 = .ok (.getfield 15, 3) := by decide +kernel
theorem dRu_runWaiting_46 : decode zbRu_runWaiting 46 = .ok (.iload_n 3, 1) := by decide +kernel
theorem dRu_runWaiting_47 : decode zbRu_runWaiting 47 = .ok (.iaload, 1) := by decide +kernel
theorem dRu_runWaiting_48 : decode zbRu_runWaiting 48 = .ok (.aload_n 2, 1) := by decide +kernel
theorem dRu_runWaiting_49 : decode zbRu_runWaiting 49 = .ok (.invokevirtual 110, 3) := by decide +kernel
theorem dRu_runWaiting_52 : decode zbRu_runWaiting 52 = .ok (.ifCond .ne 5, 3) := by decide +kernel
theorem dRu_runWaiting_55 : decode zbRu_runWaiting 55 = .ok (.iconst 0, 1) := by decide +kernel
theorem dRu_runWaiting_56 : decode zbRu_runWaiting 56 = .ok (.ireturn, 1) := by decide +kernel
theorem dRu_runWaiting_57 : decode zbRu_runWaiting 57 = .ok (.iinc 3 1, 3) := by decide +kernel
theorem dRu_runWaiting_60 : decode zbRu_runWaiting 60 = .ok (.goto (-58), 3) := by decide +kernel
theorem dRu_runWaiting_63 : decode zbRu_runWaiting 63 = .ok (.iconst 1, 1) := by decide +kernel
theorem dRu_runWaiting_64 : decode zbRu_runWaiting 64 = .ok (.ireturn, 1) := by decide +kernel
theorem dRu_act_0 : decode zbRu_act 0 = .ok (.aload_n 1, 1) := by decide +kernel
theorem dRu_act_1 : decode zbRu_act 1 = .ok (.getfield 114, 3) := by decide +kernel
theorem dRu_act_4 : decode zbRu_act 4 = .ok (.lookupswitch 118 #[(33, 44), (36, 101), (63, 83), (126, 65)], 44) := by decide +kernel
theorem dRu_act_48 : decode zbRu_act 48 = .ok (.aload_n 3, 1) := by decide +kernel
theorem dRu_act_49 : decode zbRu_act 49 = .ok (.getfield 76, 3) := by decide +kernel
theorem dRu_act_52 : decode zbRu_act 52 = .ok (.iload_n 2, 1) := by decide +kernel
theorem dRu_act_53 : decode zbRu_act 53 = .ok (.aload_n 0, 1) := by decide +kernel
theorem dRu_act_54 : decode zbRu_act 54 = .ok (.aload_n 3, 1) := by decide +kernel
theorem dRu_act_55 : decode zbRu_act 55 = .ok (.getfield 79, 3) := by decide +kernel
theorem dRu_act_58 : decode zbRu_act 58 = .ok (.aload_n 1, 1) := by decide +kernel
theorem dRu_act_59 : decode zbRu_act 59 = .ok (.getfield 117, 3) := by decide +kernel
theorem dRu_act_62 : decode zbRu_act 62 = .ok (.invokevirtual 120, 3) := by decide +kernel
theorem dRu_act_65 : decode zbRu_act 65 = .ok (.invokevirtual 123, 3) := by decide +kernel
theorem dRu_act_68 : decode zbRu_act 68 = .ok (.ireturn, 1) := by decide +kernel
theorem dRu_act_69 : decode zbRu_act 69 = .ok (.aload_n 3, 1) := by decide +kernel
theorem dRu_act_70 : decode zbRu_act 70 = .ok (.getfield 49, 3) := by decide +kernel
theorem dRu_act_73 : decode zbRu_act 73 = .ok (.iload_n 2, 1) := by decide +kernel
theorem dRu_act_74 : decode zbRu_act 74 = .ok (.aload_n 3, 1) := by decide +kernel
theorem dRu_act_75 : decode zbRu_act 75 = .ok (.getfield 79, 3) := by decide +kernel
theorem dRu_act_78 : decode zbRu_act 78 = .ok (.aload_n 1, 1) := by decide +kernel
theorem dRu_act_79 : decode zbRu_act 79 = .ok (.getfield 117, 3) := by decide +kernel
theorem dRu_act_82 : decode zbRu_act 82 = .ok (.iadd, 1) := by decide +kernel
theorem dRu_act_83 : decode zbRu_act 83 = .ok (.invokevirtual 123, 3) := by decide +kernel
theorem dRu_act_86 : decode zbRu_act 86 = .ok (.ireturn, 1) := by decide +kernel
theorem dRu_act_87 : decode zbRu_act 87 = .ok (.aload_n 3, 1) := by decide +kernel
theorem dRu_act_88 : decode zbRu_act 88 = .ok (.getfield 59, 3) := by decide +kernel
theorem dRu_act_91 : decode zbRu_act 91 = .ok (.iload_n 2, 1) := by decide +kernel
theorem dRu_act_92 : decode zbRu_act 92 = .ok (.aload_n 3, 1) := by decide +kernel
theorem dRu_act_93 : decode zbRu_act 93 = .ok (.getfield 79, 3) := by decide +kernel
theorem dRu_act_96 : decode zbRu_act 96 = .ok (.aload_n 1, 1) := by decide +kernel
theorem dRu_act_97 : decode zbRu_act 97 = .ok (.getfield 117, 3) := by decide +kernel
theorem dRu_act_100 : decode zbRu_act 100 = .ok (.iadd, 1) := by decide +kernel
theorem dRu_act_101 : decode zbRu_act 101 = .ok (.invokevirtual 123, 3) := by decide +kernel
theorem dRu_act_104 : decode zbRu_act 104 = .ok (.ireturn, 1) := by decide +kernel
theorem dRu_act_105 : decode zbRu_act 105 = .ok (.aload_n 3, 1) := by decide +kernel
theorem dRu_act_106 : decode zbRu_act 106 = .ok (.aload_n 1, 1) := by decide +kernel
theorem dRu_act_107 : decode zbRu_act 107 = .ok (.getfield 126, 3) := by decide +kernel
theorem dRu_act_110 : decode zbRu_act 110 = .ok (.aload_n 1, 1) := by decide +kernel
theorem dRu_act_111 : decode zbRu_act 111 = .ok (.getfield 129, 3) := by decide +kernel
theorem dRu_act_114 : decode zbRu_act 114 = .ok (.aload_n 1, 1) := by decide +kernel
theorem dRu_act_115 : decode zbRu_act 115 = .ok (.getfield 117, 3) := by decide +kernel
theorem dRu_act_118 : decode zbRu_act 118 = .ok (.invokevirtual 132, 3) := by decide +kernel
theorem dRu_act_121 : decode zbRu_act 121 = .ok (.ireturn, 1) := by decide +kernel
theorem dRu_act_122 : decode zbRu_act 122 = .ok (.aload_n 0, 1) := by decide +kernel
theorem dRu_act_123 : decode zbRu_act 123 = .ok (.aload_n 1, 1) := by decide +kernel
theorem dRu_act_124 : decode zbRu_act 124 = .ok (.getfield 117, 3) := by decide +kernel
theorem dRu_act_127 : decode zbRu_act 127 = .ok (.invokevirtual 37, 3) := by decide +kernel
theorem dRu_act_130 : decode zbRu_act 130 = .ok (.iconst 1, 1) := by decide +kernel
theorem dRu_act_131 : decode zbRu_act 131 = .ok (.ireturn, 1) := by decide +kernel
theorem dRu_businessDay_0 : decode zbRu_businessDay 0 = .ok (.iload_n 2, 1) := by decide +kernel
theorem dRu_businessDay_1 : decode zbRu_businessDay 1 = .ok (.istore_n 3, 1) := by decide +kernel
theorem dRu_businessDay_2 : decode zbRu_businessDay 2 = .ok (.iload_n 1, 1) := by decide +kernel
theorem dRu_businessDay_3 : decode zbRu_businessDay 3 = .ok (.istore 4, 2) := by decide +kernel
theorem dRu_businessDay_5 : decode zbRu_businessDay 5 = .ok (.iload_n 3, 1) := by decide +kernel
theorem dRu_businessDay_6 : decode zbRu_businessDay 6 = .ok (.ifCond .le 36, 3) := by decide +kernel
theorem dRu_businessDay_9 : decode zbRu_businessDay 9 = .ok (.iload 4, 2) := by decide +kernel
theorem dRu_businessDay_11 : decode zbRu_businessDay 11 = .ok (.bipush 69, 2) := by decide +kernel
theorem dRu_businessDay_13 : decode zbRu_businessDay 13 = .ok (.if_icmp .ge 29, 3) := by decide +kernel
theorem dRu_businessDay_16 : decode zbRu_businessDay 16 = .ok (.iinc 4 1, 3) := by decide +kernel
theorem dRu_businessDay_19 : decode zbRu_businessDay 19 = .ok (.iload 4, 2) := by decide +kernel
theorem dRu_businessDay_21 : decode zbRu_businessDay 21 = .ok (.bipush 60, 2) := by decide +kernel
theorem dRu_businessDay_23 : decode zbRu_businessDay 23 = .ok (.if_icmp .gt 13, 3) := by decide +kernel
theorem dRu_businessDay_26 : decode zbRu_businessDay 26 = .ok (.aload_n 0, 1) := by decide +kernel
theorem dRu_businessDay_27 : decode zbRu_businessDay 27 = .ok (.getfield 9, 3) := by decide +kernel
theorem dRu_businessDay_30 : decode zbRu_businessDay 30 = .ok (.iload 4, 2) := by decide +kernel
theorem dRu_businessDay_32 : decode zbRu_businessDay 32 = .ok (.baload, 1) := by decide +kernel
theorem dRu_businessDay_33 : decode zbRu_businessDay 33 = .ok (.ifCond .ne (-28), 3) := by decide +kernel
theorem dRu_businessDay_36 : decode zbRu_businessDay 36 = .ok (.iinc 3 (-1), 3) := by decide +kernel
theorem dRu_businessDay_39 : decode zbRu_businessDay 39 = .ok (.goto (-34), 3) := by decide +kernel
theorem dRu_businessDay_42 : decode zbRu_businessDay 42 = .ok (.iload 4, 2) := by decide +kernel
theorem dRu_businessDay_44 : decode zbRu_businessDay 44 = .ok (.ireturn, 1) := by decide +kernel
theorem dSe_init_0 : decode zbSe_init 0 = .ok (.aload_n 0, 1) := by decide +kernel
theorem dSe_init_1 : decode zbSe_init 1 = .ok (.invokespecial 3, 3) := by decide +kernel
theorem dSe_init_4 : decode zbSe_init 4 = .ok (.aload_n 0, 1) := by decide +kernel
theorem dSe_init_5 : decode zbSe_init 5 = .ok (.new 9, 3) := by decide +kernel
theorem dSe_init_8 : decode zbSe_init 8 = .ok (.dup, 1) := by decide +kernel
theorem dSe_init_9 : decode zbSe_init 9 = .ok (.invokespecial 11, 3) := by decide +kernel
theorem dSe_init_12 : decode zbSe_init 12 = .ok (.putfield 12, 3) := by decide +kernel
theorem dSe_init_15 : decode zbSe_init 15 = .ok (.aload_n 0, 1) := by decide +kernel
theorem dSe_init_16 : decode zbSe_init 16 = .ok (.iconst 2, 1) := by decide +kernel
theorem dSe_init_17 : decode zbSe_init 17 = .ok (.anewarray 18, 3) := by decide +kernel
theorem dSe_init_20 : decode zbSe_init 20 = .ok (.putfield 20, 3) := by decide +kernel
theorem dSe_init_23 : decode zbSe_init 23 = .ok (.aload_n 0, 1) := by decide +kernel
theorem dSe_init_24 : decode zbSe_init 24 = .ok (.iconst 2, 1) := by decide +kernel
theorem dSe_init_25 : decode zbSe_init 25 = .ok (.anewarray 18, 3) := by decide +kernel
theorem dSe_init_28 : decode zbSe_init 28 = .ok (.putfield 24, 3) := by decide +kernel
theorem dSe_init_31 : decode zbSe_init 31 = .ok (.aload_n 0, 1) := by decide +kernel
theorem dSe_init_32 : decode zbSe_init 32 = .ok (.iconst 2, 1) := by decide +kernel
theorem dSe_init_33 : decode zbSe_init 33 = .ok (.anewarray 18, 3) := by decide +kernel
theorem dSe_init_36 : decode zbSe_init 36 = .ok (.putfield 27, 3) := by decide +kernel
theorem dSe_init_39 : decode zbSe_init 39 = .ok (.iconst 0, 1) := by decide +kernel
theorem dSe_init_40 : decode zbSe_init 40 = .ok (.istore_n 1, 1) := by decide +kernel
theorem dSe_init_41 : decode zbSe_init 41 = .ok (.iload_n 1, 1) := by decide +kernel
theorem dSe_init_42 : decode zbSe_init 42 = .ok (.iconst 2, 1) := by decide +kernel
theorem dSe_init_43 : decode zbSe_init 43 = .ok (.if_icmp .ge 48, 3) := by decide +kernel
theorem dSe_init_46 : decode zbSe_init 46 = .ok (.aload_n 0, 1) := by decide +kernel
theorem dSe_init_47 : decode zbSe_init 47 = .ok (.getfield 20, 3) := by decide +kernel
theorem dSe_init_50 : decode zbSe_init 50 = .ok (.iload_n 1, 1) := by decide +kernel
theorem dSe_init_51 : decode zbSe_init 51 = .ok (.new 18, 3) := by decide +kernel
theorem dSe_init_54 : decode zbSe_init 54 = .ok (.dup, 1) := by decide +kernel
theorem dSe_init_55 : decode zbSe_init 55 = .ok (.invokespecial 30, 3) := by decide +kernel
theorem dSe_init_58 : decode zbSe_init 58 = .ok (.aastore, 1) := by decide +kernel
theorem dSe_init_59 : decode zbSe_init 59 = .ok (.aload_n 0, 1) := by decide +kernel
theorem dSe_init_60 : decode zbSe_init 60 = .ok (.getfield 24, 3) := by decide +kernel
theorem dSe_init_63 : decode zbSe_init 63 = .ok (.iload_n 1, 1) := by decide +kernel
theorem dSe_init_64 : decode zbSe_init 64 = .ok (.new 18, 3) := by decide +kernel
theorem dSe_init_67 : decode zbSe_init 67 = .ok (.dup, 1) := by decide +kernel
theorem dSe_init_68 : decode zbSe_init 68 = .ok (.invokespecial 30, 3) := by decide +kernel
theorem dSe_init_71 : decode zbSe_init 71 = .ok (.aastore, 1) := by decide +kernel
theorem dSe_init_72 : decode zbSe_init 72 = .ok (.aload_n 0, 1) := by decide +kernel
theorem dSe_init_73 : decode zbSe_init 73 = .ok (.getfield 27, 3) := by decide +kernel
theorem dSe_init_76 : decode zbSe_init 76 = .ok (.iload_n 1, 1) := by decide +kernel
theorem dSe_init_77 : decode zbSe_init 77 = .ok (.new 18, 3) := by decide +kernel
theorem dSe_init_80 : decode zbSe_init 80 = .ok (.dup, 1) := by decide +kernel
theorem dSe_init_81 : decode zbSe_init 81 = .ok (.invokespecial 30, 3) := by decide +kernel
theorem dSe_init_84 : decode zbSe_init 84 = .ok (.aastore, 1) := by decide +kernel
theorem dSe_init_85 : decode zbSe_init 85 = .ok (.iinc 1 1, 3) := by decide +kernel
theorem dSe_init_88 : decode zbSe_init 88 = .ok (.goto (-47), 3) := by decide +kernel
theorem dSe_init_91 : decode zbSe_init 91 = .ok (.return_, 1) := by decide +kernel
theorem dSe_firstCourse_0 : decode zbSe_firstCourse 0 = .ok (.iload 4, 2) := by decide +kernel
theorem dSe_firstCourse_2 : decode zbSe_firstCourse 2 = .ok (.iconst 1, 1) := by decide +kernel
theorem dSe_firstCourse_3 : decode zbSe_firstCourse 3 = .ok (.if_icmp .lt 9, 3) := by decide +kernel
theorem dSe_firstCourse_6 : decode zbSe_firstCourse 6 = .ok (.iload 4, 2) := by decide +kernel
theorem dSe_firstCourse_8 : decode zbSe_firstCourse 8 = .ok (.iconst 2, 1) := by decide +kernel
theorem dSe_firstCourse_9 : decode zbSe_firstCourse 9 = .ok (.if_icmp .le 5, 3) := by decide +kernel
theorem dSe_firstCourse_12 : decode zbSe_firstCourse 12 = .ok (.iconst (-1), 1) := by decide +kernel
theorem dSe_firstCourse_13 : decode zbSe_firstCourse 13 = .ok (.ireturn, 1) := by decide +kernel
theorem dSe_firstCourse_14 : decode zbSe_firstCourse 14 = .ok (.aload_n 0, 1) := by decide +kernel
theorem dSe_firstCourse_15 : decode zbSe_firstCourse 15 = .ok (.aload_n 1, 1) := by decide +kernel
theorem dSe_firstCourse_16 : decode zbSe_firstCourse 16 = .ok (.aload_n 2, 1) := by decide +kernel
theorem dSe_firstCourse_17 : decode zbSe_firstCourse 17 = .ok (.iload_n 3, 1) := by decide +kernel
theorem dSe_firstCourse_18 : decode zbSe_firstCourse 18 = .ok (.iload 4, 2) := by decide +kernel
theorem dSe_firstCourse_20 : decode zbSe_firstCourse 20 = .ok (.invokevirtual 31, 3) := by decide +kernel
theorem dSe_firstCourse_23 : decode zbSe_firstCourse 23 = .ok (.ifCond .eq 5, 3) := by decide +kernel
theorem dSe_firstCourse_26 : decode zbSe_firstCourse 26 = .ok (.iconst 0, 1) := by decide +kernel
theorem dSe_firstCourse_27 : decode zbSe_firstCourse 27 = .ok (.ireturn, 1) := by decide +kernel
theorem dSe_firstCourse_28 : decode zbSe_firstCourse 28 = .ok (.aload_n 0, 1) := by decide +kernel
theorem dSe_firstCourse_29 : decode zbSe_firstCourse 29 = .ok (.getfield 20, 3) := by decide +kernel
theorem dSe_firstCourse_32 : decode zbSe_firstCourse 32 = .ok (.iload 4, 2) := by decide +kernel
theorem dSe_firstCourse_34 : decode zbSe_firstCourse 34 = .ok (.iconst 1, 1) := by decide +kernel
theorem dSe_firstCourse_35 : decode zbSe_firstCourse 35 = .ok (.isub, 1) := by decide +kernel
theorem dSe_firstCourse_36 : decode zbSe_firstCourse 36 = .ok (.aaload, 1) := by decide +kernel
theorem dSe_firstCourse_37 : decode zbSe_firstCourse 37 = .ok (.astore 5, 2) := by decide +kernel
theorem dSe_firstCourse_39 : decode zbSe_firstCourse 39 = .ok (.iconst 0, 1) := by decide +kernel
theorem dSe_firstCourse_40 : decode zbSe_firstCourse 40 = .ok (.istore 6, 2) := by decide +kernel
theorem dSe_firstCourse_42 : decode zbSe_firstCourse 42 = .ok (.iload 6, 2) := by decide +kernel
theorem dSe_firstCourse_44 : decode zbSe_firstCourse 44 = .ok (.iconst 5, 1) := by decide +kernel
theorem dSe_firstCourse_45 : decode zbSe_firstCourse 45 = .ok (.if_icmp .ge 42, 3) := by decide +kernel
theorem dSe_firstCourse_48 : decode zbSe_firstCourse 48 = .ok (.aload_n 0, 1) := by decide +kernel
theorem dSe_firstCourse_49 : decode zbSe_firstCourse 49 = .ok (.aload_n 1, 1) := by decide +kernel
theorem dSe_firstCourse_50 : decode zbSe_firstCourse 50 = .ok (.aload_n 2, 1) := by decide +kernel
theorem dSe_firstCourse_51 : decode zbSe_firstCourse 51 = .ok (.aload 5, 2) := by decide +kernel
theorem dSe_firstCourse_53 : decode zbSe_firstCourse 53 = .ok (.iload_n 3, 1) := by decide +kernel
theorem dSe_firstCourse_54 : decode zbSe_firstCourse 54 = .ok (.iload 6, 2) := by decide +kernel
theorem dSe_firstCourse_56 : decode zbSe_firstCourse 56 = .ok (.invokevirtual 35, 3) := by decide +kernel
theorem dSe_firstCourse_59 : decode zbSe_firstCourse 59 = .ok (.ifCond .eq 22, 3) := by decide +kernel
theorem dSe_firstCourse_62 : decode zbSe_firstCourse 62 = .ok (.aload_n 0, 1) := by decide +kernel
theorem dSe_firstCourse_63 : decode zbSe_firstCourse 63 = .ok (.aload_n 1, 1) := by decide +kernel
theorem dSe_firstCourse_64 : decode zbSe_firstCourse 64 = .ok (.aload 5, 2) := by decide +kernel
theorem dSe_firstCourse_66 : decode zbSe_firstCourse 66 = .ok (.iload_n 3, 1) := by decide +kernel
theorem dSe_firstCourse_67 : decode zbSe_firstCourse 67 = .ok (.iload 4, 2) := by decide +kernel
theorem dSe_firstCourse_69 : decode zbSe_firstCourse 69 = .ok (.invokevirtual 31, 3) := by decide +kernel
theorem dSe_firstCourse_72 : decode zbSe_firstCourse 72 = .ok (.ifCond .eq 9, 3) := by decide +kernel
theorem dSe_firstCourse_75 : decode zbSe_firstCourse 75 = .ok (.bipush 10, 2) := by decide +kernel
theorem dSe_firstCourse_77 : decode zbSe_firstCourse 77 = .ok (.iload 6, 2) := by decide +kernel
theorem dSe_firstCourse_79 : decode zbSe_firstCourse 79 = .ok (.iadd, 1) := by decide +kernel
theorem dSe_firstCourse_80 : decode zbSe_firstCourse 80 = .ok (.ireturn, 1) := by decide +kernel
theorem dSe_firstCourse_81 : decode zbSe_firstCourse 81 = .ok (.iinc 6 1, 3) := by decide +kernel
theorem dSe_firstCourse_84 : decode zbSe_firstCourse 84 = .ok (.goto (-42), 3) := by decide +kernel
theorem dSe_firstCourse_87 : decode zbSe_firstCourse 87 = .ok (.aload_n 0, 1) := by decide +kernel
theorem dSe_firstCourse_88 : decode zbSe_firstCourse 88 = .ok (.getfield 24, 3) := by decide +kernel
theorem dSe_firstCourse_91 : decode zbSe_firstCourse 91 = .ok (.iload 4, 2) := by decide +kernel
theorem dSe_firstCourse_93 : decode zbSe_firstCourse 93 = .ok (.iconst 1, 1) := by decide +kernel
theorem dSe_firstCourse_94 : decode zbSe_firstCourse 94 = .ok (.isub, 1) := by decide +kernel
theorem dSe_firstCourse_95 : decode zbSe_firstCourse 95 = .ok (.aaload, 1) := by decide +kernel
theorem dSe_firstCourse_96 : decode zbSe_firstCourse 96 = .ok (.astore 6, 2) := by decide +kernel
theorem dSe_firstCourse_98 : decode zbSe_firstCourse 98 = .ok (.iconst 0, 1) := by decide +kernel
theorem dSe_firstCourse_99 : decode zbSe_firstCourse 99 = .ok (.istore 7, 2) := by decide +kernel
theorem dSe_firstCourse_101 : decode zbSe_firstCourse 101 = .ok (.iload 7, 2) := by decide +kernel
theorem dSe_firstCourse_103 : decode zbSe_firstCourse 103 = .ok (.iconst 5, 1) := by decide +kernel
theorem dSe_firstCourse_104 : decode zbSe_firstCourse 104 = .ok (.if_icmp .ge 81, 3) := by decide +kernel
theorem dSe_firstCourse_107 : decode zbSe_firstCourse 107 = .ok (.aload_n 0, 1) := by decide +kernel
theorem dSe_firstCourse_108 : decode zbSe_firstCourse 108 = .ok (.aload_n 1, 1) := by decide +kernel
theorem dSe_firstCourse_109 : decode zbSe_firstCourse 109 = .ok (.aload_n 2, 1) := by decide +kernel
theorem dSe_firstCourse_110 : decode zbSe_firstCourse 110 = .ok (.aload 5, 2) := by decide +kernel
theorem dSe_firstCourse_112 : decode zbSe_firstCourse 112 = .ok (.iload_n 3, 1) := by decide +kernel
theorem dSe_firstCourse_113 : decode zbSe_firstCourse 113 = .ok (.iload 7, 2) := by decide +kernel
theorem dSe_firstCourse_115 : decode zbSe_firstCourse 115 = .ok (.invokevirtual 35, 3) := by decide +kernel
theorem dSe_firstCourse_118 : decode zbSe_firstCourse 118 = .ok (.ifCond .ne 6, 3) := by decide +kernel
theorem dSe_firstCourse_121 : decode zbSe_firstCourse 121 = .ok (.goto 58, 3) := by decide +kernel
theorem dSe_firstCourse_124 : decode zbSe_firstCourse 124 = .ok (.iconst 0, 1) := by decide +kernel
theorem dSe_firstCourse_125 : decode zbSe_firstCourse 125 = .ok (.istore 8, 2) := by decide +kernel
theorem dSe_firstCourse_127 : decode zbSe_firstCourse 127 = .ok (.iload 8, 2) := by decide +kernel
theorem dSe_firstCourse_129 : decode zbSe_firstCourse 129 = .ok (.iconst 5, 1) := by decide +kernel
theorem dSe_firstCourse_130 : decode zbSe_firstCourse 130 = .ok (.if_icmp .ge 49, 3) := by decide +kernel
theorem dSe_firstCourse_133 : decode zbSe_firstCourse 133 = .ok (.aload_n 0, 1) := by decide +kernel
theorem dSe_firstCourse_134 : decode zbSe_firstCourse 134 = .ok (.aload_n 1, 1) := by decide +kernel
theorem dSe_firstCourse_135 : decode zbSe_firstCourse 135 = .ok (.aload 5, 2) := by decide +kernel
theorem dSe_firstCourse_137 : decode zbSe_firstCourse 137 = .ok (.aload 6, 2) := by decide +kernel
theorem dSe_firstCourse_139 : decode zbSe_firstCourse 139 = .ok (.iload_n 3, 1) := by decide +kernel
theorem dSe_firstCourse_140 : decode zbSe_firstCourse 140 = .ok (.iload 8, 2) := by decide +kernel
theorem dSe_firstCourse_142 : decode zbSe_firstCourse 142 = .ok (.invokevirtual 35, 3) := by decide +kernel
theorem dSe_firstCourse_145 : decode zbSe_firstCourse 145 = .ok (.ifCond .eq 28, 3) := by decide +kernel
theorem dSe_firstCourse_148 : decode zbSe_firstCourse 148 = .ok (.aload_n 0, 1) := by decide +kernel
theorem dSe_firstCourse_149 : decode zbSe_firstCourse 149 = .ok (.aload_n 1, 1) := by decide +kernel
theorem dSe_firstCourse_150 : decode zbSe_firstCourse 150 = .ok (.aload 6, 2) := by decide +kernel
