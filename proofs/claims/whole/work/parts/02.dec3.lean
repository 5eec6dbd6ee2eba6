theorem dSe_firstCourse_152 : decode zbSe_firstCourse 152 = .ok (.iload_n 3, 1) := by decide +kernel
theorem dSe_firstCourse_153 : decode zbSe_firstCourse 153 = .ok (.iload 4, 2) := by decide +kernel
theorem dSe_firstCourse_155 : decode zbSe_firstCourse 155 = .ok (.invokevirtual 31, 3) := by decide +kernel
theorem dSe_firstCourse_158 : decode zbSe_firstCourse 158 = .ok (.ifCond .eq 15, 3) := by decide +kernel
theorem dSe_firstCourse_161 : decode zbSe_firstCourse 161 = .ok (.bipush 100, 2) := by decide +kernel
theorem dSe_firstCourse_163 : decode zbSe_firstCourse 163 = .ok (.bipush 10, 2) := by decide +kernel
theorem dSe_firstCourse_165 : decode zbSe_firstCourse 165 = .ok (.iload 7, 2) := by decide +kernel
theorem dSe_firstCourse_167 : decode zbSe_firstCourse 167 = .ok (.imul, 1) := by decide +kernel
theorem dSe_firstCourse_168 : decode zbSe_firstCourse 168 = .ok (.iadd, 1) := by decide +kernel
theorem dSe_firstCourse_169 : decode zbSe_firstCourse 169 = .ok (.iload 8, 2) := by decide +kernel
theorem dSe_firstCourse_171 : decode zbSe_firstCourse 171 = .ok (.iadd, 1) := by decide +kernel
theorem dSe_firstCourse_172 : decode zbSe_firstCourse 172 = .ok (.ireturn, 1) := by decide +kernel
theorem dSe_firstCourse_173 : decode zbSe_firstCourse 173 = .ok (.iinc 8 1, 3) := by decide +kernel
theorem dSe_firstCourse_176 : decode zbSe_firstCourse 176 = .ok (.goto (-49), 3) := by decide +kernel
theorem dSe_firstCourse_179 : decode zbSe_firstCourse 179 = .ok (.iinc 7 1, 3) := by decide +kernel
theorem dSe_firstCourse_182 : decode zbSe_firstCourse 182 = .ok (.goto (-81), 3) := by decide +kernel
theorem dSe_firstCourse_185 : decode zbSe_firstCourse 185 = .ok (.iconst (-1), 1) := by decide +kernel
theorem dSe_firstCourse_186 : decode zbSe_firstCourse 186 = .ok (.ireturn, 1) := by decide +kernel
theorem dSe_isKeptByEndOfDay_0 : decode zbSe_isKeptByEndOfDay 0 = .ok (.aload_n 1, 1) := by decide +kernel
theorem dSe_isKeptByEndOfDay_1 : decode zbSe_isKeptByEndOfDay 1 = .ok (.aload_n 2, 1) := by decide +kernel
theorem dSe_isKeptByEndOfDay_2 : decode zbSe_isKeptByEndOfDay 2 = .ok (.iload_n 3, 1) := by decide +kernel
theorem dSe_isKeptByEndOfDay_3 : decode zbSe_isKeptByEndOfDay 3 = .ok (.invokevirtual 39, 3) := by decide +kernel
theorem dSe_isKeptByEndOfDay_6 : decode zbSe_isKeptByEndOfDay 6 = .ok (.ifCond .eq 5, 3) := by decide +kernel
theorem dSe_isKeptByEndOfDay_9 : decode zbSe_isKeptByEndOfDay 9 = .ok (.iconst 0, 1) := by decide +kernel
theorem dSe_isKeptByEndOfDay_10 : decode zbSe_isKeptByEndOfDay 10 = .ok (.ireturn, 1) := by decide +kernel
theorem dSe_isKeptByEndOfDay_11 : decode zbSe_isKeptByEndOfDay 11 = .ok (.aload_n 0, 1) := by decide +kernel
theorem dSe_isKeptByEndOfDay_12 : decode zbSe_isKeptByEndOfDay 12 = .ok (.getfield 27, 3) := by decide +kernel
theorem dSe_isKeptByEndOfDay_15 : decode zbSe_isKeptByEndOfDay 15 = .ok (.iload 4, 2) := by decide +kernel
theorem dSe_isKeptByEndOfDay_17 : decode zbSe_isKeptByEndOfDay 17 = .ok (.iconst 1, 1) := by decide +kernel
theorem dSe_isKeptByEndOfDay_18 : decode zbSe_isKeptByEndOfDay 18 = .ok (.isub, 1) := by decide +kernel
theorem dSe_isKeptByEndOfDay_19 : decode zbSe_isKeptByEndOfDay 19 = .ok (.aaload, 1) := by decide +kernel
theorem dSe_isKeptByEndOfDay_20 : decode zbSe_isKeptByEndOfDay 20 = .ok (.astore 5, 2) := by decide +kernel
theorem dSe_isKeptByEndOfDay_22 : decode zbSe_isKeptByEndOfDay 22 = .ok (.aload 5, 2) := by decide +kernel
theorem dSe_isKeptByEndOfDay_24 : decode zbSe_isKeptByEndOfDay 24 = .ok (.aload_n 2, 1) := by decide +kernel
theorem dSe_isKeptByEndOfDay_25 : decode zbSe_isKeptByEndOfDay 25 = .ok (.invokevirtual 45, 3) := by decide +kernel
theorem dSe_isKeptByEndOfDay_28 : decode zbSe_isKeptByEndOfDay 28 = .ok (.aload_n 0, 1) := by decide +kernel
theorem dSe_isKeptByEndOfDay_29 : decode zbSe_isKeptByEndOfDay 29 = .ok (.getfield 12, 3) := by decide +kernel
theorem dSe_isKeptByEndOfDay_32 : decode zbSe_isKeptByEndOfDay 32 = .ok (.aload_n 1, 1) := by decide +kernel
theorem dSe_isKeptByEndOfDay_33 : decode zbSe_isKeptByEndOfDay 33 = .ok (.aload 5, 2) := by decide +kernel
theorem dSe_isKeptByEndOfDay_35 : decode zbSe_isKeptByEndOfDay 35 = .ok (.invokevirtual 49, 3) := by decide +kernel
theorem dSe_isKeptByEndOfDay_38 : decode zbSe_isKeptByEndOfDay 38 = .ok (.bipush (-2), 2) := by decide +kernel
theorem dSe_isKeptByEndOfDay_40 : decode zbSe_isKeptByEndOfDay 40 = .ok (.if_icmp .ne 5, 3) := by decide +kernel
theorem dSe_isKeptByEndOfDay_43 : decode zbSe_isKeptByEndOfDay 43 = .ok (.iconst 0, 1) := by decide +kernel
theorem dSe_isKeptByEndOfDay_44 : decode zbSe_isKeptByEndOfDay 44 = .ok (.ireturn, 1) := by decide +kernel
theorem dSe_isKeptByEndOfDay_45 : decode zbSe_isKeptByEndOfDay 45 = .ok (.iload 4, 2) := by decide +kernel
theorem dSe_isKeptByEndOfDay_47 : decode zbSe_isKeptByEndOfDay 47 = .ok (.iconst 1, 1) := by decide +kernel
theorem dSe_isKeptByEndOfDay_48 : decode zbSe_isKeptByEndOfDay 48 = .ok (.if_icmp .eq 19, 3) := by decide +kernel
theorem dSe_isKeptByEndOfDay_51 : decode zbSe_isKeptByEndOfDay 51 = .ok (.aload_n 0, 1) := by decide +kernel
theorem dSe_isKeptByEndOfDay_52 : decode zbSe_isKeptByEndOfDay 52 = .ok (.aload_n 1, 1) := by decide +kernel
theorem dSe_isKeptByEndOfDay_53 : decode zbSe_isKeptByEndOfDay 53 = .ok (.aload 5, 2) := by decide +kernel
theorem dSe_isKeptByEndOfDay_55 : decode zbSe_isKeptByEndOfDay 55 = .ok (.iload_n 3, 1) := by decide +kernel
theorem dSe_isKeptByEndOfDay_56 : decode zbSe_isKeptByEndOfDay 56 = .ok (.iload 4, 2) := by decide +kernel
theorem dSe_isKeptByEndOfDay_58 : decode zbSe_isKeptByEndOfDay 58 = .ok (.iconst 1, 1) := by decide +kernel
theorem dSe_isKeptByEndOfDay_59 : decode zbSe_isKeptByEndOfDay 59 = .ok (.isub, 1) := by decide +kernel
theorem dSe_isKeptByEndOfDay_60 : decode zbSe_isKeptByEndOfDay 60 = .ok (.invokevirtual 53, 3) := by decide +kernel
theorem dSe_isKeptByEndOfDay_63 : decode zbSe_isKeptByEndOfDay 63 = .ok (.iconst (-1), 1) := by decide +kernel
theorem dSe_isKeptByEndOfDay_64 : decode zbSe_isKeptByEndOfDay 64 = .ok (.if_icmp .eq 7, 3) := by decide +kernel
theorem dSe_isKeptByEndOfDay_67 : decode zbSe_isKeptByEndOfDay 67 = .ok (.iconst 1, 1) := by decide +kernel
theorem dSe_isKeptByEndOfDay_68 : decode zbSe_isKeptByEndOfDay 68 = .ok (.goto 4, 3) := by decide +kernel
theorem dSe_isKeptByEndOfDay_71 : decode zbSe_isKeptByEndOfDay 71 = .ok (.iconst 0, 1) := by decide +kernel
theorem dSe_isKeptByEndOfDay_72 : decode zbSe_isKeptByEndOfDay 72 = .ok (.ireturn, 1) := by decide +kernel
theorem dSe_changes_0 : decode zbSe_changes 0 = .ok (.aload_n 1, 1) := by decide +kernel
theorem dSe_changes_1 : decode zbSe_changes 1 = .ok (.aload_n 2, 1) := by decide +kernel
theorem dSe_changes_2 : decode zbSe_changes 2 = .ok (.iload 4, 2) := by decide +kernel
theorem dSe_changes_4 : decode zbSe_changes 4 = .ok (.iload 5, 2) := by decide +kernel
theorem dSe_changes_6 : decode zbSe_changes 6 = .ok (.invokevirtual 57, 3) := by decide +kernel
theorem dSe_changes_9 : decode zbSe_changes 9 = .ok (.ifCond .ne 5, 3) := by decide +kernel
theorem dSe_changes_12 : decode zbSe_changes 12 = .ok (.iconst 0, 1) := by decide +kernel
theorem dSe_changes_13 : decode zbSe_changes 13 = .ok (.ireturn, 1) := by decide +kernel
theorem dSe_changes_14 : decode zbSe_changes 14 = .ok (.aload_n 3, 1) := by decide +kernel
theorem dSe_changes_15 : decode zbSe_changes 15 = .ok (.aload_n 2, 1) := by decide +kernel
theorem dSe_changes_16 : decode zbSe_changes 16 = .ok (.invokevirtual 45, 3) := by decide +kernel
theorem dSe_changes_19 : decode zbSe_changes 19 = .ok (.aload_n 0, 1) := by decide +kernel
theorem dSe_changes_20 : decode zbSe_changes 20 = .ok (.getfield 12, 3) := by decide +kernel
theorem dSe_changes_23 : decode zbSe_changes 23 = .ok (.aload_n 1, 1) := by decide +kernel
theorem dSe_changes_24 : decode zbSe_changes 24 = .ok (.aload_n 3, 1) := by decide +kernel
theorem dSe_changes_25 : decode zbSe_changes 25 = .ok (.iload 4, 2) := by decide +kernel
theorem dSe_changes_27 : decode zbSe_changes 27 = .ok (.iload 5, 2) := by decide +kernel
theorem dSe_changes_29 : decode zbSe_changes 29 = .ok (.invokevirtual 61, 3) := by decide +kernel
theorem dSe_changes_32 : decode zbSe_changes 32 = .ok (.ifCond .ne 7, 3) := by decide +kernel
theorem dSe_changes_35 : decode zbSe_changes 35 = .ok (.iconst 1, 1) := by decide +kernel
theorem dSe_changes_36 : decode zbSe_changes 36 = .ok (.goto 4, 3) := by decide +kernel
theorem dSe_changes_39 : decode zbSe_changes 39 = .ok (.iconst 0, 1) := by decide +kernel
theorem dSe_changes_40 : decode zbSe_changes 40 = .ok (.ireturn, 1) := by decide +kernel
theorem dSt_init_0 : decode zbSt_init 0 = .ok (.aload_n 0, 1) := by decide +kernel
theorem dSt_init_1 : decode zbSt_init 1 = .ok (.invokespecial 3, 3) := by decide +kernel
theorem dSt_init_4 : decode zbSt_init 4 = .ok (.aload_n 0, 1) := by decide +kernel
theorem dSt_init_5 : decode zbSt_init 5 = .ok (.iconst 0, 1) := by decide +kernel
theorem dSt_init_6 : decode zbSt_init 6 = .ok (.putfield 9, 3) := by decide +kernel
theorem dSt_init_9 : decode zbSt_init 9 = .ok (.aload_n 0, 1) := by decide +kernel
theorem dSt_init_10 : decode zbSt_init 10 = .ok (.new 15, 3) := by decide +kernel
theorem dSt_init_13 : decode zbSt_init 13 = .ok (.dup, 1) := by decide +kernel
theorem dSt_init_14 : decode zbSt_init 14 = .ok (.invokespecial 17, 3) := by decide +kernel
theorem dSt_init_17 : decode zbSt_init 17 = .ok (.putfield 18, 3) := by decide +kernel
theorem dSt_init_20 : decode zbSt_init 20 = .ok (.aload_n 0, 1) := by decide +kernel
theorem dSt_init_21 : decode zbSt_init 21 = .ok (.new 15, 3) := by decide +kernel
theorem dSt_init_24 : decode zbSt_init 24 = .ok (.dup, 1) := by decide +kernel
theorem dSt_init_25 : decode zbSt_init 25 = .ok (.invokespecial 17, 3) := by decide +kernel
theorem dSt_init_28 : decode zbSt_init 28 = .ok (.putfield 22, 3) := by decide +kernel
theorem dSt_init_31 : decode zbSt_init 31 = .ok (.aload_n 0, 1) := by decide +kernel
theorem dSt_init_32 : decode zbSt_init 32 = .ok (.new 15, 3) := by decide +kernel
theorem dSt_init_35 : decode zbSt_init 35 = .ok (.dup, 1) := by decide +kernel
theorem dSt_init_36 : decode zbSt_init 36 = .ok (.invokespecial 17, 3) := by decide +kernel
theorem dSt_init_39 : decode zbSt_init 39 = .ok (.putfield 25, 3) := by decide +kernel
theorem dSt_init_42 : decode zbSt_init 42 = .ok (.aload_n 0, 1) := by decide +kernel
theorem dSt_init_43 : decode zbSt_init 43 = .ok (.bipush 9, 2) := by decide +kernel
theorem dSt_init_45 : decode zbSt_init 45 = .ok (.newarray .int, 2) := by decide +kernel
theorem dSt_init_47 : decode zbSt_init 47 = .ok (.putfield 28, 3) := by decide +kernel
theorem dSt_init_50 : decode zbSt_init 50 = .ok (.aload_n 0, 1) := by decide +kernel
theorem dSt_init_51 : decode zbSt_init 51 = .ok (.bipush 10, 2) := by decide +kernel
theorem dSt_init_53 : decode zbSt_init 53 = .ok (.newarray .int, 2) := by decide +kernel
theorem dSt_init_55 : decode zbSt_init 55 = .ok (.putfield 32, 3) := by decide +kernel
theorem dSt_init_58 : decode zbSt_init 58 = .ok (.return_, 1) := by decide +kernel
theorem dSt_debtOf_0 : decode zbSt_debtOf 0 = .ok (.aload_n 0, 1) := by decide +kernel
theorem dSt_debtOf_1 : decode zbSt_debtOf 1 = .ok (.getfield 28, 3) := by decide +kernel
theorem dSt_debtOf_4 : decode zbSt_debtOf 4 = .ok (.iconst 3, 1) := by decide +kernel
theorem dSt_debtOf_5 : decode zbSt_debtOf 5 = .ok (.iload_n 1, 1) := by decide +kernel
theorem dSt_debtOf_6 : decode zbSt_debtOf 6 = .ok (.imul, 1) := by decide +kernel
theorem dSt_debtOf_7 : decode zbSt_debtOf 7 = .ok (.iload_n 2, 1) := by decide +kernel
theorem dSt_debtOf_8 : decode zbSt_debtOf 8 = .ok (.iadd, 1) := by decide +kernel
theorem dSt_debtOf_9 : decode zbSt_debtOf 9 = .ok (.iaload, 1) := by decide +kernel
theorem dSt_debtOf_10 : decode zbSt_debtOf 10 = .ok (.ireturn, 1) := by decide +kernel
theorem dSt_addDebt_0 : decode zbSt_addDebt 0 = .ok (.iconst 3, 1) := by decide +kernel
theorem dSt_addDebt_1 : decode zbSt_addDebt 1 = .ok (.iload_n 1, 1) := by decide +kernel
theorem dSt_addDebt_2 : decode zbSt_addDebt 2 = .ok (.imul, 1) := by decide +kernel
theorem dSt_addDebt_3 : decode zbSt_addDebt 3 = .ok (.iload_n 2, 1) := by decide +kernel
theorem dSt_addDebt_4 : decode zbSt_addDebt 4 = .ok (.iadd, 1) := by decide +kernel
theorem dSt_addDebt_5 : decode zbSt_addDebt 5 = .ok (.istore 4, 2) := by decide +kernel
theorem dSt_addDebt_7 : decode zbSt_addDebt 7 = .ok (.aload_n 0, 1) := by decide +kernel
theorem dSt_addDebt_8 : decode zbSt_addDebt 8 = .ok (.getfield 28, 3) := by decide +kernel
theorem dSt_addDebt_11 : decode zbSt_addDebt 11 = .ok (.iload 4, 2) := by decide +kernel
theorem dSt_addDebt_13 : decode zbSt_addDebt 13 = .ok (.iaload, 1) := by decide +kernel
theorem dSt_addDebt_14 : decode zbSt_addDebt 14 = .ok (.iload_n 3, 1) := by decide +kernel
theorem dSt_addDebt_15 : decode zbSt_addDebt 15 = .ok (.iadd, 1) := by decide +kernel
theorem dSt_addDebt_16 : decode zbSt_addDebt 16 = .ok (.sipush 999, 3) := by decide +kernel
theorem dSt_addDebt_19 : decode zbSt_addDebt 19 = .ok (.if_icmp .le 5, 3) := by decide +kernel
theorem dSt_addDebt_22 : decode zbSt_addDebt 22 = .ok (.iconst 0, 1) := by decide +kernel
theorem dSt_addDebt_23 : decode zbSt_addDebt 23 = .ok (.ireturn, 1) := by decide +kernel
theorem dSt_addDebt_24 : decode zbSt_addDebt 24 = .ok (.aload_n 0, 1) := by decide +kernel
theorem dSt_addDebt_25 : decode zbSt_addDebt 25 = .ok (.getfield 28, 3) := by decide +kernel
theorem dSt_addDebt_28 : decode zbSt_addDebt 28 = .ok (.iload 4, 2) := by decide +kernel
theorem dSt_addDebt_30 : decode zbSt_addDebt 30 = .ok (.dup2, 1) := by decide +kernel
theorem dSt_addDebt_31 : decode zbSt_addDebt 31 = .ok (.iaload, 1) := by decide +kernel
theorem dSt_addDebt_32 : decode zbSt_addDebt 32 = .ok (.iload_n 3, 1) := by decide +kernel
theorem dSt_addDebt_33 : decode zbSt_addDebt 33 = .ok (.iadd, 1) := by decide +kernel
theorem dSt_addDebt_34 : decode zbSt_addDebt 34 = .ok (.iastore, 1) := by decide +kernel
theorem dSt_addDebt_35 : decode zbSt_addDebt 35 = .ok (.iconst 1, 1) := by decide +kernel
theorem dSt_addDebt_36 : decode zbSt_addDebt 36 = .ok (.ireturn, 1) := by decide +kernel
theorem dSt_clear_0 : decode zbSt_clear 0 = .ok (.aload_n 0, 1) := by decide +kernel
theorem dSt_clear_1 : decode zbSt_clear 1 = .ok (.iconst 0, 1) := by decide +kernel
theorem dSt_clear_2 : decode zbSt_clear 2 = .ok (.putfield 9, 3) := by decide +kernel
theorem dSt_clear_5 : decode zbSt_clear 5 = .ok (.aload_n 0, 1) := by decide +kernel
theorem dSt_clear_6 : decode zbSt_clear 6 = .ok (.getfield 18, 3) := by decide +kernel
theorem dSt_clear_9 : decode zbSt_clear 9 = .ok (.iconst 0, 1) := by decide +kernel
theorem dSt_clear_10 : decode zbSt_clear 10 = .ok (.putfield 35, 3) := by decide +kernel
theorem dSt_clear_13 : decode zbSt_clear 13 = .ok (.aload_n 0, 1) := by decide +kernel
theorem dSt_clear_14 : decode zbSt_clear 14 = .ok (.getfield 22, 3) := by decide +kernel
theorem dSt_clear_17 : decode zbSt_clear 17 = .ok (.iconst 0, 1) := by decide +kernel
theorem dSt_clear_18 : decode zbSt_clear 18 = .ok (.putfield 35, 3) := by decide +kernel
theorem dSt_clear_21 : decode zbSt_clear 21 = .ok (.aload_n 0, 1) := by decide +kernel
theorem dSt_clear_22 : decode zbSt_clear 22 = .ok (.getfield 25, 3) := by decide +kernel
theorem dSt_clear_25 : decode zbSt_clear 25 = .ok (.iconst 0, 1) := by decide +kernel
theorem dSt_clear_26 : decode zbSt_clear 26 = .ok (.putfield 35, 3) := by decide +kernel
theorem dSt_clear_29 : decode zbSt_clear 29 = .ok (.iconst 0, 1) := by decide +kernel
theorem dSt_clear_30 : decode zbSt_clear 30 = .ok (.istore_n 1, 1) := by decide +kernel
theorem dSt_clear_31 : decode zbSt_clear 31 = .ok (.iload_n 1, 1) := by decide +kernel
theorem dSt_clear_32 : decode zbSt_clear 32 = .ok (.aload_n 0, 1) := by decide +kernel
theorem dSt_clear_33 : decode zbSt_clear 33 = .ok (.getfield 28, 3) := by decide +kernel
theorem dSt_clear_36 : decode zbSt_clear 36 = .ok (.arraylength, 1) := by decide +kernel
theorem dSt_clear_37 : decode zbSt_clear 37 = .ok (.if_icmp .ge 16, 3) := by decide +kernel
theorem dSt_clear_40 : decode zbSt_clear 40 = .ok (.aload_n 0, 1) := by decide +kernel
theorem dSt_clear_41 : decode zbSt_clear 41 = .ok (.getfield 28, 3) := by decide +kernel
theorem dSt_clear_44 : decode zbSt_clear 44 = .ok (.iload_n 1, 1) := by decide +kernel
theorem dSt_clear_45 : decode zbSt_clear 45 = .ok (.iconst 0, 1) := by decide +kernel
theorem dSt_clear_46 : decode zbSt_clear 46 = .ok (.iastore, 1) := by decide +kernel
theorem dSt_clear_47 : decode zbSt_clear 47 = .ok (.iinc 1 1, 3) := by decide +kernel
theorem dSt_clear_50 : decode zbSt_clear 50 = .ok (.goto (-19), 3) := by decide +kernel
theorem dSt_clear_53 : decode zbSt_clear 53 = .ok (.iconst 0, 1) := by decide +kernel
theorem dSt_clear_54 : decode zbSt_clear 54 = .ok (.istore_n 1, 1) := by decide +kernel
theorem dSt_clear_55 : decode zbSt_clear 55 = .ok (.iload_n 1, 1) := by decide +kernel
theorem dSt_clear_56 : decode zbSt_clear 56 = .ok (.aload_n 0, 1) := by decide +kernel
theorem dSt_clear_57 : decode zbSt_clear 57 = .ok (.getfield 32, 3) := by decide +kernel
theorem dSt_clear_60 : decode zbSt_clear 60 = .ok (.arraylength, 1) := by decide +kernel
theorem dSt_clear_61 : decode zbSt_clear 61 = .ok (.if_icmp .ge 16, 3) := by decide +kernel
theorem dSt_clear_64 : decode zbSt_clear 64 = .ok (.aload_n 0, 1) := by decide +kernel
theorem dSt_clear_65 : decode zbSt_clear 65 = .ok (.getfield 32, 3) := by decide +kernel
theorem dSt_clear_68 : decode zbSt_clear 68 = .ok (.iload_n 1, 1) := by decide +kernel
theorem dSt_clear_69 : decode zbSt_clear 69 = .ok (.iconst 0, 1) := by decide +kernel
theorem dSt_clear_70 : decode zbSt_clear 70 = .ok (.iastore, 1) := by decide +kernel
theorem dSt_clear_71 : decode zbSt_clear 71 = .ok (.iinc 1 1, 3) := by decide +kernel
theorem dSt_clear_74 : decode zbSt_clear 74 = .ok (.goto (-19), 3) := by decide +kernel
theorem dSt_clear_77 : decode zbSt_clear 77 = .ok (.return_, 1) := by decide +kernel
theorem dSt_copyFrom_0 : decode zbSt_copyFrom 0 = .ok (.aload_n 0, 1) := by decide +kernel
theorem dSt_copyFrom_1 : decode zbSt_copyFrom 1 = .ok (.aload_n 1, 1) := by decide +kernel
theorem dSt_copyFrom_2 : decode zbSt_copyFrom 2 = .ok (.getfield 9, 3) := by decide +kernel
theorem dSt_copyFrom_5 : decode zbSt_copyFrom 5 = .ok (.putfield 9, 3) := by decide +kernel
theorem dSt_copyFrom_8 : decode zbSt_copyFrom 8 = .ok (.aload_n 0, 1) := by decide +kernel
theorem dSt_copyFrom_9 : decode zbSt_copyFrom 9 = .ok (.getfield 18, 3) := by decide +kernel
theorem dSt_copyFrom_12 : decode zbSt_copyFrom 12 = .ok (.aload_n 1, 1) := by decide +kernel
theorem dSt_copyFrom_13 : decode zbSt_copyFrom 13 = .ok (.getfield 18, 3) := by decide +kernel
theorem dSt_copyFrom_16 : decode zbSt_copyFrom 16 = .ok (.invokevirtual 38, 3) := by decide +kernel
theorem dSt_copyFrom_19 : decode zbSt_copyFrom 19 = .ok (.aload_n 0, 1) := by decide +kernel
theorem dSt_copyFrom_20 : decode zbSt_copyFrom 20 = .ok (.getfield 22, 3) := by decide +kernel
theorem dSt_copyFrom_23 : decode zbSt_copyFrom 23 = .ok (.aload_n 1, 1) := by decide +kernel
theorem dSt_copyFrom_24 : decode zbSt_copyFrom 24 = .ok (.getfield 22, 3) := by decide +kernel
theorem dSt_copyFrom_27 : decode zbSt_copyFrom 27 = .ok (.invokevirtual 38, 3) := by decide +kernel
theorem dSt_copyFrom_30 : decode zbSt_copyFrom 30 = .ok (.aload_n 0, 1) := by decide +kernel
theorem dSt_copyFrom_31 : decode zbSt_copyFrom 31 = .ok (.getfield 25, 3) := by decide +kernel
theorem dSt_copyFrom_34 : decode zbSt_copyFrom 34 = .ok (.aload_n 1, 1) := by decide +kernel
theorem dSt_copyFrom_35 : decode zbSt_copyFrom 35 = .ok (.getfield 25, 3) := by decide +kernel
theorem dSt_copyFrom_38 : decode zbSt_copyFrom 38 = .ok (.invokevirtual 38, 3) := by decide +kernel
theorem dSt_copyFrom_41 : decode zbSt_copyFrom 41 = .ok (.aload_n 1, 1) := by decide +kernel
theorem dSt_copyFrom_42 : decode zbSt_copyFrom 42 = .ok (.getfield 28, 3) := by decide +kernel
theorem dSt_copyFrom_45 : decode zbSt_copyFrom 45 = .ok (.iconst 0, 1) := by decide +kernel
theorem dSt_copyFrom_46 : decode zbSt_copyFrom 46 = .ok (.aload_n 0, 1) := by decide +kernel
theorem dSt_copyFrom_47 : decode zbSt_copyFrom 47 = .ok (.getfield 28, 3) := by decide +kernel
theorem dSt_copyFrom_50 : decode zbSt_copyFrom 50 = .ok (.iconst 0, 1) := by decide +kernel
theorem dSt_copyFrom_51 : decode zbSt_copyFrom 51 = .ok (.aload_n 0, 1) := by decide +kernel
theorem dSt_copyFrom_52 : decode zbSt_copyFrom 52 = .ok (.getfield 28, 3) := by decide +kernel
theorem dSt_copyFrom_55 : decode zbSt_copyFrom 55 = .ok (.arraylength, 1) := by decide +kernel
theorem dSt_copyFrom_56 : decode zbSt_copyFrom 56 = .ok (.invokestatic 42, 3) := by decide +kernel
theorem dSt_copyFrom_59 : decode zbSt_copyFrom 59 = .ok (.aload_n 1, 1) := by decide +kernel
theorem dSt_copyFrom_60 : decode zbSt_copyFrom 60 = .ok (.getfield 32, 3) := by decide +kernel
theorem dSt_copyFrom_63 : decode zbSt_copyFrom 63 = .ok (.iconst 0, 1) := by decide +kernel
theorem dSt_copyFrom_64 : decode zbSt_copyFrom 64 = .ok (.aload_n 0, 1) := by decide +kernel
theorem dSt_copyFrom_65 : decode zbSt_copyFrom 65 = .ok (.getfield 32, 3) := by decide +kernel
theorem dSt_copyFrom_68 : decode zbSt_copyFrom 68 = .ok (.iconst 0, 1) := by decide +kernel
theorem dSt_copyFrom_69 : decode zbSt_copyFrom 69 = .ok (.aload_n 0, 1) := by decide +kernel
theorem dSt_copyFrom_70 : decode zbSt_copyFrom 70 = .ok (.getfield 32, 3) := by decide +kernel
theorem dSt_copyFrom_73 : decode zbSt_copyFrom 73 = .ok (.arraylength, 1) := by decide +kernel
theorem dSt_copyFrom_74 : decode zbSt_copyFrom 74 = .ok (.invokestatic 42, 3) := by decide +kernel
theorem dSt_copyFrom_77 : decode zbSt_copyFrom 77 = .ok (.return_, 1) := by decide +kernel
theorem dTe_init_0 : decode zbTe_init 0 = .ok (.aload_n 0, 1) := by decide +kernel
theorem dTe_init_1 : decode zbTe_init 1 = .ok (.invokespecial 3, 3) := by decide +kernel
theorem dTe_init_4 : decode zbTe_init 4 = .ok (.aload_n 0, 1) := by decide +kernel
theorem dTe_init_5 : decode zbTe_init 5 = .ok (.bipush 8, 2) := by decide +kernel
theorem dTe_init_7 : decode zbTe_init 7 = .ok (.newarray .int, 2) := by decide +kernel
theorem dTe_init_9 : decode zbTe_init 9 = .ok (.putfield 9, 3) := by decide +kernel
theorem dTe_init_12 : decode zbTe_init 12 = .ok (.aload_n 0, 1) := by decide +kernel
theorem dTe_init_13 : decode zbTe_init 13 = .ok (.iconst 0, 1) := by decide +kernel
theorem dTe_init_14 : decode zbTe_init 14 = .ok (.putfield 15, 3) := by decide +kernel
theorem dTe_init_17 : decode zbTe_init 17 = .ok (.return_, 1) := by decide +kernel
theorem dTe_clauseAt_0 : decode zbTe_clauseAt 0 = .ok (.aload_n 0, 1) := by decide +kernel
theorem dTe_clauseAt_1 : decode zbTe_clauseAt 1 = .ok (.getfield 9, 3) := by decide +kernel
theorem dTe_clauseAt_4 : decode zbTe_clauseAt 4 = .ok (.iload_n 1, 1) := by decide +kernel
theorem dTe_clauseAt_5 : decode zbTe_clauseAt 5 = .ok (.iaload, 1) := by decide +kernel
theorem dTe_clauseAt_6 : decode zbTe_clauseAt 6 = .ok (.bipush 100, 2) := by decide +kernel
theorem dTe_clauseAt_8 : decode zbTe_clauseAt 8 = .ok (.irem, 1) := by decide +kernel
theorem dTe_clauseAt_9 : decode zbTe_clauseAt 9 = .ok (.ireturn, 1) := by decide +kernel
theorem dTe_dayAt_0 : decode zbTe_dayAt 0 = .ok (.aload_n 0, 1) := by decide +kernel
theorem dTe_dayAt_1 : decode zbTe_dayAt 1 = .ok (.getfield 9, 3) := by decide +kernel
theorem dTe_dayAt_4 : decode zbTe_dayAt 4 = .ok (.iload_n 1, 1) := by decide +kernel
theorem dTe_dayAt_5 : decode zbTe_dayAt 5 = .ok (.iaload, 1) := by decide +kernel
theorem dTe_dayAt_6 : decode zbTe_dayAt 6 = .ok (.bipush 100, 2) := by decide +kernel
theorem dTe_dayAt_8 : decode zbTe_dayAt 8 = .ok (.idiv, 1) := by decide +kernel
theorem dTe_dayAt_9 : decode zbTe_dayAt 9 = .ok (.ireturn, 1) := by decide +kernel
theorem dTe_add_0 : decode zbTe_add 0 = .ok (.aload_n 0, 1) := by decide +kernel
theorem dTe_add_1 : decode zbTe_add 1 = .ok (.getfield 15, 3) := by decide +kernel
theorem dTe_add_4 : decode zbTe_add 4 = .ok (.bipush 8, 2) := by decide +kernel
theorem dTe_add_6 : decode zbTe_add 6 = .ok (.if_icmp .lt 5, 3) := by decide +kernel
theorem dTe_add_9 : decode zbTe_add 9 = .ok (.iconst 0, 1) := by decide +kernel
theorem dTe_add_10 : decode zbTe_add 10 = .ok (.ireturn, 1) := by decide +kernel
theorem dTe_add_11 : decode zbTe_add 11 = .ok (.bipush 100, 2) := by decide +kernel
theorem dTe_add_13 : decode zbTe_add 13 = .ok (.iload_n 2, 1) := by decide +kernel
theorem dTe_add_14 : decode zbTe_add 14 = .ok (.imul, 1) := by decide +kernel
theorem dTe_add_15 : decode zbTe_add 15 = .ok (.iload_n 1, 1) := by decide +kernel
theorem dTe_add_16 : decode zbTe_add 16 = .ok (.iadd, 1) := by decide +kernel
theorem dTe_add_17 : decode zbTe_add 17 = .ok (.istore_n 3, 1) := by decide +kernel
theorem dTe_add_18 : decode zbTe_add 18 = .ok (.aload_n 0, 1) := by decide +kernel
theorem dTe_add_19 : decode zbTe_add 19 = .ok (.getfield 15, 3) := by decide +kernel
theorem dTe_add_22 : decode zbTe_add 22 = .ok (.istore 4, 2) := by decide +kernel
theorem dTe_add_24 : decode zbTe_add 24 = .ok (.iload 4, 2) := by decide +kernel
theorem dTe_add_26 : decode zbTe_add 26 = .ok (.ifCond .le 38, 3) := by decide +kernel
theorem dTe_add_29 : decode zbTe_add 29 = .ok (.aload_n 0, 1) := by decide +kernel
theorem dTe_add_30 : decode zbTe_add 30 = .ok (.getfield 9, 3) := by decide +kernel
theorem dTe_add_33 : decode zbTe_add 33 = .ok (.iload 4, 2) := by decide +kernel
theorem dTe_add_35 : decode zbTe_add 35 = .ok (.iconst 1, 1) := by decide +kernel
theorem dTe_add_36 : decode zbTe_add 36 = .ok (.isub, 1) := by decide +kernel
theorem dTe_add_37 : decode zbTe_add 37 = .ok (.iaload, 1) := by decide +kernel
theorem dTe_add_38 : decode zbTe_add 38 = .ok (.iload_n 3, 1) := by decide +kernel
theorem dTe_add_39 : decode zbTe_add 39 = .ok (.if_icmp .le 25, 3) := by decide +kernel
theorem dTe_add_42 : decode zbTe_add 42 = .ok (.aload_n 0, 1) := by decide +kernel
theorem dTe_add_43 : decode zbTe_add 43 = .ok (.getfield 9, 3) := by decide +kernel
theorem dTe_add_46 : decode zbTe_add 46 = .ok (.iload 4, 2) := by decide +kernel
theorem dTe_add_48 : decode zbTe_add 48 = .ok (.aload_n 0, 1) := by decide +kernel
theorem dTe_add_49 : decode zbTe_add 49 = .ok (.getfield 9, 3) := by decide +kernel
theorem dTe_add_52 : decode zbTe_add 52 = .ok (.iload 4, 2) := by decide +kernel
theorem dTe_add_54 : decode zbTe_add 54 = .ok (.iconst 1, 1) := by decide +kernel
theorem dTe_add_55 : decode zbTe_add 55 = .ok (.isub, 1) := by decide +kernel
theorem dTe_add_56 : decode zbTe_add 56 = .ok (.iaload, 1) := by decide +kernel
theorem dTe_add_57 : decode zbTe_add 57 = .ok (.iastore, 1) := by decide +kernel
theorem dTe_add_58 : decode zbTe_add 58 = .ok (.iinc 4 (-1), 3) := by decide +kernel
theorem dTe_add_61 : decode zbTe_add 61 = .ok (.goto (-37), 3) := by decide +kernel
theorem dTe_add_64 : decode zbTe_add 64 = .ok (.aload_n 0, 1) := by decide +kernel
theorem dTe_add_65 : decode zbTe_add 65 = .ok (.getfield 9, 3) := by decide +kernel
theorem dTe_add_68 : decode zbTe_add 68 = .ok (.iload 4, 2) := by decide +kernel
theorem dTe_add_70 : decode zbTe_add 70 = .ok (.iload_n 3, 1) := by decide +kernel
theorem dTe_add_71 : decode zbTe_add 71 = .ok (.iastore, 1) := by decide +kernel
theorem dTe_add_72 : decode zbTe_add 72 = .ok (.aload_n 0, 1) := by decide +kernel
theorem dTe_add_73 : decode zbTe_add 73 = .ok (.dup, 1) := by decide +kernel
theorem dTe_add_74 : decode zbTe_add 74 = .ok (.getfield 15, 3) := by decide +kernel
theorem dTe_add_77 : decode zbTe_add 77 = .ok (.iconst 1, 1) := by decide +kernel
theorem dTe_add_78 : decode zbTe_add 78 = .ok (.iadd, 1) := by decide +kernel
theorem dTe_add_79 : decode zbTe_add 79 = .ok (.putfield 15, 3) := by decide +kernel
theorem dTe_add_82 : decode zbTe_add 82 = .ok (.iconst 1, 1) := by decide +kernel
theorem dTe_add_83 : decode zbTe_add 83 = .ok (.ireturn, 1) := by decide +kernel
theorem dTe_remove_0 : decode zbTe_remove 0 = .ok (.iload_n 1, 1) := by decide +kernel
theorem dTe_remove_1 : decode zbTe_remove 1 = .ok (.istore_n 3, 1) := by decide +kernel
theorem dTe_remove_2 : decode zbTe_remove 2 = .ok (.iload_n 3, 1) := by decide +kernel
theorem dTe_remove_3 : decode zbTe_remove 3 = .ok (.iload_n 2, 1) := by decide +kernel
theorem dTe_remove_4 : decode zbTe_remove 4 = .ok (.iadd, 1) := by decide +kernel
theorem dTe_remove_5 : decode zbTe_remove 5 = .ok (.aload_n 0, 1) := by decide +kernel
theorem dTe_remove_6 : decode zbTe_remove 6 = .ok (.getfield 15, 3) := by decide +kernel
theorem dTe_remove_9 : decode zbTe_remove 9 = .ok (.if_icmp .ge 23, 3) := by decide +kernel
theorem dTe_remove_12 : decode zbTe_remove 12 = .ok (.aload_n 0, 1) := by decide +kernel
theorem dTe_remove_13 : decode zbTe_remove 13 = .ok (.getfield 9, 3) := by decide +kernel
theorem dTe_remove_16 : decode zbTe_remove 16 = .ok (.iload_n 3, 1) := by decide +kernel
theorem dTe_remove_17 : decode zbTe_remove 17 = .ok (.aload_n 0, 1) := by decide +kernel
theorem dTe_remove_18 : decode zbTe_remove 18 = .ok (.getfield 9, 3) := by decide +kernel
theorem dTe_remove_21 : decode zbTe_remove 21 = .ok (.iload_n 3, 1) := by decide +kernel
theorem dTe_remove_22 : decode zbTe_remove 22 = .ok (.iload_n 2, 1) := by decide +kernel
theorem dTe_remove_23 : decode zbTe_remove 23 = .ok (.iadd, 1) := by decide +kernel
theorem dTe_remove_24 : decode zbTe_remove 24 = .ok (.iaload, 1) := by decide +kernel
theorem dTe_remove_25 : decode zbTe_remove 25 = .ok (.iastore, 1) := by decide +kernel
theorem dTe_remove_26 : decode zbTe_remove 26 = .ok (.iinc 3 1, 3) := by decide +kernel
theorem dTe_remove_29 : decode zbTe_remove 29 = .ok (.goto (-27), 3) := by decide +kernel
theorem dTe_remove_32 : decode zbTe_remove 32 = .ok (.aload_n 0, 1) := by decide +kernel
theorem dTe_remove_33 : decode zbTe_remove 33 = .ok (.dup, 1) := by decide +kernel
theorem dTe_remove_34 : decode zbTe_remove 34 = .ok (.getfield 15, 3) := by decide +kernel
theorem dTe_remove_37 : decode zbTe_remove 37 = .ok (.iload_n 2, 1) := by decide +kernel
theorem dTe_remove_38 : decode zbTe_remove 38 = .ok (.isub, 1) := by decide +kernel
theorem dTe_remove_39 : decode zbTe_remove 39 = .ok (.putfield 15, 3) := by decide +kernel
theorem dTe_remove_42 : decode zbTe_remove 42 = .ok (.return_, 1) := by decide +kernel
theorem dTe_dropBefore_0 : decode zbTe_dropBefore 0 = .ok (.iconst 0, 1) := by decide +kernel
theorem dTe_dropBefore_1 : decode zbTe_dropBefore 1 = .ok (.istore_n 2, 1) := by decide +kernel
theorem dTe_dropBefore_2 : decode zbTe_dropBefore 2 = .ok (.iload_n 2, 1) := by decide +kernel
theorem dTe_dropBefore_3 : decode zbTe_dropBefore 3 = .ok (.aload_n 0, 1) := by decide +kernel
theorem dTe_dropBefore_4 : decode zbTe_dropBefore 4 = .ok (.getfield 15, 3) := by decide +kernel
theorem dTe_dropBefore_7 : decode zbTe_dropBefore 7 = .ok (.if_icmp .ge 18, 3) := by decide +kernel
theorem dTe_dropBefore_10 : decode zbTe_dropBefore 10 = .ok (.aload_n 0, 1) := by decide +kernel
theorem dTe_dropBefore_11 : decode zbTe_dropBefore 11 = .ok (.iload_n 2, 1) := by decide +kernel
theorem dTe_dropBefore_12 : decode zbTe_dropBefore 12 = .ok (.invokevirtual 19, 3) := by decide +kernel
theorem dTe_dropBefore_15 : decode zbTe_dropBefore 15 = .ok (.iload_n 1, 1) := by decide +kernel
theorem dTe_dropBefore_16 : decode zbTe_dropBefore 16 = .ok (.if_icmp .ge 9, 3) := by decide +kernel
theorem dTe_dropBefore_19 : decode zbTe_dropBefore 19 = .ok (.iinc 2 1, 3) := by decide +kernel
theorem dTe_dropBefore_22 : decode zbTe_dropBefore 22 = .ok (.goto (-20), 3) := by decide +kernel
theorem dTe_dropBefore_25 : decode zbTe_dropBefore 25 = .ok (.aload_n 0, 1) := by decide +kernel
theorem dTe_dropBefore_26 : decode zbTe_dropBefore 26 = .ok (.iconst 0, 1) := by decide +kernel
theorem dTe_dropBefore_27 : decode zbTe_dropBefore 27 = .ok (.iload_n 2, 1) := by decide +kernel
theorem dTe_dropBefore_28 : decode zbTe_dropBefore 28 = .ok (.invokevirtual 23, 3) := by decide +kernel
theorem dTe_dropBefore_31 : decode zbTe_dropBefore 31 = .ok (.return_, 1) := by decide +kernel
theorem dTe_countUntil_0 : decode zbTe_countUntil 0 = .ok (.iconst 0, 1) := by decide +kernel
theorem dTe_countUntil_1 : decode zbTe_countUntil 1 = .ok (.istore_n 3, 1) := by decide +kernel
theorem dTe_countUntil_2 : decode zbTe_countUntil 2 = .ok (.iconst 0, 1) := by decide +kernel
theorem dTe_countUntil_3 : decode zbTe_countUntil 3 = .ok (.istore 4, 2) := by decide +kernel
theorem dTe_countUntil_5 : decode zbTe_countUntil 5 = .ok (.iload 4, 2) := by decide +kernel
theorem dTe_countUntil_7 : decode zbTe_countUntil 7 = .ok (.aload_n 0, 1) := by decide +kernel
theorem dTe_countUntil_8 : decode zbTe_countUntil 8 = .ok (.getfield 15, 3) := by decide +kernel
theorem dTe_countUntil_11 : decode zbTe_countUntil 11 = .ok (.if_icmp .ge 32, 3) := by decide +kernel
theorem dTe_countUntil_14 : decode zbTe_countUntil 14 = .ok (.aload_n 0, 1) := by decide +kernel
theorem dTe_countUntil_15 : decode zbTe_countUntil 15 = .ok (.iload 4, 2) := by decide +kernel
theorem dTe_countUntil_17 : decode zbTe_countUntil 17 = .ok (.invokevirtual 27, 3) := by decide +kernel
theorem dTe_countUntil_20 : decode zbTe_countUntil 20 = .ok (.iload_n 1, 1) := by decide +kernel
theorem dTe_countUntil_21 : decode zbTe_countUntil 21 = .ok (.if_icmp .ne 16, 3) := by decide +kernel
theorem dTe_countUntil_24 : decode zbTe_countUntil 24 = .ok (.aload_n 0, 1) := by decide +kernel
theorem dTe_countUntil_25 : decode zbTe_countUntil 25 = .ok (.iload 4, 2) := by decide +kernel
theorem dTe_countUntil_27 : decode zbTe_countUntil 27 = .ok (.invokevirtual 19, 3) := by decide +kernel
theorem dTe_countUntil_30 : decode zbTe_countUntil 30 = .ok (.iload_n 2, 1) := by decide +kernel
theorem dTe_countUntil_31 : decode zbTe_countUntil 31 = .ok (.if_icmp .gt 6, 3) := by decide +kernel
theorem dTe_countUntil_34 : decode zbTe_countUntil 34 = .ok (.iinc 3 1, 3) := by decide +kernel
theorem dTe_countUntil_37 : decode zbTe_countUntil 37 = .ok (.iinc 4 1, 3) := by decide +kernel
theorem dTe_countUntil_40 : decode zbTe_countUntil 40 = .ok (.goto (-35), 3) := by decide +kernel
theorem dTe_countUntil_43 : decode zbTe_countUntil 43 = .ok (.iload_n 3, 1) := by decide +kernel
theorem dTe_countUntil_44 : decode zbTe_countUntil 44 = .ok (.ireturn, 1) := by decide +kernel
theorem dTe_copyFrom_0 : decode zbTe_copyFrom 0 = .ok (.aload_n 1, 1) := by decide +kernel
theorem dTe_copyFrom_1 : decode zbTe_copyFrom 1 = .ok (.getfield 9, 3) := by decide +kernel
theorem dTe_copyFrom_4 : decode zbTe_copyFrom 4 = .ok (.iconst 0, 1) := by decide +kernel
theorem dTe_copyFrom_5 : decode zbTe_copyFrom 5 = .ok (.aload_n 0, 1) := by decide +kernel
theorem dTe_copyFrom_6 : decode zbTe_copyFrom 6 = .ok (.getfield 9, 3) := by decide +kernel
theorem dTe_copyFrom_9 : decode zbTe_copyFrom 9 = .ok (.iconst 0, 1) := by decide +kernel
theorem dTe_copyFrom_10 : decode zbTe_copyFrom 10 = .ok (.aload_n 1, 1) := by decide +kernel
theorem dTe_copyFrom_11 : decode zbTe_copyFrom 11 = .ok (.getfield 15, 3) := by decide +kernel
theorem dTe_copyFrom_14 : decode zbTe_copyFrom 14 = .ok (.invokestatic 30, 3) := by decide +kernel
theorem dTe_copyFrom_17 : decode zbTe_copyFrom 17 = .ok (.aload_n 0, 1) := by decide +kernel
theorem dTe_copyFrom_18 : decode zbTe_copyFrom 18 = .ok (.aload_n 1, 1) := by decide +kernel
theorem dTe_copyFrom_19 : decode zbTe_copyFrom 19 = .ok (.getfield 15, 3) := by decide +kernel
theorem dTe_copyFrom_22 : decode zbTe_copyFrom 22 = .ok (.putfield 15, 3) := by decide +kernel
theorem dTe_copyFrom_25 : decode zbTe_copyFrom 25 = .ok (.return_, 1) := by decide +kernel
theorem dTx_init_0 : decode zbTx_init 0 = .ok (.aload_n 0, 1) := by decide +kernel
theorem dTx_init_1 : decode zbTx_init 1 = .ok (.invokespecial 3, 3) := by decide +kernel
theorem dTx_init_4 : decode zbTx_init 4 = .ok (.aload_n 0, 1) := by decide +kernel
theorem dTx_init_5 : decode zbTx_init 5 = .ok (.bipush 120, 2) := by decide +kernel
theorem dTx_init_7 : decode zbTx_init 7 = .ok (.newarray .char, 2) := by decide +kernel
theorem dTx_init_9 : decode zbTx_init 9 = .ok (.putfield 9, 3) := by decide +kernel
theorem dTx_init_12 : decode zbTx_init 12 = .ok (.aload_n 0, 1) := by decide +kernel
theorem dTx_init_13 : decode zbTx_init 13 = .ok (.iconst 0, 1) := by decide +kernel
theorem dTx_init_14 : decode zbTx_init 14 = .ok (.putfield 15, 3) := by decide +kernel
theorem dTx_init_17 : decode zbTx_init 17 = .ok (.aload_n 0, 1) := by decide +kernel
theorem dTx_init_18 : decode zbTx_init 18 = .ok (.iconst 0, 1) := by decide +kernel
theorem dTx_init_19 : decode zbTx_init 19 = .ok (.putfield 19, 3) := by decide +kernel
theorem dTx_init_22 : decode zbTx_init 22 = .ok (.aload_n 0, 1) := by decide +kernel
theorem dTx_init_23 : decode zbTx_init 23 = .ok (.iconst (-1), 1) := by decide +kernel
theorem dTx_init_24 : decode zbTx_init 24 = .ok (.putfield 22, 3) := by decide +kernel
theorem dTx_init_27 : decode zbTx_init 27 = .ok (.aload_n 0, 1) := by decide +kernel
theorem dTx_init_28 : decode zbTx_init 28 = .ok (.iconst (-1), 1) := by decide +kernel
theorem dTx_init_29 : decode zbTx_init 29 = .ok (.putfield 25, 3) := by decide +kernel
theorem dTx_init_32 : decode zbTx_init 32 = .ok (.aload_n 0, 1) := by decide +kernel
theorem dTx_init_33 : decode zbTx_init 33 = .ok (.iconst (-1), 1) := by decide +kernel
theorem dTx_init_34 : decode zbTx_init 34 = .ok (.putfield 28, 3) := by decide +kernel
theorem dTx_init_37 : decode zbTx_init 37 = .ok (.return_, 1) := by decide +kernel
theorem dTx_put_0 : decode zbTx_put 0 = .ok (.iconst 0, 1) := by decide +kernel
theorem dTx_put_1 : decode zbTx_put 1 = .ok (.istore_n 3, 1) := by decide +kernel
theorem dTx_put_2 : decode zbTx_put 2 = .ok (.iload_n 3, 1) := by decide +kernel
theorem dTx_put_3 : decode zbTx_put 3 = .ok (.bipush 8, 2) := by decide +kernel
theorem dTx_put_5 : decode zbTx_put 5 = .ok (.if_icmp .ge 40, 3) := by decide +kernel
theorem dTx_put_8 : decode zbTx_put 8 = .ok (.lload_n 1, 1) := by decide +kernel
theorem dTx_put_9 : decode zbTx_put 9 = .ok (.iload_n 3, 1) := by decide +kernel
theorem dTx_put_10 : decode zbTx_put 10 = .ok (.invokestatic 31, 3) := by decide +kernel
theorem dTx_put_13 : decode zbTx_put 13 = .ok (.ifCond .eq 32, 3) := by decide +kernel
theorem dTx_put_16 : decode zbTx_put 16 = .ok (.lload_n 1, 1) := by decide +kernel
theorem dTx_put_17 : decode zbTx_put 17 = .ok (.iload_n 3, 1) := by decide +kernel
theorem dTx_put_18 : decode zbTx_put 18 = .ok (.invokestatic 31, 3) := by decide +kernel
theorem dTx_put_21 : decode zbTx_put 21 = .ok (.istore 4, 2) := by decide +kernel
theorem dTx_put_23 : decode zbTx_put 23 = .ok (.iload 4, 2) := by decide +kernel
theorem dTx_put_25 : decode zbTx_put 25 = .ok (.bipush 33, 2) := by decide +kernel
theorem dTx_put_27 : decode zbTx_put 27 = .ok (.if_icmp .lt 10, 3) := by decide +kernel
theorem dTx_put_30 : decode zbTx_put 30 = .ok (.iload 4, 2) := by decide +kernel
theorem dTx_put_32 : decode zbTx_put 32 = .ok (.bipush 126, 2) := by decide +kernel
theorem dTx_put_34 : decode zbTx_put 34 = .ok (.if_icmp .le 5, 3) := by decide +kernel
theorem dTx_put_37 : decode zbTx_put 37 = .ok (.iconst 0, 1) := by decide +kernel
theorem dTx_put_38 : decode zbTx_put 38 = .ok (.ireturn, 1) := by decide +kernel
theorem dTx_put_39 : decode zbTx_put 39 = .ok (.iinc 3 1, 3) := by decide +kernel
theorem dTx_put_42 : decode zbTx_put 42 = .ok (.goto (-40), 3) := by decide +kernel
theorem dTx_put_45 : decode zbTx_put 45 = .ok (.aload_n 0, 1) := by decide +kernel
theorem dTx_put_46 : decode zbTx_put 46 = .ok (.getfield 15, 3) := by decide +kernel
theorem dTx_put_49 : decode zbTx_put 49 = .ok (.iload_n 3, 1) := by decide +kernel
theorem dTx_put_50 : decode zbTx_put 50 = .ok (.iadd, 1) := by decide +kernel
theorem dTx_put_51 : decode zbTx_put 51 = .ok (.bipush 120, 2) := by decide +kernel
theorem dTx_put_53 : decode zbTx_put 53 = .ok (.if_icmp .le 5, 3) := by decide +kernel
theorem dTx_put_56 : decode zbTx_put 56 = .ok (.iconst 0, 1) := by decide +kernel
theorem dTx_put_57 : decode zbTx_put 57 = .ok (.ireturn, 1) := by decide +kernel
theorem dTx_put_58 : decode zbTx_put 58 = .ok (.iconst 0, 1) := by decide +kernel
theorem dTx_put_59 : decode zbTx_put 59 = .ok (.istore 4, 2) := by decide +kernel
theorem dTx_put_61 : decode zbTx_put 61 = .ok (.iload 4, 2) := by decide +kernel
theorem dTx_put_63 : decode zbTx_put 63 = .ok (.iload_n 3, 1) := by decide +kernel
theorem dTx_put_64 : decode zbTx_put 64 = .ok (.if_icmp .ge 28, 3) := by decide +kernel
theorem dTx_put_67 : decode zbTx_put 67 = .ok (.aload_n 0, 1) := by decide +kernel
theorem dTx_put_68 : decode zbTx_put 68 = .ok (.getfield 9, 3) := by decide +kernel
theorem dTx_put_71 : decode zbTx_put 71 = .ok (.aload_n 0, 1) := by decide +kernel
theorem dTx_put_72 : decode zbTx_put 72 = .ok (.getfield 15, 3) := by decide +kernel
theorem dTx_put_75 : decode zbTx_put 75 = .ok (.iload 4, 2) := by decide +kernel
theorem dTx_put_77 : decode zbTx_put 77 = .ok (.iadd, 1) := by decide +kernel
theorem dTx_put_78 : decode zbTx_put 78 = .ok (.lload_n 1, 1) := by decide +kernel
theorem dTx_put_79 : decode zbTx_put 79 = .ok (.iload 4, 2) := by decide +kernel
theorem dTx_put_81 : decode zbTx_put 81 = .ok (.invokestatic 31, 3) := by decide +kernel
theorem dTx_put_84 : decode zbTx_put 84 = .ok (.i2c, 1) := by decide +kernel
theorem dTx_put_85 : decode zbTx_put 85 = .ok (.castore, 1) := by decide +kernel
theorem dTx_put_86 : decode zbTx_put 86 = .ok (.iinc 4 1, 3) := by decide +kernel
theorem dTx_put_89 : decode zbTx_put 89 = .ok (.goto (-28), 3) := by decide +kernel
theorem dTx_put_92 : decode zbTx_put 92 = .ok (.aload_n 0, 1) := by decide +kernel
theorem dTx_put_93 : decode zbTx_put 93 = .ok (.dup, 1) := by decide +kernel
theorem dTx_put_94 : decode zbTx_put 94 = .ok (.getfield 15, 3) := by decide +kernel
theorem dTx_put_97 : decode zbTx_put 97 = .ok (.iload_n 3, 1) := by decide +kernel
theorem dTx_put_98 : decode zbTx_put 98 = .ok (.iadd, 1) := by decide +kernel
theorem dTx_put_99 : decode zbTx_put 99 = .ok (.putfield 15, 3) := by decide +kernel
theorem dTx_put_102 : decode zbTx_put 102 = .ok (.iconst 1, 1) := by decide +kernel
theorem dTx_put_103 : decode zbTx_put 103 = .ok (.ireturn, 1) := by decide +kernel
theorem dTx_characterOf_0 : decode zbTx_characterOf 0 = .ok (.lload_n 0, 1) := by decide +kernel
theorem dTx_characterOf_1 : decode zbTx_characterOf 1 = .ok (.bipush 8, 2) := by decide +kernel
theorem dTx_characterOf_3 : decode zbTx_characterOf 3 = .ok (.iload_n 2, 1) := by decide +kernel
theorem dTx_characterOf_4 : decode zbTx_characterOf 4 = .ok (.imul, 1) := by decide +kernel
theorem dTx_characterOf_5 : decode zbTx_characterOf 5 = .ok (.lushr, 1) := by decide +kernel
theorem dTx_characterOf_6 : decode zbTx_characterOf 6 = .ok (.l2i, 1) := by decide +kernel
theorem dTx_characterOf_7 : decode zbTx_characterOf 7 = .ok (.sipush 255, 3) := by decide +kernel
theorem dTx_characterOf_10 : decode zbTx_characterOf 10 = .ok (.iand, 1) := by decide +kernel
theorem dTx_characterOf_11 : decode zbTx_characterOf 11 = .ok (.ireturn, 1) := by decide +kernel
theorem dTx_readInto_0 : decode zbTx_readInto 0 = .ok (.aload_n 0, 1) := by decide +kernel
theorem dTx_readInto_1 : decode zbTx_readInto 1 = .ok (.iconst 0, 1) := by decide +kernel
theorem dTx_readInto_2 : decode zbTx_readInto 2 = .ok (.putfield 19, 3) := by decide +kernel
theorem dTx_readInto_5 : decode zbTx_readInto 5 = .ok (.iconst 0, 1) := by decide +kernel
theorem dTx_readInto_6 : decode zbTx_readInto 6 = .ok (.istore_n 2, 1) := by decide +kernel
theorem dTx_readInto_7 : decode zbTx_readInto 7 = .ok (.iload_n 2, 1) := by decide +kernel
theorem dTx_readInto_8 : decode zbTx_readInto 8 = .ok (.bipush 10, 2) := by decide +kernel
theorem dTx_readInto_10 : decode zbTx_readInto 10 = .ok (.if_icmp .ge 70, 3) := by decide +kernel
theorem dTx_readInto_13 : decode zbTx_readInto 13 = .ok (.aload_n 0, 1) := by decide +kernel
theorem dTx_readInto_14 : decode zbTx_readInto 14 = .ok (.aload_n 1, 1) := by decide +kernel
theorem dTx_readInto_15 : decode zbTx_readInto 15 = .ok (.getfield 35, 3) := by decide +kernel
theorem dTx_readInto_18 : decode zbTx_readInto 18 = .ok (.iload_n 2, 1) := by decide +kernel
theorem dTx_readInto_19 : decode zbTx_readInto 19 = .ok (.aaload, 1) := by decide +kernel
theorem dTx_readInto_20 : decode zbTx_readInto 20 = .ok (.invokevirtual 41, 3) := by decide +kernel
theorem dTx_readInto_23 : decode zbTx_readInto 23 = .ok (.ifCond .ne 8, 3) := by decide +kernel
theorem dTx_readInto_26 : decode zbTx_readInto 26 = .ok (.aload_n 0, 1) := by decide +kernel
theorem dTx_readInto_27 : decode zbTx_readInto 27 = .ok (.getfield 19, 3) := by decide +kernel
theorem dTx_readInto_30 : decode zbTx_readInto 30 = .ok (.ireturn, 1) := by decide +kernel
theorem dTx_readInto_31 : decode zbTx_readInto 31 = .ok (.aload_n 0, 1) := by decide +kernel
theorem dTx_readInto_32 : decode zbTx_readInto 32 = .ok (.getfield 19, 3) := by decide +kernel
theorem dTx_readInto_35 : decode zbTx_readInto 35 = .ok (.aload_n 0, 1) := by decide +kernel
theorem dTx_readInto_36 : decode zbTx_readInto 36 = .ok (.getfield 15, 3) := by decide +kernel
theorem dTx_readInto_39 : decode zbTx_readInto 39 = .ok (.if_icmp .ne 15, 3) := by decide +kernel
theorem dTx_readInto_42 : decode zbTx_readInto 42 = .ok (.aload_n 1, 1) := by decide +kernel
theorem dTx_readInto_43 : decode zbTx_readInto 43 = .ok (.iload_n 2, 1) := by decide +kernel
theorem dTx_readInto_44 : decode zbTx_readInto 44 = .ok (.iconst 1, 1) := by decide +kernel
theorem dTx_readInto_45 : decode zbTx_readInto 45 = .ok (.iadd, 1) := by decide +kernel
theorem dTx_readInto_46 : decode zbTx_readInto 46 = .ok (.putfield 45, 3) := by decide +kernel
theorem dTx_readInto_49 : decode zbTx_readInto 49 = .ok (.aload_n 1, 1) := by decide +kernel
theorem dTx_readInto_50 : decode zbTx_readInto 50 = .ok (.invokevirtual 48, 3) := by decide +kernel
theorem dTx_readInto_53 : decode zbTx_readInto 53 = .ok (.ireturn, 1) := by decide +kernel
theorem dTx_readInto_54 : decode zbTx_readInto 54 = .ok (.iload_n 2, 1) := by decide +kernel
theorem dTx_readInto_55 : decode zbTx_readInto 55 = .ok (.bipush 9, 2) := by decide +kernel
theorem dTx_readInto_57 : decode zbTx_readInto 57 = .ok (.if_icmp .eq 12, 3) := by decide +kernel
theorem dTx_readInto_60 : decode zbTx_readInto 60 = .ok (.aload_n 0, 1) := by decide +kernel
theorem dTx_readInto_61 : decode zbTx_readInto 61 = .ok (.bipush 59, 2) := by decide +kernel
theorem dTx_readInto_63 : decode zbTx_readInto 63 = .ok (.invokevirtual 52, 3) := by decide +kernel
theorem dTx_readInto_66 : decode zbTx_readInto 66 = .ok (.ifCond .ne 8, 3) := by decide +kernel
theorem dTx_readInto_69 : decode zbTx_readInto 69 = .ok (.aload_n 0, 1) := by decide +kernel
theorem dTx_readInto_70 : decode zbTx_readInto 70 = .ok (.getfield 19, 3) := by decide +kernel
theorem dTx_readInto_73 : decode zbTx_readInto 73 = .ok (.ireturn, 1) := by decide +kernel
theorem dTx_readInto_74 : decode zbTx_readInto 74 = .ok (.iinc 2 1, 3) := by decide +kernel
theorem dTx_readInto_77 : decode zbTx_readInto 77 = .ok (.goto (-70), 3) := by decide +kernel
theorem dTx_readInto_80 : decode zbTx_readInto 80 = .ok (.aload_n 0, 1) := by decide +kernel
theorem dTx_readInto_81 : decode zbTx_readInto 81 = .ok (.getfield 19, 3) := by decide +kernel
theorem dTx_readInto_84 : decode zbTx_readInto 84 = .ok (.ireturn, 1) := by decide +kernel
theorem dTx_readClause_0 : decode zbTx_readClause 0 = .ok (.aload_n 0, 1) := by decide +kernel
theorem dTx_readClause_1 : decode zbTx_readClause 1 = .ok (.aload_n 1, 1) := by decide +kernel
theorem dTx_readClause_2 : decode zbTx_readClause 2 = .ok (.invokevirtual 56, 3) := by decide +kernel
theorem dTx_readClause_5 : decode zbTx_readClause 5 = .ok (.ifCond .eq 32, 3) := by decide +kernel
theorem dTx_readClause_8 : decode zbTx_readClause 8 = .ok (.aload_n 0, 1) := by decide +kernel
theorem dTx_readClause_9 : decode zbTx_readClause 9 = .ok (.aload_n 1, 1) := by decide +kernel
theorem dTx_readClause_10 : decode zbTx_readClause 10 = .ok (.invokevirtual 59, 3) := by decide +kernel
theorem dTx_readClause_13 : decode zbTx_readClause 13 = .ok (.ifCond .eq 24, 3) := by decide +kernel
theorem dTx_readClause_16 : decode zbTx_readClause 16 = .ok (.aload_n 0, 1) := by decide +kernel
theorem dTx_readClause_17 : decode zbTx_readClause 17 = .ok (.bipush 62, 2) := by decide +kernel
theorem dTx_readClause_19 : decode zbTx_readClause 19 = .ok (.invokevirtual 52, 3) := by decide +kernel
theorem dTx_readClause_22 : decode zbTx_readClause 22 = .ok (.ifCond .eq 15, 3) := by decide +kernel
theorem dTx_readClause_25 : decode zbTx_readClause 25 = .ok (.aload_n 0, 1) := by decide +kernel
theorem dTx_readClause_26 : decode zbTx_readClause 26 = .ok (.aload_n 1, 1) := by decide +kernel
theorem dTx_readClause_27 : decode zbTx_readClause 27 = .ok (.invokevirtual 62, 3) := by decide +kernel
theorem dTx_readClause_30 : decode zbTx_readClause 30 = .ok (.ifCond .eq 7, 3) := by decide +kernel
theorem dTx_readClause_33 : decode zbTx_readClause 33 = .ok (.iconst 1, 1) := by decide +kernel
theorem dTx_readClause_34 : decode zbTx_readClause 34 = .ok (.goto 4, 3) := by decide +kernel
theorem dTx_readClause_37 : decode zbTx_readClause 37 = .ok (.iconst 0, 1) := by decide +kernel
theorem dTx_readClause_38 : decode zbTx_readClause 38 = .ok (.ireturn, 1) := by decide +kernel
theorem dTx_readTrigger_0 : decode zbTx_readTrigger 0 = .ok (.aload_n 0, 1) := by decide +kernel
theorem dTx_readTrigger_1 : decode zbTx_readTrigger 1 = .ok (.bipush 115, 2) := by decide +kernel
theorem dTx_readTrigger_3 : decode zbTx_readTrigger 3 = .ok (.invokevirtual 52, 3) := by decide +kernel
theorem dTx_readTrigger_6 : decode zbTx_readTrigger 6 = .ok (.ifCond .eq 11, 3) := by decide +kernel
theorem dTx_readTrigger_9 : decode zbTx_readTrigger 9 = .ok (.aload_n 1, 1) := by decide +kernel
theorem dTx_readTrigger_10 : decode zbTx_readTrigger 10 = .ok (.bipush 115, 2) := by decide +kernel
theorem dTx_readTrigger_12 : decode zbTx_readTrigger 12 = .ok (.putfield 65, 3) := by decide +kernel
theorem dTx_readTrigger_15 : decode zbTx_readTrigger 15 = .ok (.iconst 1, 1) := by decide +kernel
theorem dTx_readTrigger_16 : decode zbTx_readTrigger 16 = .ok (.ireturn, 1) := by decide +kernel
theorem dTx_readTrigger_17 : decode zbTx_readTrigger 17 = .ok (.aload_n 0, 1) := by decide +kernel
theorem dTx_readTrigger_18 : decode zbTx_readTrigger 18 = .ok (.bipush 61, 2) := by decide +kernel
theorem dTx_readTrigger_20 : decode zbTx_readTrigger 20 = .ok (.invokevirtual 52, 3) := by decide +kernel
theorem dTx_readTrigger_23 : decode zbTx_readTrigger 23 = .ok (.ifCond .eq 11, 3) := by decide +kernel
theorem dTx_readTrigger_26 : decode zbTx_readTrigger 26 = .ok (.aload_n 1, 1) := by decide +kernel
theorem dTx_readTrigger_27 : decode zbTx_readTrigger 27 = .ok (.bipush 61, 2) := by decide +kernel
theorem dTx_readTrigger_29 : decode zbTx_readTrigger 29 = .ok (.putfield 65, 3) := by decide +kernel
theorem dTx_readTrigger_32 : decode zbTx_readTrigger 32 = .ok (.iconst 1, 1) := by decide +kernel
theorem dTx_readTrigger_33 : decode zbTx_readTrigger 33 = .ok (.ireturn, 1) := by decide +kernel
theorem dTx_readTrigger_34 : decode zbTx_readTrigger 34 = .ok (.aload_n 0, 1) := by decide +kernel
theorem dTx_readTrigger_35 : decode zbTx_readTrigger 35 = .ok (.bipush 120, 2) := by decide +kernel
theorem dTx_readTrigger_37 : decode zbTx_readTrigger 37 = .ok (.invokevirtual 52, 3) := by decide +kernel
theorem dTx_readTrigger_40 : decode zbTx_readTrigger 40 = .ok (.ifCond .eq 15, 3) := by decide +kernel
theorem dTx_readTrigger_43 : decode zbTx_readTrigger 43 = .ok (.aload_n 1, 1) := by decide +kernel
theorem dTx_readTrigger_44 : decode zbTx_readTrigger 44 = .ok (.bipush 120, 2) := by decide +kernel
theorem dTx_readTrigger_46 : decode zbTx_readTrigger 46 = .ok (.putfield 65, 3) := by decide +kernel
theorem dTx_readTrigger_49 : decode zbTx_readTrigger 49 = .ok (.aload_n 0, 1) := by decide +kernel
theorem dTx_readTrigger_50 : decode zbTx_readTrigger 50 = .ok (.aload_n 1, 1) := by decide +kernel
theorem dTx_readTrigger_51 : decode zbTx_readTrigger 51 = .ok (.invokevirtual 70, 3) := by decide +kernel
theorem dTx_readTrigger_54 : decode zbTx_readTrigger 54 = .ok (.ireturn, 1) := by decide +kernel
theorem dTx_readTrigger_55 : decode zbTx_readTrigger 55 = .ok (.aload_n 0, 1) := by decide +kernel
theorem dTx_readTrigger_56 : decode zbTx_readTrigger 56 = .ok (.bipush 102, 2) := by decide +kernel
theorem dTx_readTrigger_58 : decode zbTx_readTrigger 58 = .ok (.invokevirtual 52, 3) := by decide +kernel
theorem dTx_readTrigger_61 : decode zbTx_readTrigger 61 = .ok (.ifCond .eq 15, 3) := by decide +kernel
theorem dTx_readTrigger_64 : decode zbTx_readTrigger 64 = .ok (.aload_n 1, 1) := by decide +kernel
theorem dTx_readTrigger_65 : decode zbTx_readTrigger 65 = .ok (.bipush 102, 2) := by decide +kernel
theorem dTx_readTrigger_67 : decode zbTx_readTrigger 67 = .ok (.putfield 65, 3) := by decide +kernel
theorem dTx_readTrigger_70 : decode zbTx_readTrigger 70 = .ok (.aload_n 0, 1) := by decide +kernel
theorem dTx_readTrigger_71 : decode zbTx_readTrigger 71 = .ok (.aload_n 1, 1) := by decide +kernel
theorem dTx_readTrigger_72 : decode zbTx_readTrigger 72 = .ok (.invokevirtual 70, 3) := by decide +kernel
theorem dTx_readTrigger_75 : decode zbTx_readTrigger 75 = .ok (.ireturn, 1) := by decide +kernel
theorem dTx_readTrigger_76 : decode zbTx_readTrigger 76 = .ok (.aload_n 1, 1) := by decide +kernel
theorem dTx_readTrigger_77 : decode zbTx_readTrigger 77 = .ok (.bipush 101, 2) := by decide +kernel
theorem dTx_readTrigger_79 : decode zbTx_readTrigger 79 = .ok (.putfield 65, 3) := by decide +kernel
theorem dTx_readTrigger_82 : decode zbTx_readTrigger 82 = .ok (.aload_n 1, 1) := by decide +kernel
theorem dTx_readTrigger_83 : decode zbTx_readTrigger 83 = .ok (.aload_n 0, 1) := by decide +kernel
theorem dTx_readTrigger_84 : decode zbTx_readTrigger 84 = .ok (.invokevirtual 73, 3) := by decide +kernel
theorem dTx_readTrigger_87 : decode zbTx_readTrigger 87 = .ok (.putfield 76, 3) := by decide +kernel
theorem dTx_readTrigger_90 : decode zbTx_readTrigger 90 = .ok (.aload_n 1, 1) := by decide +kernel
theorem dTx_readTrigger_91 : decode zbTx_readTrigger 91 = .ok (.getfield 76, 3) := by decide +kernel
theorem dTx_readTrigger_94 : decode zbTx_readTrigger 94 = .ok (.iconst (-1), 1) := by decide +kernel
theorem dTx_readTrigger_95 : decode zbTx_readTrigger 95 = .ok (.if_icmp .ne 5, 3) := by decide +kernel
theorem dTx_readTrigger_98 : decode zbTx_readTrigger 98 = .ok (.iconst 0, 1) := by decide +kernel
theorem dTx_readTrigger_99 : decode zbTx_readTrigger 99 = .ok (.ireturn, 1) := by decide +kernel
theorem dTx_readTrigger_100 : decode zbTx_readTrigger 100 = .ok (.aload_n 1, 1) := by decide +kernel
theorem dTx_readTrigger_101 : decode zbTx_readTrigger 101 = .ok (.aload_n 0, 1) := by decide +kernel
theorem dTx_readTrigger_102 : decode zbTx_readTrigger 102 = .ok (.invokevirtual 79, 3) := by decide +kernel
theorem dTx_readTrigger_105 : decode zbTx_readTrigger 105 = .ok (.putfield 82, 3) := by decide +kernel
theorem dTx_readTrigger_108 : decode zbTx_readTrigger 108 = .ok (.aload_n 1, 1) := by decide +kernel
theorem dTx_readTrigger_109 : decode zbTx_readTrigger 109 = .ok (.getfield 82, 3) := by decide +kernel
theorem dTx_readTrigger_112 : decode zbTx_readTrigger 112 = .ok (.iconst (-1), 1) := by decide +kernel
theorem dTx_readTrigger_113 : decode zbTx_readTrigger 113 = .ok (.if_icmp .eq 7, 3) := by decide +kernel
theorem dTx_readTrigger_116 : decode zbTx_readTrigger 116 = .ok (.iconst 1, 1) := by decide +kernel
theorem dTx_readTrigger_117 : decode zbTx_readTrigger 117 = .ok (.goto 4, 3) := by decide +kernel
theorem dTx_readTrigger_120 : decode zbTx_readTrigger 120 = .ok (.iconst 0, 1) := by decide +kernel
theorem dTx_readTrigger_121 : decode zbTx_readTrigger 121 = .ok (.ireturn, 1) := by decide +kernel
theorem dTx_readTriggerNumber_0 : decode zbTx_readTriggerNumber 0 = .ok (.aload_n 1, 1) := by decide +kernel
theorem dTx_readTriggerNumber_1 : decode zbTx_readTriggerNumber 1 = .ok (.aload_n 0, 1) := by decide +kernel
theorem dTx_readTriggerNumber_2 : decode zbTx_readTriggerNumber 2 = .ok (.invokevirtual 85, 3) := by decide +kernel
theorem dTx_readTriggerNumber_5 : decode zbTx_readTriggerNumber 5 = .ok (.putfield 88, 3) := by decide +kernel
theorem dTx_readTriggerNumber_8 : decode zbTx_readTriggerNumber 8 = .ok (.aload_n 1, 1) := by decide +kernel
theorem dTx_readTriggerNumber_9 : decode zbTx_readTriggerNumber 9 = .ok (.getfield 88, 3) := by decide +kernel
theorem dTx_readTriggerNumber_12 : decode zbTx_readTriggerNumber 12 = .ok (.iconst (-1), 1) := by decide +kernel
theorem dTx_readTriggerNumber_13 : decode zbTx_readTriggerNumber 13 = .ok (.if_icmp .eq 7, 3) := by decide +kernel
theorem dTx_readTriggerNumber_16 : decode zbTx_readTriggerNumber 16 = .ok (.iconst 1, 1) := by decide +kernel
theorem dTx_readTriggerNumber_17 : decode zbTx_readTriggerNumber 17 = .ok (.goto 4, 3) := by decide +kernel
theorem dTx_readTriggerNumber_20 : decode zbTx_readTriggerNumber 20 = .ok (.iconst 0, 1) := by decide +kernel
theorem dTx_readTriggerNumber_21 : decode zbTx_readTriggerNumber 21 = .ok (.ireturn, 1) := by decide +kernel
theorem dTx_readCondition_0 : decode zbTx_readCondition 0 = .ok (.aload_n 1, 1) := by decide +kernel
theorem dTx_readCondition_1 : decode zbTx_readCondition 1 = .ok (.aload_n 0, 1) := by decide +kernel
theorem dTx_readCondition_2 : decode zbTx_readCondition 2 = .ok (.bipush 91, 2) := by decide +kernel
theorem dTx_readCondition_4 : decode zbTx_readCondition 4 = .ok (.invokevirtual 52, 3) := by decide +kernel
theorem dTx_readCondition_7 : decode zbTx_readCondition 7 = .ok (.putfield 91, 3) := by decide +kernel
theorem dTx_readCondition_10 : decode zbTx_readCondition 10 = .ok (.aload_n 1, 1) := by decide +kernel
theorem dTx_readCondition_11 : decode zbTx_readCondition 11 = .ok (.getfield 91, 3) := by decide +kernel
theorem dTx_readCondition_14 : decode zbTx_readCondition 14 = .ok (.ifCond .ne 5, 3) := by decide +kernel
theorem dTx_readCondition_17 : decode zbTx_readCondition 17 = .ok (.iconst 1, 1) := by decide +kernel
theorem dTx_readCondition_18 : decode zbTx_readCondition 18 = .ok (.ireturn, 1) := by decide +kernel
theorem dTx_readCondition_19 : decode zbTx_readCondition 19 = .ok (.aload_n 0, 1) := by decide +kernel
theorem dTx_readCondition_20 : decode zbTx_readCondition 20 = .ok (.invokevirtual 95, 3) := by decide +kernel
theorem dTx_readCondition_23 : decode zbTx_readCondition 23 = .ok (.ifCond .eq 10, 3) := by decide +kernel
theorem dTx_readCondition_26 : decode zbTx_readCondition 26 = .ok (.aload_n 0, 1) := by decide +kernel
theorem dTx_readCondition_27 : decode zbTx_readCondition 27 = .ok (.invokevirtual 99, 3) := by decide +kernel
theorem dTx_readCondition_30 : decode zbTx_readCondition 30 = .ok (.ifCond .ne 5, 3) := by decide +kernel
theorem dTx_readCondition_33 : decode zbTx_readCondition 33 = .ok (.iconst 0, 1) := by decide +kernel
theorem dTx_readCondition_34 : decode zbTx_readCondition 34 = .ok (.ireturn, 1) := by decide +kernel
theorem dTx_readCondition_35 : decode zbTx_readCondition 35 = .ok (.aload_n 1, 1) := by decide +kernel
theorem dTx_readCondition_36 : decode zbTx_readCondition 36 = .ok (.aload_n 0, 1) := by decide +kernel
theorem dTx_readCondition_37 : decode zbTx_readCondition 37 = .ok (.getfield 22, 3) := by decide +kernel
theorem dTx_readCondition_40 : decode zbTx_readCondition 40 = .ok (.putfield 102, 3) := by decide +kernel
theorem dTx_readCondition_43 : decode zbTx_readCondition 43 = .ok (.aload_n 1, 1) := by decide +kernel
theorem dTx_readCondition_44 : decode zbTx_readCondition 44 = .ok (.aload_n 0, 1) := by decide +kernel
theorem dTx_readCondition_45 : decode zbTx_readCondition 45 = .ok (.getfield 25, 3) := by decide +kernel
theorem dTx_readCondition_48 : decode zbTx_readCondition 48 = .ok (.putfield 105, 3) := by decide +kernel
theorem dTx_readCondition_51 : decode zbTx_readCondition 51 = .ok (.aload_n 1, 1) := by decide +kernel
theorem dTx_readCondition_52 : decode zbTx_readCondition 52 = .ok (.aload_n 0, 1) := by decide +kernel
theorem dTx_readCondition_53 : decode zbTx_readCondition 53 = .ok (.getfield 28, 3) := by decide +kernel
theorem dTx_readCondition_56 : decode zbTx_readCondition 56 = .ok (.putfield 108, 3) := by decide +kernel
theorem dTx_readCondition_59 : decode zbTx_readCondition 59 = .ok (.aload_n 0, 1) := by decide +kernel
theorem dTx_readCondition_60 : decode zbTx_readCondition 60 = .ok (.bipush 93, 2) := by decide +kernel
theorem dTx_readCondition_62 : decode zbTx_readCondition 62 = .ok (.invokevirtual 52, 3) := by decide +kernel
theorem dTx_readCondition_65 : decode zbTx_readCondition 65 = .ok (.ireturn, 1) := by decide +kernel
theorem dTx_readAction_0 : decode zbTx_readAction 0 = .ok (.aload_n 1, 1) := by decide +kernel
theorem dTx_readAction_1 : decode zbTx_readAction 1 = .ok (.iconst (-1), 1) := by decide +kernel
theorem dTx_readAction_2 : decode zbTx_readAction 2 = .ok (.putfield 111, 3) := by decide +kernel
theorem dTx_readAction_5 : decode zbTx_readAction 5 = .ok (.aload_n 1, 1) := by decide +kernel
theorem dTx_readAction_6 : decode zbTx_readAction 6 = .ok (.iconst (-1), 1) := by decide +kernel
theorem dTx_readAction_7 : decode zbTx_readAction 7 = .ok (.putfield 114, 3) := by decide +kernel
theorem dTx_readAction_10 : decode zbTx_readAction 10 = .ok (.aload_n 1, 1) := by decide +kernel
theorem dTx_readAction_11 : decode zbTx_readAction 11 = .ok (.iconst (-1), 1) := by decide +kernel
theorem dTx_readAction_12 : decode zbTx_readAction 12 = .ok (.putfield 117, 3) := by decide +kernel
theorem dTx_readAction_15 : decode zbTx_readAction 15 = .ok (.aload_n 0, 1) := by decide +kernel
theorem dTx_readAction_16 : decode zbTx_readAction 16 = .ok (.bipush 61, 2) := by decide +kernel
theorem dTx_readAction_18 : decode zbTx_readAction 18 = .ok (.invokevirtual 52, 3) := by decide +kernel
theorem dTx_readAction_21 : decode zbTx_readAction 21 = .ok (.ifCond .eq 12, 3) := by decide +kernel
theorem dTx_readAction_24 : decode zbTx_readAction 24 = .ok (.aload_n 1, 1) := by decide +kernel
theorem dTx_readAction_25 : decode zbTx_readAction 25 = .ok (.bipush 61, 2) := by decide +kernel
theorem dTx_readAction_27 : decode zbTx_readAction 27 = .ok (.putfield 120, 3) := by decide +kernel
theorem dTx_readAction_30 : decode zbTx_readAction 30 = .ok (.goto 79, 3) := by decide +kernel
theorem dTx_readAction_33 : decode zbTx_readAction 33 = .ok (.aload_n 0, 1) := by decide +kernel
theorem dTx_readAction_34 : decode zbTx_readAction 34 = .ok (.bipush 36, 2) := by decide +kernel
theorem dTx_readAction_36 : decode zbTx_readAction 36 = .ok (.invokevirtual 52, 3) := by decide +kernel
theorem dTx_readAction_39 : decode zbTx_readAction 39 = .ok (.ifCond .eq 37, 3) := by decide +kernel
theorem dTx_readAction_42 : decode zbTx_readAction 42 = .ok (.aload_n 1, 1) := by decide +kernel
theorem dTx_readAction_43 : decode zbTx_readAction 43 = .ok (.bipush 36, 2) := by decide +kernel
theorem dTx_readAction_45 : decode zbTx_readAction 45 = .ok (.putfield 120, 3) := by decide +kernel
theorem dTx_readAction_48 : decode zbTx_readAction 48 = .ok (.aload_n 0, 1) := by decide +kernel
theorem dTx_readAction_49 : decode zbTx_readAction 49 = .ok (.invokevirtual 95, 3) := by decide +kernel
theorem dTx_readAction_52 : decode zbTx_readAction 52 = .ok (.ifCond .ne 5, 3) := by decide +kernel
theorem dTx_readAction_55 : decode zbTx_readAction 55 = .ok (.iconst 0, 1) := by decide +kernel
theorem dTx_readAction_56 : decode zbTx_readAction 56 = .ok (.ireturn, 1) := by decide +kernel
theorem dTx_readAction_57 : decode zbTx_readAction 57 = .ok (.aload_n 1, 1) := by decide +kernel
theorem dTx_readAction_58 : decode zbTx_readAction 58 = .ok (.aload_n 0, 1) := by decide +kernel
theorem dTx_readAction_59 : decode zbTx_readAction 59 = .ok (.getfield 22, 3) := by decide +kernel
theorem dTx_readAction_62 : decode zbTx_readAction 62 = .ok (.putfield 111, 3) := by decide +kernel
theorem dTx_readAction_65 : decode zbTx_readAction 65 = .ok (.aload_n 1, 1) := by decide +kernel
theorem dTx_readAction_66 : decode zbTx_readAction 66 = .ok (.aload_n 0, 1) := by decide +kernel
theorem dTx_readAction_67 : decode zbTx_readAction 67 = .ok (.getfield 25, 3) := by decide +kernel
theorem dTx_readAction_70 : decode zbTx_readAction 70 = .ok (.putfield 117, 3) := by decide +kernel
theorem dTx_readAction_73 : decode zbTx_readAction 73 = .ok (.goto 36, 3) := by decide +kernel
theorem dTx_readAction_76 : decode zbTx_readAction 76 = .ok (.aload_n 0, 1) := by decide +kernel
theorem dTx_readAction_77 : decode zbTx_readAction 77 = .ok (.aload_n 1, 1) := by decide +kernel
theorem dTx_readAction_78 : decode zbTx_readAction 78 = .ok (.invokevirtual 123, 3) := by decide +kernel
theorem dTx_readAction_81 : decode zbTx_readAction 81 = .ok (.ifCond .eq 10, 3) := by decide +kernel
theorem dTx_readAction_84 : decode zbTx_readAction 84 = .ok (.aload_n 0, 1) := by decide +kernel
theorem dTx_readAction_85 : decode zbTx_readAction 85 = .ok (.invokevirtual 126, 3) := by decide +kernel
theorem dTx_readAction_88 : decode zbTx_readAction 88 = .ok (.ifCond .ne 5, 3) := by decide +kernel
theorem dTx_readAction_91 : decode zbTx_readAction 91 = .ok (.iconst 0, 1) := by decide +kernel
theorem dTx_readAction_92 : decode zbTx_readAction 92 = .ok (.ireturn, 1) := by decide +kernel
theorem dTx_readAction_93 : decode zbTx_readAction 93 = .ok (.aload_n 1, 1) := by decide +kernel
theorem dTx_readAction_94 : decode zbTx_readAction 94 = .ok (.aload_n 0, 1) := by decide +kernel
theorem dTx_readAction_95 : decode zbTx_readAction 95 = .ok (.getfield 22, 3) := by decide +kernel
theorem dTx_readAction_98 : decode zbTx_readAction 98 = .ok (.putfield 111, 3) := by decide +kernel
theorem dTx_readAction_101 : decode zbTx_readAction 101 = .ok (.aload_n 1, 1) := by decide +kernel
theorem dTx_readAction_102 : decode zbTx_readAction 102 = .ok (.aload_n 0, 1) := by decide +kernel
theorem dTx_readAction_103 : decode zbTx_readAction 103 = .ok (.getfield 25, 3) := by decide +kernel
theorem dTx_readAction_106 : decode zbTx_readAction 106 = .ok (.putfield 114, 3) := by decide +kernel
theorem dTx_readAction_109 : decode zbTx_readAction 109 = .ok (.aload_n 0, 1) := by decide +kernel
theorem dTx_readAction_110 : decode zbTx_readAction 110 = .ok (.invokevirtual 99, 3) := by decide +kernel
theorem dTx_readAction_113 : decode zbTx_readAction 113 = .ok (.ifCond .ne 5, 3) := by decide +kernel
theorem dTx_readAction_116 : decode zbTx_readAction 116 = .ok (.iconst 0, 1) := by decide +kernel
theorem dTx_readAction_117 : decode zbTx_readAction 117 = .ok (.ireturn, 1) := by decide +kernel
theorem dTx_readAction_118 : decode zbTx_readAction 118 = .ok (.aload_n 1, 1) := by decide +kernel
theorem dTx_readAction_119 : decode zbTx_readAction 119 = .ok (.aload_n 0, 1) := by decide +kernel
theorem dTx_readAction_120 : decode zbTx_readAction 120 = .ok (.getfield 28, 3) := by decide +kernel
theorem dTx_readAction_123 : decode zbTx_readAction 123 = .ok (.putfield 129, 3) := by decide +kernel
theorem dTx_readAction_126 : decode zbTx_readAction 126 = .ok (.iconst 1, 1) := by decide +kernel
theorem dTx_readAction_127 : decode zbTx_readAction 127 = .ok (.ireturn, 1) := by decide +kernel
theorem dTx_readTermSign_0 : decode zbTx_readTermSign 0 = .ok (.aload_n 0, 1) := by decide +kernel
theorem dTx_readTermSign_1 : decode zbTx_readTermSign 1 = .ok (.bipush 33, 2) := by decide +kernel
theorem dTx_readTermSign_3 : decode zbTx_readTermSign 3 = .ok (.invokevirtual 52, 3) := by decide +kernel
theorem dTx_readTermSign_6 : decode zbTx_readTermSign 6 = .ok (.ifCond .eq 11, 3) := by decide +kernel
theorem dTx_readTermSign_9 : decode zbTx_readTermSign 9 = .ok (.aload_n 1, 1) := by decide +kernel
theorem dTx_readTermSign_10 : decode zbTx_readTermSign 10 = .ok (.bipush 33, 2) := by decide +kernel
theorem dTx_readTermSign_12 : decode zbTx_readTermSign 12 = .ok (.putfield 120, 3) := by decide +kernel
theorem dTx_readTermSign_15 : decode zbTx_readTermSign 15 = .ok (.iconst 1, 1) := by decide +kernel
theorem dTx_readTermSign_16 : decode zbTx_readTermSign 16 = .ok (.ireturn, 1) := by decide +kernel
theorem dTx_readTermSign_17 : decode zbTx_readTermSign 17 = .ok (.aload_n 0, 1) := by decide +kernel
theorem dTx_readTermSign_18 : decode zbTx_readTermSign 18 = .ok (.bipush 126, 2) := by decide +kernel
theorem dTx_readTermSign_20 : decode zbTx_readTermSign 20 = .ok (.invokevirtual 52, 3) := by decide +kernel
theorem dTx_readTermSign_23 : decode zbTx_readTermSign 23 = .ok (.ifCond .eq 11, 3) := by decide +kernel
theorem dTx_readTermSign_26 : decode zbTx_readTermSign 26 = .ok (.aload_n 1, 1) := by decide +kernel
theorem dTx_readTermSign_27 : decode zbTx_readTermSign 27 = .ok (.bipush 126, 2) := by decide +kernel
theorem dTx_readTermSign_29 : decode zbTx_readTermSign 29 = .ok (.putfield 120, 3) := by decide +kernel
theorem dTx_readTermSign_32 : decode zbTx_readTermSign 32 = .ok (.iconst 1, 1) := by decide +kernel
theorem dTx_readTermSign_33 : decode zbTx_readTermSign 33 = .ok (.ireturn, 1) := by decide +kernel
theorem dTx_readTermSign_34 : decode zbTx_readTermSign 34 = .ok (.aload_n 1, 1) := by decide +kernel
theorem dTx_readTermSign_35 : decode zbTx_readTermSign 35 = .ok (.bipush 63, 2) := by decide +kernel
theorem dTx_readTermSign_37 : decode zbTx_readTermSign 37 = .ok (.putfield 120, 3) := by decide +kernel
theorem dTx_readTermSign_40 : decode zbTx_readTermSign 40 = .ok (.aload_n 0, 1) := by decide +kernel
theorem dTx_readTermSign_41 : decode zbTx_readTermSign 41 = .ok (.bipush 63, 2) := by decide +kernel
theorem dTx_readTermSign_43 : decode zbTx_readTermSign 43 = .ok (.invokevirtual 52, 3) := by decide +kernel
theorem dTx_readTermSign_46 : decode zbTx_readTermSign 46 = .ok (.ireturn, 1) := by decide +kernel
theorem dTx_readTwoParties_0 : decode zbTx_readTwoParties 0 = .ok (.aload_n 0, 1) := by decide +kernel
theorem dTx_readTwoParties_1 : decode zbTx_readTwoParties 1 = .ok (.aload_n 0, 1) := by decide +kernel
theorem dTx_readTwoParties_2 : decode zbTx_readTwoParties 2 = .ok (.invokevirtual 73, 3) := by decide +kernel
theorem dTx_readTwoParties_5 : decode zbTx_readTwoParties 5 = .ok (.putfield 22, 3) := by decide +kernel
theorem dTx_readTwoParties_8 : decode zbTx_readTwoParties 8 = .ok (.aload_n 0, 1) := by decide +kernel
theorem dTx_readTwoParties_9 : decode zbTx_readTwoParties 9 = .ok (.getfield 22, 3) := by decide +kernel
theorem dTx_readTwoParties_12 : decode zbTx_readTwoParties 12 = .ok (.iconst (-1), 1) := by decide +kernel
theorem dTx_readTwoParties_13 : decode zbTx_readTwoParties 13 = .ok (.if_icmp .eq 18, 3) := by decide +kernel
theorem dTx_readTwoParties_16 : decode zbTx_readTwoParties 16 = .ok (.aload_n 0, 1) := by decide +kernel
theorem dTx_readTwoParties_17 : decode zbTx_readTwoParties 17 = .ok (.bipush 65, 2) := by decide +kernel
theorem dTx_readTwoParties_19 : decode zbTx_readTwoParties 19 = .ok (.aload_n 0, 1) := by decide +kernel
theorem dTx_readTwoParties_20 : decode zbTx_readTwoParties 20 = .ok (.getfield 22, 3) := by decide +kernel
theorem dTx_readTwoParties_23 : decode zbTx_readTwoParties 23 = .ok (.iadd, 1) := by decide +kernel
theorem dTx_readTwoParties_24 : decode zbTx_readTwoParties 24 = .ok (.i2c, 1) := by decide +kernel
theorem dTx_readTwoParties_25 : decode zbTx_readTwoParties 25 = .ok (.invokevirtual 130, 3) := by decide +kernel
theorem dTx_readTwoParties_28 : decode zbTx_readTwoParties 28 = .ok (.ifCond .eq 5, 3) := by decide +kernel
theorem dTx_readTwoParties_31 : decode zbTx_readTwoParties 31 = .ok (.iconst 0, 1) := by decide +kernel
theorem dTx_readTwoParties_32 : decode zbTx_readTwoParties 32 = .ok (.ireturn, 1) := by decide +kernel
theorem dTx_readTwoParties_33 : decode zbTx_readTwoParties 33 = .ok (.aload_n 0, 1) := by decide +kernel
theorem dTx_readTwoParties_34 : decode zbTx_readTwoParties 34 = .ok (.aload_n 0, 1) := by decide +kernel
theorem dTx_readTwoParties_35 : decode zbTx_readTwoParties 35 = .ok (.invokevirtual 73, 3) := by decide +kernel
theorem dTx_readTwoParties_38 : decode zbTx_readTwoParties 38 = .ok (.putfield 25, 3) := by decide +kernel
theorem dTx_readTwoParties_41 : decode zbTx_readTwoParties 41 = .ok (.aload_n 0, 1) := by decide +kernel
theorem dTx_readTwoParties_42 : decode zbTx_readTwoParties 42 = .ok (.getfield 25, 3) := by decide +kernel
theorem dTx_readTwoParties_45 : decode zbTx_readTwoParties 45 = .ok (.iconst (-1), 1) := by decide +kernel
theorem dTx_readTwoParties_46 : decode zbTx_readTwoParties 46 = .ok (.if_icmp .eq 7, 3) := by decide +kernel
theorem dTx_readTwoParties_49 : decode zbTx_readTwoParties 49 = .ok (.iconst 1, 1) := by decide +kernel
theorem dTx_readTwoParties_50 : decode zbTx_readTwoParties 50 = .ok (.goto 4, 3) := by decide +kernel
theorem dTx_readTwoParties_53 : decode zbTx_readTwoParties 53 = .ok (.iconst 0, 1) := by decide +kernel
theorem dTx_readTwoParties_54 : decode zbTx_readTwoParties 54 = .ok (.ireturn, 1) := by decide +kernel
theorem dTx_readPartyAndKind_0 : decode zbTx_readPartyAndKind 0 = .ok (.aload_n 0, 1) := by decide +kernel
theorem dTx_readPartyAndKind_1 : decode zbTx_readPartyAndKind 1 = .ok (.aload_n 0, 1) := by decide +kernel
theorem dTx_readPartyAndKind_2 : decode zbTx_readPartyAndKind 2 = .ok (.invokevirtual 73, 3) := by decide +kernel
theorem dTx_readPartyAndKind_5 : decode zbTx_readPartyAndKind 5 = .ok (.putfield 22, 3) := by decide +kernel
theorem dTx_readPartyAndKind_8 : decode zbTx_readPartyAndKind 8 = .ok (.aload_n 0, 1) := by decide +kernel
theorem dTx_readPartyAndKind_9 : decode zbTx_readPartyAndKind 9 = .ok (.getfield 22, 3) := by decide +kernel
theorem dTx_readPartyAndKind_12 : decode zbTx_readPartyAndKind 12 = .ok (.iconst (-1), 1) := by decide +kernel
theorem dTx_readPartyAndKind_13 : decode zbTx_readPartyAndKind 13 = .ok (.if_icmp .ne 5, 3) := by decide +kernel
theorem dTx_readPartyAndKind_16 : decode zbTx_readPartyAndKind 16 = .ok (.iconst 0, 1) := by decide +kernel
theorem dTx_readPartyAndKind_17 : decode zbTx_readPartyAndKind 17 = .ok (.ireturn, 1) := by decide +kernel
theorem dTx_readPartyAndKind_18 : decode zbTx_readPartyAndKind 18 = .ok (.aload_n 0, 1) := by decide +kernel
theorem dTx_readPartyAndKind_19 : decode zbTx_readPartyAndKind 19 = .ok (.aload_n 0, 1) := by decide +kernel
theorem dTx_readPartyAndKind_20 : decode zbTx_readPartyAndKind 20 = .ok (.invokevirtual 79, 3) := by decide +kernel
theorem dTx_readPartyAndKind_23 : decode zbTx_readPartyAndKind 23 = .ok (.putfield 25, 3) := by decide +kernel
theorem dTx_readPartyAndKind_26 : decode zbTx_readPartyAndKind 26 = .ok (.aload_n 0, 1) := by decide +kernel
theorem dTx_readPartyAndKind_27 : decode zbTx_readPartyAndKind 27 = .ok (.getfield 25, 3) := by decide +kernel
theorem dTx_readPartyAndKind_30 : decode zbTx_readPartyAndKind 30 = .ok (.iconst (-1), 1) := by decide +kernel
theorem dTx_readPartyAndKind_31 : decode zbTx_readPartyAndKind 31 = .ok (.if_icmp .eq 7, 3) := by decide +kernel
theorem dTx_readPartyAndKind_34 : decode zbTx_readPartyAndKind 34 = .ok (.iconst 1, 1) := by decide +kernel
theorem dTx_readPartyAndKind_35 : decode zbTx_readPartyAndKind 35 = .ok (.goto 4, 3) := by decide +kernel
theorem dTx_readPartyAndKind_38 : decode zbTx_readPartyAndKind 38 = .ok (.iconst 0, 1) := by decide +kernel
theorem dTx_readPartyAndKind_39 : decode zbTx_readPartyAndKind 39 = .ok (.ireturn, 1) := by decide +kernel
theorem dTx_readDigit_0 : decode zbTx_readDigit 0 = .ok (.aload_n 0, 1) := by decide +kernel
theorem dTx_readDigit_1 : decode zbTx_readDigit 1 = .ok (.aload_n 0, 1) := by decide +kernel
theorem dTx_readDigit_2 : decode zbTx_readDigit 2 = .ok (.invokevirtual 85, 3) := by decide +kernel
theorem dTx_readDigit_5 : decode zbTx_readDigit 5 = .ok (.putfield 28, 3) := by decide +kernel
theorem dTx_readDigit_8 : decode zbTx_readDigit 8 = .ok (.aload_n 0, 1) := by decide +kernel
theorem dTx_readDigit_9 : decode zbTx_readDigit 9 = .ok (.getfield 28, 3) := by decide +kernel
theorem dTx_readDigit_12 : decode zbTx_readDigit 12 = .ok (.iconst (-1), 1) := by decide +kernel
theorem dTx_readDigit_13 : decode zbTx_readDigit 13 = .ok (.if_icmp .eq 7, 3) := by decide +kernel
theorem dTx_readDigit_16 : decode zbTx_readDigit 16 = .ok (.iconst 1, 1) := by decide +kernel
theorem dTx_readDigit_17 : decode zbTx_readDigit 17 = .ok (.goto 4, 3) := by decide +kernel
theorem dTx_readDigit_20 : decode zbTx_readDigit 20 = .ok (.iconst 0, 1) := by decide +kernel
theorem dTx_readDigit_21 : decode zbTx_readDigit 21 = .ok (.ireturn, 1) := by decide +kernel
theorem dTx_isNext_0 : decode zbTx_isNext 0 = .ok (.aload_n 0, 1) := by decide +kernel
theorem dTx_isNext_1 : decode zbTx_isNext 1 = .ok (.getfield 19, 3) := by decide +kernel
theorem dTx_isNext_4 : decode zbTx_isNext 4 = .ok (.aload_n 0, 1) := by decide +kernel
theorem dTx_isNext_5 : decode zbTx_isNext 5 = .ok (.getfield 15, 3) := by decide +kernel
theorem dTx_isNext_8 : decode zbTx_isNext 8 = .ok (.if_icmp .ge 20, 3) := by decide +kernel
theorem dTx_isNext_11 : decode zbTx_isNext 11 = .ok (.aload_n 0, 1) := by decide +kernel
theorem dTx_isNext_12 : decode zbTx_isNext 12 = .ok (.getfield 9, 3) := by decide +kernel
theorem dTx_isNext_15 : decode zbTx_isNext 15 = .ok (.aload_n 0, 1) := by decide +kernel
theorem dTx_isNext_16 : decode zbTx_isNext 16 = .ok (.getfield 19, 3) := by decide +kernel
theorem dTx_isNext_19 : decode zbTx_isNext 19 = .ok (.caload, 1) := by decide +kernel
theorem dTx_isNext_20 : decode zbTx_isNext 20 = .ok (.iload_n 1, 1) := by decide +kernel
theorem dTx_isNext_21 : decode zbTx_isNext 21 = .ok (.if_icmp .ne 7, 3) := by decide +kernel
theorem dTx_isNext_24 : decode zbTx_isNext 24 = .ok (.iconst 1, 1) := by decide +kernel
theorem dTx_isNext_25 : decode zbTx_isNext 25 = .ok (.goto 4, 3) := by decide +kernel
theorem dTx_isNext_28 : decode zbTx_isNext 28 = .ok (.iconst 0, 1) := by decide +kernel
theorem dTx_isNext_29 : decode zbTx_isNext 29 = .ok (.ireturn, 1) := by decide +kernel
theorem dTx_takes_0 : decode zbTx_takes 0 = .ok (.aload_n 0, 1) := by decide +kernel
theorem dTx_takes_1 : decode zbTx_takes 1 = .ok (.iload_n 1, 1) := by decide +kernel
theorem dTx_takes_2 : decode zbTx_takes 2 = .ok (.invokevirtual 130, 3) := by decide +kernel
theorem dTx_takes_5 : decode zbTx_takes 5 = .ok (.ifCond .ne 5, 3) := by decide +kernel
theorem dTx_takes_8 : decode zbTx_takes 8 = .ok (.iconst 0, 1) := by decide +kernel
theorem dTx_takes_9 : decode zbTx_takes 9 = .ok (.ireturn, 1) := by decide +kernel
theorem dTx_takes_10 : decode zbTx_takes 10 = .ok (.aload_n 0, 1) := by decide +kernel
theorem dTx_takes_11 : decode zbTx_takes 11 = .ok (.dup, 1) := by decide +kernel
theorem dTx_takes_12 : decode zbTx_takes 12 = .ok (.getfield 19, 3) := by decide +kernel
theorem dTx_takes_15 : decode zbTx_takes 15 = .ok (.iconst 1, 1) := by decide +kernel
theorem dTx_takes_16 : decode zbTx_takes 16 = .ok (.iadd, 1) := by decide +kernel
theorem dTx_takes_17 : decode zbTx_takes 17 = .ok (.putfield 19, 3) := by decide +kernel
theorem dTx_takes_20 : decode zbTx_takes 20 = .ok (.iconst 1, 1) := by decide +kernel
theorem dTx_takes_21 : decode zbTx_takes 21 = .ok (.ireturn, 1) := by decide +kernel
theorem dTx_takeParty_0 : decode zbTx_takeParty 0 = .ok (.aload_n 0, 1) := by decide +kernel
theorem dTx_takeParty_1 : decode zbTx_takeParty 1 = .ok (.bipush 65, 2) := by decide +kernel
theorem dTx_takeParty_3 : decode zbTx_takeParty 3 = .ok (.iconst 3, 1) := by decide +kernel
theorem dTx_takeParty_4 : decode zbTx_takeParty 4 = .ok (.invokevirtual 133, 3) := by decide +kernel
theorem dTx_takeParty_7 : decode zbTx_takeParty 7 = .ok (.ireturn, 1) := by decide +kernel
theorem dTx_takeKind_0 : decode zbTx_takeKind 0 = .ok (.aload_n 0, 1) := by decide +kernel
theorem dTx_takeKind_1 : decode zbTx_takeKind 1 = .ok (.bipush 97, 2) := by decide +kernel
theorem dTx_takeKind_3 : decode zbTx_takeKind 3 = .ok (.iconst 5, 1) := by decide +kernel
theorem dTx_takeKind_4 : decode zbTx_takeKind 4 = .ok (.invokevirtual 133, 3) := by decide +kernel
theorem dTx_takeKind_7 : decode zbTx_takeKind 7 = .ok (.ireturn, 1) := by decide +kernel
theorem dTx_takeDigit_0 : decode zbTx_takeDigit 0 = .ok (.aload_n 0, 1) := by decide +kernel
theorem dTx_takeDigit_1 : decode zbTx_takeDigit 1 = .ok (.bipush 48, 2) := by decide +kernel
theorem dTx_takeDigit_3 : decode zbTx_takeDigit 3 = .ok (.bipush 10, 2) := by decide +kernel
theorem dTx_takeDigit_5 : decode zbTx_takeDigit 5 = .ok (.invokevirtual 133, 3) := by decide +kernel
theorem dTx_takeDigit_8 : decode zbTx_takeDigit 8 = .ok (.ireturn, 1) := by decide +kernel
theorem dTx_takeFrom_0 : decode zbTx_takeFrom 0 = .ok (.aload_n 0, 1) := by decide +kernel
theorem dTx_takeFrom_1 : decode zbTx_takeFrom 1 = .ok (.getfield 19, 3) := by decide +kernel
theorem dTx_takeFrom_4 : decode zbTx_takeFrom 4 = .ok (.aload_n 0, 1) := by decide +kernel
theorem dTx_takeFrom_5 : decode zbTx_takeFrom 5 = .ok (.getfield 15, 3) := by decide +kernel
theorem dTx_takeFrom_8 : decode zbTx_takeFrom 8 = .ok (.if_icmp .ge 31, 3) := by decide +kernel
theorem dTx_takeFrom_11 : decode zbTx_takeFrom 11 = .ok (.aload_n 0, 1) := by decide +kernel
theorem dTx_takeFrom_12 : decode zbTx_takeFrom 12 = .ok (.getfield 9, 3) := by decide +kernel
theorem dTx_takeFrom_15 : decode zbTx_takeFrom 15 = .ok (.aload_n 0, 1) := by decide +kernel
theorem dTx_takeFrom_16 : decode zbTx_takeFrom 16 = .ok (.getfield 19, 3) := by decide +kernel
theorem dTx_takeFrom_19 : decode zbTx_takeFrom 19 = .ok (.caload, 1) := by decide +kernel
theorem dTx_takeFrom_20 : decode zbTx_takeFrom 20 = .ok (.iload_n 1, 1) := by decide +kernel
theorem dTx_takeFrom_21 : decode zbTx_takeFrom 21 = .ok (.if_icmp .lt 18, 3) := by decide +kernel
theorem dTx_takeFrom_24 : decode zbTx_takeFrom 24 = .ok (.aload_n 0, 1) := by decide +kernel
theorem dTx_takeFrom_25 : decode zbTx_takeFrom 25 = .ok (.getfield 9, 3) := by decide +kernel
theorem dTx_takeFrom_28 : decode zbTx_takeFrom 28 = .ok (.aload_n 0, 1) := by decide +kernel
theorem dTx_takeFrom_29 : decode zbTx_takeFrom 29 = .ok (.getfield 19, 3) := by decide +kernel
theorem dTx_takeFrom_32 : decode zbTx_takeFrom 32 = .ok (.caload, 1) := by decide +kernel
theorem dTx_takeFrom_33 : decode zbTx_takeFrom 33 = .ok (.iload_n 1, 1) := by decide +kernel
theorem dTx_takeFrom_34 : decode zbTx_takeFrom 34 = .ok (.iload_n 2, 1) := by decide +kernel
theorem dTx_takeFrom_35 : decode zbTx_takeFrom 35 = .ok (.iadd, 1) := by decide +kernel
theorem dTx_takeFrom_36 : decode zbTx_takeFrom 36 = .ok (.if_icmp .lt 5, 3) := by decide +kernel
theorem dTx_takeFrom_39 : decode zbTx_takeFrom 39 = .ok (.iconst (-1), 1) := by decide +kernel
theorem dTx_takeFrom_40 : decode zbTx_takeFrom 40 = .ok (.ireturn, 1) := by decide +kernel
theorem dTx_takeFrom_41 : decode zbTx_takeFrom 41 = .ok (.aload_n 0, 1) := by decide +kernel
theorem dTx_takeFrom_42 : decode zbTx_takeFrom 42 = .ok (.getfield 9, 3) := by decide +kernel
theorem dTx_takeFrom_45 : decode zbTx_takeFrom 45 = .ok (.aload_n 0, 1) := by decide +kernel
theorem dTx_takeFrom_46 : decode zbTx_takeFrom 46 = .ok (.getfield 19, 3) := by decide +kernel
theorem dTx_takeFrom_49 : decode zbTx_takeFrom 49 = .ok (.caload, 1) := by decide +kernel
theorem dTx_takeFrom_50 : decode zbTx_takeFrom 50 = .ok (.iload_n 1, 1) := by decide +kernel
theorem dTx_takeFrom_51 : decode zbTx_takeFrom 51 = .ok (.isub, 1) := by decide +kernel
theorem dTx_takeFrom_52 : decode zbTx_takeFrom 52 = .ok (.istore_n 3, 1) := by decide +kernel
theorem dTx_takeFrom_53 : decode zbTx_takeFrom 53 = .ok (.aload_n 0, 1) := by decide +kernel
theorem dTx_takeFrom_54 : decode zbTx_takeFrom 54 = .ok (.dup, 1) := by decide +kernel
theorem dTx_takeFrom_55 : decode zbTx_takeFrom 55 = .ok (.getfield 19, 3) := by decide +kernel
theorem dTx_takeFrom_58 : decode zbTx_takeFrom 58 = .ok (.iconst 1, 1) := by decide +kernel
theorem dTx_takeFrom_59 : decode zbTx_takeFrom 59 = .ok (.iadd, 1) := by decide +kernel
theorem dTx_takeFrom_60 : decode zbTx_takeFrom 60 = .ok (.putfield 19, 3) := by decide +kernel
theorem dTx_takeFrom_63 : decode zbTx_takeFrom 63 = .ok (.iload_n 3, 1) := by decide +kernel
theorem dTx_takeFrom_64 : decode zbTx_takeFrom 64 = .ok (.ireturn, 1) := by decide +kernel
theorem dLw_begin_0 : decode zbLw_begin 0 = .ok (.aload_n 1, 1) := by decide +kernel
theorem dLw_begin_1 : decode zbLw_begin 1 = .ok (.iconst 0, 1) := by decide +kernel
theorem dLw_begin_2 : decode zbLw_begin 2 = .ok (.aload_n 0, 1) := by decide +kernel
theorem dLw_begin_3 : decode zbLw_begin 3 = .ok (.invokevirtual 7, 3) := by decide +kernel
theorem dLw_begin_6 : decode zbLw_begin 6 = .ok (.i2l, 1) := by decide +kernel
theorem dLw_begin_7 : decode zbLw_begin 7 = .ok (.lastore, 1) := by decide +kernel
theorem dLw_begin_8 : decode zbLw_begin 8 = .ok (.goto 9, 3) := by decide +kernel
theorem dLw_begin_11 : decode zbLw_begin 11 = .ok (.astore_n 2, 1) := by decide +kernel
theorem dLw_begin_12 : decode zbLw_begin 12 = .ok (.iconst 1, 1) := by decide +kernel
theorem dLw_begin_13 : decode zbLw_begin 13 = .ok (.ireturn, 1) := by decide +kernel
theorem dLw_begin_14 : decode zbLw_begin 14 = .ok (.astore_n 2, 1) := by decide +kernel
theorem dLw_begin_15 : decode zbLw_begin 15 = .ok (.iconst 2, 1) := by decide +kernel
theorem dLw_begin_16 : decode zbLw_begin 16 = .ok (.ireturn, 1) := by decide +kernel
theorem dLw_begin_17 : decode zbLw_begin 17 = .ok (.iconst 0, 1) := by decide +kernel
theorem dLw_begin_18 : decode zbLw_begin 18 = .ok (.ireturn, 1) := by decide +kernel
theorem dLw_event_0 : decode zbLw_event 0 = .ok (.aload_n 3, 1) := by decide +kernel
theorem dLw_event_1 : decode zbLw_event 1 = .ok (.iconst 0, 1) := by decide +kernel
theorem dLw_event_2 : decode zbLw_event 2 = .ok (.aload_n 0, 1) := by decide +kernel
theorem dLw_event_3 : decode zbLw_event 3 = .ok (.iload_n 1, 1) := by decide +kernel
theorem dLw_event_4 : decode zbLw_event 4 = .ok (.iload_n 2, 1) := by decide +kernel
theorem dLw_event_5 : decode zbLw_event 5 = .ok (.invokevirtual 17, 3) := by decide +kernel
theorem dLw_event_8 : decode zbLw_event 8 = .ok (.i2l, 1) := by decide +kernel
theorem dLw_event_9 : decode zbLw_event 9 = .ok (.lastore, 1) := by decide +kernel
theorem dLw_event_10 : decode zbLw_event 10 = .ok (.goto 15, 3) := by decide +kernel
theorem dLw_event_13 : decode zbLw_event 13 = .ok (.astore 4, 2) := by decide +kernel
theorem dLw_event_15 : decode zbLw_event 15 = .ok (.iconst 1, 1) := by decide +kernel
theorem dLw_event_16 : decode zbLw_event 16 = .ok (.ireturn, 1) := by decide +kernel
theorem dLw_event_17 : decode zbLw_event 17 = .ok (.astore 4, 2) := by decide +kernel
theorem dLw_event_19 : decode zbLw_event 19 = .ok (.iconst 2, 1) := by decide +kernel
theorem dLw_event_20 : decode zbLw_event 20 = .ok (.ireturn, 1) := by decide +kernel
theorem dLw_event_21 : decode zbLw_event 21 = .ok (.astore 4, 2) := by decide +kernel
theorem dLw_event_23 : decode zbLw_event 23 = .ok (.iconst 3, 1) := by decide +kernel
theorem dLw_event_24 : decode zbLw_event 24 = .ok (.ireturn, 1) := by decide +kernel
theorem dLw_event_25 : decode zbLw_event 25 = .ok (.iconst 0, 1) := by decide +kernel
theorem dLw_event_26 : decode zbLw_event 26 = .ok (.ireturn, 1) := by decide +kernel
theorem dLw_nextDay_0 : decode zbLw_nextDay 0 = .ok (.aload_n 1, 1) := by decide +kernel
theorem dLw_nextDay_1 : decode zbLw_nextDay 1 = .ok (.iconst 0, 1) := by decide +kernel
theorem dLw_nextDay_2 : decode zbLw_nextDay 2 = .ok (.aload_n 0, 1) := by decide +kernel
theorem dLw_nextDay_3 : decode zbLw_nextDay 3 = .ok (.invokevirtual 23, 3) := by decide +kernel
theorem dLw_nextDay_6 : decode zbLw_nextDay 6 = .ok (.i2l, 1) := by decide +kernel
theorem dLw_nextDay_7 : decode zbLw_nextDay 7 = .ok (.lastore, 1) := by decide +kernel
theorem dLw_nextDay_8 : decode zbLw_nextDay 8 = .ok (.goto 9, 3) := by decide +kernel
theorem dLw_nextDay_11 : decode zbLw_nextDay 11 = .ok (.astore_n 2, 1) := by decide +kernel
theorem dLw_nextDay_12 : decode zbLw_nextDay 12 = .ok (.iconst 1, 1) := by decide +kernel
theorem dLw_nextDay_13 : decode zbLw_nextDay 13 = .ok (.ireturn, 1) := by decide +kernel
theorem dLw_nextDay_14 : decode zbLw_nextDay 14 = .ok (.astore_n 2, 1) := by decide +kernel
theorem dLw_nextDay_15 : decode zbLw_nextDay 15 = .ok (.iconst 2, 1) := by decide +kernel
theorem dLw_nextDay_16 : decode zbLw_nextDay 16 = .ok (.ireturn, 1) := by decide +kernel
theorem dLw_nextDay_17 : decode zbLw_nextDay 17 = .ok (.iconst 0, 1) := by decide +kernel
theorem dLw_nextDay_18 : decode zbLw_nextDay 18 = .ok (.ireturn, 1) := by decide +kernel
theorem dLw_course_0 : decode zbLw_course 0 = .ok (.aload_n 3, 1) := by decide +kernel
theorem dLw_course_1 : decode zbLw_course 1 = .ok (.iconst 0, 1) := by decide +kernel
theorem dLw_course_2 : decode zbLw_course 2 = .ok (.aload_n 0, 1) := by decide +kernel
theorem dLw_course_3 : decode zbLw_course 3 = .ok (.iload_n 1, 1) := by decide +kernel
theorem dLw_course_4 : decode zbLw_course 4 = .ok (.iload_n 2, 1) := by decide +kernel
theorem dLw_course_5 : decode zbLw_course 5 = .ok (.invokevirtual 26, 3) := by decide +kernel
theorem dLw_course_8 : decode zbLw_course 8 = .ok (.i2l, 1) := by decide +kernel
theorem dLw_course_9 : decode zbLw_course 9 = .ok (.lastore, 1) := by decide +kernel
theorem dLw_course_10 : decode zbLw_course 10 = .ok (.goto 11, 3) := by decide +kernel
theorem dLw_course_13 : decode zbLw_course 13 = .ok (.astore 4, 2) := by decide +kernel
theorem dLw_course_15 : decode zbLw_course 15 = .ok (.iconst 1, 1) := by decide +kernel
theorem dLw_course_16 : decode zbLw_course 16 = .ok (.ireturn, 1) := by decide +kernel
theorem dLw_course_17 : decode zbLw_course 17 = .ok (.astore 4, 2) := by decide +kernel
theorem dLw_course_19 : decode zbLw_course 19 = .ok (.iconst 2, 1) := by decide +kernel
theorem dLw_course_20 : decode zbLw_course 20 = .ok (.ireturn, 1) := by decide +kernel
theorem dLw_course_21 : decode zbLw_course 21 = .ok (.iconst 0, 1) := by decide +kernel
theorem dLw_course_22 : decode zbLw_course 22 = .ok (.ireturn, 1) := by decide +kernel
theorem dLw_threat_0 : decode zbLw_threat 0 = .ok (.aload_n 3, 1) := by decide +kernel
theorem dLw_threat_1 : decode zbLw_threat 1 = .ok (.iconst 0, 1) := by decide +kernel
theorem dLw_threat_2 : decode zbLw_threat 2 = .ok (.aload_n 0, 1) := by decide +kernel
theorem dLw_threat_3 : decode zbLw_threat 3 = .ok (.iload_n 1, 1) := by decide +kernel
theorem dLw_threat_4 : decode zbLw_threat 4 = .ok (.iload_n 2, 1) := by decide +kernel
theorem dLw_threat_5 : decode zbLw_threat 5 = .ok (.invokevirtual 29, 3) := by decide +kernel
theorem dLw_threat_8 : decode zbLw_threat 8 = .ok (.i2l, 1) := by decide +kernel
theorem dLw_threat_9 : decode zbLw_threat 9 = .ok (.lastore, 1) := by decide +kernel
theorem dLw_threat_10 : decode zbLw_threat 10 = .ok (.goto 11, 3) := by decide +kernel
theorem dLw_threat_13 : decode zbLw_threat 13 = .ok (.astore 4, 2) := by decide +kernel
theorem dLw_threat_15 : decode zbLw_threat 15 = .ok (.iconst 1, 1) := by decide +kernel
theorem dLw_threat_16 : decode zbLw_threat 16 = .ok (.ireturn, 1) := by decide +kernel
theorem dLw_threat_17 : decode zbLw_threat 17 = .ok (.astore 4, 2) := by decide +kernel
theorem dLw_threat_19 : decode zbLw_threat 19 = .ok (.iconst 2, 1) := by decide +kernel
theorem dLw_threat_20 : decode zbLw_threat 20 = .ok (.ireturn, 1) := by decide +kernel
theorem dLw_threat_21 : decode zbLw_threat 21 = .ok (.iconst 0, 1) := by decide +kernel
theorem dLw_threat_22 : decode zbLw_threat 22 = .ok (.ireturn, 1) := by decide +kernel
theorem dLw_law_0 : decode zbLw_law 0 = .ok (.new 8, 3) := by decide +kernel
theorem dLw_law_3 : decode zbLw_law 3 = .ok (.dup, 1) := by decide +kernel
theorem dLw_law_4 : decode zbLw_law 4 = .ok (.invokespecial 32, 3) := by decide +kernel
theorem dLw_law_7 : decode zbLw_law 7 = .ok (.astore_n 1, 1) := by decide +kernel
theorem dLw_law_8 : decode zbLw_law 8 = .ok (.new 33, 3) := by decide +kernel
theorem dLw_law_11 : decode zbLw_law 11 = .ok (.dup, 1) := by decide +kernel
theorem dLw_law_12 : decode zbLw_law 12 = .ok (.invokespecial 35, 3) := by decide +kernel
theorem dLw_law_15 : decode zbLw_law 15 = .ok (.astore_n 2, 1) := by decide +kernel
theorem dLw_law_16 : decode zbLw_law 16 = .ok (.iconst 1, 1) := by decide +kernel
theorem dLw_law_17 : decode zbLw_law 17 = .ok (.newarray .long, 2) := by decide +kernel
theorem dLw_law_19 : decode zbLw_law 19 = .ok (.astore_n 3, 1) := by decide +kernel
theorem dLw_law_20 : decode zbLw_law 20 = .ok (.iconst 0, 1) := by decide +kernel
theorem dLw_law_21 : decode zbLw_law 21 = .ok (.istore 4, 2) := by decide +kernel
theorem dLw_law_23 : decode zbLw_law 23 = .ok (.iload 4, 2) := by decide +kernel
theorem dLw_law_25 : decode zbLw_law 25 = .ok (.aload_n 0, 1) := by decide +kernel
theorem dLw_law_26 : decode zbLw_law 26 = .ok (.arraylength, 1) := by decide +kernel
theorem dLw_law_27 : decode zbLw_law 27 = .ok (.iconst 3, 1) := by decide +kernel
theorem dLw_law_28 : decode zbLw_law 28 = .ok (.isub, 1) := by decide +kernel
theorem dLw_law_29 : decode zbLw_law 29 = .ok (.if_icmp .gt 685, 3) := by decide +kernel
theorem dLw_law_32 : decode zbLw_law 32 = .ok (.aload_n 0, 1) := by decide +kernel
theorem dLw_law_33 : decode zbLw_law 33 = .ok (.iload 4, 2) := by decide +kernel
theorem dLw_law_35 : decode zbLw_law 35 = .ok (.iaload, 1) := by decide +kernel
theorem dLw_law_36 : decode zbLw_law 36 = .ok (.bipush 31, 2) := by decide +kernel
theorem dLw_law_38 : decode zbLw_law 38 = .ok (.iand, 1) := by decide +kernel
theorem dLw_law_39 : decode zbLw_law 39 = .ok (.tableswitch 669 0 16 #[81, 138, 151, 176, 220, 233, 246, 314, 358, 371, 384, 409, 434, 459, 496, 533, 601], 81) := by decide +kernel
theorem dLw_law_120 : decode zbLw_law 120 = .ok (.aload_n 1, 1) := by decide +kernel
theorem dLw_law_121 : decode zbLw_law 121 = .ok (.aload_n 0, 1) := by decide +kernel
theorem dLw_law_122 : decode zbLw_law 122 = .ok (.iload 4, 2) := by decide +kernel
theorem dLw_law_124 : decode zbLw_law 124 = .ok (.iconst 1, 1) := by decide +kernel
theorem dLw_law_125 : decode zbLw_law 125 = .ok (.iadd, 1) := by decide +kernel
theorem dLw_law_126 : decode zbLw_law 126 = .ok (.iaload, 1) := by decide +kernel
theorem dLw_law_127 : decode zbLw_law 127 = .ok (.i2l, 1) := by decide +kernel
theorem dLw_law_128 : decode zbLw_law 128 = .ok (.bipush 32, 2) := by decide +kernel
theorem dLw_law_130 : decode zbLw_law 130 = .ok (.lshl, 1) := by decide +kernel
theorem dLw_law_131 : decode zbLw_law 131 = .ok (.aload_n 0, 1) := by decide +kernel
theorem dLw_law_132 : decode zbLw_law 132 = .ok (.iload 4, 2) := by decide +kernel
theorem dLw_law_134 : decode zbLw_law 134 = .ok (.iconst 2, 1) := by decide +kernel
theorem dLw_law_135 : decode zbLw_law 135 = .ok (.iadd, 1) := by decide +kernel
theorem dLw_law_136 : decode zbLw_law 136 = .ok (.iaload, 1) := by decide +kernel
theorem dLw_law_137 : decode zbLw_law 137 = .ok (.i2l, 1) := by decide +kernel
theorem dLw_law_138 : decode zbLw_law 138 = .ok (.ldc2_w 36, 3) := by decide +kernel
theorem dLw_law_141 : decode zbLw_law 141 = .ok (.land, 1) := by decide +kernel
theorem dLw_law_142 : decode zbLw_law 142 = .ok (.lor, 1) := by decide +kernel
theorem dLw_law_143 : decode zbLw_law 143 = .ok (.invokevirtual 38, 3) := by decide +kernel
theorem dLw_law_146 : decode zbLw_law 146 = .ok (.aload_n 2, 1) := by decide +kernel
theorem dLw_law_147 : decode zbLw_law 147 = .ok (.aload_n 0, 1) := by decide +kernel
theorem dLw_law_148 : decode zbLw_law 148 = .ok (.iload 4, 2) := by decide +kernel
theorem dLw_law_150 : decode zbLw_law 150 = .ok (.iconst 1, 1) := by decide +kernel
theorem dLw_law_151 : decode zbLw_law 151 = .ok (.iadd, 1) := by decide +kernel
theorem dLw_law_152 : decode zbLw_law 152 = .ok (.iaload, 1) := by decide +kernel
theorem dLw_law_153 : decode zbLw_law 153 = .ok (.i2l, 1) := by decide +kernel
theorem dLw_law_154 : decode zbLw_law 154 = .ok (.bipush 32, 2) := by decide +kernel
theorem dLw_law_156 : decode zbLw_law 156 = .ok (.lshl, 1) := by decide +kernel
theorem dLw_law_157 : decode zbLw_law 157 = .ok (.aload_n 0, 1) := by decide +kernel
theorem dLw_law_158 : decode zbLw_law 158 = .ok (.iload 4, 2) := by decide +kernel
theorem dLw_law_160 : decode zbLw_law 160 = .ok (.iconst 2, 1) := by decide +kernel
theorem dLw_law_161 : decode zbLw_law 161 = .ok (.iadd, 1) := by decide +kernel
theorem dLw_law_162 : decode zbLw_law 162 = .ok (.iaload, 1) := by decide +kernel
theorem dLw_law_163 : decode zbLw_law 163 = .ok (.i2l, 1) := by decide +kernel
theorem dLw_law_164 : decode zbLw_law 164 = .ok (.ldc2_w 36, 3) := by decide +kernel
theorem dLw_law_167 : decode zbLw_law 167 = .ok (.land, 1) := by decide +kernel
theorem dLw_law_168 : decode zbLw_law 168 = .ok (.lor, 1) := by decide +kernel
theorem dLw_law_169 : decode zbLw_law 169 = .ok (.invokevirtual 42, 3) := by decide +kernel
theorem dLw_law_172 : decode zbLw_law 172 = .ok (.if_icmp .eq 536, 3) := by decide +kernel
theorem dLw_law_175 : decode zbLw_law 175 = .ok (.iconst 0, 1) := by decide +kernel
theorem dLw_law_176 : decode zbLw_law 176 = .ok (.ireturn, 1) := by decide +kernel
theorem dLw_law_177 : decode zbLw_law 177 = .ok (.aload_n 1, 1) := by decide +kernel
theorem dLw_law_178 : decode zbLw_law 178 = .ok (.invokevirtual 43, 3) := by decide +kernel
theorem dLw_law_181 : decode zbLw_law 181 = .ok (.aload_n 2, 1) := by decide +kernel
theorem dLw_law_182 : decode zbLw_law 182 = .ok (.invokevirtual 46, 3) := by decide +kernel
theorem dLw_law_185 : decode zbLw_law 185 = .ok (.if_icmp .eq 523, 3) := by decide +kernel
theorem dLw_law_188 : decode zbLw_law 188 = .ok (.iconst 0, 1) := by decide +kernel
theorem dLw_law_189 : decode zbLw_law 189 = .ok (.ireturn, 1) := by decide +kernel
theorem dLw_law_190 : decode zbLw_law 190 = .ok (.aload_n 1, 1) := by decide +kernel
theorem dLw_law_191 : decode zbLw_law 191 = .ok (.aload_n 0, 1) := by decide +kernel
theorem dLw_law_192 : decode zbLw_law 192 = .ok (.iload 4, 2) := by decide +kernel
theorem dLw_law_194 : decode zbLw_law 194 = .ok (.iconst 1, 1) := by decide +kernel
theorem dLw_law_195 : decode zbLw_law 195 = .ok (.iadd, 1) := by decide +kernel
theorem dLw_law_196 : decode zbLw_law 196 = .ok (.iaload, 1) := by decide +kernel
theorem dLw_law_197 : decode zbLw_law 197 = .ok (.invokevirtual 47, 3) := by decide +kernel
theorem dLw_law_200 : decode zbLw_law 200 = .ok (.aload_n 2, 1) := by decide +kernel
theorem dLw_law_201 : decode zbLw_law 201 = .ok (.aload_n 0, 1) := by decide +kernel
theorem dLw_law_202 : decode zbLw_law 202 = .ok (.iload 4, 2) := by decide +kernel
theorem dLw_law_204 : decode zbLw_law 204 = .ok (.iconst 1, 1) := by decide +kernel
theorem dLw_law_205 : decode zbLw_law 205 = .ok (.iadd, 1) := by decide +kernel
theorem dLw_law_206 : decode zbLw_law 206 = .ok (.iaload, 1) := by decide +kernel
theorem dLw_law_207 : decode zbLw_law 207 = .ok (.invokevirtual 51, 3) := by decide +kernel
theorem dLw_law_210 : decode zbLw_law 210 = .ok (.if_icmp .eq 498, 3) := by decide +kernel
theorem dLw_law_213 : decode zbLw_law 213 = .ok (.iconst 0, 1) := by decide +kernel
theorem dLw_law_214 : decode zbLw_law 214 = .ok (.ireturn, 1) := by decide +kernel
theorem dLw_law_215 : decode zbLw_law 215 = .ok (.aload_n 1, 1) := by decide +kernel
theorem dLw_law_216 : decode zbLw_law 216 = .ok (.aload_n 3, 1) := by decide +kernel
theorem dLw_law_217 : decode zbLw_law 217 = .ok (.invokestatic 52, 3) := by decide +kernel
theorem dLw_law_220 : decode zbLw_law 220 = .ok (.istore 5, 2) := by decide +kernel
theorem dLw_law_222 : decode zbLw_law 222 = .ok (.aload_n 2, 1) := by decide +kernel
theorem dLw_law_223 : decode zbLw_law 223 = .ok (.invokevirtual 57, 3) := by decide +kernel
theorem dLw_law_226 : decode zbLw_law 226 = .ok (.istore 6, 2) := by decide +kernel
theorem dLw_law_228 : decode zbLw_law 228 = .ok (.aload_n 2, 1) := by decide +kernel
theorem dLw_law_229 : decode zbLw_law 229 = .ok (.invokevirtual 58, 3) := by decide +kernel
theorem dLw_law_232 : decode zbLw_law 232 = .ok (.iload 5, 2) := by decide +kernel
theorem dLw_law_234 : decode zbLw_law 234 = .ok (.if_icmp .eq 5, 3) := by decide +kernel
theorem dLw_law_237 : decode zbLw_law 237 = .ok (.iconst 0, 1) := by decide +kernel
theorem dLw_law_238 : decode zbLw_law 238 = .ok (.ireturn, 1) := by decide +kernel
theorem dLw_law_239 : decode zbLw_law 239 = .ok (.iload 5, 2) := by decide +kernel
theorem dLw_law_241 : decode zbLw_law 241 = .ok (.ifCond .ne 15, 3) := by decide +kernel
theorem dLw_law_244 : decode zbLw_law 244 = .ok (.aload_n 3, 1) := by decide +kernel
theorem dLw_law_245 : decode zbLw_law 245 = .ok (.iconst 0, 1) := by decide +kernel
theorem dLw_law_246 : decode zbLw_law 246 = .ok (.laload, 1) := by decide +kernel
theorem dLw_law_247 : decode zbLw_law 247 = .ok (.iload 6, 2) := by decide +kernel
theorem dLw_law_249 : decode zbLw_law 249 = .ok (.i2l, 1) := by decide +kernel
theorem dLw_law_250 : decode zbLw_law 250 = .ok (.lcmp, 1) := by decide +kernel
theorem dLw_law_251 : decode zbLw_law 251 = .ok (.ifCond .eq 5, 3) := by decide +kernel
theorem dLw_law_254 : decode zbLw_law 254 = .ok (.iconst 0, 1) := by decide +kernel
theorem dLw_law_255 : decode zbLw_law 255 = .ok (.ireturn, 1) := by decide +kernel
theorem dLw_law_256 : decode zbLw_law 256 = .ok (.goto 452, 3) := by decide +kernel
theorem dLw_law_259 : decode zbLw_law 259 = .ok (.aload_n 1, 1) := by decide +kernel
theorem dLw_law_260 : decode zbLw_law 260 = .ok (.invokevirtual 61, 3) := by decide +kernel
theorem dLw_law_263 : decode zbLw_law 263 = .ok (.aload_n 2, 1) := by decide +kernel
theorem dLw_law_264 : decode zbLw_law 264 = .ok (.invokevirtual 65, 3) := by decide +kernel
theorem dLw_law_267 : decode zbLw_law 267 = .ok (.if_icmp .eq 441, 3) := by decide +kernel
theorem dLw_law_270 : decode zbLw_law 270 = .ok (.iconst 0, 1) := by decide +kernel
theorem dLw_law_271 : decode zbLw_law 271 = .ok (.ireturn, 1) := by decide +kernel
theorem dLw_law_272 : decode zbLw_law 272 = .ok (.aload_n 1, 1) := by decide +kernel
theorem dLw_law_273 : decode zbLw_law 273 = .ok (.invokevirtual 66, 3) := by decide +kernel
theorem dLw_law_276 : decode zbLw_law 276 = .ok (.aload_n 2, 1) := by decide +kernel
theorem dLw_law_277 : decode zbLw_law 277 = .ok (.invokevirtual 69, 3) := by decide +kernel
theorem dLw_law_280 : decode zbLw_law 280 = .ok (.if_icmp .eq 428, 3) := by decide +kernel
theorem dLw_law_283 : decode zbLw_law 283 = .ok (.iconst 0, 1) := by decide +kernel
theorem dLw_law_284 : decode zbLw_law 284 = .ok (.ireturn, 1) := by decide +kernel
theorem dLw_law_285 : decode zbLw_law 285 = .ok (.aload_n 1, 1) := by decide +kernel
theorem dLw_law_286 : decode zbLw_law 286 = .ok (.aload_n 0, 1) := by decide +kernel
theorem dLw_law_287 : decode zbLw_law 287 = .ok (.iload 4, 2) := by decide +kernel
theorem dLw_law_289 : decode zbLw_law 289 = .ok (.iconst 1, 1) := by decide +kernel
theorem dLw_law_290 : decode zbLw_law 290 = .ok (.iadd, 1) := by decide +kernel
theorem dLw_law_291 : decode zbLw_law 291 = .ok (.iaload, 1) := by decide +kernel
theorem dLw_law_292 : decode zbLw_law 292 = .ok (.aload_n 0, 1) := by decide +kernel
theorem dLw_law_293 : decode zbLw_law 293 = .ok (.iload 4, 2) := by decide +kernel
theorem dLw_law_295 : decode zbLw_law 295 = .ok (.iconst 2, 1) := by decide +kernel
theorem dLw_law_296 : decode zbLw_law 296 = .ok (.iadd, 1) := by decide +kernel
theorem dLw_law_297 : decode zbLw_law 297 = .ok (.iaload, 1) := by decide +kernel
theorem dLw_law_298 : decode zbLw_law 298 = .ok (.aload_n 3, 1) := by decide +kernel
theorem dLw_law_299 : decode zbLw_law 299 = .ok (.invokestatic 70, 3) := by decide +kernel
theorem dLw_law_302 : decode zbLw_law 302 = .ok (.istore 5, 2) := by decide +kernel
theorem dLw_law_304 : decode zbLw_law 304 = .ok (.aload_n 2, 1) := by decide +kernel
theorem dLw_law_305 : decode zbLw_law 305 = .ok (.aload_n 0, 1) := by decide +kernel
theorem dLw_law_306 : decode zbLw_law 306 = .ok (.iload 4, 2) := by decide +kernel
theorem dLw_law_308 : decode zbLw_law 308 = .ok (.iconst 1, 1) := by decide +kernel
theorem dLw_law_309 : decode zbLw_law 309 = .ok (.iadd, 1) := by decide +kernel
theorem dLw_law_310 : decode zbLw_law 310 = .ok (.iaload, 1) := by decide +kernel
theorem dLw_law_311 : decode zbLw_law 311 = .ok (.aload_n 0, 1) := by decide +kernel
theorem dLw_law_312 : decode zbLw_law 312 = .ok (.iload 4, 2) := by decide +kernel
theorem dLw_law_314 : decode zbLw_law 314 = .ok (.iconst 2, 1) := by decide +kernel
theorem dLw_law_315 : decode zbLw_law 315 = .ok (.iadd, 1) := by decide +kernel
theorem dLw_law_316 : decode zbLw_law 316 = .ok (.iaload, 1) := by decide +kernel
theorem dLw_law_317 : decode zbLw_law 317 = .ok (.invokevirtual 73, 3) := by decide +kernel
theorem dLw_law_320 : decode zbLw_law 320 = .ok (.istore 6, 2) := by decide +kernel
theorem dLw_law_322 : decode zbLw_law 322 = .ok (.aload_n 2, 1) := by decide +kernel
theorem dLw_law_323 : decode zbLw_law 323 = .ok (.invokevirtual 58, 3) := by decide +kernel
theorem dLw_law_326 : decode zbLw_law 326 = .ok (.iload 5, 2) := by decide +kernel
theorem dLw_law_328 : decode zbLw_law 328 = .ok (.if_icmp .eq 5, 3) := by decide +kernel
theorem dLw_law_331 : decode zbLw_law 331 = .ok (.iconst 0, 1) := by decide +kernel
theorem dLw_law_332 : decode zbLw_law 332 = .ok (.ireturn, 1) := by decide +kernel
theorem dLw_law_333 : decode zbLw_law 333 = .ok (.iload 5, 2) := by decide +kernel
theorem dLw_law_335 : decode zbLw_law 335 = .ok (.ifCond .ne 15, 3) := by decide +kernel
theorem dLw_law_338 : decode zbLw_law 338 = .ok (.aload_n 3, 1) := by decide +kernel
theorem dLw_law_339 : decode zbLw_law 339 = .ok (.iconst 0, 1) := by decide +kernel
theorem dLw_law_340 : decode zbLw_law 340 = .ok (.laload, 1) := by decide +kernel
theorem dLw_law_341 : decode zbLw_law 341 = .ok (.iload 6, 2) := by decide +kernel
theorem dLw_law_343 : decode zbLw_law 343 = .ok (.i2l, 1) := by decide +kernel
theorem dLw_law_344 : decode zbLw_law 344 = .ok (.lcmp, 1) := by decide +kernel
theorem dLw_law_345 : decode zbLw_law 345 = .ok (.ifCond .eq 5, 3) := by decide +kernel
theorem dLw_law_348 : decode zbLw_law 348 = .ok (.iconst 0, 1) := by decide +kernel
theorem dLw_law_349 : decode zbLw_law 349 = .ok (.ireturn, 1) := by decide +kernel
theorem dLw_law_350 : decode zbLw_law 350 = .ok (.goto 358, 3) := by decide +kernel
theorem dLw_law_353 : decode zbLw_law 353 = .ok (.aload_n 1, 1) := by decide +kernel
theorem dLw_law_354 : decode zbLw_law 354 = .ok (.aload_n 3, 1) := by decide +kernel
theorem dLw_law_355 : decode zbLw_law 355 = .ok (.invokestatic 74, 3) := by decide +kernel
theorem dLw_law_358 : decode zbLw_law 358 = .ok (.istore 5, 2) := by decide +kernel
theorem dLw_law_360 : decode zbLw_law 360 = .ok (.aload_n 2, 1) := by decide +kernel
theorem dLw_law_361 : decode zbLw_law 361 = .ok (.invokevirtual 76, 3) := by decide +kernel
theorem dLw_law_364 : decode zbLw_law 364 = .ok (.istore 6, 2) := by decide +kernel
theorem dLw_law_366 : decode zbLw_law 366 = .ok (.aload_n 2, 1) := by decide +kernel
theorem dLw_law_367 : decode zbLw_law 367 = .ok (.invokevirtual 58, 3) := by decide +kernel
theorem dLw_law_370 : decode zbLw_law 370 = .ok (.iload 5, 2) := by decide +kernel
theorem dLw_law_372 : decode zbLw_law 372 = .ok (.if_icmp .eq 5, 3) := by decide +kernel
theorem dLw_law_375 : decode zbLw_law 375 = .ok (.iconst 0, 1) := by decide +kernel
theorem dLw_law_376 : decode zbLw_law 376 = .ok (.ireturn, 1) := by decide +kernel
theorem dLw_law_377 : decode zbLw_law 377 = .ok (.iload 5, 2) := by decide +kernel
theorem dLw_law_379 : decode zbLw_law 379 = .ok (.ifCond .ne 15, 3) := by decide +kernel
theorem dLw_law_382 : decode zbLw_law 382 = .ok (.aload_n 3, 1) := by decide +kernel
theorem dLw_law_383 : decode zbLw_law 383 = .ok (.iconst 0, 1) := by decide +kernel
theorem dLw_law_384 : decode zbLw_law 384 = .ok (.laload, 1) := by decide +kernel
theorem dLw_law_385 : decode zbLw_law 385 = .ok (.iload 6, 2) := by decide +kernel
theorem dLw_law_387 : decode zbLw_law 387 = .ok (.i2l, 1) := by decide +kernel
theorem dLw_law_388 : decode zbLw_law 388 = .ok (.lcmp, 1) := by decide +kernel
theorem dLw_law_389 : decode zbLw_law 389 = .ok (.ifCond .eq 5, 3) := by decide +kernel
theorem dLw_law_392 : decode zbLw_law 392 = .ok (.iconst 0, 1) := by decide +kernel
theorem dLw_law_393 : decode zbLw_law 393 = .ok (.ireturn, 1) := by decide +kernel
theorem dLw_law_394 : decode zbLw_law 394 = .ok (.goto 314, 3) := by decide +kernel
theorem dLw_law_397 : decode zbLw_law 397 = .ok (.aload_n 1, 1) := by decide +kernel
theorem dLw_law_398 : decode zbLw_law 398 = .ok (.invokevirtual 77, 3) := by decide +kernel
theorem dLw_law_401 : decode zbLw_law 401 = .ok (.aload_n 2, 1) := by decide +kernel
theorem dLw_law_402 : decode zbLw_law 402 = .ok (.invokevirtual 80, 3) := by decide +kernel
theorem dLw_law_405 : decode zbLw_law 405 = .ok (.if_icmp .eq 303, 3) := by decide +kernel
theorem dLw_law_408 : decode zbLw_law 408 = .ok (.iconst 0, 1) := by decide +kernel
theorem dLw_law_409 : decode zbLw_law 409 = .ok (.ireturn, 1) := by decide +kernel
theorem dLw_law_410 : decode zbLw_law 410 = .ok (.aload_n 1, 1) := by decide +kernel
theorem dLw_law_411 : decode zbLw_law 411 = .ok (.invokevirtual 81, 3) := by decide +kernel
theorem dLw_law_414 : decode zbLw_law 414 = .ok (.aload_n 2, 1) := by decide +kernel
theorem dLw_law_415 : decode zbLw_law 415 = .ok (.invokevirtual 84, 3) := by decide +kernel
theorem dLw_law_418 : decode zbLw_law 418 = .ok (.if_icmp .eq 290, 3) := by decide +kernel
theorem dLw_law_421 : decode zbLw_law 421 = .ok (.iconst 0, 1) := by decide +kernel
theorem dLw_law_422 : decode zbLw_law 422 = .ok (.ireturn, 1) := by decide +kernel
theorem dLw_law_423 : decode zbLw_law 423 = .ok (.aload_n 1, 1) := by decide +kernel
theorem dLw_law_424 : decode zbLw_law 424 = .ok (.aload_n 0, 1) := by decide +kernel
theorem dLw_law_425 : decode zbLw_law 425 = .ok (.iload 4, 2) := by decide +kernel
theorem dLw_law_427 : decode zbLw_law 427 = .ok (.iconst 1, 1) := by decide +kernel
theorem dLw_law_428 : decode zbLw_law 428 = .ok (.iadd, 1) := by decide +kernel
theorem dLw_law_429 : decode zbLw_law 429 = .ok (.iaload, 1) := by decide +kernel
theorem dLw_law_430 : decode zbLw_law 430 = .ok (.invokevirtual 85, 3) := by decide +kernel
theorem dLw_law_433 : decode zbLw_law 433 = .ok (.aload_n 2, 1) := by decide +kernel
theorem dLw_law_434 : decode zbLw_law 434 = .ok (.aload_n 0, 1) := by decide +kernel
theorem dLw_law_435 : decode zbLw_law 435 = .ok (.iload 4, 2) := by decide +kernel
theorem dLw_law_437 : decode zbLw_law 437 = .ok (.iconst 1, 1) := by decide +kernel
theorem dLw_law_438 : decode zbLw_law 438 = .ok (.iadd, 1) := by decide +kernel
theorem dLw_law_439 : decode zbLw_law 439 = .ok (.iaload, 1) := by decide +kernel
theorem dLw_law_440 : decode zbLw_law 440 = .ok (.invokevirtual 89, 3) := by decide +kernel
theorem dLw_law_443 : decode zbLw_law 443 = .ok (.if_icmp .eq 265, 3) := by decide +kernel
theorem dLw_law_446 : decode zbLw_law 446 = .ok (.iconst 0, 1) := by decide +kernel
theorem dLw_law_447 : decode zbLw_law 447 = .ok (.ireturn, 1) := by decide +kernel
theorem dLw_law_448 : decode zbLw_law 448 = .ok (.aload_n 1, 1) := by decide +kernel
theorem dLw_law_449 : decode zbLw_law 449 = .ok (.aload_n 0, 1) := by decide +kernel
theorem dLw_law_450 : decode zbLw_law 450 = .ok (.iload 4, 2) := by decide +kernel
theorem dLw_law_452 : decode zbLw_law 452 = .ok (.iconst 1, 1) := by decide +kernel
theorem dLw_law_453 : decode zbLw_law 453 = .ok (.iadd, 1) := by decide +kernel
theorem dLw_law_454 : decode zbLw_law 454 = .ok (.iaload, 1) := by decide +kernel
theorem dLw_law_455 : decode zbLw_law 455 = .ok (.invokevirtual 90, 3) := by decide +kernel
theorem dLw_law_458 : decode zbLw_law 458 = .ok (.aload_n 2, 1) := by decide +kernel
theorem dLw_law_459 : decode zbLw_law 459 = .ok (.aload_n 0, 1) := by decide +kernel
theorem dLw_law_460 : decode zbLw_law 460 = .ok (.iload 4, 2) := by decide +kernel
theorem dLw_law_462 : decode zbLw_law 462 = .ok (.iconst 1, 1) := by decide +kernel
theorem dLw_law_463 : decode zbLw_law 463 = .ok (.iadd, 1) := by decide +kernel
theorem dLw_law_464 : decode zbLw_law 464 = .ok (.iaload, 1) := by decide +kernel
theorem dLw_law_465 : decode zbLw_law 465 = .ok (.invokevirtual 93, 3) := by decide +kernel
theorem dLw_law_468 : decode zbLw_law 468 = .ok (.if_icmp .eq 240, 3) := by decide +kernel
theorem dLw_law_471 : decode zbLw_law 471 = .ok (.iconst 0, 1) := by decide +kernel
theorem dLw_law_472 : decode zbLw_law 472 = .ok (.ireturn, 1) := by decide +kernel
theorem dLw_law_473 : decode zbLw_law 473 = .ok (.aload_n 1, 1) := by decide +kernel
theorem dLw_law_474 : decode zbLw_law 474 = .ok (.aload_n 0, 1) := by decide +kernel
theorem dLw_law_475 : decode zbLw_law 475 = .ok (.iload 4, 2) := by decide +kernel
theorem dLw_law_477 : decode zbLw_law 477 = .ok (.iconst 1, 1) := by decide +kernel
theorem dLw_law_478 : decode zbLw_law 478 = .ok (.iadd, 1) := by decide +kernel
theorem dLw_law_479 : decode zbLw_law 479 = .ok (.iaload, 1) := by decide +kernel
theorem dLw_law_480 : decode zbLw_law 480 = .ok (.invokevirtual 94, 3) := by decide +kernel
theorem dLw_law_483 : decode zbLw_law 483 = .ok (.aload_n 2, 1) := by decide +kernel
theorem dLw_law_484 : decode zbLw_law 484 = .ok (.aload_n 0, 1) := by decide +kernel
theorem dLw_law_485 : decode zbLw_law 485 = .ok (.iload 4, 2) := by decide +kernel
theorem dLw_law_487 : decode zbLw_law 487 = .ok (.iconst 1, 1) := by decide +kernel
theorem dLw_law_488 : decode zbLw_law 488 = .ok (.iadd, 1) := by decide +kernel
theorem dLw_law_489 : decode zbLw_law 489 = .ok (.iaload, 1) := by decide +kernel
theorem dLw_law_490 : decode zbLw_law 490 = .ok (.invokevirtual 97, 3) := by decide +kernel
theorem dLw_law_493 : decode zbLw_law 493 = .ok (.if_icmp .eq 215, 3) := by decide +kernel
theorem dLw_law_496 : decode zbLw_law 496 = .ok (.iconst 0, 1) := by decide +kernel
theorem dLw_law_497 : decode zbLw_law 497 = .ok (.ireturn, 1) := by decide +kernel
theorem dLw_law_498 : decode zbLw_law 498 = .ok (.aload_n 1, 1) := by decide +kernel
theorem dLw_law_499 : decode zbLw_law 499 = .ok (.aload_n 0, 1) := by decide +kernel
theorem dLw_law_500 : decode zbLw_law 500 = .ok (.iload 4, 2) := by decide +kernel
theorem dLw_law_502 : decode zbLw_law 502 = .ok (.iconst 1, 1) := by decide +kernel
theorem dLw_law_503 : decode zbLw_law 503 = .ok (.iadd, 1) := by decide +kernel
theorem dLw_law_504 : decode zbLw_law 504 = .ok (.iaload, 1) := by decide +kernel
theorem dLw_law_505 : decode zbLw_law 505 = .ok (.aload_n 0, 1) := by decide +kernel
theorem dLw_law_506 : decode zbLw_law 506 = .ok (.iload 4, 2) := by decide +kernel
theorem dLw_law_508 : decode zbLw_law 508 = .ok (.iconst 2, 1) := by decide +kernel
theorem dLw_law_509 : decode zbLw_law 509 = .ok (.iadd, 1) := by decide +kernel
theorem dLw_law_510 : decode zbLw_law 510 = .ok (.iaload, 1) := by decide +kernel
theorem dLw_law_511 : decode zbLw_law 511 = .ok (.invokevirtual 98, 3) := by decide +kernel
theorem dLw_law_514 : decode zbLw_law 514 = .ok (.aload_n 2, 1) := by decide +kernel
theorem dLw_law_515 : decode zbLw_law 515 = .ok (.aload_n 0, 1) := by decide +kernel
theorem dLw_law_516 : decode zbLw_law 516 = .ok (.iload 4, 2) := by decide +kernel
theorem dLw_law_518 : decode zbLw_law 518 = .ok (.iconst 1, 1) := by decide +kernel
theorem dLw_law_519 : decode zbLw_law 519 = .ok (.iadd, 1) := by decide +kernel
theorem dLw_law_520 : decode zbLw_law 520 = .ok (.iaload, 1) := by decide +kernel
theorem dLw_law_521 : decode zbLw_law 521 = .ok (.aload_n 0, 1) := by decide +kernel
theorem dLw_law_522 : decode zbLw_law 522 = .ok (.iload 4, 2) := by decide +kernel
theorem dLw_law_524 : decode zbLw_law 524 = .ok (.iconst 2, 1) := by decide +kernel
theorem dLw_law_525 : decode zbLw_law 525 = .ok (.iadd, 1) := by decide +kernel
theorem dLw_law_526 : decode zbLw_law 526 = .ok (.iaload, 1) := by decide +kernel
theorem dLw_law_527 : decode zbLw_law 527 = .ok (.invokevirtual 101, 3) := by decide +kernel
theorem dLw_law_530 : decode zbLw_law 530 = .ok (.if_icmp .eq 178, 3) := by decide +kernel
theorem dLw_law_533 : decode zbLw_law 533 = .ok (.iconst 0, 1) := by decide +kernel
theorem dLw_law_534 : decode zbLw_law 534 = .ok (.ireturn, 1) := by decide +kernel
theorem dLw_law_535 : decode zbLw_law 535 = .ok (.aload_n 1, 1) := by decide +kernel
theorem dLw_law_536 : decode zbLw_law 536 = .ok (.aload_n 0, 1) := by decide +kernel
theorem dLw_law_537 : decode zbLw_law 537 = .ok (.iload 4, 2) := by decide +kernel
theorem dLw_law_539 : decode zbLw_law 539 = .ok (.iconst 1, 1) := by decide +kernel
theorem dLw_law_540 : decode zbLw_law 540 = .ok (.iadd, 1) := by decide +kernel
theorem dLw_law_541 : decode zbLw_law 541 = .ok (.iaload, 1) := by decide +kernel
theorem dLw_law_542 : decode zbLw_law 542 = .ok (.aload_n 0, 1) := by decide +kernel
theorem dLw_law_543 : decode zbLw_law 543 = .ok (.iload 4, 2) := by decide +kernel
theorem dLw_law_545 : decode zbLw_law 545 = .ok (.iconst 2, 1) := by decide +kernel
theorem dLw_law_546 : decode zbLw_law 546 = .ok (.iadd, 1) := by decide +kernel
theorem dLw_law_547 : decode zbLw_law 547 = .ok (.iaload, 1) := by decide +kernel
theorem dLw_law_548 : decode zbLw_law 548 = .ok (.invokevirtual 102, 3) := by decide +kernel
theorem dLw_law_551 : decode zbLw_law 551 = .ok (.aload_n 2, 1) := by decide +kernel
theorem dLw_law_552 : decode zbLw_law 552 = .ok (.aload_n 0, 1) := by decide +kernel
theorem dLw_law_553 : decode zbLw_law 553 = .ok (.iload 4, 2) := by decide +kernel
theorem dLw_law_555 : decode zbLw_law 555 = .ok (.iconst 1, 1) := by decide +kernel
theorem dLw_law_556 : decode zbLw_law 556 = .ok (.iadd, 1) := by decide +kernel
theorem dLw_law_557 : decode zbLw_law 557 = .ok (.iaload, 1) := by decide +kernel
theorem dLw_law_558 : decode zbLw_law 558 = .ok (.aload_n 0, 1) := by decide +kernel
theorem dLw_law_559 : decode zbLw_law 559 = .ok (.iload 4, 2) := by decide +kernel
theorem dLw_law_561 : decode zbLw_law 561 = .ok (.iconst 2, 1) := by decide +kernel
theorem dLw_law_562 : decode zbLw_law 562 = .ok (.iadd, 1) := by decide +kernel
theorem dLw_law_563 : decode zbLw_law 563 = .ok (.iaload, 1) := by decide +kernel
theorem dLw_law_564 : decode zbLw_law 564 = .ok (.invokevirtual 105, 3) := by decide +kernel
theorem dLw_law_567 : decode zbLw_law 567 = .ok (.if_icmp .eq 141, 3) := by decide +kernel
theorem dLw_law_570 : decode zbLw_law 570 = .ok (.iconst 0, 1) := by decide +kernel
theorem dLw_law_571 : decode zbLw_law 571 = .ok (.ireturn, 1) := by decide +kernel
theorem dLw_law_572 : decode zbLw_law 572 = .ok (.aload_n 1, 1) := by decide +kernel
theorem dLw_law_573 : decode zbLw_law 573 = .ok (.aload_n 0, 1) := by decide +kernel
theorem dLw_law_574 : decode zbLw_law 574 = .ok (.iload 4, 2) := by decide +kernel
theorem dLw_law_576 : decode zbLw_law 576 = .ok (.iconst 1, 1) := by decide +kernel
theorem dLw_law_577 : decode zbLw_law 577 = .ok (.iadd, 1) := by decide +kernel
theorem dLw_law_578 : decode zbLw_law 578 = .ok (.iaload, 1) := by decide +kernel
