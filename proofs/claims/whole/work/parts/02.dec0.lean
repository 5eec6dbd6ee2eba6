theorem dPm_init_0 : decode zbPm_init 0 = .ok (.aload_n 0, 1) := by decide +kernel
theorem dPm_init_1 : decode zbPm_init 1 = .ok (.invokespecial 1, 3) := by decide +kernel
theorem dPm_init_4 : decode zbPm_init 4 = .ok (.aload_n 0, 1) := by decide +kernel
theorem dPm_init_5 : decode zbPm_init 5 = .ok (.new 7, 3) := by decide +kernel
theorem dPm_init_8 : decode zbPm_init 8 = .ok (.dup, 1) := by decide +kernel
theorem dPm_init_9 : decode zbPm_init 9 = .ok (.invokespecial 9, 3) := by decide +kernel
theorem dPm_init_12 : decode zbPm_init 12 = .ok (.putfield 10, 3) := by decide +kernel
theorem dPm_init_15 : decode zbPm_init 15 = .ok (.aload_n 0, 1) := by decide +kernel
theorem dPm_init_16 : decode zbPm_init 16 = .ok (.iconst (-1), 1) := by decide +kernel
theorem dPm_init_17 : decode zbPm_init 17 = .ok (.putfield 16, 3) := by decide +kernel
theorem dPm_init_20 : decode zbPm_init 20 = .ok (.aload_n 0, 1) := by decide +kernel
theorem dPm_init_21 : decode zbPm_init 21 = .ok (.iconst 0, 1) := by decide +kernel
theorem dPm_init_22 : decode zbPm_init 22 = .ok (.putfield 20, 3) := by decide +kernel
theorem dPm_init_25 : decode zbPm_init 25 = .ok (.aload_n 0, 1) := by decide +kernel
theorem dPm_init_26 : decode zbPm_init 26 = .ok (.new 24, 3) := by decide +kernel
theorem dPm_init_29 : decode zbPm_init 29 = .ok (.dup, 1) := by decide +kernel
theorem dPm_init_30 : decode zbPm_init 30 = .ok (.invokespecial 26, 3) := by decide +kernel
theorem dPm_init_33 : decode zbPm_init 33 = .ok (.putfield 27, 3) := by decide +kernel
theorem dPm_init_36 : decode zbPm_init 36 = .ok (.aload_n 0, 1) := by decide +kernel
theorem dPm_init_37 : decode zbPm_init 37 = .ok (.new 24, 3) := by decide +kernel
theorem dPm_init_40 : decode zbPm_init 40 = .ok (.dup, 1) := by decide +kernel
theorem dPm_init_41 : decode zbPm_init 41 = .ok (.invokespecial 26, 3) := by decide +kernel
theorem dPm_init_44 : decode zbPm_init 44 = .ok (.putfield 31, 3) := by decide +kernel
theorem dPm_init_47 : decode zbPm_init 47 = .ok (.aload_n 0, 1) := by decide +kernel
theorem dPm_init_48 : decode zbPm_init 48 = .ok (.new 34, 3) := by decide +kernel
theorem dPm_init_51 : decode zbPm_init 51 = .ok (.dup, 1) := by decide +kernel
theorem dPm_init_52 : decode zbPm_init 52 = .ok (.invokespecial 36, 3) := by decide +kernel
theorem dPm_init_55 : decode zbPm_init 55 = .ok (.putfield 37, 3) := by decide +kernel
theorem dPm_init_58 : decode zbPm_init 58 = .ok (.aload_n 0, 1) := by decide +kernel
theorem dPm_init_59 : decode zbPm_init 59 = .ok (.new 34, 3) := by decide +kernel
theorem dPm_init_62 : decode zbPm_init 62 = .ok (.dup, 1) := by decide +kernel
theorem dPm_init_63 : decode zbPm_init 63 = .ok (.invokespecial 36, 3) := by decide +kernel
theorem dPm_init_66 : decode zbPm_init 66 = .ok (.putfield 41, 3) := by decide +kernel
theorem dPm_init_69 : decode zbPm_init 69 = .ok (.aload_n 0, 1) := by decide +kernel
theorem dPm_init_70 : decode zbPm_init 70 = .ok (.new 44, 3) := by decide +kernel
theorem dPm_init_73 : decode zbPm_init 73 = .ok (.dup, 1) := by decide +kernel
theorem dPm_init_74 : decode zbPm_init 74 = .ok (.invokespecial 46, 3) := by decide +kernel
theorem dPm_init_77 : decode zbPm_init 77 = .ok (.putfield 47, 3) := by decide +kernel
theorem dPm_init_80 : decode zbPm_init 80 = .ok (.aload_n 0, 1) := by decide +kernel
theorem dPm_init_81 : decode zbPm_init 81 = .ok (.new 51, 3) := by decide +kernel
theorem dPm_init_84 : decode zbPm_init 84 = .ok (.dup, 1) := by decide +kernel
theorem dPm_init_85 : decode zbPm_init 85 = .ok (.invokespecial 53, 3) := by decide +kernel
theorem dPm_init_88 : decode zbPm_init 88 = .ok (.putfield 54, 3) := by decide +kernel
theorem dPm_init_91 : decode zbPm_init 91 = .ok (.aload_n 0, 1) := by decide +kernel
theorem dPm_init_92 : decode zbPm_init 92 = .ok (.aload_n 0, 1) := by decide +kernel
theorem dPm_init_93 : decode zbPm_init 93 = .ok (.getfield 54, 3) := by decide +kernel
theorem dPm_init_96 : decode zbPm_init 96 = .ok (.getfield 58, 3) := by decide +kernel
theorem dPm_init_99 : decode zbPm_init 99 = .ok (.putfield 62, 3) := by decide +kernel
theorem dPm_init_102 : decode zbPm_init 102 = .ok (.return_, 1) := by decide +kernel
theorem dPm_type_0 : decode zbPm_type 0 = .ok (.aload_n 0, 1) := by decide +kernel
theorem dPm_type_1 : decode zbPm_type 1 = .ok (.getfield 10, 3) := by decide +kernel
theorem dPm_type_4 : decode zbPm_type 4 = .ok (.lload_n 1, 1) := by decide +kernel
theorem dPm_type_5 : decode zbPm_type 5 = .ok (.invokevirtual 63, 3) := by decide +kernel
theorem dPm_type_8 : decode zbPm_type 8 = .ok (.ireturn, 1) := by decide +kernel
theorem dPm_erase_0 : decode zbPm_erase 0 = .ok (.aload_n 0, 1) := by decide +kernel
theorem dPm_erase_1 : decode zbPm_erase 1 = .ok (.getfield 10, 3) := by decide +kernel
theorem dPm_erase_4 : decode zbPm_erase 4 = .ok (.getfield 67, 3) := by decide +kernel
theorem dPm_erase_7 : decode zbPm_erase 7 = .ok (.istore_n 1, 1) := by decide +kernel
theorem dPm_erase_8 : decode zbPm_erase 8 = .ok (.aload_n 0, 1) := by decide +kernel
theorem dPm_erase_9 : decode zbPm_erase 9 = .ok (.getfield 10, 3) := by decide +kernel
theorem dPm_erase_12 : decode zbPm_erase 12 = .ok (.iconst 0, 1) := by decide +kernel
theorem dPm_erase_13 : decode zbPm_erase 13 = .ok (.putfield 67, 3) := by decide +kernel
theorem dPm_erase_16 : decode zbPm_erase 16 = .ok (.iload_n 1, 1) := by decide +kernel
theorem dPm_erase_17 : decode zbPm_erase 17 = .ok (.ireturn, 1) := by decide +kernel
theorem dPm_free_0 : decode zbPm_free 0 = .ok (.aload_n 0, 1) := by decide +kernel
theorem dPm_free_1 : decode zbPm_free 1 = .ok (.getfield 20, 3) := by decide +kernel
theorem dPm_free_4 : decode zbPm_free 4 = .ok (.ifCond .ne 13, 3) := by decide +kernel
theorem dPm_free_7 : decode zbPm_free 7 = .ok (.iload_n 1, 1) := by decide +kernel
theorem dPm_free_8 : decode zbPm_free 8 = .ok (.ifCond .lt 9, 3) := by decide +kernel
theorem dPm_free_11 : decode zbPm_free 11 = .ok (.iload_n 1, 1) := by decide +kernel
theorem dPm_free_12 : decode zbPm_free 12 = .ok (.bipush 60, 2) := by decide +kernel
theorem dPm_free_14 : decode zbPm_free 14 = .ok (.if_icmp .le 5, 3) := by decide +kernel
theorem dPm_free_17 : decode zbPm_free 17 = .ok (.iconst 0, 1) := by decide +kernel
theorem dPm_free_18 : decode zbPm_free 18 = .ok (.ireturn, 1) := by decide +kernel
theorem dPm_free_19 : decode zbPm_free 19 = .ok (.aload_n 0, 1) := by decide +kernel
theorem dPm_free_20 : decode zbPm_free 20 = .ok (.getfield 62, 3) := by decide +kernel
theorem dPm_free_23 : decode zbPm_free 23 = .ok (.getfield 70, 3) := by decide +kernel
theorem dPm_free_26 : decode zbPm_free 26 = .ok (.iload_n 1, 1) := by decide +kernel
theorem dPm_free_27 : decode zbPm_free 27 = .ok (.aload_n 0, 1) := by decide +kernel
theorem dPm_free_28 : decode zbPm_free 28 = .ok (.getfield 62, 3) := by decide +kernel
theorem dPm_free_31 : decode zbPm_free 31 = .ok (.getfield 70, 3) := by decide +kernel
theorem dPm_free_34 : decode zbPm_free 34 = .ok (.iload_n 1, 1) := by decide +kernel
theorem dPm_free_35 : decode zbPm_free 35 = .ok (.baload, 1) := by decide +kernel
theorem dPm_free_36 : decode zbPm_free 36 = .ok (.ifCond .ne 7, 3) := by decide +kernel
theorem dPm_free_39 : decode zbPm_free 39 = .ok (.iconst 1, 1) := by decide +kernel
theorem dPm_free_40 : decode zbPm_free 40 = .ok (.goto 4, 3) := by decide +kernel
theorem dPm_free_43 : decode zbPm_free 43 = .ok (.iconst 0, 1) := by decide +kernel
theorem dPm_free_44 : decode zbPm_free 44 = .ok (.bastore, 1) := by decide +kernel
theorem dPm_free_45 : decode zbPm_free 45 = .ok (.aload_n 0, 1) := by decide +kernel
theorem dPm_free_46 : decode zbPm_free 46 = .ok (.getfield 62, 3) := by decide +kernel
theorem dPm_free_49 : decode zbPm_free 49 = .ok (.getfield 70, 3) := by decide +kernel
theorem dPm_free_52 : decode zbPm_free 52 = .ok (.iload_n 1, 1) := by decide +kernel
theorem dPm_free_53 : decode zbPm_free 53 = .ok (.baload, 1) := by decide +kernel
theorem dPm_free_54 : decode zbPm_free 54 = .ok (.ireturn, 1) := by decide +kernel
theorem dPm_begin_0 : decode zbPm_begin 0 = .ok (.aload_n 0, 1) := by decide +kernel
theorem dPm_begin_1 : decode zbPm_begin 1 = .ok (.aload_n 0, 1) := by decide +kernel
theorem dPm_begin_2 : decode zbPm_begin 2 = .ok (.getfield 10, 3) := by decide +kernel
theorem dPm_begin_5 : decode zbPm_begin 5 = .ok (.aload_n 0, 1) := by decide +kernel
theorem dPm_begin_6 : decode zbPm_begin 6 = .ok (.getfield 31, 3) := by decide +kernel
theorem dPm_begin_9 : decode zbPm_begin 9 = .ok (.invokevirtual 76, 3) := by decide +kernel
theorem dPm_begin_12 : decode zbPm_begin 12 = .ok (.putfield 16, 3) := by decide +kernel
theorem dPm_begin_15 : decode zbPm_begin 15 = .ok (.aload_n 0, 1) := by decide +kernel
theorem dPm_begin_16 : decode zbPm_begin 16 = .ok (.getfield 16, 3) := by decide +kernel
theorem dPm_begin_19 : decode zbPm_begin 19 = .ok (.iconst (-1), 1) := by decide +kernel
theorem dPm_begin_20 : decode zbPm_begin 20 = .ok (.if_icmp .eq 11, 3) := by decide +kernel
theorem dPm_begin_23 : decode zbPm_begin 23 = .ok (.new 80, 3) := by decide +kernel
theorem dPm_begin_26 : decode zbPm_begin 26 = .ok (.dup, 1) := by decide +kernel
theorem dPm_begin_27 : decode zbPm_begin 27 = .ok (.invokespecial 82, 3) := by decide +kernel
theorem dPm_begin_30 : decode zbPm_begin 30 = .ok (.athrow, 1) := by decide +kernel
theorem dPm_begin_31 : decode zbPm_begin 31 = .ok (.aload_n 0, 1) := by decide +kernel
theorem dPm_begin_32 : decode zbPm_begin 32 = .ok (.getfield 41, 3) := by decide +kernel
theorem dPm_begin_35 : decode zbPm_begin 35 = .ok (.invokevirtual 83, 3) := by decide +kernel
theorem dPm_begin_38 : decode zbPm_begin 38 = .ok (.aload_n 0, 1) := by decide +kernel
theorem dPm_begin_39 : decode zbPm_begin 39 = .ok (.getfield 62, 3) := by decide +kernel
theorem dPm_begin_42 : decode zbPm_begin 42 = .ok (.aload_n 0, 1) := by decide +kernel
theorem dPm_begin_43 : decode zbPm_begin 43 = .ok (.getfield 31, 3) := by decide +kernel
theorem dPm_begin_46 : decode zbPm_begin 46 = .ok (.aload_n 0, 1) := by decide +kernel
theorem dPm_begin_47 : decode zbPm_begin 47 = .ok (.getfield 41, 3) := by decide +kernel
theorem dPm_begin_50 : decode zbPm_begin 50 = .ok (.invokevirtual 86, 3) := by decide +kernel
theorem dPm_begin_53 : decode zbPm_begin 53 = .ok (.ifCond .ne 11, 3) := by decide +kernel
theorem dPm_begin_56 : decode zbPm_begin 56 = .ok (.new 90, 3) := by decide +kernel
theorem dPm_begin_59 : decode zbPm_begin 59 = .ok (.dup, 1) := by decide +kernel
theorem dPm_begin_60 : decode zbPm_begin 60 = .ok (.invokespecial 92, 3) := by decide +kernel
theorem dPm_begin_63 : decode zbPm_begin 63 = .ok (.athrow, 1) := by decide +kernel
theorem dPm_begin_64 : decode zbPm_begin 64 = .ok (.aload_n 0, 1) := by decide +kernel
theorem dPm_begin_65 : decode zbPm_begin 65 = .ok (.getfield 27, 3) := by decide +kernel
theorem dPm_begin_68 : decode zbPm_begin 68 = .ok (.astore_n 1, 1) := by decide +kernel
theorem dPm_begin_69 : decode zbPm_begin 69 = .ok (.aload_n 0, 1) := by decide +kernel
theorem dPm_begin_70 : decode zbPm_begin 70 = .ok (.aload_n 0, 1) := by decide +kernel
theorem dPm_begin_71 : decode zbPm_begin 71 = .ok (.getfield 31, 3) := by decide +kernel
theorem dPm_begin_74 : decode zbPm_begin 74 = .ok (.putfield 27, 3) := by decide +kernel
theorem dPm_begin_77 : decode zbPm_begin 77 = .ok (.aload_n 0, 1) := by decide +kernel
theorem dPm_begin_78 : decode zbPm_begin 78 = .ok (.aload_n 1, 1) := by decide +kernel
theorem dPm_begin_79 : decode zbPm_begin 79 = .ok (.putfield 31, 3) := by decide +kernel
theorem dPm_begin_82 : decode zbPm_begin 82 = .ok (.aload_n 0, 1) := by decide +kernel
theorem dPm_begin_83 : decode zbPm_begin 83 = .ok (.getfield 37, 3) := by decide +kernel
theorem dPm_begin_86 : decode zbPm_begin 86 = .ok (.aload_n 0, 1) := by decide +kernel
theorem dPm_begin_87 : decode zbPm_begin 87 = .ok (.getfield 41, 3) := by decide +kernel
theorem dPm_begin_90 : decode zbPm_begin 90 = .ok (.invokevirtual 93, 3) := by decide +kernel
theorem dPm_begin_93 : decode zbPm_begin 93 = .ok (.aload_n 0, 1) := by decide +kernel
theorem dPm_begin_94 : decode zbPm_begin 94 = .ok (.getfield 47, 3) := by decide +kernel
theorem dPm_begin_97 : decode zbPm_begin 97 = .ok (.invokevirtual 97, 3) := by decide +kernel
theorem dPm_begin_100 : decode zbPm_begin 100 = .ok (.aload_n 0, 1) := by decide +kernel
theorem dPm_begin_101 : decode zbPm_begin 101 = .ok (.getfield 10, 3) := by decide +kernel
theorem dPm_begin_104 : decode zbPm_begin 104 = .ok (.iconst 0, 1) := by decide +kernel
theorem dPm_begin_105 : decode zbPm_begin 105 = .ok (.putfield 67, 3) := by decide +kernel
theorem dPm_begin_108 : decode zbPm_begin 108 = .ok (.aload_n 0, 1) := by decide +kernel
theorem dPm_begin_109 : decode zbPm_begin 109 = .ok (.iconst 1, 1) := by decide +kernel
theorem dPm_begin_110 : decode zbPm_begin 110 = .ok (.putfield 20, 3) := by decide +kernel
theorem dPm_begin_113 : decode zbPm_begin 113 = .ok (.aload_n 0, 1) := by decide +kernel
theorem dPm_begin_114 : decode zbPm_begin 114 = .ok (.getfield 27, 3) := by decide +kernel
theorem dPm_begin_117 : decode zbPm_begin 117 = .ok (.getfield 100, 3) := by decide +kernel
theorem dPm_begin_120 : decode zbPm_begin 120 = .ok (.ireturn, 1) := by decide +kernel
theorem dPm_stop_0 : decode zbPm_stop 0 = .ok (.aload_n 0, 1) := by decide +kernel
theorem dPm_stop_1 : decode zbPm_stop 1 = .ok (.getfield 20, 3) := by decide +kernel
theorem dPm_stop_4 : decode zbPm_stop 4 = .ok (.istore_n 1, 1) := by decide +kernel
theorem dPm_stop_5 : decode zbPm_stop 5 = .ok (.aload_n 0, 1) := by decide +kernel
theorem dPm_stop_6 : decode zbPm_stop 6 = .ok (.iconst 0, 1) := by decide +kernel
theorem dPm_stop_7 : decode zbPm_stop 7 = .ok (.putfield 20, 3) := by decide +kernel
theorem dPm_stop_10 : decode zbPm_stop 10 = .ok (.aload_n 0, 1) := by decide +kernel
theorem dPm_stop_11 : decode zbPm_stop 11 = .ok (.getfield 47, 3) := by decide +kernel
theorem dPm_stop_14 : decode zbPm_stop 14 = .ok (.invokevirtual 97, 3) := by decide +kernel
theorem dPm_stop_17 : decode zbPm_stop 17 = .ok (.iload_n 1, 1) := by decide +kernel
theorem dPm_stop_18 : decode zbPm_stop 18 = .ok (.ireturn, 1) := by decide +kernel
theorem dPm_fault_0 : decode zbPm_fault 0 = .ok (.aload_n 0, 1) := by decide +kernel
theorem dPm_fault_1 : decode zbPm_fault 1 = .ok (.getfield 16, 3) := by decide +kernel
theorem dPm_fault_4 : decode zbPm_fault 4 = .ok (.ireturn, 1) := by decide +kernel
theorem dPm_event_0 : decode zbPm_event 0 = .ok (.aload_n 0, 1) := by decide +kernel
theorem dPm_event_1 : decode zbPm_event 1 = .ok (.getfield 20, 3) := by decide +kernel
theorem dPm_event_4 : decode zbPm_event 4 = .ok (.ifCond .ne 11, 3) := by decide +kernel
theorem dPm_event_7 : decode zbPm_event 7 = .ok (.new 103, 3) := by decide +kernel
theorem dPm_event_10 : decode zbPm_event 10 = .ok (.dup, 1) := by decide +kernel
theorem dPm_event_11 : decode zbPm_event 11 = .ok (.invokespecial 105, 3) := by decide +kernel
theorem dPm_event_14 : decode zbPm_event 14 = .ok (.athrow, 1) := by decide +kernel
theorem dPm_event_15 : decode zbPm_event 15 = .ok (.iload_n 1, 1) := by decide +kernel
theorem dPm_event_16 : decode zbPm_event 16 = .ok (.invokestatic 106, 3) := by decide +kernel
theorem dPm_event_19 : decode zbPm_event 19 = .ok (.ifCond .eq 10, 3) := by decide +kernel
theorem dPm_event_22 : decode zbPm_event 22 = .ok (.iload_n 2, 1) := by decide +kernel
theorem dPm_event_23 : decode zbPm_event 23 = .ok (.invokestatic 110, 3) := by decide +kernel
theorem dPm_event_26 : decode zbPm_event 26 = .ok (.ifCond .ne 11, 3) := by decide +kernel
theorem dPm_event_29 : decode zbPm_event 29 = .ok (.new 80, 3) := by decide +kernel
theorem dPm_event_32 : decode zbPm_event 32 = .ok (.dup, 1) := by decide +kernel
theorem dPm_event_33 : decode zbPm_event 33 = .ok (.invokespecial 82, 3) := by decide +kernel
theorem dPm_event_36 : decode zbPm_event 36 = .ok (.athrow, 1) := by decide +kernel
theorem dPm_event_37 : decode zbPm_event 37 = .ok (.aload_n 0, 1) := by decide +kernel
theorem dPm_event_38 : decode zbPm_event 38 = .ok (.getfield 41, 3) := by decide +kernel
theorem dPm_event_41 : decode zbPm_event 41 = .ok (.aload_n 0, 1) := by decide +kernel
theorem dPm_event_42 : decode zbPm_event 42 = .ok (.getfield 37, 3) := by decide +kernel
theorem dPm_event_45 : decode zbPm_event 45 = .ok (.invokevirtual 93, 3) := by decide +kernel
theorem dPm_event_48 : decode zbPm_event 48 = .ok (.aload_n 0, 1) := by decide +kernel
theorem dPm_event_49 : decode zbPm_event 49 = .ok (.getfield 62, 3) := by decide +kernel
theorem dPm_event_52 : decode zbPm_event 52 = .ok (.aload_n 0, 1) := by decide +kernel
theorem dPm_event_53 : decode zbPm_event 53 = .ok (.getfield 27, 3) := by decide +kernel
theorem dPm_event_56 : decode zbPm_event 56 = .ok (.aload_n 0, 1) := by decide +kernel
theorem dPm_event_57 : decode zbPm_event 57 = .ok (.getfield 41, 3) := by decide +kernel
theorem dPm_event_60 : decode zbPm_event 60 = .ok (.iload_n 1, 1) := by decide +kernel
theorem dPm_event_61 : decode zbPm_event 61 = .ok (.iload_n 2, 1) := by decide +kernel
theorem dPm_event_62 : decode zbPm_event 62 = .ok (.invokevirtual 113, 3) := by decide +kernel
theorem dPm_event_65 : decode zbPm_event 65 = .ok (.istore_n 3, 1) := by decide +kernel
theorem dPm_event_66 : decode zbPm_event 66 = .ok (.iload_n 3, 1) := by decide +kernel
theorem dPm_event_67 : decode zbPm_event 67 = .ok (.bipush (-2), 2) := by decide +kernel
theorem dPm_event_69 : decode zbPm_event 69 = .ok (.if_icmp .ne 11, 3) := by decide +kernel
theorem dPm_event_72 : decode zbPm_event 72 = .ok (.new 90, 3) := by decide +kernel
theorem dPm_event_75 : decode zbPm_event 75 = .ok (.dup, 1) := by decide +kernel
theorem dPm_event_76 : decode zbPm_event 76 = .ok (.invokespecial 92, 3) := by decide +kernel
theorem dPm_event_79 : decode zbPm_event 79 = .ok (.athrow, 1) := by decide +kernel
theorem dPm_event_80 : decode zbPm_event 80 = .ok (.aload_n 0, 1) := by decide +kernel
theorem dPm_event_81 : decode zbPm_event 81 = .ok (.invokevirtual 117, 3) := by decide +kernel
theorem dPm_event_84 : decode zbPm_event 84 = .ok (.iload_n 3, 1) := by decide +kernel
theorem dPm_event_85 : decode zbPm_event 85 = .ok (.ireturn, 1) := by decide +kernel
theorem dPm_nextDay_0 : decode zbPm_nextDay 0 = .ok (.aload_n 0, 1) := by decide +kernel
theorem dPm_nextDay_1 : decode zbPm_nextDay 1 = .ok (.getfield 20, 3) := by decide +kernel
theorem dPm_nextDay_4 : decode zbPm_nextDay 4 = .ok (.ifCond .eq 15, 3) := by decide +kernel
theorem dPm_nextDay_7 : decode zbPm_nextDay 7 = .ok (.aload_n 0, 1) := by decide +kernel
theorem dPm_nextDay_8 : decode zbPm_nextDay 8 = .ok (.getfield 37, 3) := by decide +kernel
theorem dPm_nextDay_11 : decode zbPm_nextDay 11 = .ok (.getfield 120, 3) := by decide +kernel
theorem dPm_nextDay_14 : decode zbPm_nextDay 14 = .ok (.bipush 60, 2) := by decide +kernel
theorem dPm_nextDay_16 : decode zbPm_nextDay 16 = .ok (.if_icmp .lt 11, 3) := by decide +kernel
theorem dPm_nextDay_19 : decode zbPm_nextDay 19 = .ok (.new 103, 3) := by decide +kernel
theorem dPm_nextDay_22 : decode zbPm_nextDay 22 = .ok (.dup, 1) := by decide +kernel
theorem dPm_nextDay_23 : decode zbPm_nextDay 23 = .ok (.invokespecial 105, 3) := by decide +kernel
theorem dPm_nextDay_26 : decode zbPm_nextDay 26 = .ok (.athrow, 1) := by decide +kernel
theorem dPm_nextDay_27 : decode zbPm_nextDay 27 = .ok (.aload_n 0, 1) := by decide +kernel
theorem dPm_nextDay_28 : decode zbPm_nextDay 28 = .ok (.getfield 41, 3) := by decide +kernel
theorem dPm_nextDay_31 : decode zbPm_nextDay 31 = .ok (.aload_n 0, 1) := by decide +kernel
theorem dPm_nextDay_32 : decode zbPm_nextDay 32 = .ok (.getfield 37, 3) := by decide +kernel
theorem dPm_nextDay_35 : decode zbPm_nextDay 35 = .ok (.invokevirtual 93, 3) := by decide +kernel
theorem dPm_nextDay_38 : decode zbPm_nextDay 38 = .ok (.aload_n 0, 1) := by decide +kernel
theorem dPm_nextDay_39 : decode zbPm_nextDay 39 = .ok (.getfield 62, 3) := by decide +kernel
theorem dPm_nextDay_42 : decode zbPm_nextDay 42 = .ok (.aload_n 0, 1) := by decide +kernel
theorem dPm_nextDay_43 : decode zbPm_nextDay 43 = .ok (.getfield 27, 3) := by decide +kernel
theorem dPm_nextDay_46 : decode zbPm_nextDay 46 = .ok (.aload_n 0, 1) := by decide +kernel
theorem dPm_nextDay_47 : decode zbPm_nextDay 47 = .ok (.getfield 41, 3) := by decide +kernel
theorem dPm_nextDay_50 : decode zbPm_nextDay 50 = .ok (.invokevirtual 123, 3) := by decide +kernel
theorem dPm_nextDay_53 : decode zbPm_nextDay 53 = .ok (.istore_n 1, 1) := by decide +kernel
theorem dPm_nextDay_54 : decode zbPm_nextDay 54 = .ok (.iload_n 1, 1) := by decide +kernel
theorem dPm_nextDay_55 : decode zbPm_nextDay 55 = .ok (.bipush (-2), 2) := by decide +kernel
theorem dPm_nextDay_57 : decode zbPm_nextDay 57 = .ok (.if_icmp .ne 11, 3) := by decide +kernel
theorem dPm_nextDay_60 : decode zbPm_nextDay 60 = .ok (.new 90, 3) := by decide +kernel
theorem dPm_nextDay_63 : decode zbPm_nextDay 63 = .ok (.dup, 1) := by decide +kernel
theorem dPm_nextDay_64 : decode zbPm_nextDay 64 = .ok (.invokespecial 92, 3) := by decide +kernel
theorem dPm_nextDay_67 : decode zbPm_nextDay 67 = .ok (.athrow, 1) := by decide +kernel
theorem dPm_nextDay_68 : decode zbPm_nextDay 68 = .ok (.aload_n 0, 1) := by decide +kernel
theorem dPm_nextDay_69 : decode zbPm_nextDay 69 = .ok (.invokevirtual 117, 3) := by decide +kernel
theorem dPm_nextDay_72 : decode zbPm_nextDay 72 = .ok (.iload_n 1, 1) := by decide +kernel
theorem dPm_nextDay_73 : decode zbPm_nextDay 73 = .ok (.ireturn, 1) := by decide +kernel
theorem dPm_undo_0 : decode zbPm_undo 0 = .ok (.aload_n 0, 1) := by decide +kernel
theorem dPm_undo_1 : decode zbPm_undo 1 = .ok (.getfield 47, 3) := by decide +kernel
theorem dPm_undo_4 : decode zbPm_undo 4 = .ok (.aload_n 0, 1) := by decide +kernel
theorem dPm_undo_5 : decode zbPm_undo 5 = .ok (.getfield 37, 3) := by decide +kernel
theorem dPm_undo_8 : decode zbPm_undo 8 = .ok (.invokevirtual 127, 3) := by decide +kernel
theorem dPm_undo_11 : decode zbPm_undo 11 = .ok (.ireturn, 1) := by decide +kernel
theorem dPm_today_0 : decode zbPm_today 0 = .ok (.aload_n 0, 1) := by decide +kernel
theorem dPm_today_1 : decode zbPm_today 1 = .ok (.getfield 20, 3) := by decide +kernel
theorem dPm_today_4 : decode zbPm_today 4 = .ok (.ifCond .eq 13, 3) := by decide +kernel
theorem dPm_today_7 : decode zbPm_today 7 = .ok (.aload_n 0, 1) := by decide +kernel
theorem dPm_today_8 : decode zbPm_today 8 = .ok (.getfield 37, 3) := by decide +kernel
theorem dPm_today_11 : decode zbPm_today 11 = .ok (.getfield 120, 3) := by decide +kernel
theorem dPm_today_14 : decode zbPm_today 14 = .ok (.goto 4, 3) := by decide +kernel
theorem dPm_today_17 : decode zbPm_today 17 = .ok (.iconst (-1), 1) := by decide +kernel
theorem dPm_today_18 : decode zbPm_today 18 = .ok (.ireturn, 1) := by decide +kernel
theorem dPm_duty_0 : decode zbPm_duty 0 = .ok (.aload_n 0, 1) := by decide +kernel
theorem dPm_duty_1 : decode zbPm_duty 1 = .ok (.getfield 20, 3) := by decide +kernel
theorem dPm_duty_4 : decode zbPm_duty 4 = .ok (.ifCond .eq 21, 3) := by decide +kernel
theorem dPm_duty_7 : decode zbPm_duty 7 = .ok (.iload_n 1, 1) := by decide +kernel
theorem dPm_duty_8 : decode zbPm_duty 8 = .ok (.ifCond .lt 17, 3) := by decide +kernel
theorem dPm_duty_11 : decode zbPm_duty 11 = .ok (.iload_n 1, 1) := by decide +kernel
theorem dPm_duty_12 : decode zbPm_duty 12 = .ok (.aload_n 0, 1) := by decide +kernel
theorem dPm_duty_13 : decode zbPm_duty 13 = .ok (.getfield 37, 3) := by decide +kernel
theorem dPm_duty_16 : decode zbPm_duty 16 = .ok (.getfield 131, 3) := by decide +kernel
theorem dPm_duty_19 : decode zbPm_duty 19 = .ok (.getfield 135, 3) := by decide +kernel
theorem dPm_duty_22 : decode zbPm_duty 22 = .ok (.if_icmp .lt 5, 3) := by decide +kernel
theorem dPm_duty_25 : decode zbPm_duty 25 = .ok (.iconst (-1), 1) := by decide +kernel
theorem dPm_duty_26 : decode zbPm_duty 26 = .ok (.ireturn, 1) := by decide +kernel
theorem dPm_duty_27 : decode zbPm_duty 27 = .ok (.aload_n 0, 1) := by decide +kernel
theorem dPm_duty_28 : decode zbPm_duty 28 = .ok (.getfield 37, 3) := by decide +kernel
theorem dPm_duty_31 : decode zbPm_duty 31 = .ok (.getfield 131, 3) := by decide +kernel
theorem dPm_duty_34 : decode zbPm_duty 34 = .ok (.getfield 138, 3) := by decide +kernel
theorem dPm_duty_37 : decode zbPm_duty 37 = .ok (.iload_n 1, 1) := by decide +kernel
theorem dPm_duty_38 : decode zbPm_duty 38 = .ok (.iaload, 1) := by decide +kernel
theorem dPm_duty_39 : decode zbPm_duty 39 = .ok (.ireturn, 1) := by decide +kernel
theorem dPm_count_0 : decode zbPm_count 0 = .ok (.aload_n 0, 1) := by decide +kernel
theorem dPm_count_1 : decode zbPm_count 1 = .ok (.getfield 20, 3) := by decide +kernel
theorem dPm_count_4 : decode zbPm_count 4 = .ok (.ifCond .ne 5, 3) := by decide +kernel
theorem dPm_count_7 : decode zbPm_count 7 = .ok (.iconst 0, 1) := by decide +kernel
theorem dPm_count_8 : decode zbPm_count 8 = .ok (.ireturn, 1) := by decide +kernel
theorem dPm_count_9 : decode zbPm_count 9 = .ok (.iload_n 1, 1) := by decide +kernel
theorem dPm_count_10 : decode zbPm_count 10 = .ok (.tableswitch 59 0 2 #[26, 37, 48], 26) := by decide +kernel
theorem dPm_count_36 : decode zbPm_count 36 = .ok (.aload_n 0, 1) := by decide +kernel
theorem dPm_count_37 : decode zbPm_count 37 = .ok (.getfield 37, 3) := by decide +kernel
theorem dPm_count_40 : decode zbPm_count 40 = .ok (.getfield 131, 3) := by decide +kernel
theorem dPm_count_43 : decode zbPm_count 43 = .ok (.getfield 135, 3) := by decide +kernel
theorem dPm_count_46 : decode zbPm_count 46 = .ok (.ireturn, 1) := by decide +kernel
theorem dPm_count_47 : decode zbPm_count 47 = .ok (.aload_n 0, 1) := by decide +kernel
theorem dPm_count_48 : decode zbPm_count 48 = .ok (.getfield 37, 3) := by decide +kernel
theorem dPm_count_51 : decode zbPm_count 51 = .ok (.getfield 142, 3) := by decide +kernel
theorem dPm_count_54 : decode zbPm_count 54 = .ok (.getfield 135, 3) := by decide +kernel
theorem dPm_count_57 : decode zbPm_count 57 = .ok (.ireturn, 1) := by decide +kernel
theorem dPm_count_58 : decode zbPm_count 58 = .ok (.aload_n 0, 1) := by decide +kernel
theorem dPm_count_59 : decode zbPm_count 59 = .ok (.getfield 37, 3) := by decide +kernel
theorem dPm_count_62 : decode zbPm_count 62 = .ok (.getfield 145, 3) := by decide +kernel
theorem dPm_count_65 : decode zbPm_count 65 = .ok (.getfield 135, 3) := by decide +kernel
theorem dPm_count_68 : decode zbPm_count 68 = .ok (.ireturn, 1) := by decide +kernel
theorem dPm_count_69 : decode zbPm_count 69 = .ok (.iconst 0, 1) := by decide +kernel
theorem dPm_count_70 : decode zbPm_count 70 = .ok (.ireturn, 1) := by decide +kernel
theorem dPm_breaches_0 : decode zbPm_breaches 0 = .ok (.aload_n 0, 1) := by decide +kernel
theorem dPm_breaches_1 : decode zbPm_breaches 1 = .ok (.getfield 20, 3) := by decide +kernel
theorem dPm_breaches_4 : decode zbPm_breaches 4 = .ok (.ifCond .eq 18, 3) := by decide +kernel
theorem dPm_breaches_7 : decode zbPm_breaches 7 = .ok (.iload_n 1, 1) := by decide +kernel
theorem dPm_breaches_8 : decode zbPm_breaches 8 = .ok (.ifCond .lt 14, 3) := by decide +kernel
theorem dPm_breaches_11 : decode zbPm_breaches 11 = .ok (.iload_n 1, 1) := by decide +kernel
theorem dPm_breaches_12 : decode zbPm_breaches 12 = .ok (.aload_n 0, 1) := by decide +kernel
theorem dPm_breaches_13 : decode zbPm_breaches 13 = .ok (.getfield 27, 3) := by decide +kernel
theorem dPm_breaches_16 : decode zbPm_breaches 16 = .ok (.getfield 100, 3) := by decide +kernel
theorem dPm_breaches_19 : decode zbPm_breaches 19 = .ok (.if_icmp .lt 5, 3) := by decide +kernel
theorem dPm_breaches_22 : decode zbPm_breaches 22 = .ok (.iconst 0, 1) := by decide +kernel
theorem dPm_breaches_23 : decode zbPm_breaches 23 = .ok (.ireturn, 1) := by decide +kernel
theorem dPm_breaches_24 : decode zbPm_breaches 24 = .ok (.aload_n 0, 1) := by decide +kernel
theorem dPm_breaches_25 : decode zbPm_breaches 25 = .ok (.getfield 37, 3) := by decide +kernel
theorem dPm_breaches_28 : decode zbPm_breaches 28 = .ok (.getfield 148, 3) := by decide +kernel
theorem dPm_breaches_31 : decode zbPm_breaches 31 = .ok (.iload_n 1, 1) := by decide +kernel
theorem dPm_breaches_32 : decode zbPm_breaches 32 = .ok (.iaload, 1) := by decide +kernel
theorem dPm_breaches_33 : decode zbPm_breaches 33 = .ok (.ireturn, 1) := by decide +kernel
theorem dPm_may_0 : decode zbPm_may 0 = .ok (.aload_n 0, 1) := by decide +kernel
theorem dPm_may_1 : decode zbPm_may 1 = .ok (.getfield 20, 3) := by decide +kernel
theorem dPm_may_4 : decode zbPm_may 4 = .ok (.ifCond .eq 17, 3) := by decide +kernel
theorem dPm_may_7 : decode zbPm_may 7 = .ok (.iload_n 1, 1) := by decide +kernel
theorem dPm_may_8 : decode zbPm_may 8 = .ok (.invokestatic 106, 3) := by decide +kernel
theorem dPm_may_11 : decode zbPm_may 11 = .ok (.ifCond .eq 10, 3) := by decide +kernel
theorem dPm_may_14 : decode zbPm_may 14 = .ok (.iload_n 2, 1) := by decide +kernel
theorem dPm_may_15 : decode zbPm_may 15 = .ok (.invokestatic 110, 3) := by decide +kernel
theorem dPm_may_18 : decode zbPm_may 18 = .ok (.ifCond .ne 5, 3) := by decide +kernel
theorem dPm_may_21 : decode zbPm_may 21 = .ok (.iconst (-1), 1) := by decide +kernel
theorem dPm_may_22 : decode zbPm_may 22 = .ok (.ireturn, 1) := by decide +kernel
theorem dPm_may_23 : decode zbPm_may 23 = .ok (.aload_n 0, 1) := by decide +kernel
theorem dPm_may_24 : decode zbPm_may 24 = .ok (.getfield 27, 3) := by decide +kernel
theorem dPm_may_27 : decode zbPm_may 27 = .ok (.aload_n 0, 1) := by decide +kernel
theorem dPm_may_28 : decode zbPm_may 28 = .ok (.getfield 37, 3) := by decide +kernel
theorem dPm_may_31 : decode zbPm_may 31 = .ok (.getfield 142, 3) := by decide +kernel
theorem dPm_may_34 : decode zbPm_may 34 = .ok (.iload_n 1, 1) := by decide +kernel
theorem dPm_may_35 : decode zbPm_may 35 = .ok (.iload_n 2, 1) := by decide +kernel
theorem dPm_may_36 : decode zbPm_may 36 = .ok (.invokevirtual 151, 3) := by decide +kernel
theorem dPm_may_39 : decode zbPm_may 39 = .ok (.iconst (-1), 1) := by decide +kernel
theorem dPm_may_40 : decode zbPm_may 40 = .ok (.if_icmp .ne 5, 3) := by decide +kernel
theorem dPm_may_43 : decode zbPm_may 43 = .ok (.iconst 0, 1) := by decide +kernel
theorem dPm_may_44 : decode zbPm_may 44 = .ok (.ireturn, 1) := by decide +kernel
theorem dPm_may_45 : decode zbPm_may 45 = .ok (.aload_n 0, 1) := by decide +kernel
theorem dPm_may_46 : decode zbPm_may 46 = .ok (.getfield 27, 3) := by decide +kernel
theorem dPm_may_49 : decode zbPm_may 49 = .ok (.aload_n 0, 1) := by decide +kernel
theorem dPm_may_50 : decode zbPm_may 50 = .ok (.getfield 37, 3) := by decide +kernel
theorem dPm_may_53 : decode zbPm_may 53 = .ok (.getfield 145, 3) := by decide +kernel
theorem dPm_may_56 : decode zbPm_may 56 = .ok (.iload_n 1, 1) := by decide +kernel
theorem dPm_may_57 : decode zbPm_may 57 = .ok (.iload_n 2, 1) := by decide +kernel
theorem dPm_may_58 : decode zbPm_may 58 = .ok (.invokevirtual 151, 3) := by decide +kernel
theorem dPm_may_61 : decode zbPm_may 61 = .ok (.iconst (-1), 1) := by decide +kernel
theorem dPm_may_62 : decode zbPm_may 62 = .ok (.if_icmp .ne 7, 3) := by decide +kernel
theorem dPm_may_65 : decode zbPm_may 65 = .ok (.iconst 2, 1) := by decide +kernel
theorem dPm_may_66 : decode zbPm_may 66 = .ok (.goto 4, 3) := by decide +kernel
theorem dPm_may_69 : decode zbPm_may 69 = .ok (.iconst 1, 1) := by decide +kernel
theorem dPm_may_70 : decode zbPm_may 70 = .ok (.ireturn, 1) := by decide +kernel
theorem dPm_owed_0 : decode zbPm_owed 0 = .ok (.aload_n 0, 1) := by decide +kernel
theorem dPm_owed_1 : decode zbPm_owed 1 = .ok (.getfield 20, 3) := by decide +kernel
theorem dPm_owed_4 : decode zbPm_owed 4 = .ok (.ifCond .eq 17, 3) := by decide +kernel
theorem dPm_owed_7 : decode zbPm_owed 7 = .ok (.iload_n 1, 1) := by decide +kernel
theorem dPm_owed_8 : decode zbPm_owed 8 = .ok (.invokestatic 106, 3) := by decide +kernel
theorem dPm_owed_11 : decode zbPm_owed 11 = .ok (.ifCond .eq 10, 3) := by decide +kernel
theorem dPm_owed_14 : decode zbPm_owed 14 = .ok (.iload_n 2, 1) := by decide +kernel
theorem dPm_owed_15 : decode zbPm_owed 15 = .ok (.invokestatic 106, 3) := by decide +kernel
theorem dPm_owed_18 : decode zbPm_owed 18 = .ok (.ifCond .ne 5, 3) := by decide +kernel
theorem dPm_owed_21 : decode zbPm_owed 21 = .ok (.iconst 0, 1) := by decide +kernel
theorem dPm_owed_22 : decode zbPm_owed 22 = .ok (.ireturn, 1) := by decide +kernel
theorem dPm_owed_23 : decode zbPm_owed 23 = .ok (.aload_n 0, 1) := by decide +kernel
theorem dPm_owed_24 : decode zbPm_owed 24 = .ok (.getfield 37, 3) := by decide +kernel
theorem dPm_owed_27 : decode zbPm_owed 27 = .ok (.iload_n 1, 1) := by decide +kernel
theorem dPm_owed_28 : decode zbPm_owed 28 = .ok (.iload_n 2, 1) := by decide +kernel
theorem dPm_owed_29 : decode zbPm_owed 29 = .ok (.invokevirtual 155, 3) := by decide +kernel
theorem dPm_owed_32 : decode zbPm_owed 32 = .ok (.ireturn, 1) := by decide +kernel
theorem dPm_course_0 : decode zbPm_course 0 = .ok (.aload_n 0, 1) := by decide +kernel
theorem dPm_course_1 : decode zbPm_course 1 = .ok (.getfield 20, 3) := by decide +kernel
theorem dPm_course_4 : decode zbPm_course 4 = .ok (.ifCond .ne 11, 3) := by decide +kernel
theorem dPm_course_7 : decode zbPm_course 7 = .ok (.new 103, 3) := by decide +kernel
theorem dPm_course_10 : decode zbPm_course 10 = .ok (.dup, 1) := by decide +kernel
theorem dPm_course_11 : decode zbPm_course 11 = .ok (.invokespecial 105, 3) := by decide +kernel
theorem dPm_course_14 : decode zbPm_course 14 = .ok (.athrow, 1) := by decide +kernel
theorem dPm_course_15 : decode zbPm_course 15 = .ok (.aload_n 0, 1) := by decide +kernel
theorem dPm_course_16 : decode zbPm_course 16 = .ok (.iload_n 1, 1) := by decide +kernel
theorem dPm_course_17 : decode zbPm_course 17 = .ok (.iload_n 2, 1) := by decide +kernel
theorem dPm_course_18 : decode zbPm_course 18 = .ok (.invokevirtual 159, 3) := by decide +kernel
theorem dPm_course_21 : decode zbPm_course 21 = .ok (.ifCond .ne 11, 3) := by decide +kernel
theorem dPm_course_24 : decode zbPm_course 24 = .ok (.new 80, 3) := by decide +kernel
theorem dPm_course_27 : decode zbPm_course 27 = .ok (.dup, 1) := by decide +kernel
theorem dPm_course_28 : decode zbPm_course 28 = .ok (.invokespecial 82, 3) := by decide +kernel
theorem dPm_course_31 : decode zbPm_course 31 = .ok (.athrow, 1) := by decide +kernel
theorem dPm_course_32 : decode zbPm_course 32 = .ok (.aload_n 0, 1) := by decide +kernel
theorem dPm_course_33 : decode zbPm_course 33 = .ok (.getfield 54, 3) := by decide +kernel
theorem dPm_course_36 : decode zbPm_course 36 = .ok (.aload_n 0, 1) := by decide +kernel
theorem dPm_course_37 : decode zbPm_course 37 = .ok (.getfield 27, 3) := by decide +kernel
theorem dPm_course_40 : decode zbPm_course 40 = .ok (.aload_n 0, 1) := by decide +kernel
theorem dPm_course_41 : decode zbPm_course 41 = .ok (.getfield 37, 3) := by decide +kernel
theorem dPm_course_44 : decode zbPm_course 44 = .ok (.iload_n 1, 1) := by decide +kernel
theorem dPm_course_45 : decode zbPm_course 45 = .ok (.iload_n 2, 1) := by decide +kernel
theorem dPm_course_46 : decode zbPm_course 46 = .ok (.invokevirtual 163, 3) := by decide +kernel
theorem dPm_course_49 : decode zbPm_course 49 = .ok (.ireturn, 1) := by decide +kernel
theorem dPm_threat_0 : decode zbPm_threat 0 = .ok (.aload_n 0, 1) := by decide +kernel
theorem dPm_threat_1 : decode zbPm_threat 1 = .ok (.getfield 20, 3) := by decide +kernel
theorem dPm_threat_4 : decode zbPm_threat 4 = .ok (.ifCond .ne 11, 3) := by decide +kernel
theorem dPm_threat_7 : decode zbPm_threat 7 = .ok (.new 103, 3) := by decide +kernel
theorem dPm_threat_10 : decode zbPm_threat 10 = .ok (.dup, 1) := by decide +kernel
theorem dPm_threat_11 : decode zbPm_threat 11 = .ok (.invokespecial 105, 3) := by decide +kernel
theorem dPm_threat_14 : decode zbPm_threat 14 = .ok (.athrow, 1) := by decide +kernel
theorem dPm_threat_15 : decode zbPm_threat 15 = .ok (.aload_n 0, 1) := by decide +kernel
theorem dPm_threat_16 : decode zbPm_threat 16 = .ok (.iload_n 1, 1) := by decide +kernel
theorem dPm_threat_17 : decode zbPm_threat 17 = .ok (.iload_n 2, 1) := by decide +kernel
theorem dPm_threat_18 : decode zbPm_threat 18 = .ok (.invokevirtual 159, 3) := by decide +kernel
theorem dPm_threat_21 : decode zbPm_threat 21 = .ok (.ifCond .ne 11, 3) := by decide +kernel
theorem dPm_threat_24 : decode zbPm_threat 24 = .ok (.new 80, 3) := by decide +kernel
theorem dPm_threat_27 : decode zbPm_threat 27 = .ok (.dup, 1) := by decide +kernel
theorem dPm_threat_28 : decode zbPm_threat 28 = .ok (.invokespecial 82, 3) := by decide +kernel
theorem dPm_threat_31 : decode zbPm_threat 31 = .ok (.athrow, 1) := by decide +kernel
theorem dPm_threat_32 : decode zbPm_threat 32 = .ok (.aload_n 0, 1) := by decide +kernel
theorem dPm_threat_33 : decode zbPm_threat 33 = .ok (.getfield 54, 3) := by decide +kernel
theorem dPm_threat_36 : decode zbPm_threat 36 = .ok (.aload_n 0, 1) := by decide +kernel
theorem dPm_threat_37 : decode zbPm_threat 37 = .ok (.getfield 27, 3) := by decide +kernel
theorem dPm_threat_40 : decode zbPm_threat 40 = .ok (.aload_n 0, 1) := by decide +kernel
theorem dPm_threat_41 : decode zbPm_threat 41 = .ok (.getfield 37, 3) := by decide +kernel
theorem dPm_threat_44 : decode zbPm_threat 44 = .ok (.iload_n 1, 1) := by decide +kernel
theorem dPm_threat_45 : decode zbPm_threat 45 = .ok (.iload_n 2, 1) := by decide +kernel
theorem dPm_threat_46 : decode zbPm_threat 46 = .ok (.invokevirtual 163, 3) := by decide +kernel
theorem dPm_threat_49 : decode zbPm_threat 49 = .ok (.iconst (-1), 1) := by decide +kernel
theorem dPm_threat_50 : decode zbPm_threat 50 = .ok (.if_icmp .ne 5, 3) := by decide +kernel
theorem dPm_threat_53 : decode zbPm_threat 53 = .ok (.iconst (-1), 1) := by decide +kernel
theorem dPm_threat_54 : decode zbPm_threat 54 = .ok (.ireturn, 1) := by decide +kernel
theorem dPm_threat_55 : decode zbPm_threat 55 = .ok (.iconst 0, 1) := by decide +kernel
theorem dPm_threat_56 : decode zbPm_threat 56 = .ok (.istore_n 3, 1) := by decide +kernel
theorem dPm_threat_57 : decode zbPm_threat 57 = .ok (.iload_n 3, 1) := by decide +kernel
theorem dPm_threat_58 : decode zbPm_threat 58 = .ok (.iconst 3, 1) := by decide +kernel
theorem dPm_threat_59 : decode zbPm_threat 59 = .ok (.if_icmp .ge 82, 3) := by decide +kernel
theorem dPm_threat_62 : decode zbPm_threat 62 = .ok (.iconst 0, 1) := by decide +kernel
theorem dPm_threat_63 : decode zbPm_threat 63 = .ok (.istore 4, 2) := by decide +kernel
theorem dPm_threat_65 : decode zbPm_threat 65 = .ok (.iload 4, 2) := by decide +kernel
theorem dPm_threat_67 : decode zbPm_threat 67 = .ok (.iconst 5, 1) := by decide +kernel
theorem dPm_threat_68 : decode zbPm_threat 68 = .ok (.if_icmp .ge 67, 3) := by decide +kernel
theorem dPm_threat_71 : decode zbPm_threat 71 = .ok (.iload_n 3, 1) := by decide +kernel
theorem dPm_threat_72 : decode zbPm_threat 72 = .ok (.iload_n 1, 1) := by decide +kernel
theorem dPm_threat_73 : decode zbPm_threat 73 = .ok (.if_icmp .eq 56, 3) := by decide +kernel
theorem dPm_threat_76 : decode zbPm_threat 76 = .ok (.aload_n 0, 1) := by decide +kernel
theorem dPm_threat_77 : decode zbPm_threat 77 = .ok (.getfield 54, 3) := by decide +kernel
theorem dPm_threat_80 : decode zbPm_threat 80 = .ok (.aload_n 0, 1) := by decide +kernel
theorem dPm_threat_81 : decode zbPm_threat 81 = .ok (.getfield 27, 3) := by decide +kernel
theorem dPm_threat_84 : decode zbPm_threat 84 = .ok (.aload_n 0, 1) := by decide +kernel
theorem dPm_threat_85 : decode zbPm_threat 85 = .ok (.getfield 37, 3) := by decide +kernel
theorem dPm_threat_88 : decode zbPm_threat 88 = .ok (.aload_n 0, 1) := by decide +kernel
theorem dPm_threat_89 : decode zbPm_threat 89 = .ok (.getfield 41, 3) := by decide +kernel
theorem dPm_threat_92 : decode zbPm_threat 92 = .ok (.iload_n 3, 1) := by decide +kernel
theorem dPm_threat_93 : decode zbPm_threat 93 = .ok (.iload 4, 2) := by decide +kernel
theorem dPm_threat_95 : decode zbPm_threat 95 = .ok (.invokevirtual 166, 3) := by decide +kernel
theorem dPm_threat_98 : decode zbPm_threat 98 = .ok (.ifCond .eq 31, 3) := by decide +kernel
theorem dPm_threat_101 : decode zbPm_threat 101 = .ok (.aload_n 0, 1) := by decide +kernel
theorem dPm_threat_102 : decode zbPm_threat 102 = .ok (.getfield 54, 3) := by decide +kernel
theorem dPm_threat_105 : decode zbPm_threat 105 = .ok (.aload_n 0, 1) := by decide +kernel
theorem dPm_threat_106 : decode zbPm_threat 106 = .ok (.getfield 27, 3) := by decide +kernel
theorem dPm_threat_109 : decode zbPm_threat 109 = .ok (.aload_n 0, 1) := by decide +kernel
theorem dPm_threat_110 : decode zbPm_threat 110 = .ok (.getfield 41, 3) := by decide +kernel
theorem dPm_threat_113 : decode zbPm_threat 113 = .ok (.iload_n 1, 1) := by decide +kernel
theorem dPm_threat_114 : decode zbPm_threat 114 = .ok (.iload_n 2, 1) := by decide +kernel
theorem dPm_threat_115 : decode zbPm_threat 115 = .ok (.invokevirtual 163, 3) := by decide +kernel
theorem dPm_threat_118 : decode zbPm_threat 118 = .ok (.iconst (-1), 1) := by decide +kernel
theorem dPm_threat_119 : decode zbPm_threat 119 = .ok (.if_icmp .ne 10, 3) := by decide +kernel
theorem dPm_threat_122 : decode zbPm_threat 122 = .ok (.iconst 5, 1) := by decide +kernel
theorem dPm_threat_123 : decode zbPm_threat 123 = .ok (.iload_n 3, 1) := by decide +kernel
theorem dPm_threat_124 : decode zbPm_threat 124 = .ok (.imul, 1) := by decide +kernel
theorem dPm_threat_125 : decode zbPm_threat 125 = .ok (.iload 4, 2) := by decide +kernel
theorem dPm_threat_127 : decode zbPm_threat 127 = .ok (.iadd, 1) := by decide +kernel
theorem dPm_threat_128 : decode zbPm_threat 128 = .ok (.ireturn, 1) := by decide +kernel
theorem dPm_threat_129 : decode zbPm_threat 129 = .ok (.iinc 4 1, 3) := by decide +kernel
theorem dPm_threat_132 : decode zbPm_threat 132 = .ok (.goto (-67), 3) := by decide +kernel
theorem dPm_threat_135 : decode zbPm_threat 135 = .ok (.iinc 3 1, 3) := by decide +kernel
theorem dPm_threat_138 : decode zbPm_threat 138 = .ok (.goto (-81), 3) := by decide +kernel
theorem dPm_threat_141 : decode zbPm_threat 141 = .ok (.iconst (-1), 1) := by decide +kernel
theorem dPm_threat_142 : decode zbPm_threat 142 = .ok (.ireturn, 1) := by decide +kernel
theorem dPm_isParty_0 : decode zbPm_isParty 0 = .ok (.iload_n 0, 1) := by decide +kernel
theorem dPm_isParty_1 : decode zbPm_isParty 1 = .ok (.ifCond .lt 12, 3) := by decide +kernel
theorem dPm_isParty_4 : decode zbPm_isParty 4 = .ok (.iload_n 0, 1) := by decide +kernel
theorem dPm_isParty_5 : decode zbPm_isParty 5 = .ok (.iconst 3, 1) := by decide +kernel
theorem dPm_isParty_6 : decode zbPm_isParty 6 = .ok (.if_icmp .ge 7, 3) := by decide +kernel
theorem dPm_isParty_9 : decode zbPm_isParty 9 = .ok (.iconst 1, 1) := by decide +kernel
theorem dPm_isParty_10 : decode zbPm_isParty 10 = .ok (.goto 4, 3) := by decide +kernel
theorem dPm_isParty_13 : decode zbPm_isParty 13 = .ok (.iconst 0, 1) := by decide +kernel
theorem dPm_isParty_14 : decode zbPm_isParty 14 = .ok (.ireturn, 1) := by decide +kernel
theorem dPm_isKind_0 : decode zbPm_isKind 0 = .ok (.iload_n 0, 1) := by decide +kernel
theorem dPm_isKind_1 : decode zbPm_isKind 1 = .ok (.ifCond .lt 12, 3) := by decide +kernel
theorem dPm_isKind_4 : decode zbPm_isKind 4 = .ok (.iload_n 0, 1) := by decide +kernel
theorem dPm_isKind_5 : decode zbPm_isKind 5 = .ok (.iconst 5, 1) := by decide +kernel
theorem dPm_isKind_6 : decode zbPm_isKind 6 = .ok (.if_icmp .ge 7, 3) := by decide +kernel
theorem dPm_isKind_9 : decode zbPm_isKind 9 = .ok (.iconst 1, 1) := by decide +kernel
theorem dPm_isKind_10 : decode zbPm_isKind 10 = .ok (.goto 4, 3) := by decide +kernel
theorem dPm_isKind_13 : decode zbPm_isKind 13 = .ok (.iconst 0, 1) := by decide +kernel
theorem dPm_isKind_14 : decode zbPm_isKind 14 = .ok (.ireturn, 1) := by decide +kernel
theorem dPm_canSearch_0 : decode zbPm_canSearch 0 = .ok (.iload_n 1, 1) := by decide +kernel
theorem dPm_canSearch_1 : decode zbPm_canSearch 1 = .ok (.invokestatic 106, 3) := by decide +kernel
theorem dPm_canSearch_4 : decode zbPm_canSearch 4 = .ok (.ifCond .eq 29, 3) := by decide +kernel
theorem dPm_canSearch_7 : decode zbPm_canSearch 7 = .ok (.iload_n 2, 1) := by decide +kernel
theorem dPm_canSearch_8 : decode zbPm_canSearch 8 = .ok (.iconst 1, 1) := by decide +kernel
theorem dPm_canSearch_9 : decode zbPm_canSearch 9 = .ok (.if_icmp .lt 24, 3) := by decide +kernel
theorem dPm_canSearch_12 : decode zbPm_canSearch 12 = .ok (.iload_n 2, 1) := by decide +kernel
theorem dPm_canSearch_13 : decode zbPm_canSearch 13 = .ok (.iconst 2, 1) := by decide +kernel
theorem dPm_canSearch_14 : decode zbPm_canSearch 14 = .ok (.if_icmp .gt 19, 3) := by decide +kernel
theorem dPm_canSearch_17 : decode zbPm_canSearch 17 = .ok (.aload_n 0, 1) := by decide +kernel
theorem dPm_canSearch_18 : decode zbPm_canSearch 18 = .ok (.getfield 37, 3) := by decide +kernel
theorem dPm_canSearch_21 : decode zbPm_canSearch 21 = .ok (.getfield 120, 3) := by decide +kernel
theorem dPm_canSearch_24 : decode zbPm_canSearch 24 = .ok (.bipush 58, 2) := by decide +kernel
theorem dPm_canSearch_26 : decode zbPm_canSearch 26 = .ok (.if_icmp .gt 7, 3) := by decide +kernel
theorem dPm_canSearch_29 : decode zbPm_canSearch 29 = .ok (.iconst 1, 1) := by decide +kernel
theorem dPm_canSearch_30 : decode zbPm_canSearch 30 = .ok (.goto 4, 3) := by decide +kernel
theorem dPm_canSearch_33 : decode zbPm_canSearch 33 = .ok (.iconst 0, 1) := by decide +kernel
theorem dPm_canSearch_34 : decode zbPm_canSearch 34 = .ok (.ireturn, 1) := by decide +kernel
theorem dPm_moveToTrial_0 : decode zbPm_moveToTrial 0 = .ok (.aload_n 0, 1) := by decide +kernel
theorem dPm_moveToTrial_1 : decode zbPm_moveToTrial 1 = .ok (.getfield 47, 3) := by decide +kernel
theorem dPm_moveToTrial_4 : decode zbPm_moveToTrial 4 = .ok (.aload_n 0, 1) := by decide +kernel
theorem dPm_moveToTrial_5 : decode zbPm_moveToTrial 5 = .ok (.getfield 37, 3) := by decide +kernel
theorem dPm_moveToTrial_8 : decode zbPm_moveToTrial 8 = .ok (.invokevirtual 170, 3) := by decide +kernel
theorem dPm_moveToTrial_11 : decode zbPm_moveToTrial 11 = .ok (.aload_n 0, 1) := by decide +kernel
theorem dPm_moveToTrial_12 : decode zbPm_moveToTrial 12 = .ok (.getfield 37, 3) := by decide +kernel
theorem dPm_moveToTrial_15 : decode zbPm_moveToTrial 15 = .ok (.aload_n 0, 1) := by decide +kernel
theorem dPm_moveToTrial_16 : decode zbPm_moveToTrial 16 = .ok (.getfield 41, 3) := by decide +kernel
theorem dPm_moveToTrial_19 : decode zbPm_moveToTrial 19 = .ok (.invokevirtual 93, 3) := by decide +kernel
theorem dPm_moveToTrial_22 : decode zbPm_moveToTrial 22 = .ok (.return_, 1) := by decide +kernel
theorem dMo_init_0 : decode zbMo_init 0 = .ok (.aload_n 0, 1) := by decide +kernel
theorem dMo_init_1 : decode zbMo_init 1 = .ok (.invokespecial 1, 3) := by decide +kernel
theorem dMo_init_4 : decode zbMo_init 4 = .ok (.aload_n 0, 1) := by decide +kernel
theorem dMo_init_5 : decode zbMo_init 5 = .ok (.bipush 121, 2) := by decide +kernel
theorem dMo_init_7 : decode zbMo_init 7 = .ok (.newarray .int, 2) := by decide +kernel
theorem dMo_init_9 : decode zbMo_init 9 = .ok (.putfield 7, 3) := by decide +kernel
theorem dMo_init_12 : decode zbMo_init 12 = .ok (.aload_n 0, 1) := by decide +kernel
theorem dMo_init_13 : decode zbMo_init 13 = .ok (.iconst (-1), 1) := by decide +kernel
theorem dMo_init_14 : decode zbMo_init 14 = .ok (.putfield 13, 3) := by decide +kernel
theorem dMo_init_17 : decode zbMo_init 17 = .ok (.aload_n 0, 1) := by decide +kernel
theorem dMo_init_18 : decode zbMo_init 18 = .ok (.bipush 61, 2) := by decide +kernel
theorem dMo_init_20 : decode zbMo_init 20 = .ok (.newarray .boolean, 2) := by decide +kernel
theorem dMo_init_22 : decode zbMo_init 22 = .ok (.putfield 17, 3) := by decide +kernel
theorem dMo_init_25 : decode zbMo_init 25 = .ok (.aload_n 0, 1) := by decide +kernel
theorem dMo_init_26 : decode zbMo_init 26 = .ok (.bipush 20, 2) := by decide +kernel
theorem dMo_init_28 : decode zbMo_init 28 = .ok (.newarray .int, 2) := by decide +kernel
theorem dMo_init_30 : decode zbMo_init 30 = .ok (.putfield 21, 3) := by decide +kernel
theorem dMo_init_33 : decode zbMo_init 33 = .ok (.aload_n 0, 1) := by decide +kernel
theorem dMo_init_34 : decode zbMo_init 34 = .ok (.bipush 20, 2) := by decide +kernel
theorem dMo_init_36 : decode zbMo_init 36 = .ok (.newarray .int, 2) := by decide +kernel
theorem dMo_init_38 : decode zbMo_init 38 = .ok (.putfield 24, 3) := by decide +kernel
theorem dMo_init_41 : decode zbMo_init 41 = .ok (.aload_n 0, 1) := by decide +kernel
theorem dMo_init_42 : decode zbMo_init 42 = .ok (.bipush 20, 2) := by decide +kernel
theorem dMo_init_44 : decode zbMo_init 44 = .ok (.newarray .int, 2) := by decide +kernel
theorem dMo_init_46 : decode zbMo_init 46 = .ok (.putfield 27, 3) := by decide +kernel
theorem dMo_init_49 : decode zbMo_init 49 = .ok (.aload_n 0, 1) := by decide +kernel
theorem dMo_init_50 : decode zbMo_init 50 = .ok (.bipush 20, 2) := by decide +kernel
theorem dMo_init_52 : decode zbMo_init 52 = .ok (.newarray .boolean, 2) := by decide +kernel
theorem dMo_init_54 : decode zbMo_init 54 = .ok (.putfield 30, 3) := by decide +kernel
theorem dMo_init_57 : decode zbMo_init 57 = .ok (.aload_n 0, 1) := by decide +kernel
theorem dMo_init_58 : decode zbMo_init 58 = .ok (.bipush 20, 2) := by decide +kernel
theorem dMo_init_60 : decode zbMo_init 60 = .ok (.newarray .int, 2) := by decide +kernel
theorem dMo_init_62 : decode zbMo_init 62 = .ok (.putfield 33, 3) := by decide +kernel
theorem dMo_init_65 : decode zbMo_init 65 = .ok (.aload_n 0, 1) := by decide +kernel
theorem dMo_init_66 : decode zbMo_init 66 = .ok (.bipush 20, 2) := by decide +kernel
theorem dMo_init_68 : decode zbMo_init 68 = .ok (.newarray .int, 2) := by decide +kernel
theorem dMo_init_70 : decode zbMo_init 70 = .ok (.putfield 36, 3) := by decide +kernel
theorem dMo_init_73 : decode zbMo_init 73 = .ok (.aload_n 0, 1) := by decide +kernel
theorem dMo_init_74 : decode zbMo_init 74 = .ok (.bipush 20, 2) := by decide +kernel
theorem dMo_init_76 : decode zbMo_init 76 = .ok (.newarray .int, 2) := by decide +kernel
theorem dMo_init_78 : decode zbMo_init 78 = .ok (.putfield 39, 3) := by decide +kernel
theorem dMo_init_81 : decode zbMo_init 81 = .ok (.aload_n 0, 1) := by decide +kernel
theorem dMo_init_82 : decode zbMo_init 82 = .ok (.bipush 20, 2) := by decide +kernel
theorem dMo_init_84 : decode zbMo_init 84 = .ok (.newarray .int, 2) := by decide +kernel
theorem dMo_init_86 : decode zbMo_init 86 = .ok (.putfield 42, 3) := by decide +kernel
theorem dMo_init_89 : decode zbMo_init 89 = .ok (.aload_n 0, 1) := by decide +kernel
theorem dMo_init_90 : decode zbMo_init 90 = .ok (.bipush 20, 2) := by decide +kernel
theorem dMo_init_92 : decode zbMo_init 92 = .ok (.newarray .int, 2) := by decide +kernel
theorem dMo_init_94 : decode zbMo_init 94 = .ok (.putfield 45, 3) := by decide +kernel
theorem dMo_init_97 : decode zbMo_init 97 = .ok (.aload_n 0, 1) := by decide +kernel
theorem dMo_init_98 : decode zbMo_init 98 = .ok (.bipush 20, 2) := by decide +kernel
theorem dMo_init_100 : decode zbMo_init 100 = .ok (.newarray .int, 2) := by decide +kernel
theorem dMo_init_102 : decode zbMo_init 102 = .ok (.putfield 48, 3) := by decide +kernel
theorem dMo_init_105 : decode zbMo_init 105 = .ok (.aload_n 0, 1) := by decide +kernel
theorem dMo_init_106 : decode zbMo_init 106 = .ok (.bipush 20, 2) := by decide +kernel
theorem dMo_init_108 : decode zbMo_init 108 = .ok (.newarray .int, 2) := by decide +kernel
theorem dMo_init_110 : decode zbMo_init 110 = .ok (.putfield 51, 3) := by decide +kernel
theorem dMo_init_113 : decode zbMo_init 113 = .ok (.aload_n 0, 1) := by decide +kernel
theorem dMo_init_114 : decode zbMo_init 114 = .ok (.sipush 1207, 3) := by decide +kernel
theorem dMo_init_117 : decode zbMo_init 117 = .ok (.newarray .int, 2) := by decide +kernel
theorem dMo_init_119 : decode zbMo_init 119 = .ok (.putfield 54, 3) := by decide +kernel
theorem dMo_init_122 : decode zbMo_init 122 = .ok (.aload_n 0, 1) := by decide +kernel
theorem dMo_init_123 : decode zbMo_init 123 = .ok (.sipush 1200, 3) := by decide +kernel
theorem dMo_init_126 : decode zbMo_init 126 = .ok (.newarray .int, 2) := by decide +kernel
theorem dMo_init_128 : decode zbMo_init 128 = .ok (.putfield 57, 3) := by decide +kernel
theorem dMo_init_131 : decode zbMo_init 131 = .ok (.return_, 1) := by decide +kernel
theorem dMo_thrown_0 : decode zbMo_thrown 0 = .ok (.aload_n 0, 1) := by decide +kernel
theorem dMo_thrown_1 : decode zbMo_thrown 1 = .ok (.getfield 60, 3) := by decide +kernel
theorem dMo_thrown_4 : decode zbMo_thrown 4 = .ok (.ireturn, 1) := by decide +kernel
theorem dMo_type_0 : decode zbMo_type 0 = .ok (.aload_n 0, 1) := by decide +kernel
theorem dMo_type_1 : decode zbMo_type 1 = .ok (.iconst 0, 1) := by decide +kernel
theorem dMo_type_2 : decode zbMo_type 2 = .ok (.putfield 60, 3) := by decide +kernel
theorem dMo_type_5 : decode zbMo_type 5 = .ok (.iconst 0, 1) := by decide +kernel
theorem dMo_type_6 : decode zbMo_type 6 = .ok (.istore_n 3, 1) := by decide +kernel
theorem dMo_type_7 : decode zbMo_type 7 = .ok (.iconst 1, 1) := by decide +kernel
theorem dMo_type_8 : decode zbMo_type 8 = .ok (.istore 4, 2) := by decide +kernel
theorem dMo_type_10 : decode zbMo_type 10 = .ok (.iload_n 3, 1) := by decide +kernel
theorem dMo_type_11 : decode zbMo_type 11 = .ok (.bipush 8, 2) := by decide +kernel
theorem dMo_type_13 : decode zbMo_type 13 = .ok (.if_icmp .ge 64, 3) := by decide +kernel
theorem dMo_type_16 : decode zbMo_type 16 = .ok (.lload_n 1, 1) := by decide +kernel
theorem dMo_type_17 : decode zbMo_type 17 = .ok (.bipush 8, 2) := by decide +kernel
theorem dMo_type_19 : decode zbMo_type 19 = .ok (.iload_n 3, 1) := by decide +kernel
theorem dMo_type_20 : decode zbMo_type 20 = .ok (.imul, 1) := by decide +kernel
theorem dMo_type_21 : decode zbMo_type 21 = .ok (.lshr, 1) := by decide +kernel
theorem dMo_type_22 : decode zbMo_type 22 = .ok (.ldc2_w 63, 3) := by decide +kernel
theorem dMo_type_25 : decode zbMo_type 25 = .ok (.land, 1) := by decide +kernel
theorem dMo_type_26 : decode zbMo_type 26 = .ok (.lconst 0, 1) := by decide +kernel
theorem dMo_type_27 : decode zbMo_type 27 = .ok (.lcmp, 1) := by decide +kernel
theorem dMo_type_28 : decode zbMo_type 28 = .ok (.ifCond .eq 49, 3) := by decide +kernel
theorem dMo_type_31 : decode zbMo_type 31 = .ok (.lload_n 1, 1) := by decide +kernel
theorem dMo_type_32 : decode zbMo_type 32 = .ok (.bipush 8, 2) := by decide +kernel
theorem dMo_type_34 : decode zbMo_type 34 = .ok (.iload_n 3, 1) := by decide +kernel
theorem dMo_type_35 : decode zbMo_type 35 = .ok (.imul, 1) := by decide +kernel
theorem dMo_type_36 : decode zbMo_type 36 = .ok (.lshr, 1) := by decide +kernel
theorem dMo_type_37 : decode zbMo_type 37 = .ok (.ldc2_w 63, 3) := by decide +kernel
theorem dMo_type_40 : decode zbMo_type 40 = .ok (.land, 1) := by decide +kernel
theorem dMo_type_41 : decode zbMo_type 41 = .ok (.l2i, 1) := by decide +kernel
theorem dMo_type_42 : decode zbMo_type 42 = .ok (.istore 5, 2) := by decide +kernel
theorem dMo_type_44 : decode zbMo_type 44 = .ok (.iload 4, 2) := by decide +kernel
theorem dMo_type_46 : decode zbMo_type 46 = .ok (.ifCond .eq 21, 3) := by decide +kernel
theorem dMo_type_49 : decode zbMo_type 49 = .ok (.iload 5, 2) := by decide +kernel
theorem dMo_type_51 : decode zbMo_type 51 = .ok (.bipush 32, 2) := by decide +kernel
theorem dMo_type_53 : decode zbMo_type 53 = .ok (.if_icmp .le 14, 3) := by decide +kernel
theorem dMo_type_56 : decode zbMo_type 56 = .ok (.iload 5, 2) := by decide +kernel
theorem dMo_type_58 : decode zbMo_type 58 = .ok (.bipush 127, 2) := by decide +kernel
theorem dMo_type_60 : decode zbMo_type 60 = .ok (.if_icmp .ge 7, 3) := by decide +kernel
theorem dMo_type_63 : decode zbMo_type 63 = .ok (.iconst 1, 1) := by decide +kernel
theorem dMo_type_64 : decode zbMo_type 64 = .ok (.goto 4, 3) := by decide +kernel
theorem dMo_type_67 : decode zbMo_type 67 = .ok (.iconst 0, 1) := by decide +kernel
theorem dMo_type_68 : decode zbMo_type 68 = .ok (.istore 4, 2) := by decide +kernel
theorem dMo_type_70 : decode zbMo_type 70 = .ok (.iload_n 3, 1) := by decide +kernel
theorem dMo_type_71 : decode zbMo_type 71 = .ok (.iconst 1, 1) := by decide +kernel
theorem dMo_type_72 : decode zbMo_type 72 = .ok (.iadd, 1) := by decide +kernel
theorem dMo_type_73 : decode zbMo_type 73 = .ok (.istore_n 3, 1) := by decide +kernel
theorem dMo_type_74 : decode zbMo_type 74 = .ok (.goto (-64), 3) := by decide +kernel
theorem dMo_type_77 : decode zbMo_type 77 = .ok (.iload 4, 2) := by decide +kernel
theorem dMo_type_79 : decode zbMo_type 79 = .ok (.ifCond .eq 14, 3) := by decide +kernel
theorem dMo_type_82 : decode zbMo_type 82 = .ok (.aload_n 0, 1) := by decide +kernel
theorem dMo_type_83 : decode zbMo_type 83 = .ok (.getfield 65, 3) := by decide +kernel
theorem dMo_type_86 : decode zbMo_type 86 = .ok (.iload_n 3, 1) := by decide +kernel
theorem dMo_type_87 : decode zbMo_type 87 = .ok (.iadd, 1) := by decide +kernel
theorem dMo_type_88 : decode zbMo_type 88 = .ok (.bipush 120, 2) := by decide +kernel
theorem dMo_type_90 : decode zbMo_type 90 = .ok (.if_icmp .le 5, 3) := by decide +kernel
theorem dMo_type_93 : decode zbMo_type 93 = .ok (.iconst 0, 1) := by decide +kernel
theorem dMo_type_94 : decode zbMo_type 94 = .ok (.ireturn, 1) := by decide +kernel
theorem dMo_type_95 : decode zbMo_type 95 = .ok (.iconst 0, 1) := by decide +kernel
theorem dMo_type_96 : decode zbMo_type 96 = .ok (.istore 5, 2) := by decide +kernel
theorem dMo_type_98 : decode zbMo_type 98 = .ok (.iload 5, 2) := by decide +kernel
theorem dMo_type_100 : decode zbMo_type 100 = .ok (.iload_n 3, 1) := by decide +kernel
theorem dMo_type_101 : decode zbMo_type 101 = .ok (.if_icmp .ge 33, 3) := by decide +kernel
theorem dMo_type_104 : decode zbMo_type 104 = .ok (.aload_n 0, 1) := by decide +kernel
theorem dMo_type_105 : decode zbMo_type 105 = .ok (.getfield 7, 3) := by decide +kernel
theorem dMo_type_108 : decode zbMo_type 108 = .ok (.aload_n 0, 1) := by decide +kernel
theorem dMo_type_109 : decode zbMo_type 109 = .ok (.getfield 65, 3) := by decide +kernel
theorem dMo_type_112 : decode zbMo_type 112 = .ok (.iload 5, 2) := by decide +kernel
theorem dMo_type_114 : decode zbMo_type 114 = .ok (.iadd, 1) := by decide +kernel
theorem dMo_type_115 : decode zbMo_type 115 = .ok (.lload_n 1, 1) := by decide +kernel
theorem dMo_type_116 : decode zbMo_type 116 = .ok (.bipush 8, 2) := by decide +kernel
theorem dMo_type_118 : decode zbMo_type 118 = .ok (.iload 5, 2) := by decide +kernel
theorem dMo_type_120 : decode zbMo_type 120 = .ok (.imul, 1) := by decide +kernel
theorem dMo_type_121 : decode zbMo_type 121 = .ok (.lshr, 1) := by decide +kernel
theorem dMo_type_122 : decode zbMo_type 122 = .ok (.ldc2_w 63, 3) := by decide +kernel
theorem dMo_type_125 : decode zbMo_type 125 = .ok (.land, 1) := by decide +kernel
theorem dMo_type_126 : decode zbMo_type 126 = .ok (.l2i, 1) := by decide +kernel
theorem dMo_type_127 : decode zbMo_type 127 = .ok (.iastore, 1) := by decide +kernel
theorem dMo_type_128 : decode zbMo_type 128 = .ok (.iinc 5 1, 3) := by decide +kernel
theorem dMo_type_131 : decode zbMo_type 131 = .ok (.goto (-33), 3) := by decide +kernel
theorem dMo_type_134 : decode zbMo_type 134 = .ok (.aload_n 0, 1) := by decide +kernel
theorem dMo_type_135 : decode zbMo_type 135 = .ok (.aload_n 0, 1) := by decide +kernel
theorem dMo_type_136 : decode zbMo_type 136 = .ok (.getfield 65, 3) := by decide +kernel
theorem dMo_type_139 : decode zbMo_type 139 = .ok (.iload_n 3, 1) := by decide +kernel
theorem dMo_type_140 : decode zbMo_type 140 = .ok (.iadd, 1) := by decide +kernel
theorem dMo_type_141 : decode zbMo_type 141 = .ok (.putfield 65, 3) := by decide +kernel
theorem dMo_type_144 : decode zbMo_type 144 = .ok (.iconst 1, 1) := by decide +kernel
theorem dMo_type_145 : decode zbMo_type 145 = .ok (.ireturn, 1) := by decide +kernel
theorem dMo_erase_0 : decode zbMo_erase 0 = .ok (.aload_n 0, 1) := by decide +kernel
theorem dMo_erase_1 : decode zbMo_erase 1 = .ok (.iconst 0, 1) := by decide +kernel
theorem dMo_erase_2 : decode zbMo_erase 2 = .ok (.putfield 60, 3) := by decide +kernel
theorem dMo_erase_5 : decode zbMo_erase 5 = .ok (.aload_n 0, 1) := by decide +kernel
theorem dMo_erase_6 : decode zbMo_erase 6 = .ok (.getfield 65, 3) := by decide +kernel
theorem dMo_erase_9 : decode zbMo_erase 9 = .ok (.istore_n 1, 1) := by decide +kernel
theorem dMo_erase_10 : decode zbMo_erase 10 = .ok (.aload_n 0, 1) := by decide +kernel
theorem dMo_erase_11 : decode zbMo_erase 11 = .ok (.iconst 0, 1) := by decide +kernel
theorem dMo_erase_12 : decode zbMo_erase 12 = .ok (.putfield 65, 3) := by decide +kernel
theorem dMo_erase_15 : decode zbMo_erase 15 = .ok (.iload_n 1, 1) := by decide +kernel
theorem dMo_erase_16 : decode zbMo_erase 16 = .ok (.ireturn, 1) := by decide +kernel
theorem dMo_free_0 : decode zbMo_free 0 = .ok (.aload_n 0, 1) := by decide +kernel
theorem dMo_free_1 : decode zbMo_free 1 = .ok (.iconst 0, 1) := by decide +kernel
theorem dMo_free_2 : decode zbMo_free 2 = .ok (.putfield 60, 3) := by decide +kernel
theorem dMo_free_5 : decode zbMo_free 5 = .ok (.iload_n 1, 1) := by decide +kernel
theorem dMo_free_6 : decode zbMo_free 6 = .ok (.ifCond .lt 16, 3) := by decide +kernel
theorem dMo_free_9 : decode zbMo_free 9 = .ok (.iload_n 1, 1) := by decide +kernel
theorem dMo_free_10 : decode zbMo_free 10 = .ok (.bipush 60, 2) := by decide +kernel
theorem dMo_free_12 : decode zbMo_free 12 = .ok (.if_icmp .gt 10, 3) := by decide +kernel
theorem dMo_free_15 : decode zbMo_free 15 = .ok (.aload_n 0, 1) := by decide +kernel
theorem dMo_free_16 : decode zbMo_free 16 = .ok (.getfield 68, 3) := by decide +kernel
theorem dMo_free_19 : decode zbMo_free 19 = .ok (.ifCond .eq 5, 3) := by decide +kernel
theorem dMo_free_22 : decode zbMo_free 22 = .ok (.iconst 0, 1) := by decide +kernel
theorem dMo_free_23 : decode zbMo_free 23 = .ok (.ireturn, 1) := by decide +kernel
theorem dMo_free_24 : decode zbMo_free 24 = .ok (.aload_n 0, 1) := by decide +kernel
theorem dMo_free_25 : decode zbMo_free 25 = .ok (.getfield 17, 3) := by decide +kernel
theorem dMo_free_28 : decode zbMo_free 28 = .ok (.iload_n 1, 1) := by decide +kernel
theorem dMo_free_29 : decode zbMo_free 29 = .ok (.aload_n 0, 1) := by decide +kernel
theorem dMo_free_30 : decode zbMo_free 30 = .ok (.getfield 17, 3) := by decide +kernel
theorem dMo_free_33 : decode zbMo_free 33 = .ok (.iload_n 1, 1) := by decide +kernel
theorem dMo_free_34 : decode zbMo_free 34 = .ok (.baload, 1) := by decide +kernel
theorem dMo_free_35 : decode zbMo_free 35 = .ok (.ifCond .ne 7, 3) := by decide +kernel
theorem dMo_free_38 : decode zbMo_free 38 = .ok (.iconst 1, 1) := by decide +kernel
theorem dMo_free_39 : decode zbMo_free 39 = .ok (.goto 4, 3) := by decide +kernel
theorem dMo_free_42 : decode zbMo_free 42 = .ok (.iconst 0, 1) := by decide +kernel
theorem dMo_free_43 : decode zbMo_free 43 = .ok (.bastore, 1) := by decide +kernel
theorem dMo_free_44 : decode zbMo_free 44 = .ok (.aload_n 0, 1) := by decide +kernel
theorem dMo_free_45 : decode zbMo_free 45 = .ok (.getfield 17, 3) := by decide +kernel
theorem dMo_free_48 : decode zbMo_free 48 = .ok (.iload_n 1, 1) := by decide +kernel
theorem dMo_free_49 : decode zbMo_free 49 = .ok (.baload, 1) := by decide +kernel
theorem dMo_free_50 : decode zbMo_free 50 = .ok (.ireturn, 1) := by decide +kernel
theorem dMo_charAt_0 : decode zbMo_charAt 0 = .ok (.iload_n 1, 1) := by decide +kernel
theorem dMo_charAt_1 : decode zbMo_charAt 1 = .ok (.aload_n 0, 1) := by decide +kernel
theorem dMo_charAt_2 : decode zbMo_charAt 2 = .ok (.getfield 65, 3) := by decide +kernel
theorem dMo_charAt_5 : decode zbMo_charAt 5 = .ok (.if_icmp .ge 12, 3) := by decide +kernel
theorem dMo_charAt_8 : decode zbMo_charAt 8 = .ok (.aload_n 0, 1) := by decide +kernel
theorem dMo_charAt_9 : decode zbMo_charAt 9 = .ok (.getfield 7, 3) := by decide +kernel
theorem dMo_charAt_12 : decode zbMo_charAt 12 = .ok (.iload_n 1, 1) := by decide +kernel
theorem dMo_charAt_13 : decode zbMo_charAt 13 = .ok (.iaload, 1) := by decide +kernel
theorem dMo_charAt_14 : decode zbMo_charAt 14 = .ok (.goto 4, 3) := by decide +kernel
theorem dMo_charAt_17 : decode zbMo_charAt 17 = .ok (.iconst 0, 1) := by decide +kernel
theorem dMo_charAt_18 : decode zbMo_charAt 18 = .ok (.ireturn, 1) := by decide +kernel
theorem dMo_party_0 : decode zbMo_party 0 = .ok (.aload_n 0, 1) := by decide +kernel
theorem dMo_party_1 : decode zbMo_party 1 = .ok (.iload_n 1, 1) := by decide +kernel
theorem dMo_party_2 : decode zbMo_party 2 = .ok (.invokevirtual 72, 3) := by decide +kernel
theorem dMo_party_5 : decode zbMo_party 5 = .ok (.bipush 65, 2) := by decide +kernel
theorem dMo_party_7 : decode zbMo_party 7 = .ok (.isub, 1) := by decide +kernel
theorem dMo_party_8 : decode zbMo_party 8 = .ok (.istore_n 2, 1) := by decide +kernel
theorem dMo_party_9 : decode zbMo_party 9 = .ok (.iload_n 2, 1) := by decide +kernel
theorem dMo_party_10 : decode zbMo_party 10 = .ok (.ifCond .lt 12, 3) := by decide +kernel
theorem dMo_party_13 : decode zbMo_party 13 = .ok (.iload_n 2, 1) := by decide +kernel
theorem dMo_party_14 : decode zbMo_party 14 = .ok (.iconst 3, 1) := by decide +kernel
theorem dMo_party_15 : decode zbMo_party 15 = .ok (.if_icmp .ge 7, 3) := by decide +kernel
theorem dMo_party_18 : decode zbMo_party 18 = .ok (.iload_n 2, 1) := by decide +kernel
theorem dMo_party_19 : decode zbMo_party 19 = .ok (.goto 4, 3) := by decide +kernel
theorem dMo_party_22 : decode zbMo_party 22 = .ok (.iconst (-1), 1) := by decide +kernel
theorem dMo_party_23 : decode zbMo_party 23 = .ok (.ireturn, 1) := by decide +kernel
theorem dMo_kind_0 : decode zbMo_kind 0 = .ok (.aload_n 0, 1) := by decide +kernel
theorem dMo_kind_1 : decode zbMo_kind 1 = .ok (.iload_n 1, 1) := by decide +kernel
theorem dMo_kind_2 : decode zbMo_kind 2 = .ok (.invokevirtual 72, 3) := by decide +kernel
theorem dMo_kind_5 : decode zbMo_kind 5 = .ok (.bipush 97, 2) := by decide +kernel
theorem dMo_kind_7 : decode zbMo_kind 7 = .ok (.isub, 1) := by decide +kernel
theorem dMo_kind_8 : decode zbMo_kind 8 = .ok (.istore_n 2, 1) := by decide +kernel
theorem dMo_kind_9 : decode zbMo_kind 9 = .ok (.iload_n 2, 1) := by decide +kernel
theorem dMo_kind_10 : decode zbMo_kind 10 = .ok (.ifCond .lt 12, 3) := by decide +kernel
theorem dMo_kind_13 : decode zbMo_kind 13 = .ok (.iload_n 2, 1) := by decide +kernel
theorem dMo_kind_14 : decode zbMo_kind 14 = .ok (.iconst 5, 1) := by decide +kernel
theorem dMo_kind_15 : decode zbMo_kind 15 = .ok (.if_icmp .ge 7, 3) := by decide +kernel
theorem dMo_kind_18 : decode zbMo_kind 18 = .ok (.iload_n 2, 1) := by decide +kernel
theorem dMo_kind_19 : decode zbMo_kind 19 = .ok (.goto 4, 3) := by decide +kernel
theorem dMo_kind_22 : decode zbMo_kind 22 = .ok (.iconst (-1), 1) := by decide +kernel
theorem dMo_kind_23 : decode zbMo_kind 23 = .ok (.ireturn, 1) := by decide +kernel
theorem dMo_digit_0 : decode zbMo_digit 0 = .ok (.aload_n 0, 1) := by decide +kernel
theorem dMo_digit_1 : decode zbMo_digit 1 = .ok (.iload_n 1, 1) := by decide +kernel
theorem dMo_digit_2 : decode zbMo_digit 2 = .ok (.invokevirtual 72, 3) := by decide +kernel
theorem dMo_digit_5 : decode zbMo_digit 5 = .ok (.bipush 48, 2) := by decide +kernel
theorem dMo_digit_7 : decode zbMo_digit 7 = .ok (.isub, 1) := by decide +kernel
theorem dMo_digit_8 : decode zbMo_digit 8 = .ok (.istore_n 2, 1) := by decide +kernel
theorem dMo_digit_9 : decode zbMo_digit 9 = .ok (.iload_n 2, 1) := by decide +kernel
theorem dMo_digit_10 : decode zbMo_digit 10 = .ok (.ifCond .lt 13, 3) := by decide +kernel
theorem dMo_digit_13 : decode zbMo_digit 13 = .ok (.iload_n 2, 1) := by decide +kernel
theorem dMo_digit_14 : decode zbMo_digit 14 = .ok (.bipush 10, 2) := by decide +kernel
theorem dMo_digit_16 : decode zbMo_digit 16 = .ok (.if_icmp .ge 7, 3) := by decide +kernel
theorem dMo_digit_19 : decode zbMo_digit 19 = .ok (.iload_n 2, 1) := by decide +kernel
theorem dMo_digit_20 : decode zbMo_digit 20 = .ok (.goto 4, 3) := by decide +kernel
theorem dMo_digit_23 : decode zbMo_digit 23 = .ok (.iconst (-1), 1) := by decide +kernel
theorem dMo_digit_24 : decode zbMo_digit 24 = .ok (.ireturn, 1) := by decide +kernel
theorem dMo_readTrigger_0 : decode zbMo_readTrigger 0 = .ok (.aload_n 0, 1) := by decide +kernel
theorem dMo_readTrigger_1 : decode zbMo_readTrigger 1 = .ok (.iload_n 2, 1) := by decide +kernel
theorem dMo_readTrigger_2 : decode zbMo_readTrigger 2 = .ok (.invokevirtual 72, 3) := by decide +kernel
theorem dMo_readTrigger_5 : decode zbMo_readTrigger 5 = .ok (.istore_n 3, 1) := by decide +kernel
theorem dMo_readTrigger_6 : decode zbMo_readTrigger 6 = .ok (.aload_n 0, 1) := by decide +kernel
theorem dMo_readTrigger_7 : decode zbMo_readTrigger 7 = .ok (.iload_n 2, 1) := by decide +kernel
theorem dMo_readTrigger_8 : decode zbMo_readTrigger 8 = .ok (.invokevirtual 76, 3) := by decide +kernel
theorem dMo_readTrigger_11 : decode zbMo_readTrigger 11 = .ok (.istore 4, 2) := by decide +kernel
theorem dMo_readTrigger_13 : decode zbMo_readTrigger 13 = .ok (.aload_n 0, 1) := by decide +kernel
theorem dMo_readTrigger_14 : decode zbMo_readTrigger 14 = .ok (.getfield 21, 3) := by decide +kernel
theorem dMo_readTrigger_17 : decode zbMo_readTrigger 17 = .ok (.iload_n 1, 1) := by decide +kernel
theorem dMo_readTrigger_18 : decode zbMo_readTrigger 18 = .ok (.iload_n 3, 1) := by decide +kernel
theorem dMo_readTrigger_19 : decode zbMo_readTrigger 19 = .ok (.bipush 115, 2) := by decide +kernel
theorem dMo_readTrigger_21 : decode zbMo_readTrigger 21 = .ok (.if_icmp .ne 7, 3) := by decide +kernel
theorem dMo_readTrigger_24 : decode zbMo_readTrigger 24 = .ok (.iconst 0, 1) := by decide +kernel
theorem dMo_readTrigger_25 : decode zbMo_readTrigger 25 = .ok (.goto 33, 3) := by decide +kernel
theorem dMo_readTrigger_28 : decode zbMo_readTrigger 28 = .ok (.iload 4, 2) := by decide +kernel
theorem dMo_readTrigger_30 : decode zbMo_readTrigger 30 = .ok (.ifCond .lt 7, 3) := by decide +kernel
theorem dMo_readTrigger_33 : decode zbMo_readTrigger 33 = .ok (.iconst 1, 1) := by decide +kernel
theorem dMo_readTrigger_34 : decode zbMo_readTrigger 34 = .ok (.goto 24, 3) := by decide +kernel
theorem dMo_readTrigger_37 : decode zbMo_readTrigger 37 = .ok (.iload_n 3, 1) := by decide +kernel
theorem dMo_readTrigger_38 : decode zbMo_readTrigger 38 = .ok (.bipush 120, 2) := by decide +kernel
theorem dMo_readTrigger_40 : decode zbMo_readTrigger 40 = .ok (.if_icmp .ne 7, 3) := by decide +kernel
theorem dMo_readTrigger_43 : decode zbMo_readTrigger 43 = .ok (.iconst 2, 1) := by decide +kernel
theorem dMo_readTrigger_44 : decode zbMo_readTrigger 44 = .ok (.goto 14, 3) := by decide +kernel
theorem dMo_readTrigger_47 : decode zbMo_readTrigger 47 = .ok (.iload_n 3, 1) := by decide +kernel
theorem dMo_readTrigger_48 : decode zbMo_readTrigger 48 = .ok (.bipush 102, 2) := by decide +kernel
theorem dMo_readTrigger_50 : decode zbMo_readTrigger 50 = .ok (.if_icmp .ne 7, 3) := by decide +kernel
theorem dMo_readTrigger_53 : decode zbMo_readTrigger 53 = .ok (.iconst 3, 1) := by decide +kernel
theorem dMo_readTrigger_54 : decode zbMo_readTrigger 54 = .ok (.goto 4, 3) := by decide +kernel
theorem dMo_readTrigger_57 : decode zbMo_readTrigger 57 = .ok (.iconst 4, 1) := by decide +kernel
theorem dMo_readTrigger_58 : decode zbMo_readTrigger 58 = .ok (.iastore, 1) := by decide +kernel
theorem dMo_readTrigger_59 : decode zbMo_readTrigger 59 = .ok (.iload_n 3, 1) := by decide +kernel
theorem dMo_readTrigger_60 : decode zbMo_readTrigger 60 = .ok (.bipush 115, 2) := by decide +kernel
theorem dMo_readTrigger_62 : decode zbMo_readTrigger 62 = .ok (.if_icmp .eq 9, 3) := by decide +kernel
theorem dMo_readTrigger_65 : decode zbMo_readTrigger 65 = .ok (.iload_n 3, 1) := by decide +kernel
theorem dMo_readTrigger_66 : decode zbMo_readTrigger 66 = .ok (.bipush 61, 2) := by decide +kernel
theorem dMo_readTrigger_68 : decode zbMo_readTrigger 68 = .ok (.if_icmp .ne 7, 3) := by decide +kernel
theorem dMo_readTrigger_71 : decode zbMo_readTrigger 71 = .ok (.iload_n 2, 1) := by decide +kernel
theorem dMo_readTrigger_72 : decode zbMo_readTrigger 72 = .ok (.iconst 1, 1) := by decide +kernel
theorem dMo_readTrigger_73 : decode zbMo_readTrigger 73 = .ok (.iadd, 1) := by decide +kernel
theorem dMo_readTrigger_74 : decode zbMo_readTrigger 74 = .ok (.ireturn, 1) := by decide +kernel
theorem dMo_readTrigger_75 : decode zbMo_readTrigger 75 = .ok (.iload 4, 2) := by decide +kernel
theorem dMo_readTrigger_77 : decode zbMo_readTrigger 77 = .ok (.ifCond .ge 19, 3) := by decide +kernel
theorem dMo_readTrigger_80 : decode zbMo_readTrigger 80 = .ok (.iload_n 3, 1) := by decide +kernel
theorem dMo_readTrigger_81 : decode zbMo_readTrigger 81 = .ok (.bipush 120, 2) := by decide +kernel
theorem dMo_readTrigger_83 : decode zbMo_readTrigger 83 = .ok (.if_icmp .eq 13, 3) := by decide +kernel
theorem dMo_readTrigger_86 : decode zbMo_readTrigger 86 = .ok (.iload_n 3, 1) := by decide +kernel
theorem dMo_readTrigger_87 : decode zbMo_readTrigger 87 = .ok (.bipush 102, 2) := by decide +kernel
theorem dMo_readTrigger_89 : decode zbMo_readTrigger 89 = .ok (.if_icmp .eq 7, 3) := by decide +kernel
theorem dMo_readTrigger_92 : decode zbMo_readTrigger 92 = .ok (.iconst (-1), 1) := by decide +kernel
theorem dMo_readTrigger_93 : decode zbMo_readTrigger 93 = .ok (.iload_n 2, 1) := by decide +kernel
theorem dMo_readTrigger_94 : decode zbMo_readTrigger 94 = .ok (.isub, 1) := by decide +kernel
theorem dMo_readTrigger_95 : decode zbMo_readTrigger 95 = .ok (.ireturn, 1) := by decide +kernel
theorem dMo_readTrigger_96 : decode zbMo_readTrigger 96 = .ok (.aload_n 0, 1) := by decide +kernel
theorem dMo_readTrigger_97 : decode zbMo_readTrigger 97 = .ok (.getfield 24, 3) := by decide +kernel
theorem dMo_readTrigger_100 : decode zbMo_readTrigger 100 = .ok (.iload_n 1, 1) := by decide +kernel
theorem dMo_readTrigger_101 : decode zbMo_readTrigger 101 = .ok (.iload 4, 2) := by decide +kernel
theorem dMo_readTrigger_103 : decode zbMo_readTrigger 103 = .ok (.ifCond .lt 8, 3) := by decide +kernel
theorem dMo_readTrigger_106 : decode zbMo_readTrigger 106 = .ok (.iload 4, 2) := by decide +kernel
theorem dMo_readTrigger_108 : decode zbMo_readTrigger 108 = .ok (.goto 10, 3) := by decide +kernel
theorem dMo_readTrigger_111 : decode zbMo_readTrigger 111 = .ok (.aload_n 0, 1) := by decide +kernel
theorem dMo_readTrigger_112 : decode zbMo_readTrigger 112 = .ok (.iload_n 2, 1) := by decide +kernel
theorem dMo_readTrigger_113 : decode zbMo_readTrigger 113 = .ok (.iconst 1, 1) := by decide +kernel
theorem dMo_readTrigger_114 : decode zbMo_readTrigger 114 = .ok (.iadd, 1) := by decide +kernel
theorem dMo_readTrigger_115 : decode zbMo_readTrigger 115 = .ok (.invokevirtual 79, 3) := by decide +kernel
theorem dMo_readTrigger_118 : decode zbMo_readTrigger 118 = .ok (.iastore, 1) := by decide +kernel
theorem dMo_readTrigger_119 : decode zbMo_readTrigger 119 = .ok (.aload_n 0, 1) := by decide +kernel
theorem dMo_readTrigger_120 : decode zbMo_readTrigger 120 = .ok (.getfield 27, 3) := by decide +kernel
theorem dMo_readTrigger_123 : decode zbMo_readTrigger 123 = .ok (.iload_n 1, 1) := by decide +kernel
theorem dMo_readTrigger_124 : decode zbMo_readTrigger 124 = .ok (.aload_n 0, 1) := by decide +kernel
theorem dMo_readTrigger_125 : decode zbMo_readTrigger 125 = .ok (.iload_n 2, 1) := by decide +kernel
theorem dMo_readTrigger_126 : decode zbMo_readTrigger 126 = .ok (.iconst 1, 1) := by decide +kernel
theorem dMo_readTrigger_127 : decode zbMo_readTrigger 127 = .ok (.iadd, 1) := by decide +kernel
theorem dMo_readTrigger_128 : decode zbMo_readTrigger 128 = .ok (.invokevirtual 82, 3) := by decide +kernel
theorem dMo_readTrigger_131 : decode zbMo_readTrigger 131 = .ok (.iastore, 1) := by decide +kernel
theorem dMo_readTrigger_132 : decode zbMo_readTrigger 132 = .ok (.iload 4, 2) := by decide +kernel
theorem dMo_readTrigger_134 : decode zbMo_readTrigger 134 = .ok (.ifCond .lt 13, 3) := by decide +kernel
theorem dMo_readTrigger_137 : decode zbMo_readTrigger 137 = .ok (.aload_n 0, 1) := by decide +kernel
theorem dMo_readTrigger_138 : decode zbMo_readTrigger 138 = .ok (.iload_n 2, 1) := by decide +kernel
theorem dMo_readTrigger_139 : decode zbMo_readTrigger 139 = .ok (.iconst 1, 1) := by decide +kernel
theorem dMo_readTrigger_140 : decode zbMo_readTrigger 140 = .ok (.iadd, 1) := by decide +kernel
theorem dMo_readTrigger_141 : decode zbMo_readTrigger 141 = .ok (.invokevirtual 82, 3) := by decide +kernel
theorem dMo_readTrigger_144 : decode zbMo_readTrigger 144 = .ok (.goto 10, 3) := by decide +kernel
theorem dMo_readTrigger_147 : decode zbMo_readTrigger 147 = .ok (.aload_n 0, 1) := by decide +kernel
theorem dMo_readTrigger_148 : decode zbMo_readTrigger 148 = .ok (.iload_n 2, 1) := by decide +kernel
theorem dMo_readTrigger_149 : decode zbMo_readTrigger 149 = .ok (.iconst 1, 1) := by decide +kernel
theorem dMo_readTrigger_150 : decode zbMo_readTrigger 150 = .ok (.iadd, 1) := by decide +kernel
theorem dMo_readTrigger_151 : decode zbMo_readTrigger 151 = .ok (.invokevirtual 79, 3) := by decide +kernel
theorem dMo_readTrigger_154 : decode zbMo_readTrigger 154 = .ok (.ifCond .ge 10, 3) := by decide +kernel
theorem dMo_readTrigger_157 : decode zbMo_readTrigger 157 = .ok (.bipush (-2), 2) := by decide +kernel
theorem dMo_readTrigger_159 : decode zbMo_readTrigger 159 = .ok (.iload_n 2, 1) := by decide +kernel
theorem dMo_readTrigger_160 : decode zbMo_readTrigger 160 = .ok (.isub, 1) := by decide +kernel
theorem dMo_readTrigger_161 : decode zbMo_readTrigger 161 = .ok (.goto 6, 3) := by decide +kernel
theorem dMo_readTrigger_164 : decode zbMo_readTrigger 164 = .ok (.iload_n 2, 1) := by decide +kernel
theorem dMo_readTrigger_165 : decode zbMo_readTrigger 165 = .ok (.iconst 2, 1) := by decide +kernel
theorem dMo_readTrigger_166 : decode zbMo_readTrigger 166 = .ok (.iadd, 1) := by decide +kernel
theorem dMo_readTrigger_167 : decode zbMo_readTrigger 167 = .ok (.ireturn, 1) := by decide +kernel
theorem dMo_overPair_0 : decode zbMo_overPair 0 = .ok (.aload_n 0, 1) := by decide +kernel
theorem dMo_overPair_1 : decode zbMo_overPair 1 = .ok (.iload_n 1, 1) := by decide +kernel
theorem dMo_overPair_2 : decode zbMo_overPair 2 = .ok (.invokevirtual 76, 3) := by decide +kernel
theorem dMo_overPair_5 : decode zbMo_overPair 5 = .ok (.ifCond .ge 7, 3) := by decide +kernel
theorem dMo_overPair_8 : decode zbMo_overPair 8 = .ok (.iconst (-1), 1) := by decide +kernel
theorem dMo_overPair_9 : decode zbMo_overPair 9 = .ok (.iload_n 1, 1) := by decide +kernel
theorem dMo_overPair_10 : decode zbMo_overPair 10 = .ok (.isub, 1) := by decide +kernel
theorem dMo_overPair_11 : decode zbMo_overPair 11 = .ok (.ireturn, 1) := by decide +kernel
theorem dMo_overPair_12 : decode zbMo_overPair 12 = .ok (.aload_n 0, 1) := by decide +kernel
theorem dMo_overPair_13 : decode zbMo_overPair 13 = .ok (.iload_n 1, 1) := by decide +kernel
theorem dMo_overPair_14 : decode zbMo_overPair 14 = .ok (.iconst 1, 1) := by decide +kernel
theorem dMo_overPair_15 : decode zbMo_overPair 15 = .ok (.iadd, 1) := by decide +kernel
theorem dMo_overPair_16 : decode zbMo_overPair 16 = .ok (.invokevirtual 76, 3) := by decide +kernel
theorem dMo_overPair_19 : decode zbMo_overPair 19 = .ok (.ifCond .lt 18, 3) := by decide +kernel
theorem dMo_overPair_22 : decode zbMo_overPair 22 = .ok (.aload_n 0, 1) := by decide +kernel
theorem dMo_overPair_23 : decode zbMo_overPair 23 = .ok (.iload_n 1, 1) := by decide +kernel
theorem dMo_overPair_24 : decode zbMo_overPair 24 = .ok (.iconst 1, 1) := by decide +kernel
theorem dMo_overPair_25 : decode zbMo_overPair 25 = .ok (.iadd, 1) := by decide +kernel
theorem dMo_overPair_26 : decode zbMo_overPair 26 = .ok (.invokevirtual 76, 3) := by decide +kernel
theorem dMo_overPair_29 : decode zbMo_overPair 29 = .ok (.aload_n 0, 1) := by decide +kernel
theorem dMo_overPair_30 : decode zbMo_overPair 30 = .ok (.iload_n 1, 1) := by decide +kernel
theorem dMo_overPair_31 : decode zbMo_overPair 31 = .ok (.invokevirtual 76, 3) := by decide +kernel
theorem dMo_overPair_34 : decode zbMo_overPair 34 = .ok (.if_icmp .ne 8, 3) := by decide +kernel
theorem dMo_overPair_37 : decode zbMo_overPair 37 = .ok (.bipush (-2), 2) := by decide +kernel
theorem dMo_overPair_39 : decode zbMo_overPair 39 = .ok (.iload_n 1, 1) := by decide +kernel
theorem dMo_overPair_40 : decode zbMo_overPair 40 = .ok (.isub, 1) := by decide +kernel
theorem dMo_overPair_41 : decode zbMo_overPair 41 = .ok (.ireturn, 1) := by decide +kernel
theorem dMo_overPair_42 : decode zbMo_overPair 42 = .ok (.aload_n 0, 1) := by decide +kernel
theorem dMo_overPair_43 : decode zbMo_overPair 43 = .ok (.iload_n 1, 1) := by decide +kernel
theorem dMo_overPair_44 : decode zbMo_overPair 44 = .ok (.iconst 2, 1) := by decide +kernel
theorem dMo_overPair_45 : decode zbMo_overPair 45 = .ok (.iadd, 1) := by decide +kernel
theorem dMo_overPair_46 : decode zbMo_overPair 46 = .ok (.invokevirtual 79, 3) := by decide +kernel
theorem dMo_overPair_49 : decode zbMo_overPair 49 = .ok (.ifCond .ge 10, 3) := by decide +kernel
theorem dMo_overPair_52 : decode zbMo_overPair 52 = .ok (.bipush (-3), 2) := by decide +kernel
theorem dMo_overPair_54 : decode zbMo_overPair 54 = .ok (.iload_n 1, 1) := by decide +kernel
theorem dMo_overPair_55 : decode zbMo_overPair 55 = .ok (.isub, 1) := by decide +kernel
theorem dMo_overPair_56 : decode zbMo_overPair 56 = .ok (.goto 6, 3) := by decide +kernel
theorem dMo_overPair_59 : decode zbMo_overPair 59 = .ok (.iload_n 1, 1) := by decide +kernel
theorem dMo_overPair_60 : decode zbMo_overPair 60 = .ok (.iconst 3, 1) := by decide +kernel
theorem dMo_overPair_61 : decode zbMo_overPair 61 = .ok (.iadd, 1) := by decide +kernel
theorem dMo_overPair_62 : decode zbMo_overPair 62 = .ok (.ireturn, 1) := by decide +kernel
theorem dMo_readBound_0 : decode zbMo_readBound 0 = .ok (.aload_n 0, 1) := by decide +kernel
theorem dMo_readBound_1 : decode zbMo_readBound 1 = .ok (.getfield 30, 3) := by decide +kernel
theorem dMo_readBound_4 : decode zbMo_readBound 4 = .ok (.iload_n 1, 1) := by decide +kernel
theorem dMo_readBound_5 : decode zbMo_readBound 5 = .ok (.aload_n 0, 1) := by decide +kernel
theorem dMo_readBound_6 : decode zbMo_readBound 6 = .ok (.iload_n 2, 1) := by decide +kernel
theorem dMo_readBound_7 : decode zbMo_readBound 7 = .ok (.invokevirtual 72, 3) := by decide +kernel
theorem dMo_readBound_10 : decode zbMo_readBound 10 = .ok (.bipush 91, 2) := by decide +kernel
theorem dMo_readBound_12 : decode zbMo_readBound 12 = .ok (.if_icmp .ne 7, 3) := by decide +kernel
theorem dMo_readBound_15 : decode zbMo_readBound 15 = .ok (.iconst 1, 1) := by decide +kernel
theorem dMo_readBound_16 : decode zbMo_readBound 16 = .ok (.goto 4, 3) := by decide +kernel
theorem dMo_readBound_19 : decode zbMo_readBound 19 = .ok (.iconst 0, 1) := by decide +kernel
theorem dMo_readBound_20 : decode zbMo_readBound 20 = .ok (.bastore, 1) := by decide +kernel
theorem dMo_readBound_21 : decode zbMo_readBound 21 = .ok (.aload_n 0, 1) := by decide +kernel
theorem dMo_readBound_22 : decode zbMo_readBound 22 = .ok (.getfield 30, 3) := by decide +kernel
theorem dMo_readBound_25 : decode zbMo_readBound 25 = .ok (.iload_n 1, 1) := by decide +kernel
theorem dMo_readBound_26 : decode zbMo_readBound 26 = .ok (.baload, 1) := by decide +kernel
theorem dMo_readBound_27 : decode zbMo_readBound 27 = .ok (.ifCond .ne 5, 3) := by decide +kernel
theorem dMo_readBound_30 : decode zbMo_readBound 30 = .ok (.iload_n 2, 1) := by decide +kernel
theorem dMo_readBound_31 : decode zbMo_readBound 31 = .ok (.ireturn, 1) := by decide +kernel
theorem dMo_readBound_32 : decode zbMo_readBound 32 = .ok (.aload_n 0, 1) := by decide +kernel
theorem dMo_readBound_33 : decode zbMo_readBound 33 = .ok (.getfield 33, 3) := by decide +kernel
theorem dMo_readBound_36 : decode zbMo_readBound 36 = .ok (.iload_n 1, 1) := by decide +kernel
theorem dMo_readBound_37 : decode zbMo_readBound 37 = .ok (.aload_n 0, 1) := by decide +kernel
theorem dMo_readBound_38 : decode zbMo_readBound 38 = .ok (.iload_n 2, 1) := by decide +kernel
theorem dMo_readBound_39 : decode zbMo_readBound 39 = .ok (.iconst 1, 1) := by decide +kernel
theorem dMo_readBound_40 : decode zbMo_readBound 40 = .ok (.iadd, 1) := by decide +kernel
theorem dMo_readBound_41 : decode zbMo_readBound 41 = .ok (.invokevirtual 76, 3) := by decide +kernel
theorem dMo_readBound_44 : decode zbMo_readBound 44 = .ok (.iastore, 1) := by decide +kernel
theorem dMo_readBound_45 : decode zbMo_readBound 45 = .ok (.aload_n 0, 1) := by decide +kernel
theorem dMo_readBound_46 : decode zbMo_readBound 46 = .ok (.getfield 36, 3) := by decide +kernel
theorem dMo_readBound_49 : decode zbMo_readBound 49 = .ok (.iload_n 1, 1) := by decide +kernel
theorem dMo_readBound_50 : decode zbMo_readBound 50 = .ok (.aload_n 0, 1) := by decide +kernel
theorem dMo_readBound_51 : decode zbMo_readBound 51 = .ok (.iload_n 2, 1) := by decide +kernel
theorem dMo_readBound_52 : decode zbMo_readBound 52 = .ok (.iconst 2, 1) := by decide +kernel
theorem dMo_readBound_53 : decode zbMo_readBound 53 = .ok (.iadd, 1) := by decide +kernel
theorem dMo_readBound_54 : decode zbMo_readBound 54 = .ok (.invokevirtual 76, 3) := by decide +kernel
theorem dMo_readBound_57 : decode zbMo_readBound 57 = .ok (.iastore, 1) := by decide +kernel
theorem dMo_readBound_58 : decode zbMo_readBound 58 = .ok (.aload_n 0, 1) := by decide +kernel
theorem dMo_readBound_59 : decode zbMo_readBound 59 = .ok (.getfield 39, 3) := by decide +kernel
theorem dMo_readBound_62 : decode zbMo_readBound 62 = .ok (.iload_n 1, 1) := by decide +kernel
theorem dMo_readBound_63 : decode zbMo_readBound 63 = .ok (.aload_n 0, 1) := by decide +kernel
theorem dMo_readBound_64 : decode zbMo_readBound 64 = .ok (.iload_n 2, 1) := by decide +kernel
theorem dMo_readBound_65 : decode zbMo_readBound 65 = .ok (.iconst 3, 1) := by decide +kernel
theorem dMo_readBound_66 : decode zbMo_readBound 66 = .ok (.iadd, 1) := by decide +kernel
theorem dMo_readBound_67 : decode zbMo_readBound 67 = .ok (.invokevirtual 79, 3) := by decide +kernel
theorem dMo_readBound_70 : decode zbMo_readBound 70 = .ok (.iastore, 1) := by decide +kernel
theorem dMo_readBound_71 : decode zbMo_readBound 71 = .ok (.aload_n 0, 1) := by decide +kernel
theorem dMo_readBound_72 : decode zbMo_readBound 72 = .ok (.iload_n 2, 1) := by decide +kernel
theorem dMo_readBound_73 : decode zbMo_readBound 73 = .ok (.iconst 1, 1) := by decide +kernel
theorem dMo_readBound_74 : decode zbMo_readBound 74 = .ok (.iadd, 1) := by decide +kernel
theorem dMo_readBound_75 : decode zbMo_readBound 75 = .ok (.invokevirtual 85, 3) := by decide +kernel
theorem dMo_readBound_78 : decode zbMo_readBound 78 = .ok (.istore_n 3, 1) := by decide +kernel
theorem dMo_readBound_79 : decode zbMo_readBound 79 = .ok (.iload_n 3, 1) := by decide +kernel
theorem dMo_readBound_80 : decode zbMo_readBound 80 = .ok (.ifCond .ge 7, 3) := by decide +kernel
theorem dMo_readBound_83 : decode zbMo_readBound 83 = .ok (.iload_n 3, 1) := by decide +kernel
theorem dMo_readBound_84 : decode zbMo_readBound 84 = .ok (.goto 22, 3) := by decide +kernel
theorem dMo_readBound_87 : decode zbMo_readBound 87 = .ok (.aload_n 0, 1) := by decide +kernel
theorem dMo_readBound_88 : decode zbMo_readBound 88 = .ok (.iload_n 3, 1) := by decide +kernel
theorem dMo_readBound_89 : decode zbMo_readBound 89 = .ok (.invokevirtual 72, 3) := by decide +kernel
theorem dMo_readBound_92 : decode zbMo_readBound 92 = .ok (.bipush 93, 2) := by decide +kernel
theorem dMo_readBound_94 : decode zbMo_readBound 94 = .ok (.if_icmp .ne 9, 3) := by decide +kernel
theorem dMo_readBound_97 : decode zbMo_readBound 97 = .ok (.iload_n 3, 1) := by decide +kernel
theorem dMo_readBound_98 : decode zbMo_readBound 98 = .ok (.iconst 1, 1) := by decide +kernel
theorem dMo_readBound_99 : decode zbMo_readBound 99 = .ok (.iadd, 1) := by decide +kernel
theorem dMo_readBound_100 : decode zbMo_readBound 100 = .ok (.goto 6, 3) := by decide +kernel
theorem dMo_readBound_103 : decode zbMo_readBound 103 = .ok (.iconst (-1), 1) := by decide +kernel
theorem dMo_readBound_104 : decode zbMo_readBound 104 = .ok (.iload_n 3, 1) := by decide +kernel
theorem dMo_readBound_105 : decode zbMo_readBound 105 = .ok (.isub, 1) := by decide +kernel
theorem dMo_readBound_106 : decode zbMo_readBound 106 = .ok (.ireturn, 1) := by decide +kernel
theorem dMo_readAction_0 : decode zbMo_readAction 0 = .ok (.aload_n 0, 1) := by decide +kernel
theorem dMo_readAction_1 : decode zbMo_readAction 1 = .ok (.iload_n 2, 1) := by decide +kernel
theorem dMo_readAction_2 : decode zbMo_readAction 2 = .ok (.invokevirtual 72, 3) := by decide +kernel
theorem dMo_readAction_5 : decode zbMo_readAction 5 = .ok (.istore_n 3, 1) := by decide +kernel
theorem dMo_readAction_6 : decode zbMo_readAction 6 = .ok (.aload_n 0, 1) := by decide +kernel
theorem dMo_readAction_7 : decode zbMo_readAction 7 = .ok (.getfield 42, 3) := by decide +kernel
theorem dMo_readAction_10 : decode zbMo_readAction 10 = .ok (.iload_n 1, 1) := by decide +kernel
theorem dMo_readAction_11 : decode zbMo_readAction 11 = .ok (.iload_n 3, 1) := by decide +kernel
theorem dMo_readAction_12 : decode zbMo_readAction 12 = .ok (.bipush 33, 2) := by decide +kernel
theorem dMo_readAction_14 : decode zbMo_readAction 14 = .ok (.if_icmp .ne 7, 3) := by decide +kernel
theorem dMo_readAction_17 : decode zbMo_readAction 17 = .ok (.iconst 0, 1) := by decide +kernel
theorem dMo_readAction_18 : decode zbMo_readAction 18 = .ok (.goto 44, 3) := by decide +kernel
theorem dMo_readAction_21 : decode zbMo_readAction 21 = .ok (.iload_n 3, 1) := by decide +kernel
theorem dMo_readAction_22 : decode zbMo_readAction 22 = .ok (.bipush 126, 2) := by decide +kernel
theorem dMo_readAction_24 : decode zbMo_readAction 24 = .ok (.if_icmp .ne 7, 3) := by decide +kernel
theorem dMo_readAction_27 : decode zbMo_readAction 27 = .ok (.iconst 1, 1) := by decide +kernel
theorem dMo_readAction_28 : decode zbMo_readAction 28 = .ok (.goto 34, 3) := by decide +kernel
theorem dMo_readAction_31 : decode zbMo_readAction 31 = .ok (.iload_n 3, 1) := by decide +kernel
theorem dMo_readAction_32 : decode zbMo_readAction 32 = .ok (.bipush 63, 2) := by decide +kernel
theorem dMo_readAction_34 : decode zbMo_readAction 34 = .ok (.if_icmp .ne 7, 3) := by decide +kernel
theorem dMo_readAction_37 : decode zbMo_readAction 37 = .ok (.iconst 2, 1) := by decide +kernel
theorem dMo_readAction_38 : decode zbMo_readAction 38 = .ok (.goto 24, 3) := by decide +kernel
theorem dMo_readAction_41 : decode zbMo_readAction 41 = .ok (.iload_n 3, 1) := by decide +kernel
theorem dMo_readAction_42 : decode zbMo_readAction 42 = .ok (.bipush 36, 2) := by decide +kernel
theorem dMo_readAction_44 : decode zbMo_readAction 44 = .ok (.if_icmp .ne 7, 3) := by decide +kernel
theorem dMo_readAction_47 : decode zbMo_readAction 47 = .ok (.iconst 3, 1) := by decide +kernel
theorem dMo_readAction_48 : decode zbMo_readAction 48 = .ok (.goto 14, 3) := by decide +kernel
theorem dMo_readAction_51 : decode zbMo_readAction 51 = .ok (.iload_n 3, 1) := by decide +kernel
theorem dMo_readAction_52 : decode zbMo_readAction 52 = .ok (.bipush 61, 2) := by decide +kernel
theorem dMo_readAction_54 : decode zbMo_readAction 54 = .ok (.if_icmp .ne 7, 3) := by decide +kernel
theorem dMo_readAction_57 : decode zbMo_readAction 57 = .ok (.iconst 4, 1) := by decide +kernel
theorem dMo_readAction_58 : decode zbMo_readAction 58 = .ok (.goto 4, 3) := by decide +kernel
theorem dMo_readAction_61 : decode zbMo_readAction 61 = .ok (.iconst (-1), 1) := by decide +kernel
theorem dMo_readAction_62 : decode zbMo_readAction 62 = .ok (.iastore, 1) := by decide +kernel
theorem dMo_readAction_63 : decode zbMo_readAction 63 = .ok (.aload_n 0, 1) := by decide +kernel
theorem dMo_readAction_64 : decode zbMo_readAction 64 = .ok (.getfield 42, 3) := by decide +kernel
theorem dMo_readAction_67 : decode zbMo_readAction 67 = .ok (.iload_n 1, 1) := by decide +kernel
theorem dMo_readAction_68 : decode zbMo_readAction 68 = .ok (.iaload, 1) := by decide +kernel
theorem dMo_readAction_69 : decode zbMo_readAction 69 = .ok (.ifCond .ge 7, 3) := by decide +kernel
theorem dMo_readAction_72 : decode zbMo_readAction 72 = .ok (.iconst (-1), 1) := by decide +kernel
theorem dMo_readAction_73 : decode zbMo_readAction 73 = .ok (.iload_n 2, 1) := by decide +kernel
theorem dMo_readAction_74 : decode zbMo_readAction 74 = .ok (.isub, 1) := by decide +kernel
theorem dMo_readAction_75 : decode zbMo_readAction 75 = .ok (.ireturn, 1) := by decide +kernel
theorem dMo_readAction_76 : decode zbMo_readAction 76 = .ok (.aload_n 0, 1) := by decide +kernel
theorem dMo_readAction_77 : decode zbMo_readAction 77 = .ok (.getfield 42, 3) := by decide +kernel
theorem dMo_readAction_80 : decode zbMo_readAction 80 = .ok (.iload_n 1, 1) := by decide +kernel
theorem dMo_readAction_81 : decode zbMo_readAction 81 = .ok (.iaload, 1) := by decide +kernel
theorem dMo_readAction_82 : decode zbMo_readAction 82 = .ok (.iconst 4, 1) := by decide +kernel
theorem dMo_readAction_83 : decode zbMo_readAction 83 = .ok (.if_icmp .ne 36, 3) := by decide +kernel
theorem dMo_readAction_86 : decode zbMo_readAction 86 = .ok (.aload_n 0, 1) := by decide +kernel
theorem dMo_readAction_87 : decode zbMo_readAction 87 = .ok (.getfield 45, 3) := by decide +kernel
theorem dMo_readAction_90 : decode zbMo_readAction 90 = .ok (.iload_n 1, 1) := by decide +kernel
theorem dMo_readAction_91 : decode zbMo_readAction 91 = .ok (.aload_n 0, 1) := by decide +kernel
theorem dMo_readAction_92 : decode zbMo_readAction 92 = .ok (.iload_n 2, 1) := by decide +kernel
theorem dMo_readAction_93 : decode zbMo_readAction 93 = .ok (.iconst 1, 1) := by decide +kernel
theorem dMo_readAction_94 : decode zbMo_readAction 94 = .ok (.iadd, 1) := by decide +kernel
theorem dMo_readAction_95 : decode zbMo_readAction 95 = .ok (.invokevirtual 79, 3) := by decide +kernel
theorem dMo_readAction_98 : decode zbMo_readAction 98 = .ok (.iastore, 1) := by decide +kernel
theorem dMo_readAction_99 : decode zbMo_readAction 99 = .ok (.aload_n 0, 1) := by decide +kernel
theorem dMo_readAction_100 : decode zbMo_readAction 100 = .ok (.getfield 45, 3) := by decide +kernel
theorem dMo_readAction_103 : decode zbMo_readAction 103 = .ok (.iload_n 1, 1) := by decide +kernel
theorem dMo_readAction_104 : decode zbMo_readAction 104 = .ok (.iaload, 1) := by decide +kernel
theorem dMo_readAction_105 : decode zbMo_readAction 105 = .ok (.ifCond .ge 10, 3) := by decide +kernel
theorem dMo_readAction_108 : decode zbMo_readAction 108 = .ok (.bipush (-2), 2) := by decide +kernel
theorem dMo_readAction_110 : decode zbMo_readAction 110 = .ok (.iload_n 2, 1) := by decide +kernel
theorem dMo_readAction_111 : decode zbMo_readAction 111 = .ok (.isub, 1) := by decide +kernel
theorem dMo_readAction_112 : decode zbMo_readAction 112 = .ok (.goto 6, 3) := by decide +kernel
theorem dMo_readAction_115 : decode zbMo_readAction 115 = .ok (.iload_n 2, 1) := by decide +kernel
theorem dMo_readAction_116 : decode zbMo_readAction 116 = .ok (.iconst 2, 1) := by decide +kernel
theorem dMo_readAction_117 : decode zbMo_readAction 117 = .ok (.iadd, 1) := by decide +kernel
theorem dMo_readAction_118 : decode zbMo_readAction 118 = .ok (.ireturn, 1) := by decide +kernel
theorem dMo_readAction_119 : decode zbMo_readAction 119 = .ok (.aload_n 0, 1) := by decide +kernel
theorem dMo_readAction_120 : decode zbMo_readAction 120 = .ok (.getfield 45, 3) := by decide +kernel
theorem dMo_readAction_123 : decode zbMo_readAction 123 = .ok (.iload_n 1, 1) := by decide +kernel
theorem dMo_readAction_124 : decode zbMo_readAction 124 = .ok (.aload_n 0, 1) := by decide +kernel
theorem dMo_readAction_125 : decode zbMo_readAction 125 = .ok (.iload_n 2, 1) := by decide +kernel
theorem dMo_readAction_126 : decode zbMo_readAction 126 = .ok (.iconst 1, 1) := by decide +kernel
theorem dMo_readAction_127 : decode zbMo_readAction 127 = .ok (.iadd, 1) := by decide +kernel
theorem dMo_readAction_128 : decode zbMo_readAction 128 = .ok (.invokevirtual 76, 3) := by decide +kernel
theorem dMo_readAction_131 : decode zbMo_readAction 131 = .ok (.iastore, 1) := by decide +kernel
theorem dMo_readAction_132 : decode zbMo_readAction 132 = .ok (.aload_n 0, 1) := by decide +kernel
theorem dMo_readAction_133 : decode zbMo_readAction 133 = .ok (.getfield 48, 3) := by decide +kernel
theorem dMo_readAction_136 : decode zbMo_readAction 136 = .ok (.iload_n 1, 1) := by decide +kernel
theorem dMo_readAction_137 : decode zbMo_readAction 137 = .ok (.aload_n 0, 1) := by decide +kernel
theorem dMo_readAction_138 : decode zbMo_readAction 138 = .ok (.getfield 42, 3) := by decide +kernel
theorem dMo_readAction_141 : decode zbMo_readAction 141 = .ok (.iload_n 1, 1) := by decide +kernel
theorem dMo_readAction_142 : decode zbMo_readAction 142 = .ok (.iaload, 1) := by decide +kernel
theorem dMo_readAction_143 : decode zbMo_readAction 143 = .ok (.iconst 3, 1) := by decide +kernel
theorem dMo_readAction_144 : decode zbMo_readAction 144 = .ok (.if_icmp .ne 13, 3) := by decide +kernel
theorem dMo_readAction_147 : decode zbMo_readAction 147 = .ok (.aload_n 0, 1) := by decide +kernel
theorem dMo_readAction_148 : decode zbMo_readAction 148 = .ok (.iload_n 2, 1) := by decide +kernel
theorem dMo_readAction_149 : decode zbMo_readAction 149 = .ok (.iconst 2, 1) := by decide +kernel
theorem dMo_readAction_150 : decode zbMo_readAction 150 = .ok (.iadd, 1) := by decide +kernel
theorem dMo_readAction_151 : decode zbMo_readAction 151 = .ok (.invokevirtual 76, 3) := by decide +kernel
theorem dMo_readAction_154 : decode zbMo_readAction 154 = .ok (.goto 10, 3) := by decide +kernel
theorem dMo_readAction_157 : decode zbMo_readAction 157 = .ok (.aload_n 0, 1) := by decide +kernel
theorem dMo_readAction_158 : decode zbMo_readAction 158 = .ok (.iload_n 2, 1) := by decide +kernel
theorem dMo_readAction_159 : decode zbMo_readAction 159 = .ok (.iconst 2, 1) := by decide +kernel
theorem dMo_readAction_160 : decode zbMo_readAction 160 = .ok (.iadd, 1) := by decide +kernel
theorem dMo_readAction_161 : decode zbMo_readAction 161 = .ok (.invokevirtual 82, 3) := by decide +kernel
theorem dMo_readAction_164 : decode zbMo_readAction 164 = .ok (.iastore, 1) := by decide +kernel
theorem dMo_readAction_165 : decode zbMo_readAction 165 = .ok (.aload_n 0, 1) := by decide +kernel
theorem dMo_readAction_166 : decode zbMo_readAction 166 = .ok (.getfield 51, 3) := by decide +kernel
theorem dMo_readAction_169 : decode zbMo_readAction 169 = .ok (.iload_n 1, 1) := by decide +kernel
theorem dMo_readAction_170 : decode zbMo_readAction 170 = .ok (.aload_n 0, 1) := by decide +kernel
theorem dMo_readAction_171 : decode zbMo_readAction 171 = .ok (.iload_n 2, 1) := by decide +kernel
theorem dMo_readAction_172 : decode zbMo_readAction 172 = .ok (.iconst 3, 1) := by decide +kernel
theorem dMo_readAction_173 : decode zbMo_readAction 173 = .ok (.iadd, 1) := by decide +kernel
theorem dMo_readAction_174 : decode zbMo_readAction 174 = .ok (.invokevirtual 79, 3) := by decide +kernel
theorem dMo_readAction_177 : decode zbMo_readAction 177 = .ok (.iastore, 1) := by decide +kernel
theorem dMo_readAction_178 : decode zbMo_readAction 178 = .ok (.aload_n 0, 1) := by decide +kernel
theorem dMo_readAction_179 : decode zbMo_readAction 179 = .ok (.getfield 42, 3) := by decide +kernel
theorem dMo_readAction_182 : decode zbMo_readAction 182 = .ok (.iload_n 1, 1) := by decide +kernel
theorem dMo_readAction_183 : decode zbMo_readAction 183 = .ok (.iaload, 1) := by decide +kernel
theorem dMo_readAction_184 : decode zbMo_readAction 184 = .ok (.iconst 3, 1) := by decide +kernel
theorem dMo_readAction_185 : decode zbMo_readAction 185 = .ok (.if_icmp .ne 11, 3) := by decide +kernel
theorem dMo_readAction_188 : decode zbMo_readAction 188 = .ok (.aload_n 0, 1) := by decide +kernel
theorem dMo_readAction_189 : decode zbMo_readAction 189 = .ok (.iload_n 2, 1) := by decide +kernel
theorem dMo_readAction_190 : decode zbMo_readAction 190 = .ok (.iconst 1, 1) := by decide +kernel
theorem dMo_readAction_191 : decode zbMo_readAction 191 = .ok (.iadd, 1) := by decide +kernel
theorem dMo_readAction_192 : decode zbMo_readAction 192 = .ok (.invokevirtual 85, 3) := by decide +kernel
theorem dMo_readAction_195 : decode zbMo_readAction 195 = .ok (.ireturn, 1) := by decide +kernel
theorem dMo_readAction_196 : decode zbMo_readAction 196 = .ok (.aload_n 0, 1) := by decide +kernel
theorem dMo_readAction_197 : decode zbMo_readAction 197 = .ok (.getfield 45, 3) := by decide +kernel
theorem dMo_readAction_200 : decode zbMo_readAction 200 = .ok (.iload_n 1, 1) := by decide +kernel
theorem dMo_readAction_201 : decode zbMo_readAction 201 = .ok (.iaload, 1) := by decide +kernel
theorem dMo_readAction_202 : decode zbMo_readAction 202 = .ok (.ifCond .ge 10, 3) := by decide +kernel
theorem dMo_readAction_205 : decode zbMo_readAction 205 = .ok (.bipush (-2), 2) := by decide +kernel
theorem dMo_readAction_207 : decode zbMo_readAction 207 = .ok (.iload_n 2, 1) := by decide +kernel
theorem dMo_readAction_208 : decode zbMo_readAction 208 = .ok (.isub, 1) := by decide +kernel
theorem dMo_readAction_209 : decode zbMo_readAction 209 = .ok (.goto 38, 3) := by decide +kernel
theorem dMo_readAction_212 : decode zbMo_readAction 212 = .ok (.aload_n 0, 1) := by decide +kernel
theorem dMo_readAction_213 : decode zbMo_readAction 213 = .ok (.getfield 48, 3) := by decide +kernel
theorem dMo_readAction_216 : decode zbMo_readAction 216 = .ok (.iload_n 1, 1) := by decide +kernel
theorem dMo_readAction_217 : decode zbMo_readAction 217 = .ok (.iaload, 1) := by decide +kernel
theorem dMo_readAction_218 : decode zbMo_readAction 218 = .ok (.ifCond .ge 10, 3) := by decide +kernel
theorem dMo_readAction_221 : decode zbMo_readAction 221 = .ok (.bipush (-3), 2) := by decide +kernel
theorem dMo_readAction_223 : decode zbMo_readAction 223 = .ok (.iload_n 2, 1) := by decide +kernel
theorem dMo_readAction_224 : decode zbMo_readAction 224 = .ok (.isub, 1) := by decide +kernel
theorem dMo_readAction_225 : decode zbMo_readAction 225 = .ok (.goto 22, 3) := by decide +kernel
theorem dMo_readAction_228 : decode zbMo_readAction 228 = .ok (.aload_n 0, 1) := by decide +kernel
theorem dMo_readAction_229 : decode zbMo_readAction 229 = .ok (.getfield 51, 3) := by decide +kernel
theorem dMo_readAction_232 : decode zbMo_readAction 232 = .ok (.iload_n 1, 1) := by decide +kernel
theorem dMo_readAction_233 : decode zbMo_readAction 233 = .ok (.iaload, 1) := by decide +kernel
theorem dMo_readAction_234 : decode zbMo_readAction 234 = .ok (.ifCond .ge 10, 3) := by decide +kernel
theorem dMo_readAction_237 : decode zbMo_readAction 237 = .ok (.bipush (-4), 2) := by decide +kernel
theorem dMo_readAction_239 : decode zbMo_readAction 239 = .ok (.iload_n 2, 1) := by decide +kernel
theorem dMo_readAction_240 : decode zbMo_readAction 240 = .ok (.isub, 1) := by decide +kernel
theorem dMo_readAction_241 : decode zbMo_readAction 241 = .ok (.goto 6, 3) := by decide +kernel
theorem dMo_readAction_244 : decode zbMo_readAction 244 = .ok (.iload_n 2, 1) := by decide +kernel
theorem dMo_readAction_245 : decode zbMo_readAction 245 = .ok (.iconst 4, 1) := by decide +kernel
theorem dMo_readAction_246 : decode zbMo_readAction 246 = .ok (.iadd, 1) := by decide +kernel
theorem dMo_readAction_247 : decode zbMo_readAction 247 = .ok (.ireturn, 1) := by decide +kernel
theorem dMo_readClause_0 : decode zbMo_readClause 0 = .ok (.aload_n 0, 1) := by decide +kernel
theorem dMo_readClause_1 : decode zbMo_readClause 1 = .ok (.iload_n 1, 1) := by decide +kernel
theorem dMo_readClause_2 : decode zbMo_readClause 2 = .ok (.iload_n 2, 1) := by decide +kernel
theorem dMo_readClause_3 : decode zbMo_readClause 3 = .ok (.invokevirtual 88, 3) := by decide +kernel
theorem dMo_readClause_6 : decode zbMo_readClause 6 = .ok (.istore_n 3, 1) := by decide +kernel
theorem dMo_readClause_7 : decode zbMo_readClause 7 = .ok (.iload_n 3, 1) := by decide +kernel
theorem dMo_readClause_8 : decode zbMo_readClause 8 = .ok (.ifCond .ge 7, 3) := by decide +kernel
theorem dMo_readClause_11 : decode zbMo_readClause 11 = .ok (.iload_n 3, 1) := by decide +kernel
theorem dMo_readClause_12 : decode zbMo_readClause 12 = .ok (.goto 9, 3) := by decide +kernel
theorem dMo_readClause_15 : decode zbMo_readClause 15 = .ok (.aload_n 0, 1) := by decide +kernel
theorem dMo_readClause_16 : decode zbMo_readClause 16 = .ok (.iload_n 1, 1) := by decide +kernel
theorem dMo_readClause_17 : decode zbMo_readClause 17 = .ok (.iload_n 3, 1) := by decide +kernel
theorem dMo_readClause_18 : decode zbMo_readClause 18 = .ok (.invokevirtual 92, 3) := by decide +kernel
theorem dMo_readClause_21 : decode zbMo_readClause 21 = .ok (.istore_n 3, 1) := by decide +kernel
theorem dMo_readClause_22 : decode zbMo_readClause 22 = .ok (.iload_n 3, 1) := by decide +kernel
theorem dMo_readClause_23 : decode zbMo_readClause 23 = .ok (.ifCond .lt 23, 3) := by decide +kernel
theorem dMo_readClause_26 : decode zbMo_readClause 26 = .ok (.aload_n 0, 1) := by decide +kernel
theorem dMo_readClause_27 : decode zbMo_readClause 27 = .ok (.iload_n 3, 1) := by decide +kernel
theorem dMo_readClause_28 : decode zbMo_readClause 28 = .ok (.invokevirtual 72, 3) := by decide +kernel
theorem dMo_readClause_31 : decode zbMo_readClause 31 = .ok (.bipush 62, 2) := by decide +kernel
theorem dMo_readClause_33 : decode zbMo_readClause 33 = .ok (.if_icmp .ne 9, 3) := by decide +kernel
theorem dMo_readClause_36 : decode zbMo_readClause 36 = .ok (.iload_n 3, 1) := by decide +kernel
theorem dMo_readClause_37 : decode zbMo_readClause 37 = .ok (.iconst 1, 1) := by decide +kernel
theorem dMo_readClause_38 : decode zbMo_readClause 38 = .ok (.iadd, 1) := by decide +kernel
theorem dMo_readClause_39 : decode zbMo_readClause 39 = .ok (.goto 6, 3) := by decide +kernel
theorem dMo_readClause_42 : decode zbMo_readClause 42 = .ok (.iconst (-1), 1) := by decide +kernel
theorem dMo_readClause_43 : decode zbMo_readClause 43 = .ok (.iload_n 3, 1) := by decide +kernel
theorem dMo_readClause_44 : decode zbMo_readClause 44 = .ok (.isub, 1) := by decide +kernel
theorem dMo_readClause_45 : decode zbMo_readClause 45 = .ok (.istore_n 3, 1) := by decide +kernel
theorem dMo_readClause_46 : decode zbMo_readClause 46 = .ok (.iload_n 3, 1) := by decide +kernel
theorem dMo_readClause_47 : decode zbMo_readClause 47 = .ok (.ifCond .ge 7, 3) := by decide +kernel
theorem dMo_readClause_50 : decode zbMo_readClause 50 = .ok (.iload_n 3, 1) := by decide +kernel
theorem dMo_readClause_51 : decode zbMo_readClause 51 = .ok (.goto 9, 3) := by decide +kernel
theorem dMo_readClause_54 : decode zbMo_readClause 54 = .ok (.aload_n 0, 1) := by decide +kernel
theorem dMo_readClause_55 : decode zbMo_readClause 55 = .ok (.iload_n 1, 1) := by decide +kernel
theorem dMo_readClause_56 : decode zbMo_readClause 56 = .ok (.iload_n 3, 1) := by decide +kernel
theorem dMo_readClause_57 : decode zbMo_readClause 57 = .ok (.invokevirtual 95, 3) := by decide +kernel
theorem dMo_readClause_60 : decode zbMo_readClause 60 = .ok (.ireturn, 1) := by decide +kernel
theorem dMo_readAll_0 : decode zbMo_readAll 0 = .ok (.iconst 0, 1) := by decide +kernel
theorem dMo_readAll_1 : decode zbMo_readAll 1 = .ok (.istore_n 2, 1) := by decide +kernel
theorem dMo_readAll_2 : decode zbMo_readAll 2 = .ok (.iconst 0, 1) := by decide +kernel
theorem dMo_readAll_3 : decode zbMo_readAll 3 = .ok (.istore_n 3, 1) := by decide +kernel
theorem dMo_readAll_4 : decode zbMo_readAll 4 = .ok (.iconst 1, 1) := by decide +kernel
theorem dMo_readAll_5 : decode zbMo_readAll 5 = .ok (.istore 4, 2) := by decide +kernel
theorem dMo_readAll_7 : decode zbMo_readAll 7 = .ok (.iload 4, 2) := by decide +kernel
theorem dMo_readAll_9 : decode zbMo_readAll 9 = .ok (.ifCond .eq 59, 3) := by decide +kernel
theorem dMo_readAll_12 : decode zbMo_readAll 12 = .ok (.aload_n 0, 1) := by decide +kernel
theorem dMo_readAll_13 : decode zbMo_readAll 13 = .ok (.iload_n 1, 1) := by decide +kernel
theorem dMo_readAll_14 : decode zbMo_readAll 14 = .ok (.iload_n 2, 1) := by decide +kernel
theorem dMo_readAll_15 : decode zbMo_readAll 15 = .ok (.iadd, 1) := by decide +kernel
theorem dMo_readAll_16 : decode zbMo_readAll 16 = .ok (.iload_n 3, 1) := by decide +kernel
theorem dMo_readAll_17 : decode zbMo_readAll 17 = .ok (.invokevirtual 98, 3) := by decide +kernel
theorem dMo_readAll_20 : decode zbMo_readAll 20 = .ok (.istore_n 3, 1) := by decide +kernel
theorem dMo_readAll_21 : decode zbMo_readAll 21 = .ok (.iload_n 2, 1) := by decide +kernel
theorem dMo_readAll_22 : decode zbMo_readAll 22 = .ok (.iconst 1, 1) := by decide +kernel
theorem dMo_readAll_23 : decode zbMo_readAll 23 = .ok (.iadd, 1) := by decide +kernel
theorem dMo_readAll_24 : decode zbMo_readAll 24 = .ok (.istore_n 2, 1) := by decide +kernel
theorem dMo_readAll_25 : decode zbMo_readAll 25 = .ok (.iload_n 3, 1) := by decide +kernel
theorem dMo_readAll_26 : decode zbMo_readAll 26 = .ok (.ifCond .lt 23, 3) := by decide +kernel
theorem dMo_readAll_29 : decode zbMo_readAll 29 = .ok (.aload_n 0, 1) := by decide +kernel
theorem dMo_readAll_30 : decode zbMo_readAll 30 = .ok (.iload_n 3, 1) := by decide +kernel
theorem dMo_readAll_31 : decode zbMo_readAll 31 = .ok (.invokevirtual 72, 3) := by decide +kernel
theorem dMo_readAll_34 : decode zbMo_readAll 34 = .ok (.bipush 59, 2) := by decide +kernel
theorem dMo_readAll_36 : decode zbMo_readAll 36 = .ok (.if_icmp .ne 13, 3) := by decide +kernel
theorem dMo_readAll_39 : decode zbMo_readAll 39 = .ok (.iload_n 2, 1) := by decide +kernel
theorem dMo_readAll_40 : decode zbMo_readAll 40 = .ok (.bipush 10, 2) := by decide +kernel
theorem dMo_readAll_42 : decode zbMo_readAll 42 = .ok (.if_icmp .ge 7, 3) := by decide +kernel
theorem dMo_readAll_45 : decode zbMo_readAll 45 = .ok (.iconst 1, 1) := by decide +kernel
theorem dMo_readAll_46 : decode zbMo_readAll 46 = .ok (.goto 4, 3) := by decide +kernel
theorem dMo_readAll_49 : decode zbMo_readAll 49 = .ok (.iconst 0, 1) := by decide +kernel
theorem dMo_readAll_50 : decode zbMo_readAll 50 = .ok (.istore 4, 2) := by decide +kernel
theorem dMo_readAll_52 : decode zbMo_readAll 52 = .ok (.iload 4, 2) := by decide +kernel
theorem dMo_readAll_54 : decode zbMo_readAll 54 = .ok (.ifCond .eq 9, 3) := by decide +kernel
theorem dMo_readAll_57 : decode zbMo_readAll 57 = .ok (.iload_n 3, 1) := by decide +kernel
theorem dMo_readAll_58 : decode zbMo_readAll 58 = .ok (.iconst 1, 1) := by decide +kernel
theorem dMo_readAll_59 : decode zbMo_readAll 59 = .ok (.iadd, 1) := by decide +kernel
theorem dMo_readAll_60 : decode zbMo_readAll 60 = .ok (.goto 4, 3) := by decide +kernel
theorem dMo_readAll_63 : decode zbMo_readAll 63 = .ok (.iload_n 3, 1) := by decide +kernel
theorem dMo_readAll_64 : decode zbMo_readAll 64 = .ok (.istore_n 3, 1) := by decide +kernel
theorem dMo_readAll_65 : decode zbMo_readAll 65 = .ok (.goto (-58), 3) := by decide +kernel
theorem dMo_readAll_68 : decode zbMo_readAll 68 = .ok (.iload_n 3, 1) := by decide +kernel
theorem dMo_readAll_69 : decode zbMo_readAll 69 = .ok (.ifCond .ge 7, 3) := by decide +kernel
theorem dMo_readAll_72 : decode zbMo_readAll 72 = .ok (.iload_n 3, 1) := by decide +kernel
theorem dMo_readAll_73 : decode zbMo_readAll 73 = .ok (.goto 18, 3) := by decide +kernel
theorem dMo_readAll_76 : decode zbMo_readAll 76 = .ok (.iload_n 3, 1) := by decide +kernel
theorem dMo_readAll_77 : decode zbMo_readAll 77 = .ok (.aload_n 0, 1) := by decide +kernel
theorem dMo_readAll_78 : decode zbMo_readAll 78 = .ok (.getfield 65, 3) := by decide +kernel
theorem dMo_readAll_81 : decode zbMo_readAll 81 = .ok (.if_icmp .ne 7, 3) := by decide +kernel
theorem dMo_readAll_84 : decode zbMo_readAll 84 = .ok (.iload_n 2, 1) := by decide +kernel
theorem dMo_readAll_85 : decode zbMo_readAll 85 = .ok (.goto 6, 3) := by decide +kernel
theorem dMo_readAll_88 : decode zbMo_readAll 88 = .ok (.iconst (-1), 1) := by decide +kernel
theorem dMo_readAll_89 : decode zbMo_readAll 89 = .ok (.iload_n 3, 1) := by decide +kernel
theorem dMo_readAll_90 : decode zbMo_readAll 90 = .ok (.isub, 1) := by decide +kernel
theorem dMo_readAll_91 : decode zbMo_readAll 91 = .ok (.ireturn, 1) := by decide +kernel
theorem dMo_refersWell_0 : decode zbMo_refersWell 0 = .ok (.aload_n 0, 1) := by decide +kernel
theorem dMo_refersWell_1 : decode zbMo_refersWell 1 = .ok (.getfield 21, 3) := by decide +kernel
theorem dMo_refersWell_4 : decode zbMo_refersWell 4 = .ok (.iload_n 1, 1) := by decide +kernel
theorem dMo_refersWell_5 : decode zbMo_refersWell 5 = .ok (.iload_n 2, 1) := by decide +kernel
theorem dMo_refersWell_6 : decode zbMo_refersWell 6 = .ok (.iadd, 1) := by decide +kernel
theorem dMo_refersWell_7 : decode zbMo_refersWell 7 = .ok (.iaload, 1) := by decide +kernel
theorem dMo_refersWell_8 : decode zbMo_refersWell 8 = .ok (.istore 4, 2) := by decide +kernel
theorem dMo_refersWell_10 : decode zbMo_refersWell 10 = .ok (.aload_n 0, 1) := by decide +kernel
theorem dMo_refersWell_11 : decode zbMo_refersWell 11 = .ok (.getfield 24, 3) := by decide +kernel
theorem dMo_refersWell_14 : decode zbMo_refersWell 14 = .ok (.iload_n 1, 1) := by decide +kernel
theorem dMo_refersWell_15 : decode zbMo_refersWell 15 = .ok (.iload_n 2, 1) := by decide +kernel
theorem dMo_refersWell_16 : decode zbMo_refersWell 16 = .ok (.iadd, 1) := by decide +kernel
theorem dMo_refersWell_17 : decode zbMo_refersWell 17 = .ok (.iaload, 1) := by decide +kernel
theorem dMo_refersWell_18 : decode zbMo_refersWell 18 = .ok (.istore 5, 2) := by decide +kernel
theorem dMo_refersWell_20 : decode zbMo_refersWell 20 = .ok (.iload 4, 2) := by decide +kernel
theorem dMo_refersWell_22 : decode zbMo_refersWell 22 = .ok (.iconst 2, 1) := by decide +kernel
theorem dMo_refersWell_23 : decode zbMo_refersWell 23 = .ok (.if_icmp .lt 34, 3) := by decide +kernel
theorem dMo_refersWell_26 : decode zbMo_refersWell 26 = .ok (.iload 4, 2) := by decide +kernel
theorem dMo_refersWell_28 : decode zbMo_refersWell 28 = .ok (.iconst 3, 1) := by decide +kernel
theorem dMo_refersWell_29 : decode zbMo_refersWell 29 = .ok (.if_icmp .gt 28, 3) := by decide +kernel
theorem dMo_refersWell_32 : decode zbMo_refersWell 32 = .ok (.iload 5, 2) := by decide +kernel
theorem dMo_refersWell_34 : decode zbMo_refersWell 34 = .ok (.iload_n 3, 1) := by decide +kernel
theorem dMo_refersWell_35 : decode zbMo_refersWell 35 = .ok (.if_icmp .ge 26, 3) := by decide +kernel
theorem dMo_refersWell_38 : decode zbMo_refersWell 38 = .ok (.aload_n 0, 1) := by decide +kernel
theorem dMo_refersWell_39 : decode zbMo_refersWell 39 = .ok (.getfield 42, 3) := by decide +kernel
theorem dMo_refersWell_42 : decode zbMo_refersWell 42 = .ok (.iload_n 1, 1) := by decide +kernel
theorem dMo_refersWell_43 : decode zbMo_refersWell 43 = .ok (.iload 5, 2) := by decide +kernel
theorem dMo_refersWell_45 : decode zbMo_refersWell 45 = .ok (.bipush 10, 2) := by decide +kernel
theorem dMo_refersWell_47 : decode zbMo_refersWell 47 = .ok (.irem, 1) := by decide +kernel
theorem dMo_refersWell_48 : decode zbMo_refersWell 48 = .ok (.iadd, 1) := by decide +kernel
theorem dMo_refersWell_49 : decode zbMo_refersWell 49 = .ok (.iaload, 1) := by decide +kernel
theorem dMo_refersWell_50 : decode zbMo_refersWell 50 = .ok (.iconst 3, 1) := by decide +kernel
theorem dMo_refersWell_51 : decode zbMo_refersWell 51 = .ok (.iload 4, 2) := by decide +kernel
theorem dMo_refersWell_53 : decode zbMo_refersWell 53 = .ok (.isub, 1) := by decide +kernel
theorem dMo_refersWell_54 : decode zbMo_refersWell 54 = .ok (.if_icmp .gt 7, 3) := by decide +kernel
theorem dMo_refersWell_57 : decode zbMo_refersWell 57 = .ok (.iconst 1, 1) := by decide +kernel
theorem dMo_refersWell_58 : decode zbMo_refersWell 58 = .ok (.goto 4, 3) := by decide +kernel
theorem dMo_refersWell_61 : decode zbMo_refersWell 61 = .ok (.iconst 0, 1) := by decide +kernel
theorem dMo_refersWell_62 : decode zbMo_refersWell 62 = .ok (.istore 6, 2) := by decide +kernel
theorem dMo_refersWell_64 : decode zbMo_refersWell 64 = .ok (.iload 6, 2) := by decide +kernel
theorem dMo_refersWell_66 : decode zbMo_refersWell 66 = .ok (.ifCond .eq 31, 3) := by decide +kernel
theorem dMo_refersWell_69 : decode zbMo_refersWell 69 = .ok (.aload_n 0, 1) := by decide +kernel
theorem dMo_refersWell_70 : decode zbMo_refersWell 70 = .ok (.getfield 42, 3) := by decide +kernel
theorem dMo_refersWell_73 : decode zbMo_refersWell 73 = .ok (.iload_n 1, 1) := by decide +kernel
theorem dMo_refersWell_74 : decode zbMo_refersWell 74 = .ok (.iload_n 2, 1) := by decide +kernel
theorem dMo_refersWell_75 : decode zbMo_refersWell 75 = .ok (.iadd, 1) := by decide +kernel
theorem dMo_refersWell_76 : decode zbMo_refersWell 76 = .ok (.iaload, 1) := by decide +kernel
theorem dMo_refersWell_77 : decode zbMo_refersWell 77 = .ok (.iconst 4, 1) := by decide +kernel
theorem dMo_refersWell_78 : decode zbMo_refersWell 78 = .ok (.if_icmp .ne 15, 3) := by decide +kernel
theorem dMo_refersWell_81 : decode zbMo_refersWell 81 = .ok (.aload_n 0, 1) := by decide +kernel
theorem dMo_refersWell_82 : decode zbMo_refersWell 82 = .ok (.getfield 45, 3) := by decide +kernel
theorem dMo_refersWell_85 : decode zbMo_refersWell 85 = .ok (.iload_n 1, 1) := by decide +kernel
theorem dMo_refersWell_86 : decode zbMo_refersWell 86 = .ok (.iload_n 2, 1) := by decide +kernel
theorem dMo_refersWell_87 : decode zbMo_refersWell 87 = .ok (.iadd, 1) := by decide +kernel
theorem dMo_refersWell_88 : decode zbMo_refersWell 88 = .ok (.iaload, 1) := by decide +kernel
theorem dMo_refersWell_89 : decode zbMo_refersWell 89 = .ok (.iload_n 3, 1) := by decide +kernel
theorem dMo_refersWell_90 : decode zbMo_refersWell 90 = .ok (.if_icmp .ge 7, 3) := by decide +kernel
theorem dMo_refersWell_93 : decode zbMo_refersWell 93 = .ok (.iconst 1, 1) := by decide +kernel
theorem dMo_refersWell_94 : decode zbMo_refersWell 94 = .ok (.goto 4, 3) := by decide +kernel
theorem dMo_refersWell_97 : decode zbMo_refersWell 97 = .ok (.iconst 0, 1) := by decide +kernel
theorem dMo_refersWell_98 : decode zbMo_refersWell 98 = .ok (.ireturn, 1) := by decide +kernel
theorem dMo_goesRound_0 : decode zbMo_goesRound 0 = .ok (.iload_n 2, 1) := by decide +kernel
theorem dMo_goesRound_1 : decode zbMo_goesRound 1 = .ok (.istore_n 3, 1) := by decide +kernel
theorem dMo_goesRound_2 : decode zbMo_goesRound 2 = .ok (.iconst 0, 1) := by decide +kernel
theorem dMo_goesRound_3 : decode zbMo_goesRound 3 = .ok (.istore 4, 2) := by decide +kernel
theorem dMo_goesRound_5 : decode zbMo_goesRound 5 = .ok (.iconst 0, 1) := by decide +kernel
