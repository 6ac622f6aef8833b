theorem dX4_millOf_42 : decode cX4_millOf 42 = .ok (.aload_n 0, 1) := by decide +kernel
theorem dX4_millOf_43 : decode cX4_millOf 43 = .ok (.iload_n 1, 1) := by decide +kernel
theorem dX4_millOf_44 : decode cX4_millOf 44 = .ok (.iload_n 2, 1) := by decide +kernel
theorem dX4_millOf_45 : decode cX4_millOf 45 = .ok (.invokevirtual 131, 3) := by decide +kernel
theorem dX4_millOf_48 : decode cX4_millOf 48 = .ok (.ireturn, 1) := by decide +kernel
theorem dX4_waitingOf_0 : decode cX4_waitingOf 0 = .ok (.iconst 0, 1) := by decide +kernel
theorem dX4_waitingOf_1 : decode cX4_waitingOf 1 = .ok (.istore_n 2, 1) := by decide +kernel
theorem dX4_waitingOf_2 : decode cX4_waitingOf 2 = .ok (.iconst 0, 1) := by decide +kernel
theorem dX4_waitingOf_3 : decode cX4_waitingOf 3 = .ok (.istore_n 3, 1) := by decide +kernel
theorem dX4_waitingOf_4 : decode cX4_waitingOf 4 = .ok (.iload_n 3, 1) := by decide +kernel
theorem dX4_waitingOf_5 : decode cX4_waitingOf 5 = .ok (.iconst 3, 1) := by decide +kernel
theorem dX4_waitingOf_6 : decode cX4_waitingOf 6 = .ok (.if_icmp .ge 64, 3) := by decide +kernel
theorem dX4_waitingOf_9 : decode cX4_waitingOf 9 = .ok (.iconst 0, 1) := by decide +kernel
theorem dX4_waitingOf_10 : decode cX4_waitingOf 10 = .ok (.istore 4, 2) := by decide +kernel
theorem dX4_waitingOf_12 : decode cX4_waitingOf 12 = .ok (.iload 4, 2) := by decide +kernel
theorem dX4_waitingOf_14 : decode cX4_waitingOf 14 = .ok (.aload_n 0, 1) := by decide +kernel
theorem dX4_waitingOf_15 : decode cX4_waitingOf 15 = .ok (.iload_n 3, 1) := by decide +kernel
theorem dX4_waitingOf_16 : decode cX4_waitingOf 16 = .ok (.iconst 1, 1) := by decide +kernel
theorem dX4_waitingOf_17 : decode cX4_waitingOf 17 = .ok (.invokevirtual 62, 3) := by decide +kernel
theorem dX4_waitingOf_20 : decode cX4_waitingOf 20 = .ok (.if_icmp .ge 44, 3) := by decide +kernel
theorem dX4_waitingOf_23 : decode cX4_waitingOf 23 = .ok (.iload_n 2, 1) := by decide +kernel
theorem dX4_waitingOf_24 : decode cX4_waitingOf 24 = .ok (.aload_n 0, 1) := by decide +kernel
theorem dX4_waitingOf_25 : decode cX4_waitingOf 25 = .ok (.iload_n 3, 1) := by decide +kernel
theorem dX4_waitingOf_26 : decode cX4_waitingOf 26 = .ok (.iconst 3, 1) := by decide +kernel
theorem dX4_waitingOf_27 : decode cX4_waitingOf 27 = .ok (.iconst 2, 1) := by decide +kernel
theorem dX4_waitingOf_28 : decode cX4_waitingOf 28 = .ok (.iload 4, 2) := by decide +kernel
theorem dX4_waitingOf_30 : decode cX4_waitingOf 30 = .ok (.imul, 1) := by decide +kernel
theorem dX4_waitingOf_31 : decode cX4_waitingOf 31 = .ok (.iadd, 1) := by decide +kernel
theorem dX4_waitingOf_32 : decode cX4_waitingOf 32 = .ok (.invokevirtual 62, 3) := by decide +kernel
theorem dX4_waitingOf_35 : decode cX4_waitingOf 35 = .ok (.iload_n 1, 1) := by decide +kernel
theorem dX4_waitingOf_36 : decode cX4_waitingOf 36 = .ok (.if_icmp .ne 19, 3) := by decide +kernel
theorem dX4_waitingOf_39 : decode cX4_waitingOf 39 = .ok (.aload_n 0, 1) := by decide +kernel
theorem dX4_waitingOf_40 : decode cX4_waitingOf 40 = .ok (.iload_n 3, 1) := by decide +kernel
theorem dX4_waitingOf_41 : decode cX4_waitingOf 41 = .ok (.iconst 3, 1) := by decide +kernel
theorem dX4_waitingOf_42 : decode cX4_waitingOf 42 = .ok (.iconst 2, 1) := by decide +kernel
theorem dX4_waitingOf_43 : decode cX4_waitingOf 43 = .ok (.iload 4, 2) := by decide +kernel
theorem dX4_waitingOf_45 : decode cX4_waitingOf 45 = .ok (.imul, 1) := by decide +kernel
theorem dX4_waitingOf_46 : decode cX4_waitingOf 46 = .ok (.iadd, 1) := by decide +kernel
theorem dX4_waitingOf_47 : decode cX4_waitingOf 47 = .ok (.iconst 1, 1) := by decide +kernel
theorem dX4_waitingOf_48 : decode cX4_waitingOf 48 = .ok (.iadd, 1) := by decide +kernel
theorem dX4_waitingOf_49 : decode cX4_waitingOf 49 = .ok (.invokevirtual 62, 3) := by decide +kernel
theorem dX4_waitingOf_52 : decode cX4_waitingOf 52 = .ok (.goto 4, 3) := by decide +kernel
theorem dX4_waitingOf_55 : decode cX4_waitingOf 55 = .ok (.iconst 0, 1) := by decide +kernel
theorem dX4_waitingOf_56 : decode cX4_waitingOf 56 = .ok (.iadd, 1) := by decide +kernel
theorem dX4_waitingOf_57 : decode cX4_waitingOf 57 = .ok (.istore_n 2, 1) := by decide +kernel
theorem dX4_waitingOf_58 : decode cX4_waitingOf 58 = .ok (.iinc 4 1, 3) := by decide +kernel
theorem dX4_waitingOf_61 : decode cX4_waitingOf 61 = .ok (.goto (-49), 3) := by decide +kernel
theorem dX4_waitingOf_64 : decode cX4_waitingOf 64 = .ok (.iinc 3 1, 3) := by decide +kernel
theorem dX4_waitingOf_67 : decode cX4_waitingOf 67 = .ok (.goto (-63), 3) := by decide +kernel
theorem dX4_waitingOf_70 : decode cX4_waitingOf 70 = .ok (.iload_n 2, 1) := by decide +kernel
theorem dX4_waitingOf_71 : decode cX4_waitingOf 71 = .ok (.ireturn, 1) := by decide +kernel
theorem dX4_ownerNow_0 : decode cX4_ownerNow 0 = .ok (.iload_n 2, 1) := by decide +kernel
theorem dX4_ownerNow_1 : decode cX4_ownerNow 1 = .ok (.ifCond .ne 11, 3) := by decide +kernel
theorem dX4_ownerNow_4 : decode cX4_ownerNow 4 = .ok (.aload_n 0, 1) := by decide +kernel
theorem dX4_ownerNow_5 : decode cX4_ownerNow 5 = .ok (.iload_n 1, 1) := by decide +kernel
theorem dX4_ownerNow_6 : decode cX4_ownerNow 6 = .ok (.invokevirtual 134, 3) := by decide +kernel
theorem dX4_ownerNow_9 : decode cX4_ownerNow 9 = .ok (.goto 11, 3) := by decide +kernel
theorem dX4_ownerNow_12 : decode cX4_ownerNow 12 = .ok (.aload_n 0, 1) := by decide +kernel
theorem dX4_ownerNow_13 : decode cX4_ownerNow 13 = .ok (.iload_n 1, 1) := by decide +kernel
theorem dX4_ownerNow_14 : decode cX4_ownerNow 14 = .ok (.iload_n 2, 1) := by decide +kernel
theorem dX4_ownerNow_15 : decode cX4_ownerNow 15 = .ok (.iconst 1, 1) := by decide +kernel
theorem dX4_ownerNow_16 : decode cX4_ownerNow 16 = .ok (.isub, 1) := by decide +kernel
theorem dX4_ownerNow_17 : decode cX4_ownerNow 17 = .ok (.invokevirtual 137, 3) := by decide +kernel
theorem dX4_ownerNow_20 : decode cX4_ownerNow 20 = .ok (.ireturn, 1) := by decide +kernel
theorem dX4_ownerOf_0 : decode cX4_ownerOf 0 = .ok (.aload_n 0, 1) := by decide +kernel
theorem dX4_ownerOf_1 : decode cX4_ownerOf 1 = .ok (.iload_n 1, 1) := by decide +kernel
theorem dX4_ownerOf_2 : decode cX4_ownerOf 2 = .ok (.iconst 0, 1) := by decide +kernel
theorem dX4_ownerOf_3 : decode cX4_ownerOf 3 = .ok (.iconst 4, 1) := by decide +kernel
theorem dX4_ownerOf_4 : decode cX4_ownerOf 4 = .ok (.invokestatic 36, 3) := by decide +kernel
theorem dX4_ownerOf_7 : decode cX4_ownerOf 7 = .ok (.ifCond .ne 7, 3) := by decide +kernel
theorem dX4_ownerOf_10 : decode cX4_ownerOf 10 = .ok (.iconst 1, 1) := by decide +kernel
theorem dX4_ownerOf_11 : decode cX4_ownerOf 11 = .ok (.goto 17, 3) := by decide +kernel
theorem dX4_ownerOf_14 : decode cX4_ownerOf 14 = .ok (.iload_n 2, 1) := by decide +kernel
theorem dX4_ownerOf_15 : decode cX4_ownerOf 15 = .ok (.iconst 0, 1) := by decide +kernel
theorem dX4_ownerOf_16 : decode cX4_ownerOf 16 = .ok (.iconst 3, 1) := by decide +kernel
theorem dX4_ownerOf_17 : decode cX4_ownerOf 17 = .ok (.invokestatic 36, 3) := by decide +kernel
theorem dX4_ownerOf_20 : decode cX4_ownerOf 20 = .ok (.ifCond .eq 7, 3) := by decide +kernel
theorem dX4_ownerOf_23 : decode cX4_ownerOf 23 = .ok (.iconst 0, 1) := by decide +kernel
theorem dX4_ownerOf_24 : decode cX4_ownerOf 24 = .ok (.goto 4, 3) := by decide +kernel
theorem dX4_ownerOf_27 : decode cX4_ownerOf 27 = .ok (.iconst 2, 1) := by decide +kernel
theorem dX4_ownerOf_28 : decode cX4_ownerOf 28 = .ok (.putfield 29, 3) := by decide +kernel
theorem dX4_ownerOf_31 : decode cX4_ownerOf 31 = .ok (.aload_n 0, 1) := by decide +kernel
theorem dX4_ownerOf_32 : decode cX4_ownerOf 32 = .ok (.getfield 29, 3) := by decide +kernel
theorem dX4_ownerOf_35 : decode cX4_ownerOf 35 = .ok (.ifCond .le 7, 3) := by decide +kernel
theorem dX4_ownerOf_38 : decode cX4_ownerOf 38 = .ok (.iconst 0, 1) := by decide +kernel
theorem dX4_ownerOf_39 : decode cX4_ownerOf 39 = .ok (.goto 9, 3) := by decide +kernel
theorem dX4_ownerOf_42 : decode cX4_ownerOf 42 = .ok (.aload_n 0, 1) := by decide +kernel
theorem dX4_ownerOf_43 : decode cX4_ownerOf 43 = .ok (.iload_n 1, 1) := by decide +kernel
theorem dX4_ownerOf_44 : decode cX4_ownerOf 44 = .ok (.iload_n 2, 1) := by decide +kernel
theorem dX4_ownerOf_45 : decode cX4_ownerOf 45 = .ok (.invokevirtual 140, 3) := by decide +kernel
theorem dX4_ownerOf_48 : decode cX4_ownerOf 48 = .ok (.ireturn, 1) := by decide +kernel
theorem dX4_allFlour_0 : decode cX4_allFlour 0 = .ok (.iconst 0, 1) := by decide +kernel
theorem dX4_allFlour_1 : decode cX4_allFlour 1 = .ok (.istore_n 1, 1) := by decide +kernel
theorem dX4_allFlour_2 : decode cX4_allFlour 2 = .ok (.iconst 0, 1) := by decide +kernel
theorem dX4_allFlour_3 : decode cX4_allFlour 3 = .ok (.istore_n 2, 1) := by decide +kernel
theorem dX4_allFlour_4 : decode cX4_allFlour 4 = .ok (.iload_n 2, 1) := by decide +kernel
theorem dX4_allFlour_5 : decode cX4_allFlour 5 = .ok (.iconst 5, 1) := by decide +kernel
theorem dX4_allFlour_6 : decode cX4_allFlour 6 = .ok (.if_icmp .ge 18, 3) := by decide +kernel
theorem dX4_allFlour_9 : decode cX4_allFlour 9 = .ok (.iload_n 1, 1) := by decide +kernel
theorem dX4_allFlour_10 : decode cX4_allFlour 10 = .ok (.aload_n 0, 1) := by decide +kernel
theorem dX4_allFlour_11 : decode cX4_allFlour 11 = .ok (.iload_n 2, 1) := by decide +kernel
theorem dX4_allFlour_12 : decode cX4_allFlour 12 = .ok (.iconst 0, 1) := by decide +kernel
theorem dX4_allFlour_13 : decode cX4_allFlour 13 = .ok (.invokevirtual 137, 3) := by decide +kernel
theorem dX4_allFlour_16 : decode cX4_allFlour 16 = .ok (.iadd, 1) := by decide +kernel
theorem dX4_allFlour_17 : decode cX4_allFlour 17 = .ok (.istore_n 1, 1) := by decide +kernel
theorem dX4_allFlour_18 : decode cX4_allFlour 18 = .ok (.iinc 2 1, 3) := by decide +kernel
theorem dX4_allFlour_21 : decode cX4_allFlour 21 = .ok (.goto (-17), 3) := by decide +kernel
theorem dX4_allFlour_24 : decode cX4_allFlour 24 = .ok (.iload_n 1, 1) := by decide +kernel
theorem dX4_allFlour_25 : decode cX4_allFlour 25 = .ok (.ireturn, 1) := by decide +kernel
theorem dX4_countNow_0 : decode cX4_countNow 0 = .ok (.iload_n 1, 1) := by decide +kernel
theorem dX4_countNow_1 : decode cX4_countNow 1 = .ok (.tableswitch 116 0 7 #[47, 56, 65, 74, 79, 84, 102, 107], 47) := by decide +kernel
theorem dX4_countNow_48 : decode cX4_countNow 48 = .ok (.aload_n 0, 1) := by decide +kernel
theorem dX4_countNow_49 : decode cX4_countNow 49 = .ok (.getfield 7, 3) := by decide +kernel
theorem dX4_countNow_52 : decode cX4_countNow 52 = .ok (.sipush 146, 3) := by decide +kernel
theorem dX4_countNow_55 : decode cX4_countNow 55 = .ok (.iaload, 1) := by decide +kernel
theorem dX4_countNow_56 : decode cX4_countNow 56 = .ok (.ireturn, 1) := by decide +kernel
theorem dX4_countNow_57 : decode cX4_countNow 57 = .ok (.aload_n 0, 1) := by decide +kernel
theorem dX4_countNow_58 : decode cX4_countNow 58 = .ok (.getfield 7, 3) := by decide +kernel
theorem dX4_countNow_61 : decode cX4_countNow 61 = .ok (.sipush 147, 3) := by decide +kernel
theorem dX4_countNow_64 : decode cX4_countNow 64 = .ok (.iaload, 1) := by decide +kernel
theorem dX4_countNow_65 : decode cX4_countNow 65 = .ok (.ireturn, 1) := by decide +kernel
theorem dX4_countNow_66 : decode cX4_countNow 66 = .ok (.aload_n 0, 1) := by decide +kernel
theorem dX4_countNow_67 : decode cX4_countNow 67 = .ok (.getfield 7, 3) := by decide +kernel
theorem dX4_countNow_70 : decode cX4_countNow 70 = .ok (.sipush 148, 3) := by decide +kernel
theorem dX4_countNow_73 : decode cX4_countNow 73 = .ok (.iaload, 1) := by decide +kernel
theorem dX4_countNow_74 : decode cX4_countNow 74 = .ok (.ireturn, 1) := by decide +kernel
theorem dX4_countNow_75 : decode cX4_countNow 75 = .ok (.aload_n 0, 1) := by decide +kernel
theorem dX4_countNow_76 : decode cX4_countNow 76 = .ok (.invokevirtual 51, 3) := by decide +kernel
theorem dX4_countNow_79 : decode cX4_countNow 79 = .ok (.ireturn, 1) := by decide +kernel
theorem dX4_countNow_80 : decode cX4_countNow 80 = .ok (.aload_n 0, 1) := by decide +kernel
theorem dX4_countNow_81 : decode cX4_countNow 81 = .ok (.invokevirtual 113, 3) := by decide +kernel
theorem dX4_countNow_84 : decode cX4_countNow 84 = .ok (.ireturn, 1) := by decide +kernel
theorem dX4_countNow_85 : decode cX4_countNow 85 = .ok (.aload_n 0, 1) := by decide +kernel
theorem dX4_countNow_86 : decode cX4_countNow 86 = .ok (.iconst 0, 1) := by decide +kernel
theorem dX4_countNow_87 : decode cX4_countNow 87 = .ok (.invokevirtual 91, 3) := by decide +kernel
theorem dX4_countNow_90 : decode cX4_countNow 90 = .ok (.aload_n 0, 1) := by decide +kernel
theorem dX4_countNow_91 : decode cX4_countNow 91 = .ok (.iconst 1, 1) := by decide +kernel
theorem dX4_countNow_92 : decode cX4_countNow 92 = .ok (.invokevirtual 91, 3) := by decide +kernel
theorem dX4_countNow_95 : decode cX4_countNow 95 = .ok (.iadd, 1) := by decide +kernel
theorem dX4_countNow_96 : decode cX4_countNow 96 = .ok (.aload_n 0, 1) := by decide +kernel
theorem dX4_countNow_97 : decode cX4_countNow 97 = .ok (.iconst 2, 1) := by decide +kernel
theorem dX4_countNow_98 : decode cX4_countNow 98 = .ok (.invokevirtual 91, 3) := by decide +kernel
theorem dX4_countNow_101 : decode cX4_countNow 101 = .ok (.iadd, 1) := by decide +kernel
theorem dX4_countNow_102 : decode cX4_countNow 102 = .ok (.ireturn, 1) := by decide +kernel
theorem dX4_countNow_103 : decode cX4_countNow 103 = .ok (.aload_n 0, 1) := by decide +kernel
theorem dX4_countNow_104 : decode cX4_countNow 104 = .ok (.invokevirtual 143, 3) := by decide +kernel
theorem dX4_countNow_107 : decode cX4_countNow 107 = .ok (.ireturn, 1) := by decide +kernel
theorem dX4_countNow_108 : decode cX4_countNow 108 = .ok (.aload_n 0, 1) := by decide +kernel
theorem dX4_countNow_109 : decode cX4_countNow 109 = .ok (.getfield 7, 3) := by decide +kernel
theorem dX4_countNow_112 : decode cX4_countNow 112 = .ok (.sipush 149, 3) := by decide +kernel
theorem dX4_countNow_115 : decode cX4_countNow 115 = .ok (.iaload, 1) := by decide +kernel
theorem dX4_countNow_116 : decode cX4_countNow 116 = .ok (.ireturn, 1) := by decide +kernel
theorem dX4_countNow_117 : decode cX4_countNow 117 = .ok (.aload_n 0, 1) := by decide +kernel
theorem dX4_countNow_118 : decode cX4_countNow 118 = .ok (.getfield 33, 3) := by decide +kernel
theorem dX4_countNow_121 : decode cX4_countNow 121 = .ok (.ireturn, 1) := by decide +kernel
theorem dX4_count_0 : decode cX4_count 0 = .ok (.aload_n 0, 1) := by decide +kernel
theorem dX4_count_1 : decode cX4_count 1 = .ok (.iload_n 1, 1) := by decide +kernel
theorem dX4_count_2 : decode cX4_count 2 = .ok (.iconst 0, 1) := by decide +kernel
theorem dX4_count_3 : decode cX4_count 3 = .ok (.bipush 8, 2) := by decide +kernel
theorem dX4_count_5 : decode cX4_count 5 = .ok (.invokestatic 36, 3) := by decide +kernel
theorem dX4_count_8 : decode cX4_count 8 = .ok (.ifCond .eq 7, 3) := by decide +kernel
theorem dX4_count_11 : decode cX4_count 11 = .ok (.iconst 0, 1) := by decide +kernel
theorem dX4_count_12 : decode cX4_count 12 = .ok (.goto 4, 3) := by decide +kernel
theorem dX4_count_15 : decode cX4_count 15 = .ok (.iconst 1, 1) := by decide +kernel
theorem dX4_count_16 : decode cX4_count 16 = .ok (.putfield 29, 3) := by decide +kernel
theorem dX4_count_19 : decode cX4_count 19 = .ok (.aload_n 0, 1) := by decide +kernel
theorem dX4_count_20 : decode cX4_count 20 = .ok (.getfield 29, 3) := by decide +kernel
theorem dX4_count_23 : decode cX4_count 23 = .ok (.ifCond .le 7, 3) := by decide +kernel
theorem dX4_count_26 : decode cX4_count 26 = .ok (.iconst 0, 1) := by decide +kernel
theorem dX4_count_27 : decode cX4_count 27 = .ok (.goto 8, 3) := by decide +kernel
theorem dX4_count_30 : decode cX4_count 30 = .ok (.aload_n 0, 1) := by decide +kernel
theorem dX4_count_31 : decode cX4_count 31 = .ok (.iload_n 1, 1) := by decide +kernel
theorem dX4_count_32 : decode cX4_count 32 = .ok (.invokevirtual 146, 3) := by decide +kernel
theorem dX4_count_35 : decode cX4_count 35 = .ok (.ireturn, 1) := by decide +kernel
theorem dX4_setting_0 : decode cX4_setting 0 = .ok (.aload_n 0, 1) := by decide +kernel
theorem dX4_setting_1 : decode cX4_setting 1 = .ok (.iload_n 1, 1) := by decide +kernel
theorem dX4_setting_2 : decode cX4_setting 2 = .ok (.iconst 0, 1) := by decide +kernel
theorem dX4_setting_3 : decode cX4_setting 3 = .ok (.iconst 1, 1) := by decide +kernel
theorem dX4_setting_4 : decode cX4_setting 4 = .ok (.invokestatic 36, 3) := by decide +kernel
theorem dX4_setting_7 : decode cX4_setting 7 = .ok (.ifCond .eq 7, 3) := by decide +kernel
theorem dX4_setting_10 : decode cX4_setting 10 = .ok (.iconst 0, 1) := by decide +kernel
theorem dX4_setting_11 : decode cX4_setting 11 = .ok (.goto 4, 3) := by decide +kernel
theorem dX4_setting_14 : decode cX4_setting 14 = .ok (.iconst 1, 1) := by decide +kernel
theorem dX4_setting_15 : decode cX4_setting 15 = .ok (.putfield 29, 3) := by decide +kernel
theorem dX4_setting_18 : decode cX4_setting 18 = .ok (.aload_n 0, 1) := by decide +kernel
theorem dX4_setting_19 : decode cX4_setting 19 = .ok (.getfield 29, 3) := by decide +kernel
theorem dX4_setting_22 : decode cX4_setting 22 = .ok (.ifCond .le 7, 3) := by decide +kernel
theorem dX4_setting_25 : decode cX4_setting 25 = .ok (.iconst 0, 1) := by decide +kernel
theorem dX4_setting_26 : decode cX4_setting 26 = .ok (.goto 12, 3) := by decide +kernel
theorem dX4_setting_29 : decode cX4_setting 29 = .ok (.aload_n 0, 1) := by decide +kernel
theorem dX4_setting_30 : decode cX4_setting 30 = .ok (.getfield 7, 3) := by decide +kernel
theorem dX4_setting_33 : decode cX4_setting 33 = .ok (.bipush 72, 2) := by decide +kernel
theorem dX4_setting_35 : decode cX4_setting 35 = .ok (.iload_n 1, 1) := by decide +kernel
theorem dX4_setting_36 : decode cX4_setting 36 = .ok (.iadd, 1) := by decide +kernel
theorem dX4_setting_37 : decode cX4_setting 37 = .ok (.iaload, 1) := by decide +kernel
theorem dX4_setting_38 : decode cX4_setting 38 = .ok (.ireturn, 1) := by decide +kernel
theorem dX4_doneNow_0 : decode cX4_doneNow 0 = .ok (.aload_n 0, 1) := by decide +kernel
theorem dX4_doneNow_1 : decode cX4_doneNow 1 = .ok (.iload_n 1, 1) := by decide +kernel
theorem dX4_doneNow_2 : decode cX4_doneNow 2 = .ok (.invokevirtual 91, 3) := by decide +kernel
theorem dX4_doneNow_5 : decode cX4_doneNow 5 = .ok (.istore_n 2, 1) := by decide +kernel
theorem dX4_doneNow_6 : decode cX4_doneNow 6 = .ok (.aload_n 0, 1) := by decide +kernel
theorem dX4_doneNow_7 : decode cX4_doneNow 7 = .ok (.iload_n 1, 1) := by decide +kernel
theorem dX4_doneNow_8 : decode cX4_doneNow 8 = .ok (.invokevirtual 128, 3) := by decide +kernel
theorem dX4_doneNow_11 : decode cX4_doneNow 11 = .ok (.istore_n 3, 1) := by decide +kernel
theorem dX4_doneNow_12 : decode cX4_doneNow 12 = .ok (.iload_n 2, 1) := by decide +kernel
theorem dX4_doneNow_13 : decode cX4_doneNow 13 = .ok (.ifCond .le 9, 3) := by decide +kernel
theorem dX4_doneNow_16 : decode cX4_doneNow 16 = .ok (.iload_n 3, 1) := by decide +kernel
theorem dX4_doneNow_17 : decode cX4_doneNow 17 = .ok (.ifCond .ne 5, 3) := by decide +kernel
theorem dX4_doneNow_20 : decode cX4_doneNow 20 = .ok (.iconst (-1), 1) := by decide +kernel
theorem dX4_doneNow_21 : decode cX4_doneNow 21 = .ok (.ireturn, 1) := by decide +kernel
theorem dX4_doneNow_22 : decode cX4_doneNow 22 = .ok (.iconst 0, 1) := by decide +kernel
theorem dX4_doneNow_23 : decode cX4_doneNow 23 = .ok (.istore 4, 2) := by decide +kernel
theorem dX4_doneNow_25 : decode cX4_doneNow 25 = .ok (.iload_n 2, 1) := by decide +kernel
theorem dX4_doneNow_26 : decode cX4_doneNow 26 = .ok (.ifCond .le 31, 3) := by decide +kernel
theorem dX4_doneNow_29 : decode cX4_doneNow 29 = .ok (.iload_n 2, 1) := by decide +kernel
theorem dX4_doneNow_30 : decode cX4_doneNow 30 = .ok (.aload_n 0, 1) := by decide +kernel
theorem dX4_doneNow_31 : decode cX4_doneNow 31 = .ok (.iload_n 1, 1) := by decide +kernel
theorem dX4_doneNow_32 : decode cX4_doneNow 32 = .ok (.aload_n 0, 1) := by decide +kernel
theorem dX4_doneNow_33 : decode cX4_doneNow 33 = .ok (.getfield 7, 3) := by decide +kernel
theorem dX4_doneNow_36 : decode cX4_doneNow 36 = .ok (.sipush 146, 3) := by decide +kernel
theorem dX4_doneNow_39 : decode cX4_doneNow 39 = .ok (.iaload, 1) := by decide +kernel
theorem dX4_doneNow_40 : decode cX4_doneNow 40 = .ok (.iload 4, 2) := by decide +kernel
theorem dX4_doneNow_42 : decode cX4_doneNow 42 = .ok (.iadd, 1) := by decide +kernel
theorem dX4_doneNow_43 : decode cX4_doneNow 43 = .ok (.bipush 24, 2) := by decide +kernel
theorem dX4_doneNow_45 : decode cX4_doneNow 45 = .ok (.irem, 1) := by decide +kernel
theorem dX4_doneNow_46 : decode cX4_doneNow 46 = .ok (.invokevirtual 65, 3) := by decide +kernel
theorem dX4_doneNow_49 : decode cX4_doneNow 49 = .ok (.isub, 1) := by decide +kernel
theorem dX4_doneNow_50 : decode cX4_doneNow 50 = .ok (.istore_n 2, 1) := by decide +kernel
theorem dX4_doneNow_51 : decode cX4_doneNow 51 = .ok (.iinc 4 1, 3) := by decide +kernel
theorem dX4_doneNow_54 : decode cX4_doneNow 54 = .ok (.goto (-29), 3) := by decide +kernel
theorem dX4_doneNow_57 : decode cX4_doneNow 57 = .ok (.iload 4, 2) := by decide +kernel
theorem dX4_doneNow_59 : decode cX4_doneNow 59 = .ok (.ireturn, 1) := by decide +kernel
theorem dX4_doneIn_0 : decode cX4_doneIn 0 = .ok (.aload_n 0, 1) := by decide +kernel
theorem dX4_doneIn_1 : decode cX4_doneIn 1 = .ok (.iload_n 1, 1) := by decide +kernel
theorem dX4_doneIn_2 : decode cX4_doneIn 2 = .ok (.iconst 0, 1) := by decide +kernel
theorem dX4_doneIn_3 : decode cX4_doneIn 3 = .ok (.iconst 2, 1) := by decide +kernel
theorem dX4_doneIn_4 : decode cX4_doneIn 4 = .ok (.invokestatic 36, 3) := by decide +kernel
theorem dX4_doneIn_7 : decode cX4_doneIn 7 = .ok (.ifCond .ne 7, 3) := by decide +kernel
theorem dX4_doneIn_10 : decode cX4_doneIn 10 = .ok (.iconst 1, 1) := by decide +kernel
theorem dX4_doneIn_11 : decode cX4_doneIn 11 = .ok (.goto 17, 3) := by decide +kernel
theorem dX4_doneIn_14 : decode cX4_doneIn 14 = .ok (.iload_n 2, 1) := by decide +kernel
theorem dX4_doneIn_15 : decode cX4_doneIn 15 = .ok (.iconst 0, 1) := by decide +kernel
theorem dX4_doneIn_16 : decode cX4_doneIn 16 = .ok (.iconst 1, 1) := by decide +kernel
theorem dX4_doneIn_17 : decode cX4_doneIn 17 = .ok (.invokestatic 36, 3) := by decide +kernel
theorem dX4_doneIn_20 : decode cX4_doneIn 20 = .ok (.ifCond .eq 7, 3) := by decide +kernel
theorem dX4_doneIn_23 : decode cX4_doneIn 23 = .ok (.iconst 0, 1) := by decide +kernel
theorem dX4_doneIn_24 : decode cX4_doneIn 24 = .ok (.goto 4, 3) := by decide +kernel
theorem dX4_doneIn_27 : decode cX4_doneIn 27 = .ok (.iconst 2, 1) := by decide +kernel
theorem dX4_doneIn_28 : decode cX4_doneIn 28 = .ok (.putfield 29, 3) := by decide +kernel
theorem dX4_doneIn_31 : decode cX4_doneIn 31 = .ok (.aload_n 0, 1) := by decide +kernel
theorem dX4_doneIn_32 : decode cX4_doneIn 32 = .ok (.getfield 29, 3) := by decide +kernel
theorem dX4_doneIn_35 : decode cX4_doneIn 35 = .ok (.ifCond .le 7, 3) := by decide +kernel
theorem dX4_doneIn_38 : decode cX4_doneIn 38 = .ok (.iconst 0, 1) := by decide +kernel
theorem dX4_doneIn_39 : decode cX4_doneIn 39 = .ok (.goto 8, 3) := by decide +kernel
theorem dX4_doneIn_42 : decode cX4_doneIn 42 = .ok (.aload_n 0, 1) := by decide +kernel
theorem dX4_doneIn_43 : decode cX4_doneIn 43 = .ok (.iload_n 1, 1) := by decide +kernel
theorem dX4_doneIn_44 : decode cX4_doneIn 44 = .ok (.invokevirtual 149, 3) := by decide +kernel
theorem dX4_doneIn_47 : decode cX4_doneIn 47 = .ok (.ireturn, 1) := by decide +kernel
theorem dX4_passed_0 : decode cX4_passed 0 = .ok (.aload_n 0, 1) := by decide +kernel
theorem dX4_passed_1 : decode cX4_passed 1 = .ok (.invokevirtual 152, 3) := by decide +kernel
theorem dX4_passed_4 : decode cX4_passed 4 = .ok (.aload_n 0, 1) := by decide +kernel
theorem dX4_passed_5 : decode cX4_passed 5 = .ok (.iload_n 1, 1) := by decide +kernel
theorem dX4_passed_6 : decode cX4_passed 6 = .ok (.iconst 0, 1) := by decide +kernel
theorem dX4_passed_7 : decode cX4_passed 7 = .ok (.invokevirtual 137, 3) := by decide +kernel
theorem dX4_passed_10 : decode cX4_passed 10 = .ok (.istore_n 3, 1) := by decide +kernel
theorem dX4_passed_11 : decode cX4_passed 11 = .ok (.aload_n 0, 1) := by decide +kernel
theorem dX4_passed_12 : decode cX4_passed 12 = .ok (.iload_n 2, 1) := by decide +kernel
theorem dX4_passed_13 : decode cX4_passed 13 = .ok (.invokevirtual 95, 3) := by decide +kernel
theorem dX4_passed_16 : decode cX4_passed 16 = .ok (.pop, 1) := by decide +kernel
theorem dX4_passed_17 : decode cX4_passed 17 = .ok (.aload_n 0, 1) := by decide +kernel
theorem dX4_passed_18 : decode cX4_passed 18 = .ok (.iload_n 1, 1) := by decide +kernel
theorem dX4_passed_19 : decode cX4_passed 19 = .ok (.iconst 0, 1) := by decide +kernel
theorem dX4_passed_20 : decode cX4_passed 20 = .ok (.invokevirtual 137, 3) := by decide +kernel
theorem dX4_passed_23 : decode cX4_passed 23 = .ok (.iload_n 3, 1) := by decide +kernel
theorem dX4_passed_24 : decode cX4_passed 24 = .ok (.isub, 1) := by decide +kernel
theorem dX4_passed_25 : decode cX4_passed 25 = .ok (.istore 4, 2) := by decide +kernel
theorem dX4_passed_27 : decode cX4_passed 27 = .ok (.aload_n 0, 1) := by decide +kernel
theorem dX4_passed_28 : decode cX4_passed 28 = .ok (.invokevirtual 155, 3) := by decide +kernel
theorem dX4_passed_31 : decode cX4_passed 31 = .ok (.iload 4, 2) := by decide +kernel
theorem dX4_passed_33 : decode cX4_passed 33 = .ok (.ireturn, 1) := by decide +kernel
theorem dX4_ifPassed_0 : decode cX4_ifPassed 0 = .ok (.aload_n 0, 1) := by decide +kernel
theorem dX4_ifPassed_1 : decode cX4_ifPassed 1 = .ok (.iload_n 1, 1) := by decide +kernel
theorem dX4_ifPassed_2 : decode cX4_ifPassed 2 = .ok (.iconst 0, 1) := by decide +kernel
theorem dX4_ifPassed_3 : decode cX4_ifPassed 3 = .ok (.iconst 4, 1) := by decide +kernel
theorem dX4_ifPassed_4 : decode cX4_ifPassed 4 = .ok (.invokestatic 36, 3) := by decide +kernel
theorem dX4_ifPassed_7 : decode cX4_ifPassed 7 = .ok (.ifCond .ne 7, 3) := by decide +kernel
theorem dX4_ifPassed_10 : decode cX4_ifPassed 10 = .ok (.iconst 1, 1) := by decide +kernel
theorem dX4_ifPassed_11 : decode cX4_ifPassed 11 = .ok (.goto 18, 3) := by decide +kernel
theorem dX4_ifPassed_14 : decode cX4_ifPassed 14 = .ok (.iload_n 2, 1) := by decide +kernel
theorem dX4_ifPassed_15 : decode cX4_ifPassed 15 = .ok (.iconst 1, 1) := by decide +kernel
theorem dX4_ifPassed_16 : decode cX4_ifPassed 16 = .ok (.bipush 99, 2) := by decide +kernel
theorem dX4_ifPassed_18 : decode cX4_ifPassed 18 = .ok (.invokestatic 36, 3) := by decide +kernel
theorem dX4_ifPassed_21 : decode cX4_ifPassed 21 = .ok (.ifCond .eq 7, 3) := by decide +kernel
theorem dX4_ifPassed_24 : decode cX4_ifPassed 24 = .ok (.iconst 0, 1) := by decide +kernel
theorem dX4_ifPassed_25 : decode cX4_ifPassed 25 = .ok (.goto 4, 3) := by decide +kernel
theorem dX4_ifPassed_28 : decode cX4_ifPassed 28 = .ok (.iconst 2, 1) := by decide +kernel
theorem dX4_ifPassed_29 : decode cX4_ifPassed 29 = .ok (.putfield 29, 3) := by decide +kernel
theorem dX4_ifPassed_32 : decode cX4_ifPassed 32 = .ok (.aload_n 0, 1) := by decide +kernel
theorem dX4_ifPassed_33 : decode cX4_ifPassed 33 = .ok (.getfield 29, 3) := by decide +kernel
theorem dX4_ifPassed_36 : decode cX4_ifPassed 36 = .ok (.ifCond .le 7, 3) := by decide +kernel
theorem dX4_ifPassed_39 : decode cX4_ifPassed 39 = .ok (.iconst 0, 1) := by decide +kernel
theorem dX4_ifPassed_40 : decode cX4_ifPassed 40 = .ok (.goto 9, 3) := by decide +kernel
theorem dX4_ifPassed_43 : decode cX4_ifPassed 43 = .ok (.aload_n 0, 1) := by decide +kernel
theorem dX4_ifPassed_44 : decode cX4_ifPassed 44 = .ok (.iload_n 1, 1) := by decide +kernel
theorem dX4_ifPassed_45 : decode cX4_ifPassed 45 = .ok (.iload_n 2, 1) := by decide +kernel
theorem dX4_ifPassed_46 : decode cX4_ifPassed 46 = .ok (.invokevirtual 158, 3) := by decide +kernel
theorem dX4_ifPassed_49 : decode cX4_ifPassed 49 = .ok (.ireturn, 1) := by decide +kernel
theorem dX4_turnsNow_0 : decode cX4_turnsNow 0 = .ok (.iconst 0, 1) := by decide +kernel
theorem dX4_turnsNow_1 : decode cX4_turnsNow 1 = .ok (.istore_n 1, 1) := by decide +kernel
theorem dX4_turnsNow_2 : decode cX4_turnsNow 2 = .ok (.iload_n 1, 1) := by decide +kernel
theorem dX4_turnsNow_3 : decode cX4_turnsNow 3 = .ok (.bipush 24, 2) := by decide +kernel
theorem dX4_turnsNow_5 : decode cX4_turnsNow 5 = .ok (.if_icmp .ge 31, 3) := by decide +kernel
theorem dX4_turnsNow_8 : decode cX4_turnsNow 8 = .ok (.aload_n 0, 1) := by decide +kernel
theorem dX4_turnsNow_9 : decode cX4_turnsNow 9 = .ok (.aload_n 0, 1) := by decide +kernel
theorem dX4_turnsNow_10 : decode cX4_turnsNow 10 = .ok (.getfield 7, 3) := by decide +kernel
theorem dX4_turnsNow_13 : decode cX4_turnsNow 13 = .ok (.sipush 146, 3) := by decide +kernel
theorem dX4_turnsNow_16 : decode cX4_turnsNow 16 = .ok (.iaload, 1) := by decide +kernel
theorem dX4_turnsNow_17 : decode cX4_turnsNow 17 = .ok (.iload_n 1, 1) := by decide +kernel
theorem dX4_turnsNow_18 : decode cX4_turnsNow 18 = .ok (.iadd, 1) := by decide +kernel
theorem dX4_turnsNow_19 : decode cX4_turnsNow 19 = .ok (.bipush 24, 2) := by decide +kernel
theorem dX4_turnsNow_21 : decode cX4_turnsNow 21 = .ok (.irem, 1) := by decide +kernel
theorem dX4_turnsNow_22 : decode cX4_turnsNow 22 = .ok (.invokevirtual 59, 3) := by decide +kernel
theorem dX4_turnsNow_25 : decode cX4_turnsNow 25 = .ok (.ifCond .ne 5, 3) := by decide +kernel
theorem dX4_turnsNow_28 : decode cX4_turnsNow 28 = .ok (.iload_n 1, 1) := by decide +kernel
theorem dX4_turnsNow_29 : decode cX4_turnsNow 29 = .ok (.ireturn, 1) := by decide +kernel
theorem dX4_turnsNow_30 : decode cX4_turnsNow 30 = .ok (.iinc 1 1, 3) := by decide +kernel
theorem dX4_turnsNow_33 : decode cX4_turnsNow 33 = .ok (.goto (-31), 3) := by decide +kernel
theorem dX4_turnsNow_36 : decode cX4_turnsNow 36 = .ok (.iconst (-1), 1) := by decide +kernel
theorem dX4_turnsNow_37 : decode cX4_turnsNow 37 = .ok (.ireturn, 1) := by decide +kernel
theorem dX4_turnsIn_0 : decode cX4_turnsIn 0 = .ok (.aload_n 0, 1) := by decide +kernel
theorem dX4_turnsIn_1 : decode cX4_turnsIn 1 = .ok (.iconst 0, 1) := by decide +kernel
theorem dX4_turnsIn_2 : decode cX4_turnsIn 2 = .ok (.putfield 29, 3) := by decide +kernel
theorem dX4_turnsIn_5 : decode cX4_turnsIn 5 = .ok (.aload_n 0, 1) := by decide +kernel
theorem dX4_turnsIn_6 : decode cX4_turnsIn 6 = .ok (.invokevirtual 161, 3) := by decide +kernel
theorem dX4_turnsIn_9 : decode cX4_turnsIn 9 = .ok (.ireturn, 1) := by decide +kernel
theorem dX4_findMain_0 : decode cX4_findMain 0 = .ok (.iconst 0, 1) := by decide +kernel
theorem dX4_findMain_1 : decode cX4_findMain 1 = .ok (.istore_n 1, 1) := by decide +kernel
theorem dX4_findMain_2 : decode cX4_findMain 2 = .ok (.iconst 1, 1) := by decide +kernel
theorem dX4_findMain_3 : decode cX4_findMain 3 = .ok (.istore_n 2, 1) := by decide +kernel
theorem dX4_findMain_4 : decode cX4_findMain 4 = .ok (.iload_n 2, 1) := by decide +kernel
theorem dX4_findMain_5 : decode cX4_findMain 5 = .ok (.bipush 6, 2) := by decide +kernel
theorem dX4_findMain_7 : decode cX4_findMain 7 = .ok (.if_icmp .ge 28, 3) := by decide +kernel
theorem dX4_findMain_10 : decode cX4_findMain 10 = .ok (.aload_n 0, 1) := by decide +kernel
theorem dX4_findMain_11 : decode cX4_findMain 11 = .ok (.iload_n 2, 1) := by decide +kernel
theorem dX4_findMain_12 : decode cX4_findMain 12 = .ok (.invokevirtual 122, 3) := by decide +kernel
theorem dX4_findMain_15 : decode cX4_findMain 15 = .ok (.aload_n 0, 1) := by decide +kernel
theorem dX4_findMain_16 : decode cX4_findMain 16 = .ok (.iload_n 1, 1) := by decide +kernel
theorem dX4_findMain_17 : decode cX4_findMain 17 = .ok (.invokevirtual 122, 3) := by decide +kernel
theorem dX4_findMain_20 : decode cX4_findMain 20 = .ok (.if_icmp .le 7, 3) := by decide +kernel
theorem dX4_findMain_23 : decode cX4_findMain 23 = .ok (.iload_n 2, 1) := by decide +kernel
theorem dX4_findMain_24 : decode cX4_findMain 24 = .ok (.goto 4, 3) := by decide +kernel
theorem dX4_findMain_27 : decode cX4_findMain 27 = .ok (.iload_n 1, 1) := by decide +kernel
theorem dX4_findMain_28 : decode cX4_findMain 28 = .ok (.istore_n 1, 1) := by decide +kernel
theorem dX4_findMain_29 : decode cX4_findMain 29 = .ok (.iinc 2 1, 3) := by decide +kernel
theorem dX4_findMain_32 : decode cX4_findMain 32 = .ok (.goto (-28), 3) := by decide +kernel
theorem dX4_findMain_35 : decode cX4_findMain 35 = .ok (.iload_n 1, 1) := by decide +kernel
theorem dX4_findMain_36 : decode cX4_findMain 36 = .ok (.ireturn, 1) := by decide +kernel
theorem dX4_mainVane_0 : decode cX4_mainVane 0 = .ok (.aload_n 0, 1) := by decide +kernel
theorem dX4_mainVane_1 : decode cX4_mainVane 1 = .ok (.iconst 0, 1) := by decide +kernel
theorem dX4_mainVane_2 : decode cX4_mainVane 2 = .ok (.putfield 29, 3) := by decide +kernel
theorem dX4_mainVane_5 : decode cX4_mainVane 5 = .ok (.aload_n 0, 1) := by decide +kernel
theorem dX4_mainVane_6 : decode cX4_mainVane 6 = .ok (.invokevirtual 164, 3) := by decide +kernel
theorem dX4_mainVane_9 : decode cX4_mainVane 9 = .ok (.ireturn, 1) := by decide +kernel
theorem dX4_turnShare_0 : decode cX4_turnShare 0 = .ok (.aload_n 0, 1) := by decide +kernel
theorem dX4_turnShare_1 : decode cX4_turnShare 1 = .ok (.iconst 0, 1) := by decide +kernel
theorem dX4_turnShare_2 : decode cX4_turnShare 2 = .ok (.putfield 29, 3) := by decide +kernel
theorem dX4_turnShare_5 : decode cX4_turnShare 5 = .ok (.aload_n 0, 1) := by decide +kernel
theorem dX4_turnShare_6 : decode cX4_turnShare 6 = .ok (.invokevirtual 113, 3) := by decide +kernel
theorem dX4_turnShare_9 : decode cX4_turnShare 9 = .ok (.i2d, 1) := by decide +kernel
theorem dX4_turnShare_10 : decode cX4_turnShare 10 = .ok (.ldc2_w 167, 3) := by decide +kernel
theorem dX4_turnShare_13 : decode cX4_turnShare 13 = .ok (.ddiv, 1) := by decide +kernel
theorem dX4_turnShare_14 : decode cX4_turnShare 14 = .ok (.dreturn, 1) := by decide +kernel
theorem dX4_digest_0 : decode cX4_digest 0 = .ok (.aload_n 0, 1) := by decide +kernel
theorem dX4_digest_1 : decode cX4_digest 1 = .ok (.iconst 0, 1) := by decide +kernel
theorem dX4_digest_2 : decode cX4_digest 2 = .ok (.putfield 29, 3) := by decide +kernel
theorem dX4_digest_5 : decode cX4_digest 5 = .ok (.ldc2_w 169, 3) := by decide +kernel
theorem dX4_digest_8 : decode cX4_digest 8 = .ok (.lstore_n 1, 1) := by decide +kernel
theorem dX4_digest_9 : decode cX4_digest 9 = .ok (.iconst 0, 1) := by decide +kernel
theorem dX4_digest_10 : decode cX4_digest 10 = .ok (.istore_n 3, 1) := by decide +kernel
theorem dX4_digest_11 : decode cX4_digest 11 = .ok (.iload_n 3, 1) := by decide +kernel
theorem dX4_digest_12 : decode cX4_digest 12 = .ok (.bipush 9, 2) := by decide +kernel
theorem dX4_digest_14 : decode cX4_digest 14 = .ok (.if_icmp .ge 22, 3) := by decide +kernel
theorem dX4_digest_17 : decode cX4_digest 17 = .ok (.ldc2_w 171, 3) := by decide +kernel
theorem dX4_digest_20 : decode cX4_digest 20 = .ok (.lload_n 1, 1) := by decide +kernel
theorem dX4_digest_21 : decode cX4_digest 21 = .ok (.lmul, 1) := by decide +kernel
theorem dX4_digest_22 : decode cX4_digest 22 = .ok (.aload_n 0, 1) := by decide +kernel
theorem dX4_digest_23 : decode cX4_digest 23 = .ok (.iload_n 3, 1) := by decide +kernel
theorem dX4_digest_24 : decode cX4_digest 24 = .ok (.invokevirtual 146, 3) := by decide +kernel
theorem dX4_digest_27 : decode cX4_digest 27 = .ok (.i2l, 1) := by decide +kernel
theorem dX4_digest_28 : decode cX4_digest 28 = .ok (.ladd, 1) := by decide +kernel
theorem dX4_digest_29 : decode cX4_digest 29 = .ok (.lstore_n 1, 1) := by decide +kernel
theorem dX4_digest_30 : decode cX4_digest 30 = .ok (.iinc 3 1, 3) := by decide +kernel
theorem dX4_digest_33 : decode cX4_digest 33 = .ok (.goto (-22), 3) := by decide +kernel
theorem dX4_digest_36 : decode cX4_digest 36 = .ok (.ldc2_w 171, 3) := by decide +kernel
theorem dX4_digest_39 : decode cX4_digest 39 = .ok (.ldc2_w 171, 3) := by decide +kernel
theorem dX4_digest_42 : decode cX4_digest 42 = .ok (.lload_n 1, 1) := by decide +kernel
theorem dX4_digest_43 : decode cX4_digest 43 = .ok (.lmul, 1) := by decide +kernel
theorem dX4_digest_44 : decode cX4_digest 44 = .ok (.aload_n 0, 1) := by decide +kernel
theorem dX4_digest_45 : decode cX4_digest 45 = .ok (.getfield 7, 3) := by decide +kernel
theorem dX4_digest_48 : decode cX4_digest 48 = .ok (.bipush 72, 2) := by decide +kernel
theorem dX4_digest_50 : decode cX4_digest 50 = .ok (.iaload, 1) := by decide +kernel
theorem dX4_digest_51 : decode cX4_digest 51 = .ok (.i2l, 1) := by decide +kernel
theorem dX4_digest_52 : decode cX4_digest 52 = .ok (.ladd, 1) := by decide +kernel
theorem dX4_digest_53 : decode cX4_digest 53 = .ok (.lmul, 1) := by decide +kernel
theorem dX4_digest_54 : decode cX4_digest 54 = .ok (.aload_n 0, 1) := by decide +kernel
theorem dX4_digest_55 : decode cX4_digest 55 = .ok (.getfield 7, 3) := by decide +kernel
theorem dX4_digest_58 : decode cX4_digest 58 = .ok (.bipush 73, 2) := by decide +kernel
theorem dX4_digest_60 : decode cX4_digest 60 = .ok (.iaload, 1) := by decide +kernel
theorem dX4_digest_61 : decode cX4_digest 61 = .ok (.i2l, 1) := by decide +kernel
theorem dX4_digest_62 : decode cX4_digest 62 = .ok (.ladd, 1) := by decide +kernel
theorem dX4_digest_63 : decode cX4_digest 63 = .ok (.lstore_n 1, 1) := by decide +kernel
theorem dX4_digest_64 : decode cX4_digest 64 = .ok (.iconst 0, 1) := by decide +kernel
theorem dX4_digest_65 : decode cX4_digest 65 = .ok (.istore_n 3, 1) := by decide +kernel
theorem dX4_digest_66 : decode cX4_digest 66 = .ok (.iload_n 3, 1) := by decide +kernel
theorem dX4_digest_67 : decode cX4_digest 67 = .ok (.bipush 120, 2) := by decide +kernel
theorem dX4_digest_69 : decode cX4_digest 69 = .ok (.if_icmp .ge 27, 3) := by decide +kernel
theorem dX4_digest_72 : decode cX4_digest 72 = .ok (.ldc2_w 171, 3) := by decide +kernel
theorem dX4_digest_75 : decode cX4_digest 75 = .ok (.lload_n 1, 1) := by decide +kernel
theorem dX4_digest_76 : decode cX4_digest 76 = .ok (.lmul, 1) := by decide +kernel
theorem dX4_digest_77 : decode cX4_digest 77 = .ok (.aload_n 0, 1) := by decide +kernel
theorem dX4_digest_78 : decode cX4_digest 78 = .ok (.iload_n 3, 1) := by decide +kernel
theorem dX4_digest_79 : decode cX4_digest 79 = .ok (.iconst 5, 1) := by decide +kernel
theorem dX4_digest_80 : decode cX4_digest 80 = .ok (.idiv, 1) := by decide +kernel
theorem dX4_digest_81 : decode cX4_digest 81 = .ok (.iload_n 3, 1) := by decide +kernel
theorem dX4_digest_82 : decode cX4_digest 82 = .ok (.iconst 5, 1) := by decide +kernel
theorem dX4_digest_83 : decode cX4_digest 83 = .ok (.irem, 1) := by decide +kernel
theorem dX4_digest_84 : decode cX4_digest 84 = .ok (.invokevirtual 116, 3) := by decide +kernel
theorem dX4_digest_87 : decode cX4_digest 87 = .ok (.i2l, 1) := by decide +kernel
theorem dX4_digest_88 : decode cX4_digest 88 = .ok (.ladd, 1) := by decide +kernel
theorem dX4_digest_89 : decode cX4_digest 89 = .ok (.lstore_n 1, 1) := by decide +kernel
theorem dX4_digest_90 : decode cX4_digest 90 = .ok (.iinc 3 1, 3) := by decide +kernel
theorem dX4_digest_93 : decode cX4_digest 93 = .ok (.goto (-27), 3) := by decide +kernel
theorem dX4_digest_96 : decode cX4_digest 96 = .ok (.iconst 0, 1) := by decide +kernel
theorem dX4_digest_97 : decode cX4_digest 97 = .ok (.istore_n 3, 1) := by decide +kernel
theorem dX4_digest_98 : decode cX4_digest 98 = .ok (.iload_n 3, 1) := by decide +kernel
theorem dX4_digest_99 : decode cX4_digest 99 = .ok (.bipush 36, 2) := by decide +kernel
theorem dX4_digest_101 : decode cX4_digest 101 = .ok (.if_icmp .ge 29, 3) := by decide +kernel
theorem dX4_digest_104 : decode cX4_digest 104 = .ok (.ldc2_w 171, 3) := by decide +kernel
theorem dX4_digest_107 : decode cX4_digest 107 = .ok (.lload_n 1, 1) := by decide +kernel
theorem dX4_digest_108 : decode cX4_digest 108 = .ok (.lmul, 1) := by decide +kernel
theorem dX4_digest_109 : decode cX4_digest 109 = .ok (.aload_n 0, 1) := by decide +kernel
theorem dX4_digest_110 : decode cX4_digest 110 = .ok (.iload_n 3, 1) := by decide +kernel
theorem dX4_digest_111 : decode cX4_digest 111 = .ok (.bipush 6, 2) := by decide +kernel
theorem dX4_digest_113 : decode cX4_digest 113 = .ok (.idiv, 1) := by decide +kernel
theorem dX4_digest_114 : decode cX4_digest 114 = .ok (.iload_n 3, 1) := by decide +kernel
theorem dX4_digest_115 : decode cX4_digest 115 = .ok (.bipush 6, 2) := by decide +kernel
theorem dX4_digest_117 : decode cX4_digest 117 = .ok (.irem, 1) := by decide +kernel
theorem dX4_digest_118 : decode cX4_digest 118 = .ok (.invokevirtual 125, 3) := by decide +kernel
theorem dX4_digest_121 : decode cX4_digest 121 = .ok (.i2l, 1) := by decide +kernel
theorem dX4_digest_122 : decode cX4_digest 122 = .ok (.ladd, 1) := by decide +kernel
theorem dX4_digest_123 : decode cX4_digest 123 = .ok (.lstore_n 1, 1) := by decide +kernel
theorem dX4_digest_124 : decode cX4_digest 124 = .ok (.iinc 3 1, 3) := by decide +kernel
theorem dX4_digest_127 : decode cX4_digest 127 = .ok (.goto (-29), 3) := by decide +kernel
theorem dX4_digest_130 : decode cX4_digest 130 = .ok (.iconst 0, 1) := by decide +kernel
theorem dX4_digest_131 : decode cX4_digest 131 = .ok (.istore_n 3, 1) := by decide +kernel
theorem dX4_digest_132 : decode cX4_digest 132 = .ok (.iload_n 3, 1) := by decide +kernel
theorem dX4_digest_133 : decode cX4_digest 133 = .ok (.iconst 3, 1) := by decide +kernel
theorem dX4_digest_134 : decode cX4_digest 134 = .ok (.if_icmp .ge 64, 3) := by decide +kernel
theorem dX4_digest_137 : decode cX4_digest 137 = .ok (.iconst 0, 1) := by decide +kernel
theorem dX4_digest_138 : decode cX4_digest 138 = .ok (.istore 4, 2) := by decide +kernel
theorem dX4_digest_140 : decode cX4_digest 140 = .ok (.iload 4, 2) := by decide +kernel
theorem dX4_digest_142 : decode cX4_digest 142 = .ok (.bipush 6, 2) := by decide +kernel
theorem dX4_digest_144 : decode cX4_digest 144 = .ok (.if_icmp .ge 24, 3) := by decide +kernel
theorem dX4_digest_147 : decode cX4_digest 147 = .ok (.ldc2_w 171, 3) := by decide +kernel
theorem dX4_digest_150 : decode cX4_digest 150 = .ok (.lload_n 1, 1) := by decide +kernel
theorem dX4_digest_151 : decode cX4_digest 151 = .ok (.lmul, 1) := by decide +kernel
theorem dX4_digest_152 : decode cX4_digest 152 = .ok (.aload_n 0, 1) := by decide +kernel
theorem dX4_digest_153 : decode cX4_digest 153 = .ok (.iload_n 3, 1) := by decide +kernel
theorem dX4_digest_154 : decode cX4_digest 154 = .ok (.iload 4, 2) := by decide +kernel
theorem dX4_digest_156 : decode cX4_digest 156 = .ok (.invokevirtual 131, 3) := by decide +kernel
theorem dX4_digest_159 : decode cX4_digest 159 = .ok (.i2l, 1) := by decide +kernel
theorem dX4_digest_160 : decode cX4_digest 160 = .ok (.ladd, 1) := by decide +kernel
theorem dX4_digest_161 : decode cX4_digest 161 = .ok (.lstore_n 1, 1) := by decide +kernel
theorem dX4_digest_162 : decode cX4_digest 162 = .ok (.iinc 4 1, 3) := by decide +kernel
theorem dX4_digest_165 : decode cX4_digest 165 = .ok (.goto (-25), 3) := by decide +kernel
theorem dX4_digest_168 : decode cX4_digest 168 = .ok (.ldc2_w 171, 3) := by decide +kernel
theorem dX4_digest_171 : decode cX4_digest 171 = .ok (.ldc2_w 171, 3) := by decide +kernel
theorem dX4_digest_174 : decode cX4_digest 174 = .ok (.lload_n 1, 1) := by decide +kernel
theorem dX4_digest_175 : decode cX4_digest 175 = .ok (.lmul, 1) := by decide +kernel
theorem dX4_digest_176 : decode cX4_digest 176 = .ok (.aload_n 0, 1) := by decide +kernel
theorem dX4_digest_177 : decode cX4_digest 177 = .ok (.iload_n 3, 1) := by decide +kernel
theorem dX4_digest_178 : decode cX4_digest 178 = .ok (.invokevirtual 149, 3) := by decide +kernel
theorem dX4_digest_181 : decode cX4_digest 181 = .ok (.i2l, 1) := by decide +kernel
theorem dX4_digest_182 : decode cX4_digest 182 = .ok (.ladd, 1) := by decide +kernel
theorem dX4_digest_183 : decode cX4_digest 183 = .ok (.lmul, 1) := by decide +kernel
theorem dX4_digest_184 : decode cX4_digest 184 = .ok (.aload_n 0, 1) := by decide +kernel
theorem dX4_digest_185 : decode cX4_digest 185 = .ok (.iload_n 3, 1) := by decide +kernel
theorem dX4_digest_186 : decode cX4_digest 186 = .ok (.invokevirtual 149, 3) := by decide +kernel
theorem dX4_digest_189 : decode cX4_digest 189 = .ok (.i2l, 1) := by decide +kernel
theorem dX4_digest_190 : decode cX4_digest 190 = .ok (.ladd, 1) := by decide +kernel
theorem dX4_digest_191 : decode cX4_digest 191 = .ok (.lstore_n 1, 1) := by decide +kernel
theorem dX4_digest_192 : decode cX4_digest 192 = .ok (.iinc 3 1, 3) := by decide +kernel
theorem dX4_digest_195 : decode cX4_digest 195 = .ok (.goto (-63), 3) := by decide +kernel
theorem dX4_digest_198 : decode cX4_digest 198 = .ok (.iconst 0, 1) := by decide +kernel
theorem dX4_digest_199 : decode cX4_digest 199 = .ok (.istore_n 3, 1) := by decide +kernel
theorem dX4_digest_200 : decode cX4_digest 200 = .ok (.iload_n 3, 1) := by decide +kernel
theorem dX4_digest_201 : decode cX4_digest 201 = .ok (.iconst 5, 1) := by decide +kernel
theorem dX4_digest_202 : decode cX4_digest 202 = .ok (.if_icmp .ge 54, 3) := by decide +kernel
theorem dX4_digest_205 : decode cX4_digest 205 = .ok (.iconst 0, 1) := by decide +kernel
theorem dX4_digest_206 : decode cX4_digest 206 = .ok (.istore 4, 2) := by decide +kernel
theorem dX4_digest_208 : decode cX4_digest 208 = .ok (.iload 4, 2) := by decide +kernel
theorem dX4_digest_210 : decode cX4_digest 210 = .ok (.iconst 4, 1) := by decide +kernel
theorem dX4_digest_211 : decode cX4_digest 211 = .ok (.if_icmp .ge 24, 3) := by decide +kernel
theorem dX4_digest_214 : decode cX4_digest 214 = .ok (.ldc2_w 171, 3) := by decide +kernel
theorem dX4_digest_217 : decode cX4_digest 217 = .ok (.lload_n 1, 1) := by decide +kernel
theorem dX4_digest_218 : decode cX4_digest 218 = .ok (.lmul, 1) := by decide +kernel
theorem dX4_digest_219 : decode cX4_digest 219 = .ok (.aload_n 0, 1) := by decide +kernel
theorem dX4_digest_220 : decode cX4_digest 220 = .ok (.iload_n 3, 1) := by decide +kernel
theorem dX4_digest_221 : decode cX4_digest 221 = .ok (.iload 4, 2) := by decide +kernel
theorem dX4_digest_223 : decode cX4_digest 223 = .ok (.invokevirtual 140, 3) := by decide +kernel
theorem dX4_digest_226 : decode cX4_digest 226 = .ok (.i2l, 1) := by decide +kernel
theorem dX4_digest_227 : decode cX4_digest 227 = .ok (.ladd, 1) := by decide +kernel
theorem dX4_digest_228 : decode cX4_digest 228 = .ok (.lstore_n 1, 1) := by decide +kernel
theorem dX4_digest_229 : decode cX4_digest 229 = .ok (.iinc 4 1, 3) := by decide +kernel
theorem dX4_digest_232 : decode cX4_digest 232 = .ok (.goto (-24), 3) := by decide +kernel
theorem dX4_digest_235 : decode cX4_digest 235 = .ok (.ldc2_w 171, 3) := by decide +kernel
theorem dX4_digest_238 : decode cX4_digest 238 = .ok (.lload_n 1, 1) := by decide +kernel
theorem dX4_digest_239 : decode cX4_digest 239 = .ok (.lmul, 1) := by decide +kernel
theorem dX4_digest_240 : decode cX4_digest 240 = .ok (.aload_n 0, 1) := by decide +kernel
theorem dX4_digest_241 : decode cX4_digest 241 = .ok (.iload_n 3, 1) := by decide +kernel
theorem dX4_digest_242 : decode cX4_digest 242 = .ok (.bipush 9, 2) := by decide +kernel
theorem dX4_digest_244 : decode cX4_digest 244 = .ok (.invokevirtual 158, 3) := by decide +kernel
theorem dX4_digest_247 : decode cX4_digest 247 = .ok (.i2l, 1) := by decide +kernel
theorem dX4_digest_248 : decode cX4_digest 248 = .ok (.ladd, 1) := by decide +kernel
theorem dX4_digest_249 : decode cX4_digest 249 = .ok (.lstore_n 1, 1) := by decide +kernel
theorem dX4_digest_250 : decode cX4_digest 250 = .ok (.iinc 3 1, 3) := by decide +kernel
theorem dX4_digest_253 : decode cX4_digest 253 = .ok (.goto (-53), 3) := by decide +kernel
theorem dX4_digest_256 : decode cX4_digest 256 = .ok (.ldc2_w 171, 3) := by decide +kernel
theorem dX4_digest_259 : decode cX4_digest 259 = .ok (.ldc2_w 171, 3) := by decide +kernel
theorem dX4_digest_262 : decode cX4_digest 262 = .ok (.lload_n 1, 1) := by decide +kernel
theorem dX4_digest_263 : decode cX4_digest 263 = .ok (.lmul, 1) := by decide +kernel
theorem dX4_digest_264 : decode cX4_digest 264 = .ok (.aload_n 0, 1) := by decide +kernel
theorem dX4_digest_265 : decode cX4_digest 265 = .ok (.invokevirtual 161, 3) := by decide +kernel
theorem dX4_digest_268 : decode cX4_digest 268 = .ok (.i2l, 1) := by decide +kernel
theorem dX4_digest_269 : decode cX4_digest 269 = .ok (.ladd, 1) := by decide +kernel
theorem dX4_digest_270 : decode cX4_digest 270 = .ok (.lmul, 1) := by decide +kernel
theorem dX4_digest_271 : decode cX4_digest 271 = .ok (.aload_n 0, 1) := by decide +kernel
theorem dX4_digest_272 : decode cX4_digest 272 = .ok (.invokevirtual 164, 3) := by decide +kernel
theorem dX4_digest_275 : decode cX4_digest 275 = .ok (.i2l, 1) := by decide +kernel
theorem dX4_digest_276 : decode cX4_digest 276 = .ok (.ladd, 1) := by decide +kernel
theorem dX4_digest_277 : decode cX4_digest 277 = .ok (.lstore_n 1, 1) := by decide +kernel
theorem dX4_digest_278 : decode cX4_digest 278 = .ok (.ldc2_w 171, 3) := by decide +kernel
theorem dX4_digest_281 : decode cX4_digest 281 = .ok (.lload_n 1, 1) := by decide +kernel
theorem dX4_digest_282 : decode cX4_digest 282 = .ok (.lmul, 1) := by decide +kernel
theorem dX4_digest_283 : decode cX4_digest 283 = .ok (.aload_n 0, 1) := by decide +kernel
theorem dX4_digest_284 : decode cX4_digest 284 = .ok (.invokevirtual 113, 3) := by decide +kernel
theorem dX4_digest_287 : decode cX4_digest 287 = .ok (.i2d, 1) := by decide +kernel
theorem dX4_digest_288 : decode cX4_digest 288 = .ok (.ldc2_w 167, 3) := by decide +kernel
theorem dX4_digest_291 : decode cX4_digest 291 = .ok (.ddiv, 1) := by decide +kernel
theorem dX4_digest_292 : decode cX4_digest 292 = .ok (.invokestatic 173, 3) := by decide +kernel
theorem dX4_digest_295 : decode cX4_digest 295 = .ok (.ladd, 1) := by decide +kernel
theorem dX4_digest_296 : decode cX4_digest 296 = .ok (.lstore_n 1, 1) := by decide +kernel
theorem dX4_digest_297 : decode cX4_digest 297 = .ok (.ldc2_w 171, 3) := by decide +kernel
theorem dX4_digest_300 : decode cX4_digest 300 = .ok (.ldc2_w 171, 3) := by decide +kernel
theorem dX4_digest_303 : decode cX4_digest 303 = .ok (.lload_n 1, 1) := by decide +kernel
theorem dX4_digest_304 : decode cX4_digest 304 = .ok (.lmul, 1) := by decide +kernel
theorem dX4_digest_305 : decode cX4_digest 305 = .ok (.aload_n 0, 1) := by decide +kernel
theorem dX4_digest_306 : decode cX4_digest 306 = .ok (.getfield 22, 3) := by decide +kernel
theorem dX4_digest_309 : decode cX4_digest 309 = .ok (.iconst 0, 1) := by decide +kernel
theorem dX4_digest_310 : decode cX4_digest 310 = .ok (.baload, 1) := by decide +kernel
theorem dX4_digest_311 : decode cX4_digest 311 = .ok (.ifCond .eq 7, 3) := by decide +kernel
theorem dX4_digest_314 : decode cX4_digest 314 = .ok (.iconst 1, 1) := by decide +kernel
theorem dX4_digest_315 : decode cX4_digest 315 = .ok (.goto 4, 3) := by decide +kernel
theorem dX4_digest_318 : decode cX4_digest 318 = .ok (.iconst 0, 1) := by decide +kernel
theorem dX4_digest_319 : decode cX4_digest 319 = .ok (.i2l, 1) := by decide +kernel
theorem dX4_digest_320 : decode cX4_digest 320 = .ok (.ladd, 1) := by decide +kernel
theorem dX4_digest_321 : decode cX4_digest 321 = .ok (.lmul, 1) := by decide +kernel
theorem dX4_digest_322 : decode cX4_digest 322 = .ok (.aload_n 0, 1) := by decide +kernel
theorem dX4_digest_323 : decode cX4_digest 323 = .ok (.getfield 22, 3) := by decide +kernel
theorem dX4_digest_326 : decode cX4_digest 326 = .ok (.iconst 1, 1) := by decide +kernel
theorem dX4_digest_327 : decode cX4_digest 327 = .ok (.baload, 1) := by decide +kernel
theorem dX4_digest_328 : decode cX4_digest 328 = .ok (.ifCond .eq 7, 3) := by decide +kernel
theorem dX4_digest_331 : decode cX4_digest 331 = .ok (.iconst 1, 1) := by decide +kernel
theorem dX4_digest_332 : decode cX4_digest 332 = .ok (.goto 4, 3) := by decide +kernel
theorem dX4_digest_335 : decode cX4_digest 335 = .ok (.iconst 0, 1) := by decide +kernel
theorem dX4_digest_336 : decode cX4_digest 336 = .ok (.i2l, 1) := by decide +kernel
theorem dX4_digest_337 : decode cX4_digest 337 = .ok (.ladd, 1) := by decide +kernel
theorem dX4_digest_338 : decode cX4_digest 338 = .ok (.lstore_n 1, 1) := by decide +kernel
theorem dX4_digest_339 : decode cX4_digest 339 = .ok (.ldc2_w 171, 3) := by decide +kernel
theorem dX4_digest_342 : decode cX4_digest 342 = .ok (.lload_n 1, 1) := by decide +kernel
theorem dX4_digest_343 : decode cX4_digest 343 = .ok (.lmul, 1) := by decide +kernel
theorem dX4_digest_344 : decode cX4_digest 344 = .ok (.aload_n 0, 1) := by decide +kernel
theorem dX4_digest_345 : decode cX4_digest 345 = .ok (.getfield 98, 3) := by decide +kernel
theorem dX4_digest_348 : decode cX4_digest 348 = .ok (.i2l, 1) := by decide +kernel
theorem dX4_digest_349 : decode cX4_digest 349 = .ok (.ladd, 1) := by decide +kernel
theorem dX4_digest_350 : decode cX4_digest 350 = .ok (.lstore_n 1, 1) := by decide +kernel
theorem dX4_digest_351 : decode cX4_digest 351 = .ok (.iconst 0, 1) := by decide +kernel
theorem dX4_digest_352 : decode cX4_digest 352 = .ok (.istore_n 3, 1) := by decide +kernel
theorem dX4_digest_353 : decode cX4_digest 353 = .ok (.iload_n 3, 1) := by decide +kernel
theorem dX4_digest_354 : decode cX4_digest 354 = .ok (.aload_n 0, 1) := by decide +kernel
theorem dX4_digest_355 : decode cX4_digest 355 = .ok (.getfield 98, 3) := by decide +kernel
theorem dX4_digest_358 : decode cX4_digest 358 = .ok (.if_icmp .ge 23, 3) := by decide +kernel
theorem dX4_digest_361 : decode cX4_digest 361 = .ok (.ldc2_w 171, 3) := by decide +kernel
theorem dX4_digest_364 : decode cX4_digest 364 = .ok (.lload_n 1, 1) := by decide +kernel
theorem dX4_digest_365 : decode cX4_digest 365 = .ok (.lmul, 1) := by decide +kernel
theorem dX4_digest_366 : decode cX4_digest 366 = .ok (.aload_n 0, 1) := by decide +kernel
theorem dX4_digest_367 : decode cX4_digest 367 = .ok (.getfield 26, 3) := by decide +kernel
theorem dX4_digest_370 : decode cX4_digest 370 = .ok (.iload_n 3, 1) := by decide +kernel
theorem dX4_digest_371 : decode cX4_digest 371 = .ok (.iaload, 1) := by decide +kernel
theorem dX4_digest_372 : decode cX4_digest 372 = .ok (.i2l, 1) := by decide +kernel
theorem dX4_digest_373 : decode cX4_digest 373 = .ok (.ladd, 1) := by decide +kernel
theorem dX4_digest_374 : decode cX4_digest 374 = .ok (.lstore_n 1, 1) := by decide +kernel
theorem dX4_digest_375 : decode cX4_digest 375 = .ok (.iinc 3 1, 3) := by decide +kernel
theorem dX4_digest_378 : decode cX4_digest 378 = .ok (.goto (-25), 3) := by decide +kernel
theorem dX4_digest_381 : decode cX4_digest 381 = .ok (.lload_n 1, 1) := by decide +kernel
theorem dX4_digest_382 : decode cX4_digest 382 = .ok (.lreturn, 1) := by decide +kernel
theorem dJxe99ae_isNaN_b9ae7_0 : decode cJxe99ae_isNaN_b9ae7 0 = .ok (.dload_n 0, 1) := by decide +kernel
theorem dJxe99ae_isNaN_b9ae7_1 : decode cJxe99ae_isNaN_b9ae7 1 = .ok (.dload_n 0, 1) := by decide +kernel
theorem dJxe99ae_isNaN_b9ae7_2 : decode cJxe99ae_isNaN_b9ae7 2 = .ok (.dcmp .l, 1) := by decide +kernel
theorem dJxe99ae_isNaN_b9ae7_3 : decode cJxe99ae_isNaN_b9ae7 3 = .ok (.ifCond .eq 7, 3) := by decide +kernel
theorem dJxe99ae_isNaN_b9ae7_6 : decode cJxe99ae_isNaN_b9ae7 6 = .ok (.iconst 1, 1) := by decide +kernel
theorem dJxe99ae_isNaN_b9ae7_7 : decode cJxe99ae_isNaN_b9ae7 7 = .ok (.goto 4, 3) := by decide +kernel
theorem dJxe99ae_isNaN_b9ae7_10 : decode cJxe99ae_isNaN_b9ae7 10 = .ok (.iconst 0, 1) := by decide +kernel
theorem dJxe99ae_isNaN_b9ae7_11 : decode cJxe99ae_isNaN_b9ae7 11 = .ok (.ireturn, 1) := by decide +kernel
theorem dJxe99ae_doubleToLongBits_ccdee_0 : decode cJxe99ae_doubleToLongBits_ccdee 0 = .ok (.dload_n 0, 1) := by decide +kernel
theorem dJxe99ae_doubleToLongBits_ccdee_1 : decode cJxe99ae_doubleToLongBits_ccdee 1 = .ok (.invokestatic 122, 3) := by decide +kernel
theorem dJxe99ae_doubleToLongBits_ccdee_4 : decode cJxe99ae_doubleToLongBits_ccdee 4 = .ok (.ifCond .ne 8, 3) := by decide +kernel
theorem dJxe99ae_doubleToLongBits_ccdee_7 : decode cJxe99ae_doubleToLongBits_ccdee 7 = .ok (.dload_n 0, 1) := by decide +kernel
theorem dJxe99ae_doubleToLongBits_ccdee_8 : decode cJxe99ae_doubleToLongBits_ccdee 8 = .ok (.invokestatic 134, 3) := by decide +kernel
theorem dJxe99ae_doubleToLongBits_ccdee_11 : decode cJxe99ae_doubleToLongBits_ccdee 11 = .ok (.lreturn, 1) := by decide +kernel
theorem dJxe99ae_doubleToLongBits_ccdee_12 : decode cJxe99ae_doubleToLongBits_ccdee 12 = .ok (.ldc2_w 137, 3) := by decide +kernel
theorem dJxe99ae_doubleToLongBits_ccdee_15 : decode cJxe99ae_doubleToLongBits_ccdee 15 = .ok (.lreturn, 1) := by decide +kernel
theorem dJ9_min_7cf53_0 : decode cJ9_min_7cf53 0 = .ok (.iload_n 0, 1) := by decide +kernel
theorem dJ9_min_7cf53_1 : decode cJ9_min_7cf53 1 = .ok (.iload_n 1, 1) := by decide +kernel
theorem dJ9_min_7cf53_2 : decode cJ9_min_7cf53 2 = .ok (.if_icmp .gt 7, 3) := by decide +kernel
theorem dJ9_min_7cf53_5 : decode cJ9_min_7cf53 5 = .ok (.iload_n 0, 1) := by decide +kernel
theorem dJ9_min_7cf53_6 : decode cJ9_min_7cf53 6 = .ok (.goto 4, 3) := by decide +kernel
theorem dJ9_min_7cf53_9 : decode cJ9_min_7cf53 9 = .ok (.iload_n 1, 1) := by decide +kernel
theorem dJ9_min_7cf53_10 : decode cJ9_min_7cf53 10 = .ok (.ireturn, 1) := by decide +kernel
theorem dL_wind_0 : decode cL_wind 0 = .ok (.aload 4, 2) := by decide +kernel
theorem dL_wind_2 : decode cL_wind 2 = .ok (.iconst 0, 1) := by decide +kernel
theorem dL_wind_3 : decode cL_wind 3 = .ok (.aload_n 0, 1) := by decide +kernel
theorem dL_wind_4 : decode cL_wind 4 = .ok (.iload_n 1, 1) := by decide +kernel
theorem dL_wind_5 : decode cL_wind 5 = .ok (.iload_n 2, 1) := by decide +kernel
theorem dL_wind_6 : decode cL_wind 6 = .ok (.iload_n 3, 1) := by decide +kernel
theorem dL_wind_7 : decode cL_wind 7 = .ok (.invokevirtual 7, 3) := by decide +kernel
theorem dL_wind_10 : decode cL_wind 10 = .ok (.i2l, 1) := by decide +kernel
theorem dL_wind_11 : decode cL_wind 11 = .ok (.lastore, 1) := by decide +kernel
theorem dL_wind_12 : decode cL_wind 12 = .ok (.goto 11, 3) := by decide +kernel
theorem dL_wind_15 : decode cL_wind 15 = .ok (.astore 5, 2) := by decide +kernel
theorem dL_wind_17 : decode cL_wind 17 = .ok (.iconst 1, 1) := by decide +kernel
theorem dL_wind_18 : decode cL_wind 18 = .ok (.ireturn, 1) := by decide +kernel
theorem dL_wind_19 : decode cL_wind 19 = .ok (.astore 5, 2) := by decide +kernel
theorem dL_wind_21 : decode cL_wind 21 = .ok (.iconst 2, 1) := by decide +kernel
theorem dL_wind_22 : decode cL_wind 22 = .ok (.ireturn, 1) := by decide +kernel
theorem dL_wind_23 : decode cL_wind 23 = .ok (.iconst 0, 1) := by decide +kernel
theorem dL_wind_24 : decode cL_wind 24 = .ok (.ireturn, 1) := by decide +kernel
theorem dL_vane_0 : decode cL_vane 0 = .ok (.aload 4, 2) := by decide +kernel
theorem dL_vane_2 : decode cL_vane 2 = .ok (.iconst 0, 1) := by decide +kernel
theorem dL_vane_3 : decode cL_vane 3 = .ok (.aload_n 0, 1) := by decide +kernel
theorem dL_vane_4 : decode cL_vane 4 = .ok (.iload_n 1, 1) := by decide +kernel
theorem dL_vane_5 : decode cL_vane 5 = .ok (.iload_n 2, 1) := by decide +kernel
theorem dL_vane_6 : decode cL_vane 6 = .ok (.iload_n 3, 1) := by decide +kernel
theorem dL_vane_7 : decode cL_vane 7 = .ok (.invokevirtual 17, 3) := by decide +kernel
theorem dL_vane_10 : decode cL_vane 10 = .ok (.i2l, 1) := by decide +kernel
theorem dL_vane_11 : decode cL_vane 11 = .ok (.lastore, 1) := by decide +kernel
theorem dL_vane_12 : decode cL_vane 12 = .ok (.goto 11, 3) := by decide +kernel
theorem dL_vane_15 : decode cL_vane 15 = .ok (.astore 5, 2) := by decide +kernel
theorem dL_vane_17 : decode cL_vane 17 = .ok (.iconst 1, 1) := by decide +kernel
theorem dL_vane_18 : decode cL_vane 18 = .ok (.ireturn, 1) := by decide +kernel
theorem dL_vane_19 : decode cL_vane 19 = .ok (.astore 5, 2) := by decide +kernel
theorem dL_vane_21 : decode cL_vane 21 = .ok (.iconst 2, 1) := by decide +kernel
theorem dL_vane_22 : decode cL_vane 22 = .ok (.ireturn, 1) := by decide +kernel
theorem dL_vane_23 : decode cL_vane 23 = .ok (.iconst 0, 1) := by decide +kernel
theorem dL_vane_24 : decode cL_vane 24 = .ok (.ireturn, 1) := by decide +kernel
theorem dL_mill_0 : decode cL_mill 0 = .ok (.aload_n 3, 1) := by decide +kernel
theorem dL_mill_1 : decode cL_mill 1 = .ok (.iconst 0, 1) := by decide +kernel
theorem dL_mill_2 : decode cL_mill 2 = .ok (.aload_n 0, 1) := by decide +kernel
theorem dL_mill_3 : decode cL_mill 3 = .ok (.iload_n 1, 1) := by decide +kernel
theorem dL_mill_4 : decode cL_mill 4 = .ok (.iload_n 2, 1) := by decide +kernel
theorem dL_mill_5 : decode cL_mill 5 = .ok (.invokevirtual 20, 3) := by decide +kernel
theorem dL_mill_8 : decode cL_mill 8 = .ok (.i2l, 1) := by decide +kernel
theorem dL_mill_9 : decode cL_mill 9 = .ok (.lastore, 1) := by decide +kernel
theorem dL_mill_10 : decode cL_mill 10 = .ok (.goto 11, 3) := by decide +kernel
theorem dL_mill_13 : decode cL_mill 13 = .ok (.astore 4, 2) := by decide +kernel
theorem dL_mill_15 : decode cL_mill 15 = .ok (.iconst 1, 1) := by decide +kernel
theorem dL_mill_16 : decode cL_mill 16 = .ok (.ireturn, 1) := by decide +kernel
theorem dL_mill_17 : decode cL_mill 17 = .ok (.astore 4, 2) := by decide +kernel
theorem dL_mill_19 : decode cL_mill 19 = .ok (.iconst 2, 1) := by decide +kernel
theorem dL_mill_20 : decode cL_mill 20 = .ok (.ireturn, 1) := by decide +kernel
theorem dL_mill_21 : decode cL_mill 21 = .ok (.iconst 0, 1) := by decide +kernel
theorem dL_mill_22 : decode cL_mill 22 = .ok (.ireturn, 1) := by decide +kernel
theorem dL_set_0 : decode cL_set 0 = .ok (.aload_n 3, 1) := by decide +kernel
theorem dL_set_1 : decode cL_set 1 = .ok (.iconst 0, 1) := by decide +kernel
theorem dL_set_2 : decode cL_set 2 = .ok (.aload_n 0, 1) := by decide +kernel
theorem dL_set_3 : decode cL_set 3 = .ok (.iload_n 1, 1) := by decide +kernel
theorem dL_set_4 : decode cL_set 4 = .ok (.iload_n 2, 1) := by decide +kernel
theorem dL_set_5 : decode cL_set 5 = .ok (.invokevirtual 24, 3) := by decide +kernel
theorem dL_set_8 : decode cL_set 8 = .ok (.i2l, 1) := by decide +kernel
theorem dL_set_9 : decode cL_set 9 = .ok (.lastore, 1) := by decide +kernel
theorem dL_set_10 : decode cL_set 10 = .ok (.goto 11, 3) := by decide +kernel
theorem dL_set_13 : decode cL_set 13 = .ok (.astore 4, 2) := by decide +kernel
theorem dL_set_15 : decode cL_set 15 = .ok (.iconst 1, 1) := by decide +kernel
theorem dL_set_16 : decode cL_set 16 = .ok (.ireturn, 1) := by decide +kernel
theorem dL_set_17 : decode cL_set 17 = .ok (.astore 4, 2) := by decide +kernel
theorem dL_set_19 : decode cL_set 19 = .ok (.iconst 2, 1) := by decide +kernel
theorem dL_set_20 : decode cL_set 20 = .ok (.ireturn, 1) := by decide +kernel
theorem dL_set_21 : decode cL_set 21 = .ok (.iconst 0, 1) := by decide +kernel
theorem dL_set_22 : decode cL_set 22 = .ok (.ireturn, 1) := by decide +kernel
theorem dL_bring_0 : decode cL_bring 0 = .ok (.aload 4, 2) := by decide +kernel
theorem dL_bring_2 : decode cL_bring 2 = .ok (.iconst 0, 1) := by decide +kernel
theorem dL_bring_3 : decode cL_bring 3 = .ok (.aload_n 0, 1) := by decide +kernel
theorem dL_bring_4 : decode cL_bring 4 = .ok (.iload_n 1, 1) := by decide +kernel
theorem dL_bring_5 : decode cL_bring 5 = .ok (.iload_n 2, 1) := by decide +kernel
theorem dL_bring_6 : decode cL_bring 6 = .ok (.iload_n 3, 1) := by decide +kernel
theorem dL_bring_7 : decode cL_bring 7 = .ok (.invokevirtual 27, 3) := by decide +kernel
theorem dL_bring_10 : decode cL_bring 10 = .ok (.i2l, 1) := by decide +kernel
theorem dL_bring_11 : decode cL_bring 11 = .ok (.lastore, 1) := by decide +kernel
theorem dL_bring_12 : decode cL_bring 12 = .ok (.goto 11, 3) := by decide +kernel
theorem dL_bring_15 : decode cL_bring 15 = .ok (.astore 5, 2) := by decide +kernel
theorem dL_bring_17 : decode cL_bring 17 = .ok (.iconst 1, 1) := by decide +kernel
theorem dL_bring_18 : decode cL_bring 18 = .ok (.ireturn, 1) := by decide +kernel
theorem dL_bring_19 : decode cL_bring 19 = .ok (.astore 5, 2) := by decide +kernel
theorem dL_bring_21 : decode cL_bring 21 = .ok (.iconst 2, 1) := by decide +kernel
theorem dL_bring_22 : decode cL_bring 22 = .ok (.ireturn, 1) := by decide +kernel
theorem dL_bring_23 : decode cL_bring 23 = .ok (.iconst 0, 1) := by decide +kernel
theorem dL_bring_24 : decode cL_bring 24 = .ok (.ireturn, 1) := by decide +kernel
theorem dL_takeBack_0 : decode cL_takeBack 0 = .ok (.aload_n 2, 1) := by decide +kernel
theorem dL_takeBack_1 : decode cL_takeBack 1 = .ok (.iconst 0, 1) := by decide +kernel
theorem dL_takeBack_2 : decode cL_takeBack 2 = .ok (.aload_n 0, 1) := by decide +kernel
theorem dL_takeBack_3 : decode cL_takeBack 3 = .ok (.iload_n 1, 1) := by decide +kernel
theorem dL_takeBack_4 : decode cL_takeBack 4 = .ok (.invokevirtual 30, 3) := by decide +kernel
theorem dL_takeBack_7 : decode cL_takeBack 7 = .ok (.i2l, 1) := by decide +kernel
theorem dL_takeBack_8 : decode cL_takeBack 8 = .ok (.lastore, 1) := by decide +kernel
theorem dL_takeBack_9 : decode cL_takeBack 9 = .ok (.goto 6, 3) := by decide +kernel
theorem dL_takeBack_12 : decode cL_takeBack 12 = .ok (.astore_n 3, 1) := by decide +kernel
theorem dL_takeBack_13 : decode cL_takeBack 13 = .ok (.iconst 1, 1) := by decide +kernel
theorem dL_takeBack_14 : decode cL_takeBack 14 = .ok (.ireturn, 1) := by decide +kernel
theorem dL_takeBack_15 : decode cL_takeBack 15 = .ok (.iconst 0, 1) := by decide +kernel
theorem dL_takeBack_16 : decode cL_takeBack 16 = .ok (.ireturn, 1) := by decide +kernel
theorem dL_pass_0 : decode cL_pass 0 = .ok (.aload_n 2, 1) := by decide +kernel
theorem dL_pass_1 : decode cL_pass 1 = .ok (.iconst 0, 1) := by decide +kernel
theorem dL_pass_2 : decode cL_pass 2 = .ok (.aload_n 0, 1) := by decide +kernel
theorem dL_pass_3 : decode cL_pass 3 = .ok (.iload_n 1, 1) := by decide +kernel
theorem dL_pass_4 : decode cL_pass 4 = .ok (.invokevirtual 34, 3) := by decide +kernel
theorem dL_pass_7 : decode cL_pass 7 = .ok (.i2l, 1) := by decide +kernel
theorem dL_pass_8 : decode cL_pass 8 = .ok (.lastore, 1) := by decide +kernel
theorem dL_pass_9 : decode cL_pass 9 = .ok (.goto 9, 3) := by decide +kernel
theorem dL_pass_12 : decode cL_pass 12 = .ok (.astore_n 3, 1) := by decide +kernel
theorem dL_pass_13 : decode cL_pass 13 = .ok (.iconst 1, 1) := by decide +kernel
theorem dL_pass_14 : decode cL_pass 14 = .ok (.ireturn, 1) := by decide +kernel
theorem dL_pass_15 : decode cL_pass 15 = .ok (.astore_n 3, 1) := by decide +kernel
theorem dL_pass_16 : decode cL_pass 16 = .ok (.iconst 2, 1) := by decide +kernel
theorem dL_pass_17 : decode cL_pass 17 = .ok (.ireturn, 1) := by decide +kernel
theorem dL_pass_18 : decode cL_pass 18 = .ok (.iconst 0, 1) := by decide +kernel
theorem dL_pass_19 : decode cL_pass 19 = .ok (.ireturn, 1) := by decide +kernel
theorem dL_append_0 : decode cL_append 0 = .ok (.aload_n 2, 1) := by decide +kernel
theorem dL_append_1 : decode cL_append 1 = .ok (.iconst 0, 1) := by decide +kernel
theorem dL_append_2 : decode cL_append 2 = .ok (.aload_n 0, 1) := by decide +kernel
theorem dL_append_3 : decode cL_append 3 = .ok (.iload_n 1, 1) := by decide +kernel
theorem dL_append_4 : decode cL_append 4 = .ok (.invokevirtual 39, 3) := by decide +kernel
theorem dL_append_7 : decode cL_append 7 = .ok (.i2l, 1) := by decide +kernel
theorem dL_append_8 : decode cL_append 8 = .ok (.lastore, 1) := by decide +kernel
theorem dL_append_9 : decode cL_append 9 = .ok (.goto 9, 3) := by decide +kernel
theorem dL_append_12 : decode cL_append 12 = .ok (.astore_n 3, 1) := by decide +kernel
theorem dL_append_13 : decode cL_append 13 = .ok (.iconst 1, 1) := by decide +kernel
theorem dL_append_14 : decode cL_append 14 = .ok (.ireturn, 1) := by decide +kernel
theorem dL_append_15 : decode cL_append 15 = .ok (.astore_n 3, 1) := by decide +kernel
theorem dL_append_16 : decode cL_append 16 = .ok (.iconst 2, 1) := by decide +kernel
theorem dL_append_17 : decode cL_append 17 = .ok (.ireturn, 1) := by decide +kernel
theorem dL_append_18 : decode cL_append 18 = .ok (.iconst 0, 1) := by decide +kernel
theorem dL_append_19 : decode cL_append 19 = .ok (.ireturn, 1) := by decide +kernel
theorem dL_load_0 : decode cL_load 0 = .ok (.aload_n 1, 1) := by decide +kernel
theorem dL_load_1 : decode cL_load 1 = .ok (.iconst 0, 1) := by decide +kernel
theorem dL_load_2 : decode cL_load 2 = .ok (.aload_n 0, 1) := by decide +kernel
theorem dL_load_3 : decode cL_load 3 = .ok (.invokevirtual 42, 3) := by decide +kernel
theorem dL_load_6 : decode cL_load 6 = .ok (.i2l, 1) := by decide +kernel
theorem dL_load_7 : decode cL_load 7 = .ok (.lastore, 1) := by decide +kernel
theorem dL_load_8 : decode cL_load 8 = .ok (.goto 6, 3) := by decide +kernel
theorem dL_load_11 : decode cL_load 11 = .ok (.astore_n 2, 1) := by decide +kernel
theorem dL_load_12 : decode cL_load 12 = .ok (.iconst 1, 1) := by decide +kernel
theorem dL_load_13 : decode cL_load 13 = .ok (.ireturn, 1) := by decide +kernel
theorem dL_load_14 : decode cL_load 14 = .ok (.iconst 0, 1) := by decide +kernel
theorem dL_load_15 : decode cL_load 15 = .ok (.ireturn, 1) := by decide +kernel
theorem dL_keep_0 : decode cL_keep 0 = .ok (.aload_n 2, 1) := by decide +kernel
theorem dL_keep_1 : decode cL_keep 1 = .ok (.iconst 0, 1) := by decide +kernel
theorem dL_keep_2 : decode cL_keep 2 = .ok (.aload_n 0, 1) := by decide +kernel
theorem dL_keep_3 : decode cL_keep 3 = .ok (.iload_n 1, 1) := by decide +kernel
theorem dL_keep_4 : decode cL_keep 4 = .ok (.invokevirtual 46, 3) := by decide +kernel
theorem dL_keep_7 : decode cL_keep 7 = .ok (.i2l, 1) := by decide +kernel
theorem dL_keep_8 : decode cL_keep 8 = .ok (.lastore, 1) := by decide +kernel
theorem dL_keep_9 : decode cL_keep 9 = .ok (.goto 6, 3) := by decide +kernel
theorem dL_keep_12 : decode cL_keep 12 = .ok (.astore_n 3, 1) := by decide +kernel
theorem dL_keep_13 : decode cL_keep 13 = .ok (.iconst 1, 1) := by decide +kernel
theorem dL_keep_14 : decode cL_keep 14 = .ok (.ireturn, 1) := by decide +kernel
theorem dL_keep_15 : decode cL_keep 15 = .ok (.iconst 0, 1) := by decide +kernel
theorem dL_keep_16 : decode cL_keep 16 = .ok (.ireturn, 1) := by decide +kernel
theorem dL_goBack_0 : decode cL_goBack 0 = .ok (.aload_n 2, 1) := by decide +kernel
theorem dL_goBack_1 : decode cL_goBack 1 = .ok (.iconst 0, 1) := by decide +kernel
theorem dL_goBack_2 : decode cL_goBack 2 = .ok (.aload_n 0, 1) := by decide +kernel
theorem dL_goBack_3 : decode cL_goBack 3 = .ok (.iload_n 1, 1) := by decide +kernel
theorem dL_goBack_4 : decode cL_goBack 4 = .ok (.invokevirtual 49, 3) := by decide +kernel
theorem dL_goBack_7 : decode cL_goBack 7 = .ok (.i2l, 1) := by decide +kernel
theorem dL_goBack_8 : decode cL_goBack 8 = .ok (.lastore, 1) := by decide +kernel
theorem dL_goBack_9 : decode cL_goBack 9 = .ok (.goto 9, 3) := by decide +kernel
theorem dL_goBack_12 : decode cL_goBack 12 = .ok (.astore_n 3, 1) := by decide +kernel
theorem dL_goBack_13 : decode cL_goBack 13 = .ok (.iconst 1, 1) := by decide +kernel
theorem dL_goBack_14 : decode cL_goBack 14 = .ok (.ireturn, 1) := by decide +kernel
theorem dL_goBack_15 : decode cL_goBack 15 = .ok (.astore_n 3, 1) := by decide +kernel
theorem dL_goBack_16 : decode cL_goBack 16 = .ok (.iconst 2, 1) := by decide +kernel
theorem dL_goBack_17 : decode cL_goBack 17 = .ok (.ireturn, 1) := by decide +kernel
theorem dL_goBack_18 : decode cL_goBack 18 = .ok (.iconst 0, 1) := by decide +kernel
theorem dL_goBack_19 : decode cL_goBack 19 = .ok (.ireturn, 1) := by decide +kernel
theorem dL_undo_0 : decode cL_undo 0 = .ok (.aload_n 1, 1) := by decide +kernel
theorem dL_undo_1 : decode cL_undo 1 = .ok (.iconst 0, 1) := by decide +kernel
theorem dL_undo_2 : decode cL_undo 2 = .ok (.aload_n 0, 1) := by decide +kernel
theorem dL_undo_3 : decode cL_undo 3 = .ok (.invokevirtual 52, 3) := by decide +kernel
theorem dL_undo_6 : decode cL_undo 6 = .ok (.i2l, 1) := by decide +kernel
theorem dL_undo_7 : decode cL_undo 7 = .ok (.lastore, 1) := by decide +kernel
theorem dL_undo_8 : decode cL_undo 8 = .ok (.goto 6, 3) := by decide +kernel
theorem dL_undo_11 : decode cL_undo 11 = .ok (.astore_n 2, 1) := by decide +kernel
theorem dL_undo_12 : decode cL_undo 12 = .ok (.iconst 1, 1) := by decide +kernel
theorem dL_undo_13 : decode cL_undo 13 = .ok (.ireturn, 1) := by decide +kernel
theorem dL_undo_14 : decode cL_undo 14 = .ok (.iconst 0, 1) := by decide +kernel
theorem dL_undo_15 : decode cL_undo 15 = .ok (.ireturn, 1) := by decide +kernel
theorem dL_hourOf_0 : decode cL_hourOf 0 = .ok (.aload_n 3, 1) := by decide +kernel
theorem dL_hourOf_1 : decode cL_hourOf 1 = .ok (.iconst 0, 1) := by decide +kernel
theorem dL_hourOf_2 : decode cL_hourOf 2 = .ok (.aload_n 0, 1) := by decide +kernel
theorem dL_hourOf_3 : decode cL_hourOf 3 = .ok (.iload_n 1, 1) := by decide +kernel
theorem dL_hourOf_4 : decode cL_hourOf 4 = .ok (.iload_n 2, 1) := by decide +kernel
theorem dL_hourOf_5 : decode cL_hourOf 5 = .ok (.invokevirtual 55, 3) := by decide +kernel
theorem dL_hourOf_8 : decode cL_hourOf 8 = .ok (.i2l, 1) := by decide +kernel
theorem dL_hourOf_9 : decode cL_hourOf 9 = .ok (.lastore, 1) := by decide +kernel
theorem dL_hourOf_10 : decode cL_hourOf 10 = .ok (.goto 11, 3) := by decide +kernel
theorem dL_hourOf_13 : decode cL_hourOf 13 = .ok (.astore 4, 2) := by decide +kernel
theorem dL_hourOf_15 : decode cL_hourOf 15 = .ok (.iconst 1, 1) := by decide +kernel
theorem dL_hourOf_16 : decode cL_hourOf 16 = .ok (.ireturn, 1) := by decide +kernel
theorem dL_hourOf_17 : decode cL_hourOf 17 = .ok (.astore 4, 2) := by decide +kernel
theorem dL_hourOf_19 : decode cL_hourOf 19 = .ok (.iconst 2, 1) := by decide +kernel
theorem dL_hourOf_20 : decode cL_hourOf 20 = .ok (.ireturn, 1) := by decide +kernel
theorem dL_hourOf_21 : decode cL_hourOf 21 = .ok (.iconst 0, 1) := by decide +kernel
theorem dL_hourOf_22 : decode cL_hourOf 22 = .ok (.ireturn, 1) := by decide +kernel
theorem dL_vaneOf_0 : decode cL_vaneOf 0 = .ok (.aload_n 3, 1) := by decide +kernel
theorem dL_vaneOf_1 : decode cL_vaneOf 1 = .ok (.iconst 0, 1) := by decide +kernel
theorem dL_vaneOf_2 : decode cL_vaneOf 2 = .ok (.aload_n 0, 1) := by decide +kernel
theorem dL_vaneOf_3 : decode cL_vaneOf 3 = .ok (.iload_n 1, 1) := by decide +kernel
theorem dL_vaneOf_4 : decode cL_vaneOf 4 = .ok (.iload_n 2, 1) := by decide +kernel
theorem dL_vaneOf_5 : decode cL_vaneOf 5 = .ok (.invokevirtual 58, 3) := by decide +kernel
theorem dL_vaneOf_8 : decode cL_vaneOf 8 = .ok (.i2l, 1) := by decide +kernel
theorem dL_vaneOf_9 : decode cL_vaneOf 9 = .ok (.lastore, 1) := by decide +kernel
theorem dL_vaneOf_10 : decode cL_vaneOf 10 = .ok (.goto 11, 3) := by decide +kernel
theorem dL_vaneOf_13 : decode cL_vaneOf 13 = .ok (.astore 4, 2) := by decide +kernel
theorem dL_vaneOf_15 : decode cL_vaneOf 15 = .ok (.iconst 1, 1) := by decide +kernel
theorem dL_vaneOf_16 : decode cL_vaneOf 16 = .ok (.ireturn, 1) := by decide +kernel
theorem dL_vaneOf_17 : decode cL_vaneOf 17 = .ok (.astore 4, 2) := by decide +kernel
theorem dL_vaneOf_19 : decode cL_vaneOf 19 = .ok (.iconst 2, 1) := by decide +kernel
theorem dL_vaneOf_20 : decode cL_vaneOf 20 = .ok (.ireturn, 1) := by decide +kernel
theorem dL_vaneOf_21 : decode cL_vaneOf 21 = .ok (.iconst 0, 1) := by decide +kernel
theorem dL_vaneOf_22 : decode cL_vaneOf 22 = .ok (.ireturn, 1) := by decide +kernel
theorem dL_millOf_0 : decode cL_millOf 0 = .ok (.aload_n 3, 1) := by decide +kernel
theorem dL_millOf_1 : decode cL_millOf 1 = .ok (.iconst 0, 1) := by decide +kernel
theorem dL_millOf_2 : decode cL_millOf 2 = .ok (.aload_n 0, 1) := by decide +kernel
theorem dL_millOf_3 : decode cL_millOf 3 = .ok (.iload_n 1, 1) := by decide +kernel
theorem dL_millOf_4 : decode cL_millOf 4 = .ok (.iload_n 2, 1) := by decide +kernel
theorem dL_millOf_5 : decode cL_millOf 5 = .ok (.invokevirtual 61, 3) := by decide +kernel
theorem dL_millOf_8 : decode cL_millOf 8 = .ok (.i2l, 1) := by decide +kernel
theorem dL_millOf_9 : decode cL_millOf 9 = .ok (.lastore, 1) := by decide +kernel
theorem dL_millOf_10 : decode cL_millOf 10 = .ok (.goto 11, 3) := by decide +kernel
theorem dL_millOf_13 : decode cL_millOf 13 = .ok (.astore 4, 2) := by decide +kernel
theorem dL_millOf_15 : decode cL_millOf 15 = .ok (.iconst 1, 1) := by decide +kernel
theorem dL_millOf_16 : decode cL_millOf 16 = .ok (.ireturn, 1) := by decide +kernel
theorem dL_millOf_17 : decode cL_millOf 17 = .ok (.astore 4, 2) := by decide +kernel
theorem dL_millOf_19 : decode cL_millOf 19 = .ok (.iconst 2, 1) := by decide +kernel
theorem dL_millOf_20 : decode cL_millOf 20 = .ok (.ireturn, 1) := by decide +kernel
theorem dL_millOf_21 : decode cL_millOf 21 = .ok (.iconst 0, 1) := by decide +kernel
theorem dL_millOf_22 : decode cL_millOf 22 = .ok (.ireturn, 1) := by decide +kernel
theorem dL_ownerOf_0 : decode cL_ownerOf 0 = .ok (.aload_n 3, 1) := by decide +kernel
theorem dL_ownerOf_1 : decode cL_ownerOf 1 = .ok (.iconst 0, 1) := by decide +kernel
theorem dL_ownerOf_2 : decode cL_ownerOf 2 = .ok (.aload_n 0, 1) := by decide +kernel
theorem dL_ownerOf_3 : decode cL_ownerOf 3 = .ok (.iload_n 1, 1) := by decide +kernel
theorem dL_ownerOf_4 : decode cL_ownerOf 4 = .ok (.iload_n 2, 1) := by decide +kernel
theorem dL_ownerOf_5 : decode cL_ownerOf 5 = .ok (.invokevirtual 64, 3) := by decide +kernel
theorem dL_ownerOf_8 : decode cL_ownerOf 8 = .ok (.i2l, 1) := by decide +kernel
theorem dL_ownerOf_9 : decode cL_ownerOf 9 = .ok (.lastore, 1) := by decide +kernel
theorem dL_ownerOf_10 : decode cL_ownerOf 10 = .ok (.goto 11, 3) := by decide +kernel
theorem dL_ownerOf_13 : decode cL_ownerOf 13 = .ok (.astore 4, 2) := by decide +kernel
theorem dL_ownerOf_15 : decode cL_ownerOf 15 = .ok (.iconst 1, 1) := by decide +kernel
theorem dL_ownerOf_16 : decode cL_ownerOf 16 = .ok (.ireturn, 1) := by decide +kernel
theorem dL_ownerOf_17 : decode cL_ownerOf 17 = .ok (.astore 4, 2) := by decide +kernel
theorem dL_ownerOf_19 : decode cL_ownerOf 19 = .ok (.iconst 2, 1) := by decide +kernel
theorem dL_ownerOf_20 : decode cL_ownerOf 20 = .ok (.ireturn, 1) := by decide +kernel
theorem dL_ownerOf_21 : decode cL_ownerOf 21 = .ok (.iconst 0, 1) := by decide +kernel
theorem dL_ownerOf_22 : decode cL_ownerOf 22 = .ok (.ireturn, 1) := by decide +kernel
theorem dL_count_0 : decode cL_count 0 = .ok (.aload_n 2, 1) := by decide +kernel
theorem dL_count_1 : decode cL_count 1 = .ok (.iconst 0, 1) := by decide +kernel
theorem dL_count_2 : decode cL_count 2 = .ok (.aload_n 0, 1) := by decide +kernel
theorem dL_count_3 : decode cL_count 3 = .ok (.iload_n 1, 1) := by decide +kernel
theorem dL_count_4 : decode cL_count 4 = .ok (.invokevirtual 67, 3) := by decide +kernel
theorem dL_count_7 : decode cL_count 7 = .ok (.i2l, 1) := by decide +kernel
theorem dL_count_8 : decode cL_count 8 = .ok (.lastore, 1) := by decide +kernel
theorem dL_count_9 : decode cL_count 9 = .ok (.goto 6, 3) := by decide +kernel
theorem dL_count_12 : decode cL_count 12 = .ok (.astore_n 3, 1) := by decide +kernel
theorem dL_count_13 : decode cL_count 13 = .ok (.iconst 1, 1) := by decide +kernel
theorem dL_count_14 : decode cL_count 14 = .ok (.ireturn, 1) := by decide +kernel
theorem dL_count_15 : decode cL_count 15 = .ok (.iconst 0, 1) := by decide +kernel
theorem dL_count_16 : decode cL_count 16 = .ok (.ireturn, 1) := by decide +kernel
theorem dL_setting_0 : decode cL_setting 0 = .ok (.aload_n 2, 1) := by decide +kernel
theorem dL_setting_1 : decode cL_setting 1 = .ok (.iconst 0, 1) := by decide +kernel
theorem dL_setting_2 : decode cL_setting 2 = .ok (.aload_n 0, 1) := by decide +kernel
theorem dL_setting_3 : decode cL_setting 3 = .ok (.iload_n 1, 1) := by decide +kernel
theorem dL_setting_4 : decode cL_setting 4 = .ok (.invokevirtual 70, 3) := by decide +kernel
theorem dL_setting_7 : decode cL_setting 7 = .ok (.i2l, 1) := by decide +kernel
theorem dL_setting_8 : decode cL_setting 8 = .ok (.lastore, 1) := by decide +kernel
theorem dL_setting_9 : decode cL_setting 9 = .ok (.goto 6, 3) := by decide +kernel
theorem dL_setting_12 : decode cL_setting 12 = .ok (.astore_n 3, 1) := by decide +kernel
theorem dL_setting_13 : decode cL_setting 13 = .ok (.iconst 1, 1) := by decide +kernel
theorem dL_setting_14 : decode cL_setting 14 = .ok (.ireturn, 1) := by decide +kernel
theorem dL_setting_15 : decode cL_setting 15 = .ok (.iconst 0, 1) := by decide +kernel
theorem dL_setting_16 : decode cL_setting 16 = .ok (.ireturn, 1) := by decide +kernel
theorem dL_doneIn_0 : decode cL_doneIn 0 = .ok (.aload_n 3, 1) := by decide +kernel
theorem dL_doneIn_1 : decode cL_doneIn 1 = .ok (.iconst 0, 1) := by decide +kernel
theorem dL_doneIn_2 : decode cL_doneIn 2 = .ok (.aload_n 0, 1) := by decide +kernel
theorem dL_doneIn_3 : decode cL_doneIn 3 = .ok (.iload_n 1, 1) := by decide +kernel
theorem dL_doneIn_4 : decode cL_doneIn 4 = .ok (.iload_n 2, 1) := by decide +kernel
theorem dL_doneIn_5 : decode cL_doneIn 5 = .ok (.invokevirtual 73, 3) := by decide +kernel
theorem dL_doneIn_8 : decode cL_doneIn 8 = .ok (.i2l, 1) := by decide +kernel
theorem dL_doneIn_9 : decode cL_doneIn 9 = .ok (.lastore, 1) := by decide +kernel
theorem dL_doneIn_10 : decode cL_doneIn 10 = .ok (.goto 11, 3) := by decide +kernel
theorem dL_doneIn_13 : decode cL_doneIn 13 = .ok (.astore 4, 2) := by decide +kernel
theorem dL_doneIn_15 : decode cL_doneIn 15 = .ok (.iconst 1, 1) := by decide +kernel
theorem dL_doneIn_16 : decode cL_doneIn 16 = .ok (.ireturn, 1) := by decide +kernel
theorem dL_doneIn_17 : decode cL_doneIn 17 = .ok (.astore 4, 2) := by decide +kernel
theorem dL_doneIn_19 : decode cL_doneIn 19 = .ok (.iconst 2, 1) := by decide +kernel
theorem dL_doneIn_20 : decode cL_doneIn 20 = .ok (.ireturn, 1) := by decide +kernel
theorem dL_doneIn_21 : decode cL_doneIn 21 = .ok (.iconst 0, 1) := by decide +kernel
theorem dL_doneIn_22 : decode cL_doneIn 22 = .ok (.ireturn, 1) := by decide +kernel
theorem dL_ifPassed_0 : decode cL_ifPassed 0 = .ok (.aload_n 3, 1) := by decide +kernel
theorem dL_ifPassed_1 : decode cL_ifPassed 1 = .ok (.iconst 0, 1) := by decide +kernel
theorem dL_ifPassed_2 : decode cL_ifPassed 2 = .ok (.aload_n 0, 1) := by decide +kernel
theorem dL_ifPassed_3 : decode cL_ifPassed 3 = .ok (.iload_n 1, 1) := by decide +kernel
theorem dL_ifPassed_4 : decode cL_ifPassed 4 = .ok (.iload_n 2, 1) := by decide +kernel
theorem dL_ifPassed_5 : decode cL_ifPassed 5 = .ok (.invokevirtual 76, 3) := by decide +kernel
theorem dL_ifPassed_8 : decode cL_ifPassed 8 = .ok (.i2l, 1) := by decide +kernel
theorem dL_ifPassed_9 : decode cL_ifPassed 9 = .ok (.lastore, 1) := by decide +kernel
theorem dL_ifPassed_10 : decode cL_ifPassed 10 = .ok (.goto 11, 3) := by decide +kernel
theorem dL_ifPassed_13 : decode cL_ifPassed 13 = .ok (.astore 4, 2) := by decide +kernel
theorem dL_ifPassed_15 : decode cL_ifPassed 15 = .ok (.iconst 1, 1) := by decide +kernel
theorem dL_ifPassed_16 : decode cL_ifPassed 16 = .ok (.ireturn, 1) := by decide +kernel
theorem dL_ifPassed_17 : decode cL_ifPassed 17 = .ok (.astore 4, 2) := by decide +kernel
theorem dL_ifPassed_19 : decode cL_ifPassed 19 = .ok (.iconst 2, 1) := by decide +kernel
theorem dL_ifPassed_20 : decode cL_ifPassed 20 = .ok (.ireturn, 1) := by decide +kernel
theorem dL_ifPassed_21 : decode cL_ifPassed 21 = .ok (.iconst 0, 1) := by decide +kernel
theorem dL_ifPassed_22 : decode cL_ifPassed 22 = .ok (.ireturn, 1) := by decide +kernel
theorem dL_law_0 : decode cL_law 0 = .ok (.new 8, 3) := by decide +kernel
theorem dL_law_3 : decode cL_law 3 = .ok (.dup, 1) := by decide +kernel
theorem dL_law_4 : decode cL_law 4 = .ok (.invokespecial 79, 3) := by decide +kernel
theorem dL_law_7 : decode cL_law 7 = .ok (.astore_n 1, 1) := by decide +kernel
theorem dL_law_8 : decode cL_law 8 = .ok (.new 80, 3) := by decide +kernel
theorem dL_law_11 : decode cL_law 11 = .ok (.dup, 1) := by decide +kernel
theorem dL_law_12 : decode cL_law 12 = .ok (.invokespecial 82, 3) := by decide +kernel
theorem dL_law_15 : decode cL_law 15 = .ok (.astore_n 2, 1) := by decide +kernel
theorem dL_law_16 : decode cL_law 16 = .ok (.iconst 1, 1) := by decide +kernel
theorem dL_law_17 : decode cL_law 17 = .ok (.newarray .long, 2) := by decide +kernel
theorem dL_law_19 : decode cL_law 19 = .ok (.astore_n 3, 1) := by decide +kernel
theorem dL_law_20 : decode cL_law 20 = .ok (.iconst 0, 1) := by decide +kernel
theorem dL_law_21 : decode cL_law 21 = .ok (.istore 4, 2) := by decide +kernel
theorem dL_law_23 : decode cL_law 23 = .ok (.iload 4, 2) := by decide +kernel
theorem dL_law_25 : decode cL_law 25 = .ok (.aload_n 0, 1) := by decide +kernel
theorem dL_law_26 : decode cL_law 26 = .ok (.arraylength, 1) := by decide +kernel
theorem dL_law_27 : decode cL_law 27 = .ok (.iconst 4, 1) := by decide +kernel
theorem dL_law_28 : decode cL_law 28 = .ok (.isub, 1) := by decide +kernel
theorem dL_law_29 : decode cL_law 29 = .ok (.if_icmp .gt 1504, 3) := by decide +kernel
theorem dL_law_32 : decode cL_law 32 = .ok (.aload_n 0, 1) := by decide +kernel
theorem dL_law_33 : decode cL_law 33 = .ok (.iload 4, 2) := by decide +kernel
theorem dL_law_35 : decode cL_law 35 = .ok (.iaload, 1) := by decide +kernel
theorem dL_law_36 : decode cL_law 36 = .ok (.bipush 31, 2) := by decide +kernel
theorem dL_law_38 : decode cL_law 38 = .ok (.iand, 1) := by decide +kernel
theorem dL_law_39 : decode cL_law 39 = .ok (.tableswitch 1488 0 25 #[117, 197, 277, 345, 413, 493, 549, 605, 661, 674, 687, 731, 787, 843, 887, 955, 1023, 1091, 1159, 1215, 1271, 1339, 1407, 1420, 1433, 1474], 117) := by decide +kernel
theorem dL_law_156 : decode cL_law 156 = .ok (.aload_n 1, 1) := by decide +kernel
theorem dL_law_157 : decode cL_law 157 = .ok (.aload_n 0, 1) := by decide +kernel
theorem dL_law_158 : decode cL_law 158 = .ok (.iload 4, 2) := by decide +kernel
theorem dL_law_160 : decode cL_law 160 = .ok (.iconst 1, 1) := by decide +kernel
theorem dL_law_161 : decode cL_law 161 = .ok (.iadd, 1) := by decide +kernel
theorem dL_law_162 : decode cL_law 162 = .ok (.iaload, 1) := by decide +kernel
theorem dL_law_163 : decode cL_law 163 = .ok (.aload_n 0, 1) := by decide +kernel
theorem dL_law_164 : decode cL_law 164 = .ok (.iload 4, 2) := by decide +kernel
theorem dL_law_166 : decode cL_law 166 = .ok (.iconst 2, 1) := by decide +kernel
theorem dL_law_167 : decode cL_law 167 = .ok (.iadd, 1) := by decide +kernel
theorem dL_law_168 : decode cL_law 168 = .ok (.iaload, 1) := by decide +kernel
theorem dL_law_169 : decode cL_law 169 = .ok (.aload_n 0, 1) := by decide +kernel
theorem dL_law_170 : decode cL_law 170 = .ok (.iload 4, 2) := by decide +kernel
theorem dL_law_172 : decode cL_law 172 = .ok (.iconst 3, 1) := by decide +kernel
theorem dL_law_173 : decode cL_law 173 = .ok (.iadd, 1) := by decide +kernel
theorem dL_law_174 : decode cL_law 174 = .ok (.iaload, 1) := by decide +kernel
theorem dL_law_175 : decode cL_law 175 = .ok (.aload_n 3, 1) := by decide +kernel
theorem dL_law_176 : decode cL_law 176 = .ok (.invokestatic 83, 3) := by decide +kernel
theorem dL_law_179 : decode cL_law 179 = .ok (.istore 5, 2) := by decide +kernel
theorem dL_law_181 : decode cL_law 181 = .ok (.aload_n 2, 1) := by decide +kernel
theorem dL_law_182 : decode cL_law 182 = .ok (.aload_n 0, 1) := by decide +kernel
theorem dL_law_183 : decode cL_law 183 = .ok (.iload 4, 2) := by decide +kernel
theorem dL_law_185 : decode cL_law 185 = .ok (.iconst 1, 1) := by decide +kernel
theorem dL_law_186 : decode cL_law 186 = .ok (.iadd, 1) := by decide +kernel
theorem dL_law_187 : decode cL_law 187 = .ok (.iaload, 1) := by decide +kernel
theorem dL_law_188 : decode cL_law 188 = .ok (.aload_n 0, 1) := by decide +kernel
theorem dL_law_189 : decode cL_law 189 = .ok (.iload 4, 2) := by decide +kernel
theorem dL_law_191 : decode cL_law 191 = .ok (.iconst 2, 1) := by decide +kernel
theorem dL_law_192 : decode cL_law 192 = .ok (.iadd, 1) := by decide +kernel
theorem dL_law_193 : decode cL_law 193 = .ok (.iaload, 1) := by decide +kernel
theorem dL_law_194 : decode cL_law 194 = .ok (.aload_n 0, 1) := by decide +kernel
theorem dL_law_195 : decode cL_law 195 = .ok (.iload 4, 2) := by decide +kernel
theorem dL_law_197 : decode cL_law 197 = .ok (.iconst 3, 1) := by decide +kernel
theorem dL_law_198 : decode cL_law 198 = .ok (.iadd, 1) := by decide +kernel
theorem dL_law_199 : decode cL_law 199 = .ok (.iaload, 1) := by decide +kernel
theorem dL_law_200 : decode cL_law 200 = .ok (.invokevirtual 88, 3) := by decide +kernel
theorem dL_law_203 : decode cL_law 203 = .ok (.istore 6, 2) := by decide +kernel
theorem dL_law_205 : decode cL_law 205 = .ok (.aload_n 2, 1) := by decide +kernel
theorem dL_law_206 : decode cL_law 206 = .ok (.invokevirtual 89, 3) := by decide +kernel
theorem dL_law_209 : decode cL_law 209 = .ok (.iload 5, 2) := by decide +kernel
theorem dL_law_211 : decode cL_law 211 = .ok (.if_icmp .eq 5, 3) := by decide +kernel
theorem dL_law_214 : decode cL_law 214 = .ok (.iconst 0, 1) := by decide +kernel
theorem dL_law_215 : decode cL_law 215 = .ok (.ireturn, 1) := by decide +kernel
theorem dL_law_216 : decode cL_law 216 = .ok (.iload 5, 2) := by decide +kernel
theorem dL_law_218 : decode cL_law 218 = .ok (.ifCond .ne 15, 3) := by decide +kernel
theorem dL_law_221 : decode cL_law 221 = .ok (.aload_n 3, 1) := by decide +kernel
theorem dL_law_222 : decode cL_law 222 = .ok (.iconst 0, 1) := by decide +kernel
theorem dL_law_223 : decode cL_law 223 = .ok (.laload, 1) := by decide +kernel
theorem dL_law_224 : decode cL_law 224 = .ok (.iload 6, 2) := by decide +kernel
theorem dL_law_226 : decode cL_law 226 = .ok (.i2l, 1) := by decide +kernel
theorem dL_law_227 : decode cL_law 227 = .ok (.lcmp, 1) := by decide +kernel
theorem dL_law_228 : decode cL_law 228 = .ok (.ifCond .eq 5, 3) := by decide +kernel
theorem dL_law_231 : decode cL_law 231 = .ok (.iconst 0, 1) := by decide +kernel
theorem dL_law_232 : decode cL_law 232 = .ok (.ireturn, 1) := by decide +kernel
theorem dL_law_233 : decode cL_law 233 = .ok (.goto 1294, 3) := by decide +kernel
theorem dL_law_236 : decode cL_law 236 = .ok (.aload_n 1, 1) := by decide +kernel
theorem dL_law_237 : decode cL_law 237 = .ok (.aload_n 0, 1) := by decide +kernel
theorem dL_law_238 : decode cL_law 238 = .ok (.iload 4, 2) := by decide +kernel
theorem dL_law_240 : decode cL_law 240 = .ok (.iconst 1, 1) := by decide +kernel
theorem dL_law_241 : decode cL_law 241 = .ok (.iadd, 1) := by decide +kernel
theorem dL_law_242 : decode cL_law 242 = .ok (.iaload, 1) := by decide +kernel
theorem dL_law_243 : decode cL_law 243 = .ok (.aload_n 0, 1) := by decide +kernel
theorem dL_law_244 : decode cL_law 244 = .ok (.iload 4, 2) := by decide +kernel
theorem dL_law_246 : decode cL_law 246 = .ok (.iconst 2, 1) := by decide +kernel
theorem dL_law_247 : decode cL_law 247 = .ok (.iadd, 1) := by decide +kernel
theorem dL_law_248 : decode cL_law 248 = .ok (.iaload, 1) := by decide +kernel
theorem dL_law_249 : decode cL_law 249 = .ok (.aload_n 0, 1) := by decide +kernel
theorem dL_law_250 : decode cL_law 250 = .ok (.iload 4, 2) := by decide +kernel
theorem dL_law_252 : decode cL_law 252 = .ok (.iconst 3, 1) := by decide +kernel
theorem dL_law_253 : decode cL_law 253 = .ok (.iadd, 1) := by decide +kernel
theorem dL_law_254 : decode cL_law 254 = .ok (.iaload, 1) := by decide +kernel
theorem dL_law_255 : decode cL_law 255 = .ok (.aload_n 3, 1) := by decide +kernel
theorem dL_law_256 : decode cL_law 256 = .ok (.invokestatic 92, 3) := by decide +kernel
theorem dL_law_259 : decode cL_law 259 = .ok (.istore 5, 2) := by decide +kernel
theorem dL_law_261 : decode cL_law 261 = .ok (.aload_n 2, 1) := by decide +kernel
theorem dL_law_262 : decode cL_law 262 = .ok (.aload_n 0, 1) := by decide +kernel
theorem dL_law_263 : decode cL_law 263 = .ok (.iload 4, 2) := by decide +kernel
theorem dL_law_265 : decode cL_law 265 = .ok (.iconst 1, 1) := by decide +kernel
theorem dL_law_266 : decode cL_law 266 = .ok (.iadd, 1) := by decide +kernel
theorem dL_law_267 : decode cL_law 267 = .ok (.iaload, 1) := by decide +kernel
theorem dL_law_268 : decode cL_law 268 = .ok (.aload_n 0, 1) := by decide +kernel
theorem dL_law_269 : decode cL_law 269 = .ok (.iload 4, 2) := by decide +kernel
theorem dL_law_271 : decode cL_law 271 = .ok (.iconst 2, 1) := by decide +kernel
theorem dL_law_272 : decode cL_law 272 = .ok (.iadd, 1) := by decide +kernel
theorem dL_law_273 : decode cL_law 273 = .ok (.iaload, 1) := by decide +kernel
theorem dL_law_274 : decode cL_law 274 = .ok (.aload_n 0, 1) := by decide +kernel
theorem dL_law_275 : decode cL_law 275 = .ok (.iload 4, 2) := by decide +kernel
theorem dL_law_277 : decode cL_law 277 = .ok (.iconst 3, 1) := by decide +kernel
theorem dL_law_278 : decode cL_law 278 = .ok (.iadd, 1) := by decide +kernel
theorem dL_law_279 : decode cL_law 279 = .ok (.iaload, 1) := by decide +kernel
theorem dL_law_280 : decode cL_law 280 = .ok (.invokevirtual 94, 3) := by decide +kernel
theorem dL_law_283 : decode cL_law 283 = .ok (.istore 6, 2) := by decide +kernel
theorem dL_law_285 : decode cL_law 285 = .ok (.aload_n 2, 1) := by decide +kernel
theorem dL_law_286 : decode cL_law 286 = .ok (.invokevirtual 89, 3) := by decide +kernel
theorem dL_law_289 : decode cL_law 289 = .ok (.iload 5, 2) := by decide +kernel
theorem dL_law_291 : decode cL_law 291 = .ok (.if_icmp .eq 5, 3) := by decide +kernel
theorem dL_law_294 : decode cL_law 294 = .ok (.iconst 0, 1) := by decide +kernel
theorem dL_law_295 : decode cL_law 295 = .ok (.ireturn, 1) := by decide +kernel
theorem dL_law_296 : decode cL_law 296 = .ok (.iload 5, 2) := by decide +kernel
theorem dL_law_298 : decode cL_law 298 = .ok (.ifCond .ne 15, 3) := by decide +kernel
theorem dL_law_301 : decode cL_law 301 = .ok (.aload_n 3, 1) := by decide +kernel
theorem dL_law_302 : decode cL_law 302 = .ok (.iconst 0, 1) := by decide +kernel
theorem dL_law_303 : decode cL_law 303 = .ok (.laload, 1) := by decide +kernel
theorem dL_law_304 : decode cL_law 304 = .ok (.iload 6, 2) := by decide +kernel
theorem dL_law_306 : decode cL_law 306 = .ok (.i2l, 1) := by decide +kernel
theorem dL_law_307 : decode cL_law 307 = .ok (.lcmp, 1) := by decide +kernel
theorem dL_law_308 : decode cL_law 308 = .ok (.ifCond .eq 5, 3) := by decide +kernel
theorem dL_law_311 : decode cL_law 311 = .ok (.iconst 0, 1) := by decide +kernel
theorem dL_law_312 : decode cL_law 312 = .ok (.ireturn, 1) := by decide +kernel
theorem dL_law_313 : decode cL_law 313 = .ok (.goto 1214, 3) := by decide +kernel
theorem dL_law_316 : decode cL_law 316 = .ok (.aload_n 1, 1) := by decide +kernel
theorem dL_law_317 : decode cL_law 317 = .ok (.aload_n 0, 1) := by decide +kernel
theorem dL_law_318 : decode cL_law 318 = .ok (.iload 4, 2) := by decide +kernel
theorem dL_law_320 : decode cL_law 320 = .ok (.iconst 1, 1) := by decide +kernel
theorem dL_law_321 : decode cL_law 321 = .ok (.iadd, 1) := by decide +kernel
theorem dL_law_322 : decode cL_law 322 = .ok (.iaload, 1) := by decide +kernel
theorem dL_law_323 : decode cL_law 323 = .ok (.aload_n 0, 1) := by decide +kernel
theorem dL_law_324 : decode cL_law 324 = .ok (.iload 4, 2) := by decide +kernel
theorem dL_law_326 : decode cL_law 326 = .ok (.iconst 2, 1) := by decide +kernel
theorem dL_law_327 : decode cL_law 327 = .ok (.iadd, 1) := by decide +kernel
theorem dL_law_328 : decode cL_law 328 = .ok (.iaload, 1) := by decide +kernel
theorem dL_law_329 : decode cL_law 329 = .ok (.aload_n 3, 1) := by decide +kernel
theorem dL_law_330 : decode cL_law 330 = .ok (.invokestatic 95, 3) := by decide +kernel
theorem dL_law_333 : decode cL_law 333 = .ok (.istore 5, 2) := by decide +kernel
theorem dL_law_335 : decode cL_law 335 = .ok (.aload_n 2, 1) := by decide +kernel
theorem dL_law_336 : decode cL_law 336 = .ok (.aload_n 0, 1) := by decide +kernel
theorem dL_law_337 : decode cL_law 337 = .ok (.iload 4, 2) := by decide +kernel
theorem dL_law_339 : decode cL_law 339 = .ok (.iconst 1, 1) := by decide +kernel
theorem dL_law_340 : decode cL_law 340 = .ok (.iadd, 1) := by decide +kernel
theorem dL_law_341 : decode cL_law 341 = .ok (.iaload, 1) := by decide +kernel
theorem dL_law_342 : decode cL_law 342 = .ok (.aload_n 0, 1) := by decide +kernel
theorem dL_law_343 : decode cL_law 343 = .ok (.iload 4, 2) := by decide +kernel
theorem dL_law_345 : decode cL_law 345 = .ok (.iconst 2, 1) := by decide +kernel
theorem dL_law_346 : decode cL_law 346 = .ok (.iadd, 1) := by decide +kernel
theorem dL_law_347 : decode cL_law 347 = .ok (.iaload, 1) := by decide +kernel
theorem dL_law_348 : decode cL_law 348 = .ok (.invokevirtual 98, 3) := by decide +kernel
theorem dL_law_351 : decode cL_law 351 = .ok (.istore 6, 2) := by decide +kernel
theorem dL_law_353 : decode cL_law 353 = .ok (.aload_n 2, 1) := by decide +kernel
theorem dL_law_354 : decode cL_law 354 = .ok (.invokevirtual 89, 3) := by decide +kernel
theorem dL_law_357 : decode cL_law 357 = .ok (.iload 5, 2) := by decide +kernel
theorem dL_law_359 : decode cL_law 359 = .ok (.if_icmp .eq 5, 3) := by decide +kernel
theorem dL_law_362 : decode cL_law 362 = .ok (.iconst 0, 1) := by decide +kernel
theorem dL_law_363 : decode cL_law 363 = .ok (.ireturn, 1) := by decide +kernel
theorem dL_law_364 : decode cL_law 364 = .ok (.iload 5, 2) := by decide +kernel
theorem dL_law_366 : decode cL_law 366 = .ok (.ifCond .ne 15, 3) := by decide +kernel
theorem dL_law_369 : decode cL_law 369 = .ok (.aload_n 3, 1) := by decide +kernel
theorem dL_law_370 : decode cL_law 370 = .ok (.iconst 0, 1) := by decide +kernel
theorem dL_law_371 : decode cL_law 371 = .ok (.laload, 1) := by decide +kernel
theorem dL_law_372 : decode cL_law 372 = .ok (.iload 6, 2) := by decide +kernel
theorem dL_law_374 : decode cL_law 374 = .ok (.i2l, 1) := by decide +kernel
theorem dL_law_375 : decode cL_law 375 = .ok (.lcmp, 1) := by decide +kernel
theorem dL_law_376 : decode cL_law 376 = .ok (.ifCond .eq 5, 3) := by decide +kernel
theorem dL_law_379 : decode cL_law 379 = .ok (.iconst 0, 1) := by decide +kernel
theorem dL_law_380 : decode cL_law 380 = .ok (.ireturn, 1) := by decide +kernel
theorem dL_law_381 : decode cL_law 381 = .ok (.goto 1146, 3) := by decide +kernel
theorem dL_law_384 : decode cL_law 384 = .ok (.aload_n 1, 1) := by decide +kernel
theorem dL_law_385 : decode cL_law 385 = .ok (.aload_n 0, 1) := by decide +kernel
theorem dL_law_386 : decode cL_law 386 = .ok (.iload 4, 2) := by decide +kernel
theorem dL_law_388 : decode cL_law 388 = .ok (.iconst 1, 1) := by decide +kernel
theorem dL_law_389 : decode cL_law 389 = .ok (.iadd, 1) := by decide +kernel
theorem dL_law_390 : decode cL_law 390 = .ok (.iaload, 1) := by decide +kernel
theorem dL_law_391 : decode cL_law 391 = .ok (.aload_n 0, 1) := by decide +kernel
theorem dL_law_392 : decode cL_law 392 = .ok (.iload 4, 2) := by decide +kernel
theorem dL_law_394 : decode cL_law 394 = .ok (.iconst 2, 1) := by decide +kernel
theorem dL_law_395 : decode cL_law 395 = .ok (.iadd, 1) := by decide +kernel
theorem dL_law_396 : decode cL_law 396 = .ok (.iaload, 1) := by decide +kernel
theorem dL_law_397 : decode cL_law 397 = .ok (.aload_n 3, 1) := by decide +kernel
theorem dL_law_398 : decode cL_law 398 = .ok (.invokestatic 99, 3) := by decide +kernel
theorem dL_law_401 : decode cL_law 401 = .ok (.istore 5, 2) := by decide +kernel
theorem dL_law_403 : decode cL_law 403 = .ok (.aload_n 2, 1) := by decide +kernel
theorem dL_law_404 : decode cL_law 404 = .ok (.aload_n 0, 1) := by decide +kernel
theorem dL_law_405 : decode cL_law 405 = .ok (.iload 4, 2) := by decide +kernel
theorem dL_law_407 : decode cL_law 407 = .ok (.iconst 1, 1) := by decide +kernel
theorem dL_law_408 : decode cL_law 408 = .ok (.iadd, 1) := by decide +kernel
theorem dL_law_409 : decode cL_law 409 = .ok (.iaload, 1) := by decide +kernel
theorem dL_law_410 : decode cL_law 410 = .ok (.aload_n 0, 1) := by decide +kernel
theorem dL_law_411 : decode cL_law 411 = .ok (.iload 4, 2) := by decide +kernel
theorem dL_law_413 : decode cL_law 413 = .ok (.iconst 2, 1) := by decide +kernel
theorem dL_law_414 : decode cL_law 414 = .ok (.iadd, 1) := by decide +kernel
theorem dL_law_415 : decode cL_law 415 = .ok (.iaload, 1) := by decide +kernel
theorem dL_law_416 : decode cL_law 416 = .ok (.invokevirtual 101, 3) := by decide +kernel
theorem dL_law_419 : decode cL_law 419 = .ok (.istore 6, 2) := by decide +kernel
theorem dL_law_421 : decode cL_law 421 = .ok (.aload_n 2, 1) := by decide +kernel
theorem dL_law_422 : decode cL_law 422 = .ok (.invokevirtual 89, 3) := by decide +kernel
theorem dL_law_425 : decode cL_law 425 = .ok (.iload 5, 2) := by decide +kernel
theorem dL_law_427 : decode cL_law 427 = .ok (.if_icmp .eq 5, 3) := by decide +kernel
theorem dL_law_430 : decode cL_law 430 = .ok (.iconst 0, 1) := by decide +kernel
theorem dL_law_431 : decode cL_law 431 = .ok (.ireturn, 1) := by decide +kernel
theorem dL_law_432 : decode cL_law 432 = .ok (.iload 5, 2) := by decide +kernel
theorem dL_law_434 : decode cL_law 434 = .ok (.ifCond .ne 15, 3) := by decide +kernel
theorem dL_law_437 : decode cL_law 437 = .ok (.aload_n 3, 1) := by decide +kernel
theorem dL_law_438 : decode cL_law 438 = .ok (.iconst 0, 1) := by decide +kernel
theorem dL_law_439 : decode cL_law 439 = .ok (.laload, 1) := by decide +kernel
theorem dL_law_440 : decode cL_law 440 = .ok (.iload 6, 2) := by decide +kernel
theorem dL_law_442 : decode cL_law 442 = .ok (.i2l, 1) := by decide +kernel
theorem dL_law_443 : decode cL_law 443 = .ok (.lcmp, 1) := by decide +kernel
theorem dL_law_444 : decode cL_law 444 = .ok (.ifCond .eq 5, 3) := by decide +kernel
theorem dL_law_447 : decode cL_law 447 = .ok (.iconst 0, 1) := by decide +kernel
theorem dL_law_448 : decode cL_law 448 = .ok (.ireturn, 1) := by decide +kernel
theorem dL_law_449 : decode cL_law 449 = .ok (.goto 1078, 3) := by decide +kernel
theorem dL_law_452 : decode cL_law 452 = .ok (.aload_n 1, 1) := by decide +kernel
theorem dL_law_453 : decode cL_law 453 = .ok (.aload_n 0, 1) := by decide +kernel
theorem dL_law_454 : decode cL_law 454 = .ok (.iload 4, 2) := by decide +kernel
theorem dL_law_456 : decode cL_law 456 = .ok (.iconst 1, 1) := by decide +kernel
theorem dL_law_457 : decode cL_law 457 = .ok (.iadd, 1) := by decide +kernel
theorem dL_law_458 : decode cL_law 458 = .ok (.iaload, 1) := by decide +kernel
theorem dL_law_459 : decode cL_law 459 = .ok (.aload_n 0, 1) := by decide +kernel
theorem dL_law_460 : decode cL_law 460 = .ok (.iload 4, 2) := by decide +kernel
theorem dL_law_462 : decode cL_law 462 = .ok (.iconst 2, 1) := by decide +kernel
theorem dL_law_463 : decode cL_law 463 = .ok (.iadd, 1) := by decide +kernel
theorem dL_law_464 : decode cL_law 464 = .ok (.iaload, 1) := by decide +kernel
theorem dL_law_465 : decode cL_law 465 = .ok (.aload_n 0, 1) := by decide +kernel
theorem dL_law_466 : decode cL_law 466 = .ok (.iload 4, 2) := by decide +kernel
theorem dL_law_468 : decode cL_law 468 = .ok (.iconst 3, 1) := by decide +kernel
theorem dL_law_469 : decode cL_law 469 = .ok (.iadd, 1) := by decide +kernel
theorem dL_law_470 : decode cL_law 470 = .ok (.iaload, 1) := by decide +kernel
theorem dL_law_471 : decode cL_law 471 = .ok (.aload_n 3, 1) := by decide +kernel
theorem dL_law_472 : decode cL_law 472 = .ok (.invokestatic 102, 3) := by decide +kernel
theorem dL_law_475 : decode cL_law 475 = .ok (.istore 5, 2) := by decide +kernel
theorem dL_law_477 : decode cL_law 477 = .ok (.aload_n 2, 1) := by decide +kernel
theorem dL_law_478 : decode cL_law 478 = .ok (.aload_n 0, 1) := by decide +kernel
theorem dL_law_479 : decode cL_law 479 = .ok (.iload 4, 2) := by decide +kernel
theorem dL_law_481 : decode cL_law 481 = .ok (.iconst 1, 1) := by decide +kernel
theorem dL_law_482 : decode cL_law 482 = .ok (.iadd, 1) := by decide +kernel
theorem dL_law_483 : decode cL_law 483 = .ok (.iaload, 1) := by decide +kernel
theorem dL_law_484 : decode cL_law 484 = .ok (.aload_n 0, 1) := by decide +kernel
theorem dL_law_485 : decode cL_law 485 = .ok (.iload 4, 2) := by decide +kernel
theorem dL_law_487 : decode cL_law 487 = .ok (.iconst 2, 1) := by decide +kernel
theorem dL_law_488 : decode cL_law 488 = .ok (.iadd, 1) := by decide +kernel
theorem dL_law_489 : decode cL_law 489 = .ok (.iaload, 1) := by decide +kernel
theorem dL_law_490 : decode cL_law 490 = .ok (.aload_n 0, 1) := by decide +kernel
theorem dL_law_491 : decode cL_law 491 = .ok (.iload 4, 2) := by decide +kernel
theorem dL_law_493 : decode cL_law 493 = .ok (.iconst 3, 1) := by decide +kernel
theorem dL_law_494 : decode cL_law 494 = .ok (.iadd, 1) := by decide +kernel
theorem dL_law_495 : decode cL_law 495 = .ok (.iaload, 1) := by decide +kernel
theorem dL_law_496 : decode cL_law 496 = .ok (.invokevirtual 104, 3) := by decide +kernel
theorem dL_law_499 : decode cL_law 499 = .ok (.istore 6, 2) := by decide +kernel
theorem dL_law_501 : decode cL_law 501 = .ok (.aload_n 2, 1) := by decide +kernel
theorem dL_law_502 : decode cL_law 502 = .ok (.invokevirtual 89, 3) := by decide +kernel
theorem dL_law_505 : decode cL_law 505 = .ok (.iload 5, 2) := by decide +kernel
theorem dL_law_507 : decode cL_law 507 = .ok (.if_icmp .eq 5, 3) := by decide +kernel
theorem dL_law_510 : decode cL_law 510 = .ok (.iconst 0, 1) := by decide +kernel
theorem dL_law_511 : decode cL_law 511 = .ok (.ireturn, 1) := by decide +kernel
theorem dL_law_512 : decode cL_law 512 = .ok (.iload 5, 2) := by decide +kernel
theorem dL_law_514 : decode cL_law 514 = .ok (.ifCond .ne 15, 3) := by decide +kernel
theorem dL_law_517 : decode cL_law 517 = .ok (.aload_n 3, 1) := by decide +kernel
theorem dL_law_518 : decode cL_law 518 = .ok (.iconst 0, 1) := by decide +kernel
theorem dL_law_519 : decode cL_law 519 = .ok (.laload, 1) := by decide +kernel
theorem dL_law_520 : decode cL_law 520 = .ok (.iload 6, 2) := by decide +kernel
theorem dL_law_522 : decode cL_law 522 = .ok (.i2l, 1) := by decide +kernel
theorem dL_law_523 : decode cL_law 523 = .ok (.lcmp, 1) := by decide +kernel
theorem dL_law_524 : decode cL_law 524 = .ok (.ifCond .eq 5, 3) := by decide +kernel
theorem dL_law_527 : decode cL_law 527 = .ok (.iconst 0, 1) := by decide +kernel
theorem dL_law_528 : decode cL_law 528 = .ok (.ireturn, 1) := by decide +kernel
theorem dL_law_529 : decode cL_law 529 = .ok (.goto 998, 3) := by decide +kernel
theorem dL_law_532 : decode cL_law 532 = .ok (.aload_n 1, 1) := by decide +kernel
theorem dL_law_533 : decode cL_law 533 = .ok (.aload_n 0, 1) := by decide +kernel
theorem dL_law_534 : decode cL_law 534 = .ok (.iload 4, 2) := by decide +kernel
theorem dL_law_536 : decode cL_law 536 = .ok (.iconst 1, 1) := by decide +kernel
theorem dL_law_537 : decode cL_law 537 = .ok (.iadd, 1) := by decide +kernel
theorem dL_law_538 : decode cL_law 538 = .ok (.iaload, 1) := by decide +kernel
theorem dL_law_539 : decode cL_law 539 = .ok (.aload_n 3, 1) := by decide +kernel
theorem dL_law_540 : decode cL_law 540 = .ok (.invokestatic 105, 3) := by decide +kernel
theorem dL_law_543 : decode cL_law 543 = .ok (.istore 5, 2) := by decide +kernel
theorem dL_law_545 : decode cL_law 545 = .ok (.aload_n 2, 1) := by decide +kernel
theorem dL_law_546 : decode cL_law 546 = .ok (.aload_n 0, 1) := by decide +kernel
theorem dL_law_547 : decode cL_law 547 = .ok (.iload 4, 2) := by decide +kernel
theorem dL_law_549 : decode cL_law 549 = .ok (.iconst 1, 1) := by decide +kernel
theorem dL_law_550 : decode cL_law 550 = .ok (.iadd, 1) := by decide +kernel
theorem dL_law_551 : decode cL_law 551 = .ok (.iaload, 1) := by decide +kernel
theorem dL_law_552 : decode cL_law 552 = .ok (.invokevirtual 108, 3) := by decide +kernel
theorem dL_law_555 : decode cL_law 555 = .ok (.istore 6, 2) := by decide +kernel
theorem dL_law_557 : decode cL_law 557 = .ok (.aload_n 2, 1) := by decide +kernel
theorem dL_law_558 : decode cL_law 558 = .ok (.invokevirtual 89, 3) := by decide +kernel
theorem dL_law_561 : decode cL_law 561 = .ok (.iload 5, 2) := by decide +kernel
theorem dL_law_563 : decode cL_law 563 = .ok (.if_icmp .eq 5, 3) := by decide +kernel
theorem dL_law_566 : decode cL_law 566 = .ok (.iconst 0, 1) := by decide +kernel
theorem dL_law_567 : decode cL_law 567 = .ok (.ireturn, 1) := by decide +kernel
theorem dL_law_568 : decode cL_law 568 = .ok (.iload 5, 2) := by decide +kernel
theorem dL_law_570 : decode cL_law 570 = .ok (.ifCond .ne 15, 3) := by decide +kernel
theorem dL_law_573 : decode cL_law 573 = .ok (.aload_n 3, 1) := by decide +kernel
theorem dL_law_574 : decode cL_law 574 = .ok (.iconst 0, 1) := by decide +kernel
theorem dL_law_575 : decode cL_law 575 = .ok (.laload, 1) := by decide +kernel
theorem dL_law_576 : decode cL_law 576 = .ok (.iload 6, 2) := by decide +kernel
theorem dL_law_578 : decode cL_law 578 = .ok (.i2l, 1) := by decide +kernel
theorem dL_law_579 : decode cL_law 579 = .ok (.lcmp, 1) := by decide +kernel
theorem dL_law_580 : decode cL_law 580 = .ok (.ifCond .eq 5, 3) := by decide +kernel
theorem dL_law_583 : decode cL_law 583 = .ok (.iconst 0, 1) := by decide +kernel
theorem dL_law_584 : decode cL_law 584 = .ok (.ireturn, 1) := by decide +kernel
theorem dL_law_585 : decode cL_law 585 = .ok (.goto 942, 3) := by decide +kernel
theorem dL_law_588 : decode cL_law 588 = .ok (.aload_n 1, 1) := by decide +kernel
theorem dL_law_589 : decode cL_law 589 = .ok (.aload_n 0, 1) := by decide +kernel
theorem dL_law_590 : decode cL_law 590 = .ok (.iload 4, 2) := by decide +kernel
theorem dL_law_592 : decode cL_law 592 = .ok (.iconst 1, 1) := by decide +kernel
theorem dL_law_593 : decode cL_law 593 = .ok (.iadd, 1) := by decide +kernel
theorem dL_law_594 : decode cL_law 594 = .ok (.iaload, 1) := by decide +kernel
theorem dL_law_595 : decode cL_law 595 = .ok (.aload_n 3, 1) := by decide +kernel
theorem dL_law_596 : decode cL_law 596 = .ok (.invokestatic 109, 3) := by decide +kernel
theorem dL_law_599 : decode cL_law 599 = .ok (.istore 5, 2) := by decide +kernel
theorem dL_law_601 : decode cL_law 601 = .ok (.aload_n 2, 1) := by decide +kernel
theorem dL_law_602 : decode cL_law 602 = .ok (.aload_n 0, 1) := by decide +kernel
theorem dL_law_603 : decode cL_law 603 = .ok (.iload 4, 2) := by decide +kernel
theorem dL_law_605 : decode cL_law 605 = .ok (.iconst 1, 1) := by decide +kernel
theorem dL_law_606 : decode cL_law 606 = .ok (.iadd, 1) := by decide +kernel
theorem dL_law_607 : decode cL_law 607 = .ok (.iaload, 1) := by decide +kernel
theorem dL_law_608 : decode cL_law 608 = .ok (.invokevirtual 111, 3) := by decide +kernel
theorem dL_law_611 : decode cL_law 611 = .ok (.istore 6, 2) := by decide +kernel
theorem dL_law_613 : decode cL_law 613 = .ok (.aload_n 2, 1) := by decide +kernel
theorem dL_law_614 : decode cL_law 614 = .ok (.invokevirtual 89, 3) := by decide +kernel
theorem dL_law_617 : decode cL_law 617 = .ok (.iload 5, 2) := by decide +kernel
theorem dL_law_619 : decode cL_law 619 = .ok (.if_icmp .eq 5, 3) := by decide +kernel
theorem dL_law_622 : decode cL_law 622 = .ok (.iconst 0, 1) := by decide +kernel
theorem dL_law_623 : decode cL_law 623 = .ok (.ireturn, 1) := by decide +kernel
theorem dL_law_624 : decode cL_law 624 = .ok (.iload 5, 2) := by decide +kernel
theorem dL_law_626 : decode cL_law 626 = .ok (.ifCond .ne 15, 3) := by decide +kernel
theorem dL_law_629 : decode cL_law 629 = .ok (.aload_n 3, 1) := by decide +kernel
theorem dL_law_630 : decode cL_law 630 = .ok (.iconst 0, 1) := by decide +kernel
theorem dL_law_631 : decode cL_law 631 = .ok (.laload, 1) := by decide +kernel
theorem dL_law_632 : decode cL_law 632 = .ok (.iload 6, 2) := by decide +kernel
theorem dL_law_634 : decode cL_law 634 = .ok (.i2l, 1) := by decide +kernel
theorem dL_law_635 : decode cL_law 635 = .ok (.lcmp, 1) := by decide +kernel
theorem dL_law_636 : decode cL_law 636 = .ok (.ifCond .eq 5, 3) := by decide +kernel
theorem dL_law_639 : decode cL_law 639 = .ok (.iconst 0, 1) := by decide +kernel
theorem dL_law_640 : decode cL_law 640 = .ok (.ireturn, 1) := by decide +kernel
theorem dL_law_641 : decode cL_law 641 = .ok (.goto 886, 3) := by decide +kernel
theorem dL_law_644 : decode cL_law 644 = .ok (.aload_n 1, 1) := by decide +kernel
theorem dL_law_645 : decode cL_law 645 = .ok (.aload_n 0, 1) := by decide +kernel
theorem dL_law_646 : decode cL_law 646 = .ok (.iload 4, 2) := by decide +kernel
theorem dL_law_648 : decode cL_law 648 = .ok (.iconst 1, 1) := by decide +kernel
theorem dL_law_649 : decode cL_law 649 = .ok (.iadd, 1) := by decide +kernel
theorem dL_law_650 : decode cL_law 650 = .ok (.iaload, 1) := by decide +kernel
theorem dL_law_651 : decode cL_law 651 = .ok (.aload_n 3, 1) := by decide +kernel
theorem dL_law_652 : decode cL_law 652 = .ok (.invokestatic 112, 3) := by decide +kernel
theorem dL_law_655 : decode cL_law 655 = .ok (.istore 5, 2) := by decide +kernel
theorem dL_law_657 : decode cL_law 657 = .ok (.aload_n 2, 1) := by decide +kernel
theorem dL_law_658 : decode cL_law 658 = .ok (.aload_n 0, 1) := by decide +kernel
theorem dL_law_659 : decode cL_law 659 = .ok (.iload 4, 2) := by decide +kernel
theorem dL_law_661 : decode cL_law 661 = .ok (.iconst 1, 1) := by decide +kernel
theorem dL_law_662 : decode cL_law 662 = .ok (.iadd, 1) := by decide +kernel
theorem dL_law_663 : decode cL_law 663 = .ok (.iaload, 1) := by decide +kernel
theorem dL_law_664 : decode cL_law 664 = .ok (.invokevirtual 114, 3) := by decide +kernel
theorem dL_law_667 : decode cL_law 667 = .ok (.istore 6, 2) := by decide +kernel
theorem dL_law_669 : decode cL_law 669 = .ok (.aload_n 2, 1) := by decide +kernel
theorem dL_law_670 : decode cL_law 670 = .ok (.invokevirtual 89, 3) := by decide +kernel
theorem dL_law_673 : decode cL_law 673 = .ok (.iload 5, 2) := by decide +kernel
theorem dL_law_675 : decode cL_law 675 = .ok (.if_icmp .eq 5, 3) := by decide +kernel
theorem dL_law_678 : decode cL_law 678 = .ok (.iconst 0, 1) := by decide +kernel
theorem dL_law_679 : decode cL_law 679 = .ok (.ireturn, 1) := by decide +kernel
theorem dL_law_680 : decode cL_law 680 = .ok (.iload 5, 2) := by decide +kernel
theorem dL_law_682 : decode cL_law 682 = .ok (.ifCond .ne 15, 3) := by decide +kernel
theorem dL_law_685 : decode cL_law 685 = .ok (.aload_n 3, 1) := by decide +kernel
theorem dL_law_686 : decode cL_law 686 = .ok (.iconst 0, 1) := by decide +kernel
theorem dL_law_687 : decode cL_law 687 = .ok (.laload, 1) := by decide +kernel
theorem dL_law_688 : decode cL_law 688 = .ok (.iload 6, 2) := by decide +kernel
theorem dL_law_690 : decode cL_law 690 = .ok (.i2l, 1) := by decide +kernel
theorem dL_law_691 : decode cL_law 691 = .ok (.lcmp, 1) := by decide +kernel
theorem dL_law_692 : decode cL_law 692 = .ok (.ifCond .eq 5, 3) := by decide +kernel
theorem dL_law_695 : decode cL_law 695 = .ok (.iconst 0, 1) := by decide +kernel
theorem dL_law_696 : decode cL_law 696 = .ok (.ireturn, 1) := by decide +kernel
theorem dL_law_697 : decode cL_law 697 = .ok (.goto 830, 3) := by decide +kernel
theorem dL_law_700 : decode cL_law 700 = .ok (.aload_n 1, 1) := by decide +kernel
theorem dL_law_701 : decode cL_law 701 = .ok (.invokevirtual 115, 3) := by decide +kernel
theorem dL_law_704 : decode cL_law 704 = .ok (.aload_n 2, 1) := by decide +kernel
theorem dL_law_705 : decode cL_law 705 = .ok (.invokevirtual 118, 3) := by decide +kernel
theorem dL_law_708 : decode cL_law 708 = .ok (.if_icmp .eq 819, 3) := by decide +kernel
theorem dL_law_711 : decode cL_law 711 = .ok (.iconst 0, 1) := by decide +kernel
theorem dL_law_712 : decode cL_law 712 = .ok (.ireturn, 1) := by decide +kernel
theorem dL_law_713 : decode cL_law 713 = .ok (.aload_n 1, 1) := by decide +kernel
theorem dL_law_714 : decode cL_law 714 = .ok (.invokevirtual 119, 3) := by decide +kernel
theorem dL_law_717 : decode cL_law 717 = .ok (.aload_n 2, 1) := by decide +kernel
theorem dL_law_718 : decode cL_law 718 = .ok (.invokevirtual 122, 3) := by decide +kernel
theorem dL_law_721 : decode cL_law 721 = .ok (.if_icmp .eq 806, 3) := by decide +kernel
theorem dL_law_724 : decode cL_law 724 = .ok (.iconst 0, 1) := by decide +kernel
theorem dL_law_725 : decode cL_law 725 = .ok (.ireturn, 1) := by decide +kernel
theorem dL_law_726 : decode cL_law 726 = .ok (.aload_n 1, 1) := by decide +kernel
theorem dL_law_727 : decode cL_law 727 = .ok (.aload_n 3, 1) := by decide +kernel
theorem dL_law_728 : decode cL_law 728 = .ok (.invokestatic 123, 3) := by decide +kernel
theorem dL_law_731 : decode cL_law 731 = .ok (.istore 5, 2) := by decide +kernel
theorem dL_law_733 : decode cL_law 733 = .ok (.aload_n 2, 1) := by decide +kernel
theorem dL_law_734 : decode cL_law 734 = .ok (.invokevirtual 126, 3) := by decide +kernel
theorem dL_law_737 : decode cL_law 737 = .ok (.istore 6, 2) := by decide +kernel
theorem dL_law_739 : decode cL_law 739 = .ok (.aload_n 2, 1) := by decide +kernel
theorem dL_law_740 : decode cL_law 740 = .ok (.invokevirtual 89, 3) := by decide +kernel
theorem dL_law_743 : decode cL_law 743 = .ok (.iload 5, 2) := by decide +kernel
theorem dL_law_745 : decode cL_law 745 = .ok (.if_icmp .eq 5, 3) := by decide +kernel
theorem dL_law_748 : decode cL_law 748 = .ok (.iconst 0, 1) := by decide +kernel
theorem dL_law_749 : decode cL_law 749 = .ok (.ireturn, 1) := by decide +kernel
theorem dL_law_750 : decode cL_law 750 = .ok (.iload 5, 2) := by decide +kernel
theorem dL_law_752 : decode cL_law 752 = .ok (.ifCond .ne 15, 3) := by decide +kernel
theorem dL_law_755 : decode cL_law 755 = .ok (.aload_n 3, 1) := by decide +kernel
theorem dL_law_756 : decode cL_law 756 = .ok (.iconst 0, 1) := by decide +kernel
theorem dL_law_757 : decode cL_law 757 = .ok (.laload, 1) := by decide +kernel
theorem dL_law_758 : decode cL_law 758 = .ok (.iload 6, 2) := by decide +kernel
theorem dL_law_760 : decode cL_law 760 = .ok (.i2l, 1) := by decide +kernel
theorem dL_law_761 : decode cL_law 761 = .ok (.lcmp, 1) := by decide +kernel
theorem dL_law_762 : decode cL_law 762 = .ok (.ifCond .eq 5, 3) := by decide +kernel
theorem dL_law_765 : decode cL_law 765 = .ok (.iconst 0, 1) := by decide +kernel
theorem dL_law_766 : decode cL_law 766 = .ok (.ireturn, 1) := by decide +kernel
theorem dL_law_767 : decode cL_law 767 = .ok (.goto 760, 3) := by decide +kernel
theorem dL_law_770 : decode cL_law 770 = .ok (.aload_n 1, 1) := by decide +kernel
theorem dL_law_771 : decode cL_law 771 = .ok (.aload_n 0, 1) := by decide +kernel
theorem dL_law_772 : decode cL_law 772 = .ok (.iload 4, 2) := by decide +kernel
theorem dL_law_774 : decode cL_law 774 = .ok (.iconst 1, 1) := by decide +kernel
theorem dL_law_775 : decode cL_law 775 = .ok (.iadd, 1) := by decide +kernel
theorem dL_law_776 : decode cL_law 776 = .ok (.iaload, 1) := by decide +kernel
theorem dL_law_777 : decode cL_law 777 = .ok (.aload_n 3, 1) := by decide +kernel
theorem dL_law_778 : decode cL_law 778 = .ok (.invokestatic 127, 3) := by decide +kernel
theorem dL_law_781 : decode cL_law 781 = .ok (.istore 5, 2) := by decide +kernel
theorem dL_law_783 : decode cL_law 783 = .ok (.aload_n 2, 1) := by decide +kernel
theorem dL_law_784 : decode cL_law 784 = .ok (.aload_n 0, 1) := by decide +kernel
theorem dL_law_785 : decode cL_law 785 = .ok (.iload 4, 2) := by decide +kernel
theorem dL_law_787 : decode cL_law 787 = .ok (.iconst 1, 1) := by decide +kernel
theorem dL_law_788 : decode cL_law 788 = .ok (.iadd, 1) := by decide +kernel
theorem dL_law_789 : decode cL_law 789 = .ok (.iaload, 1) := by decide +kernel
theorem dL_law_790 : decode cL_law 790 = .ok (.invokevirtual 129, 3) := by decide +kernel
theorem dL_law_793 : decode cL_law 793 = .ok (.istore 6, 2) := by decide +kernel
theorem dL_law_795 : decode cL_law 795 = .ok (.aload_n 2, 1) := by decide +kernel
theorem dL_law_796 : decode cL_law 796 = .ok (.invokevirtual 89, 3) := by decide +kernel
theorem dL_law_799 : decode cL_law 799 = .ok (.iload 5, 2) := by decide +kernel
theorem dL_law_801 : decode cL_law 801 = .ok (.if_icmp .eq 5, 3) := by decide +kernel
theorem dL_law_804 : decode cL_law 804 = .ok (.iconst 0, 1) := by decide +kernel
theorem dL_law_805 : decode cL_law 805 = .ok (.ireturn, 1) := by decide +kernel
theorem dL_law_806 : decode cL_law 806 = .ok (.iload 5, 2) := by decide +kernel
theorem dL_law_808 : decode cL_law 808 = .ok (.ifCond .ne 15, 3) := by decide +kernel
theorem dL_law_811 : decode cL_law 811 = .ok (.aload_n 3, 1) := by decide +kernel
theorem dL_law_812 : decode cL_law 812 = .ok (.iconst 0, 1) := by decide +kernel
theorem dL_law_813 : decode cL_law 813 = .ok (.laload, 1) := by decide +kernel
theorem dL_law_814 : decode cL_law 814 = .ok (.iload 6, 2) := by decide +kernel
theorem dL_law_816 : decode cL_law 816 = .ok (.i2l, 1) := by decide +kernel
theorem dL_law_817 : decode cL_law 817 = .ok (.lcmp, 1) := by decide +kernel
theorem dL_law_818 : decode cL_law 818 = .ok (.ifCond .eq 5, 3) := by decide +kernel
theorem dL_law_821 : decode cL_law 821 = .ok (.iconst 0, 1) := by decide +kernel
theorem dL_law_822 : decode cL_law 822 = .ok (.ireturn, 1) := by decide +kernel
theorem dL_law_823 : decode cL_law 823 = .ok (.goto 704, 3) := by decide +kernel
theorem dL_law_826 : decode cL_law 826 = .ok (.aload_n 1, 1) := by decide +kernel
theorem dL_law_827 : decode cL_law 827 = .ok (.aload_n 0, 1) := by decide +kernel
theorem dL_law_828 : decode cL_law 828 = .ok (.iload 4, 2) := by decide +kernel
theorem dL_law_830 : decode cL_law 830 = .ok (.iconst 1, 1) := by decide +kernel
theorem dL_law_831 : decode cL_law 831 = .ok (.iadd, 1) := by decide +kernel
theorem dL_law_832 : decode cL_law 832 = .ok (.iaload, 1) := by decide +kernel
theorem dL_law_833 : decode cL_law 833 = .ok (.aload_n 3, 1) := by decide +kernel
theorem dL_law_834 : decode cL_law 834 = .ok (.invokestatic 130, 3) := by decide +kernel
theorem dL_law_837 : decode cL_law 837 = .ok (.istore 5, 2) := by decide +kernel
theorem dL_law_839 : decode cL_law 839 = .ok (.aload_n 2, 1) := by decide +kernel
theorem dL_law_840 : decode cL_law 840 = .ok (.aload_n 0, 1) := by decide +kernel
theorem dL_law_841 : decode cL_law 841 = .ok (.iload 4, 2) := by decide +kernel
theorem dL_law_843 : decode cL_law 843 = .ok (.iconst 1, 1) := by decide +kernel
theorem dL_law_844 : decode cL_law 844 = .ok (.iadd, 1) := by decide +kernel
theorem dL_law_845 : decode cL_law 845 = .ok (.iaload, 1) := by decide +kernel
theorem dL_law_846 : decode cL_law 846 = .ok (.invokevirtual 132, 3) := by decide +kernel
theorem dL_law_849 : decode cL_law 849 = .ok (.istore 6, 2) := by decide +kernel
theorem dL_law_851 : decode cL_law 851 = .ok (.aload_n 2, 1) := by decide +kernel
theorem dL_law_852 : decode cL_law 852 = .ok (.invokevirtual 89, 3) := by decide +kernel
theorem dL_law_855 : decode cL_law 855 = .ok (.iload 5, 2) := by decide +kernel
theorem dL_law_857 : decode cL_law 857 = .ok (.if_icmp .eq 5, 3) := by decide +kernel
theorem dL_law_860 : decode cL_law 860 = .ok (.iconst 0, 1) := by decide +kernel
theorem dL_law_861 : decode cL_law 861 = .ok (.ireturn, 1) := by decide +kernel
theorem dL_law_862 : decode cL_law 862 = .ok (.iload 5, 2) := by decide +kernel
theorem dL_law_864 : decode cL_law 864 = .ok (.ifCond .ne 15, 3) := by decide +kernel
theorem dL_law_867 : decode cL_law 867 = .ok (.aload_n 3, 1) := by decide +kernel
theorem dL_law_868 : decode cL_law 868 = .ok (.iconst 0, 1) := by decide +kernel
theorem dL_law_869 : decode cL_law 869 = .ok (.laload, 1) := by decide +kernel
theorem dL_law_870 : decode cL_law 870 = .ok (.iload 6, 2) := by decide +kernel
theorem dL_law_872 : decode cL_law 872 = .ok (.i2l, 1) := by decide +kernel
theorem dL_law_873 : decode cL_law 873 = .ok (.lcmp, 1) := by decide +kernel
theorem dL_law_874 : decode cL_law 874 = .ok (.ifCond .eq 5, 3) := by decide +kernel
theorem dL_law_877 : decode cL_law 877 = .ok (.iconst 0, 1) := by decide +kernel
theorem dL_law_878 : decode cL_law 878 = .ok (.ireturn, 1) := by decide +kernel
theorem dL_law_879 : decode cL_law 879 = .ok (.goto 648, 3) := by decide +kernel
theorem dL_law_882 : decode cL_law 882 = .ok (.aload_n 1, 1) := by decide +kernel
theorem dL_law_883 : decode cL_law 883 = .ok (.aload_n 3, 1) := by decide +kernel
theorem dL_law_884 : decode cL_law 884 = .ok (.invokestatic 133, 3) := by decide +kernel
theorem dL_law_887 : decode cL_law 887 = .ok (.istore 5, 2) := by decide +kernel
theorem dL_law_889 : decode cL_law 889 = .ok (.aload_n 2, 1) := by decide +kernel
theorem dL_law_890 : decode cL_law 890 = .ok (.invokevirtual 135, 3) := by decide +kernel
theorem dL_law_893 : decode cL_law 893 = .ok (.istore 6, 2) := by decide +kernel
theorem dL_law_895 : decode cL_law 895 = .ok (.aload_n 2, 1) := by decide +kernel
theorem dL_law_896 : decode cL_law 896 = .ok (.invokevirtual 89, 3) := by decide +kernel
theorem dL_law_899 : decode cL_law 899 = .ok (.iload 5, 2) := by decide +kernel
theorem dL_law_901 : decode cL_law 901 = .ok (.if_icmp .eq 5, 3) := by decide +kernel
theorem dL_law_904 : decode cL_law 904 = .ok (.iconst 0, 1) := by decide +kernel
theorem dL_law_905 : decode cL_law 905 = .ok (.ireturn, 1) := by decide +kernel
theorem dL_law_906 : decode cL_law 906 = .ok (.iload 5, 2) := by decide +kernel
theorem dL_law_908 : decode cL_law 908 = .ok (.ifCond .ne 15, 3) := by decide +kernel
theorem dL_law_911 : decode cL_law 911 = .ok (.aload_n 3, 1) := by decide +kernel
theorem dL_law_912 : decode cL_law 912 = .ok (.iconst 0, 1) := by decide +kernel
theorem dL_law_913 : decode cL_law 913 = .ok (.laload, 1) := by decide +kernel
theorem dL_law_914 : decode cL_law 914 = .ok (.iload 6, 2) := by decide +kernel
theorem dL_law_916 : decode cL_law 916 = .ok (.i2l, 1) := by decide +kernel
theorem dL_law_917 : decode cL_law 917 = .ok (.lcmp, 1) := by decide +kernel
theorem dL_law_918 : decode cL_law 918 = .ok (.ifCond .eq 5, 3) := by decide +kernel
theorem dL_law_921 : decode cL_law 921 = .ok (.iconst 0, 1) := by decide +kernel
theorem dL_law_922 : decode cL_law 922 = .ok (.ireturn, 1) := by decide +kernel
theorem dL_law_923 : decode cL_law 923 = .ok (.goto 604, 3) := by decide +kernel
theorem dL_law_926 : decode cL_law 926 = .ok (.aload_n 1, 1) := by decide +kernel
theorem dL_law_927 : decode cL_law 927 = .ok (.aload_n 0, 1) := by decide +kernel
theorem dL_law_928 : decode cL_law 928 = .ok (.iload 4, 2) := by decide +kernel
theorem dL_law_930 : decode cL_law 930 = .ok (.iconst 1, 1) := by decide +kernel
theorem dL_law_931 : decode cL_law 931 = .ok (.iadd, 1) := by decide +kernel
theorem dL_law_932 : decode cL_law 932 = .ok (.iaload, 1) := by decide +kernel
theorem dL_law_933 : decode cL_law 933 = .ok (.aload_n 0, 1) := by decide +kernel
theorem dL_law_934 : decode cL_law 934 = .ok (.iload 4, 2) := by decide +kernel
theorem dL_law_936 : decode cL_law 936 = .ok (.iconst 2, 1) := by decide +kernel
theorem dL_law_937 : decode cL_law 937 = .ok (.iadd, 1) := by decide +kernel
theorem dL_law_938 : decode cL_law 938 = .ok (.iaload, 1) := by decide +kernel
theorem dL_law_939 : decode cL_law 939 = .ok (.aload_n 3, 1) := by decide +kernel
theorem dL_law_940 : decode cL_law 940 = .ok (.invokestatic 136, 3) := by decide +kernel
theorem dL_law_943 : decode cL_law 943 = .ok (.istore 5, 2) := by decide +kernel
theorem dL_law_945 : decode cL_law 945 = .ok (.aload_n 2, 1) := by decide +kernel
theorem dL_law_946 : decode cL_law 946 = .ok (.aload_n 0, 1) := by decide +kernel
theorem dL_law_947 : decode cL_law 947 = .ok (.iload 4, 2) := by decide +kernel
theorem dL_law_949 : decode cL_law 949 = .ok (.iconst 1, 1) := by decide +kernel
theorem dL_law_950 : decode cL_law 950 = .ok (.iadd, 1) := by decide +kernel
theorem dL_law_951 : decode cL_law 951 = .ok (.iaload, 1) := by decide +kernel
theorem dL_law_952 : decode cL_law 952 = .ok (.aload_n 0, 1) := by decide +kernel
theorem dL_law_953 : decode cL_law 953 = .ok (.iload 4, 2) := by decide +kernel
theorem dL_law_955 : decode cL_law 955 = .ok (.iconst 2, 1) := by decide +kernel
theorem dL_law_956 : decode cL_law 956 = .ok (.iadd, 1) := by decide +kernel
theorem dL_law_957 : decode cL_law 957 = .ok (.iaload, 1) := by decide +kernel
theorem dL_law_958 : decode cL_law 958 = .ok (.invokevirtual 138, 3) := by decide +kernel
theorem dL_law_961 : decode cL_law 961 = .ok (.istore 6, 2) := by decide +kernel
theorem dL_law_963 : decode cL_law 963 = .ok (.aload_n 2, 1) := by decide +kernel
theorem dL_law_964 : decode cL_law 964 = .ok (.invokevirtual 89, 3) := by decide +kernel
theorem dL_law_967 : decode cL_law 967 = .ok (.iload 5, 2) := by decide +kernel
theorem dL_law_969 : decode cL_law 969 = .ok (.if_icmp .eq 5, 3) := by decide +kernel
theorem dL_law_972 : decode cL_law 972 = .ok (.iconst 0, 1) := by decide +kernel
theorem dL_law_973 : decode cL_law 973 = .ok (.ireturn, 1) := by decide +kernel
theorem dL_law_974 : decode cL_law 974 = .ok (.iload 5, 2) := by decide +kernel
theorem dL_law_976 : decode cL_law 976 = .ok (.ifCond .ne 15, 3) := by decide +kernel
theorem dL_law_979 : decode cL_law 979 = .ok (.aload_n 3, 1) := by decide +kernel
theorem dL_law_980 : decode cL_law 980 = .ok (.iconst 0, 1) := by decide +kernel
theorem dL_law_981 : decode cL_law 981 = .ok (.laload, 1) := by decide +kernel
theorem dL_law_982 : decode cL_law 982 = .ok (.iload 6, 2) := by decide +kernel
theorem dL_law_984 : decode cL_law 984 = .ok (.i2l, 1) := by decide +kernel
theorem dL_law_985 : decode cL_law 985 = .ok (.lcmp, 1) := by decide +kernel
theorem dL_law_986 : decode cL_law 986 = .ok (.ifCond .eq 5, 3) := by decide +kernel
theorem dL_law_989 : decode cL_law 989 = .ok (.iconst 0, 1) := by decide +kernel
theorem dL_law_990 : decode cL_law 990 = .ok (.ireturn, 1) := by decide +kernel
theorem dL_law_991 : decode cL_law 991 = .ok (.goto 536, 3) := by decide +kernel
theorem dL_law_994 : decode cL_law 994 = .ok (.aload_n 1, 1) := by decide +kernel
theorem dL_law_995 : decode cL_law 995 = .ok (.aload_n 0, 1) := by decide +kernel
theorem dL_law_996 : decode cL_law 996 = .ok (.iload 4, 2) := by decide +kernel
theorem dL_law_998 : decode cL_law 998 = .ok (.iconst 1, 1) := by decide +kernel
theorem dL_law_999 : decode cL_law 999 = .ok (.iadd, 1) := by decide +kernel
theorem dL_law_1000 : decode cL_law 1000 = .ok (.iaload, 1) := by decide +kernel
theorem dL_law_1001 : decode cL_law 1001 = .ok (.aload_n 0, 1) := by decide +kernel
theorem dL_law_1002 : decode cL_law 1002 = .ok (.iload 4, 2) := by decide +kernel
theorem dL_law_1004 : decode cL_law 1004 = .ok (.iconst 2, 1) := by decide +kernel
theorem dL_law_1005 : decode cL_law 1005 = .ok (.iadd, 1) := by decide +kernel
theorem dL_law_1006 : decode cL_law 1006 = .ok (.iaload, 1) := by decide +kernel
theorem dL_law_1007 : decode cL_law 1007 = .ok (.aload_n 3, 1) := by decide +kernel
theorem dL_law_1008 : decode cL_law 1008 = .ok (.invokestatic 139, 3) := by decide +kernel
theorem dL_law_1011 : decode cL_law 1011 = .ok (.istore 5, 2) := by decide +kernel
theorem dL_law_1013 : decode cL_law 1013 = .ok (.aload_n 2, 1) := by decide +kernel
theorem dL_law_1014 : decode cL_law 1014 = .ok (.aload_n 0, 1) := by decide +kernel
theorem dL_law_1015 : decode cL_law 1015 = .ok (.iload 4, 2) := by decide +kernel
theorem dL_law_1017 : decode cL_law 1017 = .ok (.iconst 1, 1) := by decide +kernel
theorem dL_law_1018 : decode cL_law 1018 = .ok (.iadd, 1) := by decide +kernel
theorem dL_law_1019 : decode cL_law 1019 = .ok (.iaload, 1) := by decide +kernel
theorem dL_law_1020 : decode cL_law 1020 = .ok (.aload_n 0, 1) := by decide +kernel
theorem dL_law_1021 : decode cL_law 1021 = .ok (.iload 4, 2) := by decide +kernel
theorem dL_law_1023 : decode cL_law 1023 = .ok (.iconst 2, 1) := by decide +kernel
theorem dL_law_1024 : decode cL_law 1024 = .ok (.iadd, 1) := by decide +kernel
theorem dL_law_1025 : decode cL_law 1025 = .ok (.iaload, 1) := by decide +kernel
theorem dL_law_1026 : decode cL_law 1026 = .ok (.invokevirtual 141, 3) := by decide +kernel
theorem dL_law_1029 : decode cL_law 1029 = .ok (.istore 6, 2) := by decide +kernel
theorem dL_law_1031 : decode cL_law 1031 = .ok (.aload_n 2, 1) := by decide +kernel
theorem dL_law_1032 : decode cL_law 1032 = .ok (.invokevirtual 89, 3) := by decide +kernel
theorem dL_law_1035 : decode cL_law 1035 = .ok (.iload 5, 2) := by decide +kernel
theorem dL_law_1037 : decode cL_law 1037 = .ok (.if_icmp .eq 5, 3) := by decide +kernel
theorem dL_law_1040 : decode cL_law 1040 = .ok (.iconst 0, 1) := by decide +kernel
theorem dL_law_1041 : decode cL_law 1041 = .ok (.ireturn, 1) := by decide +kernel
theorem dL_law_1042 : decode cL_law 1042 = .ok (.iload 5, 2) := by decide +kernel
theorem dL_law_1044 : decode cL_law 1044 = .ok (.ifCond .ne 15, 3) := by decide +kernel
theorem dL_law_1047 : decode cL_law 1047 = .ok (.aload_n 3, 1) := by decide +kernel
theorem dL_law_1048 : decode cL_law 1048 = .ok (.iconst 0, 1) := by decide +kernel
theorem dL_law_1049 : decode cL_law 1049 = .ok (.laload, 1) := by decide +kernel
theorem dL_law_1050 : decode cL_law 1050 = .ok (.iload 6, 2) := by decide +kernel
theorem dL_law_1052 : decode cL_law 1052 = .ok (.i2l, 1) := by decide +kernel
theorem dL_law_1053 : decode cL_law 1053 = .ok (.lcmp, 1) := by decide +kernel
theorem dL_law_1054 : decode cL_law 1054 = .ok (.ifCond .eq 5, 3) := by decide +kernel
theorem dL_law_1057 : decode cL_law 1057 = .ok (.iconst 0, 1) := by decide +kernel
theorem dL_law_1058 : decode cL_law 1058 = .ok (.ireturn, 1) := by decide +kernel
theorem dL_law_1059 : decode cL_law 1059 = .ok (.goto 468, 3) := by decide +kernel
theorem dL_law_1062 : decode cL_law 1062 = .ok (.aload_n 1, 1) := by decide +kernel
theorem dL_law_1063 : decode cL_law 1063 = .ok (.aload_n 0, 1) := by decide +kernel
theorem dL_law_1064 : decode cL_law 1064 = .ok (.iload 4, 2) := by decide +kernel
theorem dL_law_1066 : decode cL_law 1066 = .ok (.iconst 1, 1) := by decide +kernel
theorem dL_law_1067 : decode cL_law 1067 = .ok (.iadd, 1) := by decide +kernel
theorem dL_law_1068 : decode cL_law 1068 = .ok (.iaload, 1) := by decide +kernel
theorem dL_law_1069 : decode cL_law 1069 = .ok (.aload_n 0, 1) := by decide +kernel
theorem dL_law_1070 : decode cL_law 1070 = .ok (.iload 4, 2) := by decide +kernel
theorem dL_law_1072 : decode cL_law 1072 = .ok (.iconst 2, 1) := by decide +kernel
theorem dL_law_1073 : decode cL_law 1073 = .ok (.iadd, 1) := by decide +kernel
theorem dL_law_1074 : decode cL_law 1074 = .ok (.iaload, 1) := by decide +kernel
theorem dL_law_1075 : decode cL_law 1075 = .ok (.aload_n 3, 1) := by decide +kernel
theorem dL_law_1076 : decode cL_law 1076 = .ok (.invokestatic 142, 3) := by decide +kernel
theorem dL_law_1079 : decode cL_law 1079 = .ok (.istore 5, 2) := by decide +kernel
theorem dL_law_1081 : decode cL_law 1081 = .ok (.aload_n 2, 1) := by decide +kernel
theorem dL_law_1082 : decode cL_law 1082 = .ok (.aload_n 0, 1) := by decide +kernel
theorem dL_law_1083 : decode cL_law 1083 = .ok (.iload 4, 2) := by decide +kernel
theorem dL_law_1085 : decode cL_law 1085 = .ok (.iconst 1, 1) := by decide +kernel
theorem dL_law_1086 : decode cL_law 1086 = .ok (.iadd, 1) := by decide +kernel
theorem dL_law_1087 : decode cL_law 1087 = .ok (.iaload, 1) := by decide +kernel
theorem dL_law_1088 : decode cL_law 1088 = .ok (.aload_n 0, 1) := by decide +kernel
theorem dL_law_1089 : decode cL_law 1089 = .ok (.iload 4, 2) := by decide +kernel
theorem dL_law_1091 : decode cL_law 1091 = .ok (.iconst 2, 1) := by decide +kernel
theorem dL_law_1092 : decode cL_law 1092 = .ok (.iadd, 1) := by decide +kernel
theorem dL_law_1093 : decode cL_law 1093 = .ok (.iaload, 1) := by decide +kernel
theorem dL_law_1094 : decode cL_law 1094 = .ok (.invokevirtual 144, 3) := by decide +kernel
theorem dL_law_1097 : decode cL_law 1097 = .ok (.istore 6, 2) := by decide +kernel
theorem dL_law_1099 : decode cL_law 1099 = .ok (.aload_n 2, 1) := by decide +kernel
theorem dL_law_1100 : decode cL_law 1100 = .ok (.invokevirtual 89, 3) := by decide +kernel
theorem dL_law_1103 : decode cL_law 1103 = .ok (.iload 5, 2) := by decide +kernel
theorem dL_law_1105 : decode cL_law 1105 = .ok (.if_icmp .eq 5, 3) := by decide +kernel
theorem dL_law_1108 : decode cL_law 1108 = .ok (.iconst 0, 1) := by decide +kernel
theorem dL_law_1109 : decode cL_law 1109 = .ok (.ireturn, 1) := by decide +kernel
theorem dL_law_1110 : decode cL_law 1110 = .ok (.iload 5, 2) := by decide +kernel
theorem dL_law_1112 : decode cL_law 1112 = .ok (.ifCond .ne 15, 3) := by decide +kernel
theorem dL_law_1115 : decode cL_law 1115 = .ok (.aload_n 3, 1) := by decide +kernel
theorem dL_law_1116 : decode cL_law 1116 = .ok (.iconst 0, 1) := by decide +kernel
theorem dL_law_1117 : decode cL_law 1117 = .ok (.laload, 1) := by decide +kernel
theorem dL_law_1118 : decode cL_law 1118 = .ok (.iload 6, 2) := by decide +kernel
theorem dL_law_1120 : decode cL_law 1120 = .ok (.i2l, 1) := by decide +kernel
theorem dL_law_1121 : decode cL_law 1121 = .ok (.lcmp, 1) := by decide +kernel
theorem dL_law_1122 : decode cL_law 1122 = .ok (.ifCond .eq 5, 3) := by decide +kernel
theorem dL_law_1125 : decode cL_law 1125 = .ok (.iconst 0, 1) := by decide +kernel
theorem dL_law_1126 : decode cL_law 1126 = .ok (.ireturn, 1) := by decide +kernel
theorem dL_law_1127 : decode cL_law 1127 = .ok (.goto 400, 3) := by decide +kernel
theorem dL_law_1130 : decode cL_law 1130 = .ok (.aload_n 1, 1) := by decide +kernel
theorem dL_law_1131 : decode cL_law 1131 = .ok (.aload_n 0, 1) := by decide +kernel
theorem dL_law_1132 : decode cL_law 1132 = .ok (.iload 4, 2) := by decide +kernel
theorem dL_law_1134 : decode cL_law 1134 = .ok (.iconst 1, 1) := by decide +kernel
theorem dL_law_1135 : decode cL_law 1135 = .ok (.iadd, 1) := by decide +kernel
theorem dL_law_1136 : decode cL_law 1136 = .ok (.iaload, 1) := by decide +kernel
theorem dL_law_1137 : decode cL_law 1137 = .ok (.aload_n 0, 1) := by decide +kernel
theorem dL_law_1138 : decode cL_law 1138 = .ok (.iload 4, 2) := by decide +kernel
theorem dL_law_1140 : decode cL_law 1140 = .ok (.iconst 2, 1) := by decide +kernel
theorem dL_law_1141 : decode cL_law 1141 = .ok (.iadd, 1) := by decide +kernel
theorem dL_law_1142 : decode cL_law 1142 = .ok (.iaload, 1) := by decide +kernel
theorem dL_law_1143 : decode cL_law 1143 = .ok (.aload_n 3, 1) := by decide +kernel
theorem dL_law_1144 : decode cL_law 1144 = .ok (.invokestatic 145, 3) := by decide +kernel
theorem dL_law_1147 : decode cL_law 1147 = .ok (.istore 5, 2) := by decide +kernel
theorem dL_law_1149 : decode cL_law 1149 = .ok (.aload_n 2, 1) := by decide +kernel
theorem dL_law_1150 : decode cL_law 1150 = .ok (.aload_n 0, 1) := by decide +kernel
theorem dL_law_1151 : decode cL_law 1151 = .ok (.iload 4, 2) := by decide +kernel
theorem dL_law_1153 : decode cL_law 1153 = .ok (.iconst 1, 1) := by decide +kernel
theorem dL_law_1154 : decode cL_law 1154 = .ok (.iadd, 1) := by decide +kernel
theorem dL_law_1155 : decode cL_law 1155 = .ok (.iaload, 1) := by decide +kernel
theorem dL_law_1156 : decode cL_law 1156 = .ok (.aload_n 0, 1) := by decide +kernel
theorem dL_law_1157 : decode cL_law 1157 = .ok (.iload 4, 2) := by decide +kernel
theorem dL_law_1159 : decode cL_law 1159 = .ok (.iconst 2, 1) := by decide +kernel
theorem dL_law_1160 : decode cL_law 1160 = .ok (.iadd, 1) := by decide +kernel
theorem dL_law_1161 : decode cL_law 1161 = .ok (.iaload, 1) := by decide +kernel
theorem dL_law_1162 : decode cL_law 1162 = .ok (.invokevirtual 147, 3) := by decide +kernel
theorem dL_law_1165 : decode cL_law 1165 = .ok (.istore 6, 2) := by decide +kernel
theorem dL_law_1167 : decode cL_law 1167 = .ok (.aload_n 2, 1) := by decide +kernel
theorem dL_law_1168 : decode cL_law 1168 = .ok (.invokevirtual 89, 3) := by decide +kernel
theorem dL_law_1171 : decode cL_law 1171 = .ok (.iload 5, 2) := by decide +kernel
theorem dL_law_1173 : decode cL_law 1173 = .ok (.if_icmp .eq 5, 3) := by decide +kernel
theorem dL_law_1176 : decode cL_law 1176 = .ok (.iconst 0, 1) := by decide +kernel
theorem dL_law_1177 : decode cL_law 1177 = .ok (.ireturn, 1) := by decide +kernel
theorem dL_law_1178 : decode cL_law 1178 = .ok (.iload 5, 2) := by decide +kernel
theorem dL_law_1180 : decode cL_law 1180 = .ok (.ifCond .ne 15, 3) := by decide +kernel
theorem dL_law_1183 : decode cL_law 1183 = .ok (.aload_n 3, 1) := by decide +kernel
theorem dL_law_1184 : decode cL_law 1184 = .ok (.iconst 0, 1) := by decide +kernel
theorem dL_law_1185 : decode cL_law 1185 = .ok (.laload, 1) := by decide +kernel
theorem dL_law_1186 : decode cL_law 1186 = .ok (.iload 6, 2) := by decide +kernel
theorem dL_law_1188 : decode cL_law 1188 = .ok (.i2l, 1) := by decide +kernel
theorem dL_law_1189 : decode cL_law 1189 = .ok (.lcmp, 1) := by decide +kernel
theorem dL_law_1190 : decode cL_law 1190 = .ok (.ifCond .eq 5, 3) := by decide +kernel
theorem dL_law_1193 : decode cL_law 1193 = .ok (.iconst 0, 1) := by decide +kernel
theorem dL_law_1194 : decode cL_law 1194 = .ok (.ireturn, 1) := by decide +kernel
theorem dL_law_1195 : decode cL_law 1195 = .ok (.goto 332, 3) := by decide +kernel
theorem dL_law_1198 : decode cL_law 1198 = .ok (.aload_n 1, 1) := by decide +kernel
theorem dL_law_1199 : decode cL_law 1199 = .ok (.aload_n 0, 1) := by decide +kernel
theorem dL_law_1200 : decode cL_law 1200 = .ok (.iload 4, 2) := by decide +kernel
theorem dL_law_1202 : decode cL_law 1202 = .ok (.iconst 1, 1) := by decide +kernel
theorem dL_law_1203 : decode cL_law 1203 = .ok (.iadd, 1) := by decide +kernel
theorem dL_law_1204 : decode cL_law 1204 = .ok (.iaload, 1) := by decide +kernel
theorem dL_law_1205 : decode cL_law 1205 = .ok (.aload_n 3, 1) := by decide +kernel
theorem dL_law_1206 : decode cL_law 1206 = .ok (.invokestatic 148, 3) := by decide +kernel
theorem dL_law_1209 : decode cL_law 1209 = .ok (.istore 5, 2) := by decide +kernel
theorem dL_law_1211 : decode cL_law 1211 = .ok (.aload_n 2, 1) := by decide +kernel
theorem dL_law_1212 : decode cL_law 1212 = .ok (.aload_n 0, 1) := by decide +kernel
theorem dL_law_1213 : decode cL_law 1213 = .ok (.iload 4, 2) := by decide +kernel
theorem dL_law_1215 : decode cL_law 1215 = .ok (.iconst 1, 1) := by decide +kernel
theorem dL_law_1216 : decode cL_law 1216 = .ok (.iadd, 1) := by decide +kernel
theorem dL_law_1217 : decode cL_law 1217 = .ok (.iaload, 1) := by decide +kernel
theorem dL_law_1218 : decode cL_law 1218 = .ok (.invokevirtual 150, 3) := by decide +kernel
theorem dL_law_1221 : decode cL_law 1221 = .ok (.istore 6, 2) := by decide +kernel
theorem dL_law_1223 : decode cL_law 1223 = .ok (.aload_n 2, 1) := by decide +kernel
theorem dL_law_1224 : decode cL_law 1224 = .ok (.invokevirtual 89, 3) := by decide +kernel
theorem dL_law_1227 : decode cL_law 1227 = .ok (.iload 5, 2) := by decide +kernel
theorem dL_law_1229 : decode cL_law 1229 = .ok (.if_icmp .eq 5, 3) := by decide +kernel
theorem dL_law_1232 : decode cL_law 1232 = .ok (.iconst 0, 1) := by decide +kernel
theorem dL_law_1233 : decode cL_law 1233 = .ok (.ireturn, 1) := by decide +kernel
theorem dL_law_1234 : decode cL_law 1234 = .ok (.iload 5, 2) := by decide +kernel
theorem dL_law_1236 : decode cL_law 1236 = .ok (.ifCond .ne 15, 3) := by decide +kernel
theorem dL_law_1239 : decode cL_law 1239 = .ok (.aload_n 3, 1) := by decide +kernel
theorem dL_law_1240 : decode cL_law 1240 = .ok (.iconst 0, 1) := by decide +kernel
theorem dL_law_1241 : decode cL_law 1241 = .ok (.laload, 1) := by decide +kernel
theorem dL_law_1242 : decode cL_law 1242 = .ok (.iload 6, 2) := by decide +kernel
theorem dL_law_1244 : decode cL_law 1244 = .ok (.i2l, 1) := by decide +kernel
theorem dL_law_1245 : decode cL_law 1245 = .ok (.lcmp, 1) := by decide +kernel
theorem dL_law_1246 : decode cL_law 1246 = .ok (.ifCond .eq 5, 3) := by decide +kernel
theorem dL_law_1249 : decode cL_law 1249 = .ok (.iconst 0, 1) := by decide +kernel
theorem dL_law_1250 : decode cL_law 1250 = .ok (.ireturn, 1) := by decide +kernel
theorem dL_law_1251 : decode cL_law 1251 = .ok (.goto 276, 3) := by decide +kernel
theorem dL_law_1254 : decode cL_law 1254 = .ok (.aload_n 1, 1) := by decide +kernel
theorem dL_law_1255 : decode cL_law 1255 = .ok (.aload_n 0, 1) := by decide +kernel
theorem dL_law_1256 : decode cL_law 1256 = .ok (.iload 4, 2) := by decide +kernel
theorem dL_law_1258 : decode cL_law 1258 = .ok (.iconst 1, 1) := by decide +kernel
theorem dL_law_1259 : decode cL_law 1259 = .ok (.iadd, 1) := by decide +kernel
theorem dL_law_1260 : decode cL_law 1260 = .ok (.iaload, 1) := by decide +kernel
theorem dL_law_1261 : decode cL_law 1261 = .ok (.aload_n 3, 1) := by decide +kernel
theorem dL_law_1262 : decode cL_law 1262 = .ok (.invokestatic 151, 3) := by decide +kernel
theorem dL_law_1265 : decode cL_law 1265 = .ok (.istore 5, 2) := by decide +kernel
theorem dL_law_1267 : decode cL_law 1267 = .ok (.aload_n 2, 1) := by decide +kernel
theorem dL_law_1268 : decode cL_law 1268 = .ok (.aload_n 0, 1) := by decide +kernel
theorem dL_law_1269 : decode cL_law 1269 = .ok (.iload 4, 2) := by decide +kernel
theorem dL_law_1271 : decode cL_law 1271 = .ok (.iconst 1, 1) := by decide +kernel
theorem dL_law_1272 : decode cL_law 1272 = .ok (.iadd, 1) := by decide +kernel
theorem dL_law_1273 : decode cL_law 1273 = .ok (.iaload, 1) := by decide +kernel
theorem dL_law_1274 : decode cL_law 1274 = .ok (.invokevirtual 153, 3) := by decide +kernel
theorem dL_law_1277 : decode cL_law 1277 = .ok (.istore 6, 2) := by decide +kernel
theorem dL_law_1279 : decode cL_law 1279 = .ok (.aload_n 2, 1) := by decide +kernel
theorem dL_law_1280 : decode cL_law 1280 = .ok (.invokevirtual 89, 3) := by decide +kernel
theorem dL_law_1283 : decode cL_law 1283 = .ok (.iload 5, 2) := by decide +kernel
theorem dL_law_1285 : decode cL_law 1285 = .ok (.if_icmp .eq 5, 3) := by decide +kernel
theorem dL_law_1288 : decode cL_law 1288 = .ok (.iconst 0, 1) := by decide +kernel
theorem dL_law_1289 : decode cL_law 1289 = .ok (.ireturn, 1) := by decide +kernel
theorem dL_law_1290 : decode cL_law 1290 = .ok (.iload 5, 2) := by decide +kernel
theorem dL_law_1292 : decode cL_law 1292 = .ok (.ifCond .ne 15, 3) := by decide +kernel
theorem dL_law_1295 : decode cL_law 1295 = .ok (.aload_n 3, 1) := by decide +kernel
theorem dL_law_1296 : decode cL_law 1296 = .ok (.iconst 0, 1) := by decide +kernel
theorem dL_law_1297 : decode cL_law 1297 = .ok (.laload, 1) := by decide +kernel
theorem dL_law_1298 : decode cL_law 1298 = .ok (.iload 6, 2) := by decide +kernel
theorem dL_law_1300 : decode cL_law 1300 = .ok (.i2l, 1) := by decide +kernel
theorem dL_law_1301 : decode cL_law 1301 = .ok (.lcmp, 1) := by decide +kernel
theorem dL_law_1302 : decode cL_law 1302 = .ok (.ifCond .eq 5, 3) := by decide +kernel
theorem dL_law_1305 : decode cL_law 1305 = .ok (.iconst 0, 1) := by decide +kernel
theorem dL_law_1306 : decode cL_law 1306 = .ok (.ireturn, 1) := by decide +kernel
theorem dL_law_1307 : decode cL_law 1307 = .ok (.goto 220, 3) := by decide +kernel
theorem dL_law_1310 : decode cL_law 1310 = .ok (.aload_n 1, 1) := by decide +kernel
theorem dL_law_1311 : decode cL_law 1311 = .ok (.aload_n 0, 1) := by decide +kernel
theorem dL_law_1312 : decode cL_law 1312 = .ok (.iload 4, 2) := by decide +kernel
theorem dL_law_1314 : decode cL_law 1314 = .ok (.iconst 1, 1) := by decide +kernel
theorem dL_law_1315 : decode cL_law 1315 = .ok (.iadd, 1) := by decide +kernel
theorem dL_law_1316 : decode cL_law 1316 = .ok (.iaload, 1) := by decide +kernel
theorem dL_law_1317 : decode cL_law 1317 = .ok (.aload_n 0, 1) := by decide +kernel
theorem dL_law_1318 : decode cL_law 1318 = .ok (.iload 4, 2) := by decide +kernel
theorem dL_law_1320 : decode cL_law 1320 = .ok (.iconst 2, 1) := by decide +kernel
theorem dL_law_1321 : decode cL_law 1321 = .ok (.iadd, 1) := by decide +kernel
theorem dL_law_1322 : decode cL_law 1322 = .ok (.iaload, 1) := by decide +kernel
theorem dL_law_1323 : decode cL_law 1323 = .ok (.aload_n 3, 1) := by decide +kernel
theorem dL_law_1324 : decode cL_law 1324 = .ok (.invokestatic 154, 3) := by decide +kernel
theorem dL_law_1327 : decode cL_law 1327 = .ok (.istore 5, 2) := by decide +kernel
theorem dL_law_1329 : decode cL_law 1329 = .ok (.aload_n 2, 1) := by decide +kernel
theorem dL_law_1330 : decode cL_law 1330 = .ok (.aload_n 0, 1) := by decide +kernel
theorem dL_law_1331 : decode cL_law 1331 = .ok (.iload 4, 2) := by decide +kernel
theorem dL_law_1333 : decode cL_law 1333 = .ok (.iconst 1, 1) := by decide +kernel
theorem dL_law_1334 : decode cL_law 1334 = .ok (.iadd, 1) := by decide +kernel
theorem dL_law_1335 : decode cL_law 1335 = .ok (.iaload, 1) := by decide +kernel
theorem dL_law_1336 : decode cL_law 1336 = .ok (.aload_n 0, 1) := by decide +kernel
theorem dL_law_1337 : decode cL_law 1337 = .ok (.iload 4, 2) := by decide +kernel
theorem dL_law_1339 : decode cL_law 1339 = .ok (.iconst 2, 1) := by decide +kernel
theorem dL_law_1340 : decode cL_law 1340 = .ok (.iadd, 1) := by decide +kernel
theorem dL_law_1341 : decode cL_law 1341 = .ok (.iaload, 1) := by decide +kernel
theorem dL_law_1342 : decode cL_law 1342 = .ok (.invokevirtual 156, 3) := by decide +kernel
theorem dL_law_1345 : decode cL_law 1345 = .ok (.istore 6, 2) := by decide +kernel
theorem dL_law_1347 : decode cL_law 1347 = .ok (.aload_n 2, 1) := by decide +kernel
theorem dL_law_1348 : decode cL_law 1348 = .ok (.invokevirtual 89, 3) := by decide +kernel
theorem dL_law_1351 : decode cL_law 1351 = .ok (.iload 5, 2) := by decide +kernel
theorem dL_law_1353 : decode cL_law 1353 = .ok (.if_icmp .eq 5, 3) := by decide +kernel
theorem dL_law_1356 : decode cL_law 1356 = .ok (.iconst 0, 1) := by decide +kernel
theorem dL_law_1357 : decode cL_law 1357 = .ok (.ireturn, 1) := by decide +kernel
theorem dL_law_1358 : decode cL_law 1358 = .ok (.iload 5, 2) := by decide +kernel
theorem dL_law_1360 : decode cL_law 1360 = .ok (.ifCond .ne 15, 3) := by decide +kernel
theorem dL_law_1363 : decode cL_law 1363 = .ok (.aload_n 3, 1) := by decide +kernel
theorem dL_law_1364 : decode cL_law 1364 = .ok (.iconst 0, 1) := by decide +kernel
theorem dL_law_1365 : decode cL_law 1365 = .ok (.laload, 1) := by decide +kernel
theorem dL_law_1366 : decode cL_law 1366 = .ok (.iload 6, 2) := by decide +kernel
theorem dL_law_1368 : decode cL_law 1368 = .ok (.i2l, 1) := by decide +kernel
theorem dL_law_1369 : decode cL_law 1369 = .ok (.lcmp, 1) := by decide +kernel
theorem dL_law_1370 : decode cL_law 1370 = .ok (.ifCond .eq 5, 3) := by decide +kernel
theorem dL_law_1373 : decode cL_law 1373 = .ok (.iconst 0, 1) := by decide +kernel
theorem dL_law_1374 : decode cL_law 1374 = .ok (.ireturn, 1) := by decide +kernel
theorem dL_law_1375 : decode cL_law 1375 = .ok (.goto 152, 3) := by decide +kernel
theorem dL_law_1378 : decode cL_law 1378 = .ok (.aload_n 1, 1) := by decide +kernel
theorem dL_law_1379 : decode cL_law 1379 = .ok (.aload_n 0, 1) := by decide +kernel
theorem dL_law_1380 : decode cL_law 1380 = .ok (.iload 4, 2) := by decide +kernel
theorem dL_law_1382 : decode cL_law 1382 = .ok (.iconst 1, 1) := by decide +kernel
theorem dL_law_1383 : decode cL_law 1383 = .ok (.iadd, 1) := by decide +kernel
theorem dL_law_1384 : decode cL_law 1384 = .ok (.iaload, 1) := by decide +kernel
theorem dL_law_1385 : decode cL_law 1385 = .ok (.aload_n 0, 1) := by decide +kernel
theorem dL_law_1386 : decode cL_law 1386 = .ok (.iload 4, 2) := by decide +kernel
theorem dL_law_1388 : decode cL_law 1388 = .ok (.iconst 2, 1) := by decide +kernel
theorem dL_law_1389 : decode cL_law 1389 = .ok (.iadd, 1) := by decide +kernel
theorem dL_law_1390 : decode cL_law 1390 = .ok (.iaload, 1) := by decide +kernel
theorem dL_law_1391 : decode cL_law 1391 = .ok (.aload_n 3, 1) := by decide +kernel
theorem dL_law_1392 : decode cL_law 1392 = .ok (.invokestatic 157, 3) := by decide +kernel
theorem dL_law_1395 : decode cL_law 1395 = .ok (.istore 5, 2) := by decide +kernel
theorem dL_law_1397 : decode cL_law 1397 = .ok (.aload_n 2, 1) := by decide +kernel
theorem dL_law_1398 : decode cL_law 1398 = .ok (.aload_n 0, 1) := by decide +kernel
theorem dL_law_1399 : decode cL_law 1399 = .ok (.iload 4, 2) := by decide +kernel
theorem dL_law_1401 : decode cL_law 1401 = .ok (.iconst 1, 1) := by decide +kernel
theorem dL_law_1402 : decode cL_law 1402 = .ok (.iadd, 1) := by decide +kernel
theorem dL_law_1403 : decode cL_law 1403 = .ok (.iaload, 1) := by decide +kernel
theorem dL_law_1404 : decode cL_law 1404 = .ok (.aload_n 0, 1) := by decide +kernel
theorem dL_law_1405 : decode cL_law 1405 = .ok (.iload 4, 2) := by decide +kernel
theorem dL_law_1407 : decode cL_law 1407 = .ok (.iconst 2, 1) := by decide +kernel
theorem dL_law_1408 : decode cL_law 1408 = .ok (.iadd, 1) := by decide +kernel
theorem dL_law_1409 : decode cL_law 1409 = .ok (.iaload, 1) := by decide +kernel
theorem dL_law_1410 : decode cL_law 1410 = .ok (.invokevirtual 159, 3) := by decide +kernel
theorem dL_law_1413 : decode cL_law 1413 = .ok (.istore 6, 2) := by decide +kernel
theorem dL_law_1415 : decode cL_law 1415 = .ok (.aload_n 2, 1) := by decide +kernel
theorem dL_law_1416 : decode cL_law 1416 = .ok (.invokevirtual 89, 3) := by decide +kernel
theorem dL_law_1419 : decode cL_law 1419 = .ok (.iload 5, 2) := by decide +kernel
theorem dL_law_1421 : decode cL_law 1421 = .ok (.if_icmp .eq 5, 3) := by decide +kernel
theorem dL_law_1424 : decode cL_law 1424 = .ok (.iconst 0, 1) := by decide +kernel
theorem dL_law_1425 : decode cL_law 1425 = .ok (.ireturn, 1) := by decide +kernel
theorem dL_law_1426 : decode cL_law 1426 = .ok (.iload 5, 2) := by decide +kernel
theorem dL_law_1428 : decode cL_law 1428 = .ok (.ifCond .ne 15, 3) := by decide +kernel
theorem dL_law_1431 : decode cL_law 1431 = .ok (.aload_n 3, 1) := by decide +kernel
theorem dL_law_1432 : decode cL_law 1432 = .ok (.iconst 0, 1) := by decide +kernel
theorem dL_law_1433 : decode cL_law 1433 = .ok (.laload, 1) := by decide +kernel
theorem dL_law_1434 : decode cL_law 1434 = .ok (.iload 6, 2) := by decide +kernel
theorem dL_law_1436 : decode cL_law 1436 = .ok (.i2l, 1) := by decide +kernel
theorem dL_law_1437 : decode cL_law 1437 = .ok (.lcmp, 1) := by decide +kernel
theorem dL_law_1438 : decode cL_law 1438 = .ok (.ifCond .eq 5, 3) := by decide +kernel
theorem dL_law_1441 : decode cL_law 1441 = .ok (.iconst 0, 1) := by decide +kernel
theorem dL_law_1442 : decode cL_law 1442 = .ok (.ireturn, 1) := by decide +kernel
theorem dL_law_1443 : decode cL_law 1443 = .ok (.goto 84, 3) := by decide +kernel
theorem dL_law_1446 : decode cL_law 1446 = .ok (.aload_n 1, 1) := by decide +kernel
theorem dL_law_1447 : decode cL_law 1447 = .ok (.invokevirtual 160, 3) := by decide +kernel
theorem dL_law_1450 : decode cL_law 1450 = .ok (.aload_n 2, 1) := by decide +kernel
theorem dL_law_1451 : decode cL_law 1451 = .ok (.invokevirtual 163, 3) := by decide +kernel
theorem dL_law_1454 : decode cL_law 1454 = .ok (.if_icmp .eq 73, 3) := by decide +kernel
theorem dL_law_1457 : decode cL_law 1457 = .ok (.iconst 0, 1) := by decide +kernel
theorem dL_law_1458 : decode cL_law 1458 = .ok (.ireturn, 1) := by decide +kernel
theorem dL_law_1459 : decode cL_law 1459 = .ok (.aload_n 1, 1) := by decide +kernel
theorem dL_law_1460 : decode cL_law 1460 = .ok (.invokevirtual 164, 3) := by decide +kernel
theorem dL_law_1463 : decode cL_law 1463 = .ok (.aload_n 2, 1) := by decide +kernel
theorem dL_law_1464 : decode cL_law 1464 = .ok (.invokevirtual 167, 3) := by decide +kernel
theorem dL_law_1467 : decode cL_law 1467 = .ok (.if_icmp .eq 60, 3) := by decide +kernel
theorem dL_law_1470 : decode cL_law 1470 = .ok (.iconst 0, 1) := by decide +kernel
theorem dL_law_1471 : decode cL_law 1471 = .ok (.ireturn, 1) := by decide +kernel
theorem dL_law_1472 : decode cL_law 1472 = .ok (.aload_n 1, 1) := by decide +kernel
theorem dL_law_1473 : decode cL_law 1473 = .ok (.invokevirtual 168, 3) := by decide +kernel
theorem dL_law_1476 : decode cL_law 1476 = .ok (.dstore 5, 2) := by decide +kernel
theorem dL_law_1478 : decode cL_law 1478 = .ok (.aload_n 2, 1) := by decide +kernel
theorem dL_law_1479 : decode cL_law 1479 = .ok (.invokevirtual 172, 3) := by decide +kernel
theorem dL_law_1482 : decode cL_law 1482 = .ok (.dstore 7, 2) := by decide +kernel
theorem dL_law_1484 : decode cL_law 1484 = .ok (.dload 5, 2) := by decide +kernel
theorem dL_law_1486 : decode cL_law 1486 = .ok (.dload 7, 2) := by decide +kernel
theorem dL_law_1488 : decode cL_law 1488 = .ok (.dcmp .l, 1) := by decide +kernel
theorem dL_law_1489 : decode cL_law 1489 = .ok (.ifCond .eq 21, 3) := by decide +kernel
theorem dL_law_1492 : decode cL_law 1492 = .ok (.dload 5, 2) := by decide +kernel
theorem dL_law_1494 : decode cL_law 1494 = .ok (.dload 5, 2) := by decide +kernel
theorem dL_law_1496 : decode cL_law 1496 = .ok (.dcmp .l, 1) := by decide +kernel
theorem dL_law_1497 : decode cL_law 1497 = .ok (.ifCond .eq 11, 3) := by decide +kernel
theorem dL_law_1500 : decode cL_law 1500 = .ok (.dload 7, 2) := by decide +kernel
theorem dL_law_1502 : decode cL_law 1502 = .ok (.dload 7, 2) := by decide +kernel
theorem dL_law_1504 : decode cL_law 1504 = .ok (.dcmp .l, 1) := by decide +kernel
theorem dL_law_1505 : decode cL_law 1505 = .ok (.ifCond .ne 5, 3) := by decide +kernel
theorem dL_law_1508 : decode cL_law 1508 = .ok (.iconst 0, 1) := by decide +kernel
theorem dL_law_1509 : decode cL_law 1509 = .ok (.ireturn, 1) := by decide +kernel
theorem dL_law_1510 : decode cL_law 1510 = .ok (.goto 17, 3) := by decide +kernel
theorem dL_law_1513 : decode cL_law 1513 = .ok (.aload_n 1, 1) := by decide +kernel
theorem dL_law_1514 : decode cL_law 1514 = .ok (.invokevirtual 173, 3) := by decide +kernel
theorem dL_law_1517 : decode cL_law 1517 = .ok (.aload_n 2, 1) := by decide +kernel
theorem dL_law_1518 : decode cL_law 1518 = .ok (.invokevirtual 177, 3) := by decide +kernel
theorem dL_law_1521 : decode cL_law 1521 = .ok (.lcmp, 1) := by decide +kernel
theorem dL_law_1522 : decode cL_law 1522 = .ok (.ifCond .eq 5, 3) := by decide +kernel
theorem dL_law_1525 : decode cL_law 1525 = .ok (.iconst 0, 1) := by decide +kernel
theorem dL_law_1526 : decode cL_law 1526 = .ok (.ireturn, 1) := by decide +kernel
theorem dL_law_1527 : decode cL_law 1527 = .ok (.iinc 4 4, 3) := by decide +kernel
theorem dL_law_1530 : decode cL_law 1530 = .ok (.goto (-1507), 3) := by decide +kernel
theorem dL_law_1533 : decode cL_law 1533 = .ok (.iconst 1, 1) := by decide +kernel
theorem dL_law_1534 : decode cL_law 1534 = .ok (.ireturn, 1) := by decide +kernel
