theorem dX0_init_0 : decode cX0_init 0 = .ok (.aload_n 0, 1) := by decide +kernel
theorem dX0_init_1 : decode cX0_init 1 = .ok (.invokespecial 3, 3) := by decide +kernel
theorem dX0_init_4 : decode cX0_init 4 = .ok (.aload_n 0, 1) := by decide +kernel
theorem dX0_init_5 : decode cX0_init 5 = .ok (.iconst 2, 1) := by decide +kernel
theorem dX0_init_6 : decode cX0_init 6 = .ok (.putfield 9, 3) := by decide +kernel
theorem dX0_init_9 : decode cX0_init 9 = .ok (.aload_n 0, 1) := by decide +kernel
theorem dX0_init_10 : decode cX0_init 10 = .ok (.iconst 0, 1) := by decide +kernel
theorem dX0_init_11 : decode cX0_init 11 = .ok (.putfield 15, 3) := by decide +kernel
theorem dX0_init_14 : decode cX0_init 14 = .ok (.aload_n 0, 1) := by decide +kernel
theorem dX0_init_15 : decode cX0_init 15 = .ok (.iconst 0, 1) := by decide +kernel
theorem dX0_init_16 : decode cX0_init 16 = .ok (.putfield 18, 3) := by decide +kernel
theorem dX0_init_19 : decode cX0_init 19 = .ok (.aload_n 0, 1) := by decide +kernel
theorem dX0_init_20 : decode cX0_init 20 = .ok (.bipush 8, 2) := by decide +kernel
theorem dX0_init_22 : decode cX0_init 22 = .ok (.newarray .int, 2) := by decide +kernel
theorem dX0_init_24 : decode cX0_init 24 = .ok (.putfield 21, 3) := by decide +kernel
theorem dX0_init_27 : decode cX0_init 27 = .ok (.aload_n 0, 1) := by decide +kernel
theorem dX0_init_28 : decode cX0_init 28 = .ok (.bipush 8, 2) := by decide +kernel
theorem dX0_init_30 : decode cX0_init 30 = .ok (.newarray .int, 2) := by decide +kernel
theorem dX0_init_32 : decode cX0_init 32 = .ok (.putfield 25, 3) := by decide +kernel
theorem dX0_init_35 : decode cX0_init 35 = .ok (.return_, 1) := by decide +kernel
theorem dX0_copyMill_0 : decode cX0_copyMill 0 = .ok (.aload_n 0, 1) := by decide +kernel
theorem dX0_copyMill_1 : decode cX0_copyMill 1 = .ok (.aload_n 1, 1) := by decide +kernel
theorem dX0_copyMill_2 : decode cX0_copyMill 2 = .ok (.getfield 9, 3) := by decide +kernel
theorem dX0_copyMill_5 : decode cX0_copyMill 5 = .ok (.putfield 9, 3) := by decide +kernel
theorem dX0_copyMill_8 : decode cX0_copyMill 8 = .ok (.aload_n 0, 1) := by decide +kernel
theorem dX0_copyMill_9 : decode cX0_copyMill 9 = .ok (.aload_n 1, 1) := by decide +kernel
theorem dX0_copyMill_10 : decode cX0_copyMill 10 = .ok (.getfield 15, 3) := by decide +kernel
theorem dX0_copyMill_13 : decode cX0_copyMill 13 = .ok (.putfield 15, 3) := by decide +kernel
theorem dX0_copyMill_16 : decode cX0_copyMill 16 = .ok (.aload_n 0, 1) := by decide +kernel
theorem dX0_copyMill_17 : decode cX0_copyMill 17 = .ok (.aload_n 1, 1) := by decide +kernel
theorem dX0_copyMill_18 : decode cX0_copyMill 18 = .ok (.getfield 18, 3) := by decide +kernel
theorem dX0_copyMill_21 : decode cX0_copyMill 21 = .ok (.putfield 18, 3) := by decide +kernel
theorem dX0_copyMill_24 : decode cX0_copyMill 24 = .ok (.aload_n 1, 1) := by decide +kernel
theorem dX0_copyMill_25 : decode cX0_copyMill 25 = .ok (.getfield 21, 3) := by decide +kernel
theorem dX0_copyMill_28 : decode cX0_copyMill 28 = .ok (.iconst 0, 1) := by decide +kernel
theorem dX0_copyMill_29 : decode cX0_copyMill 29 = .ok (.aload_n 0, 1) := by decide +kernel
theorem dX0_copyMill_30 : decode cX0_copyMill 30 = .ok (.getfield 21, 3) := by decide +kernel
theorem dX0_copyMill_33 : decode cX0_copyMill 33 = .ok (.iconst 0, 1) := by decide +kernel
theorem dX0_copyMill_34 : decode cX0_copyMill 34 = .ok (.bipush 8, 2) := by decide +kernel
theorem dX0_copyMill_36 : decode cX0_copyMill 36 = .ok (.invokestatic 28, 3) := by decide +kernel
theorem dX0_copyMill_39 : decode cX0_copyMill 39 = .ok (.aload_n 1, 1) := by decide +kernel
theorem dX0_copyMill_40 : decode cX0_copyMill 40 = .ok (.getfield 25, 3) := by decide +kernel
theorem dX0_copyMill_43 : decode cX0_copyMill 43 = .ok (.iconst 0, 1) := by decide +kernel
theorem dX0_copyMill_44 : decode cX0_copyMill 44 = .ok (.aload_n 0, 1) := by decide +kernel
theorem dX0_copyMill_45 : decode cX0_copyMill 45 = .ok (.getfield 25, 3) := by decide +kernel
theorem dX0_copyMill_48 : decode cX0_copyMill 48 = .ok (.iconst 0, 1) := by decide +kernel
theorem dX0_copyMill_49 : decode cX0_copyMill 49 = .ok (.bipush 8, 2) := by decide +kernel
theorem dX0_copyMill_51 : decode cX0_copyMill 51 = .ok (.invokestatic 28, 3) := by decide +kernel
theorem dX0_copyMill_54 : decode cX0_copyMill 54 = .ok (.return_, 1) := by decide +kernel
theorem dX0_addLot_0 : decode cX0_addLot 0 = .ok (.aload_n 0, 1) := by decide +kernel
theorem dX0_addLot_1 : decode cX0_addLot 1 = .ok (.getfield 21, 3) := by decide +kernel
theorem dX0_addLot_4 : decode cX0_addLot 4 = .ok (.aload_n 0, 1) := by decide +kernel
theorem dX0_addLot_5 : decode cX0_addLot 5 = .ok (.getfield 18, 3) := by decide +kernel
theorem dX0_addLot_8 : decode cX0_addLot 8 = .ok (.iload_n 1, 1) := by decide +kernel
theorem dX0_addLot_9 : decode cX0_addLot 9 = .ok (.iastore, 1) := by decide +kernel
theorem dX0_addLot_10 : decode cX0_addLot 10 = .ok (.aload_n 0, 1) := by decide +kernel
theorem dX0_addLot_11 : decode cX0_addLot 11 = .ok (.getfield 25, 3) := by decide +kernel
theorem dX0_addLot_14 : decode cX0_addLot 14 = .ok (.aload_n 0, 1) := by decide +kernel
theorem dX0_addLot_15 : decode cX0_addLot 15 = .ok (.getfield 18, 3) := by decide +kernel
theorem dX0_addLot_18 : decode cX0_addLot 18 = .ok (.iload_n 2, 1) := by decide +kernel
theorem dX0_addLot_19 : decode cX0_addLot 19 = .ok (.iastore, 1) := by decide +kernel
theorem dX0_addLot_20 : decode cX0_addLot 20 = .ok (.aload_n 0, 1) := by decide +kernel
theorem dX0_addLot_21 : decode cX0_addLot 21 = .ok (.dup, 1) := by decide +kernel
theorem dX0_addLot_22 : decode cX0_addLot 22 = .ok (.getfield 18, 3) := by decide +kernel
theorem dX0_addLot_25 : decode cX0_addLot 25 = .ok (.iconst 1, 1) := by decide +kernel
theorem dX0_addLot_26 : decode cX0_addLot 26 = .ok (.iadd, 1) := by decide +kernel
theorem dX0_addLot_27 : decode cX0_addLot 27 = .ok (.putfield 18, 3) := by decide +kernel
theorem dX0_addLot_30 : decode cX0_addLot 30 = .ok (.return_, 1) := by decide +kernel
theorem dX0_sacksWaiting_0 : decode cX0_sacksWaiting 0 = .ok (.iconst 0, 1) := by decide +kernel
theorem dX0_sacksWaiting_1 : decode cX0_sacksWaiting 1 = .ok (.istore_n 1, 1) := by decide +kernel
theorem dX0_sacksWaiting_2 : decode cX0_sacksWaiting 2 = .ok (.iconst 0, 1) := by decide +kernel
theorem dX0_sacksWaiting_3 : decode cX0_sacksWaiting 3 = .ok (.istore_n 2, 1) := by decide +kernel
theorem dX0_sacksWaiting_4 : decode cX0_sacksWaiting 4 = .ok (.iload_n 2, 1) := by decide +kernel
theorem dX0_sacksWaiting_5 : decode cX0_sacksWaiting 5 = .ok (.aload_n 0, 1) := by decide +kernel
theorem dX0_sacksWaiting_6 : decode cX0_sacksWaiting 6 = .ok (.getfield 18, 3) := by decide +kernel
theorem dX0_sacksWaiting_9 : decode cX0_sacksWaiting 9 = .ok (.if_icmp .ge 18, 3) := by decide +kernel
theorem dX0_sacksWaiting_12 : decode cX0_sacksWaiting 12 = .ok (.iload_n 1, 1) := by decide +kernel
theorem dX0_sacksWaiting_13 : decode cX0_sacksWaiting 13 = .ok (.aload_n 0, 1) := by decide +kernel
theorem dX0_sacksWaiting_14 : decode cX0_sacksWaiting 14 = .ok (.getfield 25, 3) := by decide +kernel
theorem dX0_sacksWaiting_17 : decode cX0_sacksWaiting 17 = .ok (.iload_n 2, 1) := by decide +kernel
theorem dX0_sacksWaiting_18 : decode cX0_sacksWaiting 18 = .ok (.iaload, 1) := by decide +kernel
theorem dX0_sacksWaiting_19 : decode cX0_sacksWaiting 19 = .ok (.iadd, 1) := by decide +kernel
theorem dX0_sacksWaiting_20 : decode cX0_sacksWaiting 20 = .ok (.istore_n 1, 1) := by decide +kernel
theorem dX0_sacksWaiting_21 : decode cX0_sacksWaiting 21 = .ok (.iinc 2 1, 3) := by decide +kernel
theorem dX0_sacksWaiting_24 : decode cX0_sacksWaiting 24 = .ok (.goto (-20), 3) := by decide +kernel
theorem dX0_sacksWaiting_27 : decode cX0_sacksWaiting 27 = .ok (.iload_n 1, 1) := by decide +kernel
theorem dX0_sacksWaiting_28 : decode cX0_sacksWaiting 28 = .ok (.ireturn, 1) := by decide +kernel
theorem dX0_sacksWaitingOf_0 : decode cX0_sacksWaitingOf 0 = .ok (.iconst 0, 1) := by decide +kernel
theorem dX0_sacksWaitingOf_1 : decode cX0_sacksWaitingOf 1 = .ok (.istore_n 2, 1) := by decide +kernel
theorem dX0_sacksWaitingOf_2 : decode cX0_sacksWaitingOf 2 = .ok (.iconst 0, 1) := by decide +kernel
theorem dX0_sacksWaitingOf_3 : decode cX0_sacksWaitingOf 3 = .ok (.istore_n 3, 1) := by decide +kernel
theorem dX0_sacksWaitingOf_4 : decode cX0_sacksWaitingOf 4 = .ok (.iload_n 3, 1) := by decide +kernel
theorem dX0_sacksWaitingOf_5 : decode cX0_sacksWaitingOf 5 = .ok (.aload_n 0, 1) := by decide +kernel
theorem dX0_sacksWaitingOf_6 : decode cX0_sacksWaitingOf 6 = .ok (.getfield 18, 3) := by decide +kernel
theorem dX0_sacksWaitingOf_9 : decode cX0_sacksWaitingOf 9 = .ok (.if_icmp .ge 28, 3) := by decide +kernel
theorem dX0_sacksWaitingOf_12 : decode cX0_sacksWaitingOf 12 = .ok (.aload_n 0, 1) := by decide +kernel
theorem dX0_sacksWaitingOf_13 : decode cX0_sacksWaitingOf 13 = .ok (.getfield 21, 3) := by decide +kernel
theorem dX0_sacksWaitingOf_16 : decode cX0_sacksWaitingOf 16 = .ok (.iload_n 3, 1) := by decide +kernel
theorem dX0_sacksWaitingOf_17 : decode cX0_sacksWaitingOf 17 = .ok (.iaload, 1) := by decide +kernel
theorem dX0_sacksWaitingOf_18 : decode cX0_sacksWaitingOf 18 = .ok (.iload_n 1, 1) := by decide +kernel
theorem dX0_sacksWaitingOf_19 : decode cX0_sacksWaitingOf 19 = .ok (.if_icmp .ne 12, 3) := by decide +kernel
theorem dX0_sacksWaitingOf_22 : decode cX0_sacksWaitingOf 22 = .ok (.iload_n 2, 1) := by decide +kernel
theorem dX0_sacksWaitingOf_23 : decode cX0_sacksWaitingOf 23 = .ok (.aload_n 0, 1) := by decide +kernel
theorem dX0_sacksWaitingOf_24 : decode cX0_sacksWaitingOf 24 = .ok (.getfield 25, 3) := by decide +kernel
theorem dX0_sacksWaitingOf_27 : decode cX0_sacksWaitingOf 27 = .ok (.iload_n 3, 1) := by decide +kernel
theorem dX0_sacksWaitingOf_28 : decode cX0_sacksWaitingOf 28 = .ok (.iaload, 1) := by decide +kernel
theorem dX0_sacksWaitingOf_29 : decode cX0_sacksWaitingOf 29 = .ok (.iadd, 1) := by decide +kernel
theorem dX0_sacksWaitingOf_30 : decode cX0_sacksWaitingOf 30 = .ok (.istore_n 2, 1) := by decide +kernel
theorem dX0_sacksWaitingOf_31 : decode cX0_sacksWaitingOf 31 = .ok (.iinc 3 1, 3) := by decide +kernel
theorem dX0_sacksWaitingOf_34 : decode cX0_sacksWaitingOf 34 = .ok (.goto (-30), 3) := by decide +kernel
theorem dX0_sacksWaitingOf_37 : decode cX0_sacksWaitingOf 37 = .ok (.iload_n 2, 1) := by decide +kernel
theorem dX0_sacksWaitingOf_38 : decode cX0_sacksWaitingOf 38 = .ok (.ireturn, 1) := by decide +kernel
theorem dX0_flourOf_0 : decode cX0_flourOf 0 = .ok (.iload_n 2, 1) := by decide +kernel
theorem dX0_flourOf_1 : decode cX0_flourOf 1 = .ok (.istore_n 3, 1) := by decide +kernel
theorem dX0_flourOf_2 : decode cX0_flourOf 2 = .ok (.iconst 0, 1) := by decide +kernel
theorem dX0_flourOf_3 : decode cX0_flourOf 3 = .ok (.istore 4, 2) := by decide +kernel
theorem dX0_flourOf_5 : decode cX0_flourOf 5 = .ok (.iconst 0, 1) := by decide +kernel
theorem dX0_flourOf_6 : decode cX0_flourOf 6 = .ok (.istore 5, 2) := by decide +kernel
theorem dX0_flourOf_8 : decode cX0_flourOf 8 = .ok (.iload 5, 2) := by decide +kernel
theorem dX0_flourOf_10 : decode cX0_flourOf 10 = .ok (.aload_n 0, 1) := by decide +kernel
theorem dX0_flourOf_11 : decode cX0_flourOf 11 = .ok (.getfield 18, 3) := by decide +kernel
theorem dX0_flourOf_14 : decode cX0_flourOf 14 = .ok (.if_icmp .ge 49, 3) := by decide +kernel
theorem dX0_flourOf_17 : decode cX0_flourOf 17 = .ok (.iload_n 3, 1) := by decide +kernel
theorem dX0_flourOf_18 : decode cX0_flourOf 18 = .ok (.ifCond .le 45, 3) := by decide +kernel
theorem dX0_flourOf_21 : decode cX0_flourOf 21 = .ok (.iload_n 3, 1) := by decide +kernel
theorem dX0_flourOf_22 : decode cX0_flourOf 22 = .ok (.aload_n 0, 1) := by decide +kernel
theorem dX0_flourOf_23 : decode cX0_flourOf 23 = .ok (.getfield 25, 3) := by decide +kernel
theorem dX0_flourOf_26 : decode cX0_flourOf 26 = .ok (.iload 5, 2) := by decide +kernel
theorem dX0_flourOf_28 : decode cX0_flourOf 28 = .ok (.iaload, 1) := by decide +kernel
theorem dX0_flourOf_29 : decode cX0_flourOf 29 = .ok (.invokestatic 34, 3) := by decide +kernel
theorem dX0_flourOf_32 : decode cX0_flourOf 32 = .ok (.istore 6, 2) := by decide +kernel
theorem dX0_flourOf_34 : decode cX0_flourOf 34 = .ok (.iload_n 3, 1) := by decide +kernel
theorem dX0_flourOf_35 : decode cX0_flourOf 35 = .ok (.iload 6, 2) := by decide +kernel
theorem dX0_flourOf_37 : decode cX0_flourOf 37 = .ok (.isub, 1) := by decide +kernel
theorem dX0_flourOf_38 : decode cX0_flourOf 38 = .ok (.istore_n 3, 1) := by decide +kernel
theorem dX0_flourOf_39 : decode cX0_flourOf 39 = .ok (.aload_n 0, 1) := by decide +kernel
theorem dX0_flourOf_40 : decode cX0_flourOf 40 = .ok (.getfield 21, 3) := by decide +kernel
theorem dX0_flourOf_43 : decode cX0_flourOf 43 = .ok (.iload 5, 2) := by decide +kernel
theorem dX0_flourOf_45 : decode cX0_flourOf 45 = .ok (.iaload, 1) := by decide +kernel
theorem dX0_flourOf_46 : decode cX0_flourOf 46 = .ok (.iload_n 1, 1) := by decide +kernel
theorem dX0_flourOf_47 : decode cX0_flourOf 47 = .ok (.if_icmp .ne 10, 3) := by decide +kernel
theorem dX0_flourOf_50 : decode cX0_flourOf 50 = .ok (.iload 4, 2) := by decide +kernel
theorem dX0_flourOf_52 : decode cX0_flourOf 52 = .ok (.iload 6, 2) := by decide +kernel
theorem dX0_flourOf_54 : decode cX0_flourOf 54 = .ok (.iadd, 1) := by decide +kernel
theorem dX0_flourOf_55 : decode cX0_flourOf 55 = .ok (.istore 4, 2) := by decide +kernel
theorem dX0_flourOf_57 : decode cX0_flourOf 57 = .ok (.iinc 5 1, 3) := by decide +kernel
theorem dX0_flourOf_60 : decode cX0_flourOf 60 = .ok (.goto (-52), 3) := by decide +kernel
theorem dX0_flourOf_63 : decode cX0_flourOf 63 = .ok (.iload 4, 2) := by decide +kernel
theorem dX0_flourOf_65 : decode cX0_flourOf 65 = .ok (.ireturn, 1) := by decide +kernel
theorem dX0_grind_0 : decode cX0_grind 0 = .ok (.iload_n 1, 1) := by decide +kernel
theorem dX0_grind_1 : decode cX0_grind 1 = .ok (.istore_n 3, 1) := by decide +kernel
theorem dX0_grind_2 : decode cX0_grind 2 = .ok (.iconst 0, 1) := by decide +kernel
theorem dX0_grind_3 : decode cX0_grind 3 = .ok (.istore 4, 2) := by decide +kernel
theorem dX0_grind_5 : decode cX0_grind 5 = .ok (.iconst 0, 1) := by decide +kernel
theorem dX0_grind_6 : decode cX0_grind 6 = .ok (.istore 5, 2) := by decide +kernel
theorem dX0_grind_8 : decode cX0_grind 8 = .ok (.iload 5, 2) := by decide +kernel
theorem dX0_grind_10 : decode cX0_grind 10 = .ok (.aload_n 0, 1) := by decide +kernel
theorem dX0_grind_11 : decode cX0_grind 11 = .ok (.getfield 18, 3) := by decide +kernel
theorem dX0_grind_14 : decode cX0_grind 14 = .ok (.if_icmp .ge 70, 3) := by decide +kernel
theorem dX0_grind_17 : decode cX0_grind 17 = .ok (.iload_n 3, 1) := by decide +kernel
theorem dX0_grind_18 : decode cX0_grind 18 = .ok (.ifCond .le 66, 3) := by decide +kernel
theorem dX0_grind_21 : decode cX0_grind 21 = .ok (.iload_n 3, 1) := by decide +kernel
theorem dX0_grind_22 : decode cX0_grind 22 = .ok (.aload_n 0, 1) := by decide +kernel
theorem dX0_grind_23 : decode cX0_grind 23 = .ok (.getfield 25, 3) := by decide +kernel
theorem dX0_grind_26 : decode cX0_grind 26 = .ok (.iload 5, 2) := by decide +kernel
theorem dX0_grind_28 : decode cX0_grind 28 = .ok (.iaload, 1) := by decide +kernel
theorem dX0_grind_29 : decode cX0_grind 29 = .ok (.invokestatic 34, 3) := by decide +kernel
theorem dX0_grind_32 : decode cX0_grind 32 = .ok (.istore 6, 2) := by decide +kernel
theorem dX0_grind_34 : decode cX0_grind 34 = .ok (.iload_n 3, 1) := by decide +kernel
theorem dX0_grind_35 : decode cX0_grind 35 = .ok (.iload 6, 2) := by decide +kernel
theorem dX0_grind_37 : decode cX0_grind 37 = .ok (.isub, 1) := by decide +kernel
theorem dX0_grind_38 : decode cX0_grind 38 = .ok (.istore_n 3, 1) := by decide +kernel
theorem dX0_grind_39 : decode cX0_grind 39 = .ok (.aload_n 0, 1) := by decide +kernel
theorem dX0_grind_40 : decode cX0_grind 40 = .ok (.getfield 25, 3) := by decide +kernel
theorem dX0_grind_43 : decode cX0_grind 43 = .ok (.iload 5, 2) := by decide +kernel
theorem dX0_grind_45 : decode cX0_grind 45 = .ok (.dup2, 1) := by decide +kernel
theorem dX0_grind_46 : decode cX0_grind 46 = .ok (.iaload, 1) := by decide +kernel
theorem dX0_grind_47 : decode cX0_grind 47 = .ok (.iload 6, 2) := by decide +kernel
theorem dX0_grind_49 : decode cX0_grind 49 = .ok (.isub, 1) := by decide +kernel
theorem dX0_grind_50 : decode cX0_grind 50 = .ok (.iastore, 1) := by decide +kernel
theorem dX0_grind_51 : decode cX0_grind 51 = .ok (.aload_n 2, 1) := by decide +kernel
theorem dX0_grind_52 : decode cX0_grind 52 = .ok (.aload_n 0, 1) := by decide +kernel
theorem dX0_grind_53 : decode cX0_grind 53 = .ok (.getfield 21, 3) := by decide +kernel
theorem dX0_grind_56 : decode cX0_grind 56 = .ok (.iload 5, 2) := by decide +kernel
theorem dX0_grind_58 : decode cX0_grind 58 = .ok (.iaload, 1) := by decide +kernel
theorem dX0_grind_59 : decode cX0_grind 59 = .ok (.dup2, 1) := by decide +kernel
theorem dX0_grind_60 : decode cX0_grind 60 = .ok (.iaload, 1) := by decide +kernel
theorem dX0_grind_61 : decode cX0_grind 61 = .ok (.iload 6, 2) := by decide +kernel
theorem dX0_grind_63 : decode cX0_grind 63 = .ok (.iadd, 1) := by decide +kernel
theorem dX0_grind_64 : decode cX0_grind 64 = .ok (.iastore, 1) := by decide +kernel
theorem dX0_grind_65 : decode cX0_grind 65 = .ok (.aload_n 0, 1) := by decide +kernel
theorem dX0_grind_66 : decode cX0_grind 66 = .ok (.getfield 25, 3) := by decide +kernel
theorem dX0_grind_69 : decode cX0_grind 69 = .ok (.iload 5, 2) := by decide +kernel
theorem dX0_grind_71 : decode cX0_grind 71 = .ok (.iaload, 1) := by decide +kernel
theorem dX0_grind_72 : decode cX0_grind 72 = .ok (.ifCond .ne 6, 3) := by decide +kernel
theorem dX0_grind_75 : decode cX0_grind 75 = .ok (.iinc 4 1, 3) := by decide +kernel
theorem dX0_grind_78 : decode cX0_grind 78 = .ok (.iinc 5 1, 3) := by decide +kernel
theorem dX0_grind_81 : decode cX0_grind 81 = .ok (.goto (-73), 3) := by decide +kernel
theorem dX0_grind_84 : decode cX0_grind 84 = .ok (.aload_n 0, 1) := by decide +kernel
theorem dX0_grind_85 : decode cX0_grind 85 = .ok (.iload 4, 2) := by decide +kernel
theorem dX0_grind_87 : decode cX0_grind 87 = .ok (.invokevirtual 40, 3) := by decide +kernel
theorem dX0_grind_90 : decode cX0_grind 90 = .ok (.aload_n 0, 1) := by decide +kernel
theorem dX0_grind_91 : decode cX0_grind 91 = .ok (.dup, 1) := by decide +kernel
theorem dX0_grind_92 : decode cX0_grind 92 = .ok (.getfield 15, 3) := by decide +kernel
theorem dX0_grind_95 : decode cX0_grind 95 = .ok (.iload_n 1, 1) := by decide +kernel
theorem dX0_grind_96 : decode cX0_grind 96 = .ok (.iload_n 3, 1) := by decide +kernel
theorem dX0_grind_97 : decode cX0_grind 97 = .ok (.isub, 1) := by decide +kernel
theorem dX0_grind_98 : decode cX0_grind 98 = .ok (.iadd, 1) := by decide +kernel
theorem dX0_grind_99 : decode cX0_grind 99 = .ok (.putfield 15, 3) := by decide +kernel
theorem dX0_grind_102 : decode cX0_grind 102 = .ok (.iload_n 1, 1) := by decide +kernel
theorem dX0_grind_103 : decode cX0_grind 103 = .ok (.iload_n 3, 1) := by decide +kernel
theorem dX0_grind_104 : decode cX0_grind 104 = .ok (.isub, 1) := by decide +kernel
theorem dX0_grind_105 : decode cX0_grind 105 = .ok (.ireturn, 1) := by decide +kernel
theorem dX0_dropFirst_0 : decode cX0_dropFirst 0 = .ok (.aload_n 0, 1) := by decide +kernel
theorem dX0_dropFirst_1 : decode cX0_dropFirst 1 = .ok (.dup, 1) := by decide +kernel
theorem dX0_dropFirst_2 : decode cX0_dropFirst 2 = .ok (.getfield 18, 3) := by decide +kernel
theorem dX0_dropFirst_5 : decode cX0_dropFirst 5 = .ok (.iload_n 1, 1) := by decide +kernel
theorem dX0_dropFirst_6 : decode cX0_dropFirst 6 = .ok (.isub, 1) := by decide +kernel
theorem dX0_dropFirst_7 : decode cX0_dropFirst 7 = .ok (.putfield 18, 3) := by decide +kernel
theorem dX0_dropFirst_10 : decode cX0_dropFirst 10 = .ok (.iconst 0, 1) := by decide +kernel
theorem dX0_dropFirst_11 : decode cX0_dropFirst 11 = .ok (.istore_n 2, 1) := by decide +kernel
theorem dX0_dropFirst_12 : decode cX0_dropFirst 12 = .ok (.iload_n 2, 1) := by decide +kernel
theorem dX0_dropFirst_13 : decode cX0_dropFirst 13 = .ok (.aload_n 0, 1) := by decide +kernel
theorem dX0_dropFirst_14 : decode cX0_dropFirst 14 = .ok (.getfield 18, 3) := by decide +kernel
theorem dX0_dropFirst_17 : decode cX0_dropFirst 17 = .ok (.if_icmp .ge 37, 3) := by decide +kernel
theorem dX0_dropFirst_20 : decode cX0_dropFirst 20 = .ok (.aload_n 0, 1) := by decide +kernel
theorem dX0_dropFirst_21 : decode cX0_dropFirst 21 = .ok (.getfield 21, 3) := by decide +kernel
theorem dX0_dropFirst_24 : decode cX0_dropFirst 24 = .ok (.iload_n 2, 1) := by decide +kernel
theorem dX0_dropFirst_25 : decode cX0_dropFirst 25 = .ok (.aload_n 0, 1) := by decide +kernel
theorem dX0_dropFirst_26 : decode cX0_dropFirst 26 = .ok (.getfield 21, 3) := by decide +kernel
theorem dX0_dropFirst_29 : decode cX0_dropFirst 29 = .ok (.iload_n 2, 1) := by decide +kernel
theorem dX0_dropFirst_30 : decode cX0_dropFirst 30 = .ok (.iload_n 1, 1) := by decide +kernel
theorem dX0_dropFirst_31 : decode cX0_dropFirst 31 = .ok (.iadd, 1) := by decide +kernel
theorem dX0_dropFirst_32 : decode cX0_dropFirst 32 = .ok (.iaload, 1) := by decide +kernel
theorem dX0_dropFirst_33 : decode cX0_dropFirst 33 = .ok (.iastore, 1) := by decide +kernel
theorem dX0_dropFirst_34 : decode cX0_dropFirst 34 = .ok (.aload_n 0, 1) := by decide +kernel
theorem dX0_dropFirst_35 : decode cX0_dropFirst 35 = .ok (.getfield 25, 3) := by decide +kernel
theorem dX0_dropFirst_38 : decode cX0_dropFirst 38 = .ok (.iload_n 2, 1) := by decide +kernel
theorem dX0_dropFirst_39 : decode cX0_dropFirst 39 = .ok (.aload_n 0, 1) := by decide +kernel
theorem dX0_dropFirst_40 : decode cX0_dropFirst 40 = .ok (.getfield 25, 3) := by decide +kernel
theorem dX0_dropFirst_43 : decode cX0_dropFirst 43 = .ok (.iload_n 2, 1) := by decide +kernel
theorem dX0_dropFirst_44 : decode cX0_dropFirst 44 = .ok (.iload_n 1, 1) := by decide +kernel
theorem dX0_dropFirst_45 : decode cX0_dropFirst 45 = .ok (.iadd, 1) := by decide +kernel
theorem dX0_dropFirst_46 : decode cX0_dropFirst 46 = .ok (.iaload, 1) := by decide +kernel
theorem dX0_dropFirst_47 : decode cX0_dropFirst 47 = .ok (.iastore, 1) := by decide +kernel
theorem dX0_dropFirst_48 : decode cX0_dropFirst 48 = .ok (.iinc 2 1, 3) := by decide +kernel
theorem dX0_dropFirst_51 : decode cX0_dropFirst 51 = .ok (.goto (-39), 3) := by decide +kernel
theorem dX0_dropFirst_54 : decode cX0_dropFirst 54 = .ok (.return_, 1) := by decide +kernel
theorem dX1_init_0 : decode cX1_init 0 = .ok (.aload_n 0, 1) := by decide +kernel
theorem dX1_init_1 : decode cX1_init 1 = .ok (.invokespecial 3, 3) := by decide +kernel
theorem dX1_init_4 : decode cX1_init 4 = .ok (.aload_n 0, 1) := by decide +kernel
theorem dX1_init_5 : decode cX1_init 5 = .ok (.iconst 0, 1) := by decide +kernel
theorem dX1_init_6 : decode cX1_init 6 = .ok (.putfield 9, 3) := by decide +kernel
theorem dX1_init_9 : decode cX1_init 9 = .ok (.aload_n 0, 1) := by decide +kernel
theorem dX1_init_10 : decode cX1_init 10 = .ok (.iconst 0, 1) := by decide +kernel
theorem dX1_init_11 : decode cX1_init 11 = .ok (.putfield 15, 3) := by decide +kernel
theorem dX1_init_14 : decode cX1_init 14 = .ok (.aload_n 0, 1) := by decide +kernel
theorem dX1_init_15 : decode cX1_init 15 = .ok (.iconst 0, 1) := by decide +kernel
theorem dX1_init_16 : decode cX1_init 16 = .ok (.putfield 18, 3) := by decide +kernel
theorem dX1_init_19 : decode cX1_init 19 = .ok (.aload_n 0, 1) := by decide +kernel
theorem dX1_init_20 : decode cX1_init 20 = .ok (.iconst 0, 1) := by decide +kernel
theorem dX1_init_21 : decode cX1_init 21 = .ok (.putfield 21, 3) := by decide +kernel
theorem dX1_init_24 : decode cX1_init 24 = .ok (.aload_n 0, 1) := by decide +kernel
theorem dX1_init_25 : decode cX1_init 25 = .ok (.bipush 24, 2) := by decide +kernel
theorem dX1_init_27 : decode cX1_init 27 = .ok (.newarray .int, 2) := by decide +kernel
theorem dX1_init_29 : decode cX1_init 29 = .ok (.putfield 24, 3) := by decide +kernel
theorem dX1_init_32 : decode cX1_init 32 = .ok (.aload_n 0, 1) := by decide +kernel
theorem dX1_init_33 : decode cX1_init 33 = .ok (.bipush 24, 2) := by decide +kernel
theorem dX1_init_35 : decode cX1_init 35 = .ok (.newarray .int, 2) := by decide +kernel
theorem dX1_init_37 : decode cX1_init 37 = .ok (.putfield 28, 3) := by decide +kernel
theorem dX1_init_40 : decode cX1_init 40 = .ok (.aload_n 0, 1) := by decide +kernel
theorem dX1_init_41 : decode cX1_init 41 = .ok (.bipush 6, 2) := by decide +kernel
theorem dX1_init_43 : decode cX1_init 43 = .ok (.iconst 4, 1) := by decide +kernel
theorem dX1_init_44 : decode cX1_init 44 = .ok (.multianewarray 31 2, 4) := by decide +kernel
theorem dX1_init_48 : decode cX1_init 48 = .ok (.putfield 33, 3) := by decide +kernel
theorem dX1_init_51 : decode cX1_init 51 = .ok (.aload_n 0, 1) := by decide +kernel
theorem dX1_init_52 : decode cX1_init 52 = .ok (.iconst 2, 1) := by decide +kernel
theorem dX1_init_53 : decode cX1_init 53 = .ok (.newarray .int, 2) := by decide +kernel
theorem dX1_init_55 : decode cX1_init 55 = .ok (.putfield 36, 3) := by decide +kernel
theorem dX1_init_58 : decode cX1_init 58 = .ok (.aload_n 0, 1) := by decide +kernel
theorem dX1_init_59 : decode cX1_init 59 = .ok (.iconst 3, 1) := by decide +kernel
theorem dX1_init_60 : decode cX1_init 60 = .ok (.anewarray 39, 3) := by decide +kernel
theorem dX1_init_63 : decode cX1_init 63 = .ok (.putfield 41, 3) := by decide +kernel
theorem dX1_init_66 : decode cX1_init 66 = .ok (.aload_n 0, 1) := by decide +kernel
theorem dX1_init_67 : decode cX1_init 67 = .ok (.iconst 5, 1) := by decide +kernel
theorem dX1_init_68 : decode cX1_init 68 = .ok (.newarray .int, 2) := by decide +kernel
theorem dX1_init_70 : decode cX1_init 70 = .ok (.putfield 45, 3) := by decide +kernel
theorem dX1_init_73 : decode cX1_init 73 = .ok (.aload_n 0, 1) := by decide +kernel
theorem dX1_init_74 : decode cX1_init 74 = .ok (.iconst 5, 1) := by decide +kernel
theorem dX1_init_75 : decode cX1_init 75 = .ok (.newarray .int, 2) := by decide +kernel
theorem dX1_init_77 : decode cX1_init 77 = .ok (.putfield 48, 3) := by decide +kernel
theorem dX1_init_80 : decode cX1_init 80 = .ok (.aload_n 0, 1) := by decide +kernel
theorem dX1_init_81 : decode cX1_init 81 = .ok (.iconst 5, 1) := by decide +kernel
theorem dX1_init_82 : decode cX1_init 82 = .ok (.newarray .int, 2) := by decide +kernel
theorem dX1_init_84 : decode cX1_init 84 = .ok (.putfield 51, 3) := by decide +kernel
theorem dX1_init_87 : decode cX1_init 87 = .ok (.iconst 0, 1) := by decide +kernel
theorem dX1_init_88 : decode cX1_init 88 = .ok (.istore_n 1, 1) := by decide +kernel
theorem dX1_init_89 : decode cX1_init 89 = .ok (.iload_n 1, 1) := by decide +kernel
theorem dX1_init_90 : decode cX1_init 90 = .ok (.bipush 24, 2) := by decide +kernel
theorem dX1_init_92 : decode cX1_init 92 = .ok (.if_icmp .ge 29, 3) := by decide +kernel
theorem dX1_init_95 : decode cX1_init 95 = .ok (.aload_n 0, 1) := by decide +kernel
theorem dX1_init_96 : decode cX1_init 96 = .ok (.getfield 24, 3) := by decide +kernel
theorem dX1_init_99 : decode cX1_init 99 = .ok (.iload_n 1, 1) := by decide +kernel
theorem dX1_init_100 : decode cX1_init 100 = .ok (.iload_n 1, 1) := by decide +kernel
theorem dX1_init_101 : decode cX1_init 101 = .ok (.bipush 8, 2) := by decide +kernel
theorem dX1_init_103 : decode cX1_init 103 = .ok (.irem, 1) := by decide +kernel
theorem dX1_init_104 : decode cX1_init 104 = .ok (.iastore, 1) := by decide +kernel
theorem dX1_init_105 : decode cX1_init 105 = .ok (.aload_n 0, 1) := by decide +kernel
theorem dX1_init_106 : decode cX1_init 106 = .ok (.getfield 28, 3) := by decide +kernel
theorem dX1_init_109 : decode cX1_init 109 = .ok (.iload_n 1, 1) := by decide +kernel
theorem dX1_init_110 : decode cX1_init 110 = .ok (.iload_n 1, 1) := by decide +kernel
theorem dX1_init_111 : decode cX1_init 111 = .ok (.bipush 10, 2) := by decide +kernel
theorem dX1_init_113 : decode cX1_init 113 = .ok (.irem, 1) := by decide +kernel
theorem dX1_init_114 : decode cX1_init 114 = .ok (.iastore, 1) := by decide +kernel
theorem dX1_init_115 : decode cX1_init 115 = .ok (.iinc 1 1, 3) := by decide +kernel
theorem dX1_init_118 : decode cX1_init 118 = .ok (.goto (-29), 3) := by decide +kernel
theorem dX1_init_121 : decode cX1_init 121 = .ok (.iconst 0, 1) := by decide +kernel
theorem dX1_init_122 : decode cX1_init 122 = .ok (.istore_n 1, 1) := by decide +kernel
theorem dX1_init_123 : decode cX1_init 123 = .ok (.iload_n 1, 1) := by decide +kernel
theorem dX1_init_124 : decode cX1_init 124 = .ok (.bipush 6, 2) := by decide +kernel
theorem dX1_init_126 : decode cX1_init 126 = .ok (.if_icmp .ge 36, 3) := by decide +kernel
theorem dX1_init_129 : decode cX1_init 129 = .ok (.aload_n 0, 1) := by decide +kernel
theorem dX1_init_130 : decode cX1_init 130 = .ok (.getfield 33, 3) := by decide +kernel
theorem dX1_init_133 : decode cX1_init 133 = .ok (.iload_n 1, 1) := by decide +kernel
theorem dX1_init_134 : decode cX1_init 134 = .ok (.aaload, 1) := by decide +kernel
theorem dX1_init_135 : decode cX1_init 135 = .ok (.iconst 0, 1) := by decide +kernel
theorem dX1_init_136 : decode cX1_init 136 = .ok (.iload_n 1, 1) := by decide +kernel
theorem dX1_init_137 : decode cX1_init 137 = .ok (.iastore, 1) := by decide +kernel
theorem dX1_init_138 : decode cX1_init 138 = .ok (.aload_n 0, 1) := by decide +kernel
theorem dX1_init_139 : decode cX1_init 139 = .ok (.getfield 33, 3) := by decide +kernel
theorem dX1_init_142 : decode cX1_init 142 = .ok (.iload_n 1, 1) := by decide +kernel
theorem dX1_init_143 : decode cX1_init 143 = .ok (.aaload, 1) := by decide +kernel
theorem dX1_init_144 : decode cX1_init 144 = .ok (.iconst 1, 1) := by decide +kernel
theorem dX1_init_145 : decode cX1_init 145 = .ok (.iconst 2, 1) := by decide +kernel
theorem dX1_init_146 : decode cX1_init 146 = .ok (.iastore, 1) := by decide +kernel
theorem dX1_init_147 : decode cX1_init 147 = .ok (.aload_n 0, 1) := by decide +kernel
theorem dX1_init_148 : decode cX1_init 148 = .ok (.getfield 33, 3) := by decide +kernel
theorem dX1_init_151 : decode cX1_init 151 = .ok (.iload_n 1, 1) := by decide +kernel
theorem dX1_init_152 : decode cX1_init 152 = .ok (.aaload, 1) := by decide +kernel
theorem dX1_init_153 : decode cX1_init 153 = .ok (.iconst 2, 1) := by decide +kernel
theorem dX1_init_154 : decode cX1_init 154 = .ok (.iconst 1, 1) := by decide +kernel
theorem dX1_init_155 : decode cX1_init 155 = .ok (.iastore, 1) := by decide +kernel
theorem dX1_init_156 : decode cX1_init 156 = .ok (.iinc 1 1, 3) := by decide +kernel
theorem dX1_init_159 : decode cX1_init 159 = .ok (.goto (-36), 3) := by decide +kernel
theorem dX1_init_162 : decode cX1_init 162 = .ok (.iconst 0, 1) := by decide +kernel
theorem dX1_init_163 : decode cX1_init 163 = .ok (.istore_n 1, 1) := by decide +kernel
theorem dX1_init_164 : decode cX1_init 164 = .ok (.iload_n 1, 1) := by decide +kernel
theorem dX1_init_165 : decode cX1_init 165 = .ok (.iconst 3, 1) := by decide +kernel
theorem dX1_init_166 : decode cX1_init 166 = .ok (.if_icmp .ge 22, 3) := by decide +kernel
theorem dX1_init_169 : decode cX1_init 169 = .ok (.aload_n 0, 1) := by decide +kernel
theorem dX1_init_170 : decode cX1_init 170 = .ok (.getfield 41, 3) := by decide +kernel
theorem dX1_init_173 : decode cX1_init 173 = .ok (.iload_n 1, 1) := by decide +kernel
theorem dX1_init_174 : decode cX1_init 174 = .ok (.new 39, 3) := by decide +kernel
theorem dX1_init_177 : decode cX1_init 177 = .ok (.dup, 1) := by decide +kernel
theorem dX1_init_178 : decode cX1_init 178 = .ok (.invokespecial 54, 3) := by decide +kernel
theorem dX1_init_181 : decode cX1_init 181 = .ok (.aastore, 1) := by decide +kernel
theorem dX1_init_182 : decode cX1_init 182 = .ok (.iinc 1 1, 3) := by decide +kernel
theorem dX1_init_185 : decode cX1_init 185 = .ok (.goto (-21), 3) := by decide +kernel
theorem dX1_init_188 : decode cX1_init 188 = .ok (.aload_n 0, 1) := by decide +kernel
theorem dX1_init_189 : decode cX1_init 189 = .ok (.getfield 36, 3) := by decide +kernel
theorem dX1_init_192 : decode cX1_init 192 = .ok (.iconst 0, 1) := by decide +kernel
theorem dX1_init_193 : decode cX1_init 193 = .ok (.iconst 3, 1) := by decide +kernel
theorem dX1_init_194 : decode cX1_init 194 = .ok (.iastore, 1) := by decide +kernel
theorem dX1_init_195 : decode cX1_init 195 = .ok (.return_, 1) := by decide +kernel
theorem dX1_copyFrom_0 : decode cX1_copyFrom 0 = .ok (.aload_n 0, 1) := by decide +kernel
theorem dX1_copyFrom_1 : decode cX1_copyFrom 1 = .ok (.aload_n 1, 1) := by decide +kernel
theorem dX1_copyFrom_2 : decode cX1_copyFrom 2 = .ok (.getfield 9, 3) := by decide +kernel
theorem dX1_copyFrom_5 : decode cX1_copyFrom 5 = .ok (.putfield 9, 3) := by decide +kernel
theorem dX1_copyFrom_8 : decode cX1_copyFrom 8 = .ok (.aload_n 0, 1) := by decide +kernel
theorem dX1_copyFrom_9 : decode cX1_copyFrom 9 = .ok (.aload_n 1, 1) := by decide +kernel
theorem dX1_copyFrom_10 : decode cX1_copyFrom 10 = .ok (.getfield 15, 3) := by decide +kernel
theorem dX1_copyFrom_13 : decode cX1_copyFrom 13 = .ok (.putfield 15, 3) := by decide +kernel
theorem dX1_copyFrom_16 : decode cX1_copyFrom 16 = .ok (.aload_n 0, 1) := by decide +kernel
theorem dX1_copyFrom_17 : decode cX1_copyFrom 17 = .ok (.aload_n 1, 1) := by decide +kernel
theorem dX1_copyFrom_18 : decode cX1_copyFrom 18 = .ok (.getfield 18, 3) := by decide +kernel
theorem dX1_copyFrom_21 : decode cX1_copyFrom 21 = .ok (.putfield 18, 3) := by decide +kernel
theorem dX1_copyFrom_24 : decode cX1_copyFrom 24 = .ok (.aload_n 0, 1) := by decide +kernel
theorem dX1_copyFrom_25 : decode cX1_copyFrom 25 = .ok (.aload_n 1, 1) := by decide +kernel
theorem dX1_copyFrom_26 : decode cX1_copyFrom 26 = .ok (.getfield 21, 3) := by decide +kernel
theorem dX1_copyFrom_29 : decode cX1_copyFrom 29 = .ok (.putfield 21, 3) := by decide +kernel
theorem dX1_copyFrom_32 : decode cX1_copyFrom 32 = .ok (.aload_n 1, 1) := by decide +kernel
theorem dX1_copyFrom_33 : decode cX1_copyFrom 33 = .ok (.getfield 24, 3) := by decide +kernel
theorem dX1_copyFrom_36 : decode cX1_copyFrom 36 = .ok (.iconst 0, 1) := by decide +kernel
theorem dX1_copyFrom_37 : decode cX1_copyFrom 37 = .ok (.aload_n 0, 1) := by decide +kernel
theorem dX1_copyFrom_38 : decode cX1_copyFrom 38 = .ok (.getfield 24, 3) := by decide +kernel
theorem dX1_copyFrom_41 : decode cX1_copyFrom 41 = .ok (.iconst 0, 1) := by decide +kernel
theorem dX1_copyFrom_42 : decode cX1_copyFrom 42 = .ok (.bipush 24, 2) := by decide +kernel
theorem dX1_copyFrom_44 : decode cX1_copyFrom 44 = .ok (.invokestatic 55, 3) := by decide +kernel
theorem dX1_copyFrom_47 : decode cX1_copyFrom 47 = .ok (.aload_n 1, 1) := by decide +kernel
theorem dX1_copyFrom_48 : decode cX1_copyFrom 48 = .ok (.getfield 28, 3) := by decide +kernel
theorem dX1_copyFrom_51 : decode cX1_copyFrom 51 = .ok (.iconst 0, 1) := by decide +kernel
theorem dX1_copyFrom_52 : decode cX1_copyFrom 52 = .ok (.aload_n 0, 1) := by decide +kernel
theorem dX1_copyFrom_53 : decode cX1_copyFrom 53 = .ok (.getfield 28, 3) := by decide +kernel
theorem dX1_copyFrom_56 : decode cX1_copyFrom 56 = .ok (.iconst 0, 1) := by decide +kernel
theorem dX1_copyFrom_57 : decode cX1_copyFrom 57 = .ok (.bipush 24, 2) := by decide +kernel
theorem dX1_copyFrom_59 : decode cX1_copyFrom 59 = .ok (.invokestatic 55, 3) := by decide +kernel
theorem dX1_copyFrom_62 : decode cX1_copyFrom 62 = .ok (.iconst 0, 1) := by decide +kernel
theorem dX1_copyFrom_63 : decode cX1_copyFrom 63 = .ok (.istore_n 2, 1) := by decide +kernel
theorem dX1_copyFrom_64 : decode cX1_copyFrom 64 = .ok (.iload_n 2, 1) := by decide +kernel
theorem dX1_copyFrom_65 : decode cX1_copyFrom 65 = .ok (.bipush 6, 2) := by decide +kernel
theorem dX1_copyFrom_67 : decode cX1_copyFrom 67 = .ok (.if_icmp .ge 27, 3) := by decide +kernel
theorem dX1_copyFrom_70 : decode cX1_copyFrom 70 = .ok (.aload_n 1, 1) := by decide +kernel
theorem dX1_copyFrom_71 : decode cX1_copyFrom 71 = .ok (.getfield 33, 3) := by decide +kernel
theorem dX1_copyFrom_74 : decode cX1_copyFrom 74 = .ok (.iload_n 2, 1) := by decide +kernel
theorem dX1_copyFrom_75 : decode cX1_copyFrom 75 = .ok (.aaload, 1) := by decide +kernel
theorem dX1_copyFrom_76 : decode cX1_copyFrom 76 = .ok (.iconst 0, 1) := by decide +kernel
theorem dX1_copyFrom_77 : decode cX1_copyFrom 77 = .ok (.aload_n 0, 1) := by decide +kernel
theorem dX1_copyFrom_78 : decode cX1_copyFrom 78 = .ok (.getfield 33, 3) := by decide +kernel
theorem dX1_copyFrom_81 : decode cX1_copyFrom 81 = .ok (.iload_n 2, 1) := by decide +kernel
theorem dX1_copyFrom_82 : decode cX1_copyFrom 82 = .ok (.aaload, 1) := by decide +kernel
theorem dX1_copyFrom_83 : decode cX1_copyFrom 83 = .ok (.iconst 0, 1) := by decide +kernel
theorem dX1_copyFrom_84 : decode cX1_copyFrom 84 = .ok (.iconst 4, 1) := by decide +kernel
theorem dX1_copyFrom_85 : decode cX1_copyFrom 85 = .ok (.invokestatic 55, 3) := by decide +kernel
theorem dX1_copyFrom_88 : decode cX1_copyFrom 88 = .ok (.iinc 2 1, 3) := by decide +kernel
theorem dX1_copyFrom_91 : decode cX1_copyFrom 91 = .ok (.goto (-27), 3) := by decide +kernel
theorem dX1_copyFrom_94 : decode cX1_copyFrom 94 = .ok (.aload_n 1, 1) := by decide +kernel
theorem dX1_copyFrom_95 : decode cX1_copyFrom 95 = .ok (.getfield 36, 3) := by decide +kernel
theorem dX1_copyFrom_98 : decode cX1_copyFrom 98 = .ok (.iconst 0, 1) := by decide +kernel
theorem dX1_copyFrom_99 : decode cX1_copyFrom 99 = .ok (.aload_n 0, 1) := by decide +kernel
theorem dX1_copyFrom_100 : decode cX1_copyFrom 100 = .ok (.getfield 36, 3) := by decide +kernel
theorem dX1_copyFrom_103 : decode cX1_copyFrom 103 = .ok (.iconst 0, 1) := by decide +kernel
theorem dX1_copyFrom_104 : decode cX1_copyFrom 104 = .ok (.iconst 2, 1) := by decide +kernel
theorem dX1_copyFrom_105 : decode cX1_copyFrom 105 = .ok (.invokestatic 55, 3) := by decide +kernel
theorem dX1_copyFrom_108 : decode cX1_copyFrom 108 = .ok (.iconst 0, 1) := by decide +kernel
theorem dX1_copyFrom_109 : decode cX1_copyFrom 109 = .ok (.istore_n 2, 1) := by decide +kernel
theorem dX1_copyFrom_110 : decode cX1_copyFrom 110 = .ok (.iload_n 2, 1) := by decide +kernel
theorem dX1_copyFrom_111 : decode cX1_copyFrom 111 = .ok (.iconst 3, 1) := by decide +kernel
theorem dX1_copyFrom_112 : decode cX1_copyFrom 112 = .ok (.if_icmp .ge 24, 3) := by decide +kernel
theorem dX1_copyFrom_115 : decode cX1_copyFrom 115 = .ok (.aload_n 0, 1) := by decide +kernel
theorem dX1_copyFrom_116 : decode cX1_copyFrom 116 = .ok (.getfield 41, 3) := by decide +kernel
theorem dX1_copyFrom_119 : decode cX1_copyFrom 119 = .ok (.iload_n 2, 1) := by decide +kernel
theorem dX1_copyFrom_120 : decode cX1_copyFrom 120 = .ok (.aaload, 1) := by decide +kernel
theorem dX1_copyFrom_121 : decode cX1_copyFrom 121 = .ok (.aload_n 1, 1) := by decide +kernel
theorem dX1_copyFrom_122 : decode cX1_copyFrom 122 = .ok (.getfield 41, 3) := by decide +kernel
theorem dX1_copyFrom_125 : decode cX1_copyFrom 125 = .ok (.iload_n 2, 1) := by decide +kernel
theorem dX1_copyFrom_126 : decode cX1_copyFrom 126 = .ok (.aaload, 1) := by decide +kernel
theorem dX1_copyFrom_127 : decode cX1_copyFrom 127 = .ok (.invokevirtual 61, 3) := by decide +kernel
theorem dX1_copyFrom_130 : decode cX1_copyFrom 130 = .ok (.iinc 2 1, 3) := by decide +kernel
theorem dX1_copyFrom_133 : decode cX1_copyFrom 133 = .ok (.goto (-23), 3) := by decide +kernel
theorem dX1_copyFrom_136 : decode cX1_copyFrom 136 = .ok (.aload_n 1, 1) := by decide +kernel
theorem dX1_copyFrom_137 : decode cX1_copyFrom 137 = .ok (.getfield 45, 3) := by decide +kernel
theorem dX1_copyFrom_140 : decode cX1_copyFrom 140 = .ok (.iconst 0, 1) := by decide +kernel
theorem dX1_copyFrom_141 : decode cX1_copyFrom 141 = .ok (.aload_n 0, 1) := by decide +kernel
theorem dX1_copyFrom_142 : decode cX1_copyFrom 142 = .ok (.getfield 45, 3) := by decide +kernel
theorem dX1_copyFrom_145 : decode cX1_copyFrom 145 = .ok (.iconst 0, 1) := by decide +kernel
theorem dX1_copyFrom_146 : decode cX1_copyFrom 146 = .ok (.iconst 5, 1) := by decide +kernel
theorem dX1_copyFrom_147 : decode cX1_copyFrom 147 = .ok (.invokestatic 55, 3) := by decide +kernel
theorem dX1_copyFrom_150 : decode cX1_copyFrom 150 = .ok (.aload_n 1, 1) := by decide +kernel
theorem dX1_copyFrom_151 : decode cX1_copyFrom 151 = .ok (.getfield 48, 3) := by decide +kernel
theorem dX1_copyFrom_154 : decode cX1_copyFrom 154 = .ok (.iconst 0, 1) := by decide +kernel
theorem dX1_copyFrom_155 : decode cX1_copyFrom 155 = .ok (.aload_n 0, 1) := by decide +kernel
theorem dX1_copyFrom_156 : decode cX1_copyFrom 156 = .ok (.getfield 48, 3) := by decide +kernel
theorem dX1_copyFrom_159 : decode cX1_copyFrom 159 = .ok (.iconst 0, 1) := by decide +kernel
theorem dX1_copyFrom_160 : decode cX1_copyFrom 160 = .ok (.iconst 5, 1) := by decide +kernel
theorem dX1_copyFrom_161 : decode cX1_copyFrom 161 = .ok (.invokestatic 55, 3) := by decide +kernel
theorem dX1_copyFrom_164 : decode cX1_copyFrom 164 = .ok (.aload_n 1, 1) := by decide +kernel
theorem dX1_copyFrom_165 : decode cX1_copyFrom 165 = .ok (.getfield 51, 3) := by decide +kernel
theorem dX1_copyFrom_168 : decode cX1_copyFrom 168 = .ok (.iconst 0, 1) := by decide +kernel
theorem dX1_copyFrom_169 : decode cX1_copyFrom 169 = .ok (.aload_n 0, 1) := by decide +kernel
theorem dX1_copyFrom_170 : decode cX1_copyFrom 170 = .ok (.getfield 51, 3) := by decide +kernel
theorem dX1_copyFrom_173 : decode cX1_copyFrom 173 = .ok (.iconst 0, 1) := by decide +kernel
theorem dX1_copyFrom_174 : decode cX1_copyFrom 174 = .ok (.iconst 5, 1) := by decide +kernel
theorem dX1_copyFrom_175 : decode cX1_copyFrom 175 = .ok (.invokestatic 55, 3) := by decide +kernel
theorem dX1_copyFrom_178 : decode cX1_copyFrom 178 = .ok (.return_, 1) := by decide +kernel
theorem dX1_vaneAgrees_0 : decode cX1_vaneAgrees 0 = .ok (.aload_n 0, 1) := by decide +kernel
theorem dX1_vaneAgrees_1 : decode cX1_vaneAgrees 1 = .ok (.getfield 33, 3) := by decide +kernel
theorem dX1_vaneAgrees_4 : decode cX1_vaneAgrees 4 = .ok (.iload_n 1, 1) := by decide +kernel
theorem dX1_vaneAgrees_5 : decode cX1_vaneAgrees 5 = .ok (.aaload, 1) := by decide +kernel
theorem dX1_vaneAgrees_6 : decode cX1_vaneAgrees 6 = .ok (.astore_n 3, 1) := by decide +kernel
theorem dX1_vaneAgrees_7 : decode cX1_vaneAgrees 7 = .ok (.aload_n 0, 1) := by decide +kernel
theorem dX1_vaneAgrees_8 : decode cX1_vaneAgrees 8 = .ok (.getfield 28, 3) := by decide +kernel
theorem dX1_vaneAgrees_11 : decode cX1_vaneAgrees 11 = .ok (.iload_n 2, 1) := by decide +kernel
theorem dX1_vaneAgrees_12 : decode cX1_vaneAgrees 12 = .ok (.iaload, 1) := by decide +kernel
theorem dX1_vaneAgrees_13 : decode cX1_vaneAgrees 13 = .ok (.aload_n 3, 1) := by decide +kernel
theorem dX1_vaneAgrees_14 : decode cX1_vaneAgrees 14 = .ok (.iconst 2, 1) := by decide +kernel
theorem dX1_vaneAgrees_15 : decode cX1_vaneAgrees 15 = .ok (.iaload, 1) := by decide +kernel
theorem dX1_vaneAgrees_16 : decode cX1_vaneAgrees 16 = .ok (.if_icmp .ge 5, 3) := by decide +kernel
theorem dX1_vaneAgrees_19 : decode cX1_vaneAgrees 19 = .ok (.iconst 0, 1) := by decide +kernel
theorem dX1_vaneAgrees_20 : decode cX1_vaneAgrees 20 = .ok (.ireturn, 1) := by decide +kernel
theorem dX1_vaneAgrees_21 : decode cX1_vaneAgrees 21 = .ok (.aload_n 0, 1) := by decide +kernel
theorem dX1_vaneAgrees_22 : decode cX1_vaneAgrees 22 = .ok (.getfield 24, 3) := by decide +kernel
theorem dX1_vaneAgrees_25 : decode cX1_vaneAgrees 25 = .ok (.iload_n 2, 1) := by decide +kernel
theorem dX1_vaneAgrees_26 : decode cX1_vaneAgrees 26 = .ok (.iaload, 1) := by decide +kernel
theorem dX1_vaneAgrees_27 : decode cX1_vaneAgrees 27 = .ok (.aload_n 3, 1) := by decide +kernel
theorem dX1_vaneAgrees_28 : decode cX1_vaneAgrees 28 = .ok (.iconst 0, 1) := by decide +kernel
theorem dX1_vaneAgrees_29 : decode cX1_vaneAgrees 29 = .ok (.iaload, 1) := by decide +kernel
theorem dX1_vaneAgrees_30 : decode cX1_vaneAgrees 30 = .ok (.isub, 1) := by decide +kernel
theorem dX1_vaneAgrees_31 : decode cX1_vaneAgrees 31 = .ok (.istore 4, 2) := by decide +kernel
theorem dX1_vaneAgrees_33 : decode cX1_vaneAgrees 33 = .ok (.iload 4, 2) := by decide +kernel
theorem dX1_vaneAgrees_35 : decode cX1_vaneAgrees 35 = .ok (.ifCond .ge 8, 3) := by decide +kernel
theorem dX1_vaneAgrees_38 : decode cX1_vaneAgrees 38 = .ok (.iload 4, 2) := by decide +kernel
theorem dX1_vaneAgrees_40 : decode cX1_vaneAgrees 40 = .ok (.ineg, 1) := by decide +kernel
theorem dX1_vaneAgrees_41 : decode cX1_vaneAgrees 41 = .ok (.istore 4, 2) := by decide +kernel
theorem dX1_vaneAgrees_43 : decode cX1_vaneAgrees 43 = .ok (.bipush 8, 2) := by decide +kernel
theorem dX1_vaneAgrees_45 : decode cX1_vaneAgrees 45 = .ok (.iload 4, 2) := by decide +kernel
theorem dX1_vaneAgrees_47 : decode cX1_vaneAgrees 47 = .ok (.isub, 1) := by decide +kernel
theorem dX1_vaneAgrees_48 : decode cX1_vaneAgrees 48 = .ok (.istore 5, 2) := by decide +kernel
theorem dX1_vaneAgrees_50 : decode cX1_vaneAgrees 50 = .ok (.iload 4, 2) := by decide +kernel
theorem dX1_vaneAgrees_52 : decode cX1_vaneAgrees 52 = .ok (.aload_n 3, 1) := by decide +kernel
theorem dX1_vaneAgrees_53 : decode cX1_vaneAgrees 53 = .ok (.iconst 1, 1) := by decide +kernel
theorem dX1_vaneAgrees_54 : decode cX1_vaneAgrees 54 = .ok (.iaload, 1) := by decide +kernel
theorem dX1_vaneAgrees_55 : decode cX1_vaneAgrees 55 = .ok (.if_icmp .le 11, 3) := by decide +kernel
theorem dX1_vaneAgrees_58 : decode cX1_vaneAgrees 58 = .ok (.iload 5, 2) := by decide +kernel
theorem dX1_vaneAgrees_60 : decode cX1_vaneAgrees 60 = .ok (.aload_n 3, 1) := by decide +kernel
theorem dX1_vaneAgrees_61 : decode cX1_vaneAgrees 61 = .ok (.iconst 1, 1) := by decide +kernel
theorem dX1_vaneAgrees_62 : decode cX1_vaneAgrees 62 = .ok (.iaload, 1) := by decide +kernel
theorem dX1_vaneAgrees_63 : decode cX1_vaneAgrees 63 = .ok (.if_icmp .gt 7, 3) := by decide +kernel
theorem dX1_vaneAgrees_66 : decode cX1_vaneAgrees 66 = .ok (.iconst 1, 1) := by decide +kernel
theorem dX1_vaneAgrees_67 : decode cX1_vaneAgrees 67 = .ok (.goto 4, 3) := by decide +kernel
theorem dX1_vaneAgrees_70 : decode cX1_vaneAgrees 70 = .ok (.iconst 0, 1) := by decide +kernel
theorem dX1_vaneAgrees_71 : decode cX1_vaneAgrees 71 = .ok (.ireturn, 1) := by decide +kernel
theorem dX1_committee_0 : decode cX1_committee 0 = .ok (.iconst 0, 1) := by decide +kernel
theorem dX1_committee_1 : decode cX1_committee 1 = .ok (.istore_n 1, 1) := by decide +kernel
theorem dX1_committee_2 : decode cX1_committee 2 = .ok (.iconst 0, 1) := by decide +kernel
theorem dX1_committee_3 : decode cX1_committee 3 = .ok (.istore_n 2, 1) := by decide +kernel
theorem dX1_committee_4 : decode cX1_committee 4 = .ok (.iload_n 2, 1) := by decide +kernel
theorem dX1_committee_5 : decode cX1_committee 5 = .ok (.bipush 6, 2) := by decide +kernel
theorem dX1_committee_7 : decode cX1_committee 7 = .ok (.if_icmp .ge 23, 3) := by decide +kernel
theorem dX1_committee_10 : decode cX1_committee 10 = .ok (.aload_n 0, 1) := by decide +kernel
theorem dX1_committee_11 : decode cX1_committee 11 = .ok (.getfield 33, 3) := by decide +kernel
theorem dX1_committee_14 : decode cX1_committee 14 = .ok (.iload_n 2, 1) := by decide +kernel
theorem dX1_committee_15 : decode cX1_committee 15 = .ok (.aaload, 1) := by decide +kernel
theorem dX1_committee_16 : decode cX1_committee 16 = .ok (.iconst 3, 1) := by decide +kernel
theorem dX1_committee_17 : decode cX1_committee 17 = .ok (.iaload, 1) := by decide +kernel
theorem dX1_committee_18 : decode cX1_committee 18 = .ok (.ifCond .ne 6, 3) := by decide +kernel
theorem dX1_committee_21 : decode cX1_committee 21 = .ok (.iinc 1 1, 3) := by decide +kernel
theorem dX1_committee_24 : decode cX1_committee 24 = .ok (.iinc 2 1, 3) := by decide +kernel
theorem dX1_committee_27 : decode cX1_committee 27 = .ok (.goto (-23), 3) := by decide +kernel
theorem dX1_committee_30 : decode cX1_committee 30 = .ok (.iload_n 1, 1) := by decide +kernel
theorem dX1_committee_31 : decode cX1_committee 31 = .ok (.ireturn, 1) := by decide +kernel
theorem dX1_votesIn_0 : decode cX1_votesIn 0 = .ok (.iconst 0, 1) := by decide +kernel
theorem dX1_votesIn_1 : decode cX1_votesIn 1 = .ok (.istore_n 2, 1) := by decide +kernel
theorem dX1_votesIn_2 : decode cX1_votesIn 2 = .ok (.iconst 0, 1) := by decide +kernel
theorem dX1_votesIn_3 : decode cX1_votesIn 3 = .ok (.istore_n 3, 1) := by decide +kernel
theorem dX1_votesIn_4 : decode cX1_votesIn 4 = .ok (.iload_n 3, 1) := by decide +kernel
theorem dX1_votesIn_5 : decode cX1_votesIn 5 = .ok (.bipush 6, 2) := by decide +kernel
theorem dX1_votesIn_7 : decode cX1_votesIn 7 = .ok (.if_icmp .ge 32, 3) := by decide +kernel
theorem dX1_votesIn_10 : decode cX1_votesIn 10 = .ok (.aload_n 0, 1) := by decide +kernel
theorem dX1_votesIn_11 : decode cX1_votesIn 11 = .ok (.getfield 33, 3) := by decide +kernel
theorem dX1_votesIn_14 : decode cX1_votesIn 14 = .ok (.iload_n 3, 1) := by decide +kernel
theorem dX1_votesIn_15 : decode cX1_votesIn 15 = .ok (.aaload, 1) := by decide +kernel
theorem dX1_votesIn_16 : decode cX1_votesIn 16 = .ok (.iconst 3, 1) := by decide +kernel
theorem dX1_votesIn_17 : decode cX1_votesIn 17 = .ok (.iaload, 1) := by decide +kernel
theorem dX1_votesIn_18 : decode cX1_votesIn 18 = .ok (.ifCond .ne 15, 3) := by decide +kernel
theorem dX1_votesIn_21 : decode cX1_votesIn 21 = .ok (.aload_n 0, 1) := by decide +kernel
theorem dX1_votesIn_22 : decode cX1_votesIn 22 = .ok (.iload_n 3, 1) := by decide +kernel
theorem dX1_votesIn_23 : decode cX1_votesIn 23 = .ok (.iload_n 1, 1) := by decide +kernel
theorem dX1_votesIn_24 : decode cX1_votesIn 24 = .ok (.invokevirtual 65, 3) := by decide +kernel
theorem dX1_votesIn_27 : decode cX1_votesIn 27 = .ok (.ifCond .eq 6, 3) := by decide +kernel
theorem dX1_votesIn_30 : decode cX1_votesIn 30 = .ok (.iinc 2 1, 3) := by decide +kernel
theorem dX1_votesIn_33 : decode cX1_votesIn 33 = .ok (.iinc 3 1, 3) := by decide +kernel
theorem dX1_votesIn_36 : decode cX1_votesIn 36 = .ok (.goto (-32), 3) := by decide +kernel
theorem dX1_votesIn_39 : decode cX1_votesIn 39 = .ok (.iload_n 2, 1) := by decide +kernel
theorem dX1_votesIn_40 : decode cX1_votesIn 40 = .ok (.ireturn, 1) := by decide +kernel
theorem dX1_verdictOf_0 : decode cX1_verdictOf 0 = .ok (.iload_n 1, 1) := by decide +kernel
theorem dX1_verdictOf_1 : decode cX1_verdictOf 1 = .ok (.aload_n 0, 1) := by decide +kernel
theorem dX1_verdictOf_2 : decode cX1_verdictOf 2 = .ok (.getfield 36, 3) := by decide +kernel
theorem dX1_verdictOf_5 : decode cX1_verdictOf 5 = .ok (.iconst 0, 1) := by decide +kernel
theorem dX1_verdictOf_6 : decode cX1_verdictOf 6 = .ok (.iaload, 1) := by decide +kernel
theorem dX1_verdictOf_7 : decode cX1_verdictOf 7 = .ok (.if_icmp .ge 5, 3) := by decide +kernel
theorem dX1_verdictOf_10 : decode cX1_verdictOf 10 = .ok (.iconst 1, 1) := by decide +kernel
theorem dX1_verdictOf_11 : decode cX1_verdictOf 11 = .ok (.ireturn, 1) := by decide +kernel
theorem dX1_verdictOf_12 : decode cX1_verdictOf 12 = .ok (.iconst 2, 1) := by decide +kernel
theorem dX1_verdictOf_13 : decode cX1_verdictOf 13 = .ok (.iload_n 2, 1) := by decide +kernel
theorem dX1_verdictOf_14 : decode cX1_verdictOf 14 = .ok (.imul, 1) := by decide +kernel
theorem dX1_verdictOf_15 : decode cX1_verdictOf 15 = .ok (.iload_n 1, 1) := by decide +kernel
theorem dX1_verdictOf_16 : decode cX1_verdictOf 16 = .ok (.if_icmp .gt 20, 3) := by decide +kernel
theorem dX1_verdictOf_19 : decode cX1_verdictOf 19 = .ok (.iconst 2, 1) := by decide +kernel
theorem dX1_verdictOf_20 : decode cX1_verdictOf 20 = .ok (.iload_n 2, 1) := by decide +kernel
theorem dX1_verdictOf_21 : decode cX1_verdictOf 21 = .ok (.imul, 1) := by decide +kernel
theorem dX1_verdictOf_22 : decode cX1_verdictOf 22 = .ok (.iload_n 1, 1) := by decide +kernel
theorem dX1_verdictOf_23 : decode cX1_verdictOf 23 = .ok (.if_icmp .ne 15, 3) := by decide +kernel
theorem dX1_verdictOf_26 : decode cX1_verdictOf 26 = .ok (.aload_n 0, 1) := by decide +kernel
theorem dX1_verdictOf_27 : decode cX1_verdictOf 27 = .ok (.getfield 36, 3) := by decide +kernel
theorem dX1_verdictOf_30 : decode cX1_verdictOf 30 = .ok (.iconst 1, 1) := by decide +kernel
theorem dX1_verdictOf_31 : decode cX1_verdictOf 31 = .ok (.iaload, 1) := by decide +kernel
theorem dX1_verdictOf_32 : decode cX1_verdictOf 32 = .ok (.iconst 1, 1) := by decide +kernel
theorem dX1_verdictOf_33 : decode cX1_verdictOf 33 = .ok (.if_icmp .ne 5, 3) := by decide +kernel
theorem dX1_verdictOf_36 : decode cX1_verdictOf 36 = .ok (.iconst 0, 1) := by decide +kernel
theorem dX1_verdictOf_37 : decode cX1_verdictOf 37 = .ok (.ireturn, 1) := by decide +kernel
theorem dX1_verdictOf_38 : decode cX1_verdictOf 38 = .ok (.iconst 2, 1) := by decide +kernel
theorem dX1_verdictOf_39 : decode cX1_verdictOf 39 = .ok (.ireturn, 1) := by decide +kernel
theorem dX1_verdictIn_0 : decode cX1_verdictIn 0 = .ok (.aload_n 0, 1) := by decide +kernel
theorem dX1_verdictIn_1 : decode cX1_verdictIn 1 = .ok (.aload_n 0, 1) := by decide +kernel
theorem dX1_verdictIn_2 : decode cX1_verdictIn 2 = .ok (.invokevirtual 69, 3) := by decide +kernel
theorem dX1_verdictIn_5 : decode cX1_verdictIn 5 = .ok (.aload_n 0, 1) := by decide +kernel
theorem dX1_verdictIn_6 : decode cX1_verdictIn 6 = .ok (.iload_n 1, 1) := by decide +kernel
theorem dX1_verdictIn_7 : decode cX1_verdictIn 7 = .ok (.invokevirtual 73, 3) := by decide +kernel
theorem dX1_verdictIn_10 : decode cX1_verdictIn 10 = .ok (.invokevirtual 77, 3) := by decide +kernel
theorem dX1_verdictIn_13 : decode cX1_verdictIn 13 = .ok (.ireturn, 1) := by decide +kernel
theorem dX1_agreeingHours_0 : decode cX1_agreeingHours 0 = .ok (.iconst 0, 1) := by decide +kernel
theorem dX1_agreeingHours_1 : decode cX1_agreeingHours 1 = .ok (.istore_n 1, 1) := by decide +kernel
theorem dX1_agreeingHours_2 : decode cX1_agreeingHours 2 = .ok (.iconst 0, 1) := by decide +kernel
theorem dX1_agreeingHours_3 : decode cX1_agreeingHours 3 = .ok (.istore_n 2, 1) := by decide +kernel
theorem dX1_agreeingHours_4 : decode cX1_agreeingHours 4 = .ok (.iload_n 2, 1) := by decide +kernel
theorem dX1_agreeingHours_5 : decode cX1_agreeingHours 5 = .ok (.bipush 24, 2) := by decide +kernel
theorem dX1_agreeingHours_7 : decode cX1_agreeingHours 7 = .ok (.if_icmp .ge 20, 3) := by decide +kernel
theorem dX1_agreeingHours_10 : decode cX1_agreeingHours 10 = .ok (.aload_n 0, 1) := by decide +kernel
theorem dX1_agreeingHours_11 : decode cX1_agreeingHours 11 = .ok (.iload_n 2, 1) := by decide +kernel
theorem dX1_agreeingHours_12 : decode cX1_agreeingHours 12 = .ok (.invokevirtual 81, 3) := by decide +kernel
theorem dX1_agreeingHours_15 : decode cX1_agreeingHours 15 = .ok (.ifCond .ne 6, 3) := by decide +kernel
theorem dX1_agreeingHours_18 : decode cX1_agreeingHours 18 = .ok (.iinc 1 1, 3) := by decide +kernel
theorem dX1_agreeingHours_21 : decode cX1_agreeingHours 21 = .ok (.iinc 2 1, 3) := by decide +kernel
theorem dX1_agreeingHours_24 : decode cX1_agreeingHours 24 = .ok (.goto (-20), 3) := by decide +kernel
theorem dX1_agreeingHours_27 : decode cX1_agreeingHours 27 = .ok (.iload_n 1, 1) := by decide +kernel
theorem dX1_agreeingHours_28 : decode cX1_agreeingHours 28 = .ok (.ireturn, 1) := by decide +kernel
theorem dX1_hoursOfVane_0 : decode cX1_hoursOfVane 0 = .ok (.iconst 0, 1) := by decide +kernel
theorem dX1_hoursOfVane_1 : decode cX1_hoursOfVane 1 = .ok (.istore_n 2, 1) := by decide +kernel
theorem dX1_hoursOfVane_2 : decode cX1_hoursOfVane 2 = .ok (.iconst 0, 1) := by decide +kernel
theorem dX1_hoursOfVane_3 : decode cX1_hoursOfVane 3 = .ok (.istore_n 3, 1) := by decide +kernel
theorem dX1_hoursOfVane_4 : decode cX1_hoursOfVane 4 = .ok (.iload_n 3, 1) := by decide +kernel
theorem dX1_hoursOfVane_5 : decode cX1_hoursOfVane 5 = .ok (.bipush 24, 2) := by decide +kernel
theorem dX1_hoursOfVane_7 : decode cX1_hoursOfVane 7 = .ok (.if_icmp .ge 21, 3) := by decide +kernel
theorem dX1_hoursOfVane_10 : decode cX1_hoursOfVane 10 = .ok (.aload_n 0, 1) := by decide +kernel
theorem dX1_hoursOfVane_11 : decode cX1_hoursOfVane 11 = .ok (.iload_n 1, 1) := by decide +kernel
theorem dX1_hoursOfVane_12 : decode cX1_hoursOfVane 12 = .ok (.iload_n 3, 1) := by decide +kernel
theorem dX1_hoursOfVane_13 : decode cX1_hoursOfVane 13 = .ok (.invokevirtual 65, 3) := by decide +kernel
theorem dX1_hoursOfVane_16 : decode cX1_hoursOfVane 16 = .ok (.ifCond .eq 6, 3) := by decide +kernel
theorem dX1_hoursOfVane_19 : decode cX1_hoursOfVane 19 = .ok (.iinc 2 1, 3) := by decide +kernel
theorem dX1_hoursOfVane_22 : decode cX1_hoursOfVane 22 = .ok (.iinc 3 1, 3) := by decide +kernel
theorem dX1_hoursOfVane_25 : decode cX1_hoursOfVane 25 = .ok (.goto (-21), 3) := by decide +kernel
theorem dX1_hoursOfVane_28 : decode cX1_hoursOfVane 28 = .ok (.iload_n 2, 1) := by decide +kernel
theorem dX1_hoursOfVane_29 : decode cX1_hoursOfVane 29 = .ok (.ireturn, 1) := by decide +kernel
theorem dX1_hoursTurnedBy_0 : decode cX1_hoursTurnedBy 0 = .ok (.aload_n 0, 1) := by decide +kernel
theorem dX1_hoursTurnedBy_1 : decode cX1_hoursTurnedBy 1 = .ok (.getfield 33, 3) := by decide +kernel
theorem dX1_hoursTurnedBy_4 : decode cX1_hoursTurnedBy 4 = .ok (.iload_n 1, 1) := by decide +kernel
theorem dX1_hoursTurnedBy_5 : decode cX1_hoursTurnedBy 5 = .ok (.aaload, 1) := by decide +kernel
theorem dX1_hoursTurnedBy_6 : decode cX1_hoursTurnedBy 6 = .ok (.iconst 3, 1) := by decide +kernel
theorem dX1_hoursTurnedBy_7 : decode cX1_hoursTurnedBy 7 = .ok (.iaload, 1) := by decide +kernel
theorem dX1_hoursTurnedBy_8 : decode cX1_hoursTurnedBy 8 = .ok (.iconst 1, 1) := by decide +kernel
theorem dX1_hoursTurnedBy_9 : decode cX1_hoursTurnedBy 9 = .ok (.if_icmp .ne 7, 3) := by decide +kernel
theorem dX1_hoursTurnedBy_12 : decode cX1_hoursTurnedBy 12 = .ok (.iconst 1, 1) := by decide +kernel
theorem dX1_hoursTurnedBy_13 : decode cX1_hoursTurnedBy 13 = .ok (.goto 4, 3) := by decide +kernel
theorem dX1_hoursTurnedBy_16 : decode cX1_hoursTurnedBy 16 = .ok (.iconst (-1), 1) := by decide +kernel
theorem dX1_hoursTurnedBy_17 : decode cX1_hoursTurnedBy 17 = .ok (.istore_n 2, 1) := by decide +kernel
theorem dX1_hoursTurnedBy_18 : decode cX1_hoursTurnedBy 18 = .ok (.aload_n 0, 1) := by decide +kernel
theorem dX1_hoursTurnedBy_19 : decode cX1_hoursTurnedBy 19 = .ok (.invokevirtual 69, 3) := by decide +kernel
theorem dX1_hoursTurnedBy_22 : decode cX1_hoursTurnedBy 22 = .ok (.istore_n 3, 1) := by decide +kernel
theorem dX1_hoursTurnedBy_23 : decode cX1_hoursTurnedBy 23 = .ok (.iconst 0, 1) := by decide +kernel
theorem dX1_hoursTurnedBy_24 : decode cX1_hoursTurnedBy 24 = .ok (.istore 4, 2) := by decide +kernel
theorem dX1_hoursTurnedBy_26 : decode cX1_hoursTurnedBy 26 = .ok (.iconst 0, 1) := by decide +kernel
theorem dX1_hoursTurnedBy_27 : decode cX1_hoursTurnedBy 27 = .ok (.istore 5, 2) := by decide +kernel
theorem dX1_hoursTurnedBy_29 : decode cX1_hoursTurnedBy 29 = .ok (.iload 5, 2) := by decide +kernel
theorem dX1_hoursTurnedBy_31 : decode cX1_hoursTurnedBy 31 = .ok (.bipush 24, 2) := by decide +kernel
theorem dX1_hoursTurnedBy_33 : decode cX1_hoursTurnedBy 33 = .ok (.if_icmp .ge 84, 3) := by decide +kernel
theorem dX1_hoursTurnedBy_36 : decode cX1_hoursTurnedBy 36 = .ok (.aload_n 0, 1) := by decide +kernel
theorem dX1_hoursTurnedBy_37 : decode cX1_hoursTurnedBy 37 = .ok (.iload 5, 2) := by decide +kernel
theorem dX1_hoursTurnedBy_39 : decode cX1_hoursTurnedBy 39 = .ok (.invokevirtual 73, 3) := by decide +kernel
theorem dX1_hoursTurnedBy_42 : decode cX1_hoursTurnedBy 42 = .ok (.istore 6, 2) := by decide +kernel
theorem dX1_hoursTurnedBy_44 : decode cX1_hoursTurnedBy 44 = .ok (.aload_n 0, 1) := by decide +kernel
theorem dX1_hoursTurnedBy_45 : decode cX1_hoursTurnedBy 45 = .ok (.iload_n 1, 1) := by decide +kernel
theorem dX1_hoursTurnedBy_46 : decode cX1_hoursTurnedBy 46 = .ok (.iload 5, 2) := by decide +kernel
theorem dX1_hoursTurnedBy_48 : decode cX1_hoursTurnedBy 48 = .ok (.invokevirtual 65, 3) := by decide +kernel
theorem dX1_hoursTurnedBy_51 : decode cX1_hoursTurnedBy 51 = .ok (.ifCond .eq 10, 3) := by decide +kernel
theorem dX1_hoursTurnedBy_54 : decode cX1_hoursTurnedBy 54 = .ok (.iload 6, 2) := by decide +kernel
theorem dX1_hoursTurnedBy_56 : decode cX1_hoursTurnedBy 56 = .ok (.iload_n 2, 1) := by decide +kernel
theorem dX1_hoursTurnedBy_57 : decode cX1_hoursTurnedBy 57 = .ok (.iadd, 1) := by decide +kernel
theorem dX1_hoursTurnedBy_58 : decode cX1_hoursTurnedBy 58 = .ok (.goto 5, 3) := by decide +kernel
theorem dX1_hoursTurnedBy_61 : decode cX1_hoursTurnedBy 61 = .ok (.iload 6, 2) := by decide +kernel
theorem dX1_hoursTurnedBy_63 : decode cX1_hoursTurnedBy 63 = .ok (.istore 7, 2) := by decide +kernel
theorem dX1_hoursTurnedBy_65 : decode cX1_hoursTurnedBy 65 = .ok (.aload_n 0, 1) := by decide +kernel
theorem dX1_hoursTurnedBy_66 : decode cX1_hoursTurnedBy 66 = .ok (.iload_n 3, 1) := by decide +kernel
theorem dX1_hoursTurnedBy_67 : decode cX1_hoursTurnedBy 67 = .ok (.iload 6, 2) := by decide +kernel
theorem dX1_hoursTurnedBy_69 : decode cX1_hoursTurnedBy 69 = .ok (.invokevirtual 77, 3) := by decide +kernel
theorem dX1_hoursTurnedBy_72 : decode cX1_hoursTurnedBy 72 = .ok (.ifCond .ne 7, 3) := by decide +kernel
theorem dX1_hoursTurnedBy_75 : decode cX1_hoursTurnedBy 75 = .ok (.iconst 1, 1) := by decide +kernel
theorem dX1_hoursTurnedBy_76 : decode cX1_hoursTurnedBy 76 = .ok (.goto 4, 3) := by decide +kernel
theorem dX1_hoursTurnedBy_79 : decode cX1_hoursTurnedBy 79 = .ok (.iconst 0, 1) := by decide +kernel
theorem dX1_hoursTurnedBy_80 : decode cX1_hoursTurnedBy 80 = .ok (.istore 8, 2) := by decide +kernel
theorem dX1_hoursTurnedBy_82 : decode cX1_hoursTurnedBy 82 = .ok (.aload_n 0, 1) := by decide +kernel
theorem dX1_hoursTurnedBy_83 : decode cX1_hoursTurnedBy 83 = .ok (.iload_n 3, 1) := by decide +kernel
theorem dX1_hoursTurnedBy_84 : decode cX1_hoursTurnedBy 84 = .ok (.iload_n 2, 1) := by decide +kernel
theorem dX1_hoursTurnedBy_85 : decode cX1_hoursTurnedBy 85 = .ok (.iadd, 1) := by decide +kernel
theorem dX1_hoursTurnedBy_86 : decode cX1_hoursTurnedBy 86 = .ok (.iload 7, 2) := by decide +kernel
theorem dX1_hoursTurnedBy_88 : decode cX1_hoursTurnedBy 88 = .ok (.invokevirtual 77, 3) := by decide +kernel
theorem dX1_hoursTurnedBy_91 : decode cX1_hoursTurnedBy 91 = .ok (.ifCond .ne 7, 3) := by decide +kernel
theorem dX1_hoursTurnedBy_94 : decode cX1_hoursTurnedBy 94 = .ok (.iconst 1, 1) := by decide +kernel
theorem dX1_hoursTurnedBy_95 : decode cX1_hoursTurnedBy 95 = .ok (.goto 4, 3) := by decide +kernel
theorem dX1_hoursTurnedBy_98 : decode cX1_hoursTurnedBy 98 = .ok (.iconst 0, 1) := by decide +kernel
theorem dX1_hoursTurnedBy_99 : decode cX1_hoursTurnedBy 99 = .ok (.istore 9, 2) := by decide +kernel
theorem dX1_hoursTurnedBy_101 : decode cX1_hoursTurnedBy 101 = .ok (.iload 8, 2) := by decide +kernel
theorem dX1_hoursTurnedBy_103 : decode cX1_hoursTurnedBy 103 = .ok (.iload 9, 2) := by decide +kernel
theorem dX1_hoursTurnedBy_105 : decode cX1_hoursTurnedBy 105 = .ok (.if_icmp .eq 6, 3) := by decide +kernel
theorem dX1_hoursTurnedBy_108 : decode cX1_hoursTurnedBy 108 = .ok (.iinc 4 1, 3) := by decide +kernel
theorem dX1_hoursTurnedBy_111 : decode cX1_hoursTurnedBy 111 = .ok (.iinc 5 1, 3) := by decide +kernel
theorem dX1_hoursTurnedBy_114 : decode cX1_hoursTurnedBy 114 = .ok (.goto (-85), 3) := by decide +kernel
theorem dX1_hoursTurnedBy_117 : decode cX1_hoursTurnedBy 117 = .ok (.iload 4, 2) := by decide +kernel
theorem dX1_hoursTurnedBy_119 : decode cX1_hoursTurnedBy 119 = .ok (.ireturn, 1) := by decide +kernel
theorem dX1_sacksGroundIn_0 : decode cX1_sacksGroundIn 0 = .ok (.aload_n 0, 1) := by decide +kernel
theorem dX1_sacksGroundIn_1 : decode cX1_sacksGroundIn 1 = .ok (.iload_n 1, 1) := by decide +kernel
theorem dX1_sacksGroundIn_2 : decode cX1_sacksGroundIn 2 = .ok (.invokevirtual 81, 3) := by decide +kernel
theorem dX1_sacksGroundIn_5 : decode cX1_sacksGroundIn 5 = .ok (.ifCond .eq 5, 3) := by decide +kernel
theorem dX1_sacksGroundIn_8 : decode cX1_sacksGroundIn 8 = .ok (.iconst 0, 1) := by decide +kernel
theorem dX1_sacksGroundIn_9 : decode cX1_sacksGroundIn 9 = .ok (.ireturn, 1) := by decide +kernel
theorem dX1_sacksGroundIn_10 : decode cX1_sacksGroundIn 10 = .ok (.iconst 0, 1) := by decide +kernel
theorem dX1_sacksGroundIn_11 : decode cX1_sacksGroundIn 11 = .ok (.istore_n 2, 1) := by decide +kernel
theorem dX1_sacksGroundIn_12 : decode cX1_sacksGroundIn 12 = .ok (.iconst 0, 1) := by decide +kernel
theorem dX1_sacksGroundIn_13 : decode cX1_sacksGroundIn 13 = .ok (.istore_n 3, 1) := by decide +kernel
theorem dX1_sacksGroundIn_14 : decode cX1_sacksGroundIn 14 = .ok (.iload_n 3, 1) := by decide +kernel
theorem dX1_sacksGroundIn_15 : decode cX1_sacksGroundIn 15 = .ok (.iconst 3, 1) := by decide +kernel
theorem dX1_sacksGroundIn_16 : decode cX1_sacksGroundIn 16 = .ok (.if_icmp .ge 30, 3) := by decide +kernel
theorem dX1_sacksGroundIn_19 : decode cX1_sacksGroundIn 19 = .ok (.iload_n 2, 1) := by decide +kernel
theorem dX1_sacksGroundIn_20 : decode cX1_sacksGroundIn 20 = .ok (.aload_n 0, 1) := by decide +kernel
theorem dX1_sacksGroundIn_21 : decode cX1_sacksGroundIn 21 = .ok (.getfield 41, 3) := by decide +kernel
theorem dX1_sacksGroundIn_24 : decode cX1_sacksGroundIn 24 = .ok (.iload_n 3, 1) := by decide +kernel
theorem dX1_sacksGroundIn_25 : decode cX1_sacksGroundIn 25 = .ok (.aaload, 1) := by decide +kernel
theorem dX1_sacksGroundIn_26 : decode cX1_sacksGroundIn 26 = .ok (.getfield 84, 3) := by decide +kernel
theorem dX1_sacksGroundIn_29 : decode cX1_sacksGroundIn 29 = .ok (.aload_n 0, 1) := by decide +kernel
theorem dX1_sacksGroundIn_30 : decode cX1_sacksGroundIn 30 = .ok (.getfield 28, 3) := by decide +kernel
theorem dX1_sacksGroundIn_33 : decode cX1_sacksGroundIn 33 = .ok (.iload_n 1, 1) := by decide +kernel
theorem dX1_sacksGroundIn_34 : decode cX1_sacksGroundIn 34 = .ok (.iaload, 1) := by decide +kernel
theorem dX1_sacksGroundIn_35 : decode cX1_sacksGroundIn 35 = .ok (.imul, 1) := by decide +kernel
theorem dX1_sacksGroundIn_36 : decode cX1_sacksGroundIn 36 = .ok (.iconst 4, 1) := by decide +kernel
theorem dX1_sacksGroundIn_37 : decode cX1_sacksGroundIn 37 = .ok (.idiv, 1) := by decide +kernel
theorem dX1_sacksGroundIn_38 : decode cX1_sacksGroundIn 38 = .ok (.iadd, 1) := by decide +kernel
theorem dX1_sacksGroundIn_39 : decode cX1_sacksGroundIn 39 = .ok (.istore_n 2, 1) := by decide +kernel
theorem dX1_sacksGroundIn_40 : decode cX1_sacksGroundIn 40 = .ok (.iinc 3 1, 3) := by decide +kernel
theorem dX1_sacksGroundIn_43 : decode cX1_sacksGroundIn 43 = .ok (.goto (-29), 3) := by decide +kernel
theorem dX1_sacksGroundIn_46 : decode cX1_sacksGroundIn 46 = .ok (.iload_n 2, 1) := by decide +kernel
theorem dX1_sacksGroundIn_47 : decode cX1_sacksGroundIn 47 = .ok (.ireturn, 1) := by decide +kernel
theorem dX1_fillRates_0 : decode cX1_fillRates 0 = .ok (.iconst 0, 1) := by decide +kernel
theorem dX1_fillRates_1 : decode cX1_fillRates 1 = .ok (.istore_n 3, 1) := by decide +kernel
theorem dX1_fillRates_2 : decode cX1_fillRates 2 = .ok (.iconst 0, 1) := by decide +kernel
theorem dX1_fillRates_3 : decode cX1_fillRates 3 = .ok (.istore 4, 2) := by decide +kernel
theorem dX1_fillRates_5 : decode cX1_fillRates 5 = .ok (.iload 4, 2) := by decide +kernel
theorem dX1_fillRates_7 : decode cX1_fillRates 7 = .ok (.bipush 24, 2) := by decide +kernel
theorem dX1_fillRates_9 : decode cX1_fillRates 9 = .ok (.if_icmp .ge 47, 3) := by decide +kernel
theorem dX1_fillRates_12 : decode cX1_fillRates 12 = .ok (.aload_n 2, 1) := by decide +kernel
theorem dX1_fillRates_13 : decode cX1_fillRates 13 = .ok (.iload 4, 2) := by decide +kernel
theorem dX1_fillRates_15 : decode cX1_fillRates 15 = .ok (.aload_n 0, 1) := by decide +kernel
theorem dX1_fillRates_16 : decode cX1_fillRates 16 = .ok (.iload 4, 2) := by decide +kernel
theorem dX1_fillRates_18 : decode cX1_fillRates 18 = .ok (.invokevirtual 81, 3) := by decide +kernel
theorem dX1_fillRates_21 : decode cX1_fillRates 21 = .ok (.ifCond .ne 20, 3) := by decide +kernel
theorem dX1_fillRates_24 : decode cX1_fillRates 24 = .ok (.aload_n 1, 1) := by decide +kernel
theorem dX1_fillRates_25 : decode cX1_fillRates 25 = .ok (.getfield 84, 3) := by decide +kernel
theorem dX1_fillRates_28 : decode cX1_fillRates 28 = .ok (.aload_n 0, 1) := by decide +kernel
theorem dX1_fillRates_29 : decode cX1_fillRates 29 = .ok (.getfield 28, 3) := by decide +kernel
theorem dX1_fillRates_32 : decode cX1_fillRates 32 = .ok (.iload 4, 2) := by decide +kernel
theorem dX1_fillRates_34 : decode cX1_fillRates 34 = .ok (.iaload, 1) := by decide +kernel
theorem dX1_fillRates_35 : decode cX1_fillRates 35 = .ok (.imul, 1) := by decide +kernel
theorem dX1_fillRates_36 : decode cX1_fillRates 36 = .ok (.iconst 4, 1) := by decide +kernel
theorem dX1_fillRates_37 : decode cX1_fillRates 37 = .ok (.idiv, 1) := by decide +kernel
theorem dX1_fillRates_38 : decode cX1_fillRates 38 = .ok (.goto 4, 3) := by decide +kernel
theorem dX1_fillRates_41 : decode cX1_fillRates 41 = .ok (.iconst 0, 1) := by decide +kernel
theorem dX1_fillRates_42 : decode cX1_fillRates 42 = .ok (.iastore, 1) := by decide +kernel
theorem dX1_fillRates_43 : decode cX1_fillRates 43 = .ok (.iload_n 3, 1) := by decide +kernel
theorem dX1_fillRates_44 : decode cX1_fillRates 44 = .ok (.aload_n 2, 1) := by decide +kernel
theorem dX1_fillRates_45 : decode cX1_fillRates 45 = .ok (.iload 4, 2) := by decide +kernel
theorem dX1_fillRates_47 : decode cX1_fillRates 47 = .ok (.iaload, 1) := by decide +kernel
theorem dX1_fillRates_48 : decode cX1_fillRates 48 = .ok (.iadd, 1) := by decide +kernel
theorem dX1_fillRates_49 : decode cX1_fillRates 49 = .ok (.istore_n 3, 1) := by decide +kernel
theorem dX1_fillRates_50 : decode cX1_fillRates 50 = .ok (.iinc 4 1, 3) := by decide +kernel
theorem dX1_fillRates_53 : decode cX1_fillRates 53 = .ok (.goto (-48), 3) := by decide +kernel
theorem dX1_fillRates_56 : decode cX1_fillRates 56 = .ok (.iload_n 3, 1) := by decide +kernel
theorem dX1_fillRates_57 : decode cX1_fillRates 57 = .ok (.ireturn, 1) := by decide +kernel
theorem dX1_passHour_0 : decode cX1_passHour 0 = .ok (.iconst 0, 1) := by decide +kernel
theorem dX1_passHour_1 : decode cX1_passHour 1 = .ok (.istore_n 1, 1) := by decide +kernel
theorem dX1_passHour_2 : decode cX1_passHour 2 = .ok (.aload_n 0, 1) := by decide +kernel
theorem dX1_passHour_3 : decode cX1_passHour 3 = .ok (.aload_n 0, 1) := by decide +kernel
theorem dX1_passHour_4 : decode cX1_passHour 4 = .ok (.getfield 9, 3) := by decide +kernel
theorem dX1_passHour_7 : decode cX1_passHour 7 = .ok (.invokevirtual 81, 3) := by decide +kernel
theorem dX1_passHour_10 : decode cX1_passHour 10 = .ok (.ifCond .ne 60, 3) := by decide +kernel
theorem dX1_passHour_13 : decode cX1_passHour 13 = .ok (.aload_n 0, 1) := by decide +kernel
theorem dX1_passHour_14 : decode cX1_passHour 14 = .ok (.dup, 1) := by decide +kernel
theorem dX1_passHour_15 : decode cX1_passHour 15 = .ok (.getfield 18, 3) := by decide +kernel
theorem dX1_passHour_18 : decode cX1_passHour 18 = .ok (.iconst 1, 1) := by decide +kernel
theorem dX1_passHour_19 : decode cX1_passHour 19 = .ok (.iadd, 1) := by decide +kernel
theorem dX1_passHour_20 : decode cX1_passHour 20 = .ok (.putfield 18, 3) := by decide +kernel
theorem dX1_passHour_23 : decode cX1_passHour 23 = .ok (.iconst 0, 1) := by decide +kernel
theorem dX1_passHour_24 : decode cX1_passHour 24 = .ok (.istore_n 2, 1) := by decide +kernel
theorem dX1_passHour_25 : decode cX1_passHour 25 = .ok (.iload_n 2, 1) := by decide +kernel
theorem dX1_passHour_26 : decode cX1_passHour 26 = .ok (.iconst 3, 1) := by decide +kernel
theorem dX1_passHour_27 : decode cX1_passHour 27 = .ok (.if_icmp .ge 43, 3) := by decide +kernel
theorem dX1_passHour_30 : decode cX1_passHour 30 = .ok (.aload_n 0, 1) := by decide +kernel
theorem dX1_passHour_31 : decode cX1_passHour 31 = .ok (.getfield 41, 3) := by decide +kernel
theorem dX1_passHour_34 : decode cX1_passHour 34 = .ok (.iload_n 2, 1) := by decide +kernel
theorem dX1_passHour_35 : decode cX1_passHour 35 = .ok (.aaload, 1) := by decide +kernel
theorem dX1_passHour_36 : decode cX1_passHour 36 = .ok (.astore_n 3, 1) := by decide +kernel
theorem dX1_passHour_37 : decode cX1_passHour 37 = .ok (.iload_n 1, 1) := by decide +kernel
theorem dX1_passHour_38 : decode cX1_passHour 38 = .ok (.aload_n 3, 1) := by decide +kernel
theorem dX1_passHour_39 : decode cX1_passHour 39 = .ok (.aload_n 3, 1) := by decide +kernel
theorem dX1_passHour_40 : decode cX1_passHour 40 = .ok (.getfield 84, 3) := by decide +kernel
theorem dX1_passHour_43 : decode cX1_passHour 43 = .ok (.aload_n 0, 1) := by decide +kernel
theorem dX1_passHour_44 : decode cX1_passHour 44 = .ok (.getfield 28, 3) := by decide +kernel
theorem dX1_passHour_47 : decode cX1_passHour 47 = .ok (.aload_n 0, 1) := by decide +kernel
theorem dX1_passHour_48 : decode cX1_passHour 48 = .ok (.getfield 9, 3) := by decide +kernel
theorem dX1_passHour_51 : decode cX1_passHour 51 = .ok (.iaload, 1) := by decide +kernel
theorem dX1_passHour_52 : decode cX1_passHour 52 = .ok (.imul, 1) := by decide +kernel
theorem dX1_passHour_53 : decode cX1_passHour 53 = .ok (.iconst 4, 1) := by decide +kernel
theorem dX1_passHour_54 : decode cX1_passHour 54 = .ok (.idiv, 1) := by decide +kernel
theorem dX1_passHour_55 : decode cX1_passHour 55 = .ok (.aload_n 0, 1) := by decide +kernel
theorem dX1_passHour_56 : decode cX1_passHour 56 = .ok (.getfield 45, 3) := by decide +kernel
theorem dX1_passHour_59 : decode cX1_passHour 59 = .ok (.invokevirtual 87, 3) := by decide +kernel
theorem dX1_passHour_62 : decode cX1_passHour 62 = .ok (.iadd, 1) := by decide +kernel
theorem dX1_passHour_63 : decode cX1_passHour 63 = .ok (.istore_n 1, 1) := by decide +kernel
theorem dX1_passHour_64 : decode cX1_passHour 64 = .ok (.iinc 2 1, 3) := by decide +kernel
theorem dX1_passHour_67 : decode cX1_passHour 67 = .ok (.goto (-42), 3) := by decide +kernel
theorem dX1_passHour_70 : decode cX1_passHour 70 = .ok (.aload_n 0, 1) := by decide +kernel
theorem dX1_passHour_71 : decode cX1_passHour 71 = .ok (.dup, 1) := by decide +kernel
theorem dX1_passHour_72 : decode cX1_passHour 72 = .ok (.getfield 15, 3) := by decide +kernel
theorem dX1_passHour_75 : decode cX1_passHour 75 = .ok (.iconst 1, 1) := by decide +kernel
theorem dX1_passHour_76 : decode cX1_passHour 76 = .ok (.iadd, 1) := by decide +kernel
theorem dX1_passHour_77 : decode cX1_passHour 77 = .ok (.putfield 15, 3) := by decide +kernel
theorem dX1_passHour_80 : decode cX1_passHour 80 = .ok (.aload_n 0, 1) := by decide +kernel
theorem dX1_passHour_81 : decode cX1_passHour 81 = .ok (.aload_n 0, 1) := by decide +kernel
theorem dX1_passHour_82 : decode cX1_passHour 82 = .ok (.getfield 9, 3) := by decide +kernel
theorem dX1_passHour_85 : decode cX1_passHour 85 = .ok (.iconst 1, 1) := by decide +kernel
theorem dX1_passHour_86 : decode cX1_passHour 86 = .ok (.iadd, 1) := by decide +kernel
theorem dX1_passHour_87 : decode cX1_passHour 87 = .ok (.bipush 24, 2) := by decide +kernel
theorem dX1_passHour_89 : decode cX1_passHour 89 = .ok (.if_icmp .ge 12, 3) := by decide +kernel
theorem dX1_passHour_92 : decode cX1_passHour 92 = .ok (.aload_n 0, 1) := by decide +kernel
theorem dX1_passHour_93 : decode cX1_passHour 93 = .ok (.getfield 9, 3) := by decide +kernel
theorem dX1_passHour_96 : decode cX1_passHour 96 = .ok (.iconst 1, 1) := by decide +kernel
theorem dX1_passHour_97 : decode cX1_passHour 97 = .ok (.iadd, 1) := by decide +kernel
theorem dX1_passHour_98 : decode cX1_passHour 98 = .ok (.goto 4, 3) := by decide +kernel
theorem dX1_passHour_101 : decode cX1_passHour 101 = .ok (.iconst 0, 1) := by decide +kernel
theorem dX1_passHour_102 : decode cX1_passHour 102 = .ok (.putfield 9, 3) := by decide +kernel
theorem dX1_passHour_105 : decode cX1_passHour 105 = .ok (.iload_n 1, 1) := by decide +kernel
theorem dX1_passHour_106 : decode cX1_passHour 106 = .ok (.ireturn, 1) := by decide +kernel
theorem dX1_sacksWaiting_0 : decode cX1_sacksWaiting 0 = .ok (.iconst 0, 1) := by decide +kernel
theorem dX1_sacksWaiting_1 : decode cX1_sacksWaiting 1 = .ok (.istore_n 1, 1) := by decide +kernel
theorem dX1_sacksWaiting_2 : decode cX1_sacksWaiting 2 = .ok (.iconst 0, 1) := by decide +kernel
theorem dX1_sacksWaiting_3 : decode cX1_sacksWaiting 3 = .ok (.istore_n 2, 1) := by decide +kernel
theorem dX1_sacksWaiting_4 : decode cX1_sacksWaiting 4 = .ok (.iload_n 2, 1) := by decide +kernel
theorem dX1_sacksWaiting_5 : decode cX1_sacksWaiting 5 = .ok (.iconst 3, 1) := by decide +kernel
theorem dX1_sacksWaiting_6 : decode cX1_sacksWaiting 6 = .ok (.if_icmp .ge 21, 3) := by decide +kernel
theorem dX1_sacksWaiting_9 : decode cX1_sacksWaiting 9 = .ok (.iload_n 1, 1) := by decide +kernel
theorem dX1_sacksWaiting_10 : decode cX1_sacksWaiting 10 = .ok (.aload_n 0, 1) := by decide +kernel
theorem dX1_sacksWaiting_11 : decode cX1_sacksWaiting 11 = .ok (.getfield 41, 3) := by decide +kernel
theorem dX1_sacksWaiting_14 : decode cX1_sacksWaiting 14 = .ok (.iload_n 2, 1) := by decide +kernel
theorem dX1_sacksWaiting_15 : decode cX1_sacksWaiting 15 = .ok (.aaload, 1) := by decide +kernel
theorem dX1_sacksWaiting_16 : decode cX1_sacksWaiting 16 = .ok (.invokevirtual 91, 3) := by decide +kernel
theorem dX1_sacksWaiting_19 : decode cX1_sacksWaiting 19 = .ok (.iadd, 1) := by decide +kernel
theorem dX1_sacksWaiting_20 : decode cX1_sacksWaiting 20 = .ok (.istore_n 1, 1) := by decide +kernel
theorem dX1_sacksWaiting_21 : decode cX1_sacksWaiting 21 = .ok (.iinc 2 1, 3) := by decide +kernel
theorem dX1_sacksWaiting_24 : decode cX1_sacksWaiting 24 = .ok (.goto (-20), 3) := by decide +kernel
theorem dX1_sacksWaiting_27 : decode cX1_sacksWaiting 27 = .ok (.iload_n 1, 1) := by decide +kernel
theorem dX1_sacksWaiting_28 : decode cX1_sacksWaiting 28 = .ok (.ireturn, 1) := by decide +kernel
theorem dX1_sacksWaitingOf_0 : decode cX1_sacksWaitingOf 0 = .ok (.iconst 0, 1) := by decide +kernel
theorem dX1_sacksWaitingOf_1 : decode cX1_sacksWaitingOf 1 = .ok (.istore_n 2, 1) := by decide +kernel
theorem dX1_sacksWaitingOf_2 : decode cX1_sacksWaitingOf 2 = .ok (.iconst 0, 1) := by decide +kernel
theorem dX1_sacksWaitingOf_3 : decode cX1_sacksWaitingOf 3 = .ok (.istore_n 3, 1) := by decide +kernel
theorem dX1_sacksWaitingOf_4 : decode cX1_sacksWaitingOf 4 = .ok (.iload_n 3, 1) := by decide +kernel
theorem dX1_sacksWaitingOf_5 : decode cX1_sacksWaitingOf 5 = .ok (.iconst 3, 1) := by decide +kernel
theorem dX1_sacksWaitingOf_6 : decode cX1_sacksWaitingOf 6 = .ok (.if_icmp .ge 22, 3) := by decide +kernel
theorem dX1_sacksWaitingOf_9 : decode cX1_sacksWaitingOf 9 = .ok (.iload_n 2, 1) := by decide +kernel
theorem dX1_sacksWaitingOf_10 : decode cX1_sacksWaitingOf 10 = .ok (.aload_n 0, 1) := by decide +kernel
theorem dX1_sacksWaitingOf_11 : decode cX1_sacksWaitingOf 11 = .ok (.getfield 41, 3) := by decide +kernel
theorem dX1_sacksWaitingOf_14 : decode cX1_sacksWaitingOf 14 = .ok (.iload_n 3, 1) := by decide +kernel
theorem dX1_sacksWaitingOf_15 : decode cX1_sacksWaitingOf 15 = .ok (.aaload, 1) := by decide +kernel
theorem dX1_sacksWaitingOf_16 : decode cX1_sacksWaitingOf 16 = .ok (.iload_n 1, 1) := by decide +kernel
theorem dX1_sacksWaitingOf_17 : decode cX1_sacksWaitingOf 17 = .ok (.invokevirtual 94, 3) := by decide +kernel
theorem dX1_sacksWaitingOf_20 : decode cX1_sacksWaitingOf 20 = .ok (.iadd, 1) := by decide +kernel
theorem dX1_sacksWaitingOf_21 : decode cX1_sacksWaitingOf 21 = .ok (.istore_n 2, 1) := by decide +kernel
theorem dX1_sacksWaitingOf_22 : decode cX1_sacksWaitingOf 22 = .ok (.iinc 3 1, 3) := by decide +kernel
theorem dX1_sacksWaitingOf_25 : decode cX1_sacksWaitingOf 25 = .ok (.goto (-21), 3) := by decide +kernel
theorem dX1_sacksWaitingOf_28 : decode cX1_sacksWaitingOf 28 = .ok (.iload_n 2, 1) := by decide +kernel
theorem dX1_sacksWaitingOf_29 : decode cX1_sacksWaitingOf 29 = .ok (.ireturn, 1) := by decide +kernel
theorem dX1_flourOfAll_0 : decode cX1_flourOfAll 0 = .ok (.iconst 0, 1) := by decide +kernel
theorem dX1_flourOfAll_1 : decode cX1_flourOfAll 1 = .ok (.istore_n 1, 1) := by decide +kernel
theorem dX1_flourOfAll_2 : decode cX1_flourOfAll 2 = .ok (.iconst 0, 1) := by decide +kernel
theorem dX1_flourOfAll_3 : decode cX1_flourOfAll 3 = .ok (.istore_n 2, 1) := by decide +kernel
theorem dX1_flourOfAll_4 : decode cX1_flourOfAll 4 = .ok (.iload_n 2, 1) := by decide +kernel
theorem dX1_flourOfAll_5 : decode cX1_flourOfAll 5 = .ok (.iconst 5, 1) := by decide +kernel
theorem dX1_flourOfAll_6 : decode cX1_flourOfAll 6 = .ok (.if_icmp .ge 18, 3) := by decide +kernel
theorem dX1_flourOfAll_9 : decode cX1_flourOfAll 9 = .ok (.iload_n 1, 1) := by decide +kernel
theorem dX1_flourOfAll_10 : decode cX1_flourOfAll 10 = .ok (.aload_n 0, 1) := by decide +kernel
theorem dX1_flourOfAll_11 : decode cX1_flourOfAll 11 = .ok (.getfield 45, 3) := by decide +kernel
theorem dX1_flourOfAll_14 : decode cX1_flourOfAll 14 = .ok (.iload_n 2, 1) := by decide +kernel
theorem dX1_flourOfAll_15 : decode cX1_flourOfAll 15 = .ok (.iaload, 1) := by decide +kernel
theorem dX1_flourOfAll_16 : decode cX1_flourOfAll 16 = .ok (.iadd, 1) := by decide +kernel
theorem dX1_flourOfAll_17 : decode cX1_flourOfAll 17 = .ok (.istore_n 1, 1) := by decide +kernel
theorem dX1_flourOfAll_18 : decode cX1_flourOfAll 18 = .ok (.iinc 2 1, 3) := by decide +kernel
theorem dX1_flourOfAll_21 : decode cX1_flourOfAll 21 = .ok (.goto (-17), 3) := by decide +kernel
theorem dX1_flourOfAll_24 : decode cX1_flourOfAll 24 = .ok (.iload_n 1, 1) := by decide +kernel
theorem dX1_flourOfAll_25 : decode cX1_flourOfAll 25 = .ok (.ireturn, 1) := by decide +kernel
theorem dX2_init_0 : decode cX2_init 0 = .ok (.aload_n 0, 1) := by decide +kernel
theorem dX2_init_1 : decode cX2_init 1 = .ok (.invokespecial 3, 3) := by decide +kernel
theorem dX2_init_4 : decode cX2_init 4 = .ok (.aload_n 0, 1) := by decide +kernel
theorem dX2_init_5 : decode cX2_init 5 = .ok (.bipush 60, 2) := by decide +kernel
theorem dX2_init_7 : decode cX2_init 7 = .ok (.newarray .int, 2) := by decide +kernel
theorem dX2_init_9 : decode cX2_init 9 = .ok (.putfield 9, 3) := by decide +kernel
theorem dX2_init_12 : decode cX2_init 12 = .ok (.aload_n 0, 1) := by decide +kernel
theorem dX2_init_13 : decode cX2_init 13 = .ok (.iconst 0, 1) := by decide +kernel
theorem dX2_init_14 : decode cX2_init 14 = .ok (.putfield 15, 3) := by decide +kernel
theorem dX2_init_17 : decode cX2_init 17 = .ok (.return_, 1) := by decide +kernel
theorem dX3_init_0 : decode cX3_init 0 = .ok (.aload_n 0, 1) := by decide +kernel
theorem dX3_init_1 : decode cX3_init 1 = .ok (.invokespecial 1, 3) := by decide +kernel
theorem dX3_init_4 : decode cX3_init 4 = .ok (.aload_n 0, 1) := by decide +kernel
theorem dX3_init_5 : decode cX3_init 5 = .ok (.new 7, 3) := by decide +kernel
theorem dX3_init_8 : decode cX3_init 8 = .ok (.dup, 1) := by decide +kernel
theorem dX3_init_9 : decode cX3_init 9 = .ok (.invokespecial 9, 3) := by decide +kernel
theorem dX3_init_12 : decode cX3_init 12 = .ok (.putfield 10, 3) := by decide +kernel
theorem dX3_init_15 : decode cX3_init 15 = .ok (.aload_n 0, 1) := by decide +kernel
theorem dX3_init_16 : decode cX3_init 16 = .ok (.iconst 2, 1) := by decide +kernel
theorem dX3_init_17 : decode cX3_init 17 = .ok (.anewarray 7, 3) := by decide +kernel
theorem dX3_init_20 : decode cX3_init 20 = .ok (.putfield 16, 3) := by decide +kernel
theorem dX3_init_23 : decode cX3_init 23 = .ok (.aload_n 0, 1) := by decide +kernel
theorem dX3_init_24 : decode cX3_init 24 = .ok (.iconst 2, 1) := by decide +kernel
theorem dX3_init_25 : decode cX3_init 25 = .ok (.newarray .boolean, 2) := by decide +kernel
theorem dX3_init_27 : decode cX3_init 27 = .ok (.putfield 20, 3) := by decide +kernel
theorem dX3_init_30 : decode cX3_init 30 = .ok (.aload_n 0, 1) := by decide +kernel
theorem dX3_init_31 : decode cX3_init 31 = .ok (.bipush 6, 2) := by decide +kernel
theorem dX3_init_33 : decode cX3_init 33 = .ok (.anewarray 7, 3) := by decide +kernel
theorem dX3_init_36 : decode cX3_init 36 = .ok (.putfield 24, 3) := by decide +kernel
theorem dX3_init_39 : decode cX3_init 39 = .ok (.aload_n 0, 1) := by decide +kernel
theorem dX3_init_40 : decode cX3_init 40 = .ok (.iconst 0, 1) := by decide +kernel
theorem dX3_init_41 : decode cX3_init 41 = .ok (.putfield 27, 3) := by decide +kernel
theorem dX3_init_44 : decode cX3_init 44 = .ok (.aload_n 0, 1) := by decide +kernel
theorem dX3_init_45 : decode cX3_init 45 = .ok (.iconst 0, 1) := by decide +kernel
theorem dX3_init_46 : decode cX3_init 46 = .ok (.putfield 31, 3) := by decide +kernel
theorem dX3_init_49 : decode cX3_init 49 = .ok (.aload_n 0, 1) := by decide +kernel
theorem dX3_init_50 : decode cX3_init 50 = .ok (.new 34, 3) := by decide +kernel
theorem dX3_init_53 : decode cX3_init 53 = .ok (.dup, 1) := by decide +kernel
theorem dX3_init_54 : decode cX3_init 54 = .ok (.invokespecial 36, 3) := by decide +kernel
theorem dX3_init_57 : decode cX3_init 57 = .ok (.putfield 37, 3) := by decide +kernel
theorem dX3_init_60 : decode cX3_init 60 = .ok (.aload_n 0, 1) := by decide +kernel
theorem dX3_init_61 : decode cX3_init 61 = .ok (.bipush 24, 2) := by decide +kernel
theorem dX3_init_63 : decode cX3_init 63 = .ok (.newarray .int, 2) := by decide +kernel
theorem dX3_init_65 : decode cX3_init 65 = .ok (.putfield 41, 3) := by decide +kernel
theorem dX3_init_68 : decode cX3_init 68 = .ok (.iconst 0, 1) := by decide +kernel
theorem dX3_init_69 : decode cX3_init 69 = .ok (.istore_n 1, 1) := by decide +kernel
theorem dX3_init_70 : decode cX3_init 70 = .ok (.iload_n 1, 1) := by decide +kernel
theorem dX3_init_71 : decode cX3_init 71 = .ok (.iconst 2, 1) := by decide +kernel
theorem dX3_init_72 : decode cX3_init 72 = .ok (.if_icmp .ge 22, 3) := by decide +kernel
theorem dX3_init_75 : decode cX3_init 75 = .ok (.aload_n 0, 1) := by decide +kernel
theorem dX3_init_76 : decode cX3_init 76 = .ok (.getfield 16, 3) := by decide +kernel
theorem dX3_init_79 : decode cX3_init 79 = .ok (.iload_n 1, 1) := by decide +kernel
theorem dX3_init_80 : decode cX3_init 80 = .ok (.new 7, 3) := by decide +kernel
theorem dX3_init_83 : decode cX3_init 83 = .ok (.dup, 1) := by decide +kernel
theorem dX3_init_84 : decode cX3_init 84 = .ok (.invokespecial 9, 3) := by decide +kernel
theorem dX3_init_87 : decode cX3_init 87 = .ok (.aastore, 1) := by decide +kernel
theorem dX3_init_88 : decode cX3_init 88 = .ok (.iinc 1 1, 3) := by decide +kernel
theorem dX3_init_91 : decode cX3_init 91 = .ok (.goto (-21), 3) := by decide +kernel
theorem dX3_init_94 : decode cX3_init 94 = .ok (.iconst 0, 1) := by decide +kernel
theorem dX3_init_95 : decode cX3_init 95 = .ok (.istore_n 1, 1) := by decide +kernel
theorem dX3_init_96 : decode cX3_init 96 = .ok (.iload_n 1, 1) := by decide +kernel
theorem dX3_init_97 : decode cX3_init 97 = .ok (.bipush 6, 2) := by decide +kernel
theorem dX3_init_99 : decode cX3_init 99 = .ok (.if_icmp .ge 22, 3) := by decide +kernel
theorem dX3_init_102 : decode cX3_init 102 = .ok (.aload_n 0, 1) := by decide +kernel
theorem dX3_init_103 : decode cX3_init 103 = .ok (.getfield 24, 3) := by decide +kernel
theorem dX3_init_106 : decode cX3_init 106 = .ok (.iload_n 1, 1) := by decide +kernel
theorem dX3_init_107 : decode cX3_init 107 = .ok (.new 7, 3) := by decide +kernel
theorem dX3_init_110 : decode cX3_init 110 = .ok (.dup, 1) := by decide +kernel
theorem dX3_init_111 : decode cX3_init 111 = .ok (.invokespecial 9, 3) := by decide +kernel
theorem dX3_init_114 : decode cX3_init 114 = .ok (.aastore, 1) := by decide +kernel
theorem dX3_init_115 : decode cX3_init 115 = .ok (.iinc 1 1, 3) := by decide +kernel
theorem dX3_init_118 : decode cX3_init 118 = .ok (.goto (-22), 3) := by decide +kernel
theorem dX3_init_121 : decode cX3_init 121 = .ok (.return_, 1) := by decide +kernel
theorem dX3_wind_0 : decode cX3_wind 0 = .ok (.iload_n 1, 1) := by decide +kernel
theorem dX3_wind_1 : decode cX3_wind 1 = .ok (.bipush 24, 2) := by decide +kernel
theorem dX3_wind_3 : decode cX3_wind 3 = .ok (.invokestatic 45, 3) := by decide +kernel
theorem dX3_wind_6 : decode cX3_wind 6 = .ok (.iload_n 2, 1) := by decide +kernel
theorem dX3_wind_7 : decode cX3_wind 7 = .ok (.iconst 0, 1) := by decide +kernel
theorem dX3_wind_8 : decode cX3_wind 8 = .ok (.bipush 7, 2) := by decide +kernel
theorem dX3_wind_10 : decode cX3_wind 10 = .ok (.invokestatic 49, 3) := by decide +kernel
theorem dX3_wind_13 : decode cX3_wind 13 = .ok (.iload_n 3, 1) := by decide +kernel
theorem dX3_wind_14 : decode cX3_wind 14 = .ok (.iconst 0, 1) := by decide +kernel
theorem dX3_wind_15 : decode cX3_wind 15 = .ok (.bipush 9, 2) := by decide +kernel
theorem dX3_wind_17 : decode cX3_wind 17 = .ok (.invokestatic 49, 3) := by decide +kernel
theorem dX3_wind_20 : decode cX3_wind 20 = .ok (.aload_n 0, 1) := by decide +kernel
theorem dX3_wind_21 : decode cX3_wind 21 = .ok (.invokevirtual 53, 3) := by decide +kernel
theorem dX3_wind_24 : decode cX3_wind 24 = .ok (.bipush 10, 2) := by decide +kernel
theorem dX3_wind_26 : decode cX3_wind 26 = .ok (.aload_n 0, 1) := by decide +kernel
theorem dX3_wind_27 : decode cX3_wind 27 = .ok (.getfield 10, 3) := by decide +kernel
theorem dX3_wind_30 : decode cX3_wind 30 = .ok (.getfield 56, 3) := by decide +kernel
theorem dX3_wind_33 : decode cX3_wind 33 = .ok (.iload_n 1, 1) := by decide +kernel
theorem dX3_wind_34 : decode cX3_wind 34 = .ok (.iaload, 1) := by decide +kernel
theorem dX3_wind_35 : decode cX3_wind 35 = .ok (.imul, 1) := by decide +kernel
theorem dX3_wind_36 : decode cX3_wind 36 = .ok (.aload_n 0, 1) := by decide +kernel
theorem dX3_wind_37 : decode cX3_wind 37 = .ok (.getfield 10, 3) := by decide +kernel
theorem dX3_wind_40 : decode cX3_wind 40 = .ok (.getfield 59, 3) := by decide +kernel
theorem dX3_wind_43 : decode cX3_wind 43 = .ok (.iload_n 1, 1) := by decide +kernel
theorem dX3_wind_44 : decode cX3_wind 44 = .ok (.iaload, 1) := by decide +kernel
theorem dX3_wind_45 : decode cX3_wind 45 = .ok (.iadd, 1) := by decide +kernel
theorem dX3_wind_46 : decode cX3_wind 46 = .ok (.istore 4, 2) := by decide +kernel
theorem dX3_wind_48 : decode cX3_wind 48 = .ok (.aload_n 0, 1) := by decide +kernel
theorem dX3_wind_49 : decode cX3_wind 49 = .ok (.getfield 10, 3) := by decide +kernel
theorem dX3_wind_52 : decode cX3_wind 52 = .ok (.getfield 56, 3) := by decide +kernel
theorem dX3_wind_55 : decode cX3_wind 55 = .ok (.iload_n 1, 1) := by decide +kernel
theorem dX3_wind_56 : decode cX3_wind 56 = .ok (.iload_n 2, 1) := by decide +kernel
theorem dX3_wind_57 : decode cX3_wind 57 = .ok (.iastore, 1) := by decide +kernel
theorem dX3_wind_58 : decode cX3_wind 58 = .ok (.aload_n 0, 1) := by decide +kernel
theorem dX3_wind_59 : decode cX3_wind 59 = .ok (.getfield 10, 3) := by decide +kernel
theorem dX3_wind_62 : decode cX3_wind 62 = .ok (.getfield 59, 3) := by decide +kernel
theorem dX3_wind_65 : decode cX3_wind 65 = .ok (.iload_n 1, 1) := by decide +kernel
theorem dX3_wind_66 : decode cX3_wind 66 = .ok (.iload_n 3, 1) := by decide +kernel
theorem dX3_wind_67 : decode cX3_wind 67 = .ok (.iastore, 1) := by decide +kernel
theorem dX3_wind_68 : decode cX3_wind 68 = .ok (.iload 4, 2) := by decide +kernel
theorem dX3_wind_70 : decode cX3_wind 70 = .ok (.ireturn, 1) := by decide +kernel
theorem dX3_vane_0 : decode cX3_vane 0 = .ok (.iload_n 1, 1) := by decide +kernel
theorem dX3_vane_1 : decode cX3_vane 1 = .ok (.bipush 6, 2) := by decide +kernel
theorem dX3_vane_3 : decode cX3_vane 3 = .ok (.invokestatic 45, 3) := by decide +kernel
theorem dX3_vane_6 : decode cX3_vane 6 = .ok (.iload_n 2, 1) := by decide +kernel
theorem dX3_vane_7 : decode cX3_vane 7 = .ok (.iconst 0, 1) := by decide +kernel
theorem dX3_vane_8 : decode cX3_vane 8 = .ok (.iconst 3, 1) := by decide +kernel
theorem dX3_vane_9 : decode cX3_vane 9 = .ok (.invokestatic 49, 3) := by decide +kernel
theorem dX3_vane_12 : decode cX3_vane 12 = .ok (.iload_n 3, 1) := by decide +kernel
theorem dX3_vane_13 : decode cX3_vane 13 = .ok (.iconst 0, 1) := by decide +kernel
theorem dX3_vane_14 : decode cX3_vane 14 = .ok (.getstatic 62, 3) := by decide +kernel
theorem dX3_vane_17 : decode cX3_vane 17 = .ok (.iload_n 2, 1) := by decide +kernel
theorem dX3_vane_18 : decode cX3_vane 18 = .ok (.iaload, 1) := by decide +kernel
theorem dX3_vane_19 : decode cX3_vane 19 = .ok (.invokestatic 49, 3) := by decide +kernel
theorem dX3_vane_22 : decode cX3_vane 22 = .ok (.aload_n 0, 1) := by decide +kernel
theorem dX3_vane_23 : decode cX3_vane 23 = .ok (.invokevirtual 53, 3) := by decide +kernel
theorem dX3_vane_26 : decode cX3_vane 26 = .ok (.aload_n 0, 1) := by decide +kernel
theorem dX3_vane_27 : decode cX3_vane 27 = .ok (.getfield 10, 3) := by decide +kernel
theorem dX3_vane_30 : decode cX3_vane 30 = .ok (.getfield 65, 3) := by decide +kernel
theorem dX3_vane_33 : decode cX3_vane 33 = .ok (.iload_n 1, 1) := by decide +kernel
theorem dX3_vane_34 : decode cX3_vane 34 = .ok (.aaload, 1) := by decide +kernel
theorem dX3_vane_35 : decode cX3_vane 35 = .ok (.iload_n 2, 1) := by decide +kernel
theorem dX3_vane_36 : decode cX3_vane 36 = .ok (.iaload, 1) := by decide +kernel
theorem dX3_vane_37 : decode cX3_vane 37 = .ok (.istore 4, 2) := by decide +kernel
theorem dX3_vane_39 : decode cX3_vane 39 = .ok (.aload_n 0, 1) := by decide +kernel
theorem dX3_vane_40 : decode cX3_vane 40 = .ok (.getfield 10, 3) := by decide +kernel
theorem dX3_vane_43 : decode cX3_vane 43 = .ok (.getfield 65, 3) := by decide +kernel
theorem dX3_vane_46 : decode cX3_vane 46 = .ok (.iload_n 1, 1) := by decide +kernel
theorem dX3_vane_47 : decode cX3_vane 47 = .ok (.aaload, 1) := by decide +kernel
theorem dX3_vane_48 : decode cX3_vane 48 = .ok (.iload_n 2, 1) := by decide +kernel
theorem dX3_vane_49 : decode cX3_vane 49 = .ok (.iload_n 3, 1) := by decide +kernel
theorem dX3_vane_50 : decode cX3_vane 50 = .ok (.iastore, 1) := by decide +kernel
theorem dX3_vane_51 : decode cX3_vane 51 = .ok (.iload 4, 2) := by decide +kernel
theorem dX3_vane_53 : decode cX3_vane 53 = .ok (.ireturn, 1) := by decide +kernel
theorem dX3_mill_0 : decode cX3_mill 0 = .ok (.iload_n 1, 1) := by decide +kernel
theorem dX3_mill_1 : decode cX3_mill 1 = .ok (.iconst 3, 1) := by decide +kernel
theorem dX3_mill_2 : decode cX3_mill 2 = .ok (.invokestatic 45, 3) := by decide +kernel
theorem dX3_mill_5 : decode cX3_mill 5 = .ok (.iload_n 2, 1) := by decide +kernel
theorem dX3_mill_6 : decode cX3_mill 6 = .ok (.iconst 0, 1) := by decide +kernel
theorem dX3_mill_7 : decode cX3_mill 7 = .ok (.bipush 9, 2) := by decide +kernel
theorem dX3_mill_9 : decode cX3_mill 9 = .ok (.invokestatic 49, 3) := by decide +kernel
theorem dX3_mill_12 : decode cX3_mill 12 = .ok (.aload_n 0, 1) := by decide +kernel
theorem dX3_mill_13 : decode cX3_mill 13 = .ok (.invokevirtual 53, 3) := by decide +kernel
theorem dX3_mill_16 : decode cX3_mill 16 = .ok (.aload_n 0, 1) := by decide +kernel
theorem dX3_mill_17 : decode cX3_mill 17 = .ok (.getfield 10, 3) := by decide +kernel
theorem dX3_mill_20 : decode cX3_mill 20 = .ok (.getfield 69, 3) := by decide +kernel
theorem dX3_mill_23 : decode cX3_mill 23 = .ok (.iload_n 1, 1) := by decide +kernel
theorem dX3_mill_24 : decode cX3_mill 24 = .ok (.aaload, 1) := by decide +kernel
theorem dX3_mill_25 : decode cX3_mill 25 = .ok (.getfield 73, 3) := by decide +kernel
theorem dX3_mill_28 : decode cX3_mill 28 = .ok (.istore_n 3, 1) := by decide +kernel
theorem dX3_mill_29 : decode cX3_mill 29 = .ok (.aload_n 0, 1) := by decide +kernel
theorem dX3_mill_30 : decode cX3_mill 30 = .ok (.getfield 10, 3) := by decide +kernel
theorem dX3_mill_33 : decode cX3_mill 33 = .ok (.getfield 69, 3) := by decide +kernel
theorem dX3_mill_36 : decode cX3_mill 36 = .ok (.iload_n 1, 1) := by decide +kernel
theorem dX3_mill_37 : decode cX3_mill 37 = .ok (.aaload, 1) := by decide +kernel
theorem dX3_mill_38 : decode cX3_mill 38 = .ok (.iload_n 2, 1) := by decide +kernel
theorem dX3_mill_39 : decode cX3_mill 39 = .ok (.putfield 73, 3) := by decide +kernel
theorem dX3_mill_42 : decode cX3_mill 42 = .ok (.iload_n 3, 1) := by decide +kernel
theorem dX3_mill_43 : decode cX3_mill 43 = .ok (.ireturn, 1) := by decide +kernel
theorem dX3_set_0 : decode cX3_set 0 = .ok (.iload_n 1, 1) := by decide +kernel
theorem dX3_set_1 : decode cX3_set 1 = .ok (.iconst 2, 1) := by decide +kernel
theorem dX3_set_2 : decode cX3_set 2 = .ok (.invokestatic 45, 3) := by decide +kernel
theorem dX3_set_5 : decode cX3_set 5 = .ok (.iload_n 2, 1) := by decide +kernel
theorem dX3_set_6 : decode cX3_set 6 = .ok (.getstatic 78, 3) := by decide +kernel
theorem dX3_set_9 : decode cX3_set 9 = .ok (.iload_n 1, 1) := by decide +kernel
theorem dX3_set_10 : decode cX3_set 10 = .ok (.iaload, 1) := by decide +kernel
theorem dX3_set_11 : decode cX3_set 11 = .ok (.getstatic 81, 3) := by decide +kernel
theorem dX3_set_14 : decode cX3_set 14 = .ok (.iload_n 1, 1) := by decide +kernel
theorem dX3_set_15 : decode cX3_set 15 = .ok (.iaload, 1) := by decide +kernel
theorem dX3_set_16 : decode cX3_set 16 = .ok (.invokestatic 49, 3) := by decide +kernel
theorem dX3_set_19 : decode cX3_set 19 = .ok (.aload_n 0, 1) := by decide +kernel
theorem dX3_set_20 : decode cX3_set 20 = .ok (.invokevirtual 53, 3) := by decide +kernel
theorem dX3_set_23 : decode cX3_set 23 = .ok (.aload_n 0, 1) := by decide +kernel
theorem dX3_set_24 : decode cX3_set 24 = .ok (.getfield 10, 3) := by decide +kernel
theorem dX3_set_27 : decode cX3_set 27 = .ok (.getfield 84, 3) := by decide +kernel
theorem dX3_set_30 : decode cX3_set 30 = .ok (.iload_n 1, 1) := by decide +kernel
theorem dX3_set_31 : decode cX3_set 31 = .ok (.iaload, 1) := by decide +kernel
theorem dX3_set_32 : decode cX3_set 32 = .ok (.istore_n 3, 1) := by decide +kernel
theorem dX3_set_33 : decode cX3_set 33 = .ok (.aload_n 0, 1) := by decide +kernel
theorem dX3_set_34 : decode cX3_set 34 = .ok (.getfield 10, 3) := by decide +kernel
theorem dX3_set_37 : decode cX3_set 37 = .ok (.getfield 84, 3) := by decide +kernel
theorem dX3_set_40 : decode cX3_set 40 = .ok (.iload_n 1, 1) := by decide +kernel
theorem dX3_set_41 : decode cX3_set 41 = .ok (.iload_n 2, 1) := by decide +kernel
theorem dX3_set_42 : decode cX3_set 42 = .ok (.iastore, 1) := by decide +kernel
theorem dX3_set_43 : decode cX3_set 43 = .ok (.iload_n 3, 1) := by decide +kernel
theorem dX3_set_44 : decode cX3_set 44 = .ok (.ireturn, 1) := by decide +kernel
theorem dX3_bring_0 : decode cX3_bring 0 = .ok (.iload_n 1, 1) := by decide +kernel
theorem dX3_bring_1 : decode cX3_bring 1 = .ok (.iconst 5, 1) := by decide +kernel
theorem dX3_bring_2 : decode cX3_bring 2 = .ok (.invokestatic 45, 3) := by decide +kernel
theorem dX3_bring_5 : decode cX3_bring 5 = .ok (.iload_n 2, 1) := by decide +kernel
theorem dX3_bring_6 : decode cX3_bring 6 = .ok (.iconst 3, 1) := by decide +kernel
theorem dX3_bring_7 : decode cX3_bring 7 = .ok (.invokestatic 45, 3) := by decide +kernel
theorem dX3_bring_10 : decode cX3_bring 10 = .ok (.iload_n 3, 1) := by decide +kernel
theorem dX3_bring_11 : decode cX3_bring 11 = .ok (.iconst 1, 1) := by decide +kernel
theorem dX3_bring_12 : decode cX3_bring 12 = .ok (.bipush 99, 2) := by decide +kernel
theorem dX3_bring_14 : decode cX3_bring 14 = .ok (.invokestatic 49, 3) := by decide +kernel
theorem dX3_bring_17 : decode cX3_bring 17 = .ok (.aload_n 0, 1) := by decide +kernel
theorem dX3_bring_18 : decode cX3_bring 18 = .ok (.invokevirtual 53, 3) := by decide +kernel
theorem dX3_bring_21 : decode cX3_bring 21 = .ok (.aload_n 0, 1) := by decide +kernel
theorem dX3_bring_22 : decode cX3_bring 22 = .ok (.getfield 10, 3) := by decide +kernel
theorem dX3_bring_25 : decode cX3_bring 25 = .ok (.getfield 69, 3) := by decide +kernel
theorem dX3_bring_28 : decode cX3_bring 28 = .ok (.iload_n 2, 1) := by decide +kernel
theorem dX3_bring_29 : decode cX3_bring 29 = .ok (.aaload, 1) := by decide +kernel
theorem dX3_bring_30 : decode cX3_bring 30 = .ok (.astore 4, 2) := by decide +kernel
theorem dX3_bring_32 : decode cX3_bring 32 = .ok (.aload 4, 2) := by decide +kernel
theorem dX3_bring_34 : decode cX3_bring 34 = .ok (.getfield 87, 3) := by decide +kernel
theorem dX3_bring_37 : decode cX3_bring 37 = .ok (.bipush 8, 2) := by decide +kernel
theorem dX3_bring_39 : decode cX3_bring 39 = .ok (.if_icmp .lt 18, 3) := by decide +kernel
theorem dX3_bring_42 : decode cX3_bring 42 = .ok (.aload_n 0, 1) := by decide +kernel
theorem dX3_bring_43 : decode cX3_bring 43 = .ok (.getfield 10, 3) := by decide +kernel
theorem dX3_bring_46 : decode cX3_bring 46 = .ok (.dup, 1) := by decide +kernel
theorem dX3_bring_47 : decode cX3_bring 47 = .ok (.getfield 90, 3) := by decide +kernel
theorem dX3_bring_50 : decode cX3_bring 50 = .ok (.iconst 1, 1) := by decide +kernel
theorem dX3_bring_51 : decode cX3_bring 51 = .ok (.iadd, 1) := by decide +kernel
theorem dX3_bring_52 : decode cX3_bring 52 = .ok (.putfield 90, 3) := by decide +kernel
theorem dX3_bring_55 : decode cX3_bring 55 = .ok (.iconst (-1), 1) := by decide +kernel
theorem dX3_bring_56 : decode cX3_bring 56 = .ok (.ireturn, 1) := by decide +kernel
theorem dX3_bring_57 : decode cX3_bring 57 = .ok (.aload 4, 2) := by decide +kernel
theorem dX3_bring_59 : decode cX3_bring 59 = .ok (.iload_n 1, 1) := by decide +kernel
theorem dX3_bring_60 : decode cX3_bring 60 = .ok (.iload_n 3, 1) := by decide +kernel
theorem dX3_bring_61 : decode cX3_bring 61 = .ok (.invokevirtual 93, 3) := by decide +kernel
theorem dX3_bring_64 : decode cX3_bring 64 = .ok (.aload_n 0, 1) := by decide +kernel
theorem dX3_bring_65 : decode cX3_bring 65 = .ok (.getfield 10, 3) := by decide +kernel
theorem dX3_bring_68 : decode cX3_bring 68 = .ok (.getfield 96, 3) := by decide +kernel
theorem dX3_bring_71 : decode cX3_bring 71 = .ok (.iload_n 1, 1) := by decide +kernel
theorem dX3_bring_72 : decode cX3_bring 72 = .ok (.dup2, 1) := by decide +kernel
theorem dX3_bring_73 : decode cX3_bring 73 = .ok (.iaload, 1) := by decide +kernel
theorem dX3_bring_74 : decode cX3_bring 74 = .ok (.iload_n 3, 1) := by decide +kernel
theorem dX3_bring_75 : decode cX3_bring 75 = .ok (.iadd, 1) := by decide +kernel
theorem dX3_bring_76 : decode cX3_bring 76 = .ok (.iastore, 1) := by decide +kernel
theorem dX3_bring_77 : decode cX3_bring 77 = .ok (.aload 4, 2) := by decide +kernel
theorem dX3_bring_79 : decode cX3_bring 79 = .ok (.invokevirtual 99, 3) := by decide +kernel
theorem dX3_bring_82 : decode cX3_bring 82 = .ok (.ireturn, 1) := by decide +kernel
theorem dX3_takeBack_0 : decode cX3_takeBack 0 = .ok (.iload_n 1, 1) := by decide +kernel
theorem dX3_takeBack_1 : decode cX3_takeBack 1 = .ok (.iconst 3, 1) := by decide +kernel
theorem dX3_takeBack_2 : decode cX3_takeBack 2 = .ok (.invokestatic 45, 3) := by decide +kernel
theorem dX3_takeBack_5 : decode cX3_takeBack 5 = .ok (.aload_n 0, 1) := by decide +kernel
theorem dX3_takeBack_6 : decode cX3_takeBack 6 = .ok (.invokevirtual 53, 3) := by decide +kernel
theorem dX3_takeBack_9 : decode cX3_takeBack 9 = .ok (.aload_n 0, 1) := by decide +kernel
theorem dX3_takeBack_10 : decode cX3_takeBack 10 = .ok (.getfield 10, 3) := by decide +kernel
theorem dX3_takeBack_13 : decode cX3_takeBack 13 = .ok (.getfield 69, 3) := by decide +kernel
theorem dX3_takeBack_16 : decode cX3_takeBack 16 = .ok (.iload_n 1, 1) := by decide +kernel
theorem dX3_takeBack_17 : decode cX3_takeBack 17 = .ok (.aaload, 1) := by decide +kernel
theorem dX3_takeBack_18 : decode cX3_takeBack 18 = .ok (.astore_n 2, 1) := by decide +kernel
theorem dX3_takeBack_19 : decode cX3_takeBack 19 = .ok (.aload_n 2, 1) := by decide +kernel
theorem dX3_takeBack_20 : decode cX3_takeBack 20 = .ok (.getfield 87, 3) := by decide +kernel
theorem dX3_takeBack_23 : decode cX3_takeBack 23 = .ok (.ifCond .gt 18, 3) := by decide +kernel
theorem dX3_takeBack_26 : decode cX3_takeBack 26 = .ok (.aload_n 0, 1) := by decide +kernel
theorem dX3_takeBack_27 : decode cX3_takeBack 27 = .ok (.getfield 10, 3) := by decide +kernel
theorem dX3_takeBack_30 : decode cX3_takeBack 30 = .ok (.dup, 1) := by decide +kernel
theorem dX3_takeBack_31 : decode cX3_takeBack 31 = .ok (.getfield 90, 3) := by decide +kernel
theorem dX3_takeBack_34 : decode cX3_takeBack 34 = .ok (.iconst 1, 1) := by decide +kernel
theorem dX3_takeBack_35 : decode cX3_takeBack 35 = .ok (.iadd, 1) := by decide +kernel
theorem dX3_takeBack_36 : decode cX3_takeBack 36 = .ok (.putfield 90, 3) := by decide +kernel
theorem dX3_takeBack_39 : decode cX3_takeBack 39 = .ok (.iconst (-1), 1) := by decide +kernel
theorem dX3_takeBack_40 : decode cX3_takeBack 40 = .ok (.ireturn, 1) := by decide +kernel
theorem dX3_takeBack_41 : decode cX3_takeBack 41 = .ok (.aload_n 2, 1) := by decide +kernel
theorem dX3_takeBack_42 : decode cX3_takeBack 42 = .ok (.dup, 1) := by decide +kernel
theorem dX3_takeBack_43 : decode cX3_takeBack 43 = .ok (.getfield 87, 3) := by decide +kernel
theorem dX3_takeBack_46 : decode cX3_takeBack 46 = .ok (.iconst 1, 1) := by decide +kernel
theorem dX3_takeBack_47 : decode cX3_takeBack 47 = .ok (.isub, 1) := by decide +kernel
theorem dX3_takeBack_48 : decode cX3_takeBack 48 = .ok (.putfield 87, 3) := by decide +kernel
theorem dX3_takeBack_51 : decode cX3_takeBack 51 = .ok (.aload_n 2, 1) := by decide +kernel
theorem dX3_takeBack_52 : decode cX3_takeBack 52 = .ok (.getfield 103, 3) := by decide +kernel
theorem dX3_takeBack_55 : decode cX3_takeBack 55 = .ok (.aload_n 2, 1) := by decide +kernel
theorem dX3_takeBack_56 : decode cX3_takeBack 56 = .ok (.getfield 87, 3) := by decide +kernel
theorem dX3_takeBack_59 : decode cX3_takeBack 59 = .ok (.iaload, 1) := by decide +kernel
theorem dX3_takeBack_60 : decode cX3_takeBack 60 = .ok (.istore_n 3, 1) := by decide +kernel
theorem dX3_takeBack_61 : decode cX3_takeBack 61 = .ok (.aload_n 0, 1) := by decide +kernel
theorem dX3_takeBack_62 : decode cX3_takeBack 62 = .ok (.getfield 10, 3) := by decide +kernel
theorem dX3_takeBack_65 : decode cX3_takeBack 65 = .ok (.getfield 106, 3) := by decide +kernel
theorem dX3_takeBack_68 : decode cX3_takeBack 68 = .ok (.aload_n 2, 1) := by decide +kernel
theorem dX3_takeBack_69 : decode cX3_takeBack 69 = .ok (.getfield 109, 3) := by decide +kernel
theorem dX3_takeBack_72 : decode cX3_takeBack 72 = .ok (.aload_n 2, 1) := by decide +kernel
theorem dX3_takeBack_73 : decode cX3_takeBack 73 = .ok (.getfield 87, 3) := by decide +kernel
theorem dX3_takeBack_76 : decode cX3_takeBack 76 = .ok (.iaload, 1) := by decide +kernel
theorem dX3_takeBack_77 : decode cX3_takeBack 77 = .ok (.dup2, 1) := by decide +kernel
theorem dX3_takeBack_78 : decode cX3_takeBack 78 = .ok (.iaload, 1) := by decide +kernel
theorem dX3_takeBack_79 : decode cX3_takeBack 79 = .ok (.iload_n 3, 1) := by decide +kernel
theorem dX3_takeBack_80 : decode cX3_takeBack 80 = .ok (.iadd, 1) := by decide +kernel
theorem dX3_takeBack_81 : decode cX3_takeBack 81 = .ok (.iastore, 1) := by decide +kernel
theorem dX3_takeBack_82 : decode cX3_takeBack 82 = .ok (.iload_n 3, 1) := by decide +kernel
theorem dX3_takeBack_83 : decode cX3_takeBack 83 = .ok (.ireturn, 1) := by decide +kernel
theorem dX3_pass_0 : decode cX3_pass 0 = .ok (.iload_n 1, 1) := by decide +kernel
theorem dX3_pass_1 : decode cX3_pass 1 = .ok (.iconst 1, 1) := by decide +kernel
theorem dX3_pass_2 : decode cX3_pass 2 = .ok (.bipush 99, 2) := by decide +kernel
theorem dX3_pass_4 : decode cX3_pass 4 = .ok (.invokestatic 49, 3) := by decide +kernel
theorem dX3_pass_7 : decode cX3_pass 7 = .ok (.aload_n 0, 1) := by decide +kernel
theorem dX3_pass_8 : decode cX3_pass 8 = .ok (.getfield 10, 3) := by decide +kernel
theorem dX3_pass_11 : decode cX3_pass 11 = .ok (.getfield 112, 3) := by decide +kernel
theorem dX3_pass_14 : decode cX3_pass 14 = .ok (.iload_n 1, 1) := by decide +kernel
theorem dX3_pass_15 : decode cX3_pass 15 = .ok (.iadd, 1) := by decide +kernel
theorem dX3_pass_16 : decode cX3_pass 16 = .ok (.ldc 115, 2) := by decide +kernel
theorem dX3_pass_18 : decode cX3_pass 18 = .ok (.if_icmp .le 13, 3) := by decide +kernel
theorem dX3_pass_21 : decode cX3_pass 21 = .ok (.new 116, 3) := by decide +kernel
theorem dX3_pass_24 : decode cX3_pass 24 = .ok (.dup, 1) := by decide +kernel
theorem dX3_pass_25 : decode cX3_pass 25 = .ok (.ldc 118, 2) := by decide +kernel
theorem dX3_pass_27 : decode cX3_pass 27 = .ok (.invokespecial 120, 3) := by decide +kernel
theorem dX3_pass_30 : decode cX3_pass 30 = .ok (.athrow, 1) := by decide +kernel
theorem dX3_pass_31 : decode cX3_pass 31 = .ok (.aload_n 0, 1) := by decide +kernel
theorem dX3_pass_32 : decode cX3_pass 32 = .ok (.invokevirtual 53, 3) := by decide +kernel
theorem dX3_pass_35 : decode cX3_pass 35 = .ok (.iconst 0, 1) := by decide +kernel
theorem dX3_pass_36 : decode cX3_pass 36 = .ok (.istore_n 2, 1) := by decide +kernel
theorem dX3_pass_37 : decode cX3_pass 37 = .ok (.iconst 0, 1) := by decide +kernel
theorem dX3_pass_38 : decode cX3_pass 38 = .ok (.istore_n 3, 1) := by decide +kernel
theorem dX3_pass_39 : decode cX3_pass 39 = .ok (.iload_n 3, 1) := by decide +kernel
theorem dX3_pass_40 : decode cX3_pass 40 = .ok (.iload_n 1, 1) := by decide +kernel
theorem dX3_pass_41 : decode cX3_pass 41 = .ok (.if_icmp .ge 19, 3) := by decide +kernel
theorem dX3_pass_44 : decode cX3_pass 44 = .ok (.iload_n 2, 1) := by decide +kernel
theorem dX3_pass_45 : decode cX3_pass 45 = .ok (.aload_n 0, 1) := by decide +kernel
theorem dX3_pass_46 : decode cX3_pass 46 = .ok (.getfield 10, 3) := by decide +kernel
theorem dX3_pass_49 : decode cX3_pass 49 = .ok (.invokevirtual 123, 3) := by decide +kernel
theorem dX3_pass_52 : decode cX3_pass 52 = .ok (.iadd, 1) := by decide +kernel
theorem dX3_pass_53 : decode cX3_pass 53 = .ok (.istore_n 2, 1) := by decide +kernel
theorem dX3_pass_54 : decode cX3_pass 54 = .ok (.iinc 3 1, 3) := by decide +kernel
theorem dX3_pass_57 : decode cX3_pass 57 = .ok (.goto (-18), 3) := by decide +kernel
theorem dX3_pass_60 : decode cX3_pass 60 = .ok (.iload_n 2, 1) := by decide +kernel
theorem dX3_pass_61 : decode cX3_pass 61 = .ok (.ireturn, 1) := by decide +kernel
theorem dX3_undo_0 : decode cX3_undo 0 = .ok (.aload_n 0, 1) := by decide +kernel
theorem dX3_undo_1 : decode cX3_undo 1 = .ok (.getfield 31, 3) := by decide +kernel
theorem dX3_undo_4 : decode cX3_undo 4 = .ok (.ifCond .gt 13, 3) := by decide +kernel
theorem dX3_undo_7 : decode cX3_undo 7 = .ok (.new 116, 3) := by decide +kernel
theorem dX3_undo_10 : decode cX3_undo 10 = .ok (.dup, 1) := by decide +kernel
theorem dX3_undo_11 : decode cX3_undo 11 = .ok (.ldc 161, 2) := by decide +kernel
theorem dX3_undo_13 : decode cX3_undo 13 = .ok (.invokespecial 120, 3) := by decide +kernel
theorem dX3_undo_16 : decode cX3_undo 16 = .ok (.athrow, 1) := by decide +kernel
theorem dX3_undo_17 : decode cX3_undo 17 = .ok (.aload_n 0, 1) := by decide +kernel
theorem dX3_undo_18 : decode cX3_undo 18 = .ok (.aload_n 0, 1) := by decide +kernel
theorem dX3_undo_19 : decode cX3_undo 19 = .ok (.getfield 27, 3) := by decide +kernel
theorem dX3_undo_22 : decode cX3_undo 22 = .ok (.ifCond .le 12, 3) := by decide +kernel
theorem dX3_undo_25 : decode cX3_undo 25 = .ok (.aload_n 0, 1) := by decide +kernel
theorem dX3_undo_26 : decode cX3_undo 26 = .ok (.getfield 27, 3) := by decide +kernel
theorem dX3_undo_29 : decode cX3_undo 29 = .ok (.iconst 1, 1) := by decide +kernel
theorem dX3_undo_30 : decode cX3_undo 30 = .ok (.isub, 1) := by decide +kernel
theorem dX3_undo_31 : decode cX3_undo 31 = .ok (.goto 4, 3) := by decide +kernel
theorem dX3_undo_34 : decode cX3_undo 34 = .ok (.iconst 5, 1) := by decide +kernel
theorem dX3_undo_35 : decode cX3_undo 35 = .ok (.putfield 27, 3) := by decide +kernel
theorem dX3_undo_38 : decode cX3_undo 38 = .ok (.aload_n 0, 1) := by decide +kernel
theorem dX3_undo_39 : decode cX3_undo 39 = .ok (.dup, 1) := by decide +kernel
theorem dX3_undo_40 : decode cX3_undo 40 = .ok (.getfield 31, 3) := by decide +kernel
theorem dX3_undo_43 : decode cX3_undo 43 = .ok (.iconst 1, 1) := by decide +kernel
theorem dX3_undo_44 : decode cX3_undo 44 = .ok (.isub, 1) := by decide +kernel
theorem dX3_undo_45 : decode cX3_undo 45 = .ok (.putfield 31, 3) := by decide +kernel
theorem dX3_undo_48 : decode cX3_undo 48 = .ok (.aload_n 0, 1) := by decide +kernel
theorem dX3_undo_49 : decode cX3_undo 49 = .ok (.getfield 10, 3) := by decide +kernel
theorem dX3_undo_52 : decode cX3_undo 52 = .ok (.aload_n 0, 1) := by decide +kernel
theorem dX3_undo_53 : decode cX3_undo 53 = .ok (.getfield 24, 3) := by decide +kernel
theorem dX3_undo_56 : decode cX3_undo 56 = .ok (.aload_n 0, 1) := by decide +kernel
theorem dX3_undo_57 : decode cX3_undo 57 = .ok (.getfield 27, 3) := by decide +kernel
theorem dX3_undo_60 : decode cX3_undo 60 = .ok (.aaload, 1) := by decide +kernel
theorem dX3_undo_61 : decode cX3_undo 61 = .ok (.invokevirtual 153, 3) := by decide +kernel
theorem dX3_undo_64 : decode cX3_undo 64 = .ok (.aload_n 0, 1) := by decide +kernel
theorem dX3_undo_65 : decode cX3_undo 65 = .ok (.getfield 31, 3) := by decide +kernel
theorem dX3_undo_68 : decode cX3_undo 68 = .ok (.ireturn, 1) := by decide +kernel
theorem dX3_hourOf_0 : decode cX3_hourOf 0 = .ok (.iload_n 1, 1) := by decide +kernel
theorem dX3_hourOf_1 : decode cX3_hourOf 1 = .ok (.bipush 24, 2) := by decide +kernel
theorem dX3_hourOf_3 : decode cX3_hourOf 3 = .ok (.invokestatic 45, 3) := by decide +kernel
theorem dX3_hourOf_6 : decode cX3_hourOf 6 = .ok (.iload_n 2, 1) := by decide +kernel
theorem dX3_hourOf_7 : decode cX3_hourOf 7 = .ok (.iconst 0, 1) := by decide +kernel
theorem dX3_hourOf_8 : decode cX3_hourOf 8 = .ok (.iconst 4, 1) := by decide +kernel
theorem dX3_hourOf_9 : decode cX3_hourOf 9 = .ok (.invokestatic 49, 3) := by decide +kernel
theorem dX3_hourOf_12 : decode cX3_hourOf 12 = .ok (.iload_n 2, 1) := by decide +kernel
theorem dX3_hourOf_13 : decode cX3_hourOf 13 = .ok (.tableswitch 69 0 3 #[31, 41, 51, 60], 31) := by decide +kernel
theorem dX3_hourOf_44 : decode cX3_hourOf 44 = .ok (.aload_n 0, 1) := by decide +kernel
theorem dX3_hourOf_45 : decode cX3_hourOf 45 = .ok (.getfield 10, 3) := by decide +kernel
theorem dX3_hourOf_48 : decode cX3_hourOf 48 = .ok (.getfield 56, 3) := by decide +kernel
theorem dX3_hourOf_51 : decode cX3_hourOf 51 = .ok (.iload_n 1, 1) := by decide +kernel
theorem dX3_hourOf_52 : decode cX3_hourOf 52 = .ok (.iaload, 1) := by decide +kernel
theorem dX3_hourOf_53 : decode cX3_hourOf 53 = .ok (.ireturn, 1) := by decide +kernel
theorem dX3_hourOf_54 : decode cX3_hourOf 54 = .ok (.aload_n 0, 1) := by decide +kernel
theorem dX3_hourOf_55 : decode cX3_hourOf 55 = .ok (.getfield 10, 3) := by decide +kernel
theorem dX3_hourOf_58 : decode cX3_hourOf 58 = .ok (.getfield 59, 3) := by decide +kernel
theorem dX3_hourOf_61 : decode cX3_hourOf 61 = .ok (.iload_n 1, 1) := by decide +kernel
theorem dX3_hourOf_62 : decode cX3_hourOf 62 = .ok (.iaload, 1) := by decide +kernel
theorem dX3_hourOf_63 : decode cX3_hourOf 63 = .ok (.ireturn, 1) := by decide +kernel
theorem dX3_hourOf_64 : decode cX3_hourOf 64 = .ok (.aload_n 0, 1) := by decide +kernel
theorem dX3_hourOf_65 : decode cX3_hourOf 65 = .ok (.getfield 10, 3) := by decide +kernel
theorem dX3_hourOf_68 : decode cX3_hourOf 68 = .ok (.iload_n 1, 1) := by decide +kernel
theorem dX3_hourOf_69 : decode cX3_hourOf 69 = .ok (.invokevirtual 163, 3) := by decide +kernel
theorem dX3_hourOf_72 : decode cX3_hourOf 72 = .ok (.ireturn, 1) := by decide +kernel
theorem dX3_hourOf_73 : decode cX3_hourOf 73 = .ok (.aload_n 0, 1) := by decide +kernel
theorem dX3_hourOf_74 : decode cX3_hourOf 74 = .ok (.getfield 10, 3) := by decide +kernel
theorem dX3_hourOf_77 : decode cX3_hourOf 77 = .ok (.iload_n 1, 1) := by decide +kernel
theorem dX3_hourOf_78 : decode cX3_hourOf 78 = .ok (.invokevirtual 167, 3) := by decide +kernel
theorem dX3_hourOf_81 : decode cX3_hourOf 81 = .ok (.ireturn, 1) := by decide +kernel
theorem dX3_hourOf_82 : decode cX3_hourOf 82 = .ok (.aload_n 0, 1) := by decide +kernel
theorem dX3_hourOf_83 : decode cX3_hourOf 83 = .ok (.getfield 10, 3) := by decide +kernel
theorem dX3_hourOf_86 : decode cX3_hourOf 86 = .ok (.iload_n 1, 1) := by decide +kernel
theorem dX3_hourOf_87 : decode cX3_hourOf 87 = .ok (.invokevirtual 170, 3) := by decide +kernel
theorem dX3_hourOf_90 : decode cX3_hourOf 90 = .ok (.ireturn, 1) := by decide +kernel
theorem dX3_vaneOf_0 : decode cX3_vaneOf 0 = .ok (.iload_n 1, 1) := by decide +kernel
theorem dX3_vaneOf_1 : decode cX3_vaneOf 1 = .ok (.bipush 6, 2) := by decide +kernel
theorem dX3_vaneOf_3 : decode cX3_vaneOf 3 = .ok (.invokestatic 45, 3) := by decide +kernel
theorem dX3_vaneOf_6 : decode cX3_vaneOf 6 = .ok (.iload_n 2, 1) := by decide +kernel
theorem dX3_vaneOf_7 : decode cX3_vaneOf 7 = .ok (.iconst 0, 1) := by decide +kernel
theorem dX3_vaneOf_8 : decode cX3_vaneOf 8 = .ok (.iconst 5, 1) := by decide +kernel
theorem dX3_vaneOf_9 : decode cX3_vaneOf 9 = .ok (.invokestatic 49, 3) := by decide +kernel
theorem dX3_vaneOf_12 : decode cX3_vaneOf 12 = .ok (.iload_n 2, 1) := by decide +kernel
theorem dX3_vaneOf_13 : decode cX3_vaneOf 13 = .ok (.iconst 4, 1) := by decide +kernel
theorem dX3_vaneOf_14 : decode cX3_vaneOf 14 = .ok (.if_icmp .ge 15, 3) := by decide +kernel
theorem dX3_vaneOf_17 : decode cX3_vaneOf 17 = .ok (.aload_n 0, 1) := by decide +kernel
theorem dX3_vaneOf_18 : decode cX3_vaneOf 18 = .ok (.getfield 10, 3) := by decide +kernel
theorem dX3_vaneOf_21 : decode cX3_vaneOf 21 = .ok (.getfield 65, 3) := by decide +kernel
theorem dX3_vaneOf_24 : decode cX3_vaneOf 24 = .ok (.iload_n 1, 1) := by decide +kernel
theorem dX3_vaneOf_25 : decode cX3_vaneOf 25 = .ok (.aaload, 1) := by decide +kernel
theorem dX3_vaneOf_26 : decode cX3_vaneOf 26 = .ok (.iload_n 2, 1) := by decide +kernel
theorem dX3_vaneOf_27 : decode cX3_vaneOf 27 = .ok (.iaload, 1) := by decide +kernel
theorem dX3_vaneOf_28 : decode cX3_vaneOf 28 = .ok (.ireturn, 1) := by decide +kernel
theorem dX3_vaneOf_29 : decode cX3_vaneOf 29 = .ok (.iload_n 2, 1) := by decide +kernel
theorem dX3_vaneOf_30 : decode cX3_vaneOf 30 = .ok (.iconst 4, 1) := by decide +kernel
theorem dX3_vaneOf_31 : decode cX3_vaneOf 31 = .ok (.if_icmp .ne 14, 3) := by decide +kernel
theorem dX3_vaneOf_34 : decode cX3_vaneOf 34 = .ok (.aload_n 0, 1) := by decide +kernel
theorem dX3_vaneOf_35 : decode cX3_vaneOf 35 = .ok (.getfield 10, 3) := by decide +kernel
theorem dX3_vaneOf_38 : decode cX3_vaneOf 38 = .ok (.iload_n 1, 1) := by decide +kernel
theorem dX3_vaneOf_39 : decode cX3_vaneOf 39 = .ok (.invokevirtual 173, 3) := by decide +kernel
theorem dX3_vaneOf_42 : decode cX3_vaneOf 42 = .ok (.goto 11, 3) := by decide +kernel
theorem dX3_vaneOf_45 : decode cX3_vaneOf 45 = .ok (.aload_n 0, 1) := by decide +kernel
theorem dX3_vaneOf_46 : decode cX3_vaneOf 46 = .ok (.getfield 10, 3) := by decide +kernel
theorem dX3_vaneOf_49 : decode cX3_vaneOf 49 = .ok (.iload_n 1, 1) := by decide +kernel
theorem dX3_vaneOf_50 : decode cX3_vaneOf 50 = .ok (.invokevirtual 176, 3) := by decide +kernel
theorem dX3_vaneOf_53 : decode cX3_vaneOf 53 = .ok (.ireturn, 1) := by decide +kernel
theorem dX3_millOf_0 : decode cX3_millOf 0 = .ok (.iload_n 1, 1) := by decide +kernel
theorem dX3_millOf_1 : decode cX3_millOf 1 = .ok (.iconst 3, 1) := by decide +kernel
theorem dX3_millOf_2 : decode cX3_millOf 2 = .ok (.invokestatic 45, 3) := by decide +kernel
theorem dX3_millOf_5 : decode cX3_millOf 5 = .ok (.iload_n 2, 1) := by decide +kernel
theorem dX3_millOf_6 : decode cX3_millOf 6 = .ok (.iconst 0, 1) := by decide +kernel
theorem dX3_millOf_7 : decode cX3_millOf 7 = .ok (.iconst 5, 1) := by decide +kernel
theorem dX3_millOf_8 : decode cX3_millOf 8 = .ok (.invokestatic 49, 3) := by decide +kernel
theorem dX3_millOf_11 : decode cX3_millOf 11 = .ok (.aload_n 0, 1) := by decide +kernel
theorem dX3_millOf_12 : decode cX3_millOf 12 = .ok (.getfield 10, 3) := by decide +kernel
theorem dX3_millOf_15 : decode cX3_millOf 15 = .ok (.getfield 69, 3) := by decide +kernel
theorem dX3_millOf_18 : decode cX3_millOf 18 = .ok (.iload_n 1, 1) := by decide +kernel
theorem dX3_millOf_19 : decode cX3_millOf 19 = .ok (.aaload, 1) := by decide +kernel
theorem dX3_millOf_20 : decode cX3_millOf 20 = .ok (.astore_n 3, 1) := by decide +kernel
theorem dX3_millOf_21 : decode cX3_millOf 21 = .ok (.iload_n 2, 1) := by decide +kernel
theorem dX3_millOf_22 : decode cX3_millOf 22 = .ok (.tableswitch 72 0 4 #[34, 39, 44, 49, 54], 34) := by decide +kernel
theorem dX3_millOf_56 : decode cX3_millOf 56 = .ok (.aload_n 3, 1) := by decide +kernel
theorem dX3_millOf_57 : decode cX3_millOf 57 = .ok (.getfield 73, 3) := by decide +kernel
theorem dX3_millOf_60 : decode cX3_millOf 60 = .ok (.ireturn, 1) := by decide +kernel
theorem dX3_millOf_61 : decode cX3_millOf 61 = .ok (.aload_n 3, 1) := by decide +kernel
theorem dX3_millOf_62 : decode cX3_millOf 62 = .ok (.getfield 87, 3) := by decide +kernel
theorem dX3_millOf_65 : decode cX3_millOf 65 = .ok (.ireturn, 1) := by decide +kernel
theorem dX3_millOf_66 : decode cX3_millOf 66 = .ok (.aload_n 3, 1) := by decide +kernel
theorem dX3_millOf_67 : decode cX3_millOf 67 = .ok (.invokevirtual 99, 3) := by decide +kernel
theorem dX3_millOf_70 : decode cX3_millOf 70 = .ok (.ireturn, 1) := by decide +kernel
theorem dX3_millOf_71 : decode cX3_millOf 71 = .ok (.aload_n 3, 1) := by decide +kernel
theorem dX3_millOf_72 : decode cX3_millOf 72 = .ok (.getfield 179, 3) := by decide +kernel
theorem dX3_millOf_75 : decode cX3_millOf 75 = .ok (.ireturn, 1) := by decide +kernel
theorem dX3_millOf_76 : decode cX3_millOf 76 = .ok (.aload_n 3, 1) := by decide +kernel
theorem dX3_millOf_77 : decode cX3_millOf 77 = .ok (.getfield 87, 3) := by decide +kernel
theorem dX3_millOf_80 : decode cX3_millOf 80 = .ok (.ifCond .le 12, 3) := by decide +kernel
theorem dX3_millOf_83 : decode cX3_millOf 83 = .ok (.aload_n 3, 1) := by decide +kernel
theorem dX3_millOf_84 : decode cX3_millOf 84 = .ok (.getfield 109, 3) := by decide +kernel
theorem dX3_millOf_87 : decode cX3_millOf 87 = .ok (.iconst 0, 1) := by decide +kernel
theorem dX3_millOf_88 : decode cX3_millOf 88 = .ok (.iaload, 1) := by decide +kernel
theorem dX3_millOf_89 : decode cX3_millOf 89 = .ok (.goto 4, 3) := by decide +kernel
theorem dX3_millOf_92 : decode cX3_millOf 92 = .ok (.iconst (-1), 1) := by decide +kernel
theorem dX3_millOf_93 : decode cX3_millOf 93 = .ok (.ireturn, 1) := by decide +kernel
theorem dX3_millOf_94 : decode cX3_millOf 94 = .ok (.aload_n 0, 1) := by decide +kernel
theorem dX3_millOf_95 : decode cX3_millOf 95 = .ok (.getfield 10, 3) := by decide +kernel
theorem dX3_millOf_98 : decode cX3_millOf 98 = .ok (.aload_n 3, 1) := by decide +kernel
theorem dX3_millOf_99 : decode cX3_millOf 99 = .ok (.aload_n 0, 1) := by decide +kernel
theorem dX3_millOf_100 : decode cX3_millOf 100 = .ok (.getfield 41, 3) := by decide +kernel
theorem dX3_millOf_103 : decode cX3_millOf 103 = .ok (.invokevirtual 182, 3) := by decide +kernel
theorem dX3_millOf_106 : decode cX3_millOf 106 = .ok (.ireturn, 1) := by decide +kernel
theorem dX3_ownerOf_0 : decode cX3_ownerOf 0 = .ok (.iload_n 1, 1) := by decide +kernel
theorem dX3_ownerOf_1 : decode cX3_ownerOf 1 = .ok (.iconst 5, 1) := by decide +kernel
theorem dX3_ownerOf_2 : decode cX3_ownerOf 2 = .ok (.invokestatic 45, 3) := by decide +kernel
theorem dX3_ownerOf_5 : decode cX3_ownerOf 5 = .ok (.iload_n 2, 1) := by decide +kernel
theorem dX3_ownerOf_6 : decode cX3_ownerOf 6 = .ok (.iconst 0, 1) := by decide +kernel
theorem dX3_ownerOf_7 : decode cX3_ownerOf 7 = .ok (.iconst 3, 1) := by decide +kernel
theorem dX3_ownerOf_8 : decode cX3_ownerOf 8 = .ok (.invokestatic 49, 3) := by decide +kernel
theorem dX3_ownerOf_11 : decode cX3_ownerOf 11 = .ok (.iload_n 2, 1) := by decide +kernel
theorem dX3_ownerOf_12 : decode cX3_ownerOf 12 = .ok (.tableswitch 57 0 2 #[28, 37, 47], 28) := by decide +kernel
theorem dX3_ownerOf_40 : decode cX3_ownerOf 40 = .ok (.aload_n 0, 1) := by decide +kernel
theorem dX3_ownerOf_41 : decode cX3_ownerOf 41 = .ok (.getfield 10, 3) := by decide +kernel
theorem dX3_ownerOf_44 : decode cX3_ownerOf 44 = .ok (.iload_n 1, 1) := by decide +kernel
theorem dX3_ownerOf_45 : decode cX3_ownerOf 45 = .ok (.invokevirtual 186, 3) := by decide +kernel
theorem dX3_ownerOf_48 : decode cX3_ownerOf 48 = .ok (.ireturn, 1) := by decide +kernel
theorem dX3_ownerOf_49 : decode cX3_ownerOf 49 = .ok (.aload_n 0, 1) := by decide +kernel
theorem dX3_ownerOf_50 : decode cX3_ownerOf 50 = .ok (.getfield 10, 3) := by decide +kernel
theorem dX3_ownerOf_53 : decode cX3_ownerOf 53 = .ok (.getfield 189, 3) := by decide +kernel
theorem dX3_ownerOf_56 : decode cX3_ownerOf 56 = .ok (.iload_n 1, 1) := by decide +kernel
theorem dX3_ownerOf_57 : decode cX3_ownerOf 57 = .ok (.iaload, 1) := by decide +kernel
theorem dX3_ownerOf_58 : decode cX3_ownerOf 58 = .ok (.ireturn, 1) := by decide +kernel
theorem dX3_ownerOf_59 : decode cX3_ownerOf 59 = .ok (.aload_n 0, 1) := by decide +kernel
theorem dX3_ownerOf_60 : decode cX3_ownerOf 60 = .ok (.getfield 10, 3) := by decide +kernel
theorem dX3_ownerOf_63 : decode cX3_ownerOf 63 = .ok (.getfield 96, 3) := by decide +kernel
theorem dX3_ownerOf_66 : decode cX3_ownerOf 66 = .ok (.iload_n 1, 1) := by decide +kernel
theorem dX3_ownerOf_67 : decode cX3_ownerOf 67 = .ok (.iaload, 1) := by decide +kernel
theorem dX3_ownerOf_68 : decode cX3_ownerOf 68 = .ok (.ireturn, 1) := by decide +kernel
theorem dX3_ownerOf_69 : decode cX3_ownerOf 69 = .ok (.aload_n 0, 1) := by decide +kernel
theorem dX3_ownerOf_70 : decode cX3_ownerOf 70 = .ok (.getfield 10, 3) := by decide +kernel
theorem dX3_ownerOf_73 : decode cX3_ownerOf 73 = .ok (.getfield 106, 3) := by decide +kernel
theorem dX3_ownerOf_76 : decode cX3_ownerOf 76 = .ok (.iload_n 1, 1) := by decide +kernel
theorem dX3_ownerOf_77 : decode cX3_ownerOf 77 = .ok (.iaload, 1) := by decide +kernel
theorem dX3_ownerOf_78 : decode cX3_ownerOf 78 = .ok (.ireturn, 1) := by decide +kernel
theorem dX3_count_0 : decode cX3_count 0 = .ok (.iload_n 1, 1) := by decide +kernel
theorem dX3_count_1 : decode cX3_count 1 = .ok (.iconst 0, 1) := by decide +kernel
theorem dX3_count_2 : decode cX3_count 2 = .ok (.bipush 8, 2) := by decide +kernel
theorem dX3_count_4 : decode cX3_count 4 = .ok (.invokestatic 49, 3) := by decide +kernel
theorem dX3_count_7 : decode cX3_count 7 = .ok (.iload_n 1, 1) := by decide +kernel
theorem dX3_count_8 : decode cX3_count 8 = .ok (.tableswitch 112 0 7 #[48, 56, 64, 72, 80, 88, 96, 104], 48) := by decide +kernel
theorem dX3_count_56 : decode cX3_count 56 = .ok (.aload_n 0, 1) := by decide +kernel
theorem dX3_count_57 : decode cX3_count 57 = .ok (.getfield 10, 3) := by decide +kernel
theorem dX3_count_60 : decode cX3_count 60 = .ok (.getfield 156, 3) := by decide +kernel
theorem dX3_count_63 : decode cX3_count 63 = .ok (.ireturn, 1) := by decide +kernel
theorem dX3_count_64 : decode cX3_count 64 = .ok (.aload_n 0, 1) := by decide +kernel
theorem dX3_count_65 : decode cX3_count 65 = .ok (.getfield 10, 3) := by decide +kernel
theorem dX3_count_68 : decode cX3_count 68 = .ok (.getfield 112, 3) := by decide +kernel
theorem dX3_count_71 : decode cX3_count 71 = .ok (.ireturn, 1) := by decide +kernel
theorem dX3_count_72 : decode cX3_count 72 = .ok (.aload_n 0, 1) := by decide +kernel
theorem dX3_count_73 : decode cX3_count 73 = .ok (.getfield 10, 3) := by decide +kernel
theorem dX3_count_76 : decode cX3_count 76 = .ok (.getfield 192, 3) := by decide +kernel
theorem dX3_count_79 : decode cX3_count 79 = .ok (.ireturn, 1) := by decide +kernel
theorem dX3_count_80 : decode cX3_count 80 = .ok (.aload_n 0, 1) := by decide +kernel
theorem dX3_count_81 : decode cX3_count 81 = .ok (.getfield 10, 3) := by decide +kernel
theorem dX3_count_84 : decode cX3_count 84 = .ok (.invokevirtual 195, 3) := by decide +kernel
theorem dX3_count_87 : decode cX3_count 87 = .ok (.ireturn, 1) := by decide +kernel
theorem dX3_count_88 : decode cX3_count 88 = .ok (.aload_n 0, 1) := by decide +kernel
theorem dX3_count_89 : decode cX3_count 89 = .ok (.getfield 10, 3) := by decide +kernel
theorem dX3_count_92 : decode cX3_count 92 = .ok (.invokevirtual 150, 3) := by decide +kernel
theorem dX3_count_95 : decode cX3_count 95 = .ok (.ireturn, 1) := by decide +kernel
theorem dX3_count_96 : decode cX3_count 96 = .ok (.aload_n 0, 1) := by decide +kernel
theorem dX3_count_97 : decode cX3_count 97 = .ok (.getfield 10, 3) := by decide +kernel
theorem dX3_count_100 : decode cX3_count 100 = .ok (.invokevirtual 198, 3) := by decide +kernel
theorem dX3_count_103 : decode cX3_count 103 = .ok (.ireturn, 1) := by decide +kernel
theorem dX3_count_104 : decode cX3_count 104 = .ok (.aload_n 0, 1) := by decide +kernel
theorem dX3_count_105 : decode cX3_count 105 = .ok (.getfield 10, 3) := by decide +kernel
theorem dX3_count_108 : decode cX3_count 108 = .ok (.invokevirtual 199, 3) := by decide +kernel
theorem dX3_count_111 : decode cX3_count 111 = .ok (.ireturn, 1) := by decide +kernel
theorem dX3_count_112 : decode cX3_count 112 = .ok (.aload_n 0, 1) := by decide +kernel
theorem dX3_count_113 : decode cX3_count 113 = .ok (.getfield 10, 3) := by decide +kernel
theorem dX3_count_116 : decode cX3_count 116 = .ok (.getfield 90, 3) := by decide +kernel
theorem dX3_count_119 : decode cX3_count 119 = .ok (.ireturn, 1) := by decide +kernel
theorem dX3_count_120 : decode cX3_count 120 = .ok (.aload_n 0, 1) := by decide +kernel
theorem dX3_count_121 : decode cX3_count 121 = .ok (.getfield 31, 3) := by decide +kernel
theorem dX3_count_124 : decode cX3_count 124 = .ok (.ireturn, 1) := by decide +kernel
theorem dX3_setting_0 : decode cX3_setting 0 = .ok (.iload_n 1, 1) := by decide +kernel
theorem dX3_setting_1 : decode cX3_setting 1 = .ok (.iconst 2, 1) := by decide +kernel
theorem dX3_setting_2 : decode cX3_setting 2 = .ok (.invokestatic 45, 3) := by decide +kernel
theorem dX3_setting_5 : decode cX3_setting 5 = .ok (.aload_n 0, 1) := by decide +kernel
theorem dX3_setting_6 : decode cX3_setting 6 = .ok (.getfield 10, 3) := by decide +kernel
theorem dX3_setting_9 : decode cX3_setting 9 = .ok (.getfield 84, 3) := by decide +kernel
theorem dX3_setting_12 : decode cX3_setting 12 = .ok (.iload_n 1, 1) := by decide +kernel
theorem dX3_setting_13 : decode cX3_setting 13 = .ok (.iaload, 1) := by decide +kernel
theorem dX3_setting_14 : decode cX3_setting 14 = .ok (.ireturn, 1) := by decide +kernel
theorem dX3_doneIn_0 : decode cX3_doneIn 0 = .ok (.iload_n 1, 1) := by decide +kernel
theorem dX3_doneIn_1 : decode cX3_doneIn 1 = .ok (.iconst 3, 1) := by decide +kernel
theorem dX3_doneIn_2 : decode cX3_doneIn 2 = .ok (.invokestatic 45, 3) := by decide +kernel
theorem dX3_doneIn_5 : decode cX3_doneIn 5 = .ok (.iload_n 2, 1) := by decide +kernel
theorem dX3_doneIn_6 : decode cX3_doneIn 6 = .ok (.iconst 0, 1) := by decide +kernel
theorem dX3_doneIn_7 : decode cX3_doneIn 7 = .ok (.iconst 1, 1) := by decide +kernel
theorem dX3_doneIn_8 : decode cX3_doneIn 8 = .ok (.invokestatic 49, 3) := by decide +kernel
theorem dX3_doneIn_11 : decode cX3_doneIn 11 = .ok (.aload_n 0, 1) := by decide +kernel
theorem dX3_doneIn_12 : decode cX3_doneIn 12 = .ok (.getfield 10, 3) := by decide +kernel
theorem dX3_doneIn_15 : decode cX3_doneIn 15 = .ok (.getfield 69, 3) := by decide +kernel
theorem dX3_doneIn_18 : decode cX3_doneIn 18 = .ok (.iload_n 1, 1) := by decide +kernel
theorem dX3_doneIn_19 : decode cX3_doneIn 19 = .ok (.aaload, 1) := by decide +kernel
theorem dX3_doneIn_20 : decode cX3_doneIn 20 = .ok (.astore_n 3, 1) := by decide +kernel
theorem dX3_doneIn_21 : decode cX3_doneIn 21 = .ok (.aload_n 3, 1) := by decide +kernel
theorem dX3_doneIn_22 : decode cX3_doneIn 22 = .ok (.invokevirtual 99, 3) := by decide +kernel
theorem dX3_doneIn_25 : decode cX3_doneIn 25 = .ok (.istore 4, 2) := by decide +kernel
theorem dX3_doneIn_27 : decode cX3_doneIn 27 = .ok (.iload 4, 2) := by decide +kernel
theorem dX3_doneIn_29 : decode cX3_doneIn 29 = .ok (.ifCond .ne 5, 3) := by decide +kernel
theorem dX3_doneIn_32 : decode cX3_doneIn 32 = .ok (.iconst 0, 1) := by decide +kernel
theorem dX3_doneIn_33 : decode cX3_doneIn 33 = .ok (.ireturn, 1) := by decide +kernel
theorem dX3_doneIn_34 : decode cX3_doneIn 34 = .ok (.aload_n 0, 1) := by decide +kernel
theorem dX3_doneIn_35 : decode cX3_doneIn 35 = .ok (.getfield 10, 3) := by decide +kernel
theorem dX3_doneIn_38 : decode cX3_doneIn 38 = .ok (.aload_n 3, 1) := by decide +kernel
theorem dX3_doneIn_39 : decode cX3_doneIn 39 = .ok (.aload_n 0, 1) := by decide +kernel
theorem dX3_doneIn_40 : decode cX3_doneIn 40 = .ok (.getfield 41, 3) := by decide +kernel
theorem dX3_doneIn_43 : decode cX3_doneIn 43 = .ok (.invokevirtual 182, 3) := by decide +kernel
theorem dX3_doneIn_46 : decode cX3_doneIn 46 = .ok (.istore 5, 2) := by decide +kernel
theorem dX3_doneIn_48 : decode cX3_doneIn 48 = .ok (.iload 5, 2) := by decide +kernel
theorem dX3_doneIn_50 : decode cX3_doneIn 50 = .ok (.ifCond .gt 5, 3) := by decide +kernel
theorem dX3_doneIn_53 : decode cX3_doneIn 53 = .ok (.iconst (-1), 1) := by decide +kernel
theorem dX3_doneIn_54 : decode cX3_doneIn 54 = .ok (.ireturn, 1) := by decide +kernel
theorem dX3_doneIn_55 : decode cX3_doneIn 55 = .ok (.iload_n 2, 1) := by decide +kernel
theorem dX3_doneIn_56 : decode cX3_doneIn 56 = .ok (.ifCond .ne 10, 3) := by decide +kernel
theorem dX3_doneIn_59 : decode cX3_doneIn 59 = .ok (.aload_n 0, 1) := by decide +kernel
theorem dX3_doneIn_60 : decode cX3_doneIn 60 = .ok (.iload 4, 2) := by decide +kernel
theorem dX3_doneIn_62 : decode cX3_doneIn 62 = .ok (.invokevirtual 202, 3) := by decide +kernel
theorem dX3_doneIn_65 : decode cX3_doneIn 65 = .ok (.ireturn, 1) := by decide +kernel
theorem dX3_doneIn_66 : decode cX3_doneIn 66 = .ok (.iload 4, 2) := by decide +kernel
theorem dX3_doneIn_68 : decode cX3_doneIn 68 = .ok (.iconst 1, 1) := by decide +kernel
theorem dX3_doneIn_69 : decode cX3_doneIn 69 = .ok (.isub, 1) := by decide +kernel
theorem dX3_doneIn_70 : decode cX3_doneIn 70 = .ok (.iload 5, 2) := by decide +kernel
theorem dX3_doneIn_72 : decode cX3_doneIn 72 = .ok (.idiv, 1) := by decide +kernel
theorem dX3_doneIn_73 : decode cX3_doneIn 73 = .ok (.istore 6, 2) := by decide +kernel
theorem dX3_doneIn_75 : decode cX3_doneIn 75 = .ok (.iload 6, 2) := by decide +kernel
theorem dX3_doneIn_77 : decode cX3_doneIn 77 = .ok (.bipush 24, 2) := by decide +kernel
theorem dX3_doneIn_79 : decode cX3_doneIn 79 = .ok (.imul, 1) := by decide +kernel
theorem dX3_doneIn_80 : decode cX3_doneIn 80 = .ok (.aload_n 0, 1) := by decide +kernel
theorem dX3_doneIn_81 : decode cX3_doneIn 81 = .ok (.iload 4, 2) := by decide +kernel
theorem dX3_doneIn_83 : decode cX3_doneIn 83 = .ok (.iload 6, 2) := by decide +kernel
theorem dX3_doneIn_85 : decode cX3_doneIn 85 = .ok (.iload 5, 2) := by decide +kernel
theorem dX3_doneIn_87 : decode cX3_doneIn 87 = .ok (.imul, 1) := by decide +kernel
theorem dX3_doneIn_88 : decode cX3_doneIn 88 = .ok (.isub, 1) := by decide +kernel
theorem dX3_doneIn_89 : decode cX3_doneIn 89 = .ok (.invokevirtual 202, 3) := by decide +kernel
theorem dX3_doneIn_92 : decode cX3_doneIn 92 = .ok (.iadd, 1) := by decide +kernel
theorem dX3_doneIn_93 : decode cX3_doneIn 93 = .ok (.ireturn, 1) := by decide +kernel
theorem dX3_ifPassed_0 : decode cX3_ifPassed 0 = .ok (.iload_n 1, 1) := by decide +kernel
theorem dX3_ifPassed_1 : decode cX3_ifPassed 1 = .ok (.iconst 5, 1) := by decide +kernel
theorem dX3_ifPassed_2 : decode cX3_ifPassed 2 = .ok (.invokestatic 45, 3) := by decide +kernel
theorem dX3_ifPassed_5 : decode cX3_ifPassed 5 = .ok (.iload_n 2, 1) := by decide +kernel
theorem dX3_ifPassed_6 : decode cX3_ifPassed 6 = .ok (.iconst 1, 1) := by decide +kernel
theorem dX3_ifPassed_7 : decode cX3_ifPassed 7 = .ok (.bipush 99, 2) := by decide +kernel
theorem dX3_ifPassed_9 : decode cX3_ifPassed 9 = .ok (.invokestatic 49, 3) := by decide +kernel
theorem dX3_ifPassed_12 : decode cX3_ifPassed 12 = .ok (.iconst 0, 1) := by decide +kernel
theorem dX3_ifPassed_13 : decode cX3_ifPassed 13 = .ok (.istore_n 3, 1) := by decide +kernel
theorem dX3_ifPassed_14 : decode cX3_ifPassed 14 = .ok (.iconst 0, 1) := by decide +kernel
theorem dX3_ifPassed_15 : decode cX3_ifPassed 15 = .ok (.istore 4, 2) := by decide +kernel
theorem dX3_ifPassed_17 : decode cX3_ifPassed 17 = .ok (.iload 4, 2) := by decide +kernel
theorem dX3_ifPassed_19 : decode cX3_ifPassed 19 = .ok (.iconst 3, 1) := by decide +kernel
theorem dX3_ifPassed_20 : decode cX3_ifPassed 20 = .ok (.if_icmp .ge 97, 3) := by decide +kernel
theorem dX3_ifPassed_23 : decode cX3_ifPassed 23 = .ok (.aload_n 0, 1) := by decide +kernel
theorem dX3_ifPassed_24 : decode cX3_ifPassed 24 = .ok (.getfield 10, 3) := by decide +kernel
theorem dX3_ifPassed_27 : decode cX3_ifPassed 27 = .ok (.getfield 69, 3) := by decide +kernel
theorem dX3_ifPassed_30 : decode cX3_ifPassed 30 = .ok (.iload 4, 2) := by decide +kernel
theorem dX3_ifPassed_32 : decode cX3_ifPassed 32 = .ok (.aaload, 1) := by decide +kernel
theorem dX3_ifPassed_33 : decode cX3_ifPassed 33 = .ok (.astore 5, 2) := by decide +kernel
theorem dX3_ifPassed_35 : decode cX3_ifPassed 35 = .ok (.aload_n 0, 1) := by decide +kernel
theorem dX3_ifPassed_36 : decode cX3_ifPassed 36 = .ok (.getfield 10, 3) := by decide +kernel
theorem dX3_ifPassed_39 : decode cX3_ifPassed 39 = .ok (.aload 5, 2) := by decide +kernel
theorem dX3_ifPassed_41 : decode cX3_ifPassed 41 = .ok (.aload_n 0, 1) := by decide +kernel
theorem dX3_ifPassed_42 : decode cX3_ifPassed 42 = .ok (.getfield 41, 3) := by decide +kernel
theorem dX3_ifPassed_45 : decode cX3_ifPassed 45 = .ok (.invokevirtual 182, 3) := by decide +kernel
theorem dX3_ifPassed_48 : decode cX3_ifPassed 48 = .ok (.istore 6, 2) := by decide +kernel
theorem dX3_ifPassed_50 : decode cX3_ifPassed 50 = .ok (.iload_n 2, 1) := by decide +kernel
theorem dX3_ifPassed_51 : decode cX3_ifPassed 51 = .ok (.bipush 24, 2) := by decide +kernel
theorem dX3_ifPassed_53 : decode cX3_ifPassed 53 = .ok (.idiv, 1) := by decide +kernel
theorem dX3_ifPassed_54 : decode cX3_ifPassed 54 = .ok (.iload 6, 2) := by decide +kernel
theorem dX3_ifPassed_56 : decode cX3_ifPassed 56 = .ok (.imul, 1) := by decide +kernel
theorem dX3_ifPassed_57 : decode cX3_ifPassed 57 = .ok (.istore 7, 2) := by decide +kernel
theorem dX3_ifPassed_59 : decode cX3_ifPassed 59 = .ok (.iconst 0, 1) := by decide +kernel
theorem dX3_ifPassed_60 : decode cX3_ifPassed 60 = .ok (.istore 8, 2) := by decide +kernel
theorem dX3_ifPassed_62 : decode cX3_ifPassed 62 = .ok (.iload 8, 2) := by decide +kernel
theorem dX3_ifPassed_64 : decode cX3_ifPassed 64 = .ok (.iload_n 2, 1) := by decide +kernel
theorem dX3_ifPassed_65 : decode cX3_ifPassed 65 = .ok (.bipush 24, 2) := by decide +kernel
theorem dX3_ifPassed_67 : decode cX3_ifPassed 67 = .ok (.irem, 1) := by decide +kernel
theorem dX3_ifPassed_68 : decode cX3_ifPassed 68 = .ok (.if_icmp .ge 32, 3) := by decide +kernel
theorem dX3_ifPassed_71 : decode cX3_ifPassed 71 = .ok (.iload 7, 2) := by decide +kernel
theorem dX3_ifPassed_73 : decode cX3_ifPassed 73 = .ok (.aload_n 0, 1) := by decide +kernel
theorem dX3_ifPassed_74 : decode cX3_ifPassed 74 = .ok (.getfield 41, 3) := by decide +kernel
theorem dX3_ifPassed_77 : decode cX3_ifPassed 77 = .ok (.aload_n 0, 1) := by decide +kernel
theorem dX3_ifPassed_78 : decode cX3_ifPassed 78 = .ok (.getfield 10, 3) := by decide +kernel
theorem dX3_ifPassed_81 : decode cX3_ifPassed 81 = .ok (.getfield 156, 3) := by decide +kernel
theorem dX3_ifPassed_84 : decode cX3_ifPassed 84 = .ok (.iload 8, 2) := by decide +kernel
theorem dX3_ifPassed_86 : decode cX3_ifPassed 86 = .ok (.iadd, 1) := by decide +kernel
theorem dX3_ifPassed_87 : decode cX3_ifPassed 87 = .ok (.bipush 24, 2) := by decide +kernel
theorem dX3_ifPassed_89 : decode cX3_ifPassed 89 = .ok (.irem, 1) := by decide +kernel
theorem dX3_ifPassed_90 : decode cX3_ifPassed 90 = .ok (.iaload, 1) := by decide +kernel
theorem dX3_ifPassed_91 : decode cX3_ifPassed 91 = .ok (.iadd, 1) := by decide +kernel
theorem dX3_ifPassed_92 : decode cX3_ifPassed 92 = .ok (.istore 7, 2) := by decide +kernel
theorem dX3_ifPassed_94 : decode cX3_ifPassed 94 = .ok (.iinc 8 1, 3) := by decide +kernel
theorem dX3_ifPassed_97 : decode cX3_ifPassed 97 = .ok (.goto (-35), 3) := by decide +kernel
theorem dX3_ifPassed_100 : decode cX3_ifPassed 100 = .ok (.iload_n 3, 1) := by decide +kernel
theorem dX3_ifPassed_101 : decode cX3_ifPassed 101 = .ok (.aload 5, 2) := by decide +kernel
theorem dX3_ifPassed_103 : decode cX3_ifPassed 103 = .ok (.iload_n 1, 1) := by decide +kernel
theorem dX3_ifPassed_104 : decode cX3_ifPassed 104 = .ok (.iload 7, 2) := by decide +kernel
theorem dX3_ifPassed_106 : decode cX3_ifPassed 106 = .ok (.invokevirtual 205, 3) := by decide +kernel
theorem dX3_ifPassed_109 : decode cX3_ifPassed 109 = .ok (.iadd, 1) := by decide +kernel
theorem dX3_ifPassed_110 : decode cX3_ifPassed 110 = .ok (.istore_n 3, 1) := by decide +kernel
theorem dX3_ifPassed_111 : decode cX3_ifPassed 111 = .ok (.iinc 4 1, 3) := by decide +kernel
theorem dX3_ifPassed_114 : decode cX3_ifPassed 114 = .ok (.goto (-97), 3) := by decide +kernel
theorem dX3_ifPassed_117 : decode cX3_ifPassed 117 = .ok (.iload_n 3, 1) := by decide +kernel
theorem dX3_ifPassed_118 : decode cX3_ifPassed 118 = .ok (.ireturn, 1) := by decide +kernel
theorem dX3_turnsIn_0 : decode cX3_turnsIn 0 = .ok (.iconst 0, 1) := by decide +kernel
theorem dX3_turnsIn_1 : decode cX3_turnsIn 1 = .ok (.istore_n 1, 1) := by decide +kernel
theorem dX3_turnsIn_2 : decode cX3_turnsIn 2 = .ok (.iload_n 1, 1) := by decide +kernel
theorem dX3_turnsIn_3 : decode cX3_turnsIn 3 = .ok (.bipush 24, 2) := by decide +kernel
theorem dX3_turnsIn_5 : decode cX3_turnsIn 5 = .ok (.if_icmp .ge 33, 3) := by decide +kernel
theorem dX3_turnsIn_8 : decode cX3_turnsIn 8 = .ok (.aload_n 0, 1) := by decide +kernel
theorem dX3_turnsIn_9 : decode cX3_turnsIn 9 = .ok (.getfield 10, 3) := by decide +kernel
theorem dX3_turnsIn_12 : decode cX3_turnsIn 12 = .ok (.aload_n 0, 1) := by decide +kernel
theorem dX3_turnsIn_13 : decode cX3_turnsIn 13 = .ok (.getfield 10, 3) := by decide +kernel
theorem dX3_turnsIn_16 : decode cX3_turnsIn 16 = .ok (.getfield 156, 3) := by decide +kernel
theorem dX3_turnsIn_19 : decode cX3_turnsIn 19 = .ok (.iload_n 1, 1) := by decide +kernel
theorem dX3_turnsIn_20 : decode cX3_turnsIn 20 = .ok (.iadd, 1) := by decide +kernel
theorem dX3_turnsIn_21 : decode cX3_turnsIn 21 = .ok (.bipush 24, 2) := by decide +kernel
theorem dX3_turnsIn_23 : decode cX3_turnsIn 23 = .ok (.irem, 1) := by decide +kernel
theorem dX3_turnsIn_24 : decode cX3_turnsIn 24 = .ok (.invokevirtual 167, 3) := by decide +kernel
theorem dX3_turnsIn_27 : decode cX3_turnsIn 27 = .ok (.ifCond .ne 5, 3) := by decide +kernel
theorem dX3_turnsIn_30 : decode cX3_turnsIn 30 = .ok (.iload_n 1, 1) := by decide +kernel
theorem dX3_turnsIn_31 : decode cX3_turnsIn 31 = .ok (.ireturn, 1) := by decide +kernel
theorem dX3_turnsIn_32 : decode cX3_turnsIn 32 = .ok (.iinc 1 1, 3) := by decide +kernel
theorem dX3_turnsIn_35 : decode cX3_turnsIn 35 = .ok (.goto (-33), 3) := by decide +kernel
theorem dX3_turnsIn_38 : decode cX3_turnsIn 38 = .ok (.iconst (-1), 1) := by decide +kernel
theorem dX3_turnsIn_39 : decode cX3_turnsIn 39 = .ok (.ireturn, 1) := by decide +kernel
theorem dX3_mainVane_0 : decode cX3_mainVane 0 = .ok (.iconst 0, 1) := by decide +kernel
theorem dX3_mainVane_1 : decode cX3_mainVane 1 = .ok (.istore_n 1, 1) := by decide +kernel
theorem dX3_mainVane_2 : decode cX3_mainVane 2 = .ok (.aload_n 0, 1) := by decide +kernel
theorem dX3_mainVane_3 : decode cX3_mainVane 3 = .ok (.getfield 10, 3) := by decide +kernel
theorem dX3_mainVane_6 : decode cX3_mainVane 6 = .ok (.iconst 0, 1) := by decide +kernel
theorem dX3_mainVane_7 : decode cX3_mainVane 7 = .ok (.invokevirtual 176, 3) := by decide +kernel
theorem dX3_mainVane_10 : decode cX3_mainVane 10 = .ok (.istore_n 2, 1) := by decide +kernel
theorem dX3_mainVane_11 : decode cX3_mainVane 11 = .ok (.iconst 1, 1) := by decide +kernel
theorem dX3_mainVane_12 : decode cX3_mainVane 12 = .ok (.istore_n 3, 1) := by decide +kernel
theorem dX3_mainVane_13 : decode cX3_mainVane 13 = .ok (.iload_n 3, 1) := by decide +kernel
theorem dX3_mainVane_14 : decode cX3_mainVane 14 = .ok (.bipush 6, 2) := by decide +kernel
theorem dX3_mainVane_16 : decode cX3_mainVane 16 = .ok (.if_icmp .ge 30, 3) := by decide +kernel
theorem dX3_mainVane_19 : decode cX3_mainVane 19 = .ok (.aload_n 0, 1) := by decide +kernel
theorem dX3_mainVane_20 : decode cX3_mainVane 20 = .ok (.getfield 10, 3) := by decide +kernel
theorem dX3_mainVane_23 : decode cX3_mainVane 23 = .ok (.iload_n 3, 1) := by decide +kernel
theorem dX3_mainVane_24 : decode cX3_mainVane 24 = .ok (.invokevirtual 176, 3) := by decide +kernel
theorem dX3_mainVane_27 : decode cX3_mainVane 27 = .ok (.istore 4, 2) := by decide +kernel
theorem dX3_mainVane_29 : decode cX3_mainVane 29 = .ok (.iload 4, 2) := by decide +kernel
theorem dX3_mainVane_31 : decode cX3_mainVane 31 = .ok (.iload_n 2, 1) := by decide +kernel
theorem dX3_mainVane_32 : decode cX3_mainVane 32 = .ok (.if_icmp .le 8, 3) := by decide +kernel
theorem dX3_mainVane_35 : decode cX3_mainVane 35 = .ok (.iload_n 3, 1) := by decide +kernel
theorem dX3_mainVane_36 : decode cX3_mainVane 36 = .ok (.istore_n 1, 1) := by decide +kernel
theorem dX3_mainVane_37 : decode cX3_mainVane 37 = .ok (.iload 4, 2) := by decide +kernel
theorem dX3_mainVane_39 : decode cX3_mainVane 39 = .ok (.istore_n 2, 1) := by decide +kernel
theorem dX3_mainVane_40 : decode cX3_mainVane 40 = .ok (.iinc 3 1, 3) := by decide +kernel
theorem dX3_mainVane_43 : decode cX3_mainVane 43 = .ok (.goto (-30), 3) := by decide +kernel
theorem dX3_mainVane_46 : decode cX3_mainVane 46 = .ok (.iload_n 1, 1) := by decide +kernel
theorem dX3_mainVane_47 : decode cX3_mainVane 47 = .ok (.ireturn, 1) := by decide +kernel
theorem dX3_turnShare_0 : decode cX3_turnShare 0 = .ok (.aload_n 0, 1) := by decide +kernel
theorem dX3_turnShare_1 : decode cX3_turnShare 1 = .ok (.getfield 10, 3) := by decide +kernel
theorem dX3_turnShare_4 : decode cX3_turnShare 4 = .ok (.invokevirtual 150, 3) := by decide +kernel
theorem dX3_turnShare_7 : decode cX3_turnShare 7 = .ok (.i2d, 1) := by decide +kernel
theorem dX3_turnShare_8 : decode cX3_turnShare 8 = .ok (.ldc2_w 209, 3) := by decide +kernel
theorem dX3_turnShare_11 : decode cX3_turnShare 11 = .ok (.ddiv, 1) := by decide +kernel
theorem dX3_turnShare_12 : decode cX3_turnShare 12 = .ok (.dreturn, 1) := by decide +kernel
theorem dX3_needIndex_0 : decode cX3_needIndex 0 = .ok (.iload_n 0, 1) := by decide +kernel
theorem dX3_needIndex_1 : decode cX3_needIndex 1 = .ok (.ifCond .lt 8, 3) := by decide +kernel
theorem dX3_needIndex_4 : decode cX3_needIndex 4 = .ok (.iload_n 0, 1) := by decide +kernel
theorem dX3_needIndex_5 : decode cX3_needIndex 5 = .ok (.iload_n 1, 1) := by decide +kernel
theorem dX3_needIndex_6 : decode cX3_needIndex 6 = .ok (.if_icmp .lt 13, 3) := by decide +kernel
theorem dX3_needIndex_9 : decode cX3_needIndex 9 = .ok (.new 253, 3) := by decide +kernel
theorem dX3_needIndex_12 : decode cX3_needIndex 12 = .ok (.dup, 1) := by decide +kernel
theorem dX3_needIndex_13 : decode cX3_needIndex 13 = .ok (.ldc 255, 2) := by decide +kernel
theorem dX3_needIndex_15 : decode cX3_needIndex 15 = .ok (.invokespecial 257, 3) := by decide +kernel
theorem dX3_needIndex_18 : decode cX3_needIndex 18 = .ok (.athrow, 1) := by decide +kernel
theorem dX3_needIndex_19 : decode cX3_needIndex 19 = .ok (.return_, 1) := by decide +kernel
theorem dX3_needRange_0 : decode cX3_needRange 0 = .ok (.iload_n 0, 1) := by decide +kernel
theorem dX3_needRange_1 : decode cX3_needRange 1 = .ok (.iload_n 1, 1) := by decide +kernel
theorem dX3_needRange_2 : decode cX3_needRange 2 = .ok (.if_icmp .lt 8, 3) := by decide +kernel
theorem dX3_needRange_5 : decode cX3_needRange 5 = .ok (.iload_n 0, 1) := by decide +kernel
theorem dX3_needRange_6 : decode cX3_needRange 6 = .ok (.iload_n 2, 1) := by decide +kernel
theorem dX3_needRange_7 : decode cX3_needRange 7 = .ok (.if_icmp .le 14, 3) := by decide +kernel
theorem dX3_needRange_10 : decode cX3_needRange 10 = .ok (.new 141, 3) := by decide +kernel
theorem dX3_needRange_13 : decode cX3_needRange 13 = .ok (.dup, 1) := by decide +kernel
theorem dX3_needRange_14 : decode cX3_needRange 14 = .ok (.ldc_w 258, 3) := by decide +kernel
theorem dX3_needRange_17 : decode cX3_needRange 17 = .ok (.invokespecial 145, 3) := by decide +kernel
theorem dX3_needRange_20 : decode cX3_needRange 20 = .ok (.athrow, 1) := by decide +kernel
theorem dX3_needRange_21 : decode cX3_needRange 21 = .ok (.return_, 1) := by decide +kernel
theorem dX3_saveState_0 : decode cX3_saveState 0 = .ok (.aload_n 0, 1) := by decide +kernel
theorem dX3_saveState_1 : decode cX3_saveState 1 = .ok (.getfield 24, 3) := by decide +kernel
theorem dX3_saveState_4 : decode cX3_saveState 4 = .ok (.aload_n 0, 1) := by decide +kernel
theorem dX3_saveState_5 : decode cX3_saveState 5 = .ok (.getfield 27, 3) := by decide +kernel
theorem dX3_saveState_8 : decode cX3_saveState 8 = .ok (.aaload, 1) := by decide +kernel
theorem dX3_saveState_9 : decode cX3_saveState 9 = .ok (.aload_n 0, 1) := by decide +kernel
theorem dX3_saveState_10 : decode cX3_saveState 10 = .ok (.getfield 10, 3) := by decide +kernel
theorem dX3_saveState_13 : decode cX3_saveState 13 = .ok (.invokevirtual 153, 3) := by decide +kernel
theorem dX3_saveState_16 : decode cX3_saveState 16 = .ok (.aload_n 0, 1) := by decide +kernel
theorem dX3_saveState_17 : decode cX3_saveState 17 = .ok (.aload_n 0, 1) := by decide +kernel
theorem dX3_saveState_18 : decode cX3_saveState 18 = .ok (.getfield 27, 3) := by decide +kernel
theorem dX3_saveState_21 : decode cX3_saveState 21 = .ok (.iconst 1, 1) := by decide +kernel
theorem dX3_saveState_22 : decode cX3_saveState 22 = .ok (.iadd, 1) := by decide +kernel
theorem dX3_saveState_23 : decode cX3_saveState 23 = .ok (.bipush 6, 2) := by decide +kernel
theorem dX3_saveState_25 : decode cX3_saveState 25 = .ok (.if_icmp .ge 12, 3) := by decide +kernel
theorem dX3_saveState_28 : decode cX3_saveState 28 = .ok (.aload_n 0, 1) := by decide +kernel
theorem dX3_saveState_29 : decode cX3_saveState 29 = .ok (.getfield 27, 3) := by decide +kernel
theorem dX3_saveState_32 : decode cX3_saveState 32 = .ok (.iconst 1, 1) := by decide +kernel
theorem dX3_saveState_33 : decode cX3_saveState 33 = .ok (.iadd, 1) := by decide +kernel
theorem dX3_saveState_34 : decode cX3_saveState 34 = .ok (.goto 4, 3) := by decide +kernel
theorem dX3_saveState_37 : decode cX3_saveState 37 = .ok (.iconst 0, 1) := by decide +kernel
theorem dX3_saveState_38 : decode cX3_saveState 38 = .ok (.putfield 27, 3) := by decide +kernel
theorem dX3_saveState_41 : decode cX3_saveState 41 = .ok (.aload_n 0, 1) := by decide +kernel
theorem dX3_saveState_42 : decode cX3_saveState 42 = .ok (.getfield 31, 3) := by decide +kernel
theorem dX3_saveState_45 : decode cX3_saveState 45 = .ok (.bipush 6, 2) := by decide +kernel
theorem dX3_saveState_47 : decode cX3_saveState 47 = .ok (.if_icmp .ge 13, 3) := by decide +kernel
theorem dX3_saveState_50 : decode cX3_saveState 50 = .ok (.aload_n 0, 1) := by decide +kernel
theorem dX3_saveState_51 : decode cX3_saveState 51 = .ok (.dup, 1) := by decide +kernel
theorem dX3_saveState_52 : decode cX3_saveState 52 = .ok (.getfield 31, 3) := by decide +kernel
theorem dX3_saveState_55 : decode cX3_saveState 55 = .ok (.iconst 1, 1) := by decide +kernel
theorem dX3_saveState_56 : decode cX3_saveState 56 = .ok (.iadd, 1) := by decide +kernel
theorem dX3_saveState_57 : decode cX3_saveState 57 = .ok (.putfield 31, 3) := by decide +kernel
theorem dX3_saveState_60 : decode cX3_saveState 60 = .ok (.return_, 1) := by decide +kernel
theorem dX3_hoursUntilGround_0 : decode cX3_hoursUntilGround 0 = .ok (.iload_n 1, 1) := by decide +kernel
theorem dX3_hoursUntilGround_1 : decode cX3_hoursUntilGround 1 = .ok (.istore_n 2, 1) := by decide +kernel
theorem dX3_hoursUntilGround_2 : decode cX3_hoursUntilGround 2 = .ok (.aload_n 0, 1) := by decide +kernel
theorem dX3_hoursUntilGround_3 : decode cX3_hoursUntilGround 3 = .ok (.getfield 10, 3) := by decide +kernel
theorem dX3_hoursUntilGround_6 : decode cX3_hoursUntilGround 6 = .ok (.getfield 156, 3) := by decide +kernel
theorem dX3_hoursUntilGround_9 : decode cX3_hoursUntilGround 9 = .ok (.istore_n 3, 1) := by decide +kernel
theorem dX3_hoursUntilGround_10 : decode cX3_hoursUntilGround 10 = .ok (.sipush 19008, 3) := by decide +kernel
theorem dX3_hoursUntilGround_13 : decode cX3_hoursUntilGround 13 = .ok (.istore 4, 2) := by decide +kernel
theorem dX3_hoursUntilGround_15 : decode cX3_hoursUntilGround 15 = .ok (.iconst 1, 1) := by decide +kernel
theorem dX3_hoursUntilGround_16 : decode cX3_hoursUntilGround 16 = .ok (.istore 5, 2) := by decide +kernel
theorem dX3_hoursUntilGround_18 : decode cX3_hoursUntilGround 18 = .ok (.iload 5, 2) := by decide +kernel
theorem dX3_hoursUntilGround_20 : decode cX3_hoursUntilGround 20 = .ok (.iload 4, 2) := by decide +kernel
theorem dX3_hoursUntilGround_22 : decode cX3_hoursUntilGround 22 = .ok (.if_icmp .gt 41, 3) := by decide +kernel
theorem dX3_hoursUntilGround_25 : decode cX3_hoursUntilGround 25 = .ok (.iload_n 2, 1) := by decide +kernel
theorem dX3_hoursUntilGround_26 : decode cX3_hoursUntilGround 26 = .ok (.aload_n 0, 1) := by decide +kernel
theorem dX3_hoursUntilGround_27 : decode cX3_hoursUntilGround 27 = .ok (.getfield 41, 3) := by decide +kernel
theorem dX3_hoursUntilGround_30 : decode cX3_hoursUntilGround 30 = .ok (.iload_n 3, 1) := by decide +kernel
theorem dX3_hoursUntilGround_31 : decode cX3_hoursUntilGround 31 = .ok (.iaload, 1) := by decide +kernel
theorem dX3_hoursUntilGround_32 : decode cX3_hoursUntilGround 32 = .ok (.isub, 1) := by decide +kernel
theorem dX3_hoursUntilGround_33 : decode cX3_hoursUntilGround 33 = .ok (.istore_n 2, 1) := by decide +kernel
theorem dX3_hoursUntilGround_34 : decode cX3_hoursUntilGround 34 = .ok (.iload_n 2, 1) := by decide +kernel
theorem dX3_hoursUntilGround_35 : decode cX3_hoursUntilGround 35 = .ok (.ifCond .gt 6, 3) := by decide +kernel
theorem dX3_hoursUntilGround_38 : decode cX3_hoursUntilGround 38 = .ok (.iload 5, 2) := by decide +kernel
theorem dX3_hoursUntilGround_40 : decode cX3_hoursUntilGround 40 = .ok (.ireturn, 1) := by decide +kernel
theorem dX3_hoursUntilGround_41 : decode cX3_hoursUntilGround 41 = .ok (.iload_n 3, 1) := by decide +kernel
theorem dX3_hoursUntilGround_42 : decode cX3_hoursUntilGround 42 = .ok (.iconst 1, 1) := by decide +kernel
theorem dX3_hoursUntilGround_43 : decode cX3_hoursUntilGround 43 = .ok (.iadd, 1) := by decide +kernel
theorem dX3_hoursUntilGround_44 : decode cX3_hoursUntilGround 44 = .ok (.bipush 24, 2) := by decide +kernel
theorem dX3_hoursUntilGround_46 : decode cX3_hoursUntilGround 46 = .ok (.if_icmp .ge 9, 3) := by decide +kernel
theorem dX3_hoursUntilGround_49 : decode cX3_hoursUntilGround 49 = .ok (.iload_n 3, 1) := by decide +kernel
theorem dX3_hoursUntilGround_50 : decode cX3_hoursUntilGround 50 = .ok (.iconst 1, 1) := by decide +kernel
theorem dX3_hoursUntilGround_51 : decode cX3_hoursUntilGround 51 = .ok (.iadd, 1) := by decide +kernel
theorem dX3_hoursUntilGround_52 : decode cX3_hoursUntilGround 52 = .ok (.goto 4, 3) := by decide +kernel
theorem dX3_hoursUntilGround_55 : decode cX3_hoursUntilGround 55 = .ok (.iconst 0, 1) := by decide +kernel
theorem dX3_hoursUntilGround_56 : decode cX3_hoursUntilGround 56 = .ok (.istore_n 3, 1) := by decide +kernel
theorem dX3_hoursUntilGround_57 : decode cX3_hoursUntilGround 57 = .ok (.iinc 5 1, 3) := by decide +kernel
theorem dX3_hoursUntilGround_60 : decode cX3_hoursUntilGround 60 = .ok (.goto (-42), 3) := by decide +kernel
theorem dX3_hoursUntilGround_63 : decode cX3_hoursUntilGround 63 = .ok (.iconst (-1), 1) := by decide +kernel
theorem dX3_hoursUntilGround_64 : decode cX3_hoursUntilGround 64 = .ok (.ireturn, 1) := by decide +kernel
theorem dJ9_min_7cf53_0 : decode cJ9_min_7cf53 0 = .ok (.iload_n 0, 1) := by decide +kernel
theorem dJ9_min_7cf53_1 : decode cJ9_min_7cf53 1 = .ok (.iload_n 1, 1) := by decide +kernel
theorem dJ9_min_7cf53_2 : decode cJ9_min_7cf53 2 = .ok (.if_icmp .gt 7, 3) := by decide +kernel
theorem dJ9_min_7cf53_5 : decode cJ9_min_7cf53 5 = .ok (.iload_n 0, 1) := by decide +kernel
theorem dJ9_min_7cf53_6 : decode cJ9_min_7cf53 6 = .ok (.goto 4, 3) := by decide +kernel
theorem dJ9_min_7cf53_9 : decode cJ9_min_7cf53 9 = .ok (.iload_n 1, 1) := by decide +kernel
theorem dJ9_min_7cf53_10 : decode cJ9_min_7cf53 10 = .ok (.ireturn, 1) := by decide +kernel
theorem dL_cell_0 : decode cL_cell 0 = .ok (.iload_n 1, 1) := by decide +kernel
theorem dL_cell_1 : decode cL_cell 1 = .ok (.aload_n 0, 1) := by decide +kernel
theorem dL_cell_2 : decode cL_cell 2 = .ok (.arraylength, 1) := by decide +kernel
theorem dL_cell_3 : decode cL_cell 3 = .ok (.if_icmp .ge 9, 3) := by decide +kernel
theorem dL_cell_6 : decode cL_cell 6 = .ok (.aload_n 0, 1) := by decide +kernel
theorem dL_cell_7 : decode cL_cell 7 = .ok (.iload_n 1, 1) := by decide +kernel
theorem dL_cell_8 : decode cL_cell 8 = .ok (.iaload, 1) := by decide +kernel
theorem dL_cell_9 : decode cL_cell 9 = .ok (.goto 9, 3) := by decide +kernel
theorem dL_cell_12 : decode cL_cell 12 = .ok (.ldc 7, 2) := by decide +kernel
theorem dL_cell_14 : decode cL_cell 14 = .ok (.iload_n 1, 1) := by decide +kernel
theorem dL_cell_15 : decode cL_cell 15 = .ok (.iconst 1, 1) := by decide +kernel
theorem dL_cell_16 : decode cL_cell 16 = .ok (.iadd, 1) := by decide +kernel
theorem dL_cell_17 : decode cL_cell 17 = .ok (.imul, 1) := by decide +kernel
theorem dL_cell_18 : decode cL_cell 18 = .ok (.ireturn, 1) := by decide +kernel
theorem dL_low_0 : decode cL_low 0 = .ok (.iload_n 0, 1) := by decide +kernel
theorem dL_low_1 : decode cL_low 1 = .ok (.ldc 8, 2) := by decide +kernel
theorem dL_low_3 : decode cL_low 3 = .ok (.iand, 1) := by decide +kernel
theorem dL_low_4 : decode cL_low 4 = .ok (.iload_n 1, 1) := by decide +kernel
theorem dL_low_5 : decode cL_low 5 = .ok (.irem, 1) := by decide +kernel
theorem dL_low_6 : decode cL_low 6 = .ok (.ireturn, 1) := by decide +kernel
theorem dL_wind_0 : decode cL_wind 0 = .ok (.aload_n 0, 1) := by decide +kernel
theorem dL_wind_1 : decode cL_wind 1 = .ok (.iload_n 1, 1) := by decide +kernel
theorem dL_wind_2 : decode cL_wind 2 = .ok (.iload_n 2, 1) := by decide +kernel
theorem dL_wind_3 : decode cL_wind 3 = .ok (.iload_n 3, 1) := by decide +kernel
theorem dL_wind_4 : decode cL_wind 4 = .ok (.invokevirtual 9, 3) := by decide +kernel
theorem dL_wind_7 : decode cL_wind 7 = .ok (.istore 4, 2) := by decide +kernel
theorem dL_wind_9 : decode cL_wind 9 = .ok (.goto 13, 3) := by decide +kernel
theorem dL_wind_12 : decode cL_wind 12 = .ok (.astore 5, 2) := by decide +kernel
theorem dL_wind_14 : decode cL_wind 14 = .ok (.bipush (-31), 2) := by decide +kernel
theorem dL_wind_16 : decode cL_wind 16 = .ok (.ireturn, 1) := by decide +kernel
theorem dL_wind_17 : decode cL_wind 17 = .ok (.astore 5, 2) := by decide +kernel
theorem dL_wind_19 : decode cL_wind 19 = .ok (.bipush (-32), 2) := by decide +kernel
theorem dL_wind_21 : decode cL_wind 21 = .ok (.ireturn, 1) := by decide +kernel
theorem dL_wind_22 : decode cL_wind 22 = .ok (.iload 4, 2) := by decide +kernel
theorem dL_wind_24 : decode cL_wind 24 = .ok (.ireturn, 1) := by decide +kernel
theorem dL_vane_0 : decode cL_vane 0 = .ok (.aload_n 0, 1) := by decide +kernel
theorem dL_vane_1 : decode cL_vane 1 = .ok (.iload_n 1, 1) := by decide +kernel
theorem dL_vane_2 : decode cL_vane 2 = .ok (.iload_n 2, 1) := by decide +kernel
theorem dL_vane_3 : decode cL_vane 3 = .ok (.iload_n 3, 1) := by decide +kernel
theorem dL_vane_4 : decode cL_vane 4 = .ok (.invokevirtual 19, 3) := by decide +kernel
theorem dL_vane_7 : decode cL_vane 7 = .ok (.istore 4, 2) := by decide +kernel
theorem dL_vane_9 : decode cL_vane 9 = .ok (.goto 13, 3) := by decide +kernel
theorem dL_vane_12 : decode cL_vane 12 = .ok (.astore 5, 2) := by decide +kernel
theorem dL_vane_14 : decode cL_vane 14 = .ok (.bipush (-31), 2) := by decide +kernel
theorem dL_vane_16 : decode cL_vane 16 = .ok (.ireturn, 1) := by decide +kernel
theorem dL_vane_17 : decode cL_vane 17 = .ok (.astore 5, 2) := by decide +kernel
theorem dL_vane_19 : decode cL_vane 19 = .ok (.bipush (-32), 2) := by decide +kernel
theorem dL_vane_21 : decode cL_vane 21 = .ok (.ireturn, 1) := by decide +kernel
theorem dL_vane_22 : decode cL_vane 22 = .ok (.iload 4, 2) := by decide +kernel
theorem dL_vane_24 : decode cL_vane 24 = .ok (.ireturn, 1) := by decide +kernel
theorem dL_mill_0 : decode cL_mill 0 = .ok (.aload_n 0, 1) := by decide +kernel
theorem dL_mill_1 : decode cL_mill 1 = .ok (.iload_n 1, 1) := by decide +kernel
theorem dL_mill_2 : decode cL_mill 2 = .ok (.iload_n 2, 1) := by decide +kernel
theorem dL_mill_3 : decode cL_mill 3 = .ok (.invokevirtual 22, 3) := by decide +kernel
theorem dL_mill_6 : decode cL_mill 6 = .ok (.istore_n 3, 1) := by decide +kernel
theorem dL_mill_7 : decode cL_mill 7 = .ok (.goto 13, 3) := by decide +kernel
theorem dL_mill_10 : decode cL_mill 10 = .ok (.astore 4, 2) := by decide +kernel
theorem dL_mill_12 : decode cL_mill 12 = .ok (.bipush (-31), 2) := by decide +kernel
theorem dL_mill_14 : decode cL_mill 14 = .ok (.ireturn, 1) := by decide +kernel
theorem dL_mill_15 : decode cL_mill 15 = .ok (.astore 4, 2) := by decide +kernel
theorem dL_mill_17 : decode cL_mill 17 = .ok (.bipush (-32), 2) := by decide +kernel
theorem dL_mill_19 : decode cL_mill 19 = .ok (.ireturn, 1) := by decide +kernel
theorem dL_mill_20 : decode cL_mill 20 = .ok (.iload_n 3, 1) := by decide +kernel
theorem dL_mill_21 : decode cL_mill 21 = .ok (.ireturn, 1) := by decide +kernel
theorem dL_set_0 : decode cL_set 0 = .ok (.aload_n 0, 1) := by decide +kernel
theorem dL_set_1 : decode cL_set 1 = .ok (.iload_n 1, 1) := by decide +kernel
theorem dL_set_2 : decode cL_set 2 = .ok (.iload_n 2, 1) := by decide +kernel
theorem dL_set_3 : decode cL_set 3 = .ok (.invokevirtual 26, 3) := by decide +kernel
theorem dL_set_6 : decode cL_set 6 = .ok (.istore_n 3, 1) := by decide +kernel
theorem dL_set_7 : decode cL_set 7 = .ok (.goto 13, 3) := by decide +kernel
theorem dL_set_10 : decode cL_set 10 = .ok (.astore 4, 2) := by decide +kernel
theorem dL_set_12 : decode cL_set 12 = .ok (.bipush (-31), 2) := by decide +kernel
theorem dL_set_14 : decode cL_set 14 = .ok (.ireturn, 1) := by decide +kernel
theorem dL_set_15 : decode cL_set 15 = .ok (.astore 4, 2) := by decide +kernel
theorem dL_set_17 : decode cL_set 17 = .ok (.bipush (-32), 2) := by decide +kernel
theorem dL_set_19 : decode cL_set 19 = .ok (.ireturn, 1) := by decide +kernel
theorem dL_set_20 : decode cL_set 20 = .ok (.iload_n 3, 1) := by decide +kernel
theorem dL_set_21 : decode cL_set 21 = .ok (.ireturn, 1) := by decide +kernel
theorem dL_bring_0 : decode cL_bring 0 = .ok (.aload_n 0, 1) := by decide +kernel
theorem dL_bring_1 : decode cL_bring 1 = .ok (.iload_n 1, 1) := by decide +kernel
theorem dL_bring_2 : decode cL_bring 2 = .ok (.iload_n 2, 1) := by decide +kernel
theorem dL_bring_3 : decode cL_bring 3 = .ok (.iload_n 3, 1) := by decide +kernel
theorem dL_bring_4 : decode cL_bring 4 = .ok (.invokevirtual 29, 3) := by decide +kernel
theorem dL_bring_7 : decode cL_bring 7 = .ok (.istore 4, 2) := by decide +kernel
theorem dL_bring_9 : decode cL_bring 9 = .ok (.goto 13, 3) := by decide +kernel
theorem dL_bring_12 : decode cL_bring 12 = .ok (.astore 5, 2) := by decide +kernel
theorem dL_bring_14 : decode cL_bring 14 = .ok (.bipush (-31), 2) := by decide +kernel
theorem dL_bring_16 : decode cL_bring 16 = .ok (.ireturn, 1) := by decide +kernel
theorem dL_bring_17 : decode cL_bring 17 = .ok (.astore 5, 2) := by decide +kernel
theorem dL_bring_19 : decode cL_bring 19 = .ok (.bipush (-32), 2) := by decide +kernel
theorem dL_bring_21 : decode cL_bring 21 = .ok (.ireturn, 1) := by decide +kernel
theorem dL_bring_22 : decode cL_bring 22 = .ok (.iload 4, 2) := by decide +kernel
theorem dL_bring_24 : decode cL_bring 24 = .ok (.ireturn, 1) := by decide +kernel
theorem dL_takeBack_0 : decode cL_takeBack 0 = .ok (.aload_n 0, 1) := by decide +kernel
theorem dL_takeBack_1 : decode cL_takeBack 1 = .ok (.iload_n 1, 1) := by decide +kernel
theorem dL_takeBack_2 : decode cL_takeBack 2 = .ok (.invokevirtual 32, 3) := by decide +kernel
theorem dL_takeBack_5 : decode cL_takeBack 5 = .ok (.istore_n 2, 1) := by decide +kernel
theorem dL_takeBack_6 : decode cL_takeBack 6 = .ok (.goto 7, 3) := by decide +kernel
theorem dL_takeBack_9 : decode cL_takeBack 9 = .ok (.astore_n 3, 1) := by decide +kernel
theorem dL_takeBack_10 : decode cL_takeBack 10 = .ok (.bipush (-31), 2) := by decide +kernel
theorem dL_takeBack_12 : decode cL_takeBack 12 = .ok (.ireturn, 1) := by decide +kernel
theorem dL_takeBack_13 : decode cL_takeBack 13 = .ok (.iload_n 2, 1) := by decide +kernel
theorem dL_takeBack_14 : decode cL_takeBack 14 = .ok (.ireturn, 1) := by decide +kernel
theorem dL_pass_0 : decode cL_pass 0 = .ok (.aload_n 0, 1) := by decide +kernel
theorem dL_pass_1 : decode cL_pass 1 = .ok (.iload_n 1, 1) := by decide +kernel
theorem dL_pass_2 : decode cL_pass 2 = .ok (.invokevirtual 36, 3) := by decide +kernel
theorem dL_pass_5 : decode cL_pass 5 = .ok (.istore_n 2, 1) := by decide +kernel
theorem dL_pass_6 : decode cL_pass 6 = .ok (.goto 11, 3) := by decide +kernel
theorem dL_pass_9 : decode cL_pass 9 = .ok (.astore_n 3, 1) := by decide +kernel
theorem dL_pass_10 : decode cL_pass 10 = .ok (.bipush (-32), 2) := by decide +kernel
theorem dL_pass_12 : decode cL_pass 12 = .ok (.ireturn, 1) := by decide +kernel
theorem dL_pass_13 : decode cL_pass 13 = .ok (.astore_n 3, 1) := by decide +kernel
theorem dL_pass_14 : decode cL_pass 14 = .ok (.bipush (-33), 2) := by decide +kernel
theorem dL_pass_16 : decode cL_pass 16 = .ok (.ireturn, 1) := by decide +kernel
theorem dL_pass_17 : decode cL_pass 17 = .ok (.iload_n 2, 1) := by decide +kernel
theorem dL_pass_18 : decode cL_pass 18 = .ok (.ireturn, 1) := by decide +kernel
theorem dL_undo_0 : decode cL_undo 0 = .ok (.aload_n 0, 1) := by decide +kernel
theorem dL_undo_1 : decode cL_undo 1 = .ok (.invokevirtual 41, 3) := by decide +kernel
theorem dL_undo_4 : decode cL_undo 4 = .ok (.istore_n 1, 1) := by decide +kernel
theorem dL_undo_5 : decode cL_undo 5 = .ok (.goto 7, 3) := by decide +kernel
theorem dL_undo_8 : decode cL_undo 8 = .ok (.astore_n 2, 1) := by decide +kernel
theorem dL_undo_9 : decode cL_undo 9 = .ok (.bipush (-33), 2) := by decide +kernel
theorem dL_undo_11 : decode cL_undo 11 = .ok (.ireturn, 1) := by decide +kernel
theorem dL_undo_12 : decode cL_undo 12 = .ok (.iload_n 1, 1) := by decide +kernel
theorem dL_undo_13 : decode cL_undo 13 = .ok (.ireturn, 1) := by decide +kernel
theorem dL_hourOf_0 : decode cL_hourOf 0 = .ok (.aload_n 0, 1) := by decide +kernel
theorem dL_hourOf_1 : decode cL_hourOf 1 = .ok (.iload_n 1, 1) := by decide +kernel
theorem dL_hourOf_2 : decode cL_hourOf 2 = .ok (.iload_n 2, 1) := by decide +kernel
theorem dL_hourOf_3 : decode cL_hourOf 3 = .ok (.invokevirtual 45, 3) := by decide +kernel
theorem dL_hourOf_6 : decode cL_hourOf 6 = .ok (.istore_n 3, 1) := by decide +kernel
theorem dL_hourOf_7 : decode cL_hourOf 7 = .ok (.goto 13, 3) := by decide +kernel
theorem dL_hourOf_10 : decode cL_hourOf 10 = .ok (.astore 4, 2) := by decide +kernel
theorem dL_hourOf_12 : decode cL_hourOf 12 = .ok (.bipush (-31), 2) := by decide +kernel
theorem dL_hourOf_14 : decode cL_hourOf 14 = .ok (.ireturn, 1) := by decide +kernel
theorem dL_hourOf_15 : decode cL_hourOf 15 = .ok (.astore 4, 2) := by decide +kernel
theorem dL_hourOf_17 : decode cL_hourOf 17 = .ok (.bipush (-32), 2) := by decide +kernel
theorem dL_hourOf_19 : decode cL_hourOf 19 = .ok (.ireturn, 1) := by decide +kernel
theorem dL_hourOf_20 : decode cL_hourOf 20 = .ok (.iload_n 3, 1) := by decide +kernel
theorem dL_hourOf_21 : decode cL_hourOf 21 = .ok (.ireturn, 1) := by decide +kernel
theorem dL_vaneOf_0 : decode cL_vaneOf 0 = .ok (.aload_n 0, 1) := by decide +kernel
theorem dL_vaneOf_1 : decode cL_vaneOf 1 = .ok (.iload_n 1, 1) := by decide +kernel
theorem dL_vaneOf_2 : decode cL_vaneOf 2 = .ok (.iload_n 2, 1) := by decide +kernel
theorem dL_vaneOf_3 : decode cL_vaneOf 3 = .ok (.invokevirtual 48, 3) := by decide +kernel
theorem dL_vaneOf_6 : decode cL_vaneOf 6 = .ok (.istore_n 3, 1) := by decide +kernel
theorem dL_vaneOf_7 : decode cL_vaneOf 7 = .ok (.goto 13, 3) := by decide +kernel
theorem dL_vaneOf_10 : decode cL_vaneOf 10 = .ok (.astore 4, 2) := by decide +kernel
theorem dL_vaneOf_12 : decode cL_vaneOf 12 = .ok (.bipush (-31), 2) := by decide +kernel
theorem dL_vaneOf_14 : decode cL_vaneOf 14 = .ok (.ireturn, 1) := by decide +kernel
theorem dL_vaneOf_15 : decode cL_vaneOf 15 = .ok (.astore 4, 2) := by decide +kernel
theorem dL_vaneOf_17 : decode cL_vaneOf 17 = .ok (.bipush (-32), 2) := by decide +kernel
theorem dL_vaneOf_19 : decode cL_vaneOf 19 = .ok (.ireturn, 1) := by decide +kernel
theorem dL_vaneOf_20 : decode cL_vaneOf 20 = .ok (.iload_n 3, 1) := by decide +kernel
theorem dL_vaneOf_21 : decode cL_vaneOf 21 = .ok (.ireturn, 1) := by decide +kernel
theorem dL_millOf_0 : decode cL_millOf 0 = .ok (.aload_n 0, 1) := by decide +kernel
theorem dL_millOf_1 : decode cL_millOf 1 = .ok (.iload_n 1, 1) := by decide +kernel
theorem dL_millOf_2 : decode cL_millOf 2 = .ok (.iload_n 2, 1) := by decide +kernel
theorem dL_millOf_3 : decode cL_millOf 3 = .ok (.invokevirtual 51, 3) := by decide +kernel
theorem dL_millOf_6 : decode cL_millOf 6 = .ok (.istore_n 3, 1) := by decide +kernel
theorem dL_millOf_7 : decode cL_millOf 7 = .ok (.goto 13, 3) := by decide +kernel
theorem dL_millOf_10 : decode cL_millOf 10 = .ok (.astore 4, 2) := by decide +kernel
theorem dL_millOf_12 : decode cL_millOf 12 = .ok (.bipush (-31), 2) := by decide +kernel
theorem dL_millOf_14 : decode cL_millOf 14 = .ok (.ireturn, 1) := by decide +kernel
theorem dL_millOf_15 : decode cL_millOf 15 = .ok (.astore 4, 2) := by decide +kernel
theorem dL_millOf_17 : decode cL_millOf 17 = .ok (.bipush (-32), 2) := by decide +kernel
theorem dL_millOf_19 : decode cL_millOf 19 = .ok (.ireturn, 1) := by decide +kernel
theorem dL_millOf_20 : decode cL_millOf 20 = .ok (.iload_n 3, 1) := by decide +kernel
theorem dL_millOf_21 : decode cL_millOf 21 = .ok (.ireturn, 1) := by decide +kernel
theorem dL_ownerOf_0 : decode cL_ownerOf 0 = .ok (.aload_n 0, 1) := by decide +kernel
theorem dL_ownerOf_1 : decode cL_ownerOf 1 = .ok (.iload_n 1, 1) := by decide +kernel
theorem dL_ownerOf_2 : decode cL_ownerOf 2 = .ok (.iload_n 2, 1) := by decide +kernel
theorem dL_ownerOf_3 : decode cL_ownerOf 3 = .ok (.invokevirtual 54, 3) := by decide +kernel
theorem dL_ownerOf_6 : decode cL_ownerOf 6 = .ok (.istore_n 3, 1) := by decide +kernel
theorem dL_ownerOf_7 : decode cL_ownerOf 7 = .ok (.goto 13, 3) := by decide +kernel
theorem dL_ownerOf_10 : decode cL_ownerOf 10 = .ok (.astore 4, 2) := by decide +kernel
theorem dL_ownerOf_12 : decode cL_ownerOf 12 = .ok (.bipush (-31), 2) := by decide +kernel
theorem dL_ownerOf_14 : decode cL_ownerOf 14 = .ok (.ireturn, 1) := by decide +kernel
theorem dL_ownerOf_15 : decode cL_ownerOf 15 = .ok (.astore 4, 2) := by decide +kernel
theorem dL_ownerOf_17 : decode cL_ownerOf 17 = .ok (.bipush (-32), 2) := by decide +kernel
theorem dL_ownerOf_19 : decode cL_ownerOf 19 = .ok (.ireturn, 1) := by decide +kernel
theorem dL_ownerOf_20 : decode cL_ownerOf 20 = .ok (.iload_n 3, 1) := by decide +kernel
theorem dL_ownerOf_21 : decode cL_ownerOf 21 = .ok (.ireturn, 1) := by decide +kernel
theorem dL_doneIn_0 : decode cL_doneIn 0 = .ok (.aload_n 0, 1) := by decide +kernel
theorem dL_doneIn_1 : decode cL_doneIn 1 = .ok (.iload_n 1, 1) := by decide +kernel
theorem dL_doneIn_2 : decode cL_doneIn 2 = .ok (.iload_n 2, 1) := by decide +kernel
theorem dL_doneIn_3 : decode cL_doneIn 3 = .ok (.invokevirtual 57, 3) := by decide +kernel
theorem dL_doneIn_6 : decode cL_doneIn 6 = .ok (.istore_n 3, 1) := by decide +kernel
theorem dL_doneIn_7 : decode cL_doneIn 7 = .ok (.goto 13, 3) := by decide +kernel
theorem dL_doneIn_10 : decode cL_doneIn 10 = .ok (.astore 4, 2) := by decide +kernel
theorem dL_doneIn_12 : decode cL_doneIn 12 = .ok (.bipush (-31), 2) := by decide +kernel
theorem dL_doneIn_14 : decode cL_doneIn 14 = .ok (.ireturn, 1) := by decide +kernel
theorem dL_doneIn_15 : decode cL_doneIn 15 = .ok (.astore 4, 2) := by decide +kernel
theorem dL_doneIn_17 : decode cL_doneIn 17 = .ok (.bipush (-32), 2) := by decide +kernel
theorem dL_doneIn_19 : decode cL_doneIn 19 = .ok (.ireturn, 1) := by decide +kernel
theorem dL_doneIn_20 : decode cL_doneIn 20 = .ok (.iload_n 3, 1) := by decide +kernel
theorem dL_doneIn_21 : decode cL_doneIn 21 = .ok (.ireturn, 1) := by decide +kernel
theorem dL_ifPassed_0 : decode cL_ifPassed 0 = .ok (.aload_n 0, 1) := by decide +kernel
theorem dL_ifPassed_1 : decode cL_ifPassed 1 = .ok (.iload_n 1, 1) := by decide +kernel
theorem dL_ifPassed_2 : decode cL_ifPassed 2 = .ok (.iload_n 2, 1) := by decide +kernel
theorem dL_ifPassed_3 : decode cL_ifPassed 3 = .ok (.invokevirtual 60, 3) := by decide +kernel
theorem dL_ifPassed_6 : decode cL_ifPassed 6 = .ok (.istore_n 3, 1) := by decide +kernel
theorem dL_ifPassed_7 : decode cL_ifPassed 7 = .ok (.goto 13, 3) := by decide +kernel
theorem dL_ifPassed_10 : decode cL_ifPassed 10 = .ok (.astore 4, 2) := by decide +kernel
theorem dL_ifPassed_12 : decode cL_ifPassed 12 = .ok (.bipush (-31), 2) := by decide +kernel
theorem dL_ifPassed_14 : decode cL_ifPassed 14 = .ok (.ireturn, 1) := by decide +kernel
theorem dL_ifPassed_15 : decode cL_ifPassed 15 = .ok (.astore 4, 2) := by decide +kernel
theorem dL_ifPassed_17 : decode cL_ifPassed 17 = .ok (.bipush (-32), 2) := by decide +kernel
theorem dL_ifPassed_19 : decode cL_ifPassed 19 = .ok (.ireturn, 1) := by decide +kernel
theorem dL_ifPassed_20 : decode cL_ifPassed 20 = .ok (.iload_n 3, 1) := by decide +kernel
theorem dL_ifPassed_21 : decode cL_ifPassed 21 = .ok (.ireturn, 1) := by decide +kernel
theorem dL_agrees_0 : decode cL_agrees 0 = .ok (.aload_n 0, 1) := by decide +kernel
theorem dL_agrees_1 : decode cL_agrees 1 = .ok (.iconst 2, 1) := by decide +kernel
theorem dL_agrees_2 : decode cL_agrees 2 = .ok (.iload_n 3, 1) := by decide +kernel
theorem dL_agrees_3 : decode cL_agrees 3 = .ok (.imul, 1) := by decide +kernel
theorem dL_agrees_4 : decode cL_agrees 4 = .ok (.iaload, 1) := by decide +kernel
theorem dL_agrees_5 : decode cL_agrees 5 = .ok (.aload_n 1, 1) := by decide +kernel
theorem dL_agrees_6 : decode cL_agrees 6 = .ok (.iconst 4, 1) := by decide +kernel
theorem dL_agrees_7 : decode cL_agrees 7 = .ok (.iload_n 2, 1) := by decide +kernel
theorem dL_agrees_8 : decode cL_agrees 8 = .ok (.imul, 1) := by decide +kernel
theorem dL_agrees_9 : decode cL_agrees 9 = .ok (.iaload, 1) := by decide +kernel
theorem dL_agrees_10 : decode cL_agrees 10 = .ok (.isub, 1) := by decide +kernel
theorem dL_agrees_11 : decode cL_agrees 11 = .ok (.istore 4, 2) := by decide +kernel
theorem dL_agrees_13 : decode cL_agrees 13 = .ok (.iload 4, 2) := by decide +kernel
theorem dL_agrees_15 : decode cL_agrees 15 = .ok (.ifCond .ge 9, 3) := by decide +kernel
theorem dL_agrees_18 : decode cL_agrees 18 = .ok (.iload 4, 2) := by decide +kernel
theorem dL_agrees_20 : decode cL_agrees 20 = .ok (.ineg, 1) := by decide +kernel
theorem dL_agrees_21 : decode cL_agrees 21 = .ok (.goto 5, 3) := by decide +kernel
theorem dL_agrees_24 : decode cL_agrees 24 = .ok (.iload 4, 2) := by decide +kernel
theorem dL_agrees_26 : decode cL_agrees 26 = .ok (.istore 4, 2) := by decide +kernel
theorem dL_agrees_28 : decode cL_agrees 28 = .ok (.iload 4, 2) := by decide +kernel
theorem dL_agrees_30 : decode cL_agrees 30 = .ok (.iconst 4, 1) := by decide +kernel
theorem dL_agrees_31 : decode cL_agrees 31 = .ok (.if_icmp .le 11, 3) := by decide +kernel
theorem dL_agrees_34 : decode cL_agrees 34 = .ok (.bipush 8, 2) := by decide +kernel
theorem dL_agrees_36 : decode cL_agrees 36 = .ok (.iload 4, 2) := by decide +kernel
theorem dL_agrees_38 : decode cL_agrees 38 = .ok (.isub, 1) := by decide +kernel
theorem dL_agrees_39 : decode cL_agrees 39 = .ok (.goto 5, 3) := by decide +kernel
theorem dL_agrees_42 : decode cL_agrees 42 = .ok (.iload 4, 2) := by decide +kernel
theorem dL_agrees_44 : decode cL_agrees 44 = .ok (.istore 4, 2) := by decide +kernel
theorem dL_agrees_46 : decode cL_agrees 46 = .ok (.iload 4, 2) := by decide +kernel
theorem dL_agrees_48 : decode cL_agrees 48 = .ok (.aload_n 1, 1) := by decide +kernel
theorem dL_agrees_49 : decode cL_agrees 49 = .ok (.iconst 4, 1) := by decide +kernel
theorem dL_agrees_50 : decode cL_agrees 50 = .ok (.iload_n 2, 1) := by decide +kernel
theorem dL_agrees_51 : decode cL_agrees 51 = .ok (.imul, 1) := by decide +kernel
theorem dL_agrees_52 : decode cL_agrees 52 = .ok (.iconst 1, 1) := by decide +kernel
theorem dL_agrees_53 : decode cL_agrees 53 = .ok (.iadd, 1) := by decide +kernel
theorem dL_agrees_54 : decode cL_agrees 54 = .ok (.iaload, 1) := by decide +kernel
theorem dL_agrees_55 : decode cL_agrees 55 = .ok (.if_icmp .gt 24, 3) := by decide +kernel
theorem dL_agrees_58 : decode cL_agrees 58 = .ok (.aload_n 0, 1) := by decide +kernel
theorem dL_agrees_59 : decode cL_agrees 59 = .ok (.iconst 2, 1) := by decide +kernel
theorem dL_agrees_60 : decode cL_agrees 60 = .ok (.iload_n 3, 1) := by decide +kernel
theorem dL_agrees_61 : decode cL_agrees 61 = .ok (.imul, 1) := by decide +kernel
theorem dL_agrees_62 : decode cL_agrees 62 = .ok (.iconst 1, 1) := by decide +kernel
theorem dL_agrees_63 : decode cL_agrees 63 = .ok (.iadd, 1) := by decide +kernel
theorem dL_agrees_64 : decode cL_agrees 64 = .ok (.iaload, 1) := by decide +kernel
theorem dL_agrees_65 : decode cL_agrees 65 = .ok (.aload_n 1, 1) := by decide +kernel
theorem dL_agrees_66 : decode cL_agrees 66 = .ok (.iconst 4, 1) := by decide +kernel
theorem dL_agrees_67 : decode cL_agrees 67 = .ok (.iload_n 2, 1) := by decide +kernel
theorem dL_agrees_68 : decode cL_agrees 68 = .ok (.imul, 1) := by decide +kernel
theorem dL_agrees_69 : decode cL_agrees 69 = .ok (.iconst 2, 1) := by decide +kernel
theorem dL_agrees_70 : decode cL_agrees 70 = .ok (.iadd, 1) := by decide +kernel
theorem dL_agrees_71 : decode cL_agrees 71 = .ok (.iaload, 1) := by decide +kernel
theorem dL_agrees_72 : decode cL_agrees 72 = .ok (.if_icmp .lt 7, 3) := by decide +kernel
theorem dL_agrees_75 : decode cL_agrees 75 = .ok (.iconst 1, 1) := by decide +kernel
theorem dL_agrees_76 : decode cL_agrees 76 = .ok (.goto 4, 3) := by decide +kernel
theorem dL_agrees_79 : decode cL_agrees 79 = .ok (.iconst 0, 1) := by decide +kernel
theorem dL_agrees_80 : decode cL_agrees 80 = .ok (.ireturn, 1) := by decide +kernel
theorem dL_why_0 : decode cL_why 0 = .ok (.iconst 0, 1) := by decide +kernel
theorem dL_why_1 : decode cL_why 1 = .ok (.istore 5, 2) := by decide +kernel
theorem dL_why_3 : decode cL_why 3 = .ok (.iconst 0, 1) := by decide +kernel
theorem dL_why_4 : decode cL_why 4 = .ok (.istore 6, 2) := by decide +kernel
theorem dL_why_6 : decode cL_why 6 = .ok (.iconst 0, 1) := by decide +kernel
theorem dL_why_7 : decode cL_why 7 = .ok (.istore 7, 2) := by decide +kernel
theorem dL_why_9 : decode cL_why 9 = .ok (.iload 7, 2) := by decide +kernel
theorem dL_why_11 : decode cL_why 11 = .ok (.bipush 6, 2) := by decide +kernel
theorem dL_why_13 : decode cL_why 13 = .ok (.if_icmp .ge 88, 3) := by decide +kernel
theorem dL_why_16 : decode cL_why 16 = .ok (.aload_n 1, 1) := by decide +kernel
theorem dL_why_17 : decode cL_why 17 = .ok (.iconst 4, 1) := by decide +kernel
theorem dL_why_18 : decode cL_why 18 = .ok (.iload 7, 2) := by decide +kernel
theorem dL_why_20 : decode cL_why 20 = .ok (.imul, 1) := by decide +kernel
theorem dL_why_21 : decode cL_why 21 = .ok (.iconst 3, 1) := by decide +kernel
theorem dL_why_22 : decode cL_why 22 = .ok (.iadd, 1) := by decide +kernel
theorem dL_why_23 : decode cL_why 23 = .ok (.iaload, 1) := by decide +kernel
theorem dL_why_24 : decode cL_why 24 = .ok (.ifCond .ne 7, 3) := by decide +kernel
theorem dL_why_27 : decode cL_why 27 = .ok (.iconst 1, 1) := by decide +kernel
theorem dL_why_28 : decode cL_why 28 = .ok (.goto 4, 3) := by decide +kernel
