theorem dr_Pi_add_0 : decode bc_Pi_add 0 = .ok (.aload_n 0, 1) := by decide +kernel
theorem dr_Pi_add_1 : decode bc_Pi_add 1 = .ok (.getfield 44, 3) := by decide +kernel
theorem dr_Pi_add_4 : decode bc_Pi_add 4 = .ok (.istore 7, 2) := by decide +kernel
theorem dr_Pi_add_6 : decode bc_Pi_add 6 = .ok (.aload_n 0, 1) := by decide +kernel
theorem dr_Pi_add_7 : decode bc_Pi_add 7 = .ok (.dup, 1) := by decide +kernel
theorem dr_Pi_add_8 : decode bc_Pi_add 8 = .ok (.getfield 44, 3) := by decide +kernel
theorem dr_Pi_add_11 : decode bc_Pi_add 11 = .ok (.iconst 1, 1) := by decide +kernel
theorem dr_Pi_add_12 : decode bc_Pi_add 12 = .ok (.iadd, 1) := by decide +kernel
theorem dr_Pi_add_13 : decode bc_Pi_add 13 = .ok (.putfield 44, 3) := by decide +kernel
theorem dr_Pi_add_16 : decode bc_Pi_add 16 = .ok (.aload_n 0, 1) := by decide +kernel
theorem dr_Pi_add_17 : decode bc_Pi_add 17 = .ok (.getfield 9, 3) := by decide +kernel
theorem dr_Pi_add_20 : decode bc_Pi_add 20 = .ok (.iload_n 1, 1) := by decide +kernel
theorem dr_Pi_add_21 : decode bc_Pi_add 21 = .ok (.dup2, 1) := by decide +kernel
theorem dr_Pi_add_22 : decode bc_Pi_add 22 = .ok (.iaload, 1) := by decide +kernel
theorem dr_Pi_add_23 : decode bc_Pi_add 23 = .ok (.iconst 1, 1) := by decide +kernel
theorem dr_Pi_add_24 : decode bc_Pi_add 24 = .ok (.iadd, 1) := by decide +kernel
theorem dr_Pi_add_25 : decode bc_Pi_add 25 = .ok (.iastore, 1) := by decide +kernel
theorem dr_Pi_add_26 : decode bc_Pi_add 26 = .ok (.aload_n 0, 1) := by decide +kernel
theorem dr_Pi_add_27 : decode bc_Pi_add 27 = .ok (.getfield 15, 3) := by decide +kernel
theorem dr_Pi_add_30 : decode bc_Pi_add 30 = .ok (.iload 7, 2) := by decide +kernel
theorem dr_Pi_add_32 : decode bc_Pi_add 32 = .ok (.iload_n 1, 1) := by decide +kernel
theorem dr_Pi_add_33 : decode bc_Pi_add 33 = .ok (.iastore, 1) := by decide +kernel
theorem dr_Pi_add_34 : decode bc_Pi_add 34 = .ok (.aload_n 0, 1) := by decide +kernel
theorem dr_Pi_add_35 : decode bc_Pi_add 35 = .ok (.getfield 18, 3) := by decide +kernel
theorem dr_Pi_add_38 : decode bc_Pi_add 38 = .ok (.iload 7, 2) := by decide +kernel
theorem dr_Pi_add_40 : decode bc_Pi_add 40 = .ok (.lload_n 2, 1) := by decide +kernel
theorem dr_Pi_add_41 : decode bc_Pi_add 41 = .ok (.lastore, 1) := by decide +kernel
theorem dr_Pi_add_42 : decode bc_Pi_add 42 = .ok (.aload_n 0, 1) := by decide +kernel
theorem dr_Pi_add_43 : decode bc_Pi_add 43 = .ok (.getfield 22, 3) := by decide +kernel
theorem dr_Pi_add_46 : decode bc_Pi_add 46 = .ok (.iload 7, 2) := by decide +kernel
theorem dr_Pi_add_48 : decode bc_Pi_add 48 = .ok (.lload 4, 2) := by decide +kernel
theorem dr_Pi_add_50 : decode bc_Pi_add 50 = .ok (.lastore, 1) := by decide +kernel
theorem dr_Pi_add_51 : decode bc_Pi_add 51 = .ok (.aload_n 0, 1) := by decide +kernel
theorem dr_Pi_add_52 : decode bc_Pi_add 52 = .ok (.getfield 28, 3) := by decide +kernel
theorem dr_Pi_add_55 : decode bc_Pi_add 55 = .ok (.iload 7, 2) := by decide +kernel
theorem dr_Pi_add_57 : decode bc_Pi_add 57 = .ok (.iload 6, 2) := by decide +kernel
theorem dr_Pi_add_59 : decode bc_Pi_add 59 = .ok (.iastore, 1) := by decide +kernel
theorem dr_Pi_add_60 : decode bc_Pi_add 60 = .ok (.aload_n 0, 1) := by decide +kernel
theorem dr_Pi_add_61 : decode bc_Pi_add 61 = .ok (.getfield 31, 3) := by decide +kernel
theorem dr_Pi_add_64 : decode bc_Pi_add 64 = .ok (.iload 7, 2) := by decide +kernel
theorem dr_Pi_add_66 : decode bc_Pi_add 66 = .ok (.iload 6, 2) := by decide +kernel
theorem dr_Pi_add_68 : decode bc_Pi_add 68 = .ok (.iastore, 1) := by decide +kernel
theorem dr_Pi_add_69 : decode bc_Pi_add 69 = .ok (.aload_n 0, 1) := by decide +kernel
theorem dr_Pi_add_70 : decode bc_Pi_add 70 = .ok (.getfield 34, 3) := by decide +kernel
theorem dr_Pi_add_73 : decode bc_Pi_add 73 = .ok (.iload 7, 2) := by decide +kernel
theorem dr_Pi_add_75 : decode bc_Pi_add 75 = .ok (.iconst (-1), 1) := by decide +kernel
theorem dr_Pi_add_76 : decode bc_Pi_add 76 = .ok (.iastore, 1) := by decide +kernel
theorem dr_Pi_add_77 : decode bc_Pi_add 77 = .ok (.iload 7, 2) := by decide +kernel
theorem dr_Pi_add_79 : decode bc_Pi_add 79 = .ok (.ireturn, 1) := by decide +kernel
theorem dr_Pi_join_0 : decode bc_Pi_join 0 = .ok (.aload_n 0, 1) := by decide +kernel
theorem dr_Pi_join_1 : decode bc_Pi_join 1 = .ok (.getfield 34, 3) := by decide +kernel
theorem dr_Pi_join_4 : decode bc_Pi_join 4 = .ok (.iload_n 1, 1) := by decide +kernel
theorem dr_Pi_join_5 : decode bc_Pi_join 5 = .ok (.iload_n 2, 1) := by decide +kernel
theorem dr_Pi_join_6 : decode bc_Pi_join 6 = .ok (.iastore, 1) := by decide +kernel
theorem dr_Pi_join_7 : decode bc_Pi_join 7 = .ok (.aload_n 0, 1) := by decide +kernel
theorem dr_Pi_join_8 : decode bc_Pi_join 8 = .ok (.getfield 34, 3) := by decide +kernel
theorem dr_Pi_join_11 : decode bc_Pi_join 11 = .ok (.iload_n 2, 1) := by decide +kernel
theorem dr_Pi_join_12 : decode bc_Pi_join 12 = .ok (.iload_n 1, 1) := by decide +kernel
theorem dr_Pi_join_13 : decode bc_Pi_join 13 = .ok (.iastore, 1) := by decide +kernel
theorem dr_Pi_join_14 : decode bc_Pi_join 14 = .ok (.aload_n 0, 1) := by decide +kernel
theorem dr_Pi_join_15 : decode bc_Pi_join 15 = .ok (.getfield 37, 3) := by decide +kernel
theorem dr_Pi_join_18 : decode bc_Pi_join 18 = .ok (.iload_n 2, 1) := by decide +kernel
theorem dr_Pi_join_19 : decode bc_Pi_join 19 = .ok (.iconst 1, 1) := by decide +kernel
theorem dr_Pi_join_20 : decode bc_Pi_join 20 = .ok (.bastore, 1) := by decide +kernel
theorem dr_Pi_join_21 : decode bc_Pi_join 21 = .ok (.return_, 1) := by decide +kernel
theorem dr_Pi_isPaired_0 : decode bc_Pi_isPaired 0 = .ok (.aload_n 0, 1) := by decide +kernel
theorem dr_Pi_isPaired_1 : decode bc_Pi_isPaired 1 = .ok (.getfield 34, 3) := by decide +kernel
theorem dr_Pi_isPaired_4 : decode bc_Pi_isPaired 4 = .ok (.iload_n 1, 1) := by decide +kernel
theorem dr_Pi_isPaired_5 : decode bc_Pi_isPaired 5 = .ok (.iaload, 1) := by decide +kernel
theorem dr_Pi_isPaired_6 : decode bc_Pi_isPaired 6 = .ok (.iconst (-1), 1) := by decide +kernel
theorem dr_Pi_isPaired_7 : decode bc_Pi_isPaired 7 = .ok (.if_icmp .eq 7, 3) := by decide +kernel
theorem dr_Pi_isPaired_10 : decode bc_Pi_isPaired 10 = .ok (.iconst 1, 1) := by decide +kernel
theorem dr_Pi_isPaired_11 : decode bc_Pi_isPaired 11 = .ok (.goto 4, 3) := by decide +kernel
theorem dr_Pi_isPaired_14 : decode bc_Pi_isPaired 14 = .ok (.iconst 0, 1) := by decide +kernel
theorem dr_Pi_isPaired_15 : decode bc_Pi_isPaired 15 = .ok (.ireturn, 1) := by decide +kernel
theorem dr_Pi_unitOf_0 : decode bc_Pi_unitOf 0 = .ok (.aload_n 0, 1) := by decide +kernel
theorem dr_Pi_unitOf_1 : decode bc_Pi_unitOf 1 = .ok (.getfield 37, 3) := by decide +kernel
theorem dr_Pi_unitOf_4 : decode bc_Pi_unitOf 4 = .ok (.iload_n 1, 1) := by decide +kernel
theorem dr_Pi_unitOf_5 : decode bc_Pi_unitOf 5 = .ok (.baload, 1) := by decide +kernel
theorem dr_Pi_unitOf_6 : decode bc_Pi_unitOf 6 = .ok (.ifCond .eq 12, 3) := by decide +kernel
theorem dr_Pi_unitOf_9 : decode bc_Pi_unitOf 9 = .ok (.aload_n 0, 1) := by decide +kernel
theorem dr_Pi_unitOf_10 : decode bc_Pi_unitOf 10 = .ok (.getfield 34, 3) := by decide +kernel
theorem dr_Pi_unitOf_13 : decode bc_Pi_unitOf 13 = .ok (.iload_n 1, 1) := by decide +kernel
theorem dr_Pi_unitOf_14 : decode bc_Pi_unitOf 14 = .ok (.iaload, 1) := by decide +kernel
theorem dr_Pi_unitOf_15 : decode bc_Pi_unitOf 15 = .ok (.goto 4, 3) := by decide +kernel
theorem dr_Pi_unitOf_18 : decode bc_Pi_unitOf 18 = .ok (.iload_n 1, 1) := by decide +kernel
theorem dr_Pi_unitOf_19 : decode bc_Pi_unitOf 19 = .ok (.ireturn, 1) := by decide +kernel
theorem dr_Pi_isUnitLocked_0 : decode bc_Pi_isUnitLocked 0 = .ok (.aload_n 0, 1) := by decide +kernel
theorem dr_Pi_isUnitLocked_1 : decode bc_Pi_isUnitLocked 1 = .ok (.getfield 41, 3) := by decide +kernel
theorem dr_Pi_isUnitLocked_4 : decode bc_Pi_isUnitLocked 4 = .ok (.iload_n 1, 1) := by decide +kernel
theorem dr_Pi_isUnitLocked_5 : decode bc_Pi_isUnitLocked 5 = .ok (.baload, 1) := by decide +kernel
theorem dr_Pi_isUnitLocked_6 : decode bc_Pi_isUnitLocked 6 = .ok (.ifCond .ne 25, 3) := by decide +kernel
theorem dr_Pi_isUnitLocked_9 : decode bc_Pi_isUnitLocked 9 = .ok (.aload_n 0, 1) := by decide +kernel
theorem dr_Pi_isUnitLocked_10 : decode bc_Pi_isUnitLocked 10 = .ok (.iload_n 1, 1) := by decide +kernel
theorem dr_Pi_isUnitLocked_11 : decode bc_Pi_isUnitLocked 11 = .ok (.invokevirtual 48, 3) := by decide +kernel
theorem dr_Pi_isUnitLocked_14 : decode bc_Pi_isUnitLocked 14 = .ok (.ifCond .eq 21, 3) := by decide +kernel
theorem dr_Pi_isUnitLocked_17 : decode bc_Pi_isUnitLocked 17 = .ok (.aload_n 0, 1) := by decide +kernel
theorem dr_Pi_isUnitLocked_18 : decode bc_Pi_isUnitLocked 18 = .ok (.getfield 41, 3) := by decide +kernel
theorem dr_Pi_isUnitLocked_21 : decode bc_Pi_isUnitLocked 21 = .ok (.aload_n 0, 1) := by decide +kernel
theorem dr_Pi_isUnitLocked_22 : decode bc_Pi_isUnitLocked 22 = .ok (.getfield 34, 3) := by decide +kernel
theorem dr_Pi_isUnitLocked_25 : decode bc_Pi_isUnitLocked 25 = .ok (.iload_n 1, 1) := by decide +kernel
theorem dr_Pi_isUnitLocked_26 : decode bc_Pi_isUnitLocked 26 = .ok (.iaload, 1) := by decide +kernel
theorem dr_Pi_isUnitLocked_27 : decode bc_Pi_isUnitLocked 27 = .ok (.baload, 1) := by decide +kernel
theorem dr_Pi_isUnitLocked_28 : decode bc_Pi_isUnitLocked 28 = .ok (.ifCond .eq 7, 3) := by decide +kernel
theorem dr_Pi_isUnitLocked_31 : decode bc_Pi_isUnitLocked 31 = .ok (.iconst 1, 1) := by decide +kernel
theorem dr_Pi_isUnitLocked_32 : decode bc_Pi_isUnitLocked 32 = .ok (.goto 4, 3) := by decide +kernel
theorem dr_Pi_isUnitLocked_35 : decode bc_Pi_isUnitLocked 35 = .ok (.iconst 0, 1) := by decide +kernel
theorem dr_Pi_isUnitLocked_36 : decode bc_Pi_isUnitLocked 36 = .ok (.ireturn, 1) := by decide +kernel
theorem dr_Pi_isFreeUnit_0 : decode bc_Pi_isFreeUnit 0 = .ok (.aload_n 0, 1) := by decide +kernel
theorem dr_Pi_isFreeUnit_1 : decode bc_Pi_isFreeUnit 1 = .ok (.getfield 37, 3) := by decide +kernel
theorem dr_Pi_isFreeUnit_4 : decode bc_Pi_isFreeUnit 4 = .ok (.iload_n 1, 1) := by decide +kernel
theorem dr_Pi_isFreeUnit_5 : decode bc_Pi_isFreeUnit 5 = .ok (.baload, 1) := by decide +kernel
theorem dr_Pi_isFreeUnit_6 : decode bc_Pi_isFreeUnit 6 = .ok (.ifCond .ne 24, 3) := by decide +kernel
theorem dr_Pi_isFreeUnit_9 : decode bc_Pi_isFreeUnit 9 = .ok (.aload_n 0, 1) := by decide +kernel
theorem dr_Pi_isFreeUnit_10 : decode bc_Pi_isFreeUnit 10 = .ok (.iload_n 1, 1) := by decide +kernel
theorem dr_Pi_isFreeUnit_11 : decode bc_Pi_isFreeUnit 11 = .ok (.invokevirtual 48, 3) := by decide +kernel
theorem dr_Pi_isFreeUnit_14 : decode bc_Pi_isFreeUnit 14 = .ok (.iload_n 2, 1) := by decide +kernel
theorem dr_Pi_isFreeUnit_15 : decode bc_Pi_isFreeUnit 15 = .ok (.if_icmp .ne 15, 3) := by decide +kernel
theorem dr_Pi_isFreeUnit_18 : decode bc_Pi_isFreeUnit 18 = .ok (.aload_n 0, 1) := by decide +kernel
theorem dr_Pi_isFreeUnit_19 : decode bc_Pi_isFreeUnit 19 = .ok (.iload_n 1, 1) := by decide +kernel
theorem dr_Pi_isFreeUnit_20 : decode bc_Pi_isFreeUnit 20 = .ok (.invokevirtual 52, 3) := by decide +kernel
theorem dr_Pi_isFreeUnit_23 : decode bc_Pi_isFreeUnit 23 = .ok (.ifCond .ne 7, 3) := by decide +kernel
theorem dr_Pi_isFreeUnit_26 : decode bc_Pi_isFreeUnit 26 = .ok (.iconst 1, 1) := by decide +kernel
theorem dr_Pi_isFreeUnit_27 : decode bc_Pi_isFreeUnit 27 = .ok (.goto 4, 3) := by decide +kernel
theorem dr_Pi_isFreeUnit_30 : decode bc_Pi_isFreeUnit 30 = .ok (.iconst 0, 1) := by decide +kernel
theorem dr_Pi_isFreeUnit_31 : decode bc_Pi_isFreeUnit 31 = .ok (.ireturn, 1) := by decide +kernel
theorem dr_Pi_nthMoved_0 : decode bc_Pi_nthMoved 0 = .ok (.iconst 0, 1) := by decide +kernel
theorem dr_Pi_nthMoved_1 : decode bc_Pi_nthMoved 1 = .ok (.istore_n 2, 1) := by decide +kernel
theorem dr_Pi_nthMoved_2 : decode bc_Pi_nthMoved 2 = .ok (.iconst 0, 1) := by decide +kernel
theorem dr_Pi_nthMoved_3 : decode bc_Pi_nthMoved 3 = .ok (.istore_n 3, 1) := by decide +kernel
theorem dr_Pi_nthMoved_4 : decode bc_Pi_nthMoved 4 = .ok (.iload_n 3, 1) := by decide +kernel
theorem dr_Pi_nthMoved_5 : decode bc_Pi_nthMoved 5 = .ok (.aload_n 0, 1) := by decide +kernel
theorem dr_Pi_nthMoved_6 : decode bc_Pi_nthMoved 6 = .ok (.getfield 44, 3) := by decide +kernel
theorem dr_Pi_nthMoved_9 : decode bc_Pi_nthMoved 9 = .ok (.if_icmp .ge 34, 3) := by decide +kernel
theorem dr_Pi_nthMoved_12 : decode bc_Pi_nthMoved 12 = .ok (.aload_n 0, 1) := by decide +kernel
theorem dr_Pi_nthMoved_13 : decode bc_Pi_nthMoved 13 = .ok (.getfield 28, 3) := by decide +kernel
theorem dr_Pi_nthMoved_16 : decode bc_Pi_nthMoved 16 = .ok (.iload_n 3, 1) := by decide +kernel
theorem dr_Pi_nthMoved_17 : decode bc_Pi_nthMoved 17 = .ok (.iaload, 1) := by decide +kernel
theorem dr_Pi_nthMoved_18 : decode bc_Pi_nthMoved 18 = .ok (.aload_n 0, 1) := by decide +kernel
theorem dr_Pi_nthMoved_19 : decode bc_Pi_nthMoved 19 = .ok (.getfield 31, 3) := by decide +kernel
theorem dr_Pi_nthMoved_22 : decode bc_Pi_nthMoved 22 = .ok (.iload_n 3, 1) := by decide +kernel
theorem dr_Pi_nthMoved_23 : decode bc_Pi_nthMoved 23 = .ok (.iaload, 1) := by decide +kernel
theorem dr_Pi_nthMoved_24 : decode bc_Pi_nthMoved 24 = .ok (.if_icmp .eq 13, 3) := by decide +kernel
theorem dr_Pi_nthMoved_27 : decode bc_Pi_nthMoved 27 = .ok (.iload_n 2, 1) := by decide +kernel
theorem dr_Pi_nthMoved_28 : decode bc_Pi_nthMoved 28 = .ok (.iload_n 1, 1) := by decide +kernel
theorem dr_Pi_nthMoved_29 : decode bc_Pi_nthMoved 29 = .ok (.if_icmp .ne 5, 3) := by decide +kernel
theorem dr_Pi_nthMoved_32 : decode bc_Pi_nthMoved 32 = .ok (.iload_n 3, 1) := by decide +kernel
theorem dr_Pi_nthMoved_33 : decode bc_Pi_nthMoved 33 = .ok (.ireturn, 1) := by decide +kernel
theorem dr_Pi_nthMoved_34 : decode bc_Pi_nthMoved 34 = .ok (.iinc 2 1, 3) := by decide +kernel
theorem dr_Pi_nthMoved_37 : decode bc_Pi_nthMoved 37 = .ok (.iinc 3 1, 3) := by decide +kernel
theorem dr_Pi_nthMoved_40 : decode bc_Pi_nthMoved 40 = .ok (.goto (-36), 3) := by decide +kernel
theorem dr_Pi_nthMoved_43 : decode bc_Pi_nthMoved 43 = .ok (.iconst (-1), 1) := by decide +kernel
theorem dr_Pi_nthMoved_44 : decode bc_Pi_nthMoved 44 = .ok (.ireturn, 1) := by decide +kernel
theorem dr_Lw_pin_0 : decode bc_Lw_pin 0 = .ok (.aload 7, 2) := by decide +kernel
theorem dr_Lw_pin_2 : decode bc_Lw_pin 2 = .ok (.iconst 0, 1) := by decide +kernel
theorem dr_Lw_pin_3 : decode bc_Lw_pin 3 = .ok (.aload_n 0, 1) := by decide +kernel
theorem dr_Lw_pin_4 : decode bc_Lw_pin 4 = .ok (.iload_n 1, 1) := by decide +kernel
theorem dr_Lw_pin_5 : decode bc_Lw_pin 5 = .ok (.lload_n 2, 1) := by decide +kernel
theorem dr_Lw_pin_6 : decode bc_Lw_pin 6 = .ok (.lload 4, 2) := by decide +kernel
theorem dr_Lw_pin_8 : decode bc_Lw_pin 8 = .ok (.iload 6, 2) := by decide +kernel
theorem dr_Lw_pin_10 : decode bc_Lw_pin 10 = .ok (.invokevirtual 7, 3) := by decide +kernel
theorem dr_Lw_pin_13 : decode bc_Lw_pin 13 = .ok (.i2l, 1) := by decide +kernel
theorem dr_Lw_pin_14 : decode bc_Lw_pin 14 = .ok (.lastore, 1) := by decide +kernel
theorem dr_Lw_pin_15 : decode bc_Lw_pin 15 = .ok (.goto 11, 3) := by decide +kernel
theorem dr_Lw_pin_18 : decode bc_Lw_pin 18 = .ok (.astore 8, 2) := by decide +kernel
theorem dr_Lw_pin_20 : decode bc_Lw_pin 20 = .ok (.iconst 1, 1) := by decide +kernel
theorem dr_Lw_pin_21 : decode bc_Lw_pin 21 = .ok (.ireturn, 1) := by decide +kernel
theorem dr_Lw_pin_22 : decode bc_Lw_pin 22 = .ok (.astore 8, 2) := by decide +kernel
theorem dr_Lw_pin_24 : decode bc_Lw_pin 24 = .ok (.iconst 2, 1) := by decide +kernel
theorem dr_Lw_pin_25 : decode bc_Lw_pin 25 = .ok (.ireturn, 1) := by decide +kernel
theorem dr_Lw_pin_26 : decode bc_Lw_pin 26 = .ok (.iconst 0, 1) := by decide +kernel
theorem dr_Lw_pin_27 : decode bc_Lw_pin 27 = .ok (.ireturn, 1) := by decide +kernel
theorem dr_Lw_target_0 : decode bc_Lw_target 0 = .ok (.aload 6, 2) := by decide +kernel
theorem dr_Lw_target_2 : decode bc_Lw_target 2 = .ok (.iconst 0, 1) := by decide +kernel
theorem dr_Lw_target_3 : decode bc_Lw_target 3 = .ok (.aload_n 0, 1) := by decide +kernel
theorem dr_Lw_target_4 : decode bc_Lw_target 4 = .ok (.iload_n 1, 1) := by decide +kernel
theorem dr_Lw_target_5 : decode bc_Lw_target 5 = .ok (.lload_n 2, 1) := by decide +kernel
theorem dr_Lw_target_6 : decode bc_Lw_target 6 = .ok (.lload 4, 2) := by decide +kernel
theorem dr_Lw_target_8 : decode bc_Lw_target 8 = .ok (.invokevirtual 17, 3) := by decide +kernel
theorem dr_Lw_target_11 : decode bc_Lw_target 11 = .ok (.ifCond .eq 7, 3) := by decide +kernel
theorem dr_Lw_target_14 : decode bc_Lw_target 14 = .ok (.lconst 1, 1) := by decide +kernel
theorem dr_Lw_target_15 : decode bc_Lw_target 15 = .ok (.goto 4, 3) := by decide +kernel
theorem dr_Lw_target_18 : decode bc_Lw_target 18 = .ok (.lconst 0, 1) := by decide +kernel
theorem dr_Lw_target_19 : decode bc_Lw_target 19 = .ok (.lastore, 1) := by decide +kernel
theorem dr_Lw_target_20 : decode bc_Lw_target 20 = .ok (.goto 11, 3) := by decide +kernel
theorem dr_Lw_target_23 : decode bc_Lw_target 23 = .ok (.astore 7, 2) := by decide +kernel
theorem dr_Lw_target_25 : decode bc_Lw_target 25 = .ok (.iconst 1, 1) := by decide +kernel
theorem dr_Lw_target_26 : decode bc_Lw_target 26 = .ok (.ireturn, 1) := by decide +kernel
theorem dr_Lw_target_27 : decode bc_Lw_target 27 = .ok (.astore 7, 2) := by decide +kernel
theorem dr_Lw_target_29 : decode bc_Lw_target 29 = .ok (.iconst 2, 1) := by decide +kernel
theorem dr_Lw_target_30 : decode bc_Lw_target 30 = .ok (.ireturn, 1) := by decide +kernel
theorem dr_Lw_target_31 : decode bc_Lw_target 31 = .ok (.iconst 0, 1) := by decide +kernel
theorem dr_Lw_target_32 : decode bc_Lw_target 32 = .ok (.ireturn, 1) := by decide +kernel
theorem dr_Lw_lock_0 : decode bc_Lw_lock 0 = .ok (.aload_n 2, 1) := by decide +kernel
theorem dr_Lw_lock_1 : decode bc_Lw_lock 1 = .ok (.iconst 0, 1) := by decide +kernel
theorem dr_Lw_lock_2 : decode bc_Lw_lock 2 = .ok (.aload_n 0, 1) := by decide +kernel
theorem dr_Lw_lock_3 : decode bc_Lw_lock 3 = .ok (.iload_n 1, 1) := by decide +kernel
theorem dr_Lw_lock_4 : decode bc_Lw_lock 4 = .ok (.invokevirtual 21, 3) := by decide +kernel
theorem dr_Lw_lock_7 : decode bc_Lw_lock 7 = .ok (.ifCond .eq 7, 3) := by decide +kernel
theorem dr_Lw_lock_10 : decode bc_Lw_lock 10 = .ok (.lconst 1, 1) := by decide +kernel
theorem dr_Lw_lock_11 : decode bc_Lw_lock 11 = .ok (.goto 4, 3) := by decide +kernel
theorem dr_Lw_lock_14 : decode bc_Lw_lock 14 = .ok (.lconst 0, 1) := by decide +kernel
theorem dr_Lw_lock_15 : decode bc_Lw_lock 15 = .ok (.lastore, 1) := by decide +kernel
theorem dr_Lw_lock_16 : decode bc_Lw_lock 16 = .ok (.goto 6, 3) := by decide +kernel
theorem dr_Lw_lock_19 : decode bc_Lw_lock 19 = .ok (.astore_n 3, 1) := by decide +kernel
theorem dr_Lw_lock_20 : decode bc_Lw_lock 20 = .ok (.iconst 1, 1) := by decide +kernel
theorem dr_Lw_lock_21 : decode bc_Lw_lock 21 = .ok (.ireturn, 1) := by decide +kernel
theorem dr_Lw_lock_22 : decode bc_Lw_lock 22 = .ok (.iconst 0, 1) := by decide +kernel
theorem dr_Lw_lock_23 : decode bc_Lw_lock 23 = .ok (.ireturn, 1) := by decide +kernel
theorem dr_Lw_pair_0 : decode bc_Lw_pair 0 = .ok (.aload_n 3, 1) := by decide +kernel
theorem dr_Lw_pair_1 : decode bc_Lw_pair 1 = .ok (.iconst 0, 1) := by decide +kernel
theorem dr_Lw_pair_2 : decode bc_Lw_pair 2 = .ok (.aload_n 0, 1) := by decide +kernel
theorem dr_Lw_pair_3 : decode bc_Lw_pair 3 = .ok (.iload_n 1, 1) := by decide +kernel
theorem dr_Lw_pair_4 : decode bc_Lw_pair 4 = .ok (.iload_n 2, 1) := by decide +kernel
theorem dr_Lw_pair_5 : decode bc_Lw_pair 5 = .ok (.invokevirtual 25, 3) := by decide +kernel
theorem dr_Lw_pair_8 : decode bc_Lw_pair 8 = .ok (.ifCond .eq 7, 3) := by decide +kernel
theorem dr_Lw_pair_11 : decode bc_Lw_pair 11 = .ok (.lconst 1, 1) := by decide +kernel
theorem dr_Lw_pair_12 : decode bc_Lw_pair 12 = .ok (.goto 4, 3) := by decide +kernel
theorem dr_Lw_pair_15 : decode bc_Lw_pair 15 = .ok (.lconst 0, 1) := by decide +kernel
theorem dr_Lw_pair_16 : decode bc_Lw_pair 16 = .ok (.lastore, 1) := by decide +kernel
theorem dr_Lw_pair_17 : decode bc_Lw_pair 17 = .ok (.goto 7, 3) := by decide +kernel
theorem dr_Lw_pair_20 : decode bc_Lw_pair 20 = .ok (.astore 4, 2) := by decide +kernel
theorem dr_Lw_pair_22 : decode bc_Lw_pair 22 = .ok (.iconst 1, 1) := by decide +kernel
theorem dr_Lw_pair_23 : decode bc_Lw_pair 23 = .ok (.ireturn, 1) := by decide +kernel
theorem dr_Lw_pair_24 : decode bc_Lw_pair 24 = .ok (.iconst 0, 1) := by decide +kernel
theorem dr_Lw_pair_25 : decode bc_Lw_pair 25 = .ok (.ireturn, 1) := by decide +kernel
theorem dr_Lw_bank_0 : decode bc_Lw_bank 0 = .ok (.aload_n 3, 1) := by decide +kernel
theorem dr_Lw_bank_1 : decode bc_Lw_bank 1 = .ok (.iconst 0, 1) := by decide +kernel
theorem dr_Lw_bank_2 : decode bc_Lw_bank 2 = .ok (.aload_n 0, 1) := by decide +kernel
theorem dr_Lw_bank_3 : decode bc_Lw_bank 3 = .ok (.iload_n 1, 1) := by decide +kernel
theorem dr_Lw_bank_4 : decode bc_Lw_bank 4 = .ok (.iload_n 2, 1) := by decide +kernel
theorem dr_Lw_bank_5 : decode bc_Lw_bank 5 = .ok (.invokevirtual 29, 3) := by decide +kernel
theorem dr_Lw_bank_8 : decode bc_Lw_bank 8 = .ok (.ifCond .eq 7, 3) := by decide +kernel
theorem dr_Lw_bank_11 : decode bc_Lw_bank 11 = .ok (.lconst 1, 1) := by decide +kernel
theorem dr_Lw_bank_12 : decode bc_Lw_bank 12 = .ok (.goto 4, 3) := by decide +kernel
theorem dr_Lw_bank_15 : decode bc_Lw_bank 15 = .ok (.lconst 0, 1) := by decide +kernel
theorem dr_Lw_bank_16 : decode bc_Lw_bank 16 = .ok (.lastore, 1) := by decide +kernel
theorem dr_Lw_bank_17 : decode bc_Lw_bank 17 = .ok (.goto 11, 3) := by decide +kernel
theorem dr_Lw_bank_20 : decode bc_Lw_bank 20 = .ok (.astore 4, 2) := by decide +kernel
theorem dr_Lw_bank_22 : decode bc_Lw_bank 22 = .ok (.iconst 1, 1) := by decide +kernel
theorem dr_Lw_bank_23 : decode bc_Lw_bank 23 = .ok (.ireturn, 1) := by decide +kernel
theorem dr_Lw_bank_24 : decode bc_Lw_bank 24 = .ok (.astore 4, 2) := by decide +kernel
theorem dr_Lw_bank_26 : decode bc_Lw_bank 26 = .ok (.iconst 2, 1) := by decide +kernel
theorem dr_Lw_bank_27 : decode bc_Lw_bank 27 = .ok (.ireturn, 1) := by decide +kernel
theorem dr_Lw_bank_28 : decode bc_Lw_bank 28 = .ok (.iconst 0, 1) := by decide +kernel
theorem dr_Lw_bank_29 : decode bc_Lw_bank 29 = .ok (.ireturn, 1) := by decide +kernel
theorem dr_Lw_needs_0 : decode bc_Lw_needs 0 = .ok (.aload_n 3, 1) := by decide +kernel
theorem dr_Lw_needs_1 : decode bc_Lw_needs 1 = .ok (.iconst 0, 1) := by decide +kernel
theorem dr_Lw_needs_2 : decode bc_Lw_needs 2 = .ok (.aload_n 0, 1) := by decide +kernel
theorem dr_Lw_needs_3 : decode bc_Lw_needs 3 = .ok (.iload_n 1, 1) := by decide +kernel
theorem dr_Lw_needs_4 : decode bc_Lw_needs 4 = .ok (.iload_n 2, 1) := by decide +kernel
theorem dr_Lw_needs_5 : decode bc_Lw_needs 5 = .ok (.invokevirtual 32, 3) := by decide +kernel
theorem dr_Lw_needs_8 : decode bc_Lw_needs 8 = .ok (.ifCond .eq 7, 3) := by decide +kernel
theorem dr_Lw_needs_11 : decode bc_Lw_needs 11 = .ok (.lconst 1, 1) := by decide +kernel
theorem dr_Lw_needs_12 : decode bc_Lw_needs 12 = .ok (.goto 4, 3) := by decide +kernel
theorem dr_Lw_needs_15 : decode bc_Lw_needs 15 = .ok (.lconst 0, 1) := by decide +kernel
theorem dr_Lw_needs_16 : decode bc_Lw_needs 16 = .ok (.lastore, 1) := by decide +kernel
theorem dr_Lw_needs_17 : decode bc_Lw_needs 17 = .ok (.goto 11, 3) := by decide +kernel
theorem dr_Lw_needs_20 : decode bc_Lw_needs 20 = .ok (.astore 4, 2) := by decide +kernel
theorem dr_Lw_needs_22 : decode bc_Lw_needs 22 = .ok (.iconst 1, 1) := by decide +kernel
theorem dr_Lw_needs_23 : decode bc_Lw_needs 23 = .ok (.ireturn, 1) := by decide +kernel
theorem dr_Lw_needs_24 : decode bc_Lw_needs 24 = .ok (.astore 4, 2) := by decide +kernel
theorem dr_Lw_needs_26 : decode bc_Lw_needs 26 = .ok (.iconst 2, 1) := by decide +kernel
theorem dr_Lw_needs_27 : decode bc_Lw_needs 27 = .ok (.ireturn, 1) := by decide +kernel
theorem dr_Lw_needs_28 : decode bc_Lw_needs 28 = .ok (.iconst 0, 1) := by decide +kernel
theorem dr_Lw_needs_29 : decode bc_Lw_needs 29 = .ok (.ireturn, 1) := by decide +kernel
theorem dr_Lw_netOf_0 : decode bc_Lw_netOf 0 = .ok (.aload_n 2, 1) := by decide +kernel
theorem dr_Lw_netOf_1 : decode bc_Lw_netOf 1 = .ok (.iconst 0, 1) := by decide +kernel
theorem dr_Lw_netOf_2 : decode bc_Lw_netOf 2 = .ok (.aload_n 0, 1) := by decide +kernel
theorem dr_Lw_netOf_3 : decode bc_Lw_netOf 3 = .ok (.iload_n 1, 1) := by decide +kernel
theorem dr_Lw_netOf_4 : decode bc_Lw_netOf 4 = .ok (.invokevirtual 35, 3) := by decide +kernel
theorem dr_Lw_netOf_7 : decode bc_Lw_netOf 7 = .ok (.i2l, 1) := by decide +kernel
theorem dr_Lw_netOf_8 : decode bc_Lw_netOf 8 = .ok (.lastore, 1) := by decide +kernel
theorem dr_Lw_netOf_9 : decode bc_Lw_netOf 9 = .ok (.goto 6, 3) := by decide +kernel
theorem dr_Lw_netOf_12 : decode bc_Lw_netOf 12 = .ok (.astore_n 3, 1) := by decide +kernel
theorem dr_Lw_netOf_13 : decode bc_Lw_netOf 13 = .ok (.iconst 1, 1) := by decide +kernel
theorem dr_Lw_netOf_14 : decode bc_Lw_netOf 14 = .ok (.ireturn, 1) := by decide +kernel
theorem dr_Lw_netOf_15 : decode bc_Lw_netOf 15 = .ok (.iconst 0, 1) := by decide +kernel
theorem dr_Lw_netOf_16 : decode bc_Lw_netOf 16 = .ok (.ireturn, 1) := by decide +kernel
theorem dr_Lw_dual_0 : decode bc_Lw_dual 0 = .ok (.aload_n 3, 1) := by decide +kernel
theorem dr_Lw_dual_1 : decode bc_Lw_dual 1 = .ok (.iconst 0, 1) := by decide +kernel
theorem dr_Lw_dual_2 : decode bc_Lw_dual 2 = .ok (.aload_n 0, 1) := by decide +kernel
theorem dr_Lw_dual_3 : decode bc_Lw_dual 3 = .ok (.iload_n 1, 1) := by decide +kernel
theorem dr_Lw_dual_4 : decode bc_Lw_dual 4 = .ok (.iload_n 2, 1) := by decide +kernel
theorem dr_Lw_dual_5 : decode bc_Lw_dual 5 = .ok (.invokevirtual 39, 3) := by decide +kernel
theorem dr_Lw_dual_8 : decode bc_Lw_dual 8 = .ok (.lastore, 1) := by decide +kernel
theorem dr_Lw_dual_9 : decode bc_Lw_dual 9 = .ok (.goto 7, 3) := by decide +kernel
theorem dr_Lw_dual_12 : decode bc_Lw_dual 12 = .ok (.astore 4, 2) := by decide +kernel
theorem dr_Lw_dual_14 : decode bc_Lw_dual 14 = .ok (.iconst 1, 1) := by decide +kernel
theorem dr_Lw_dual_15 : decode bc_Lw_dual 15 = .ok (.ireturn, 1) := by decide +kernel
theorem dr_Lw_dual_16 : decode bc_Lw_dual 16 = .ok (.iconst 0, 1) := by decide +kernel
theorem dr_Lw_dual_17 : decode bc_Lw_dual 17 = .ok (.ireturn, 1) := by decide +kernel
theorem dr_Lw_note_0 : decode bc_Lw_note 0 = .ok (.aload_n 3, 1) := by decide +kernel
theorem dr_Lw_note_1 : decode bc_Lw_note 1 = .ok (.iconst 0, 1) := by decide +kernel
theorem dr_Lw_note_2 : decode bc_Lw_note 2 = .ok (.aload_n 0, 1) := by decide +kernel
theorem dr_Lw_note_3 : decode bc_Lw_note 3 = .ok (.iload_n 1, 1) := by decide +kernel
theorem dr_Lw_note_4 : decode bc_Lw_note 4 = .ok (.iload_n 2, 1) := by decide +kernel
theorem dr_Lw_note_5 : decode bc_Lw_note 5 = .ok (.invokevirtual 43, 3) := by decide +kernel
theorem dr_Lw_note_8 : decode bc_Lw_note 8 = .ok (.i2l, 1) := by decide +kernel
theorem dr_Lw_note_9 : decode bc_Lw_note 9 = .ok (.lastore, 1) := by decide +kernel
theorem dr_Lw_note_10 : decode bc_Lw_note 10 = .ok (.goto 7, 3) := by decide +kernel
theorem dr_Lw_note_13 : decode bc_Lw_note 13 = .ok (.astore 4, 2) := by decide +kernel
theorem dr_Lw_note_15 : decode bc_Lw_note 15 = .ok (.iconst 1, 1) := by decide +kernel
theorem dr_Lw_note_16 : decode bc_Lw_note 16 = .ok (.ireturn, 1) := by decide +kernel
theorem dr_Lw_note_17 : decode bc_Lw_note 17 = .ok (.iconst 0, 1) := by decide +kernel
theorem dr_Lw_note_18 : decode bc_Lw_note 18 = .ok (.ireturn, 1) := by decide +kernel
theorem dr_Lw_gate_0 : decode bc_Lw_gate 0 = .ok (.aload_n 2, 1) := by decide +kernel
theorem dr_Lw_gate_1 : decode bc_Lw_gate 1 = .ok (.iconst 0, 1) := by decide +kernel
theorem dr_Lw_gate_2 : decode bc_Lw_gate 2 = .ok (.aload_n 0, 1) := by decide +kernel
theorem dr_Lw_gate_3 : decode bc_Lw_gate 3 = .ok (.iload_n 1, 1) := by decide +kernel
theorem dr_Lw_gate_4 : decode bc_Lw_gate 4 = .ok (.invokevirtual 47, 3) := by decide +kernel
theorem dr_Lw_gate_7 : decode bc_Lw_gate 7 = .ok (.i2l, 1) := by decide +kernel
theorem dr_Lw_gate_8 : decode bc_Lw_gate 8 = .ok (.lastore, 1) := by decide +kernel
theorem dr_Lw_gate_9 : decode bc_Lw_gate 9 = .ok (.goto 6, 3) := by decide +kernel
theorem dr_Lw_gate_12 : decode bc_Lw_gate 12 = .ok (.astore_n 3, 1) := by decide +kernel
theorem dr_Lw_gate_13 : decode bc_Lw_gate 13 = .ok (.iconst 1, 1) := by decide +kernel
theorem dr_Lw_gate_14 : decode bc_Lw_gate 14 = .ok (.ireturn, 1) := by decide +kernel
theorem dr_Lw_gate_15 : decode bc_Lw_gate 15 = .ok (.iconst 0, 1) := by decide +kernel
theorem dr_Lw_gate_16 : decode bc_Lw_gate 16 = .ok (.ireturn, 1) := by decide +kernel
theorem dr_Lw_equalGate_0 : decode bc_Lw_equalGate 0 = .ok (.aload_n 3, 1) := by decide +kernel
theorem dr_Lw_equalGate_1 : decode bc_Lw_equalGate 1 = .ok (.iconst 0, 1) := by decide +kernel
theorem dr_Lw_equalGate_2 : decode bc_Lw_equalGate 2 = .ok (.aload_n 0, 1) := by decide +kernel
theorem dr_Lw_equalGate_3 : decode bc_Lw_equalGate 3 = .ok (.iload_n 1, 1) := by decide +kernel
theorem dr_Lw_equalGate_4 : decode bc_Lw_equalGate 4 = .ok (.iload_n 2, 1) := by decide +kernel
theorem dr_Lw_equalGate_5 : decode bc_Lw_equalGate 5 = .ok (.invokevirtual 50, 3) := by decide +kernel
theorem dr_Lw_equalGate_8 : decode bc_Lw_equalGate 8 = .ok (.ifCond .eq 7, 3) := by decide +kernel
theorem dr_Lw_equalGate_11 : decode bc_Lw_equalGate 11 = .ok (.lconst 1, 1) := by decide +kernel
theorem dr_Lw_equalGate_12 : decode bc_Lw_equalGate 12 = .ok (.goto 4, 3) := by decide +kernel
theorem dr_Lw_equalGate_15 : decode bc_Lw_equalGate 15 = .ok (.lconst 0, 1) := by decide +kernel
theorem dr_Lw_equalGate_16 : decode bc_Lw_equalGate 16 = .ok (.lastore, 1) := by decide +kernel
theorem dr_Lw_equalGate_17 : decode bc_Lw_equalGate 17 = .ok (.goto 7, 3) := by decide +kernel
theorem dr_Lw_equalGate_20 : decode bc_Lw_equalGate 20 = .ok (.astore 4, 2) := by decide +kernel
theorem dr_Lw_equalGate_22 : decode bc_Lw_equalGate 22 = .ok (.iconst 1, 1) := by decide +kernel
theorem dr_Lw_equalGate_23 : decode bc_Lw_equalGate 23 = .ok (.ireturn, 1) := by decide +kernel
theorem dr_Lw_equalGate_24 : decode bc_Lw_equalGate 24 = .ok (.iconst 0, 1) := by decide +kernel
theorem dr_Lw_equalGate_25 : decode bc_Lw_equalGate 25 = .ok (.ireturn, 1) := by decide +kernel
theorem dr_Lw_law_0 : decode bc_Lw_law 0 = .ok (.new 8, 3) := by decide +kernel
theorem dr_Lw_law_3 : decode bc_Lw_law 3 = .ok (.dup, 1) := by decide +kernel
theorem dr_Lw_law_4 : decode bc_Lw_law 4 = .ok (.invokespecial 53, 3) := by decide +kernel
theorem dr_Lw_law_7 : decode bc_Lw_law 7 = .ok (.astore_n 1, 1) := by decide +kernel
theorem dr_Lw_law_8 : decode bc_Lw_law 8 = .ok (.new 54, 3) := by decide +kernel
theorem dr_Lw_law_11 : decode bc_Lw_law 11 = .ok (.dup, 1) := by decide +kernel
theorem dr_Lw_law_12 : decode bc_Lw_law 12 = .ok (.invokespecial 56, 3) := by decide +kernel
theorem dr_Lw_law_15 : decode bc_Lw_law 15 = .ok (.astore_n 2, 1) := by decide +kernel
theorem dr_Lw_law_16 : decode bc_Lw_law 16 = .ok (.iconst 1, 1) := by decide +kernel
theorem dr_Lw_law_17 : decode bc_Lw_law 17 = .ok (.newarray .long, 2) := by decide +kernel
theorem dr_Lw_law_19 : decode bc_Lw_law 19 = .ok (.astore_n 3, 1) := by decide +kernel
theorem dr_Lw_law_20 : decode bc_Lw_law 20 = .ok (.iconst 0, 1) := by decide +kernel
theorem dr_Lw_law_21 : decode bc_Lw_law 21 = .ok (.istore 4, 2) := by decide +kernel
theorem dr_Lw_law_23 : decode bc_Lw_law 23 = .ok (.iload 4, 2) := by decide +kernel
theorem dr_Lw_law_25 : decode bc_Lw_law 25 = .ok (.aload_n 0, 1) := by decide +kernel
theorem dr_Lw_law_26 : decode bc_Lw_law 26 = .ok (.arraylength, 1) := by decide +kernel
theorem dr_Lw_law_27 : decode bc_Lw_law 27 = .ok (.bipush 7, 2) := by decide +kernel
theorem dr_Lw_law_29 : decode bc_Lw_law 29 = .ok (.isub, 1) := by decide +kernel
theorem dr_Lw_law_30 : decode bc_Lw_law 30 = .ok (.if_icmp .gt 1099, 3) := by decide +kernel
theorem dr_Lw_law_33 : decode bc_Lw_law 33 = .ok (.aload_n 0, 1) := by decide +kernel
theorem dr_Lw_law_34 : decode bc_Lw_law 34 = .ok (.iload 4, 2) := by decide +kernel
theorem dr_Lw_law_36 : decode bc_Lw_law 36 = .ok (.iaload, 1) := by decide +kernel
theorem dr_Lw_law_37 : decode bc_Lw_law 37 = .ok (.bipush 31, 2) := by decide +kernel
theorem dr_Lw_law_39 : decode bc_Lw_law 39 = .ok (.iand, 1) := by decide +kernel
theorem dr_Lw_law_40 : decode bc_Lw_law 40 = .ok (.tableswitch 1083 0 16 #[84, 97, 255, 406, 469, 544, 619, 694, 707, 763, 777, 791, 858, 926, 982, 1057, 1070], 84) := by decide +kernel
theorem dr_Lw_law_124 : decode bc_Lw_law 124 = .ok (.aload_n 1, 1) := by decide +kernel
theorem dr_Lw_law_125 : decode bc_Lw_law 125 = .ok (.invokevirtual 57, 3) := by decide +kernel
theorem dr_Lw_law_128 : decode bc_Lw_law 128 = .ok (.aload_n 2, 1) := by decide +kernel
theorem dr_Lw_law_129 : decode bc_Lw_law 129 = .ok (.invokevirtual 61, 3) := by decide +kernel
theorem dr_Lw_law_132 : decode bc_Lw_law 132 = .ok (.if_icmp .eq 991, 3) := by decide +kernel
theorem dr_Lw_law_135 : decode bc_Lw_law 135 = .ok (.iconst 0, 1) := by decide +kernel
theorem dr_Lw_law_136 : decode bc_Lw_law 136 = .ok (.ireturn, 1) := by decide +kernel
theorem dr_Lw_law_137 : decode bc_Lw_law 137 = .ok (.aload_n 1, 1) := by decide +kernel
theorem dr_Lw_law_138 : decode bc_Lw_law 138 = .ok (.aload_n 0, 1) := by decide +kernel
theorem dr_Lw_law_139 : decode bc_Lw_law 139 = .ok (.iload 4, 2) := by decide +kernel
theorem dr_Lw_law_141 : decode bc_Lw_law 141 = .ok (.iconst 1, 1) := by decide +kernel
theorem dr_Lw_law_142 : decode bc_Lw_law 142 = .ok (.iadd, 1) := by decide +kernel
theorem dr_Lw_law_143 : decode bc_Lw_law 143 = .ok (.iaload, 1) := by decide +kernel
theorem dr_Lw_law_144 : decode bc_Lw_law 144 = .ok (.aload_n 0, 1) := by decide +kernel
theorem dr_Lw_law_145 : decode bc_Lw_law 145 = .ok (.iload 4, 2) := by decide +kernel
theorem dr_Lw_law_147 : decode bc_Lw_law 147 = .ok (.iconst 2, 1) := by decide +kernel
theorem dr_Lw_law_148 : decode bc_Lw_law 148 = .ok (.iadd, 1) := by decide +kernel
theorem dr_Lw_law_149 : decode bc_Lw_law 149 = .ok (.iaload, 1) := by decide +kernel
theorem dr_Lw_law_150 : decode bc_Lw_law 150 = .ok (.i2l, 1) := by decide +kernel
theorem dr_Lw_law_151 : decode bc_Lw_law 151 = .ok (.bipush 32, 2) := by decide +kernel
theorem dr_Lw_law_153 : decode bc_Lw_law 153 = .ok (.lshl, 1) := by decide +kernel
theorem dr_Lw_law_154 : decode bc_Lw_law 154 = .ok (.aload_n 0, 1) := by decide +kernel
theorem dr_Lw_law_155 : decode bc_Lw_law 155 = .ok (.iload 4, 2) := by decide +kernel
theorem dr_Lw_law_157 : decode bc_Lw_law 157 = .ok (.iconst 3, 1) := by decide +kernel
theorem dr_Lw_law_158 : decode bc_Lw_law 158 = .ok (.iadd, 1) := by decide +kernel
theorem dr_Lw_law_159 : decode bc_Lw_law 159 = .ok (.iaload, 1) := by decide +kernel
theorem dr_Lw_law_160 : decode bc_Lw_law 160 = .ok (.i2l, 1) := by decide +kernel
theorem dr_Lw_law_161 : decode bc_Lw_law 161 = .ok (.ldc2_w 62, 3) := by decide +kernel
theorem dr_Lw_law_164 : decode bc_Lw_law 164 = .ok (.land, 1) := by decide +kernel
theorem dr_Lw_law_165 : decode bc_Lw_law 165 = .ok (.lor, 1) := by decide +kernel
theorem dr_Lw_law_166 : decode bc_Lw_law 166 = .ok (.aload_n 0, 1) := by decide +kernel
theorem dr_Lw_law_167 : decode bc_Lw_law 167 = .ok (.iload 4, 2) := by decide +kernel
theorem dr_Lw_law_169 : decode bc_Lw_law 169 = .ok (.iconst 4, 1) := by decide +kernel
theorem dr_Lw_law_170 : decode bc_Lw_law 170 = .ok (.iadd, 1) := by decide +kernel
theorem dr_Lw_law_171 : decode bc_Lw_law 171 = .ok (.iaload, 1) := by decide +kernel
theorem dr_Lw_law_172 : decode bc_Lw_law 172 = .ok (.i2l, 1) := by decide +kernel
theorem dr_Lw_law_173 : decode bc_Lw_law 173 = .ok (.bipush 32, 2) := by decide +kernel
theorem dr_Lw_law_175 : decode bc_Lw_law 175 = .ok (.lshl, 1) := by decide +kernel
theorem dr_Lw_law_176 : decode bc_Lw_law 176 = .ok (.aload_n 0, 1) := by decide +kernel
theorem dr_Lw_law_177 : decode bc_Lw_law 177 = .ok (.iload 4, 2) := by decide +kernel
theorem dr_Lw_law_179 : decode bc_Lw_law 179 = .ok (.iconst 5, 1) := by decide +kernel
theorem dr_Lw_law_180 : decode bc_Lw_law 180 = .ok (.iadd, 1) := by decide +kernel
theorem dr_Lw_law_181 : decode bc_Lw_law 181 = .ok (.iaload, 1) := by decide +kernel
theorem dr_Lw_law_182 : decode bc_Lw_law 182 = .ok (.i2l, 1) := by decide +kernel
theorem dr_Lw_law_183 : decode bc_Lw_law 183 = .ok (.ldc2_w 62, 3) := by decide +kernel
theorem dr_Lw_law_186 : decode bc_Lw_law 186 = .ok (.land, 1) := by decide +kernel
theorem dr_Lw_law_187 : decode bc_Lw_law 187 = .ok (.lor, 1) := by decide +kernel
theorem dr_Lw_law_188 : decode bc_Lw_law 188 = .ok (.aload_n 0, 1) := by decide +kernel
theorem dr_Lw_law_189 : decode bc_Lw_law 189 = .ok (.iload 4, 2) := by decide +kernel
theorem dr_Lw_law_191 : decode bc_Lw_law 191 = .ok (.bipush 6, 2) := by decide +kernel
theorem dr_Lw_law_193 : decode bc_Lw_law 193 = .ok (.iadd, 1) := by decide +kernel
theorem dr_Lw_law_194 : decode bc_Lw_law 194 = .ok (.iaload, 1) := by decide +kernel
theorem dr_Lw_law_195 : decode bc_Lw_law 195 = .ok (.aload_n 3, 1) := by decide +kernel
theorem dr_Lw_law_196 : decode bc_Lw_law 196 = .ok (.invokestatic 64, 3) := by decide +kernel
theorem dr_Lw_law_199 : decode bc_Lw_law 199 = .ok (.istore 5, 2) := by decide +kernel
theorem dr_Lw_law_201 : decode bc_Lw_law 201 = .ok (.aload_n 2, 1) := by decide +kernel
theorem dr_Lw_law_202 : decode bc_Lw_law 202 = .ok (.aload_n 0, 1) := by decide +kernel
theorem dr_Lw_law_203 : decode bc_Lw_law 203 = .ok (.iload 4, 2) := by decide +kernel
theorem dr_Lw_law_205 : decode bc_Lw_law 205 = .ok (.iconst 1, 1) := by decide +kernel
theorem dr_Lw_law_206 : decode bc_Lw_law 206 = .ok (.iadd, 1) := by decide +kernel
theorem dr_Lw_law_207 : decode bc_Lw_law 207 = .ok (.iaload, 1) := by decide +kernel
theorem dr_Lw_law_208 : decode bc_Lw_law 208 = .ok (.aload_n 0, 1) := by decide +kernel
theorem dr_Lw_law_209 : decode bc_Lw_law 209 = .ok (.iload 4, 2) := by decide +kernel
theorem dr_Lw_law_211 : decode bc_Lw_law 211 = .ok (.iconst 2, 1) := by decide +kernel
theorem dr_Lw_law_212 : decode bc_Lw_law 212 = .ok (.iadd, 1) := by decide +kernel
theorem dr_Lw_law_213 : decode bc_Lw_law 213 = .ok (.iaload, 1) := by decide +kernel
theorem dr_Lw_law_214 : decode bc_Lw_law 214 = .ok (.i2l, 1) := by decide +kernel
theorem dr_Lw_law_215 : decode bc_Lw_law 215 = .ok (.bipush 32, 2) := by decide +kernel
theorem dr_Lw_law_217 : decode bc_Lw_law 217 = .ok (.lshl, 1) := by decide +kernel
theorem dr_Lw_law_218 : decode bc_Lw_law 218 = .ok (.aload_n 0, 1) := by decide +kernel
theorem dr_Lw_law_219 : decode bc_Lw_law 219 = .ok (.iload 4, 2) := by decide +kernel
theorem dr_Lw_law_221 : decode bc_Lw_law 221 = .ok (.iconst 3, 1) := by decide +kernel
theorem dr_Lw_law_222 : decode bc_Lw_law 222 = .ok (.iadd, 1) := by decide +kernel
theorem dr_Lw_law_223 : decode bc_Lw_law 223 = .ok (.iaload, 1) := by decide +kernel
theorem dr_Lw_law_224 : decode bc_Lw_law 224 = .ok (.i2l, 1) := by decide +kernel
theorem dr_Lw_law_225 : decode bc_Lw_law 225 = .ok (.ldc2_w 62, 3) := by decide +kernel
theorem dr_Lw_law_228 : decode bc_Lw_law 228 = .ok (.land, 1) := by decide +kernel
theorem dr_Lw_law_229 : decode bc_Lw_law 229 = .ok (.lor, 1) := by decide +kernel
theorem dr_Lw_law_230 : decode bc_Lw_law 230 = .ok (.aload_n 0, 1) := by decide +kernel
theorem dr_Lw_law_231 : decode bc_Lw_law 231 = .ok (.iload 4, 2) := by decide +kernel
theorem dr_Lw_law_233 : decode bc_Lw_law 233 = .ok (.iconst 4, 1) := by decide +kernel
theorem dr_Lw_law_234 : decode bc_Lw_law 234 = .ok (.iadd, 1) := by decide +kernel
theorem dr_Lw_law_235 : decode bc_Lw_law 235 = .ok (.iaload, 1) := by decide +kernel
theorem dr_Lw_law_236 : decode bc_Lw_law 236 = .ok (.i2l, 1) := by decide +kernel
theorem dr_Lw_law_237 : decode bc_Lw_law 237 = .ok (.bipush 32, 2) := by decide +kernel
theorem dr_Lw_law_239 : decode bc_Lw_law 239 = .ok (.lshl, 1) := by decide +kernel
theorem dr_Lw_law_240 : decode bc_Lw_law 240 = .ok (.aload_n 0, 1) := by decide +kernel
theorem dr_Lw_law_241 : decode bc_Lw_law 241 = .ok (.iload 4, 2) := by decide +kernel
theorem dr_Lw_law_243 : decode bc_Lw_law 243 = .ok (.iconst 5, 1) := by decide +kernel
theorem dr_Lw_law_244 : decode bc_Lw_law 244 = .ok (.iadd, 1) := by decide +kernel
theorem dr_Lw_law_245 : decode bc_Lw_law 245 = .ok (.iaload, 1) := by decide +kernel
theorem dr_Lw_law_246 : decode bc_Lw_law 246 = .ok (.i2l, 1) := by decide +kernel
theorem dr_Lw_law_247 : decode bc_Lw_law 247 = .ok (.ldc2_w 62, 3) := by decide +kernel
theorem dr_Lw_law_250 : decode bc_Lw_law 250 = .ok (.land, 1) := by decide +kernel
theorem dr_Lw_law_251 : decode bc_Lw_law 251 = .ok (.lor, 1) := by decide +kernel
theorem dr_Lw_law_252 : decode bc_Lw_law 252 = .ok (.aload_n 0, 1) := by decide +kernel
theorem dr_Lw_law_253 : decode bc_Lw_law 253 = .ok (.iload 4, 2) := by decide +kernel
theorem dr_Lw_law_255 : decode bc_Lw_law 255 = .ok (.bipush 6, 2) := by decide +kernel
theorem dr_Lw_law_257 : decode bc_Lw_law 257 = .ok (.iadd, 1) := by decide +kernel
theorem dr_Lw_law_258 : decode bc_Lw_law 258 = .ok (.iaload, 1) := by decide +kernel
theorem dr_Lw_law_259 : decode bc_Lw_law 259 = .ok (.invokevirtual 69, 3) := by decide +kernel
theorem dr_Lw_law_262 : decode bc_Lw_law 262 = .ok (.istore 6, 2) := by decide +kernel
theorem dr_Lw_law_264 : decode bc_Lw_law 264 = .ok (.aload_n 2, 1) := by decide +kernel
theorem dr_Lw_law_265 : decode bc_Lw_law 265 = .ok (.invokevirtual 70, 3) := by decide +kernel
theorem dr_Lw_law_268 : decode bc_Lw_law 268 = .ok (.iload 5, 2) := by decide +kernel
theorem dr_Lw_law_270 : decode bc_Lw_law 270 = .ok (.if_icmp .eq 5, 3) := by decide +kernel
theorem dr_Lw_law_273 : decode bc_Lw_law 273 = .ok (.iconst 0, 1) := by decide +kernel
theorem dr_Lw_law_274 : decode bc_Lw_law 274 = .ok (.ireturn, 1) := by decide +kernel
theorem dr_Lw_law_275 : decode bc_Lw_law 275 = .ok (.iload 5, 2) := by decide +kernel
theorem dr_Lw_law_277 : decode bc_Lw_law 277 = .ok (.ifCond .ne 15, 3) := by decide +kernel
theorem dr_Lw_law_280 : decode bc_Lw_law 280 = .ok (.aload_n 3, 1) := by decide +kernel
theorem dr_Lw_law_281 : decode bc_Lw_law 281 = .ok (.iconst 0, 1) := by decide +kernel
theorem dr_Lw_law_282 : decode bc_Lw_law 282 = .ok (.laload, 1) := by decide +kernel
theorem dr_Lw_law_283 : decode bc_Lw_law 283 = .ok (.iload 6, 2) := by decide +kernel
theorem dr_Lw_law_285 : decode bc_Lw_law 285 = .ok (.i2l, 1) := by decide +kernel
theorem dr_Lw_law_286 : decode bc_Lw_law 286 = .ok (.lcmp, 1) := by decide +kernel
theorem dr_Lw_law_287 : decode bc_Lw_law 287 = .ok (.ifCond .eq 5, 3) := by decide +kernel
theorem dr_Lw_law_290 : decode bc_Lw_law 290 = .ok (.iconst 0, 1) := by decide +kernel
theorem dr_Lw_law_291 : decode bc_Lw_law 291 = .ok (.ireturn, 1) := by decide +kernel
theorem dr_Lw_law_292 : decode bc_Lw_law 292 = .ok (.goto 831, 3) := by decide +kernel
theorem dr_Lw_law_295 : decode bc_Lw_law 295 = .ok (.aload_n 1, 1) := by decide +kernel
theorem dr_Lw_law_296 : decode bc_Lw_law 296 = .ok (.aload_n 0, 1) := by decide +kernel
theorem dr_Lw_law_297 : decode bc_Lw_law 297 = .ok (.iload 4, 2) := by decide +kernel
theorem dr_Lw_law_299 : decode bc_Lw_law 299 = .ok (.iconst 1, 1) := by decide +kernel
theorem dr_Lw_law_300 : decode bc_Lw_law 300 = .ok (.iadd, 1) := by decide +kernel
theorem dr_Lw_law_301 : decode bc_Lw_law 301 = .ok (.iaload, 1) := by decide +kernel
theorem dr_Lw_law_302 : decode bc_Lw_law 302 = .ok (.aload_n 0, 1) := by decide +kernel
theorem dr_Lw_law_303 : decode bc_Lw_law 303 = .ok (.iload 4, 2) := by decide +kernel
theorem dr_Lw_law_305 : decode bc_Lw_law 305 = .ok (.iconst 2, 1) := by decide +kernel
theorem dr_Lw_law_306 : decode bc_Lw_law 306 = .ok (.iadd, 1) := by decide +kernel
theorem dr_Lw_law_307 : decode bc_Lw_law 307 = .ok (.iaload, 1) := by decide +kernel
theorem dr_Lw_law_308 : decode bc_Lw_law 308 = .ok (.i2l, 1) := by decide +kernel
theorem dr_Lw_law_309 : decode bc_Lw_law 309 = .ok (.bipush 32, 2) := by decide +kernel
theorem dr_Lw_law_311 : decode bc_Lw_law 311 = .ok (.lshl, 1) := by decide +kernel
theorem dr_Lw_law_312 : decode bc_Lw_law 312 = .ok (.aload_n 0, 1) := by decide +kernel
theorem dr_Lw_law_313 : decode bc_Lw_law 313 = .ok (.iload 4, 2) := by decide +kernel
theorem dr_Lw_law_315 : decode bc_Lw_law 315 = .ok (.iconst 3, 1) := by decide +kernel
theorem dr_Lw_law_316 : decode bc_Lw_law 316 = .ok (.iadd, 1) := by decide +kernel
theorem dr_Lw_law_317 : decode bc_Lw_law 317 = .ok (.iaload, 1) := by decide +kernel
theorem dr_Lw_law_318 : decode bc_Lw_law 318 = .ok (.i2l, 1) := by decide +kernel
theorem dr_Lw_law_319 : decode bc_Lw_law 319 = .ok (.ldc2_w 62, 3) := by decide +kernel
theorem dr_Lw_law_322 : decode bc_Lw_law 322 = .ok (.land, 1) := by decide +kernel
theorem dr_Lw_law_323 : decode bc_Lw_law 323 = .ok (.lor, 1) := by decide +kernel
theorem dr_Lw_law_324 : decode bc_Lw_law 324 = .ok (.aload_n 0, 1) := by decide +kernel
theorem dr_Lw_law_325 : decode bc_Lw_law 325 = .ok (.iload 4, 2) := by decide +kernel
theorem dr_Lw_law_327 : decode bc_Lw_law 327 = .ok (.iconst 4, 1) := by decide +kernel
theorem dr_Lw_law_328 : decode bc_Lw_law 328 = .ok (.iadd, 1) := by decide +kernel
theorem dr_Lw_law_329 : decode bc_Lw_law 329 = .ok (.iaload, 1) := by decide +kernel
theorem dr_Lw_law_330 : decode bc_Lw_law 330 = .ok (.i2l, 1) := by decide +kernel
theorem dr_Lw_law_331 : decode bc_Lw_law 331 = .ok (.bipush 32, 2) := by decide +kernel
theorem dr_Lw_law_333 : decode bc_Lw_law 333 = .ok (.lshl, 1) := by decide +kernel
theorem dr_Lw_law_334 : decode bc_Lw_law 334 = .ok (.aload_n 0, 1) := by decide +kernel
theorem dr_Lw_law_335 : decode bc_Lw_law 335 = .ok (.iload 4, 2) := by decide +kernel
theorem dr_Lw_law_337 : decode bc_Lw_law 337 = .ok (.iconst 5, 1) := by decide +kernel
theorem dr_Lw_law_338 : decode bc_Lw_law 338 = .ok (.iadd, 1) := by decide +kernel
theorem dr_Lw_law_339 : decode bc_Lw_law 339 = .ok (.iaload, 1) := by decide +kernel
theorem dr_Lw_law_340 : decode bc_Lw_law 340 = .ok (.i2l, 1) := by decide +kernel
theorem dr_Lw_law_341 : decode bc_Lw_law 341 = .ok (.ldc2_w 62, 3) := by decide +kernel
theorem dr_Lw_law_344 : decode bc_Lw_law 344 = .ok (.land, 1) := by decide +kernel
theorem dr_Lw_law_345 : decode bc_Lw_law 345 = .ok (.lor, 1) := by decide +kernel
theorem dr_Lw_law_346 : decode bc_Lw_law 346 = .ok (.aload_n 3, 1) := by decide +kernel
theorem dr_Lw_law_347 : decode bc_Lw_law 347 = .ok (.invokestatic 73, 3) := by decide +kernel
theorem dr_Lw_law_350 : decode bc_Lw_law 350 = .ok (.istore 5, 2) := by decide +kernel
theorem dr_Lw_law_352 : decode bc_Lw_law 352 = .ok (.aload_n 2, 1) := by decide +kernel
theorem dr_Lw_law_353 : decode bc_Lw_law 353 = .ok (.aload_n 0, 1) := by decide +kernel
theorem dr_Lw_law_354 : decode bc_Lw_law 354 = .ok (.iload 4, 2) := by decide +kernel
theorem dr_Lw_law_356 : decode bc_Lw_law 356 = .ok (.iconst 1, 1) := by decide +kernel
theorem dr_Lw_law_357 : decode bc_Lw_law 357 = .ok (.iadd, 1) := by decide +kernel
theorem dr_Lw_law_358 : decode bc_Lw_law 358 = .ok (.iaload, 1) := by decide +kernel
theorem dr_Lw_law_359 : decode bc_Lw_law 359 = .ok (.aload_n 0, 1) := by decide +kernel
theorem dr_Lw_law_360 : decode bc_Lw_law 360 = .ok (.iload 4, 2) := by decide +kernel
theorem dr_Lw_law_362 : decode bc_Lw_law 362 = .ok (.iconst 2, 1) := by decide +kernel
theorem dr_Lw_law_363 : decode bc_Lw_law 363 = .ok (.iadd, 1) := by decide +kernel
theorem dr_Lw_law_364 : decode bc_Lw_law 364 = .ok (.iaload, 1) := by decide +kernel
theorem dr_Lw_law_365 : decode bc_Lw_law 365 = .ok (.i2l, 1) := by decide +kernel
theorem dr_Lw_law_366 : decode bc_Lw_law 366 = .ok (.bipush 32, 2) := by decide +kernel
theorem dr_Lw_law_368 : decode bc_Lw_law 368 = .ok (.lshl, 1) := by decide +kernel
theorem dr_Lw_law_369 : decode bc_Lw_law 369 = .ok (.aload_n 0, 1) := by decide +kernel
theorem dr_Lw_law_370 : decode bc_Lw_law 370 = .ok (.iload 4, 2) := by decide +kernel
theorem dr_Lw_law_372 : decode bc_Lw_law 372 = .ok (.iconst 3, 1) := by decide +kernel
theorem dr_Lw_law_373 : decode bc_Lw_law 373 = .ok (.iadd, 1) := by decide +kernel
theorem dr_Lw_law_374 : decode bc_Lw_law 374 = .ok (.iaload, 1) := by decide +kernel
theorem dr_Lw_law_375 : decode bc_Lw_law 375 = .ok (.i2l, 1) := by decide +kernel
theorem dr_Lw_law_376 : decode bc_Lw_law 376 = .ok (.ldc2_w 62, 3) := by decide +kernel
theorem dr_Lw_law_379 : decode bc_Lw_law 379 = .ok (.land, 1) := by decide +kernel
theorem dr_Lw_law_380 : decode bc_Lw_law 380 = .ok (.lor, 1) := by decide +kernel
theorem dr_Lw_law_381 : decode bc_Lw_law 381 = .ok (.aload_n 0, 1) := by decide +kernel
theorem dr_Lw_law_382 : decode bc_Lw_law 382 = .ok (.iload 4, 2) := by decide +kernel
theorem dr_Lw_law_384 : decode bc_Lw_law 384 = .ok (.iconst 4, 1) := by decide +kernel
theorem dr_Lw_law_385 : decode bc_Lw_law 385 = .ok (.iadd, 1) := by decide +kernel
theorem dr_Lw_law_386 : decode bc_Lw_law 386 = .ok (.iaload, 1) := by decide +kernel
theorem dr_Lw_law_387 : decode bc_Lw_law 387 = .ok (.i2l, 1) := by decide +kernel
theorem dr_Lw_law_388 : decode bc_Lw_law 388 = .ok (.bipush 32, 2) := by decide +kernel
theorem dr_Lw_law_390 : decode bc_Lw_law 390 = .ok (.lshl, 1) := by decide +kernel
theorem dr_Lw_law_391 : decode bc_Lw_law 391 = .ok (.aload_n 0, 1) := by decide +kernel
theorem dr_Lw_law_392 : decode bc_Lw_law 392 = .ok (.iload 4, 2) := by decide +kernel
theorem dr_Lw_law_394 : decode bc_Lw_law 394 = .ok (.iconst 5, 1) := by decide +kernel
theorem dr_Lw_law_395 : decode bc_Lw_law 395 = .ok (.iadd, 1) := by decide +kernel
theorem dr_Lw_law_396 : decode bc_Lw_law 396 = .ok (.iaload, 1) := by decide +kernel
theorem dr_Lw_law_397 : decode bc_Lw_law 397 = .ok (.i2l, 1) := by decide +kernel
theorem dr_Lw_law_398 : decode bc_Lw_law 398 = .ok (.ldc2_w 62, 3) := by decide +kernel
theorem dr_Lw_law_401 : decode bc_Lw_law 401 = .ok (.land, 1) := by decide +kernel
theorem dr_Lw_law_402 : decode bc_Lw_law 402 = .ok (.lor, 1) := by decide +kernel
theorem dr_Lw_law_403 : decode bc_Lw_law 403 = .ok (.invokevirtual 76, 3) := by decide +kernel
theorem dr_Lw_law_406 : decode bc_Lw_law 406 = .ok (.istore 6, 2) := by decide +kernel
theorem dr_Lw_law_408 : decode bc_Lw_law 408 = .ok (.aload_n 2, 1) := by decide +kernel
theorem dr_Lw_law_409 : decode bc_Lw_law 409 = .ok (.invokevirtual 70, 3) := by decide +kernel
theorem dr_Lw_law_412 : decode bc_Lw_law 412 = .ok (.iload 5, 2) := by decide +kernel
theorem dr_Lw_law_414 : decode bc_Lw_law 414 = .ok (.if_icmp .eq 5, 3) := by decide +kernel
theorem dr_Lw_law_417 : decode bc_Lw_law 417 = .ok (.iconst 0, 1) := by decide +kernel
theorem dr_Lw_law_418 : decode bc_Lw_law 418 = .ok (.ireturn, 1) := by decide +kernel
theorem dr_Lw_law_419 : decode bc_Lw_law 419 = .ok (.iload 5, 2) := by decide +kernel
theorem dr_Lw_law_421 : decode bc_Lw_law 421 = .ok (.ifCond .ne 22, 3) := by decide +kernel
theorem dr_Lw_law_424 : decode bc_Lw_law 424 = .ok (.aload_n 3, 1) := by decide +kernel
theorem dr_Lw_law_425 : decode bc_Lw_law 425 = .ok (.iconst 0, 1) := by decide +kernel
theorem dr_Lw_law_426 : decode bc_Lw_law 426 = .ok (.laload, 1) := by decide +kernel
theorem dr_Lw_law_427 : decode bc_Lw_law 427 = .ok (.iload 6, 2) := by decide +kernel
theorem dr_Lw_law_429 : decode bc_Lw_law 429 = .ok (.ifCond .eq 7, 3) := by decide +kernel
theorem dr_Lw_law_432 : decode bc_Lw_law 432 = .ok (.lconst 1, 1) := by decide +kernel
theorem dr_Lw_law_433 : decode bc_Lw_law 433 = .ok (.goto 4, 3) := by decide +kernel
theorem dr_Lw_law_436 : decode bc_Lw_law 436 = .ok (.lconst 0, 1) := by decide +kernel
theorem dr_Lw_law_437 : decode bc_Lw_law 437 = .ok (.lcmp, 1) := by decide +kernel
theorem dr_Lw_law_438 : decode bc_Lw_law 438 = .ok (.ifCond .eq 5, 3) := by decide +kernel
theorem dr_Lw_law_441 : decode bc_Lw_law 441 = .ok (.iconst 0, 1) := by decide +kernel
theorem dr_Lw_law_442 : decode bc_Lw_law 442 = .ok (.ireturn, 1) := by decide +kernel
theorem dr_Lw_law_443 : decode bc_Lw_law 443 = .ok (.goto 680, 3) := by decide +kernel
theorem dr_Lw_law_446 : decode bc_Lw_law 446 = .ok (.aload_n 1, 1) := by decide +kernel
theorem dr_Lw_law_447 : decode bc_Lw_law 447 = .ok (.aload_n 0, 1) := by decide +kernel
theorem dr_Lw_law_448 : decode bc_Lw_law 448 = .ok (.iload 4, 2) := by decide +kernel
theorem dr_Lw_law_450 : decode bc_Lw_law 450 = .ok (.iconst 1, 1) := by decide +kernel
theorem dr_Lw_law_451 : decode bc_Lw_law 451 = .ok (.iadd, 1) := by decide +kernel
theorem dr_Lw_law_452 : decode bc_Lw_law 452 = .ok (.iaload, 1) := by decide +kernel
theorem dr_Lw_law_453 : decode bc_Lw_law 453 = .ok (.aload_n 3, 1) := by decide +kernel
theorem dr_Lw_law_454 : decode bc_Lw_law 454 = .ok (.invokestatic 77, 3) := by decide +kernel
theorem dr_Lw_law_457 : decode bc_Lw_law 457 = .ok (.istore 5, 2) := by decide +kernel
theorem dr_Lw_law_459 : decode bc_Lw_law 459 = .ok (.aload_n 2, 1) := by decide +kernel
theorem dr_Lw_law_460 : decode bc_Lw_law 460 = .ok (.aload_n 0, 1) := by decide +kernel
theorem dr_Lw_law_461 : decode bc_Lw_law 461 = .ok (.iload 4, 2) := by decide +kernel
theorem dr_Lw_law_463 : decode bc_Lw_law 463 = .ok (.iconst 1, 1) := by decide +kernel
theorem dr_Lw_law_464 : decode bc_Lw_law 464 = .ok (.iadd, 1) := by decide +kernel
theorem dr_Lw_law_465 : decode bc_Lw_law 465 = .ok (.iaload, 1) := by decide +kernel
theorem dr_Lw_law_466 : decode bc_Lw_law 466 = .ok (.invokevirtual 80, 3) := by decide +kernel
theorem dr_Lw_law_469 : decode bc_Lw_law 469 = .ok (.istore 6, 2) := by decide +kernel
theorem dr_Lw_law_471 : decode bc_Lw_law 471 = .ok (.aload_n 2, 1) := by decide +kernel
theorem dr_Lw_law_472 : decode bc_Lw_law 472 = .ok (.invokevirtual 70, 3) := by decide +kernel
theorem dr_Lw_law_475 : decode bc_Lw_law 475 = .ok (.iload 5, 2) := by decide +kernel
theorem dr_Lw_law_477 : decode bc_Lw_law 477 = .ok (.if_icmp .eq 5, 3) := by decide +kernel
theorem dr_Lw_law_480 : decode bc_Lw_law 480 = .ok (.iconst 0, 1) := by decide +kernel
theorem dr_Lw_law_481 : decode bc_Lw_law 481 = .ok (.ireturn, 1) := by decide +kernel
theorem dr_Lw_law_482 : decode bc_Lw_law 482 = .ok (.iload 5, 2) := by decide +kernel
theorem dr_Lw_law_484 : decode bc_Lw_law 484 = .ok (.ifCond .ne 22, 3) := by decide +kernel
theorem dr_Lw_law_487 : decode bc_Lw_law 487 = .ok (.aload_n 3, 1) := by decide +kernel
theorem dr_Lw_law_488 : decode bc_Lw_law 488 = .ok (.iconst 0, 1) := by decide +kernel
theorem dr_Lw_law_489 : decode bc_Lw_law 489 = .ok (.laload, 1) := by decide +kernel
theorem dr_Lw_law_490 : decode bc_Lw_law 490 = .ok (.iload 6, 2) := by decide +kernel
theorem dr_Lw_law_492 : decode bc_Lw_law 492 = .ok (.ifCond .eq 7, 3) := by decide +kernel
theorem dr_Lw_law_495 : decode bc_Lw_law 495 = .ok (.lconst 1, 1) := by decide +kernel
theorem dr_Lw_law_496 : decode bc_Lw_law 496 = .ok (.goto 4, 3) := by decide +kernel
theorem dr_Lw_law_499 : decode bc_Lw_law 499 = .ok (.lconst 0, 1) := by decide +kernel
theorem dr_Lw_law_500 : decode bc_Lw_law 500 = .ok (.lcmp, 1) := by decide +kernel
theorem dr_Lw_law_501 : decode bc_Lw_law 501 = .ok (.ifCond .eq 5, 3) := by decide +kernel
theorem dr_Lw_law_504 : decode bc_Lw_law 504 = .ok (.iconst 0, 1) := by decide +kernel
theorem dr_Lw_law_505 : decode bc_Lw_law 505 = .ok (.ireturn, 1) := by decide +kernel
theorem dr_Lw_law_506 : decode bc_Lw_law 506 = .ok (.goto 617, 3) := by decide +kernel
theorem dr_Lw_law_509 : decode bc_Lw_law 509 = .ok (.aload_n 1, 1) := by decide +kernel
theorem dr_Lw_law_510 : decode bc_Lw_law 510 = .ok (.aload_n 0, 1) := by decide +kernel
theorem dr_Lw_law_511 : decode bc_Lw_law 511 = .ok (.iload 4, 2) := by decide +kernel
theorem dr_Lw_law_513 : decode bc_Lw_law 513 = .ok (.iconst 1, 1) := by decide +kernel
theorem dr_Lw_law_514 : decode bc_Lw_law 514 = .ok (.iadd, 1) := by decide +kernel
theorem dr_Lw_law_515 : decode bc_Lw_law 515 = .ok (.iaload, 1) := by decide +kernel
theorem dr_Lw_law_516 : decode bc_Lw_law 516 = .ok (.aload_n 0, 1) := by decide +kernel
theorem dr_Lw_law_517 : decode bc_Lw_law 517 = .ok (.iload 4, 2) := by decide +kernel
theorem dr_Lw_law_519 : decode bc_Lw_law 519 = .ok (.iconst 2, 1) := by decide +kernel
theorem dr_Lw_law_520 : decode bc_Lw_law 520 = .ok (.iadd, 1) := by decide +kernel
theorem dr_Lw_law_521 : decode bc_Lw_law 521 = .ok (.iaload, 1) := by decide +kernel
theorem dr_Lw_law_522 : decode bc_Lw_law 522 = .ok (.aload_n 3, 1) := by decide +kernel
theorem dr_Lw_law_523 : decode bc_Lw_law 523 = .ok (.invokestatic 81, 3) := by decide +kernel
theorem dr_Lw_law_526 : decode bc_Lw_law 526 = .ok (.istore 5, 2) := by decide +kernel
theorem dr_Lw_law_528 : decode bc_Lw_law 528 = .ok (.aload_n 2, 1) := by decide +kernel
theorem dr_Lw_law_529 : decode bc_Lw_law 529 = .ok (.aload_n 0, 1) := by decide +kernel
theorem dr_Lw_law_530 : decode bc_Lw_law 530 = .ok (.iload 4, 2) := by decide +kernel
theorem dr_Lw_law_532 : decode bc_Lw_law 532 = .ok (.iconst 1, 1) := by decide +kernel
theorem dr_Lw_law_533 : decode bc_Lw_law 533 = .ok (.iadd, 1) := by decide +kernel
theorem dr_Lw_law_534 : decode bc_Lw_law 534 = .ok (.iaload, 1) := by decide +kernel
theorem dr_Lw_law_535 : decode bc_Lw_law 535 = .ok (.aload_n 0, 1) := by decide +kernel
theorem dr_Lw_law_536 : decode bc_Lw_law 536 = .ok (.iload 4, 2) := by decide +kernel
theorem dr_Lw_law_538 : decode bc_Lw_law 538 = .ok (.iconst 2, 1) := by decide +kernel
theorem dr_Lw_law_539 : decode bc_Lw_law 539 = .ok (.iadd, 1) := by decide +kernel
theorem dr_Lw_law_540 : decode bc_Lw_law 540 = .ok (.iaload, 1) := by decide +kernel
theorem dr_Lw_law_541 : decode bc_Lw_law 541 = .ok (.invokevirtual 84, 3) := by decide +kernel
theorem dr_Lw_law_544 : decode bc_Lw_law 544 = .ok (.istore 6, 2) := by decide +kernel
theorem dr_Lw_law_546 : decode bc_Lw_law 546 = .ok (.aload_n 2, 1) := by decide +kernel
theorem dr_Lw_law_547 : decode bc_Lw_law 547 = .ok (.invokevirtual 70, 3) := by decide +kernel
theorem dr_Lw_law_550 : decode bc_Lw_law 550 = .ok (.iload 5, 2) := by decide +kernel
theorem dr_Lw_law_552 : decode bc_Lw_law 552 = .ok (.if_icmp .eq 5, 3) := by decide +kernel
theorem dr_Lw_law_555 : decode bc_Lw_law 555 = .ok (.iconst 0, 1) := by decide +kernel
theorem dr_Lw_law_556 : decode bc_Lw_law 556 = .ok (.ireturn, 1) := by decide +kernel
theorem dr_Lw_law_557 : decode bc_Lw_law 557 = .ok (.iload 5, 2) := by decide +kernel
theorem dr_Lw_law_559 : decode bc_Lw_law 559 = .ok (.ifCond .ne 22, 3) := by decide +kernel
theorem dr_Lw_law_562 : decode bc_Lw_law 562 = .ok (.aload_n 3, 1) := by decide +kernel
theorem dr_Lw_law_563 : decode bc_Lw_law 563 = .ok (.iconst 0, 1) := by decide +kernel
theorem dr_Lw_law_564 : decode bc_Lw_law 564 = .ok (.laload, 1) := by decide +kernel
theorem dr_Lw_law_565 : decode bc_Lw_law 565 = .ok (.iload 6, 2) := by decide +kernel
theorem dr_Lw_law_567 : decode bc_Lw_law 567 = .ok (.ifCond .eq 7, 3) := by decide +kernel
theorem dr_Lw_law_570 : decode bc_Lw_law 570 = .ok (.lconst 1, 1) := by decide +kernel
theorem dr_Lw_law_571 : decode bc_Lw_law 571 = .ok (.goto 4, 3) := by decide +kernel
theorem dr_Lw_law_574 : decode bc_Lw_law 574 = .ok (.lconst 0, 1) := by decide +kernel
theorem dr_Lw_law_575 : decode bc_Lw_law 575 = .ok (.lcmp, 1) := by decide +kernel
theorem dr_Lw_law_576 : decode bc_Lw_law 576 = .ok (.ifCond .eq 5, 3) := by decide +kernel
theorem dr_Lw_law_579 : decode bc_Lw_law 579 = .ok (.iconst 0, 1) := by decide +kernel
theorem dr_Lw_law_580 : decode bc_Lw_law 580 = .ok (.ireturn, 1) := by decide +kernel
theorem dr_Lw_law_581 : decode bc_Lw_law 581 = .ok (.goto 542, 3) := by decide +kernel
theorem dr_Lw_law_584 : decode bc_Lw_law 584 = .ok (.aload_n 1, 1) := by decide +kernel
theorem dr_Lw_law_585 : decode bc_Lw_law 585 = .ok (.aload_n 0, 1) := by decide +kernel
theorem dr_Lw_law_586 : decode bc_Lw_law 586 = .ok (.iload 4, 2) := by decide +kernel
theorem dr_Lw_law_588 : decode bc_Lw_law 588 = .ok (.iconst 1, 1) := by decide +kernel
theorem dr_Lw_law_589 : decode bc_Lw_law 589 = .ok (.iadd, 1) := by decide +kernel
theorem dr_Lw_law_590 : decode bc_Lw_law 590 = .ok (.iaload, 1) := by decide +kernel
theorem dr_Lw_law_591 : decode bc_Lw_law 591 = .ok (.aload_n 0, 1) := by decide +kernel
theorem dr_Lw_law_592 : decode bc_Lw_law 592 = .ok (.iload 4, 2) := by decide +kernel
theorem dr_Lw_law_594 : decode bc_Lw_law 594 = .ok (.iconst 2, 1) := by decide +kernel
theorem dr_Lw_law_595 : decode bc_Lw_law 595 = .ok (.iadd, 1) := by decide +kernel
theorem dr_Lw_law_596 : decode bc_Lw_law 596 = .ok (.iaload, 1) := by decide +kernel
theorem dr_Lw_law_597 : decode bc_Lw_law 597 = .ok (.aload_n 3, 1) := by decide +kernel
theorem dr_Lw_law_598 : decode bc_Lw_law 598 = .ok (.invokestatic 85, 3) := by decide +kernel
theorem dr_Lw_law_601 : decode bc_Lw_law 601 = .ok (.istore 5, 2) := by decide +kernel
theorem dr_Lw_law_603 : decode bc_Lw_law 603 = .ok (.aload_n 2, 1) := by decide +kernel
theorem dr_Lw_law_604 : decode bc_Lw_law 604 = .ok (.aload_n 0, 1) := by decide +kernel
theorem dr_Lw_law_605 : decode bc_Lw_law 605 = .ok (.iload 4, 2) := by decide +kernel
theorem dr_Lw_law_607 : decode bc_Lw_law 607 = .ok (.iconst 1, 1) := by decide +kernel
theorem dr_Lw_law_608 : decode bc_Lw_law 608 = .ok (.iadd, 1) := by decide +kernel
theorem dr_Lw_law_609 : decode bc_Lw_law 609 = .ok (.iaload, 1) := by decide +kernel
theorem dr_Lw_law_610 : decode bc_Lw_law 610 = .ok (.aload_n 0, 1) := by decide +kernel
theorem dr_Lw_law_611 : decode bc_Lw_law 611 = .ok (.iload 4, 2) := by decide +kernel
theorem dr_Lw_law_613 : decode bc_Lw_law 613 = .ok (.iconst 2, 1) := by decide +kernel
theorem dr_Lw_law_614 : decode bc_Lw_law 614 = .ok (.iadd, 1) := by decide +kernel
theorem dr_Lw_law_615 : decode bc_Lw_law 615 = .ok (.iaload, 1) := by decide +kernel
theorem dr_Lw_law_616 : decode bc_Lw_law 616 = .ok (.invokevirtual 87, 3) := by decide +kernel
theorem dr_Lw_law_619 : decode bc_Lw_law 619 = .ok (.istore 6, 2) := by decide +kernel
theorem dr_Lw_law_621 : decode bc_Lw_law 621 = .ok (.aload_n 2, 1) := by decide +kernel
theorem dr_Lw_law_622 : decode bc_Lw_law 622 = .ok (.invokevirtual 70, 3) := by decide +kernel
theorem dr_Lw_law_625 : decode bc_Lw_law 625 = .ok (.iload 5, 2) := by decide +kernel
theorem dr_Lw_law_627 : decode bc_Lw_law 627 = .ok (.if_icmp .eq 5, 3) := by decide +kernel
theorem dr_Lw_law_630 : decode bc_Lw_law 630 = .ok (.iconst 0, 1) := by decide +kernel
theorem dr_Lw_law_631 : decode bc_Lw_law 631 = .ok (.ireturn, 1) := by decide +kernel
theorem dr_Lw_law_632 : decode bc_Lw_law 632 = .ok (.iload 5, 2) := by decide +kernel
theorem dr_Lw_law_634 : decode bc_Lw_law 634 = .ok (.ifCond .ne 22, 3) := by decide +kernel
theorem dr_Lw_law_637 : decode bc_Lw_law 637 = .ok (.aload_n 3, 1) := by decide +kernel
theorem dr_Lw_law_638 : decode bc_Lw_law 638 = .ok (.iconst 0, 1) := by decide +kernel
theorem dr_Lw_law_639 : decode bc_Lw_law 639 = .ok (.laload, 1) := by decide +kernel
theorem dr_Lw_law_640 : decode bc_Lw_law 640 = .ok (.iload 6, 2) := by decide +kernel
theorem dr_Lw_law_642 : decode bc_Lw_law 642 = .ok (.ifCond .eq 7, 3) := by decide +kernel
theorem dr_Lw_law_645 : decode bc_Lw_law 645 = .ok (.lconst 1, 1) := by decide +kernel
theorem dr_Lw_law_646 : decode bc_Lw_law 646 = .ok (.goto 4, 3) := by decide +kernel
theorem dr_Lw_law_649 : decode bc_Lw_law 649 = .ok (.lconst 0, 1) := by decide +kernel
theorem dr_Lw_law_650 : decode bc_Lw_law 650 = .ok (.lcmp, 1) := by decide +kernel
theorem dr_Lw_law_651 : decode bc_Lw_law 651 = .ok (.ifCond .eq 5, 3) := by decide +kernel
theorem dr_Lw_law_654 : decode bc_Lw_law 654 = .ok (.iconst 0, 1) := by decide +kernel
theorem dr_Lw_law_655 : decode bc_Lw_law 655 = .ok (.ireturn, 1) := by decide +kernel
theorem dr_Lw_law_656 : decode bc_Lw_law 656 = .ok (.goto 467, 3) := by decide +kernel
theorem dr_Lw_law_659 : decode bc_Lw_law 659 = .ok (.aload_n 1, 1) := by decide +kernel
theorem dr_Lw_law_660 : decode bc_Lw_law 660 = .ok (.aload_n 0, 1) := by decide +kernel
theorem dr_Lw_law_661 : decode bc_Lw_law 661 = .ok (.iload 4, 2) := by decide +kernel
theorem dr_Lw_law_663 : decode bc_Lw_law 663 = .ok (.iconst 1, 1) := by decide +kernel
theorem dr_Lw_law_664 : decode bc_Lw_law 664 = .ok (.iadd, 1) := by decide +kernel
theorem dr_Lw_law_665 : decode bc_Lw_law 665 = .ok (.iaload, 1) := by decide +kernel
theorem dr_Lw_law_666 : decode bc_Lw_law 666 = .ok (.aload_n 0, 1) := by decide +kernel
theorem dr_Lw_law_667 : decode bc_Lw_law 667 = .ok (.iload 4, 2) := by decide +kernel
theorem dr_Lw_law_669 : decode bc_Lw_law 669 = .ok (.iconst 2, 1) := by decide +kernel
theorem dr_Lw_law_670 : decode bc_Lw_law 670 = .ok (.iadd, 1) := by decide +kernel
theorem dr_Lw_law_671 : decode bc_Lw_law 671 = .ok (.iaload, 1) := by decide +kernel
theorem dr_Lw_law_672 : decode bc_Lw_law 672 = .ok (.aload_n 3, 1) := by decide +kernel
theorem dr_Lw_law_673 : decode bc_Lw_law 673 = .ok (.invokestatic 88, 3) := by decide +kernel
theorem dr_Lw_law_676 : decode bc_Lw_law 676 = .ok (.istore 5, 2) := by decide +kernel
theorem dr_Lw_law_678 : decode bc_Lw_law 678 = .ok (.aload_n 2, 1) := by decide +kernel
theorem dr_Lw_law_679 : decode bc_Lw_law 679 = .ok (.aload_n 0, 1) := by decide +kernel
theorem dr_Lw_law_680 : decode bc_Lw_law 680 = .ok (.iload 4, 2) := by decide +kernel
theorem dr_Lw_law_682 : decode bc_Lw_law 682 = .ok (.iconst 1, 1) := by decide +kernel
theorem dr_Lw_law_683 : decode bc_Lw_law 683 = .ok (.iadd, 1) := by decide +kernel
theorem dr_Lw_law_684 : decode bc_Lw_law 684 = .ok (.iaload, 1) := by decide +kernel
theorem dr_Lw_law_685 : decode bc_Lw_law 685 = .ok (.aload_n 0, 1) := by decide +kernel
theorem dr_Lw_law_686 : decode bc_Lw_law 686 = .ok (.iload 4, 2) := by decide +kernel
theorem dr_Lw_law_688 : decode bc_Lw_law 688 = .ok (.iconst 2, 1) := by decide +kernel
theorem dr_Lw_law_689 : decode bc_Lw_law 689 = .ok (.iadd, 1) := by decide +kernel
theorem dr_Lw_law_690 : decode bc_Lw_law 690 = .ok (.iaload, 1) := by decide +kernel
theorem dr_Lw_law_691 : decode bc_Lw_law 691 = .ok (.invokevirtual 90, 3) := by decide +kernel
theorem dr_Lw_law_694 : decode bc_Lw_law 694 = .ok (.istore 6, 2) := by decide +kernel
theorem dr_Lw_law_696 : decode bc_Lw_law 696 = .ok (.aload_n 2, 1) := by decide +kernel
theorem dr_Lw_law_697 : decode bc_Lw_law 697 = .ok (.invokevirtual 70, 3) := by decide +kernel
theorem dr_Lw_law_700 : decode bc_Lw_law 700 = .ok (.iload 5, 2) := by decide +kernel
theorem dr_Lw_law_702 : decode bc_Lw_law 702 = .ok (.if_icmp .eq 5, 3) := by decide +kernel
theorem dr_Lw_law_705 : decode bc_Lw_law 705 = .ok (.iconst 0, 1) := by decide +kernel
theorem dr_Lw_law_706 : decode bc_Lw_law 706 = .ok (.ireturn, 1) := by decide +kernel
theorem dr_Lw_law_707 : decode bc_Lw_law 707 = .ok (.iload 5, 2) := by decide +kernel
theorem dr_Lw_law_709 : decode bc_Lw_law 709 = .ok (.ifCond .ne 22, 3) := by decide +kernel
theorem dr_Lw_law_712 : decode bc_Lw_law 712 = .ok (.aload_n 3, 1) := by decide +kernel
theorem dr_Lw_law_713 : decode bc_Lw_law 713 = .ok (.iconst 0, 1) := by decide +kernel
theorem dr_Lw_law_714 : decode bc_Lw_law 714 = .ok (.laload, 1) := by decide +kernel
theorem dr_Lw_law_715 : decode bc_Lw_law 715 = .ok (.iload 6, 2) := by decide +kernel
theorem dr_Lw_law_717 : decode bc_Lw_law 717 = .ok (.ifCond .eq 7, 3) := by decide +kernel
theorem dr_Lw_law_720 : decode bc_Lw_law 720 = .ok (.lconst 1, 1) := by decide +kernel
theorem dr_Lw_law_721 : decode bc_Lw_law 721 = .ok (.goto 4, 3) := by decide +kernel
theorem dr_Lw_law_724 : decode bc_Lw_law 724 = .ok (.lconst 0, 1) := by decide +kernel
theorem dr_Lw_law_725 : decode bc_Lw_law 725 = .ok (.lcmp, 1) := by decide +kernel
theorem dr_Lw_law_726 : decode bc_Lw_law 726 = .ok (.ifCond .eq 5, 3) := by decide +kernel
theorem dr_Lw_law_729 : decode bc_Lw_law 729 = .ok (.iconst 0, 1) := by decide +kernel
theorem dr_Lw_law_730 : decode bc_Lw_law 730 = .ok (.ireturn, 1) := by decide +kernel
theorem dr_Lw_law_731 : decode bc_Lw_law 731 = .ok (.goto 392, 3) := by decide +kernel
theorem dr_Lw_law_734 : decode bc_Lw_law 734 = .ok (.aload_n 1, 1) := by decide +kernel
theorem dr_Lw_law_735 : decode bc_Lw_law 735 = .ok (.invokevirtual 91, 3) := by decide +kernel
theorem dr_Lw_law_738 : decode bc_Lw_law 738 = .ok (.aload_n 2, 1) := by decide +kernel
theorem dr_Lw_law_739 : decode bc_Lw_law 739 = .ok (.invokevirtual 94, 3) := by decide +kernel
theorem dr_Lw_law_742 : decode bc_Lw_law 742 = .ok (.if_icmp .eq 381, 3) := by decide +kernel
theorem dr_Lw_law_745 : decode bc_Lw_law 745 = .ok (.iconst 0, 1) := by decide +kernel
theorem dr_Lw_law_746 : decode bc_Lw_law 746 = .ok (.ireturn, 1) := by decide +kernel
theorem dr_Lw_law_747 : decode bc_Lw_law 747 = .ok (.aload_n 1, 1) := by decide +kernel
theorem dr_Lw_law_748 : decode bc_Lw_law 748 = .ok (.aload_n 0, 1) := by decide +kernel
theorem dr_Lw_law_749 : decode bc_Lw_law 749 = .ok (.iload 4, 2) := by decide +kernel
theorem dr_Lw_law_751 : decode bc_Lw_law 751 = .ok (.iconst 1, 1) := by decide +kernel
theorem dr_Lw_law_752 : decode bc_Lw_law 752 = .ok (.iadd, 1) := by decide +kernel
theorem dr_Lw_law_753 : decode bc_Lw_law 753 = .ok (.iaload, 1) := by decide +kernel
theorem dr_Lw_law_754 : decode bc_Lw_law 754 = .ok (.aload_n 3, 1) := by decide +kernel
theorem dr_Lw_law_755 : decode bc_Lw_law 755 = .ok (.invokestatic 95, 3) := by decide +kernel
theorem dr_Lw_law_758 : decode bc_Lw_law 758 = .ok (.istore 5, 2) := by decide +kernel
theorem dr_Lw_law_760 : decode bc_Lw_law 760 = .ok (.aload_n 2, 1) := by decide +kernel
theorem dr_Lw_law_761 : decode bc_Lw_law 761 = .ok (.aload_n 0, 1) := by decide +kernel
theorem dr_Lw_law_762 : decode bc_Lw_law 762 = .ok (.iload 4, 2) := by decide +kernel
theorem dr_Lw_law_764 : decode bc_Lw_law 764 = .ok (.iconst 1, 1) := by decide +kernel
theorem dr_Lw_law_765 : decode bc_Lw_law 765 = .ok (.iadd, 1) := by decide +kernel
theorem dr_Lw_law_766 : decode bc_Lw_law 766 = .ok (.iaload, 1) := by decide +kernel
theorem dr_Lw_law_767 : decode bc_Lw_law 767 = .ok (.invokevirtual 97, 3) := by decide +kernel
theorem dr_Lw_law_770 : decode bc_Lw_law 770 = .ok (.istore 6, 2) := by decide +kernel
theorem dr_Lw_law_772 : decode bc_Lw_law 772 = .ok (.aload_n 2, 1) := by decide +kernel
theorem dr_Lw_law_773 : decode bc_Lw_law 773 = .ok (.invokevirtual 70, 3) := by decide +kernel
theorem dr_Lw_law_776 : decode bc_Lw_law 776 = .ok (.iload 5, 2) := by decide +kernel
theorem dr_Lw_law_778 : decode bc_Lw_law 778 = .ok (.if_icmp .eq 5, 3) := by decide +kernel
theorem dr_Lw_law_781 : decode bc_Lw_law 781 = .ok (.iconst 0, 1) := by decide +kernel
theorem dr_Lw_law_782 : decode bc_Lw_law 782 = .ok (.ireturn, 1) := by decide +kernel
theorem dr_Lw_law_783 : decode bc_Lw_law 783 = .ok (.iload 5, 2) := by decide +kernel
theorem dr_Lw_law_785 : decode bc_Lw_law 785 = .ok (.ifCond .ne 15, 3) := by decide +kernel
theorem dr_Lw_law_788 : decode bc_Lw_law 788 = .ok (.aload_n 3, 1) := by decide +kernel
theorem dr_Lw_law_789 : decode bc_Lw_law 789 = .ok (.iconst 0, 1) := by decide +kernel
theorem dr_Lw_law_790 : decode bc_Lw_law 790 = .ok (.laload, 1) := by decide +kernel
theorem dr_Lw_law_791 : decode bc_Lw_law 791 = .ok (.iload 6, 2) := by decide +kernel
theorem dr_Lw_law_793 : decode bc_Lw_law 793 = .ok (.i2l, 1) := by decide +kernel
theorem dr_Lw_law_794 : decode bc_Lw_law 794 = .ok (.lcmp, 1) := by decide +kernel
theorem dr_Lw_law_795 : decode bc_Lw_law 795 = .ok (.ifCond .eq 5, 3) := by decide +kernel
theorem dr_Lw_law_798 : decode bc_Lw_law 798 = .ok (.iconst 0, 1) := by decide +kernel
theorem dr_Lw_law_799 : decode bc_Lw_law 799 = .ok (.ireturn, 1) := by decide +kernel
theorem dr_Lw_law_800 : decode bc_Lw_law 800 = .ok (.goto 323, 3) := by decide +kernel
theorem dr_Lw_law_803 : decode bc_Lw_law 803 = .ok (.aload_n 1, 1) := by decide +kernel
theorem dr_Lw_law_804 : decode bc_Lw_law 804 = .ok (.invokevirtual 98, 3) := by decide +kernel
theorem dr_Lw_law_807 : decode bc_Lw_law 807 = .ok (.aload_n 2, 1) := by decide +kernel
theorem dr_Lw_law_808 : decode bc_Lw_law 808 = .ok (.invokevirtual 102, 3) := by decide +kernel
theorem dr_Lw_law_811 : decode bc_Lw_law 811 = .ok (.lcmp, 1) := by decide +kernel
theorem dr_Lw_law_812 : decode bc_Lw_law 812 = .ok (.ifCond .eq 311, 3) := by decide +kernel
theorem dr_Lw_law_815 : decode bc_Lw_law 815 = .ok (.iconst 0, 1) := by decide +kernel
theorem dr_Lw_law_816 : decode bc_Lw_law 816 = .ok (.ireturn, 1) := by decide +kernel
theorem dr_Lw_law_817 : decode bc_Lw_law 817 = .ok (.aload_n 1, 1) := by decide +kernel
theorem dr_Lw_law_818 : decode bc_Lw_law 818 = .ok (.invokevirtual 103, 3) := by decide +kernel
theorem dr_Lw_law_821 : decode bc_Lw_law 821 = .ok (.aload_n 2, 1) := by decide +kernel
theorem dr_Lw_law_822 : decode bc_Lw_law 822 = .ok (.invokevirtual 106, 3) := by decide +kernel
theorem dr_Lw_law_825 : decode bc_Lw_law 825 = .ok (.lcmp, 1) := by decide +kernel
theorem dr_Lw_law_826 : decode bc_Lw_law 826 = .ok (.ifCond .eq 297, 3) := by decide +kernel
theorem dr_Lw_law_829 : decode bc_Lw_law 829 = .ok (.iconst 0, 1) := by decide +kernel
theorem dr_Lw_law_830 : decode bc_Lw_law 830 = .ok (.ireturn, 1) := by decide +kernel
theorem dr_Lw_law_831 : decode bc_Lw_law 831 = .ok (.aload_n 1, 1) := by decide +kernel
theorem dr_Lw_law_832 : decode bc_Lw_law 832 = .ok (.aload_n 0, 1) := by decide +kernel
theorem dr_Lw_law_833 : decode bc_Lw_law 833 = .ok (.iload 4, 2) := by decide +kernel
theorem dr_Lw_law_835 : decode bc_Lw_law 835 = .ok (.iconst 1, 1) := by decide +kernel
theorem dr_Lw_law_836 : decode bc_Lw_law 836 = .ok (.iadd, 1) := by decide +kernel
theorem dr_Lw_law_837 : decode bc_Lw_law 837 = .ok (.iaload, 1) := by decide +kernel
theorem dr_Lw_law_838 : decode bc_Lw_law 838 = .ok (.aload_n 0, 1) := by decide +kernel
theorem dr_Lw_law_839 : decode bc_Lw_law 839 = .ok (.iload 4, 2) := by decide +kernel
theorem dr_Lw_law_841 : decode bc_Lw_law 841 = .ok (.iconst 2, 1) := by decide +kernel
theorem dr_Lw_law_842 : decode bc_Lw_law 842 = .ok (.iadd, 1) := by decide +kernel
theorem dr_Lw_law_843 : decode bc_Lw_law 843 = .ok (.iaload, 1) := by decide +kernel
theorem dr_Lw_law_844 : decode bc_Lw_law 844 = .ok (.aload_n 3, 1) := by decide +kernel
theorem dr_Lw_law_845 : decode bc_Lw_law 845 = .ok (.invokestatic 107, 3) := by decide +kernel
theorem dr_Lw_law_848 : decode bc_Lw_law 848 = .ok (.istore 5, 2) := by decide +kernel
theorem dr_Lw_law_850 : decode bc_Lw_law 850 = .ok (.aload_n 2, 1) := by decide +kernel
theorem dr_Lw_law_851 : decode bc_Lw_law 851 = .ok (.aload_n 0, 1) := by decide +kernel
theorem dr_Lw_law_852 : decode bc_Lw_law 852 = .ok (.iload 4, 2) := by decide +kernel
theorem dr_Lw_law_854 : decode bc_Lw_law 854 = .ok (.iconst 1, 1) := by decide +kernel
theorem dr_Lw_law_855 : decode bc_Lw_law 855 = .ok (.iadd, 1) := by decide +kernel
theorem dr_Lw_law_856 : decode bc_Lw_law 856 = .ok (.iaload, 1) := by decide +kernel
theorem dr_Lw_law_857 : decode bc_Lw_law 857 = .ok (.aload_n 0, 1) := by decide +kernel
theorem dr_Lw_law_858 : decode bc_Lw_law 858 = .ok (.iload 4, 2) := by decide +kernel
theorem dr_Lw_law_860 : decode bc_Lw_law 860 = .ok (.iconst 2, 1) := by decide +kernel
theorem dr_Lw_law_861 : decode bc_Lw_law 861 = .ok (.iadd, 1) := by decide +kernel
theorem dr_Lw_law_862 : decode bc_Lw_law 862 = .ok (.iaload, 1) := by decide +kernel
theorem dr_Lw_law_863 : decode bc_Lw_law 863 = .ok (.invokevirtual 109, 3) := by decide +kernel
theorem dr_Lw_law_866 : decode bc_Lw_law 866 = .ok (.lstore 6, 2) := by decide +kernel
theorem dr_Lw_law_868 : decode bc_Lw_law 868 = .ok (.aload_n 2, 1) := by decide +kernel
theorem dr_Lw_law_869 : decode bc_Lw_law 869 = .ok (.invokevirtual 70, 3) := by decide +kernel
theorem dr_Lw_law_872 : decode bc_Lw_law 872 = .ok (.iload 5, 2) := by decide +kernel
theorem dr_Lw_law_874 : decode bc_Lw_law 874 = .ok (.if_icmp .eq 5, 3) := by decide +kernel
theorem dr_Lw_law_877 : decode bc_Lw_law 877 = .ok (.iconst 0, 1) := by decide +kernel
theorem dr_Lw_law_878 : decode bc_Lw_law 878 = .ok (.ireturn, 1) := by decide +kernel
theorem dr_Lw_law_879 : decode bc_Lw_law 879 = .ok (.iload 5, 2) := by decide +kernel
theorem dr_Lw_law_881 : decode bc_Lw_law 881 = .ok (.ifCond .ne 14, 3) := by decide +kernel
theorem dr_Lw_law_884 : decode bc_Lw_law 884 = .ok (.aload_n 3, 1) := by decide +kernel
theorem dr_Lw_law_885 : decode bc_Lw_law 885 = .ok (.iconst 0, 1) := by decide +kernel
theorem dr_Lw_law_886 : decode bc_Lw_law 886 = .ok (.laload, 1) := by decide +kernel
theorem dr_Lw_law_887 : decode bc_Lw_law 887 = .ok (.lload 6, 2) := by decide +kernel
theorem dr_Lw_law_889 : decode bc_Lw_law 889 = .ok (.lcmp, 1) := by decide +kernel
theorem dr_Lw_law_890 : decode bc_Lw_law 890 = .ok (.ifCond .eq 5, 3) := by decide +kernel
theorem dr_Lw_law_893 : decode bc_Lw_law 893 = .ok (.iconst 0, 1) := by decide +kernel
theorem dr_Lw_law_894 : decode bc_Lw_law 894 = .ok (.ireturn, 1) := by decide +kernel
theorem dr_Lw_law_895 : decode bc_Lw_law 895 = .ok (.goto 228, 3) := by decide +kernel
theorem dr_Lw_law_898 : decode bc_Lw_law 898 = .ok (.aload_n 1, 1) := by decide +kernel
theorem dr_Lw_law_899 : decode bc_Lw_law 899 = .ok (.aload_n 0, 1) := by decide +kernel
theorem dr_Lw_law_900 : decode bc_Lw_law 900 = .ok (.iload 4, 2) := by decide +kernel
theorem dr_Lw_law_902 : decode bc_Lw_law 902 = .ok (.iconst 1, 1) := by decide +kernel
theorem dr_Lw_law_903 : decode bc_Lw_law 903 = .ok (.iadd, 1) := by decide +kernel
theorem dr_Lw_law_904 : decode bc_Lw_law 904 = .ok (.iaload, 1) := by decide +kernel
theorem dr_Lw_law_905 : decode bc_Lw_law 905 = .ok (.aload_n 0, 1) := by decide +kernel
theorem dr_Lw_law_906 : decode bc_Lw_law 906 = .ok (.iload 4, 2) := by decide +kernel
theorem dr_Lw_law_908 : decode bc_Lw_law 908 = .ok (.iconst 2, 1) := by decide +kernel
theorem dr_Lw_law_909 : decode bc_Lw_law 909 = .ok (.iadd, 1) := by decide +kernel
theorem dr_Lw_law_910 : decode bc_Lw_law 910 = .ok (.iaload, 1) := by decide +kernel
theorem dr_Lw_law_911 : decode bc_Lw_law 911 = .ok (.aload_n 3, 1) := by decide +kernel
theorem dr_Lw_law_912 : decode bc_Lw_law 912 = .ok (.invokestatic 110, 3) := by decide +kernel
theorem dr_Lw_law_915 : decode bc_Lw_law 915 = .ok (.istore 5, 2) := by decide +kernel
theorem dr_Lw_law_917 : decode bc_Lw_law 917 = .ok (.aload_n 2, 1) := by decide +kernel
theorem dr_Lw_law_918 : decode bc_Lw_law 918 = .ok (.aload_n 0, 1) := by decide +kernel
theorem dr_Lw_law_919 : decode bc_Lw_law 919 = .ok (.iload 4, 2) := by decide +kernel
theorem dr_Lw_law_921 : decode bc_Lw_law 921 = .ok (.iconst 1, 1) := by decide +kernel
theorem dr_Lw_law_922 : decode bc_Lw_law 922 = .ok (.iadd, 1) := by decide +kernel
theorem dr_Lw_law_923 : decode bc_Lw_law 923 = .ok (.iaload, 1) := by decide +kernel
theorem dr_Lw_law_924 : decode bc_Lw_law 924 = .ok (.aload_n 0, 1) := by decide +kernel
theorem dr_Lw_law_925 : decode bc_Lw_law 925 = .ok (.iload 4, 2) := by decide +kernel
theorem dr_Lw_law_927 : decode bc_Lw_law 927 = .ok (.iconst 2, 1) := by decide +kernel
theorem dr_Lw_law_928 : decode bc_Lw_law 928 = .ok (.iadd, 1) := by decide +kernel
theorem dr_Lw_law_929 : decode bc_Lw_law 929 = .ok (.iaload, 1) := by decide +kernel
theorem dr_Lw_law_930 : decode bc_Lw_law 930 = .ok (.invokevirtual 112, 3) := by decide +kernel
theorem dr_Lw_law_933 : decode bc_Lw_law 933 = .ok (.istore 6, 2) := by decide +kernel
theorem dr_Lw_law_935 : decode bc_Lw_law 935 = .ok (.aload_n 2, 1) := by decide +kernel
theorem dr_Lw_law_936 : decode bc_Lw_law 936 = .ok (.invokevirtual 70, 3) := by decide +kernel
theorem dr_Lw_law_939 : decode bc_Lw_law 939 = .ok (.iload 5, 2) := by decide +kernel
theorem dr_Lw_law_941 : decode bc_Lw_law 941 = .ok (.if_icmp .eq 5, 3) := by decide +kernel
theorem dr_Lw_law_944 : decode bc_Lw_law 944 = .ok (.iconst 0, 1) := by decide +kernel
theorem dr_Lw_law_945 : decode bc_Lw_law 945 = .ok (.ireturn, 1) := by decide +kernel
theorem dr_Lw_law_946 : decode bc_Lw_law 946 = .ok (.iload 5, 2) := by decide +kernel
theorem dr_Lw_law_948 : decode bc_Lw_law 948 = .ok (.ifCond .ne 15, 3) := by decide +kernel
theorem dr_Lw_law_951 : decode bc_Lw_law 951 = .ok (.aload_n 3, 1) := by decide +kernel
theorem dr_Lw_law_952 : decode bc_Lw_law 952 = .ok (.iconst 0, 1) := by decide +kernel
theorem dr_Lw_law_953 : decode bc_Lw_law 953 = .ok (.laload, 1) := by decide +kernel
theorem dr_Lw_law_954 : decode bc_Lw_law 954 = .ok (.iload 6, 2) := by decide +kernel
theorem dr_Lw_law_956 : decode bc_Lw_law 956 = .ok (.i2l, 1) := by decide +kernel
theorem dr_Lw_law_957 : decode bc_Lw_law 957 = .ok (.lcmp, 1) := by decide +kernel
theorem dr_Lw_law_958 : decode bc_Lw_law 958 = .ok (.ifCond .eq 5, 3) := by decide +kernel
theorem dr_Lw_law_961 : decode bc_Lw_law 961 = .ok (.iconst 0, 1) := by decide +kernel
theorem dr_Lw_law_962 : decode bc_Lw_law 962 = .ok (.ireturn, 1) := by decide +kernel
theorem dr_Lw_law_963 : decode bc_Lw_law 963 = .ok (.goto 160, 3) := by decide +kernel
theorem dr_Lw_law_966 : decode bc_Lw_law 966 = .ok (.aload_n 1, 1) := by decide +kernel
theorem dr_Lw_law_967 : decode bc_Lw_law 967 = .ok (.aload_n 0, 1) := by decide +kernel
theorem dr_Lw_law_968 : decode bc_Lw_law 968 = .ok (.iload 4, 2) := by decide +kernel
theorem dr_Lw_law_970 : decode bc_Lw_law 970 = .ok (.iconst 1, 1) := by decide +kernel
theorem dr_Lw_law_971 : decode bc_Lw_law 971 = .ok (.iadd, 1) := by decide +kernel
theorem dr_Lw_law_972 : decode bc_Lw_law 972 = .ok (.iaload, 1) := by decide +kernel
theorem dr_Lw_law_973 : decode bc_Lw_law 973 = .ok (.aload_n 3, 1) := by decide +kernel
theorem dr_Lw_law_974 : decode bc_Lw_law 974 = .ok (.invokestatic 113, 3) := by decide +kernel
theorem dr_Lw_law_977 : decode bc_Lw_law 977 = .ok (.istore 5, 2) := by decide +kernel
theorem dr_Lw_law_979 : decode bc_Lw_law 979 = .ok (.aload_n 2, 1) := by decide +kernel
theorem dr_Lw_law_980 : decode bc_Lw_law 980 = .ok (.aload_n 0, 1) := by decide +kernel
theorem dr_Lw_law_981 : decode bc_Lw_law 981 = .ok (.iload 4, 2) := by decide +kernel
theorem dr_Lw_law_983 : decode bc_Lw_law 983 = .ok (.iconst 1, 1) := by decide +kernel
theorem dr_Lw_law_984 : decode bc_Lw_law 984 = .ok (.iadd, 1) := by decide +kernel
theorem dr_Lw_law_985 : decode bc_Lw_law 985 = .ok (.iaload, 1) := by decide +kernel
theorem dr_Lw_law_986 : decode bc_Lw_law 986 = .ok (.invokevirtual 115, 3) := by decide +kernel
theorem dr_Lw_law_989 : decode bc_Lw_law 989 = .ok (.istore 6, 2) := by decide +kernel
theorem dr_Lw_law_991 : decode bc_Lw_law 991 = .ok (.aload_n 2, 1) := by decide +kernel
theorem dr_Lw_law_992 : decode bc_Lw_law 992 = .ok (.invokevirtual 70, 3) := by decide +kernel
theorem dr_Lw_law_995 : decode bc_Lw_law 995 = .ok (.iload 5, 2) := by decide +kernel
theorem dr_Lw_law_997 : decode bc_Lw_law 997 = .ok (.if_icmp .eq 5, 3) := by decide +kernel
theorem dr_Lw_law_1000 : decode bc_Lw_law 1000 = .ok (.iconst 0, 1) := by decide +kernel
theorem dr_Lw_law_1001 : decode bc_Lw_law 1001 = .ok (.ireturn, 1) := by decide +kernel
theorem dr_Lw_law_1002 : decode bc_Lw_law 1002 = .ok (.iload 5, 2) := by decide +kernel
theorem dr_Lw_law_1004 : decode bc_Lw_law 1004 = .ok (.ifCond .ne 15, 3) := by decide +kernel
theorem dr_Lw_law_1007 : decode bc_Lw_law 1007 = .ok (.aload_n 3, 1) := by decide +kernel
theorem dr_Lw_law_1008 : decode bc_Lw_law 1008 = .ok (.iconst 0, 1) := by decide +kernel
theorem dr_Lw_law_1009 : decode bc_Lw_law 1009 = .ok (.laload, 1) := by decide +kernel
theorem dr_Lw_law_1010 : decode bc_Lw_law 1010 = .ok (.iload 6, 2) := by decide +kernel
theorem dr_Lw_law_1012 : decode bc_Lw_law 1012 = .ok (.i2l, 1) := by decide +kernel
theorem dr_Lw_law_1013 : decode bc_Lw_law 1013 = .ok (.lcmp, 1) := by decide +kernel
theorem dr_Lw_law_1014 : decode bc_Lw_law 1014 = .ok (.ifCond .eq 5, 3) := by decide +kernel
theorem dr_Lw_law_1017 : decode bc_Lw_law 1017 = .ok (.iconst 0, 1) := by decide +kernel
theorem dr_Lw_law_1018 : decode bc_Lw_law 1018 = .ok (.ireturn, 1) := by decide +kernel
theorem dr_Lw_law_1019 : decode bc_Lw_law 1019 = .ok (.goto 104, 3) := by decide +kernel
theorem dr_Lw_law_1022 : decode bc_Lw_law 1022 = .ok (.aload_n 1, 1) := by decide +kernel
theorem dr_Lw_law_1023 : decode bc_Lw_law 1023 = .ok (.aload_n 0, 1) := by decide +kernel
theorem dr_Lw_law_1024 : decode bc_Lw_law 1024 = .ok (.iload 4, 2) := by decide +kernel
theorem dr_Lw_law_1026 : decode bc_Lw_law 1026 = .ok (.iconst 1, 1) := by decide +kernel
theorem dr_Lw_law_1027 : decode bc_Lw_law 1027 = .ok (.iadd, 1) := by decide +kernel
theorem dr_Lw_law_1028 : decode bc_Lw_law 1028 = .ok (.iaload, 1) := by decide +kernel
theorem dr_Lw_law_1029 : decode bc_Lw_law 1029 = .ok (.aload_n 0, 1) := by decide +kernel
theorem dr_Lw_law_1030 : decode bc_Lw_law 1030 = .ok (.iload 4, 2) := by decide +kernel
theorem dr_Lw_law_1032 : decode bc_Lw_law 1032 = .ok (.iconst 2, 1) := by decide +kernel
theorem dr_Lw_law_1033 : decode bc_Lw_law 1033 = .ok (.iadd, 1) := by decide +kernel
theorem dr_Lw_law_1034 : decode bc_Lw_law 1034 = .ok (.iaload, 1) := by decide +kernel
theorem dr_Lw_law_1035 : decode bc_Lw_law 1035 = .ok (.aload_n 3, 1) := by decide +kernel
theorem dr_Lw_law_1036 : decode bc_Lw_law 1036 = .ok (.invokestatic 116, 3) := by decide +kernel
theorem dr_Lw_law_1039 : decode bc_Lw_law 1039 = .ok (.istore 5, 2) := by decide +kernel
theorem dr_Lw_law_1041 : decode bc_Lw_law 1041 = .ok (.aload_n 2, 1) := by decide +kernel
theorem dr_Lw_law_1042 : decode bc_Lw_law 1042 = .ok (.aload_n 0, 1) := by decide +kernel
theorem dr_Lw_law_1043 : decode bc_Lw_law 1043 = .ok (.iload 4, 2) := by decide +kernel
theorem dr_Lw_law_1045 : decode bc_Lw_law 1045 = .ok (.iconst 1, 1) := by decide +kernel
theorem dr_Lw_law_1046 : decode bc_Lw_law 1046 = .ok (.iadd, 1) := by decide +kernel
theorem dr_Lw_law_1047 : decode bc_Lw_law 1047 = .ok (.iaload, 1) := by decide +kernel
theorem dr_Lw_law_1048 : decode bc_Lw_law 1048 = .ok (.aload_n 0, 1) := by decide +kernel
theorem dr_Lw_law_1049 : decode bc_Lw_law 1049 = .ok (.iload 4, 2) := by decide +kernel
theorem dr_Lw_law_1051 : decode bc_Lw_law 1051 = .ok (.iconst 2, 1) := by decide +kernel
theorem dr_Lw_law_1052 : decode bc_Lw_law 1052 = .ok (.iadd, 1) := by decide +kernel
theorem dr_Lw_law_1053 : decode bc_Lw_law 1053 = .ok (.iaload, 1) := by decide +kernel
theorem dr_Lw_law_1054 : decode bc_Lw_law 1054 = .ok (.invokevirtual 118, 3) := by decide +kernel
theorem dr_Lw_law_1057 : decode bc_Lw_law 1057 = .ok (.istore 6, 2) := by decide +kernel
theorem dr_Lw_law_1059 : decode bc_Lw_law 1059 = .ok (.aload_n 2, 1) := by decide +kernel
theorem dr_Lw_law_1060 : decode bc_Lw_law 1060 = .ok (.invokevirtual 70, 3) := by decide +kernel
theorem dr_Lw_law_1063 : decode bc_Lw_law 1063 = .ok (.iload 5, 2) := by decide +kernel
theorem dr_Lw_law_1065 : decode bc_Lw_law 1065 = .ok (.if_icmp .eq 5, 3) := by decide +kernel
theorem dr_Lw_law_1068 : decode bc_Lw_law 1068 = .ok (.iconst 0, 1) := by decide +kernel
theorem dr_Lw_law_1069 : decode bc_Lw_law 1069 = .ok (.ireturn, 1) := by decide +kernel
theorem dr_Lw_law_1070 : decode bc_Lw_law 1070 = .ok (.iload 5, 2) := by decide +kernel
theorem dr_Lw_law_1072 : decode bc_Lw_law 1072 = .ok (.ifCond .ne 22, 3) := by decide +kernel
theorem dr_Lw_law_1075 : decode bc_Lw_law 1075 = .ok (.aload_n 3, 1) := by decide +kernel
theorem dr_Lw_law_1076 : decode bc_Lw_law 1076 = .ok (.iconst 0, 1) := by decide +kernel
theorem dr_Lw_law_1077 : decode bc_Lw_law 1077 = .ok (.laload, 1) := by decide +kernel
theorem dr_Lw_law_1078 : decode bc_Lw_law 1078 = .ok (.iload 6, 2) := by decide +kernel
theorem dr_Lw_law_1080 : decode bc_Lw_law 1080 = .ok (.ifCond .eq 7, 3) := by decide +kernel
theorem dr_Lw_law_1083 : decode bc_Lw_law 1083 = .ok (.lconst 1, 1) := by decide +kernel
theorem dr_Lw_law_1084 : decode bc_Lw_law 1084 = .ok (.goto 4, 3) := by decide +kernel
theorem dr_Lw_law_1087 : decode bc_Lw_law 1087 = .ok (.lconst 0, 1) := by decide +kernel
theorem dr_Lw_law_1088 : decode bc_Lw_law 1088 = .ok (.lcmp, 1) := by decide +kernel
theorem dr_Lw_law_1089 : decode bc_Lw_law 1089 = .ok (.ifCond .eq 5, 3) := by decide +kernel
theorem dr_Lw_law_1092 : decode bc_Lw_law 1092 = .ok (.iconst 0, 1) := by decide +kernel
theorem dr_Lw_law_1093 : decode bc_Lw_law 1093 = .ok (.ireturn, 1) := by decide +kernel
theorem dr_Lw_law_1094 : decode bc_Lw_law 1094 = .ok (.goto 29, 3) := by decide +kernel
theorem dr_Lw_law_1097 : decode bc_Lw_law 1097 = .ok (.aload_n 1, 1) := by decide +kernel
theorem dr_Lw_law_1098 : decode bc_Lw_law 1098 = .ok (.invokevirtual 119, 3) := by decide +kernel
theorem dr_Lw_law_1101 : decode bc_Lw_law 1101 = .ok (.aload_n 2, 1) := by decide +kernel
theorem dr_Lw_law_1102 : decode bc_Lw_law 1102 = .ok (.invokevirtual 123, 3) := by decide +kernel
theorem dr_Lw_law_1105 : decode bc_Lw_law 1105 = .ok (.if_icmp .eq 18, 3) := by decide +kernel
theorem dr_Lw_law_1108 : decode bc_Lw_law 1108 = .ok (.iconst 0, 1) := by decide +kernel
theorem dr_Lw_law_1109 : decode bc_Lw_law 1109 = .ok (.ireturn, 1) := by decide +kernel
theorem dr_Lw_law_1110 : decode bc_Lw_law 1110 = .ok (.aload_n 1, 1) := by decide +kernel
theorem dr_Lw_law_1111 : decode bc_Lw_law 1111 = .ok (.invokevirtual 124, 3) := by decide +kernel
theorem dr_Lw_law_1114 : decode bc_Lw_law 1114 = .ok (.aload_n 2, 1) := by decide +kernel
theorem dr_Lw_law_1115 : decode bc_Lw_law 1115 = .ok (.invokevirtual 127, 3) := by decide +kernel
theorem dr_Lw_law_1118 : decode bc_Lw_law 1118 = .ok (.if_icmp .eq 5, 3) := by decide +kernel
theorem dr_Lw_law_1121 : decode bc_Lw_law 1121 = .ok (.iconst 0, 1) := by decide +kernel
theorem dr_Lw_law_1122 : decode bc_Lw_law 1122 = .ok (.ireturn, 1) := by decide +kernel
theorem dr_Lw_law_1123 : decode bc_Lw_law 1123 = .ok (.iinc 4 7, 3) := by decide +kernel
theorem dr_Lw_law_1126 : decode bc_Lw_law 1126 = .ok (.goto (-1103), 3) := by decide +kernel
theorem dr_Lw_law_1129 : decode bc_Lw_law 1129 = .ok (.iconst 1, 1) := by decide +kernel
theorem dr_Lw_law_1130 : decode bc_Lw_law 1130 = .ok (.ireturn, 1) := by decide +kernel
