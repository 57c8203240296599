theorem dr_PS_init_0 : decode bc_PS_init 0 = .ok (.aload_n 0, 1) := by decide +kernel
theorem dr_PS_init_1 : decode bc_PS_init 1 = .ok (.invokespecial 1, 3) := by decide +kernel
theorem dr_PS_init_4 : decode bc_PS_init 4 = .ok (.aload_n 0, 1) := by decide +kernel
theorem dr_PS_init_5 : decode bc_PS_init 5 = .ok (.new 7, 3) := by decide +kernel
theorem dr_PS_init_8 : decode bc_PS_init 8 = .ok (.dup, 1) := by decide +kernel
theorem dr_PS_init_9 : decode bc_PS_init 9 = .ok (.invokespecial 9, 3) := by decide +kernel
theorem dr_PS_init_12 : decode bc_PS_init 12 = .ok (.putfield 10, 3) := by decide +kernel
theorem dr_PS_init_15 : decode bc_PS_init 15 = .ok (.aload_n 0, 1) := by decide +kernel
theorem dr_PS_init_16 : decode bc_PS_init 16 = .ok (.new 16, 3) := by decide +kernel
theorem dr_PS_init_19 : decode bc_PS_init 19 = .ok (.dup, 1) := by decide +kernel
theorem dr_PS_init_20 : decode bc_PS_init 20 = .ok (.invokespecial 18, 3) := by decide +kernel
theorem dr_PS_init_23 : decode bc_PS_init 23 = .ok (.putfield 19, 3) := by decide +kernel
theorem dr_PS_init_26 : decode bc_PS_init 26 = .ok (.aload_n 0, 1) := by decide +kernel
theorem dr_PS_init_27 : decode bc_PS_init 27 = .ok (.new 23, 3) := by decide +kernel
theorem dr_PS_init_30 : decode bc_PS_init 30 = .ok (.dup, 1) := by decide +kernel
theorem dr_PS_init_31 : decode bc_PS_init 31 = .ok (.invokespecial 25, 3) := by decide +kernel
theorem dr_PS_init_34 : decode bc_PS_init 34 = .ok (.putfield 26, 3) := by decide +kernel
theorem dr_PS_init_37 : decode bc_PS_init 37 = .ok (.aload_n 0, 1) := by decide +kernel
theorem dr_PS_init_38 : decode bc_PS_init 38 = .ok (.new 30, 3) := by decide +kernel
theorem dr_PS_init_41 : decode bc_PS_init 41 = .ok (.dup, 1) := by decide +kernel
theorem dr_PS_init_42 : decode bc_PS_init 42 = .ok (.invokespecial 32, 3) := by decide +kernel
theorem dr_PS_init_45 : decode bc_PS_init 45 = .ok (.putfield 33, 3) := by decide +kernel
theorem dr_PS_init_48 : decode bc_PS_init 48 = .ok (.aload_n 0, 1) := by decide +kernel
theorem dr_PS_init_49 : decode bc_PS_init 49 = .ok (.new 37, 3) := by decide +kernel
theorem dr_PS_init_52 : decode bc_PS_init 52 = .ok (.dup, 1) := by decide +kernel
theorem dr_PS_init_53 : decode bc_PS_init 53 = .ok (.invokespecial 39, 3) := by decide +kernel
theorem dr_PS_init_56 : decode bc_PS_init 56 = .ok (.putfield 40, 3) := by decide +kernel
theorem dr_PS_init_59 : decode bc_PS_init 59 = .ok (.return_, 1) := by decide +kernel
theorem dr_PS_group_0 : decode bc_PS_group 0 = .ok (.aload_n 0, 1) := by decide +kernel
theorem dr_PS_group_1 : decode bc_PS_group 1 = .ok (.getfield 10, 3) := by decide +kernel
theorem dr_PS_group_4 : decode bc_PS_group 4 = .ok (.getfield 44, 3) := by decide +kernel
theorem dr_PS_group_7 : decode bc_PS_group 7 = .ok (.bipush 12, 2) := by decide +kernel
theorem dr_PS_group_9 : decode bc_PS_group 9 = .ok (.if_icmp .lt 5, 3) := by decide +kernel
theorem dr_PS_group_12 : decode bc_PS_group 12 = .ok (.iconst (-1), 1) := by decide +kernel
theorem dr_PS_group_13 : decode bc_PS_group 13 = .ok (.ireturn, 1) := by decide +kernel
theorem dr_PS_group_14 : decode bc_PS_group 14 = .ok (.aload_n 0, 1) := by decide +kernel
theorem dr_PS_group_15 : decode bc_PS_group 15 = .ok (.getfield 10, 3) := by decide +kernel
theorem dr_PS_group_18 : decode bc_PS_group 18 = .ok (.dup, 1) := by decide +kernel
theorem dr_PS_group_19 : decode bc_PS_group 19 = .ok (.getfield 44, 3) := by decide +kernel
theorem dr_PS_group_22 : decode bc_PS_group 22 = .ok (.iconst 1, 1) := by decide +kernel
theorem dr_PS_group_23 : decode bc_PS_group 23 = .ok (.iadd, 1) := by decide +kernel
theorem dr_PS_group_24 : decode bc_PS_group 24 = .ok (.putfield 44, 3) := by decide +kernel
theorem dr_PS_group_27 : decode bc_PS_group 27 = .ok (.aload_n 0, 1) := by decide +kernel
theorem dr_PS_group_28 : decode bc_PS_group 28 = .ok (.getfield 10, 3) := by decide +kernel
theorem dr_PS_group_31 : decode bc_PS_group 31 = .ok (.getfield 44, 3) := by decide +kernel
theorem dr_PS_group_34 : decode bc_PS_group 34 = .ok (.iconst 1, 1) := by decide +kernel
theorem dr_PS_group_35 : decode bc_PS_group 35 = .ok (.isub, 1) := by decide +kernel
theorem dr_PS_group_36 : decode bc_PS_group 36 = .ok (.ireturn, 1) := by decide +kernel
theorem dr_PS_pin_0 : decode bc_PS_pin 0 = .ok (.iload_n 1, 1) := by decide +kernel
theorem dr_PS_pin_1 : decode bc_PS_pin 1 = .ok (.ifCond .lt 14, 3) := by decide +kernel
theorem dr_PS_pin_4 : decode bc_PS_pin 4 = .ok (.iload_n 1, 1) := by decide +kernel
theorem dr_PS_pin_5 : decode bc_PS_pin 5 = .ok (.aload_n 0, 1) := by decide +kernel
theorem dr_PS_pin_6 : decode bc_PS_pin 6 = .ok (.getfield 10, 3) := by decide +kernel
theorem dr_PS_pin_9 : decode bc_PS_pin 9 = .ok (.getfield 44, 3) := by decide +kernel
theorem dr_PS_pin_12 : decode bc_PS_pin 12 = .ok (.if_icmp .lt 13, 3) := by decide +kernel
theorem dr_PS_pin_15 : decode bc_PS_pin 15 = .ok (.new 48, 3) := by decide +kernel
theorem dr_PS_pin_18 : decode bc_PS_pin 18 = .ok (.dup, 1) := by decide +kernel
theorem dr_PS_pin_19 : decode bc_PS_pin 19 = .ok (.ldc 50, 2) := by decide +kernel
theorem dr_PS_pin_21 : decode bc_PS_pin 21 = .ok (.invokespecial 52, 3) := by decide +kernel
theorem dr_PS_pin_24 : decode bc_PS_pin 24 = .ok (.athrow, 1) := by decide +kernel
theorem dr_PS_pin_25 : decode bc_PS_pin 25 = .ok (.lload_n 2, 1) := by decide +kernel
theorem dr_PS_pin_26 : decode bc_PS_pin 26 = .ok (.lload 4, 2) := by decide +kernel
theorem dr_PS_pin_28 : decode bc_PS_pin 28 = .ok (.invokestatic 55, 3) := by decide +kernel
theorem dr_PS_pin_31 : decode bc_PS_pin 31 = .ok (.iload 6, 2) := by decide +kernel
theorem dr_PS_pin_33 : decode bc_PS_pin 33 = .ok (.invokestatic 59, 3) := by decide +kernel
theorem dr_PS_pin_36 : decode bc_PS_pin 36 = .ok (.ifCond .ne 13, 3) := by decide +kernel
theorem dr_PS_pin_39 : decode bc_PS_pin 39 = .ok (.new 63, 3) := by decide +kernel
theorem dr_PS_pin_42 : decode bc_PS_pin 42 = .ok (.dup, 1) := by decide +kernel
theorem dr_PS_pin_43 : decode bc_PS_pin 43 = .ok (.ldc 65, 2) := by decide +kernel
theorem dr_PS_pin_45 : decode bc_PS_pin 45 = .ok (.invokespecial 67, 3) := by decide +kernel
theorem dr_PS_pin_48 : decode bc_PS_pin 48 = .ok (.athrow, 1) := by decide +kernel
theorem dr_PS_pin_49 : decode bc_PS_pin 49 = .ok (.aload_n 0, 1) := by decide +kernel
theorem dr_PS_pin_50 : decode bc_PS_pin 50 = .ok (.getfield 10, 3) := by decide +kernel
theorem dr_PS_pin_53 : decode bc_PS_pin 53 = .ok (.getfield 68, 3) := by decide +kernel
theorem dr_PS_pin_56 : decode bc_PS_pin 56 = .ok (.bipush 80, 2) := by decide +kernel
theorem dr_PS_pin_58 : decode bc_PS_pin 58 = .ok (.if_icmp .ge 17, 3) := by decide +kernel
theorem dr_PS_pin_61 : decode bc_PS_pin 61 = .ok (.aload_n 0, 1) := by decide +kernel
theorem dr_PS_pin_62 : decode bc_PS_pin 62 = .ok (.getfield 10, 3) := by decide +kernel
theorem dr_PS_pin_65 : decode bc_PS_pin 65 = .ok (.getfield 71, 3) := by decide +kernel
theorem dr_PS_pin_68 : decode bc_PS_pin 68 = .ok (.iload_n 1, 1) := by decide +kernel
theorem dr_PS_pin_69 : decode bc_PS_pin 69 = .ok (.iaload, 1) := by decide +kernel
theorem dr_PS_pin_70 : decode bc_PS_pin 70 = .ok (.bipush 12, 2) := by decide +kernel
theorem dr_PS_pin_72 : decode bc_PS_pin 72 = .ok (.if_icmp .lt 5, 3) := by decide +kernel
theorem dr_PS_pin_75 : decode bc_PS_pin 75 = .ok (.iconst (-1), 1) := by decide +kernel
theorem dr_PS_pin_76 : decode bc_PS_pin 76 = .ok (.ireturn, 1) := by decide +kernel
theorem dr_PS_pin_77 : decode bc_PS_pin 77 = .ok (.aload_n 0, 1) := by decide +kernel
theorem dr_PS_pin_78 : decode bc_PS_pin 78 = .ok (.getfield 10, 3) := by decide +kernel
theorem dr_PS_pin_81 : decode bc_PS_pin 81 = .ok (.iload_n 1, 1) := by decide +kernel
theorem dr_PS_pin_82 : decode bc_PS_pin 82 = .ok (.lload_n 2, 1) := by decide +kernel
theorem dr_PS_pin_83 : decode bc_PS_pin 83 = .ok (.lload 4, 2) := by decide +kernel
theorem dr_PS_pin_85 : decode bc_PS_pin 85 = .ok (.iload 6, 2) := by decide +kernel
theorem dr_PS_pin_87 : decode bc_PS_pin 87 = .ok (.invokevirtual 75, 3) := by decide +kernel
theorem dr_PS_pin_90 : decode bc_PS_pin 90 = .ok (.ireturn, 1) := by decide +kernel
theorem dr_PS_target_0 : decode bc_PS_target 0 = .ok (.iload_n 1, 1) := by decide +kernel
theorem dr_PS_target_1 : decode bc_PS_target 1 = .ok (.invokestatic 79, 3) := by decide +kernel
theorem dr_PS_target_4 : decode bc_PS_target 4 = .ok (.lload_n 2, 1) := by decide +kernel
theorem dr_PS_target_5 : decode bc_PS_target 5 = .ok (.lload 4, 2) := by decide +kernel
theorem dr_PS_target_7 : decode bc_PS_target 7 = .ok (.invokestatic 55, 3) := by decide +kernel
theorem dr_PS_target_10 : decode bc_PS_target 10 = .ok (.aload_n 0, 1) := by decide +kernel
theorem dr_PS_target_11 : decode bc_PS_target 11 = .ok (.getfield 19, 3) := by decide +kernel
theorem dr_PS_target_14 : decode bc_PS_target 14 = .ok (.iload_n 1, 1) := by decide +kernel
theorem dr_PS_target_15 : decode bc_PS_target 15 = .ok (.lload_n 2, 1) := by decide +kernel
theorem dr_PS_target_16 : decode bc_PS_target 16 = .ok (.lload 4, 2) := by decide +kernel
theorem dr_PS_target_18 : decode bc_PS_target 18 = .ok (.invokevirtual 83, 3) := by decide +kernel
theorem dr_PS_target_21 : decode bc_PS_target 21 = .ok (.ireturn, 1) := by decide +kernel
theorem dr_PS_lock_0 : decode bc_PS_lock 0 = .ok (.aload_n 0, 1) := by decide +kernel
theorem dr_PS_lock_1 : decode bc_PS_lock 1 = .ok (.iload_n 1, 1) := by decide +kernel
theorem dr_PS_lock_2 : decode bc_PS_lock 2 = .ok (.invokevirtual 87, 3) := by decide +kernel
theorem dr_PS_lock_5 : decode bc_PS_lock 5 = .ok (.aload_n 0, 1) := by decide +kernel
theorem dr_PS_lock_6 : decode bc_PS_lock 6 = .ok (.getfield 10, 3) := by decide +kernel
theorem dr_PS_lock_9 : decode bc_PS_lock 9 = .ok (.getfield 90, 3) := by decide +kernel
theorem dr_PS_lock_12 : decode bc_PS_lock 12 = .ok (.iload_n 1, 1) := by decide +kernel
theorem dr_PS_lock_13 : decode bc_PS_lock 13 = .ok (.baload, 1) := by decide +kernel
theorem dr_PS_lock_14 : decode bc_PS_lock 14 = .ok (.istore_n 2, 1) := by decide +kernel
theorem dr_PS_lock_15 : decode bc_PS_lock 15 = .ok (.aload_n 0, 1) := by decide +kernel
theorem dr_PS_lock_16 : decode bc_PS_lock 16 = .ok (.getfield 10, 3) := by decide +kernel
theorem dr_PS_lock_19 : decode bc_PS_lock 19 = .ok (.getfield 90, 3) := by decide +kernel
theorem dr_PS_lock_22 : decode bc_PS_lock 22 = .ok (.iload_n 1, 1) := by decide +kernel
theorem dr_PS_lock_23 : decode bc_PS_lock 23 = .ok (.iconst 1, 1) := by decide +kernel
theorem dr_PS_lock_24 : decode bc_PS_lock 24 = .ok (.bastore, 1) := by decide +kernel
theorem dr_PS_lock_25 : decode bc_PS_lock 25 = .ok (.iload_n 2, 1) := by decide +kernel
theorem dr_PS_lock_26 : decode bc_PS_lock 26 = .ok (.ifCond .ne 7, 3) := by decide +kernel
theorem dr_PS_lock_29 : decode bc_PS_lock 29 = .ok (.iconst 1, 1) := by decide +kernel
theorem dr_PS_lock_30 : decode bc_PS_lock 30 = .ok (.goto 4, 3) := by decide +kernel
theorem dr_PS_lock_33 : decode bc_PS_lock 33 = .ok (.iconst 0, 1) := by decide +kernel
theorem dr_PS_lock_34 : decode bc_PS_lock 34 = .ok (.ireturn, 1) := by decide +kernel
theorem dr_PS_pair_0 : decode bc_PS_pair 0 = .ok (.aload_n 0, 1) := by decide +kernel
theorem dr_PS_pair_1 : decode bc_PS_pair 1 = .ok (.iload_n 1, 1) := by decide +kernel
theorem dr_PS_pair_2 : decode bc_PS_pair 2 = .ok (.invokevirtual 87, 3) := by decide +kernel
theorem dr_PS_pair_5 : decode bc_PS_pair 5 = .ok (.aload_n 0, 1) := by decide +kernel
theorem dr_PS_pair_6 : decode bc_PS_pair 6 = .ok (.iload_n 2, 1) := by decide +kernel
theorem dr_PS_pair_7 : decode bc_PS_pair 7 = .ok (.invokevirtual 87, 3) := by decide +kernel
theorem dr_PS_pair_10 : decode bc_PS_pair 10 = .ok (.iload_n 1, 1) := by decide +kernel
theorem dr_PS_pair_11 : decode bc_PS_pair 11 = .ok (.iload_n 2, 1) := by decide +kernel
theorem dr_PS_pair_12 : decode bc_PS_pair 12 = .ok (.if_icmp .eq 24, 3) := by decide +kernel
theorem dr_PS_pair_15 : decode bc_PS_pair 15 = .ok (.aload_n 0, 1) := by decide +kernel
theorem dr_PS_pair_16 : decode bc_PS_pair 16 = .ok (.getfield 10, 3) := by decide +kernel
theorem dr_PS_pair_19 : decode bc_PS_pair 19 = .ok (.getfield 94, 3) := by decide +kernel
theorem dr_PS_pair_22 : decode bc_PS_pair 22 = .ok (.iload_n 1, 1) := by decide +kernel
theorem dr_PS_pair_23 : decode bc_PS_pair 23 = .ok (.iaload, 1) := by decide +kernel
theorem dr_PS_pair_24 : decode bc_PS_pair 24 = .ok (.aload_n 0, 1) := by decide +kernel
theorem dr_PS_pair_25 : decode bc_PS_pair 25 = .ok (.getfield 10, 3) := by decide +kernel
theorem dr_PS_pair_28 : decode bc_PS_pair 28 = .ok (.getfield 94, 3) := by decide +kernel
theorem dr_PS_pair_31 : decode bc_PS_pair 31 = .ok (.iload_n 2, 1) := by decide +kernel
theorem dr_PS_pair_32 : decode bc_PS_pair 32 = .ok (.iaload, 1) := by decide +kernel
theorem dr_PS_pair_33 : decode bc_PS_pair 33 = .ok (.if_icmp .eq 5, 3) := by decide +kernel
theorem dr_PS_pair_36 : decode bc_PS_pair 36 = .ok (.iconst 0, 1) := by decide +kernel
theorem dr_PS_pair_37 : decode bc_PS_pair 37 = .ok (.ireturn, 1) := by decide +kernel
theorem dr_PS_pair_38 : decode bc_PS_pair 38 = .ok (.aload_n 0, 1) := by decide +kernel
theorem dr_PS_pair_39 : decode bc_PS_pair 39 = .ok (.getfield 10, 3) := by decide +kernel
theorem dr_PS_pair_42 : decode bc_PS_pair 42 = .ok (.iload_n 1, 1) := by decide +kernel
theorem dr_PS_pair_43 : decode bc_PS_pair 43 = .ok (.invokevirtual 97, 3) := by decide +kernel
theorem dr_PS_pair_46 : decode bc_PS_pair 46 = .ok (.ifCond .ne 14, 3) := by decide +kernel
theorem dr_PS_pair_49 : decode bc_PS_pair 49 = .ok (.aload_n 0, 1) := by decide +kernel
theorem dr_PS_pair_50 : decode bc_PS_pair 50 = .ok (.getfield 10, 3) := by decide +kernel
theorem dr_PS_pair_53 : decode bc_PS_pair 53 = .ok (.iload_n 2, 1) := by decide +kernel
theorem dr_PS_pair_54 : decode bc_PS_pair 54 = .ok (.invokevirtual 97, 3) := by decide +kernel
theorem dr_PS_pair_57 : decode bc_PS_pair 57 = .ok (.ifCond .eq 5, 3) := by decide +kernel
theorem dr_PS_pair_60 : decode bc_PS_pair 60 = .ok (.iconst 0, 1) := by decide +kernel
theorem dr_PS_pair_61 : decode bc_PS_pair 61 = .ok (.ireturn, 1) := by decide +kernel
theorem dr_PS_pair_62 : decode bc_PS_pair 62 = .ok (.aload_n 0, 1) := by decide +kernel
theorem dr_PS_pair_63 : decode bc_PS_pair 63 = .ok (.getfield 10, 3) := by decide +kernel
theorem dr_PS_pair_66 : decode bc_PS_pair 66 = .ok (.iload_n 1, 1) := by decide +kernel
theorem dr_PS_pair_67 : decode bc_PS_pair 67 = .ok (.iload_n 2, 1) := by decide +kernel
theorem dr_PS_pair_68 : decode bc_PS_pair 68 = .ok (.invokevirtual 100, 3) := by decide +kernel
theorem dr_PS_pair_71 : decode bc_PS_pair 71 = .ok (.iconst 1, 1) := by decide +kernel
theorem dr_PS_pair_72 : decode bc_PS_pair 72 = .ok (.ireturn, 1) := by decide +kernel
theorem dr_PS_bank_0 : decode bc_PS_bank 0 = .ok (.aload_n 0, 1) := by decide +kernel
theorem dr_PS_bank_1 : decode bc_PS_bank 1 = .ok (.iload_n 1, 1) := by decide +kernel
theorem dr_PS_bank_2 : decode bc_PS_bank 2 = .ok (.invokevirtual 87, 3) := by decide +kernel
theorem dr_PS_bank_5 : decode bc_PS_bank 5 = .ok (.iload_n 2, 1) := by decide +kernel
theorem dr_PS_bank_6 : decode bc_PS_bank 6 = .ok (.ifCond .lt 9, 3) := by decide +kernel
theorem dr_PS_bank_9 : decode bc_PS_bank 9 = .ok (.iload_n 2, 1) := by decide +kernel
theorem dr_PS_bank_10 : decode bc_PS_bank 10 = .ok (.bipush 16, 2) := by decide +kernel
theorem dr_PS_bank_12 : decode bc_PS_bank 12 = .ok (.if_icmp .lt 13, 3) := by decide +kernel
theorem dr_PS_bank_15 : decode bc_PS_bank 15 = .ok (.new 63, 3) := by decide +kernel
theorem dr_PS_bank_18 : decode bc_PS_bank 18 = .ok (.dup, 1) := by decide +kernel
theorem dr_PS_bank_19 : decode bc_PS_bank 19 = .ok (.ldc 104, 2) := by decide +kernel
theorem dr_PS_bank_21 : decode bc_PS_bank 21 = .ok (.invokespecial 67, 3) := by decide +kernel
theorem dr_PS_bank_24 : decode bc_PS_bank 24 = .ok (.athrow, 1) := by decide +kernel
theorem dr_PS_bank_25 : decode bc_PS_bank 25 = .ok (.aload_n 0, 1) := by decide +kernel
theorem dr_PS_bank_26 : decode bc_PS_bank 26 = .ok (.getfield 10, 3) := by decide +kernel
theorem dr_PS_bank_29 : decode bc_PS_bank 29 = .ok (.getfield 106, 3) := by decide +kernel
theorem dr_PS_bank_32 : decode bc_PS_bank 32 = .ok (.iload_n 1, 1) := by decide +kernel
theorem dr_PS_bank_33 : decode bc_PS_bank 33 = .ok (.iaload, 1) := by decide +kernel
theorem dr_PS_bank_34 : decode bc_PS_bank 34 = .ok (.iload_n 2, 1) := by decide +kernel
theorem dr_PS_bank_35 : decode bc_PS_bank 35 = .ok (.if_icmp .eq 7, 3) := by decide +kernel
theorem dr_PS_bank_38 : decode bc_PS_bank 38 = .ok (.iconst 1, 1) := by decide +kernel
theorem dr_PS_bank_39 : decode bc_PS_bank 39 = .ok (.goto 4, 3) := by decide +kernel
theorem dr_PS_bank_42 : decode bc_PS_bank 42 = .ok (.iconst 0, 1) := by decide +kernel
theorem dr_PS_bank_43 : decode bc_PS_bank 43 = .ok (.istore_n 3, 1) := by decide +kernel
theorem dr_PS_bank_44 : decode bc_PS_bank 44 = .ok (.aload_n 0, 1) := by decide +kernel
theorem dr_PS_bank_45 : decode bc_PS_bank 45 = .ok (.getfield 10, 3) := by decide +kernel
theorem dr_PS_bank_48 : decode bc_PS_bank 48 = .ok (.getfield 106, 3) := by decide +kernel
theorem dr_PS_bank_51 : decode bc_PS_bank 51 = .ok (.iload_n 1, 1) := by decide +kernel
theorem dr_PS_bank_52 : decode bc_PS_bank 52 = .ok (.iload_n 2, 1) := by decide +kernel
theorem dr_PS_bank_53 : decode bc_PS_bank 53 = .ok (.iastore, 1) := by decide +kernel
theorem dr_PS_bank_54 : decode bc_PS_bank 54 = .ok (.iload_n 3, 1) := by decide +kernel
theorem dr_PS_bank_55 : decode bc_PS_bank 55 = .ok (.ireturn, 1) := by decide +kernel
theorem dr_PS_needs_0 : decode bc_PS_needs 0 = .ok (.iload_n 1, 1) := by decide +kernel
theorem dr_PS_needs_1 : decode bc_PS_needs 1 = .ok (.invokestatic 79, 3) := by decide +kernel
theorem dr_PS_needs_4 : decode bc_PS_needs 4 = .ok (.iload_n 2, 1) := by decide +kernel
theorem dr_PS_needs_5 : decode bc_PS_needs 5 = .ok (.iconst (-1), 1) := by decide +kernel
theorem dr_PS_needs_6 : decode bc_PS_needs 6 = .ok (.if_icmp .lt 9, 3) := by decide +kernel
theorem dr_PS_needs_9 : decode bc_PS_needs 9 = .ok (.iload_n 2, 1) := by decide +kernel
theorem dr_PS_needs_10 : decode bc_PS_needs 10 = .ok (.bipush 16, 2) := by decide +kernel
theorem dr_PS_needs_12 : decode bc_PS_needs 12 = .ok (.if_icmp .lt 13, 3) := by decide +kernel
theorem dr_PS_needs_15 : decode bc_PS_needs 15 = .ok (.new 63, 3) := by decide +kernel
theorem dr_PS_needs_18 : decode bc_PS_needs 18 = .ok (.dup, 1) := by decide +kernel
theorem dr_PS_needs_19 : decode bc_PS_needs 19 = .ok (.ldc 109, 2) := by decide +kernel
theorem dr_PS_needs_21 : decode bc_PS_needs 21 = .ok (.invokespecial 67, 3) := by decide +kernel
theorem dr_PS_needs_24 : decode bc_PS_needs 24 = .ok (.athrow, 1) := by decide +kernel
theorem dr_PS_needs_25 : decode bc_PS_needs 25 = .ok (.aload_n 0, 1) := by decide +kernel
theorem dr_PS_needs_26 : decode bc_PS_needs 26 = .ok (.getfield 19, 3) := by decide +kernel
theorem dr_PS_needs_29 : decode bc_PS_needs 29 = .ok (.getfield 111, 3) := by decide +kernel
theorem dr_PS_needs_32 : decode bc_PS_needs 32 = .ok (.iload_n 1, 1) := by decide +kernel
theorem dr_PS_needs_33 : decode bc_PS_needs 33 = .ok (.iaload, 1) := by decide +kernel
theorem dr_PS_needs_34 : decode bc_PS_needs 34 = .ok (.iload_n 2, 1) := by decide +kernel
theorem dr_PS_needs_35 : decode bc_PS_needs 35 = .ok (.if_icmp .eq 7, 3) := by decide +kernel
theorem dr_PS_needs_38 : decode bc_PS_needs 38 = .ok (.iconst 1, 1) := by decide +kernel
theorem dr_PS_needs_39 : decode bc_PS_needs 39 = .ok (.goto 4, 3) := by decide +kernel
theorem dr_PS_needs_42 : decode bc_PS_needs 42 = .ok (.iconst 0, 1) := by decide +kernel
theorem dr_PS_needs_43 : decode bc_PS_needs 43 = .ok (.istore_n 3, 1) := by decide +kernel
theorem dr_PS_needs_44 : decode bc_PS_needs 44 = .ok (.aload_n 0, 1) := by decide +kernel
theorem dr_PS_needs_45 : decode bc_PS_needs 45 = .ok (.getfield 19, 3) := by decide +kernel
theorem dr_PS_needs_48 : decode bc_PS_needs 48 = .ok (.getfield 111, 3) := by decide +kernel
theorem dr_PS_needs_51 : decode bc_PS_needs 51 = .ok (.iload_n 1, 1) := by decide +kernel
theorem dr_PS_needs_52 : decode bc_PS_needs 52 = .ok (.iload_n 2, 1) := by decide +kernel
theorem dr_PS_needs_53 : decode bc_PS_needs 53 = .ok (.iastore, 1) := by decide +kernel
theorem dr_PS_needs_54 : decode bc_PS_needs 54 = .ok (.iload_n 3, 1) := by decide +kernel
theorem dr_PS_needs_55 : decode bc_PS_needs 55 = .ok (.ireturn, 1) := by decide +kernel
theorem dr_PS_run_0 : decode bc_PS_run 0 = .ok (.aload_n 0, 1) := by decide +kernel
theorem dr_PS_run_1 : decode bc_PS_run 1 = .ok (.aload_n 0, 1) := by decide +kernel
theorem dr_PS_run_2 : decode bc_PS_run 2 = .ok (.invokevirtual 114, 3) := by decide +kernel
theorem dr_PS_run_5 : decode bc_PS_run 5 = .ok (.putfield 118, 3) := by decide +kernel
theorem dr_PS_run_8 : decode bc_PS_run 8 = .ok (.aload_n 0, 1) := by decide +kernel
theorem dr_PS_run_9 : decode bc_PS_run 9 = .ok (.getfield 33, 3) := by decide +kernel
theorem dr_PS_run_12 : decode bc_PS_run 12 = .ok (.aload_n 0, 1) := by decide +kernel
theorem dr_PS_run_13 : decode bc_PS_run 13 = .ok (.getfield 10, 3) := by decide +kernel
theorem dr_PS_run_16 : decode bc_PS_run 16 = .ok (.getfield 122, 3) := by decide +kernel
theorem dr_PS_run_19 : decode bc_PS_run 19 = .ok (.aload_n 0, 1) := by decide +kernel
theorem dr_PS_run_20 : decode bc_PS_run 20 = .ok (.getfield 10, 3) := by decide +kernel
theorem dr_PS_run_23 : decode bc_PS_run 23 = .ok (.getfield 68, 3) := by decide +kernel
theorem dr_PS_run_26 : decode bc_PS_run 26 = .ok (.invokevirtual 125, 3) := by decide +kernel
theorem dr_PS_run_29 : decode bc_PS_run 29 = .ok (.astore_n 1, 1) := by decide +kernel
theorem dr_PS_run_30 : decode bc_PS_run 30 = .ok (.iconst 0, 1) := by decide +kernel
theorem dr_PS_run_31 : decode bc_PS_run 31 = .ok (.istore_n 2, 1) := by decide +kernel
theorem dr_PS_run_32 : decode bc_PS_run 32 = .ok (.iload_n 2, 1) := by decide +kernel
theorem dr_PS_run_33 : decode bc_PS_run 33 = .ok (.aload_n 0, 1) := by decide +kernel
theorem dr_PS_run_34 : decode bc_PS_run 34 = .ok (.getfield 10, 3) := by decide +kernel
theorem dr_PS_run_37 : decode bc_PS_run 37 = .ok (.getfield 44, 3) := by decide +kernel
theorem dr_PS_run_40 : decode bc_PS_run 40 = .ok (.if_icmp .ge 23, 3) := by decide +kernel
theorem dr_PS_run_43 : decode bc_PS_run 43 = .ok (.aload_n 0, 1) := by decide +kernel
theorem dr_PS_run_44 : decode bc_PS_run 44 = .ok (.iload_n 2, 1) := by decide +kernel
theorem dr_PS_run_45 : decode bc_PS_run 45 = .ok (.iconst 0, 1) := by decide +kernel
theorem dr_PS_run_46 : decode bc_PS_run 46 = .ok (.aload_n 1, 1) := by decide +kernel
theorem dr_PS_run_47 : decode bc_PS_run 47 = .ok (.invokevirtual 129, 3) := by decide +kernel
theorem dr_PS_run_50 : decode bc_PS_run 50 = .ok (.aload_n 0, 1) := by decide +kernel
theorem dr_PS_run_51 : decode bc_PS_run 51 = .ok (.iload_n 2, 1) := by decide +kernel
theorem dr_PS_run_52 : decode bc_PS_run 52 = .ok (.iconst 1, 1) := by decide +kernel
theorem dr_PS_run_53 : decode bc_PS_run 53 = .ok (.aload_n 1, 1) := by decide +kernel
theorem dr_PS_run_54 : decode bc_PS_run 54 = .ok (.invokevirtual 129, 3) := by decide +kernel
theorem dr_PS_run_57 : decode bc_PS_run 57 = .ok (.iinc 2 1, 3) := by decide +kernel
theorem dr_PS_run_60 : decode bc_PS_run 60 = .ok (.goto (-28), 3) := by decide +kernel
theorem dr_PS_run_63 : decode bc_PS_run 63 = .ok (.aload_n 0, 1) := by decide +kernel
theorem dr_PS_run_64 : decode bc_PS_run 64 = .ok (.aload_n 1, 1) := by decide +kernel
theorem dr_PS_run_65 : decode bc_PS_run 65 = .ok (.invokevirtual 133, 3) := by decide +kernel
theorem dr_PS_run_68 : decode bc_PS_run 68 = .ok (.istore_n 2, 1) := by decide +kernel
theorem dr_PS_run_69 : decode bc_PS_run 69 = .ok (.iload_n 2, 1) := by decide +kernel
theorem dr_PS_run_70 : decode bc_PS_run 70 = .ok (.ifCond .le 10, 3) := by decide +kernel
theorem dr_PS_run_73 : decode bc_PS_run 73 = .ok (.aload_n 0, 1) := by decide +kernel
theorem dr_PS_run_74 : decode bc_PS_run 74 = .ok (.getfield 33, 3) := by decide +kernel
theorem dr_PS_run_77 : decode bc_PS_run 77 = .ok (.invokevirtual 137, 3) := by decide +kernel
theorem dr_PS_run_80 : decode bc_PS_run 80 = .ok (.iload_n 2, 1) := by decide +kernel
theorem dr_PS_run_81 : decode bc_PS_run 81 = .ok (.ireturn, 1) := by decide +kernel
theorem dr_PS_netOf_0 : decode bc_PS_netOf 0 = .ok (.aload_n 0, 1) := by decide +kernel
theorem dr_PS_netOf_1 : decode bc_PS_netOf 1 = .ok (.iload_n 1, 1) := by decide +kernel
theorem dr_PS_netOf_2 : decode bc_PS_netOf 2 = .ok (.invokevirtual 87, 3) := by decide +kernel
theorem dr_PS_netOf_5 : decode bc_PS_netOf 5 = .ok (.aload_n 0, 1) := by decide +kernel
theorem dr_PS_netOf_6 : decode bc_PS_netOf 6 = .ok (.getfield 10, 3) := by decide +kernel
theorem dr_PS_netOf_9 : decode bc_PS_netOf 9 = .ok (.getfield 122, 3) := by decide +kernel
theorem dr_PS_netOf_12 : decode bc_PS_netOf 12 = .ok (.iload_n 1, 1) := by decide +kernel
theorem dr_PS_netOf_13 : decode bc_PS_netOf 13 = .ok (.iaload, 1) := by decide +kernel
theorem dr_PS_netOf_14 : decode bc_PS_netOf 14 = .ok (.ireturn, 1) := by decide +kernel
theorem dr_PS_sum_0 : decode bc_PS_sum 0 = .ok (.lconst 0, 1) := by decide +kernel
theorem dr_PS_sum_1 : decode bc_PS_sum 1 = .ok (.lstore_n 1, 1) := by decide +kernel
theorem dr_PS_sum_2 : decode bc_PS_sum 2 = .ok (.iconst 0, 1) := by decide +kernel
theorem dr_PS_sum_3 : decode bc_PS_sum 3 = .ok (.istore_n 3, 1) := by decide +kernel
theorem dr_PS_sum_4 : decode bc_PS_sum 4 = .ok (.iload_n 3, 1) := by decide +kernel
theorem dr_PS_sum_5 : decode bc_PS_sum 5 = .ok (.aload_n 0, 1) := by decide +kernel
theorem dr_PS_sum_6 : decode bc_PS_sum 6 = .ok (.getfield 10, 3) := by decide +kernel
theorem dr_PS_sum_9 : decode bc_PS_sum 9 = .ok (.getfield 68, 3) := by decide +kernel
theorem dr_PS_sum_12 : decode bc_PS_sum 12 = .ok (.if_icmp .ge 26, 3) := by decide +kernel
theorem dr_PS_sum_15 : decode bc_PS_sum 15 = .ok (.lload_n 1, 1) := by decide +kernel
theorem dr_PS_sum_16 : decode bc_PS_sum 16 = .ok (.aload_n 0, 1) := by decide +kernel
theorem dr_PS_sum_17 : decode bc_PS_sum 17 = .ok (.aload_n 0, 1) := by decide +kernel
theorem dr_PS_sum_18 : decode bc_PS_sum 18 = .ok (.getfield 10, 3) := by decide +kernel
theorem dr_PS_sum_21 : decode bc_PS_sum 21 = .ok (.getfield 122, 3) := by decide +kernel
theorem dr_PS_sum_24 : decode bc_PS_sum 24 = .ok (.iload_n 3, 1) := by decide +kernel
theorem dr_PS_sum_25 : decode bc_PS_sum 25 = .ok (.iaload, 1) := by decide +kernel
theorem dr_PS_sum_26 : decode bc_PS_sum 26 = .ok (.iload_n 3, 1) := by decide +kernel
theorem dr_PS_sum_27 : decode bc_PS_sum 27 = .ok (.invokevirtual 140, 3) := by decide +kernel
theorem dr_PS_sum_30 : decode bc_PS_sum 30 = .ok (.ladd, 1) := by decide +kernel
theorem dr_PS_sum_31 : decode bc_PS_sum 31 = .ok (.lstore_n 1, 1) := by decide +kernel
theorem dr_PS_sum_32 : decode bc_PS_sum 32 = .ok (.iinc 3 1, 3) := by decide +kernel
theorem dr_PS_sum_35 : decode bc_PS_sum 35 = .ok (.goto (-31), 3) := by decide +kernel
theorem dr_PS_sum_38 : decode bc_PS_sum 38 = .ok (.lload_n 1, 1) := by decide +kernel
theorem dr_PS_sum_39 : decode bc_PS_sum 39 = .ok (.lreturn, 1) := by decide +kernel
theorem dr_PS_before_0 : decode bc_PS_before 0 = .ok (.aload_n 0, 1) := by decide +kernel
theorem dr_PS_before_1 : decode bc_PS_before 1 = .ok (.getfield 118, 3) := by decide +kernel
theorem dr_PS_before_4 : decode bc_PS_before 4 = .ok (.lreturn, 1) := by decide +kernel
theorem dr_PS_dual_0 : decode bc_PS_dual 0 = .ok (.aload_n 0, 1) := by decide +kernel
theorem dr_PS_dual_1 : decode bc_PS_dual 1 = .ok (.iload_n 2, 1) := by decide +kernel
theorem dr_PS_dual_2 : decode bc_PS_dual 2 = .ok (.invokevirtual 87, 3) := by decide +kernel
theorem dr_PS_dual_5 : decode bc_PS_dual 5 = .ok (.iload_n 1, 1) := by decide +kernel
theorem dr_PS_dual_6 : decode bc_PS_dual 6 = .ok (.ifCond .eq 18, 3) := by decide +kernel
theorem dr_PS_dual_9 : decode bc_PS_dual 9 = .ok (.iload_n 1, 1) := by decide +kernel
theorem dr_PS_dual_10 : decode bc_PS_dual 10 = .ok (.iconst 1, 1) := by decide +kernel
theorem dr_PS_dual_11 : decode bc_PS_dual 11 = .ok (.if_icmp .eq 13, 3) := by decide +kernel
theorem dr_PS_dual_14 : decode bc_PS_dual 14 = .ok (.new 48, 3) := by decide +kernel
theorem dr_PS_dual_17 : decode bc_PS_dual 17 = .ok (.dup, 1) := by decide +kernel
theorem dr_PS_dual_18 : decode bc_PS_dual 18 = .ok (.ldc 144, 2) := by decide +kernel
theorem dr_PS_dual_20 : decode bc_PS_dual 20 = .ok (.invokespecial 52, 3) := by decide +kernel
theorem dr_PS_dual_23 : decode bc_PS_dual 23 = .ok (.athrow, 1) := by decide +kernel
theorem dr_PS_dual_24 : decode bc_PS_dual 24 = .ok (.aload_n 0, 1) := by decide +kernel
theorem dr_PS_dual_25 : decode bc_PS_dual 25 = .ok (.getfield 10, 3) := by decide +kernel
theorem dr_PS_dual_28 : decode bc_PS_dual 28 = .ok (.iload_n 2, 1) := by decide +kernel
theorem dr_PS_dual_29 : decode bc_PS_dual 29 = .ok (.invokevirtual 146, 3) := by decide +kernel
theorem dr_PS_dual_32 : decode bc_PS_dual 32 = .ok (.istore_n 3, 1) := by decide +kernel
theorem dr_PS_dual_33 : decode bc_PS_dual 33 = .ok (.aload_n 0, 1) := by decide +kernel
theorem dr_PS_dual_34 : decode bc_PS_dual 34 = .ok (.getfield 10, 3) := by decide +kernel
theorem dr_PS_dual_37 : decode bc_PS_dual 37 = .ok (.iload_n 3, 1) := by decide +kernel
theorem dr_PS_dual_38 : decode bc_PS_dual 38 = .ok (.invokevirtual 150, 3) := by decide +kernel
theorem dr_PS_dual_41 : decode bc_PS_dual 41 = .ok (.ifCond .eq 7, 3) := by decide +kernel
theorem dr_PS_dual_44 : decode bc_PS_dual 44 = .ok (.ldc2_w 153, 3) := by decide +kernel
theorem dr_PS_dual_47 : decode bc_PS_dual 47 = .ok (.lreturn, 1) := by decide +kernel
theorem dr_PS_dual_48 : decode bc_PS_dual 48 = .ok (.aload_n 0, 1) := by decide +kernel
theorem dr_PS_dual_49 : decode bc_PS_dual 49 = .ok (.aload_n 0, 1) := by decide +kernel
theorem dr_PS_dual_50 : decode bc_PS_dual 50 = .ok (.getfield 10, 3) := by decide +kernel
theorem dr_PS_dual_53 : decode bc_PS_dual 53 = .ok (.getfield 94, 3) := by decide +kernel
theorem dr_PS_dual_56 : decode bc_PS_dual 56 = .ok (.iload_n 3, 1) := by decide +kernel
theorem dr_PS_dual_57 : decode bc_PS_dual 57 = .ok (.iaload, 1) := by decide +kernel
theorem dr_PS_dual_58 : decode bc_PS_dual 58 = .ok (.aload_n 0, 1) := by decide +kernel
theorem dr_PS_dual_59 : decode bc_PS_dual 59 = .ok (.getfield 10, 3) := by decide +kernel
theorem dr_PS_dual_62 : decode bc_PS_dual 62 = .ok (.iload_n 3, 1) := by decide +kernel
theorem dr_PS_dual_63 : decode bc_PS_dual 63 = .ok (.invokevirtual 97, 3) := by decide +kernel
theorem dr_PS_dual_66 : decode bc_PS_dual 66 = .ok (.invokevirtual 155, 3) := by decide +kernel
theorem dr_PS_dual_69 : decode bc_PS_dual 69 = .ok (.iload_n 1, 1) := by decide +kernel
theorem dr_PS_dual_70 : decode bc_PS_dual 70 = .ok (.iconst 1, 1) := by decide +kernel
theorem dr_PS_dual_71 : decode bc_PS_dual 71 = .ok (.if_icmp .ne 18, 3) := by decide +kernel
theorem dr_PS_dual_74 : decode bc_PS_dual 74 = .ok (.aload_n 0, 1) := by decide +kernel
theorem dr_PS_dual_75 : decode bc_PS_dual 75 = .ok (.getfield 26, 3) := by decide +kernel
theorem dr_PS_dual_78 : decode bc_PS_dual 78 = .ok (.getfield 159, 3) := by decide +kernel
theorem dr_PS_dual_81 : decode bc_PS_dual 81 = .ok (.iconst 2, 1) := by decide +kernel
theorem dr_PS_dual_82 : decode bc_PS_dual 82 = .ok (.if_icmp .ge 7, 3) := by decide +kernel
theorem dr_PS_dual_85 : decode bc_PS_dual 85 = .ok (.ldc2_w 153, 3) := by decide +kernel
theorem dr_PS_dual_88 : decode bc_PS_dual 88 = .ok (.lreturn, 1) := by decide +kernel
theorem dr_PS_dual_89 : decode bc_PS_dual 89 = .ok (.aload_n 0, 1) := by decide +kernel
theorem dr_PS_dual_90 : decode bc_PS_dual 90 = .ok (.getfield 26, 3) := by decide +kernel
theorem dr_PS_dual_93 : decode bc_PS_dual 93 = .ok (.invokevirtual 162, 3) := by decide +kernel
theorem dr_PS_dual_96 : decode bc_PS_dual 96 = .ok (.lstore 4, 2) := by decide +kernel
theorem dr_PS_dual_98 : decode bc_PS_dual 98 = .ok (.iload_n 1, 1) := by decide +kernel
theorem dr_PS_dual_99 : decode bc_PS_dual 99 = .ok (.ifCond .ne 14, 3) := by decide +kernel
theorem dr_PS_dual_102 : decode bc_PS_dual 102 = .ok (.aload_n 0, 1) := by decide +kernel
theorem dr_PS_dual_103 : decode bc_PS_dual 103 = .ok (.getfield 26, 3) := by decide +kernel
theorem dr_PS_dual_106 : decode bc_PS_dual 106 = .ok (.iload_n 3, 1) := by decide +kernel
theorem dr_PS_dual_107 : decode bc_PS_dual 107 = .ok (.invokevirtual 165, 3) := by decide +kernel
theorem dr_PS_dual_110 : decode bc_PS_dual 110 = .ok (.goto 11, 3) := by decide +kernel
theorem dr_PS_dual_113 : decode bc_PS_dual 113 = .ok (.aload_n 0, 1) := by decide +kernel
theorem dr_PS_dual_114 : decode bc_PS_dual 114 = .ok (.getfield 26, 3) := by decide +kernel
theorem dr_PS_dual_117 : decode bc_PS_dual 117 = .ok (.iload_n 3, 1) := by decide +kernel
theorem dr_PS_dual_118 : decode bc_PS_dual 118 = .ok (.invokevirtual 168, 3) := by decide +kernel
theorem dr_PS_dual_121 : decode bc_PS_dual 121 = .ok (.aload_n 0, 1) := by decide +kernel
theorem dr_PS_dual_122 : decode bc_PS_dual 122 = .ok (.getfield 26, 3) := by decide +kernel
theorem dr_PS_dual_125 : decode bc_PS_dual 125 = .ok (.invokevirtual 162, 3) := by decide +kernel
theorem dr_PS_dual_128 : decode bc_PS_dual 128 = .ok (.lload 4, 2) := by decide +kernel
theorem dr_PS_dual_130 : decode bc_PS_dual 130 = .ok (.lsub, 1) := by decide +kernel
theorem dr_PS_dual_131 : decode bc_PS_dual 131 = .ok (.lreturn, 1) := by decide +kernel
theorem dr_PS_note_0 : decode bc_PS_note 0 = .ok (.aload_n 0, 1) := by decide +kernel
theorem dr_PS_note_1 : decode bc_PS_note 1 = .ok (.getfield 10, 3) := by decide +kernel
theorem dr_PS_note_4 : decode bc_PS_note 4 = .ok (.iload_n 1, 1) := by decide +kernel
theorem dr_PS_note_5 : decode bc_PS_note 5 = .ok (.invokevirtual 171, 3) := by decide +kernel
theorem dr_PS_note_8 : decode bc_PS_note 8 = .ok (.istore_n 3, 1) := by decide +kernel
theorem dr_PS_note_9 : decode bc_PS_note 9 = .ok (.iload_n 3, 1) := by decide +kernel
theorem dr_PS_note_10 : decode bc_PS_note 10 = .ok (.iconst (-1), 1) := by decide +kernel
theorem dr_PS_note_11 : decode bc_PS_note 11 = .ok (.if_icmp .eq 12, 3) := by decide +kernel
theorem dr_PS_note_14 : decode bc_PS_note 14 = .ok (.iload_n 2, 1) := by decide +kernel
theorem dr_PS_note_15 : decode bc_PS_note 15 = .ok (.ifCond .lt 8, 3) := by decide +kernel
theorem dr_PS_note_18 : decode bc_PS_note 18 = .ok (.iload_n 2, 1) := by decide +kernel
theorem dr_PS_note_19 : decode bc_PS_note 19 = .ok (.iconst 2, 1) := by decide +kernel
theorem dr_PS_note_20 : decode bc_PS_note 20 = .ok (.if_icmp .le 13, 3) := by decide +kernel
theorem dr_PS_note_23 : decode bc_PS_note 23 = .ok (.new 48, 3) := by decide +kernel
theorem dr_PS_note_26 : decode bc_PS_note 26 = .ok (.dup, 1) := by decide +kernel
theorem dr_PS_note_27 : decode bc_PS_note 27 = .ok (.ldc 174, 2) := by decide +kernel
theorem dr_PS_note_29 : decode bc_PS_note 29 = .ok (.invokespecial 52, 3) := by decide +kernel
theorem dr_PS_note_32 : decode bc_PS_note 32 = .ok (.athrow, 1) := by decide +kernel
theorem dr_PS_note_33 : decode bc_PS_note 33 = .ok (.iload_n 2, 1) := by decide +kernel
theorem dr_PS_note_34 : decode bc_PS_note 34 = .ok (.ifCond .ne 5, 3) := by decide +kernel
theorem dr_PS_note_37 : decode bc_PS_note 37 = .ok (.iload_n 3, 1) := by decide +kernel
theorem dr_PS_note_38 : decode bc_PS_note 38 = .ok (.ireturn, 1) := by decide +kernel
theorem dr_PS_note_39 : decode bc_PS_note 39 = .ok (.iload_n 2, 1) := by decide +kernel
theorem dr_PS_note_40 : decode bc_PS_note 40 = .ok (.iconst 1, 1) := by decide +kernel
theorem dr_PS_note_41 : decode bc_PS_note 41 = .ok (.if_icmp .ne 15, 3) := by decide +kernel
theorem dr_PS_note_44 : decode bc_PS_note 44 = .ok (.aload_n 0, 1) := by decide +kernel
theorem dr_PS_note_45 : decode bc_PS_note 45 = .ok (.getfield 10, 3) := by decide +kernel
theorem dr_PS_note_48 : decode bc_PS_note 48 = .ok (.getfield 176, 3) := by decide +kernel
theorem dr_PS_note_51 : decode bc_PS_note 51 = .ok (.iload_n 3, 1) := by decide +kernel
theorem dr_PS_note_52 : decode bc_PS_note 52 = .ok (.iaload, 1) := by decide +kernel
theorem dr_PS_note_53 : decode bc_PS_note 53 = .ok (.goto 12, 3) := by decide +kernel
theorem dr_PS_note_56 : decode bc_PS_note 56 = .ok (.aload_n 0, 1) := by decide +kernel
theorem dr_PS_note_57 : decode bc_PS_note 57 = .ok (.getfield 10, 3) := by decide +kernel
theorem dr_PS_note_60 : decode bc_PS_note 60 = .ok (.getfield 122, 3) := by decide +kernel
theorem dr_PS_note_63 : decode bc_PS_note 63 = .ok (.iload_n 3, 1) := by decide +kernel
theorem dr_PS_note_64 : decode bc_PS_note 64 = .ok (.iaload, 1) := by decide +kernel
theorem dr_PS_note_65 : decode bc_PS_note 65 = .ok (.ireturn, 1) := by decide +kernel
theorem dr_PS_gate_0 : decode bc_PS_gate 0 = .ok (.iload_n 1, 1) := by decide +kernel
theorem dr_PS_gate_1 : decode bc_PS_gate 1 = .ok (.bipush 16, 2) := by decide +kernel
theorem dr_PS_gate_3 : decode bc_PS_gate 3 = .ok (.ishr, 1) := by decide +kernel
theorem dr_PS_gate_4 : decode bc_PS_gate 4 = .ok (.istore_n 2, 1) := by decide +kernel
theorem dr_PS_gate_5 : decode bc_PS_gate 5 = .ok (.iload_n 1, 1) := by decide +kernel
theorem dr_PS_gate_6 : decode bc_PS_gate 6 = .ok (.ldc 179, 2) := by decide +kernel
theorem dr_PS_gate_8 : decode bc_PS_gate 8 = .ok (.iand, 1) := by decide +kernel
theorem dr_PS_gate_9 : decode bc_PS_gate 9 = .ok (.istore_n 3, 1) := by decide +kernel
theorem dr_PS_gate_10 : decode bc_PS_gate 10 = .ok (.iload_n 2, 1) := by decide +kernel
theorem dr_PS_gate_11 : decode bc_PS_gate 11 = .ok (.iconst 1, 1) := by decide +kernel
theorem dr_PS_gate_12 : decode bc_PS_gate 12 = .ok (.if_icmp .lt 8, 3) := by decide +kernel
theorem dr_PS_gate_15 : decode bc_PS_gate 15 = .ok (.iload_n 2, 1) := by decide +kernel
theorem dr_PS_gate_16 : decode bc_PS_gate 16 = .ok (.iconst 4, 1) := by decide +kernel
theorem dr_PS_gate_17 : decode bc_PS_gate 17 = .ok (.if_icmp .le 13, 3) := by decide +kernel
theorem dr_PS_gate_20 : decode bc_PS_gate 20 = .ok (.new 63, 3) := by decide +kernel
theorem dr_PS_gate_23 : decode bc_PS_gate 23 = .ok (.dup, 1) := by decide +kernel
theorem dr_PS_gate_24 : decode bc_PS_gate 24 = .ok (.ldc 180, 2) := by decide +kernel
theorem dr_PS_gate_26 : decode bc_PS_gate 26 = .ok (.invokespecial 67, 3) := by decide +kernel
theorem dr_PS_gate_29 : decode bc_PS_gate 29 = .ok (.athrow, 1) := by decide +kernel
theorem dr_PS_gate_30 : decode bc_PS_gate 30 = .ok (.iload_n 3, 1) := by decide +kernel
theorem dr_PS_gate_31 : decode bc_PS_gate 31 = .ok (.iconst 1, 1) := by decide +kernel
theorem dr_PS_gate_32 : decode bc_PS_gate 32 = .ok (.iload_n 2, 1) := by decide +kernel
theorem dr_PS_gate_33 : decode bc_PS_gate 33 = .ok (.ishl, 1) := by decide +kernel
theorem dr_PS_gate_34 : decode bc_PS_gate 34 = .ok (.ishr, 1) := by decide +kernel
theorem dr_PS_gate_35 : decode bc_PS_gate 35 = .ok (.ifCond .eq 13, 3) := by decide +kernel
theorem dr_PS_gate_38 : decode bc_PS_gate 38 = .ok (.new 63, 3) := by decide +kernel
theorem dr_PS_gate_41 : decode bc_PS_gate 41 = .ok (.dup, 1) := by decide +kernel
theorem dr_PS_gate_42 : decode bc_PS_gate 42 = .ok (.ldc 182, 2) := by decide +kernel
theorem dr_PS_gate_44 : decode bc_PS_gate 44 = .ok (.invokespecial 67, 3) := by decide +kernel
theorem dr_PS_gate_47 : decode bc_PS_gate 47 = .ok (.athrow, 1) := by decide +kernel
theorem dr_PS_gate_48 : decode bc_PS_gate 48 = .ok (.aload_n 0, 1) := by decide +kernel
theorem dr_PS_gate_49 : decode bc_PS_gate 49 = .ok (.getfield 40, 3) := by decide +kernel
theorem dr_PS_gate_52 : decode bc_PS_gate 52 = .ok (.iload_n 2, 1) := by decide +kernel
theorem dr_PS_gate_53 : decode bc_PS_gate 53 = .ok (.iload_n 3, 1) := by decide +kernel
theorem dr_PS_gate_54 : decode bc_PS_gate 54 = .ok (.invokevirtual 184, 3) := by decide +kernel
theorem dr_PS_gate_57 : decode bc_PS_gate 57 = .ok (.ireturn, 1) := by decide +kernel
theorem dr_PS_equalGate_0 : decode bc_PS_equalGate 0 = .ok (.iload_n 1, 1) := by decide +kernel
theorem dr_PS_equalGate_1 : decode bc_PS_equalGate 1 = .ok (.ifCond .lt 29, 3) := by decide +kernel
theorem dr_PS_equalGate_4 : decode bc_PS_equalGate 4 = .ok (.iload_n 1, 1) := by decide +kernel
theorem dr_PS_equalGate_5 : decode bc_PS_equalGate 5 = .ok (.aload_n 0, 1) := by decide +kernel
theorem dr_PS_equalGate_6 : decode bc_PS_equalGate 6 = .ok (.getfield 40, 3) := by decide +kernel
theorem dr_PS_equalGate_9 : decode bc_PS_equalGate 9 = .ok (.getfield 187, 3) := by decide +kernel
theorem dr_PS_equalGate_12 : decode bc_PS_equalGate 12 = .ok (.if_icmp .ge 18, 3) := by decide +kernel
theorem dr_PS_equalGate_15 : decode bc_PS_equalGate 15 = .ok (.iload_n 2, 1) := by decide +kernel
theorem dr_PS_equalGate_16 : decode bc_PS_equalGate 16 = .ok (.ifCond .lt 14, 3) := by decide +kernel
theorem dr_PS_equalGate_19 : decode bc_PS_equalGate 19 = .ok (.iload_n 2, 1) := by decide +kernel
theorem dr_PS_equalGate_20 : decode bc_PS_equalGate 20 = .ok (.aload_n 0, 1) := by decide +kernel
theorem dr_PS_equalGate_21 : decode bc_PS_equalGate 21 = .ok (.getfield 40, 3) := by decide +kernel
theorem dr_PS_equalGate_24 : decode bc_PS_equalGate 24 = .ok (.getfield 187, 3) := by decide +kernel
theorem dr_PS_equalGate_27 : decode bc_PS_equalGate 27 = .ok (.if_icmp .lt 13, 3) := by decide +kernel
theorem dr_PS_equalGate_30 : decode bc_PS_equalGate 30 = .ok (.new 48, 3) := by decide +kernel
theorem dr_PS_equalGate_33 : decode bc_PS_equalGate 33 = .ok (.dup, 1) := by decide +kernel
theorem dr_PS_equalGate_34 : decode bc_PS_equalGate 34 = .ok (.ldc 188, 2) := by decide +kernel
theorem dr_PS_equalGate_36 : decode bc_PS_equalGate 36 = .ok (.invokespecial 52, 3) := by decide +kernel
theorem dr_PS_equalGate_39 : decode bc_PS_equalGate 39 = .ok (.athrow, 1) := by decide +kernel
theorem dr_PS_equalGate_40 : decode bc_PS_equalGate 40 = .ok (.aload_n 0, 1) := by decide +kernel
theorem dr_PS_equalGate_41 : decode bc_PS_equalGate 41 = .ok (.getfield 40, 3) := by decide +kernel
theorem dr_PS_equalGate_44 : decode bc_PS_equalGate 44 = .ok (.iload_n 1, 1) := by decide +kernel
theorem dr_PS_equalGate_45 : decode bc_PS_equalGate 45 = .ok (.iload_n 2, 1) := by decide +kernel
theorem dr_PS_equalGate_46 : decode bc_PS_equalGate 46 = .ok (.invokevirtual 190, 3) := by decide +kernel
theorem dr_PS_equalGate_49 : decode bc_PS_equalGate 49 = .ok (.ireturn, 1) := by decide +kernel
theorem dr_PS_undo_0 : decode bc_PS_undo 0 = .ok (.aload_n 0, 1) := by decide +kernel
theorem dr_PS_undo_1 : decode bc_PS_undo 1 = .ok (.getfield 33, 3) := by decide +kernel
theorem dr_PS_undo_4 : decode bc_PS_undo 4 = .ok (.aload_n 0, 1) := by decide +kernel
theorem dr_PS_undo_5 : decode bc_PS_undo 5 = .ok (.getfield 10, 3) := by decide +kernel
theorem dr_PS_undo_8 : decode bc_PS_undo 8 = .ok (.getfield 122, 3) := by decide +kernel
theorem dr_PS_undo_11 : decode bc_PS_undo 11 = .ok (.invokevirtual 194, 3) := by decide +kernel
theorem dr_PS_undo_14 : decode bc_PS_undo 14 = .ok (.ireturn, 1) := by decide +kernel
theorem dr_PS_crossings_0 : decode bc_PS_crossings 0 = .ok (.iconst 0, 1) := by decide +kernel
theorem dr_PS_crossings_1 : decode bc_PS_crossings 1 = .ok (.istore_n 1, 1) := by decide +kernel
theorem dr_PS_crossings_2 : decode bc_PS_crossings 2 = .ok (.iconst 0, 1) := by decide +kernel
theorem dr_PS_crossings_3 : decode bc_PS_crossings 3 = .ok (.istore_n 2, 1) := by decide +kernel
theorem dr_PS_crossings_4 : decode bc_PS_crossings 4 = .ok (.iload_n 2, 1) := by decide +kernel
theorem dr_PS_crossings_5 : decode bc_PS_crossings 5 = .ok (.aload_n 0, 1) := by decide +kernel
theorem dr_PS_crossings_6 : decode bc_PS_crossings 6 = .ok (.getfield 10, 3) := by decide +kernel
theorem dr_PS_crossings_9 : decode bc_PS_crossings 9 = .ok (.getfield 68, 3) := by decide +kernel
theorem dr_PS_crossings_12 : decode bc_PS_crossings 12 = .ok (.if_icmp .ge 63, 3) := by decide +kernel
theorem dr_PS_crossings_15 : decode bc_PS_crossings 15 = .ok (.iload_n 2, 1) := by decide +kernel
theorem dr_PS_crossings_16 : decode bc_PS_crossings 16 = .ok (.iconst 1, 1) := by decide +kernel
theorem dr_PS_crossings_17 : decode bc_PS_crossings 17 = .ok (.iadd, 1) := by decide +kernel
theorem dr_PS_crossings_18 : decode bc_PS_crossings 18 = .ok (.istore_n 3, 1) := by decide +kernel
theorem dr_PS_crossings_19 : decode bc_PS_crossings 19 = .ok (.iload_n 3, 1) := by decide +kernel
theorem dr_PS_crossings_20 : decode bc_PS_crossings 20 = .ok (.aload_n 0, 1) := by decide +kernel
theorem dr_PS_crossings_21 : decode bc_PS_crossings 21 = .ok (.getfield 10, 3) := by decide +kernel
theorem dr_PS_crossings_24 : decode bc_PS_crossings 24 = .ok (.getfield 68, 3) := by decide +kernel
theorem dr_PS_crossings_27 : decode bc_PS_crossings 27 = .ok (.if_icmp .ge 42, 3) := by decide +kernel
theorem dr_PS_crossings_30 : decode bc_PS_crossings 30 = .ok (.aload_n 0, 1) := by decide +kernel
theorem dr_PS_crossings_31 : decode bc_PS_crossings 31 = .ok (.getfield 10, 3) := by decide +kernel
theorem dr_PS_crossings_34 : decode bc_PS_crossings 34 = .ok (.getfield 94, 3) := by decide +kernel
theorem dr_PS_crossings_37 : decode bc_PS_crossings 37 = .ok (.iload_n 2, 1) := by decide +kernel
theorem dr_PS_crossings_38 : decode bc_PS_crossings 38 = .ok (.iaload, 1) := by decide +kernel
theorem dr_PS_crossings_39 : decode bc_PS_crossings 39 = .ok (.aload_n 0, 1) := by decide +kernel
theorem dr_PS_crossings_40 : decode bc_PS_crossings 40 = .ok (.getfield 10, 3) := by decide +kernel
theorem dr_PS_crossings_43 : decode bc_PS_crossings 43 = .ok (.getfield 94, 3) := by decide +kernel
theorem dr_PS_crossings_46 : decode bc_PS_crossings 46 = .ok (.iload_n 3, 1) := by decide +kernel
theorem dr_PS_crossings_47 : decode bc_PS_crossings 47 = .ok (.iaload, 1) := by decide +kernel
theorem dr_PS_crossings_48 : decode bc_PS_crossings 48 = .ok (.if_icmp .ne 15, 3) := by decide +kernel
theorem dr_PS_crossings_51 : decode bc_PS_crossings 51 = .ok (.aload_n 0, 1) := by decide +kernel
theorem dr_PS_crossings_52 : decode bc_PS_crossings 52 = .ok (.iload_n 2, 1) := by decide +kernel
theorem dr_PS_crossings_53 : decode bc_PS_crossings 53 = .ok (.iload_n 3, 1) := by decide +kernel
theorem dr_PS_crossings_54 : decode bc_PS_crossings 54 = .ok (.invokevirtual 198, 3) := by decide +kernel
theorem dr_PS_crossings_57 : decode bc_PS_crossings 57 = .ok (.ifCond .eq 6, 3) := by decide +kernel
theorem dr_PS_crossings_60 : decode bc_PS_crossings 60 = .ok (.iinc 1 1, 3) := by decide +kernel
theorem dr_PS_crossings_63 : decode bc_PS_crossings 63 = .ok (.iinc 3 1, 3) := by decide +kernel
theorem dr_PS_crossings_66 : decode bc_PS_crossings 66 = .ok (.goto (-47), 3) := by decide +kernel
theorem dr_PS_crossings_69 : decode bc_PS_crossings 69 = .ok (.iinc 2 1, 3) := by decide +kernel
theorem dr_PS_crossings_72 : decode bc_PS_crossings 72 = .ok (.goto (-68), 3) := by decide +kernel
theorem dr_PS_crossings_75 : decode bc_PS_crossings 75 = .ok (.iload_n 1, 1) := by decide +kernel
theorem dr_PS_crossings_76 : decode bc_PS_crossings 76 = .ok (.ireturn, 1) := by decide +kernel
theorem dr_PS_checkPin_0 : decode bc_PS_checkPin 0 = .ok (.iload_n 1, 1) := by decide +kernel
theorem dr_PS_checkPin_1 : decode bc_PS_checkPin 1 = .ok (.ifCond .lt 14, 3) := by decide +kernel
theorem dr_PS_checkPin_4 : decode bc_PS_checkPin 4 = .ok (.iload_n 1, 1) := by decide +kernel
theorem dr_PS_checkPin_5 : decode bc_PS_checkPin 5 = .ok (.aload_n 0, 1) := by decide +kernel
theorem dr_PS_checkPin_6 : decode bc_PS_checkPin 6 = .ok (.getfield 10, 3) := by decide +kernel
theorem dr_PS_checkPin_9 : decode bc_PS_checkPin 9 = .ok (.getfield 68, 3) := by decide +kernel
theorem dr_PS_checkPin_12 : decode bc_PS_checkPin 12 = .ok (.if_icmp .lt 13, 3) := by decide +kernel
theorem dr_PS_checkPin_15 : decode bc_PS_checkPin 15 = .ok (.new 48, 3) := by decide +kernel
theorem dr_PS_checkPin_18 : decode bc_PS_checkPin 18 = .ok (.dup, 1) := by decide +kernel
theorem dr_PS_checkPin_19 : decode bc_PS_checkPin 19 = .ok (.ldc 201, 2) := by decide +kernel
theorem dr_PS_checkPin_21 : decode bc_PS_checkPin 21 = .ok (.invokespecial 52, 3) := by decide +kernel
theorem dr_PS_checkPin_24 : decode bc_PS_checkPin 24 = .ok (.athrow, 1) := by decide +kernel
theorem dr_PS_checkPin_25 : decode bc_PS_checkPin 25 = .ok (.return_, 1) := by decide +kernel
theorem dr_PS_checkNet_0 : decode bc_PS_checkNet 0 = .ok (.iload_n 0, 1) := by decide +kernel
theorem dr_PS_checkNet_1 : decode bc_PS_checkNet 1 = .ok (.invokestatic 59, 3) := by decide +kernel
theorem dr_PS_checkNet_4 : decode bc_PS_checkNet 4 = .ok (.ifCond .ne 13, 3) := by decide +kernel
theorem dr_PS_checkNet_7 : decode bc_PS_checkNet 7 = .ok (.new 48, 3) := by decide +kernel
theorem dr_PS_checkNet_10 : decode bc_PS_checkNet 10 = .ok (.dup, 1) := by decide +kernel
theorem dr_PS_checkNet_11 : decode bc_PS_checkNet 11 = .ok (.ldc 65, 2) := by decide +kernel
theorem dr_PS_checkNet_13 : decode bc_PS_checkNet 13 = .ok (.invokespecial 52, 3) := by decide +kernel
theorem dr_PS_checkNet_16 : decode bc_PS_checkNet 16 = .ok (.athrow, 1) := by decide +kernel
theorem dr_PS_checkNet_17 : decode bc_PS_checkNet 17 = .ok (.return_, 1) := by decide +kernel
theorem dr_PS_checkPlace_0 : decode bc_PS_checkPlace 0 = .ok (.lload_n 0, 1) := by decide +kernel
theorem dr_PS_checkPlace_1 : decode bc_PS_checkPlace 1 = .ok (.ldc2_w 203, 3) := by decide +kernel
theorem dr_PS_checkPlace_4 : decode bc_PS_checkPlace 4 = .ok (.lcmp, 1) := by decide +kernel
theorem dr_PS_checkPlace_5 : decode bc_PS_checkPlace 5 = .ok (.ifCond .lt 27, 3) := by decide +kernel
theorem dr_PS_checkPlace_8 : decode bc_PS_checkPlace 8 = .ok (.lload_n 0, 1) := by decide +kernel
theorem dr_PS_checkPlace_9 : decode bc_PS_checkPlace 9 = .ok (.ldc2_w 205, 3) := by decide +kernel
theorem dr_PS_checkPlace_12 : decode bc_PS_checkPlace 12 = .ok (.lcmp, 1) := by decide +kernel
theorem dr_PS_checkPlace_13 : decode bc_PS_checkPlace 13 = .ok (.ifCond .gt 19, 3) := by decide +kernel
theorem dr_PS_checkPlace_16 : decode bc_PS_checkPlace 16 = .ok (.lload_n 2, 1) := by decide +kernel
theorem dr_PS_checkPlace_17 : decode bc_PS_checkPlace 17 = .ok (.ldc2_w 203, 3) := by decide +kernel
theorem dr_PS_checkPlace_20 : decode bc_PS_checkPlace 20 = .ok (.lcmp, 1) := by decide +kernel
theorem dr_PS_checkPlace_21 : decode bc_PS_checkPlace 21 = .ok (.ifCond .lt 11, 3) := by decide +kernel
theorem dr_PS_checkPlace_24 : decode bc_PS_checkPlace 24 = .ok (.lload_n 2, 1) := by decide +kernel
theorem dr_PS_checkPlace_25 : decode bc_PS_checkPlace 25 = .ok (.ldc2_w 205, 3) := by decide +kernel
theorem dr_PS_checkPlace_28 : decode bc_PS_checkPlace 28 = .ok (.lcmp, 1) := by decide +kernel
theorem dr_PS_checkPlace_29 : decode bc_PS_checkPlace 29 = .ok (.ifCond .le 13, 3) := by decide +kernel
theorem dr_PS_checkPlace_32 : decode bc_PS_checkPlace 32 = .ok (.new 63, 3) := by decide +kernel
theorem dr_PS_checkPlace_35 : decode bc_PS_checkPlace 35 = .ok (.dup, 1) := by decide +kernel
theorem dr_PS_checkPlace_36 : decode bc_PS_checkPlace 36 = .ok (.ldc 207, 2) := by decide +kernel
theorem dr_PS_checkPlace_38 : decode bc_PS_checkPlace 38 = .ok (.invokespecial 67, 3) := by decide +kernel
theorem dr_PS_checkPlace_41 : decode bc_PS_checkPlace 41 = .ok (.athrow, 1) := by decide +kernel
theorem dr_PS_checkPlace_42 : decode bc_PS_checkPlace 42 = .ok (.return_, 1) := by decide +kernel
theorem dr_PS_isNet_0 : decode bc_PS_isNet 0 = .ok (.iload_n 0, 1) := by decide +kernel
theorem dr_PS_isNet_1 : decode bc_PS_isNet 1 = .ok (.ifCond .lt 14, 3) := by decide +kernel
theorem dr_PS_isNet_4 : decode bc_PS_isNet 4 = .ok (.iload_n 0, 1) := by decide +kernel
theorem dr_PS_isNet_5 : decode bc_PS_isNet 5 = .ok (.sipush 200, 3) := by decide +kernel
theorem dr_PS_isNet_8 : decode bc_PS_isNet 8 = .ok (.if_icmp .ge 7, 3) := by decide +kernel
theorem dr_PS_isNet_11 : decode bc_PS_isNet 11 = .ok (.iconst 1, 1) := by decide +kernel
theorem dr_PS_isNet_12 : decode bc_PS_isNet 12 = .ok (.goto 4, 3) := by decide +kernel
theorem dr_PS_isNet_15 : decode bc_PS_isNet 15 = .ok (.iconst 0, 1) := by decide +kernel
theorem dr_PS_isNet_16 : decode bc_PS_isNet 16 = .ok (.ireturn, 1) := by decide +kernel
theorem dr_PS_cost_0 : decode bc_PS_cost 0 = .ok (.lconst 0, 1) := by decide +kernel
theorem dr_PS_cost_1 : decode bc_PS_cost 1 = .ok (.lstore_n 3, 1) := by decide +kernel
theorem dr_PS_cost_2 : decode bc_PS_cost 2 = .ok (.aload_n 0, 1) := by decide +kernel
theorem dr_PS_cost_3 : decode bc_PS_cost 3 = .ok (.getfield 19, 3) := by decide +kernel
theorem dr_PS_cost_6 : decode bc_PS_cost 6 = .ok (.getfield 209, 3) := by decide +kernel
theorem dr_PS_cost_9 : decode bc_PS_cost 9 = .ok (.iload_n 1, 1) := by decide +kernel
theorem dr_PS_cost_10 : decode bc_PS_cost 10 = .ok (.baload, 1) := by decide +kernel
theorem dr_PS_cost_11 : decode bc_PS_cost 11 = .ok (.ifCond .eq 49, 3) := by decide +kernel
theorem dr_PS_cost_14 : decode bc_PS_cost 14 = .ok (.aload_n 0, 1) := by decide +kernel
theorem dr_PS_cost_15 : decode bc_PS_cost 15 = .ok (.getfield 19, 3) := by decide +kernel
theorem dr_PS_cost_18 : decode bc_PS_cost 18 = .ok (.getfield 212, 3) := by decide +kernel
theorem dr_PS_cost_21 : decode bc_PS_cost 21 = .ok (.iload_n 1, 1) := by decide +kernel
theorem dr_PS_cost_22 : decode bc_PS_cost 22 = .ok (.laload, 1) := by decide +kernel
theorem dr_PS_cost_23 : decode bc_PS_cost 23 = .ok (.aload_n 0, 1) := by decide +kernel
theorem dr_PS_cost_24 : decode bc_PS_cost 24 = .ok (.getfield 10, 3) := by decide +kernel
theorem dr_PS_cost_27 : decode bc_PS_cost 27 = .ok (.getfield 216, 3) := by decide +kernel
theorem dr_PS_cost_30 : decode bc_PS_cost 30 = .ok (.iload_n 2, 1) := by decide +kernel
theorem dr_PS_cost_31 : decode bc_PS_cost 31 = .ok (.laload, 1) := by decide +kernel
theorem dr_PS_cost_32 : decode bc_PS_cost 32 = .ok (.lsub, 1) := by decide +kernel
theorem dr_PS_cost_33 : decode bc_PS_cost 33 = .ok (.invokestatic 217, 3) := by decide +kernel
theorem dr_PS_cost_36 : decode bc_PS_cost 36 = .ok (.aload_n 0, 1) := by decide +kernel
theorem dr_PS_cost_37 : decode bc_PS_cost 37 = .ok (.getfield 19, 3) := by decide +kernel
theorem dr_PS_cost_40 : decode bc_PS_cost 40 = .ok (.getfield 223, 3) := by decide +kernel
theorem dr_PS_cost_43 : decode bc_PS_cost 43 = .ok (.iload_n 1, 1) := by decide +kernel
theorem dr_PS_cost_44 : decode bc_PS_cost 44 = .ok (.laload, 1) := by decide +kernel
theorem dr_PS_cost_45 : decode bc_PS_cost 45 = .ok (.aload_n 0, 1) := by decide +kernel
theorem dr_PS_cost_46 : decode bc_PS_cost 46 = .ok (.getfield 10, 3) := by decide +kernel
theorem dr_PS_cost_49 : decode bc_PS_cost 49 = .ok (.getfield 226, 3) := by decide +kernel
theorem dr_PS_cost_52 : decode bc_PS_cost 52 = .ok (.iload_n 2, 1) := by decide +kernel
theorem dr_PS_cost_53 : decode bc_PS_cost 53 = .ok (.laload, 1) := by decide +kernel
theorem dr_PS_cost_54 : decode bc_PS_cost 54 = .ok (.lsub, 1) := by decide +kernel
theorem dr_PS_cost_55 : decode bc_PS_cost 55 = .ok (.invokestatic 217, 3) := by decide +kernel
theorem dr_PS_cost_58 : decode bc_PS_cost 58 = .ok (.ladd, 1) := by decide +kernel
theorem dr_PS_cost_59 : decode bc_PS_cost 59 = .ok (.lstore_n 3, 1) := by decide +kernel
theorem dr_PS_cost_60 : decode bc_PS_cost 60 = .ok (.aload_n 0, 1) := by decide +kernel
theorem dr_PS_cost_61 : decode bc_PS_cost 61 = .ok (.getfield 19, 3) := by decide +kernel
theorem dr_PS_cost_64 : decode bc_PS_cost 64 = .ok (.getfield 111, 3) := by decide +kernel
theorem dr_PS_cost_67 : decode bc_PS_cost 67 = .ok (.iload_n 1, 1) := by decide +kernel
theorem dr_PS_cost_68 : decode bc_PS_cost 68 = .ok (.iaload, 1) := by decide +kernel
theorem dr_PS_cost_69 : decode bc_PS_cost 69 = .ok (.istore 5, 2) := by decide +kernel
theorem dr_PS_cost_71 : decode bc_PS_cost 71 = .ok (.iload 5, 2) := by decide +kernel
theorem dr_PS_cost_73 : decode bc_PS_cost 73 = .ok (.iconst (-1), 1) := by decide +kernel
theorem dr_PS_cost_74 : decode bc_PS_cost 74 = .ok (.if_icmp .eq 17, 3) := by decide +kernel
theorem dr_PS_cost_77 : decode bc_PS_cost 77 = .ok (.iload 5, 2) := by decide +kernel
theorem dr_PS_cost_79 : decode bc_PS_cost 79 = .ok (.aload_n 0, 1) := by decide +kernel
theorem dr_PS_cost_80 : decode bc_PS_cost 80 = .ok (.getfield 10, 3) := by decide +kernel
theorem dr_PS_cost_83 : decode bc_PS_cost 83 = .ok (.getfield 106, 3) := by decide +kernel
theorem dr_PS_cost_86 : decode bc_PS_cost 86 = .ok (.iload_n 2, 1) := by decide +kernel
theorem dr_PS_cost_87 : decode bc_PS_cost 87 = .ok (.iaload, 1) := by decide +kernel
theorem dr_PS_cost_88 : decode bc_PS_cost 88 = .ok (.if_icmp .ne 7, 3) := by decide +kernel
theorem dr_PS_cost_91 : decode bc_PS_cost 91 = .ok (.lload_n 3, 1) := by decide +kernel
theorem dr_PS_cost_92 : decode bc_PS_cost 92 = .ok (.goto 8, 3) := by decide +kernel
theorem dr_PS_cost_95 : decode bc_PS_cost 95 = .ok (.lload_n 3, 1) := by decide +kernel
theorem dr_PS_cost_96 : decode bc_PS_cost 96 = .ok (.ldc2_w 227, 3) := by decide +kernel
theorem dr_PS_cost_99 : decode bc_PS_cost 99 = .ok (.ladd, 1) := by decide +kernel
theorem dr_PS_cost_100 : decode bc_PS_cost 100 = .ok (.lreturn, 1) := by decide +kernel
theorem dr_PS_swapUnits_0 : decode bc_PS_swapUnits 0 = .ok (.aload_n 0, 1) := by decide +kernel
theorem dr_PS_swapUnits_1 : decode bc_PS_swapUnits 1 = .ok (.iload_n 1, 1) := by decide +kernel
theorem dr_PS_swapUnits_2 : decode bc_PS_swapUnits 2 = .ok (.iload_n 2, 1) := by decide +kernel
theorem dr_PS_swapUnits_3 : decode bc_PS_swapUnits 3 = .ok (.invokevirtual 155, 3) := by decide +kernel
theorem dr_PS_swapUnits_6 : decode bc_PS_swapUnits 6 = .ok (.aload_n 0, 1) := by decide +kernel
theorem dr_PS_swapUnits_7 : decode bc_PS_swapUnits 7 = .ok (.getfield 26, 3) := by decide +kernel
theorem dr_PS_swapUnits_10 : decode bc_PS_swapUnits 10 = .ok (.invokevirtual 162, 3) := by decide +kernel
theorem dr_PS_swapUnits_13 : decode bc_PS_swapUnits 13 = .ok (.aload_n 0, 1) := by decide +kernel
theorem dr_PS_swapUnits_14 : decode bc_PS_swapUnits 14 = .ok (.getfield 26, 3) := by decide +kernel
theorem dr_PS_swapUnits_17 : decode bc_PS_swapUnits 17 = .ok (.invokevirtual 229, 3) := by decide +kernel
theorem dr_PS_swapUnits_20 : decode bc_PS_swapUnits 20 = .ok (.lcmp, 1) := by decide +kernel
theorem dr_PS_swapUnits_21 : decode bc_PS_swapUnits 21 = .ok (.ifCond .ne 4, 3) := by decide +kernel
theorem dr_PS_swapUnits_24 : decode bc_PS_swapUnits 24 = .ok (.return_, 1) := by decide +kernel
theorem dr_PS_swapUnits_25 : decode bc_PS_swapUnits 25 = .ok (.aload_n 0, 1) := by decide +kernel
theorem dr_PS_swapUnits_26 : decode bc_PS_swapUnits 26 = .ok (.getfield 26, 3) := by decide +kernel
theorem dr_PS_swapUnits_29 : decode bc_PS_swapUnits 29 = .ok (.invokevirtual 232, 3) := by decide +kernel
theorem dr_PS_swapUnits_32 : decode bc_PS_swapUnits 32 = .ok (.iconst 1, 1) := by decide +kernel
theorem dr_PS_swapUnits_33 : decode bc_PS_swapUnits 33 = .ok (.istore 4, 2) := by decide +kernel
theorem dr_PS_swapUnits_35 : decode bc_PS_swapUnits 35 = .ok (.iload 4, 2) := by decide +kernel
theorem dr_PS_swapUnits_37 : decode bc_PS_swapUnits 37 = .ok (.aload_n 0, 1) := by decide +kernel
theorem dr_PS_swapUnits_38 : decode bc_PS_swapUnits 38 = .ok (.getfield 26, 3) := by decide +kernel
theorem dr_PS_swapUnits_41 : decode bc_PS_swapUnits 41 = .ok (.getfield 159, 3) := by decide +kernel
theorem dr_PS_swapUnits_44 : decode bc_PS_swapUnits 44 = .ok (.if_icmp .gt 42, 3) := by decide +kernel
theorem dr_PS_swapUnits_47 : decode bc_PS_swapUnits 47 = .ok (.aload_n 0, 1) := by decide +kernel
theorem dr_PS_swapUnits_48 : decode bc_PS_swapUnits 48 = .ok (.aload_n 0, 1) := by decide +kernel
theorem dr_PS_swapUnits_49 : decode bc_PS_swapUnits 49 = .ok (.getfield 26, 3) := by decide +kernel
theorem dr_PS_swapUnits_52 : decode bc_PS_swapUnits 52 = .ok (.getfield 235, 3) := by decide +kernel
theorem dr_PS_swapUnits_55 : decode bc_PS_swapUnits 55 = .ok (.aload_n 0, 1) := by decide +kernel
theorem dr_PS_swapUnits_56 : decode bc_PS_swapUnits 56 = .ok (.getfield 26, 3) := by decide +kernel
theorem dr_PS_swapUnits_59 : decode bc_PS_swapUnits 59 = .ok (.getfield 238, 3) := by decide +kernel
theorem dr_PS_swapUnits_62 : decode bc_PS_swapUnits 62 = .ok (.iload 4, 2) := by decide +kernel
theorem dr_PS_swapUnits_64 : decode bc_PS_swapUnits 64 = .ok (.iaload, 1) := by decide +kernel
theorem dr_PS_swapUnits_65 : decode bc_PS_swapUnits 65 = .ok (.iaload, 1) := by decide +kernel
theorem dr_PS_swapUnits_66 : decode bc_PS_swapUnits 66 = .ok (.aload_n 0, 1) := by decide +kernel
theorem dr_PS_swapUnits_67 : decode bc_PS_swapUnits 67 = .ok (.getfield 26, 3) := by decide +kernel
theorem dr_PS_swapUnits_70 : decode bc_PS_swapUnits 70 = .ok (.getfield 235, 3) := by decide +kernel
theorem dr_PS_swapUnits_73 : decode bc_PS_swapUnits 73 = .ok (.iload 4, 2) := by decide +kernel
theorem dr_PS_swapUnits_75 : decode bc_PS_swapUnits 75 = .ok (.iaload, 1) := by decide +kernel
theorem dr_PS_swapUnits_76 : decode bc_PS_swapUnits 76 = .ok (.aload_n 3, 1) := by decide +kernel
theorem dr_PS_swapUnits_77 : decode bc_PS_swapUnits 77 = .ok (.invokevirtual 241, 3) := by decide +kernel
theorem dr_PS_swapUnits_80 : decode bc_PS_swapUnits 80 = .ok (.iinc 4 1, 3) := by decide +kernel
theorem dr_PS_swapUnits_83 : decode bc_PS_swapUnits 83 = .ok (.goto (-48), 3) := by decide +kernel
theorem dr_PS_swapUnits_86 : decode bc_PS_swapUnits 86 = .ok (.return_, 1) := by decide +kernel
theorem dr_PS_giveNets_0 : decode bc_PS_giveNets 0 = .ok (.aload_n 0, 1) := by decide +kernel
theorem dr_PS_giveNets_1 : decode bc_PS_giveNets 1 = .ok (.getfield 10, 3) := by decide +kernel
theorem dr_PS_giveNets_4 : decode bc_PS_giveNets 4 = .ok (.getfield 122, 3) := by decide +kernel
theorem dr_PS_giveNets_7 : decode bc_PS_giveNets 7 = .ok (.iload_n 1, 1) := by decide +kernel
theorem dr_PS_giveNets_8 : decode bc_PS_giveNets 8 = .ok (.aload_n 3, 1) := by decide +kernel
theorem dr_PS_giveNets_9 : decode bc_PS_giveNets 9 = .ok (.iload_n 2, 1) := by decide +kernel
theorem dr_PS_giveNets_10 : decode bc_PS_giveNets 10 = .ok (.iaload, 1) := by decide +kernel
theorem dr_PS_giveNets_11 : decode bc_PS_giveNets 11 = .ok (.iastore, 1) := by decide +kernel
theorem dr_PS_giveNets_12 : decode bc_PS_giveNets 12 = .ok (.aload_n 0, 1) := by decide +kernel
theorem dr_PS_giveNets_13 : decode bc_PS_giveNets 13 = .ok (.getfield 10, 3) := by decide +kernel
theorem dr_PS_giveNets_16 : decode bc_PS_giveNets 16 = .ok (.iload_n 1, 1) := by decide +kernel
theorem dr_PS_giveNets_17 : decode bc_PS_giveNets 17 = .ok (.invokevirtual 97, 3) := by decide +kernel
theorem dr_PS_giveNets_20 : decode bc_PS_giveNets 20 = .ok (.ifCond .eq 42, 3) := by decide +kernel
theorem dr_PS_giveNets_23 : decode bc_PS_giveNets 23 = .ok (.aload_n 0, 1) := by decide +kernel
theorem dr_PS_giveNets_24 : decode bc_PS_giveNets 24 = .ok (.getfield 10, 3) := by decide +kernel
theorem dr_PS_giveNets_27 : decode bc_PS_giveNets 27 = .ok (.iload_n 2, 1) := by decide +kernel
theorem dr_PS_giveNets_28 : decode bc_PS_giveNets 28 = .ok (.invokevirtual 97, 3) := by decide +kernel
theorem dr_PS_giveNets_31 : decode bc_PS_giveNets 31 = .ok (.ifCond .eq 31, 3) := by decide +kernel
theorem dr_PS_giveNets_34 : decode bc_PS_giveNets 34 = .ok (.aload_n 0, 1) := by decide +kernel
theorem dr_PS_giveNets_35 : decode bc_PS_giveNets 35 = .ok (.getfield 10, 3) := by decide +kernel
theorem dr_PS_giveNets_38 : decode bc_PS_giveNets 38 = .ok (.getfield 122, 3) := by decide +kernel
theorem dr_PS_giveNets_41 : decode bc_PS_giveNets 41 = .ok (.aload_n 0, 1) := by decide +kernel
theorem dr_PS_giveNets_42 : decode bc_PS_giveNets 42 = .ok (.getfield 10, 3) := by decide +kernel
theorem dr_PS_giveNets_45 : decode bc_PS_giveNets 45 = .ok (.getfield 245, 3) := by decide +kernel
theorem dr_PS_giveNets_48 : decode bc_PS_giveNets 48 = .ok (.iload_n 1, 1) := by decide +kernel
theorem dr_PS_giveNets_49 : decode bc_PS_giveNets 49 = .ok (.iaload, 1) := by decide +kernel
theorem dr_PS_giveNets_50 : decode bc_PS_giveNets 50 = .ok (.aload_n 3, 1) := by decide +kernel
theorem dr_PS_giveNets_51 : decode bc_PS_giveNets 51 = .ok (.aload_n 0, 1) := by decide +kernel
theorem dr_PS_giveNets_52 : decode bc_PS_giveNets 52 = .ok (.getfield 10, 3) := by decide +kernel
theorem dr_PS_giveNets_55 : decode bc_PS_giveNets 55 = .ok (.getfield 245, 3) := by decide +kernel
theorem dr_PS_giveNets_58 : decode bc_PS_giveNets 58 = .ok (.iload_n 2, 1) := by decide +kernel
theorem dr_PS_giveNets_59 : decode bc_PS_giveNets 59 = .ok (.iaload, 1) := by decide +kernel
theorem dr_PS_giveNets_60 : decode bc_PS_giveNets 60 = .ok (.iaload, 1) := by decide +kernel
theorem dr_PS_giveNets_61 : decode bc_PS_giveNets 61 = .ok (.iastore, 1) := by decide +kernel
theorem dr_PS_giveNets_62 : decode bc_PS_giveNets 62 = .ok (.return_, 1) := by decide +kernel
theorem dr_PS_countChanged_0 : decode bc_PS_countChanged 0 = .ok (.iconst 0, 1) := by decide +kernel
theorem dr_PS_countChanged_1 : decode bc_PS_countChanged 1 = .ok (.istore_n 2, 1) := by decide +kernel
theorem dr_PS_countChanged_2 : decode bc_PS_countChanged 2 = .ok (.iconst 0, 1) := by decide +kernel
theorem dr_PS_countChanged_3 : decode bc_PS_countChanged 3 = .ok (.istore_n 3, 1) := by decide +kernel
theorem dr_PS_countChanged_4 : decode bc_PS_countChanged 4 = .ok (.iload_n 3, 1) := by decide +kernel
theorem dr_PS_countChanged_5 : decode bc_PS_countChanged 5 = .ok (.aload_n 0, 1) := by decide +kernel
theorem dr_PS_countChanged_6 : decode bc_PS_countChanged 6 = .ok (.getfield 10, 3) := by decide +kernel
theorem dr_PS_countChanged_9 : decode bc_PS_countChanged 9 = .ok (.getfield 68, 3) := by decide +kernel
theorem dr_PS_countChanged_12 : decode bc_PS_countChanged 12 = .ok (.if_icmp .ge 27, 3) := by decide +kernel
theorem dr_PS_countChanged_15 : decode bc_PS_countChanged 15 = .ok (.aload_n 0, 1) := by decide +kernel
theorem dr_PS_countChanged_16 : decode bc_PS_countChanged 16 = .ok (.getfield 10, 3) := by decide +kernel
theorem dr_PS_countChanged_19 : decode bc_PS_countChanged 19 = .ok (.getfield 122, 3) := by decide +kernel
theorem dr_PS_countChanged_22 : decode bc_PS_countChanged 22 = .ok (.iload_n 3, 1) := by decide +kernel
theorem dr_PS_countChanged_23 : decode bc_PS_countChanged 23 = .ok (.iaload, 1) := by decide +kernel
theorem dr_PS_countChanged_24 : decode bc_PS_countChanged 24 = .ok (.aload_n 1, 1) := by decide +kernel
theorem dr_PS_countChanged_25 : decode bc_PS_countChanged 25 = .ok (.iload_n 3, 1) := by decide +kernel
theorem dr_PS_countChanged_26 : decode bc_PS_countChanged 26 = .ok (.iaload, 1) := by decide +kernel
theorem dr_PS_countChanged_27 : decode bc_PS_countChanged 27 = .ok (.if_icmp .eq 6, 3) := by decide +kernel
theorem dr_PS_countChanged_30 : decode bc_PS_countChanged 30 = .ok (.iinc 2 1, 3) := by decide +kernel
theorem dr_PS_countChanged_33 : decode bc_PS_countChanged 33 = .ok (.iinc 3 1, 3) := by decide +kernel
theorem dr_PS_countChanged_36 : decode bc_PS_countChanged 36 = .ok (.goto (-32), 3) := by decide +kernel
theorem dr_PS_countChanged_39 : decode bc_PS_countChanged 39 = .ok (.iload_n 2, 1) := by decide +kernel
theorem dr_PS_countChanged_40 : decode bc_PS_countChanged 40 = .ok (.ireturn, 1) := by decide +kernel
theorem dr_PS_loadMatching_0 : decode bc_PS_loadMatching 0 = .ok (.aload_n 0, 1) := by decide +kernel
theorem dr_PS_loadMatching_1 : decode bc_PS_loadMatching 1 = .ok (.getfield 26, 3) := by decide +kernel
theorem dr_PS_loadMatching_4 : decode bc_PS_loadMatching 4 = .ok (.iconst 0, 1) := by decide +kernel
theorem dr_PS_loadMatching_5 : decode bc_PS_loadMatching 5 = .ok (.putfield 159, 3) := by decide +kernel
theorem dr_PS_loadMatching_8 : decode bc_PS_loadMatching 8 = .ok (.iconst 0, 1) := by decide +kernel
theorem dr_PS_loadMatching_9 : decode bc_PS_loadMatching 9 = .ok (.istore_n 3, 1) := by decide +kernel
theorem dr_PS_loadMatching_10 : decode bc_PS_loadMatching 10 = .ok (.iload_n 3, 1) := by decide +kernel
theorem dr_PS_loadMatching_11 : decode bc_PS_loadMatching 11 = .ok (.aload_n 0, 1) := by decide +kernel
theorem dr_PS_loadMatching_12 : decode bc_PS_loadMatching 12 = .ok (.getfield 10, 3) := by decide +kernel
theorem dr_PS_loadMatching_15 : decode bc_PS_loadMatching 15 = .ok (.getfield 68, 3) := by decide +kernel
theorem dr_PS_loadMatching_18 : decode bc_PS_loadMatching 18 = .ok (.if_icmp .ge 42, 3) := by decide +kernel
theorem dr_PS_loadMatching_21 : decode bc_PS_loadMatching 21 = .ok (.aload_n 0, 1) := by decide +kernel
theorem dr_PS_loadMatching_22 : decode bc_PS_loadMatching 22 = .ok (.getfield 10, 3) := by decide +kernel
theorem dr_PS_loadMatching_25 : decode bc_PS_loadMatching 25 = .ok (.getfield 94, 3) := by decide +kernel
theorem dr_PS_loadMatching_28 : decode bc_PS_loadMatching 28 = .ok (.iload_n 3, 1) := by decide +kernel
theorem dr_PS_loadMatching_29 : decode bc_PS_loadMatching 29 = .ok (.iaload, 1) := by decide +kernel
theorem dr_PS_loadMatching_30 : decode bc_PS_loadMatching 30 = .ok (.iload_n 1, 1) := by decide +kernel
theorem dr_PS_loadMatching_31 : decode bc_PS_loadMatching 31 = .ok (.if_icmp .ne 23, 3) := by decide +kernel
theorem dr_PS_loadMatching_34 : decode bc_PS_loadMatching 34 = .ok (.aload_n 0, 1) := by decide +kernel
theorem dr_PS_loadMatching_35 : decode bc_PS_loadMatching 35 = .ok (.getfield 10, 3) := by decide +kernel
theorem dr_PS_loadMatching_38 : decode bc_PS_loadMatching 38 = .ok (.iload_n 3, 1) := by decide +kernel
theorem dr_PS_loadMatching_39 : decode bc_PS_loadMatching 39 = .ok (.iload_n 2, 1) := by decide +kernel
theorem dr_PS_loadMatching_40 : decode bc_PS_loadMatching 40 = .ok (.invokevirtual 248, 3) := by decide +kernel
theorem dr_PS_loadMatching_43 : decode bc_PS_loadMatching 43 = .ok (.ifCond .eq 11, 3) := by decide +kernel
theorem dr_PS_loadMatching_46 : decode bc_PS_loadMatching 46 = .ok (.aload_n 0, 1) := by decide +kernel
theorem dr_PS_loadMatching_47 : decode bc_PS_loadMatching 47 = .ok (.getfield 26, 3) := by decide +kernel
theorem dr_PS_loadMatching_50 : decode bc_PS_loadMatching 50 = .ok (.iload_n 3, 1) := by decide +kernel
theorem dr_PS_loadMatching_51 : decode bc_PS_loadMatching 51 = .ok (.invokevirtual 252, 3) := by decide +kernel
theorem dr_PS_loadMatching_54 : decode bc_PS_loadMatching 54 = .ok (.iinc 3 1, 3) := by decide +kernel
theorem dr_PS_loadMatching_57 : decode bc_PS_loadMatching 57 = .ok (.goto (-47), 3) := by decide +kernel
theorem dr_PS_loadMatching_60 : decode bc_PS_loadMatching 60 = .ok (.iconst 1, 1) := by decide +kernel
theorem dr_PS_loadMatching_61 : decode bc_PS_loadMatching 61 = .ok (.istore_n 3, 1) := by decide +kernel
theorem dr_PS_loadMatching_62 : decode bc_PS_loadMatching 62 = .ok (.iload_n 3, 1) := by decide +kernel
theorem dr_PS_loadMatching_63 : decode bc_PS_loadMatching 63 = .ok (.aload_n 0, 1) := by decide +kernel
theorem dr_PS_loadMatching_64 : decode bc_PS_loadMatching 64 = .ok (.getfield 26, 3) := by decide +kernel
theorem dr_PS_loadMatching_67 : decode bc_PS_loadMatching 67 = .ok (.getfield 159, 3) := by decide +kernel
theorem dr_PS_loadMatching_70 : decode bc_PS_loadMatching 70 = .ok (.if_icmp .gt 65, 3) := by decide +kernel
theorem dr_PS_loadMatching_73 : decode bc_PS_loadMatching 73 = .ok (.iconst 1, 1) := by decide +kernel
theorem dr_PS_loadMatching_74 : decode bc_PS_loadMatching 74 = .ok (.istore 4, 2) := by decide +kernel
theorem dr_PS_loadMatching_76 : decode bc_PS_loadMatching 76 = .ok (.iload 4, 2) := by decide +kernel
theorem dr_PS_loadMatching_78 : decode bc_PS_loadMatching 78 = .ok (.aload_n 0, 1) := by decide +kernel
theorem dr_PS_loadMatching_79 : decode bc_PS_loadMatching 79 = .ok (.getfield 26, 3) := by decide +kernel
theorem dr_PS_loadMatching_82 : decode bc_PS_loadMatching 82 = .ok (.getfield 159, 3) := by decide +kernel
theorem dr_PS_loadMatching_85 : decode bc_PS_loadMatching 85 = .ok (.if_icmp .gt 44, 3) := by decide +kernel
theorem dr_PS_loadMatching_88 : decode bc_PS_loadMatching 88 = .ok (.aload_n 0, 1) := by decide +kernel
theorem dr_PS_loadMatching_89 : decode bc_PS_loadMatching 89 = .ok (.getfield 26, 3) := by decide +kernel
theorem dr_PS_loadMatching_92 : decode bc_PS_loadMatching 92 = .ok (.getfield 254, 3) := by decide +kernel
theorem dr_PS_loadMatching_95 : decode bc_PS_loadMatching 95 = .ok (.iload_n 3, 1) := by decide +kernel
theorem dr_PS_loadMatching_96 : decode bc_PS_loadMatching 96 = .ok (.aaload, 1) := by decide +kernel
theorem dr_PS_loadMatching_97 : decode bc_PS_loadMatching 97 = .ok (.iload 4, 2) := by decide +kernel
theorem dr_PS_loadMatching_99 : decode bc_PS_loadMatching 99 = .ok (.aload_n 0, 1) := by decide +kernel
theorem dr_PS_loadMatching_100 : decode bc_PS_loadMatching 100 = .ok (.aload_n 0, 1) := by decide +kernel
theorem dr_PS_loadMatching_101 : decode bc_PS_loadMatching 101 = .ok (.getfield 26, 3) := by decide +kernel
theorem dr_PS_loadMatching_104 : decode bc_PS_loadMatching 104 = .ok (.getfield 235, 3) := by decide +kernel
theorem dr_PS_loadMatching_107 : decode bc_PS_loadMatching 107 = .ok (.iload_n 3, 1) := by decide +kernel
theorem dr_PS_loadMatching_108 : decode bc_PS_loadMatching 108 = .ok (.iaload, 1) := by decide +kernel
theorem dr_PS_loadMatching_109 : decode bc_PS_loadMatching 109 = .ok (.aload_n 0, 1) := by decide +kernel
theorem dr_PS_loadMatching_110 : decode bc_PS_loadMatching 110 = .ok (.getfield 26, 3) := by decide +kernel
theorem dr_PS_loadMatching_113 : decode bc_PS_loadMatching 113 = .ok (.getfield 235, 3) := by decide +kernel
theorem dr_PS_loadMatching_116 : decode bc_PS_loadMatching 116 = .ok (.iload 4, 2) := by decide +kernel
theorem dr_PS_loadMatching_118 : decode bc_PS_loadMatching 118 = .ok (.iaload, 1) := by decide +kernel
theorem dr_PS_loadMatching_119 : decode bc_PS_loadMatching 119 = .ok (.invokevirtual 257, 3) := by decide +kernel
theorem dr_PS_loadMatching_122 : decode bc_PS_loadMatching 122 = .ok (.lastore, 1) := by decide +kernel
theorem dr_PS_loadMatching_123 : decode bc_PS_loadMatching 123 = .ok (.iinc 4 1, 3) := by decide +kernel
theorem dr_PS_loadMatching_126 : decode bc_PS_loadMatching 126 = .ok (.goto (-50), 3) := by decide +kernel
theorem dr_PS_loadMatching_129 : decode bc_PS_loadMatching 129 = .ok (.iinc 3 1, 3) := by decide +kernel
theorem dr_PS_loadMatching_132 : decode bc_PS_loadMatching 132 = .ok (.goto (-70), 3) := by decide +kernel
theorem dr_PS_loadMatching_135 : decode bc_PS_loadMatching 135 = .ok (.return_, 1) := by decide +kernel
theorem dr_PS_unitCost_0 : decode bc_PS_unitCost 0 = .ok (.aload_n 0, 1) := by decide +kernel
theorem dr_PS_unitCost_1 : decode bc_PS_unitCost 1 = .ok (.aload_n 0, 1) := by decide +kernel
theorem dr_PS_unitCost_2 : decode bc_PS_unitCost 2 = .ok (.getfield 10, 3) := by decide +kernel
theorem dr_PS_unitCost_5 : decode bc_PS_unitCost 5 = .ok (.getfield 122, 3) := by decide +kernel
theorem dr_PS_unitCost_8 : decode bc_PS_unitCost 8 = .ok (.iload_n 2, 1) := by decide +kernel
theorem dr_PS_unitCost_9 : decode bc_PS_unitCost 9 = .ok (.iaload, 1) := by decide +kernel
theorem dr_PS_unitCost_10 : decode bc_PS_unitCost 10 = .ok (.iload_n 1, 1) := by decide +kernel
theorem dr_PS_unitCost_11 : decode bc_PS_unitCost 11 = .ok (.invokevirtual 140, 3) := by decide +kernel
theorem dr_PS_unitCost_14 : decode bc_PS_unitCost 14 = .ok (.lstore_n 3, 1) := by decide +kernel
theorem dr_PS_unitCost_15 : decode bc_PS_unitCost 15 = .ok (.aload_n 0, 1) := by decide +kernel
theorem dr_PS_unitCost_16 : decode bc_PS_unitCost 16 = .ok (.getfield 10, 3) := by decide +kernel
theorem dr_PS_unitCost_19 : decode bc_PS_unitCost 19 = .ok (.iload_n 1, 1) := by decide +kernel
theorem dr_PS_unitCost_20 : decode bc_PS_unitCost 20 = .ok (.invokevirtual 97, 3) := by decide +kernel
theorem dr_PS_unitCost_23 : decode bc_PS_unitCost 23 = .ok (.ifCond .eq 47, 3) := by decide +kernel
theorem dr_PS_unitCost_26 : decode bc_PS_unitCost 26 = .ok (.aload_n 0, 1) := by decide +kernel
theorem dr_PS_unitCost_27 : decode bc_PS_unitCost 27 = .ok (.getfield 10, 3) := by decide +kernel
theorem dr_PS_unitCost_30 : decode bc_PS_unitCost 30 = .ok (.iload_n 2, 1) := by decide +kernel
theorem dr_PS_unitCost_31 : decode bc_PS_unitCost 31 = .ok (.invokevirtual 97, 3) := by decide +kernel
theorem dr_PS_unitCost_34 : decode bc_PS_unitCost 34 = .ok (.ifCond .eq 36, 3) := by decide +kernel
theorem dr_PS_unitCost_37 : decode bc_PS_unitCost 37 = .ok (.lload_n 3, 1) := by decide +kernel
theorem dr_PS_unitCost_38 : decode bc_PS_unitCost 38 = .ok (.aload_n 0, 1) := by decide +kernel
theorem dr_PS_unitCost_39 : decode bc_PS_unitCost 39 = .ok (.aload_n 0, 1) := by decide +kernel
theorem dr_PS_unitCost_40 : decode bc_PS_unitCost 40 = .ok (.getfield 10, 3) := by decide +kernel
theorem dr_PS_unitCost_43 : decode bc_PS_unitCost 43 = .ok (.getfield 122, 3) := by decide +kernel
theorem dr_PS_unitCost_46 : decode bc_PS_unitCost 46 = .ok (.aload_n 0, 1) := by decide +kernel
theorem dr_PS_unitCost_47 : decode bc_PS_unitCost 47 = .ok (.getfield 10, 3) := by decide +kernel
theorem dr_PS_unitCost_50 : decode bc_PS_unitCost 50 = .ok (.getfield 245, 3) := by decide +kernel
theorem dr_PS_unitCost_53 : decode bc_PS_unitCost 53 = .ok (.iload_n 2, 1) := by decide +kernel
theorem dr_PS_unitCost_54 : decode bc_PS_unitCost 54 = .ok (.iaload, 1) := by decide +kernel
theorem dr_PS_unitCost_55 : decode bc_PS_unitCost 55 = .ok (.iaload, 1) := by decide +kernel
theorem dr_PS_unitCost_56 : decode bc_PS_unitCost 56 = .ok (.aload_n 0, 1) := by decide +kernel
theorem dr_PS_unitCost_57 : decode bc_PS_unitCost 57 = .ok (.getfield 10, 3) := by decide +kernel
theorem dr_PS_unitCost_60 : decode bc_PS_unitCost 60 = .ok (.getfield 245, 3) := by decide +kernel
theorem dr_PS_unitCost_63 : decode bc_PS_unitCost 63 = .ok (.iload_n 1, 1) := by decide +kernel
theorem dr_PS_unitCost_64 : decode bc_PS_unitCost 64 = .ok (.iaload, 1) := by decide +kernel
theorem dr_PS_unitCost_65 : decode bc_PS_unitCost 65 = .ok (.invokevirtual 140, 3) := by decide +kernel
theorem dr_PS_unitCost_68 : decode bc_PS_unitCost 68 = .ok (.ladd, 1) := by decide +kernel
theorem dr_PS_unitCost_69 : decode bc_PS_unitCost 69 = .ok (.lstore_n 3, 1) := by decide +kernel
theorem dr_PS_unitCost_70 : decode bc_PS_unitCost 70 = .ok (.lload_n 3, 1) := by decide +kernel
theorem dr_PS_unitCost_71 : decode bc_PS_unitCost 71 = .ok (.lreturn, 1) := by decide +kernel
theorem dr_PS_waysCross_0 : decode bc_PS_waysCross 0 = .ok (.aload_n 0, 1) := by decide +kernel
theorem dr_PS_waysCross_1 : decode bc_PS_waysCross 1 = .ok (.getfield 19, 3) := by decide +kernel
theorem dr_PS_waysCross_4 : decode bc_PS_waysCross 4 = .ok (.getfield 209, 3) := by decide +kernel
theorem dr_PS_waysCross_7 : decode bc_PS_waysCross 7 = .ok (.aload_n 0, 1) := by decide +kernel
theorem dr_PS_waysCross_8 : decode bc_PS_waysCross 8 = .ok (.getfield 10, 3) := by decide +kernel
theorem dr_PS_waysCross_11 : decode bc_PS_waysCross 11 = .ok (.getfield 122, 3) := by decide +kernel
theorem dr_PS_waysCross_14 : decode bc_PS_waysCross 14 = .ok (.iload_n 1, 1) := by decide +kernel
theorem dr_PS_waysCross_15 : decode bc_PS_waysCross 15 = .ok (.iaload, 1) := by decide +kernel
theorem dr_PS_waysCross_16 : decode bc_PS_waysCross 16 = .ok (.baload, 1) := by decide +kernel
theorem dr_PS_waysCross_17 : decode bc_PS_waysCross 17 = .ok (.ifCond .eq 23, 3) := by decide +kernel
theorem dr_PS_waysCross_20 : decode bc_PS_waysCross 20 = .ok (.aload_n 0, 1) := by decide +kernel
theorem dr_PS_waysCross_21 : decode bc_PS_waysCross 21 = .ok (.getfield 19, 3) := by decide +kernel
theorem dr_PS_waysCross_24 : decode bc_PS_waysCross 24 = .ok (.getfield 209, 3) := by decide +kernel
theorem dr_PS_waysCross_27 : decode bc_PS_waysCross 27 = .ok (.aload_n 0, 1) := by decide +kernel
theorem dr_PS_waysCross_28 : decode bc_PS_waysCross 28 = .ok (.getfield 10, 3) := by decide +kernel
theorem dr_PS_waysCross_31 : decode bc_PS_waysCross 31 = .ok (.getfield 122, 3) := by decide +kernel
theorem dr_PS_waysCross_34 : decode bc_PS_waysCross 34 = .ok (.iload_n 2, 1) := by decide +kernel
theorem dr_PS_waysCross_35 : decode bc_PS_waysCross 35 = .ok (.iaload, 1) := by decide +kernel
theorem dr_PS_waysCross_36 : decode bc_PS_waysCross 36 = .ok (.baload, 1) := by decide +kernel
theorem dr_PS_waysCross_37 : decode bc_PS_waysCross 37 = .ok (.ifCond .ne 5, 3) := by decide +kernel
theorem dr_PS_waysCross_40 : decode bc_PS_waysCross 40 = .ok (.iconst 0, 1) := by decide +kernel
theorem dr_PS_waysCross_41 : decode bc_PS_waysCross 41 = .ok (.ireturn, 1) := by decide +kernel
theorem dr_PS_waysCross_42 : decode bc_PS_waysCross 42 = .ok (.aload_n 0, 1) := by decide +kernel
theorem dr_PS_waysCross_43 : decode bc_PS_waysCross 43 = .ok (.iload_n 1, 1) := by decide +kernel
theorem dr_PS_waysCross_44 : decode bc_PS_waysCross 44 = .ok (.iload_n 2, 1) := by decide +kernel
theorem dr_PS_waysCross_45 : decode bc_PS_waysCross 45 = .ok (.invokevirtual 260, 3) := by decide +kernel
theorem dr_PS_waysCross_48 : decode bc_PS_waysCross 48 = .ok (.ifCond .eq 16, 3) := by decide +kernel
theorem dr_PS_waysCross_51 : decode bc_PS_waysCross 51 = .ok (.aload_n 0, 1) := by decide +kernel
theorem dr_PS_waysCross_52 : decode bc_PS_waysCross 52 = .ok (.iload_n 2, 1) := by decide +kernel
theorem dr_PS_waysCross_53 : decode bc_PS_waysCross 53 = .ok (.iload_n 1, 1) := by decide +kernel
theorem dr_PS_waysCross_54 : decode bc_PS_waysCross 54 = .ok (.invokevirtual 260, 3) := by decide +kernel
theorem dr_PS_waysCross_57 : decode bc_PS_waysCross 57 = .ok (.ifCond .eq 7, 3) := by decide +kernel
theorem dr_PS_waysCross_60 : decode bc_PS_waysCross 60 = .ok (.iconst 1, 1) := by decide +kernel
theorem dr_PS_waysCross_61 : decode bc_PS_waysCross 61 = .ok (.goto 4, 3) := by decide +kernel
theorem dr_PS_waysCross_64 : decode bc_PS_waysCross 64 = .ok (.iconst 0, 1) := by decide +kernel
theorem dr_PS_waysCross_65 : decode bc_PS_waysCross 65 = .ok (.ireturn, 1) := by decide +kernel
theorem dr_PS_partsEnds_0 : decode bc_PS_partsEnds 0 = .ok (.aload_n 0, 1) := by decide +kernel
theorem dr_PS_partsEnds_1 : decode bc_PS_partsEnds 1 = .ok (.getfield 10, 3) := by decide +kernel
theorem dr_PS_partsEnds_4 : decode bc_PS_partsEnds 4 = .ok (.getfield 122, 3) := by decide +kernel
theorem dr_PS_partsEnds_7 : decode bc_PS_partsEnds 7 = .ok (.iload_n 2, 1) := by decide +kernel
theorem dr_PS_partsEnds_8 : decode bc_PS_partsEnds 8 = .ok (.iaload, 1) := by decide +kernel
theorem dr_PS_partsEnds_9 : decode bc_PS_partsEnds 9 = .ok (.istore_n 3, 1) := by decide +kernel
theorem dr_PS_partsEnds_10 : decode bc_PS_partsEnds 10 = .ok (.aload_n 0, 1) := by decide +kernel
theorem dr_PS_partsEnds_11 : decode bc_PS_partsEnds 11 = .ok (.iload_n 1, 1) := by decide +kernel
theorem dr_PS_partsEnds_12 : decode bc_PS_partsEnds 12 = .ok (.aload_n 0, 1) := by decide +kernel
theorem dr_PS_partsEnds_13 : decode bc_PS_partsEnds 13 = .ok (.getfield 10, 3) := by decide +kernel
theorem dr_PS_partsEnds_16 : decode bc_PS_partsEnds 16 = .ok (.getfield 216, 3) := by decide +kernel
theorem dr_PS_partsEnds_19 : decode bc_PS_partsEnds 19 = .ok (.iload_n 2, 1) := by decide +kernel
theorem dr_PS_partsEnds_20 : decode bc_PS_partsEnds 20 = .ok (.laload, 1) := by decide +kernel
theorem dr_PS_partsEnds_21 : decode bc_PS_partsEnds 21 = .ok (.aload_n 0, 1) := by decide +kernel
theorem dr_PS_partsEnds_22 : decode bc_PS_partsEnds 22 = .ok (.getfield 10, 3) := by decide +kernel
theorem dr_PS_partsEnds_25 : decode bc_PS_partsEnds 25 = .ok (.getfield 226, 3) := by decide +kernel
theorem dr_PS_partsEnds_28 : decode bc_PS_partsEnds 28 = .ok (.iload_n 2, 1) := by decide +kernel
theorem dr_PS_partsEnds_29 : decode bc_PS_partsEnds 29 = .ok (.laload, 1) := by decide +kernel
theorem dr_PS_partsEnds_30 : decode bc_PS_partsEnds 30 = .ok (.invokevirtual 263, 3) := by decide +kernel
theorem dr_PS_partsEnds_33 : decode bc_PS_partsEnds 33 = .ok (.lstore 4, 2) := by decide +kernel
theorem dr_PS_partsEnds_35 : decode bc_PS_partsEnds 35 = .ok (.aload_n 0, 1) := by decide +kernel
theorem dr_PS_partsEnds_36 : decode bc_PS_partsEnds 36 = .ok (.iload_n 1, 1) := by decide +kernel
theorem dr_PS_partsEnds_37 : decode bc_PS_partsEnds 37 = .ok (.aload_n 0, 1) := by decide +kernel
theorem dr_PS_partsEnds_38 : decode bc_PS_partsEnds 38 = .ok (.getfield 19, 3) := by decide +kernel
theorem dr_PS_partsEnds_41 : decode bc_PS_partsEnds 41 = .ok (.getfield 212, 3) := by decide +kernel
theorem dr_PS_partsEnds_44 : decode bc_PS_partsEnds 44 = .ok (.iload_n 3, 1) := by decide +kernel
theorem dr_PS_partsEnds_45 : decode bc_PS_partsEnds 45 = .ok (.laload, 1) := by decide +kernel
theorem dr_PS_partsEnds_46 : decode bc_PS_partsEnds 46 = .ok (.aload_n 0, 1) := by decide +kernel
theorem dr_PS_partsEnds_47 : decode bc_PS_partsEnds 47 = .ok (.getfield 19, 3) := by decide +kernel
theorem dr_PS_partsEnds_50 : decode bc_PS_partsEnds 50 = .ok (.getfield 223, 3) := by decide +kernel
theorem dr_PS_partsEnds_53 : decode bc_PS_partsEnds 53 = .ok (.iload_n 3, 1) := by decide +kernel
theorem dr_PS_partsEnds_54 : decode bc_PS_partsEnds 54 = .ok (.laload, 1) := by decide +kernel
theorem dr_PS_partsEnds_55 : decode bc_PS_partsEnds 55 = .ok (.invokevirtual 263, 3) := by decide +kernel
theorem dr_PS_partsEnds_58 : decode bc_PS_partsEnds 58 = .ok (.lstore 6, 2) := by decide +kernel
theorem dr_PS_partsEnds_60 : decode bc_PS_partsEnds 60 = .ok (.lload 4, 2) := by decide +kernel
theorem dr_PS_partsEnds_62 : decode bc_PS_partsEnds 62 = .ok (.lconst 0, 1) := by decide +kernel
theorem dr_PS_partsEnds_63 : decode bc_PS_partsEnds 63 = .ok (.lcmp, 1) := by decide +kernel
theorem dr_PS_partsEnds_64 : decode bc_PS_partsEnds 64 = .ok (.ifCond .ge 10, 3) := by decide +kernel
theorem dr_PS_partsEnds_67 : decode bc_PS_partsEnds 67 = .ok (.lload 6, 2) := by decide +kernel
theorem dr_PS_partsEnds_69 : decode bc_PS_partsEnds 69 = .ok (.lconst 0, 1) := by decide +kernel
theorem dr_PS_partsEnds_70 : decode bc_PS_partsEnds 70 = .ok (.lcmp, 1) := by decide +kernel
theorem dr_PS_partsEnds_71 : decode bc_PS_partsEnds 71 = .ok (.ifCond .gt 17, 3) := by decide +kernel
theorem dr_PS_partsEnds_74 : decode bc_PS_partsEnds 74 = .ok (.lload 4, 2) := by decide +kernel
theorem dr_PS_partsEnds_76 : decode bc_PS_partsEnds 76 = .ok (.lconst 0, 1) := by decide +kernel
theorem dr_PS_partsEnds_77 : decode bc_PS_partsEnds 77 = .ok (.lcmp, 1) := by decide +kernel
theorem dr_PS_partsEnds_78 : decode bc_PS_partsEnds 78 = .ok (.ifCond .le 14, 3) := by decide +kernel
theorem dr_PS_partsEnds_81 : decode bc_PS_partsEnds 81 = .ok (.lload 6, 2) := by decide +kernel
theorem dr_PS_partsEnds_83 : decode bc_PS_partsEnds 83 = .ok (.lconst 0, 1) := by decide +kernel
theorem dr_PS_partsEnds_84 : decode bc_PS_partsEnds 84 = .ok (.lcmp, 1) := by decide +kernel
theorem dr_PS_partsEnds_85 : decode bc_PS_partsEnds 85 = .ok (.ifCond .ge 7, 3) := by decide +kernel
theorem dr_PS_partsEnds_88 : decode bc_PS_partsEnds 88 = .ok (.iconst 1, 1) := by decide +kernel
theorem dr_PS_partsEnds_89 : decode bc_PS_partsEnds 89 = .ok (.goto 4, 3) := by decide +kernel
theorem dr_PS_partsEnds_92 : decode bc_PS_partsEnds 92 = .ok (.iconst 0, 1) := by decide +kernel
theorem dr_PS_partsEnds_93 : decode bc_PS_partsEnds 93 = .ok (.ireturn, 1) := by decide +kernel
