theorem dr_Gt_init_0 : decode bc_Gt_init 0 = .ok (.aload_n 0, 1) := by decide +kernel
theorem dr_Gt_init_1 : decode bc_Gt_init 1 = .ok (.invokespecial 3, 3) := by decide +kernel
theorem dr_Gt_init_4 : decode bc_Gt_init 4 = .ok (.aload_n 0, 1) := by decide +kernel
theorem dr_Gt_init_5 : decode bc_Gt_init 5 = .ok (.bipush 20, 2) := by decide +kernel
theorem dr_Gt_init_7 : decode bc_Gt_init 7 = .ok (.newarray .int, 2) := by decide +kernel
theorem dr_Gt_init_9 : decode bc_Gt_init 9 = .ok (.putfield 9, 3) := by decide +kernel
theorem dr_Gt_init_12 : decode bc_Gt_init 12 = .ok (.aload_n 0, 1) := by decide +kernel
theorem dr_Gt_init_13 : decode bc_Gt_init 13 = .ok (.bipush 20, 2) := by decide +kernel
theorem dr_Gt_init_15 : decode bc_Gt_init 15 = .ok (.newarray .int, 2) := by decide +kernel
theorem dr_Gt_init_17 : decode bc_Gt_init 17 = .ok (.putfield 15, 3) := by decide +kernel
theorem dr_Gt_init_20 : decode bc_Gt_init 20 = .ok (.return_, 1) := by decide +kernel
theorem dr_Gt_add_0 : decode bc_Gt_add 0 = .ok (.aload_n 0, 1) := by decide +kernel
theorem dr_Gt_add_1 : decode bc_Gt_add 1 = .ok (.getfield 18, 3) := by decide +kernel
theorem dr_Gt_add_4 : decode bc_Gt_add 4 = .ok (.bipush 20, 2) := by decide +kernel
theorem dr_Gt_add_6 : decode bc_Gt_add 6 = .ok (.if_icmp .lt 5, 3) := by decide +kernel
theorem dr_Gt_add_9 : decode bc_Gt_add 9 = .ok (.iconst (-1), 1) := by decide +kernel
theorem dr_Gt_add_10 : decode bc_Gt_add 10 = .ok (.ireturn, 1) := by decide +kernel
theorem dr_Gt_add_11 : decode bc_Gt_add 11 = .ok (.aload_n 0, 1) := by decide +kernel
theorem dr_Gt_add_12 : decode bc_Gt_add 12 = .ok (.getfield 9, 3) := by decide +kernel
theorem dr_Gt_add_15 : decode bc_Gt_add 15 = .ok (.aload_n 0, 1) := by decide +kernel
theorem dr_Gt_add_16 : decode bc_Gt_add 16 = .ok (.getfield 18, 3) := by decide +kernel
theorem dr_Gt_add_19 : decode bc_Gt_add 19 = .ok (.iload_n 1, 1) := by decide +kernel
theorem dr_Gt_add_20 : decode bc_Gt_add 20 = .ok (.iastore, 1) := by decide +kernel
theorem dr_Gt_add_21 : decode bc_Gt_add 21 = .ok (.aload_n 0, 1) := by decide +kernel
theorem dr_Gt_add_22 : decode bc_Gt_add 22 = .ok (.getfield 15, 3) := by decide +kernel
theorem dr_Gt_add_25 : decode bc_Gt_add 25 = .ok (.aload_n 0, 1) := by decide +kernel
theorem dr_Gt_add_26 : decode bc_Gt_add 26 = .ok (.getfield 18, 3) := by decide +kernel
theorem dr_Gt_add_29 : decode bc_Gt_add 29 = .ok (.iload_n 2, 1) := by decide +kernel
theorem dr_Gt_add_30 : decode bc_Gt_add 30 = .ok (.iastore, 1) := by decide +kernel
theorem dr_Gt_add_31 : decode bc_Gt_add 31 = .ok (.aload_n 0, 1) := by decide +kernel
theorem dr_Gt_add_32 : decode bc_Gt_add 32 = .ok (.dup, 1) := by decide +kernel
theorem dr_Gt_add_33 : decode bc_Gt_add 33 = .ok (.getfield 18, 3) := by decide +kernel
theorem dr_Gt_add_36 : decode bc_Gt_add 36 = .ok (.iconst 1, 1) := by decide +kernel
theorem dr_Gt_add_37 : decode bc_Gt_add 37 = .ok (.iadd, 1) := by decide +kernel
theorem dr_Gt_add_38 : decode bc_Gt_add 38 = .ok (.putfield 18, 3) := by decide +kernel
theorem dr_Gt_add_41 : decode bc_Gt_add 41 = .ok (.aload_n 0, 1) := by decide +kernel
theorem dr_Gt_add_42 : decode bc_Gt_add 42 = .ok (.getfield 18, 3) := by decide +kernel
theorem dr_Gt_add_45 : decode bc_Gt_add 45 = .ok (.iconst 1, 1) := by decide +kernel
theorem dr_Gt_add_46 : decode bc_Gt_add 46 = .ok (.isub, 1) := by decide +kernel
theorem dr_Gt_add_47 : decode bc_Gt_add 47 = .ok (.ireturn, 1) := by decide +kernel
theorem dr_Gt_areEqual_0 : decode bc_Gt_areEqual 0 = .ok (.aload_n 0, 1) := by decide +kernel
theorem dr_Gt_areEqual_1 : decode bc_Gt_areEqual 1 = .ok (.getfield 9, 3) := by decide +kernel
theorem dr_Gt_areEqual_4 : decode bc_Gt_areEqual 4 = .ok (.iload_n 1, 1) := by decide +kernel
theorem dr_Gt_areEqual_5 : decode bc_Gt_areEqual 5 = .ok (.iaload, 1) := by decide +kernel
theorem dr_Gt_areEqual_6 : decode bc_Gt_areEqual 6 = .ok (.aload_n 0, 1) := by decide +kernel
theorem dr_Gt_areEqual_7 : decode bc_Gt_areEqual 7 = .ok (.getfield 9, 3) := by decide +kernel
theorem dr_Gt_areEqual_10 : decode bc_Gt_areEqual 10 = .ok (.iload_n 2, 1) := by decide +kernel
theorem dr_Gt_areEqual_11 : decode bc_Gt_areEqual 11 = .ok (.iaload, 1) := by decide +kernel
theorem dr_Gt_areEqual_12 : decode bc_Gt_areEqual 12 = .ok (.if_icmp .eq 5, 3) := by decide +kernel
theorem dr_Gt_areEqual_15 : decode bc_Gt_areEqual 15 = .ok (.iconst 0, 1) := by decide +kernel
theorem dr_Gt_areEqual_16 : decode bc_Gt_areEqual 16 = .ok (.ireturn, 1) := by decide +kernel
theorem dr_Gt_areEqual_17 : decode bc_Gt_areEqual 17 = .ok (.iconst 0, 1) := by decide +kernel
theorem dr_Gt_areEqual_18 : decode bc_Gt_areEqual 18 = .ok (.istore_n 3, 1) := by decide +kernel
theorem dr_Gt_areEqual_19 : decode bc_Gt_areEqual 19 = .ok (.iload_n 3, 1) := by decide +kernel
theorem dr_Gt_areEqual_20 : decode bc_Gt_areEqual 20 = .ok (.getstatic 22, 3) := by decide +kernel
theorem dr_Gt_areEqual_23 : decode bc_Gt_areEqual 23 = .ok (.aload_n 0, 1) := by decide +kernel
theorem dr_Gt_areEqual_24 : decode bc_Gt_areEqual 24 = .ok (.getfield 9, 3) := by decide +kernel
theorem dr_Gt_areEqual_27 : decode bc_Gt_areEqual 27 = .ok (.iload_n 1, 1) := by decide +kernel
theorem dr_Gt_areEqual_28 : decode bc_Gt_areEqual 28 = .ok (.iaload, 1) := by decide +kernel
theorem dr_Gt_areEqual_29 : decode bc_Gt_areEqual 29 = .ok (.iaload, 1) := by decide +kernel
theorem dr_Gt_areEqual_30 : decode bc_Gt_areEqual 30 = .ok (.if_icmp .ge 40, 3) := by decide +kernel
theorem dr_Gt_areEqual_33 : decode bc_Gt_areEqual 33 = .ok (.aload_n 0, 1) := by decide +kernel
theorem dr_Gt_areEqual_34 : decode bc_Gt_areEqual 34 = .ok (.getfield 15, 3) := by decide +kernel
theorem dr_Gt_areEqual_37 : decode bc_Gt_areEqual 37 = .ok (.iload_n 1, 1) := by decide +kernel
theorem dr_Gt_areEqual_38 : decode bc_Gt_areEqual 38 = .ok (.iaload, 1) := by decide +kernel
theorem dr_Gt_areEqual_39 : decode bc_Gt_areEqual 39 = .ok (.aload_n 0, 1) := by decide +kernel
theorem dr_Gt_areEqual_40 : decode bc_Gt_areEqual 40 = .ok (.getfield 9, 3) := by decide +kernel
theorem dr_Gt_areEqual_43 : decode bc_Gt_areEqual 43 = .ok (.iload_n 1, 1) := by decide +kernel
theorem dr_Gt_areEqual_44 : decode bc_Gt_areEqual 44 = .ok (.iaload, 1) := by decide +kernel
theorem dr_Gt_areEqual_45 : decode bc_Gt_areEqual 45 = .ok (.getstatic 25, 3) := by decide +kernel
theorem dr_Gt_areEqual_48 : decode bc_Gt_areEqual 48 = .ok (.iload_n 3, 1) := by decide +kernel
theorem dr_Gt_areEqual_49 : decode bc_Gt_areEqual 49 = .ok (.iaload, 1) := by decide +kernel
theorem dr_Gt_areEqual_50 : decode bc_Gt_areEqual 50 = .ok (.invokestatic 28, 3) := by decide +kernel
theorem dr_Gt_areEqual_53 : decode bc_Gt_areEqual 53 = .ok (.aload_n 0, 1) := by decide +kernel
theorem dr_Gt_areEqual_54 : decode bc_Gt_areEqual 54 = .ok (.getfield 15, 3) := by decide +kernel
theorem dr_Gt_areEqual_57 : decode bc_Gt_areEqual 57 = .ok (.iload_n 2, 1) := by decide +kernel
theorem dr_Gt_areEqual_58 : decode bc_Gt_areEqual 58 = .ok (.iaload, 1) := by decide +kernel
theorem dr_Gt_areEqual_59 : decode bc_Gt_areEqual 59 = .ok (.if_icmp .ne 5, 3) := by decide +kernel
theorem dr_Gt_areEqual_62 : decode bc_Gt_areEqual 62 = .ok (.iconst 1, 1) := by decide +kernel
theorem dr_Gt_areEqual_63 : decode bc_Gt_areEqual 63 = .ok (.ireturn, 1) := by decide +kernel
theorem dr_Gt_areEqual_64 : decode bc_Gt_areEqual 64 = .ok (.iinc 3 1, 3) := by decide +kernel
theorem dr_Gt_areEqual_67 : decode bc_Gt_areEqual 67 = .ok (.goto (-48), 3) := by decide +kernel
theorem dr_Gt_areEqual_70 : decode bc_Gt_areEqual 70 = .ok (.iconst 0, 1) := by decide +kernel
theorem dr_Gt_areEqual_71 : decode bc_Gt_areEqual 71 = .ok (.ireturn, 1) := by decide +kernel
theorem dr_Gt_reordered_0 : decode bc_Gt_reordered 0 = .ok (.iconst 0, 1) := by decide +kernel
theorem dr_Gt_reordered_1 : decode bc_Gt_reordered 1 = .ok (.istore_n 3, 1) := by decide +kernel
theorem dr_Gt_reordered_2 : decode bc_Gt_reordered 2 = .ok (.iconst 0, 1) := by decide +kernel
theorem dr_Gt_reordered_3 : decode bc_Gt_reordered 3 = .ok (.istore 4, 2) := by decide +kernel
theorem dr_Gt_reordered_5 : decode bc_Gt_reordered 5 = .ok (.iload 4, 2) := by decide +kernel
theorem dr_Gt_reordered_7 : decode bc_Gt_reordered 7 = .ok (.iconst 1, 1) := by decide +kernel
theorem dr_Gt_reordered_8 : decode bc_Gt_reordered 8 = .ok (.iload_n 1, 1) := by decide +kernel
theorem dr_Gt_reordered_9 : decode bc_Gt_reordered 9 = .ok (.ishl, 1) := by decide +kernel
theorem dr_Gt_reordered_10 : decode bc_Gt_reordered 10 = .ok (.if_icmp .ge 26, 3) := by decide +kernel
theorem dr_Gt_reordered_13 : decode bc_Gt_reordered 13 = .ok (.iload_n 3, 1) := by decide +kernel
theorem dr_Gt_reordered_14 : decode bc_Gt_reordered 14 = .ok (.iload_n 0, 1) := by decide +kernel
theorem dr_Gt_reordered_15 : decode bc_Gt_reordered 15 = .ok (.iload 4, 2) := by decide +kernel
theorem dr_Gt_reordered_17 : decode bc_Gt_reordered 17 = .ok (.iload_n 1, 1) := by decide +kernel
theorem dr_Gt_reordered_18 : decode bc_Gt_reordered 18 = .ok (.iload_n 2, 1) := by decide +kernel
theorem dr_Gt_reordered_19 : decode bc_Gt_reordered 19 = .ok (.invokestatic 32, 3) := by decide +kernel
theorem dr_Gt_reordered_22 : decode bc_Gt_reordered 22 = .ok (.ishr, 1) := by decide +kernel
theorem dr_Gt_reordered_23 : decode bc_Gt_reordered 23 = .ok (.iconst 1, 1) := by decide +kernel
theorem dr_Gt_reordered_24 : decode bc_Gt_reordered 24 = .ok (.iand, 1) := by decide +kernel
theorem dr_Gt_reordered_25 : decode bc_Gt_reordered 25 = .ok (.iload 4, 2) := by decide +kernel
theorem dr_Gt_reordered_27 : decode bc_Gt_reordered 27 = .ok (.ishl, 1) := by decide +kernel
theorem dr_Gt_reordered_28 : decode bc_Gt_reordered 28 = .ok (.ior, 1) := by decide +kernel
theorem dr_Gt_reordered_29 : decode bc_Gt_reordered 29 = .ok (.istore_n 3, 1) := by decide +kernel
theorem dr_Gt_reordered_30 : decode bc_Gt_reordered 30 = .ok (.iinc 4 1, 3) := by decide +kernel
theorem dr_Gt_reordered_33 : decode bc_Gt_reordered 33 = .ok (.goto (-28), 3) := by decide +kernel
theorem dr_Gt_reordered_36 : decode bc_Gt_reordered 36 = .ok (.iload_n 3, 1) := by decide +kernel
theorem dr_Gt_reordered_37 : decode bc_Gt_reordered 37 = .ok (.ireturn, 1) := by decide +kernel
theorem dr_Gt_reorderedInputs_0 : decode bc_Gt_reorderedInputs 0 = .ok (.iconst 0, 1) := by decide +kernel
theorem dr_Gt_reorderedInputs_1 : decode bc_Gt_reorderedInputs 1 = .ok (.istore_n 3, 1) := by decide +kernel
theorem dr_Gt_reorderedInputs_2 : decode bc_Gt_reorderedInputs 2 = .ok (.iconst 0, 1) := by decide +kernel
theorem dr_Gt_reorderedInputs_3 : decode bc_Gt_reorderedInputs 3 = .ok (.istore 4, 2) := by decide +kernel
theorem dr_Gt_reorderedInputs_5 : decode bc_Gt_reorderedInputs 5 = .ok (.iload 4, 2) := by decide +kernel
theorem dr_Gt_reorderedInputs_7 : decode bc_Gt_reorderedInputs 7 = .ok (.iload_n 1, 1) := by decide +kernel
theorem dr_Gt_reorderedInputs_8 : decode bc_Gt_reorderedInputs 8 = .ok (.if_icmp .ge 27, 3) := by decide +kernel
theorem dr_Gt_reorderedInputs_11 : decode bc_Gt_reorderedInputs 11 = .ok (.iload_n 3, 1) := by decide +kernel
theorem dr_Gt_reorderedInputs_12 : decode bc_Gt_reorderedInputs 12 = .ok (.iload_n 0, 1) := by decide +kernel
theorem dr_Gt_reorderedInputs_13 : decode bc_Gt_reorderedInputs 13 = .ok (.iload 4, 2) := by decide +kernel
theorem dr_Gt_reorderedInputs_15 : decode bc_Gt_reorderedInputs 15 = .ok (.ishr, 1) := by decide +kernel
theorem dr_Gt_reorderedInputs_16 : decode bc_Gt_reorderedInputs 16 = .ok (.iconst 1, 1) := by decide +kernel
theorem dr_Gt_reorderedInputs_17 : decode bc_Gt_reorderedInputs 17 = .ok (.iand, 1) := by decide +kernel
theorem dr_Gt_reorderedInputs_18 : decode bc_Gt_reorderedInputs 18 = .ok (.iload_n 2, 1) := by decide +kernel
theorem dr_Gt_reorderedInputs_19 : decode bc_Gt_reorderedInputs 19 = .ok (.iconst 4, 1) := by decide +kernel
theorem dr_Gt_reorderedInputs_20 : decode bc_Gt_reorderedInputs 20 = .ok (.iload 4, 2) := by decide +kernel
theorem dr_Gt_reorderedInputs_22 : decode bc_Gt_reorderedInputs 22 = .ok (.imul, 1) := by decide +kernel
theorem dr_Gt_reorderedInputs_23 : decode bc_Gt_reorderedInputs 23 = .ok (.ishr, 1) := by decide +kernel
theorem dr_Gt_reorderedInputs_24 : decode bc_Gt_reorderedInputs 24 = .ok (.iconst 3, 1) := by decide +kernel
theorem dr_Gt_reorderedInputs_25 : decode bc_Gt_reorderedInputs 25 = .ok (.iand, 1) := by decide +kernel
theorem dr_Gt_reorderedInputs_26 : decode bc_Gt_reorderedInputs 26 = .ok (.ishl, 1) := by decide +kernel
theorem dr_Gt_reorderedInputs_27 : decode bc_Gt_reorderedInputs 27 = .ok (.ior, 1) := by decide +kernel
theorem dr_Gt_reorderedInputs_28 : decode bc_Gt_reorderedInputs 28 = .ok (.istore_n 3, 1) := by decide +kernel
theorem dr_Gt_reorderedInputs_29 : decode bc_Gt_reorderedInputs 29 = .ok (.iinc 4 1, 3) := by decide +kernel
theorem dr_Gt_reorderedInputs_32 : decode bc_Gt_reorderedInputs 32 = .ok (.goto (-27), 3) := by decide +kernel
theorem dr_Gt_reorderedInputs_35 : decode bc_Gt_reorderedInputs 35 = .ok (.iload_n 3, 1) := by decide +kernel
theorem dr_Gt_reorderedInputs_36 : decode bc_Gt_reorderedInputs 36 = .ok (.ireturn, 1) := by decide +kernel
theorem dr_Hi_init_0 : decode bc_Hi_init 0 = .ok (.aload_n 0, 1) := by decide +kernel
theorem dr_Hi_init_1 : decode bc_Hi_init 1 = .ok (.invokespecial 3, 3) := by decide +kernel
theorem dr_Hi_init_4 : decode bc_Hi_init 4 = .ok (.aload_n 0, 1) := by decide +kernel
theorem dr_Hi_init_5 : decode bc_Hi_init 5 = .ok (.bipush 11, 2) := by decide +kernel
theorem dr_Hi_init_7 : decode bc_Hi_init 7 = .ok (.bipush 80, 2) := by decide +kernel
theorem dr_Hi_init_9 : decode bc_Hi_init 9 = .ok (.multianewarray 11 2, 4) := by decide +kernel
theorem dr_Hi_init_13 : decode bc_Hi_init 13 = .ok (.putfield 13, 3) := by decide +kernel
theorem dr_Hi_init_16 : decode bc_Hi_init 16 = .ok (.aload_n 0, 1) := by decide +kernel
theorem dr_Hi_init_17 : decode bc_Hi_init 17 = .ok (.bipush 11, 2) := by decide +kernel
theorem dr_Hi_init_19 : decode bc_Hi_init 19 = .ok (.newarray .int, 2) := by decide +kernel
theorem dr_Hi_init_21 : decode bc_Hi_init 21 = .ok (.putfield 16, 3) := by decide +kernel
theorem dr_Hi_init_24 : decode bc_Hi_init 24 = .ok (.return_, 1) := by decide +kernel
theorem dr_Hi_begin_0 : decode bc_Hi_begin 0 = .ok (.aload_n 1, 1) := by decide +kernel
theorem dr_Hi_begin_1 : decode bc_Hi_begin 1 = .ok (.iconst 0, 1) := by decide +kernel
theorem dr_Hi_begin_2 : decode bc_Hi_begin 2 = .ok (.aload_n 0, 1) := by decide +kernel
theorem dr_Hi_begin_3 : decode bc_Hi_begin 3 = .ok (.getfield 13, 3) := by decide +kernel
theorem dr_Hi_begin_6 : decode bc_Hi_begin 6 = .ok (.aload_n 0, 1) := by decide +kernel
theorem dr_Hi_begin_7 : decode bc_Hi_begin 7 = .ok (.getfield 20, 3) := by decide +kernel
theorem dr_Hi_begin_10 : decode bc_Hi_begin 10 = .ok (.aaload, 1) := by decide +kernel
theorem dr_Hi_begin_11 : decode bc_Hi_begin 11 = .ok (.iconst 0, 1) := by decide +kernel
theorem dr_Hi_begin_12 : decode bc_Hi_begin 12 = .ok (.iload_n 2, 1) := by decide +kernel
theorem dr_Hi_begin_13 : decode bc_Hi_begin 13 = .ok (.invokestatic 24, 3) := by decide +kernel
theorem dr_Hi_begin_16 : decode bc_Hi_begin 16 = .ok (.aload_n 0, 1) := by decide +kernel
theorem dr_Hi_begin_17 : decode bc_Hi_begin 17 = .ok (.getfield 16, 3) := by decide +kernel
theorem dr_Hi_begin_20 : decode bc_Hi_begin 20 = .ok (.aload_n 0, 1) := by decide +kernel
theorem dr_Hi_begin_21 : decode bc_Hi_begin 21 = .ok (.getfield 20, 3) := by decide +kernel
theorem dr_Hi_begin_24 : decode bc_Hi_begin 24 = .ok (.iload_n 2, 1) := by decide +kernel
theorem dr_Hi_begin_25 : decode bc_Hi_begin 25 = .ok (.iastore, 1) := by decide +kernel
theorem dr_Hi_begin_26 : decode bc_Hi_begin 26 = .ok (.aload_n 0, 1) := by decide +kernel
theorem dr_Hi_begin_27 : decode bc_Hi_begin 27 = .ok (.getfield 13, 3) := by decide +kernel
theorem dr_Hi_begin_30 : decode bc_Hi_begin 30 = .ok (.aload_n 0, 1) := by decide +kernel
theorem dr_Hi_begin_31 : decode bc_Hi_begin 31 = .ok (.getfield 20, 3) := by decide +kernel
theorem dr_Hi_begin_34 : decode bc_Hi_begin 34 = .ok (.aaload, 1) := by decide +kernel
theorem dr_Hi_begin_35 : decode bc_Hi_begin 35 = .ok (.areturn, 1) := by decide +kernel
theorem dr_Hi_keep_0 : decode bc_Hi_keep 0 = .ok (.aload_n 0, 1) := by decide +kernel
theorem dr_Hi_keep_1 : decode bc_Hi_keep 1 = .ok (.aload_n 0, 1) := by decide +kernel
theorem dr_Hi_keep_2 : decode bc_Hi_keep 2 = .ok (.getfield 20, 3) := by decide +kernel
theorem dr_Hi_keep_5 : decode bc_Hi_keep 5 = .ok (.iconst 1, 1) := by decide +kernel
theorem dr_Hi_keep_6 : decode bc_Hi_keep 6 = .ok (.iadd, 1) := by decide +kernel
theorem dr_Hi_keep_7 : decode bc_Hi_keep 7 = .ok (.bipush 11, 2) := by decide +kernel
theorem dr_Hi_keep_9 : decode bc_Hi_keep 9 = .ok (.irem, 1) := by decide +kernel
theorem dr_Hi_keep_10 : decode bc_Hi_keep 10 = .ok (.putfield 20, 3) := by decide +kernel
theorem dr_Hi_keep_13 : decode bc_Hi_keep 13 = .ok (.aload_n 0, 1) := by decide +kernel
theorem dr_Hi_keep_14 : decode bc_Hi_keep 14 = .ok (.getfield 30, 3) := by decide +kernel
theorem dr_Hi_keep_17 : decode bc_Hi_keep 17 = .ok (.bipush 10, 2) := by decide +kernel
theorem dr_Hi_keep_19 : decode bc_Hi_keep 19 = .ok (.if_icmp .ge 13, 3) := by decide +kernel
theorem dr_Hi_keep_22 : decode bc_Hi_keep 22 = .ok (.aload_n 0, 1) := by decide +kernel
theorem dr_Hi_keep_23 : decode bc_Hi_keep 23 = .ok (.dup, 1) := by decide +kernel
theorem dr_Hi_keep_24 : decode bc_Hi_keep 24 = .ok (.getfield 30, 3) := by decide +kernel
theorem dr_Hi_keep_27 : decode bc_Hi_keep 27 = .ok (.iconst 1, 1) := by decide +kernel
theorem dr_Hi_keep_28 : decode bc_Hi_keep 28 = .ok (.iadd, 1) := by decide +kernel
theorem dr_Hi_keep_29 : decode bc_Hi_keep 29 = .ok (.putfield 30, 3) := by decide +kernel
theorem dr_Hi_keep_32 : decode bc_Hi_keep 32 = .ok (.return_, 1) := by decide +kernel
theorem dr_Hi_restore_0 : decode bc_Hi_restore 0 = .ok (.aload_n 0, 1) := by decide +kernel
theorem dr_Hi_restore_1 : decode bc_Hi_restore 1 = .ok (.getfield 30, 3) := by decide +kernel
theorem dr_Hi_restore_4 : decode bc_Hi_restore 4 = .ok (.ifCond .ne 5, 3) := by decide +kernel
theorem dr_Hi_restore_7 : decode bc_Hi_restore 7 = .ok (.iconst 0, 1) := by decide +kernel
theorem dr_Hi_restore_8 : decode bc_Hi_restore 8 = .ok (.ireturn, 1) := by decide +kernel
theorem dr_Hi_restore_9 : decode bc_Hi_restore 9 = .ok (.aload_n 0, 1) := by decide +kernel
theorem dr_Hi_restore_10 : decode bc_Hi_restore 10 = .ok (.dup, 1) := by decide +kernel
theorem dr_Hi_restore_11 : decode bc_Hi_restore 11 = .ok (.getfield 30, 3) := by decide +kernel
theorem dr_Hi_restore_14 : decode bc_Hi_restore 14 = .ok (.iconst 1, 1) := by decide +kernel
theorem dr_Hi_restore_15 : decode bc_Hi_restore 15 = .ok (.isub, 1) := by decide +kernel
theorem dr_Hi_restore_16 : decode bc_Hi_restore 16 = .ok (.putfield 30, 3) := by decide +kernel
theorem dr_Hi_restore_19 : decode bc_Hi_restore 19 = .ok (.aload_n 0, 1) := by decide +kernel
theorem dr_Hi_restore_20 : decode bc_Hi_restore 20 = .ok (.aload_n 0, 1) := by decide +kernel
theorem dr_Hi_restore_21 : decode bc_Hi_restore 21 = .ok (.getfield 20, 3) := by decide +kernel
theorem dr_Hi_restore_24 : decode bc_Hi_restore 24 = .ok (.bipush 11, 2) := by decide +kernel
theorem dr_Hi_restore_26 : decode bc_Hi_restore 26 = .ok (.iadd, 1) := by decide +kernel
theorem dr_Hi_restore_27 : decode bc_Hi_restore 27 = .ok (.iconst 1, 1) := by decide +kernel
theorem dr_Hi_restore_28 : decode bc_Hi_restore 28 = .ok (.isub, 1) := by decide +kernel
theorem dr_Hi_restore_29 : decode bc_Hi_restore 29 = .ok (.bipush 11, 2) := by decide +kernel
theorem dr_Hi_restore_31 : decode bc_Hi_restore 31 = .ok (.irem, 1) := by decide +kernel
theorem dr_Hi_restore_32 : decode bc_Hi_restore 32 = .ok (.putfield 20, 3) := by decide +kernel
theorem dr_Hi_restore_35 : decode bc_Hi_restore 35 = .ok (.aload_n 0, 1) := by decide +kernel
theorem dr_Hi_restore_36 : decode bc_Hi_restore 36 = .ok (.getfield 13, 3) := by decide +kernel
theorem dr_Hi_restore_39 : decode bc_Hi_restore 39 = .ok (.aload_n 0, 1) := by decide +kernel
theorem dr_Hi_restore_40 : decode bc_Hi_restore 40 = .ok (.getfield 20, 3) := by decide +kernel
theorem dr_Hi_restore_43 : decode bc_Hi_restore 43 = .ok (.aaload, 1) := by decide +kernel
theorem dr_Hi_restore_44 : decode bc_Hi_restore 44 = .ok (.iconst 0, 1) := by decide +kernel
theorem dr_Hi_restore_45 : decode bc_Hi_restore 45 = .ok (.aload_n 1, 1) := by decide +kernel
theorem dr_Hi_restore_46 : decode bc_Hi_restore 46 = .ok (.iconst 0, 1) := by decide +kernel
theorem dr_Hi_restore_47 : decode bc_Hi_restore 47 = .ok (.aload_n 0, 1) := by decide +kernel
theorem dr_Hi_restore_48 : decode bc_Hi_restore 48 = .ok (.getfield 16, 3) := by decide +kernel
theorem dr_Hi_restore_51 : decode bc_Hi_restore 51 = .ok (.aload_n 0, 1) := by decide +kernel
theorem dr_Hi_restore_52 : decode bc_Hi_restore 52 = .ok (.getfield 20, 3) := by decide +kernel
theorem dr_Hi_restore_55 : decode bc_Hi_restore 55 = .ok (.iaload, 1) := by decide +kernel
theorem dr_Hi_restore_56 : decode bc_Hi_restore 56 = .ok (.invokestatic 24, 3) := by decide +kernel
theorem dr_Hi_restore_59 : decode bc_Hi_restore 59 = .ok (.iconst 1, 1) := by decide +kernel
theorem dr_Hi_restore_60 : decode bc_Hi_restore 60 = .ok (.ireturn, 1) := by decide +kernel
theorem dr_Ma_init_0 : decode bc_Ma_init 0 = .ok (.aload_n 0, 1) := by decide +kernel
theorem dr_Ma_init_1 : decode bc_Ma_init 1 = .ok (.invokespecial 3, 3) := by decide +kernel
theorem dr_Ma_init_4 : decode bc_Ma_init 4 = .ok (.aload_n 0, 1) := by decide +kernel
theorem dr_Ma_init_5 : decode bc_Ma_init 5 = .ok (.bipush 13, 2) := by decide +kernel
theorem dr_Ma_init_7 : decode bc_Ma_init 7 = .ok (.newarray .int, 2) := by decide +kernel
theorem dr_Ma_init_9 : decode bc_Ma_init 9 = .ok (.putfield 11, 3) := by decide +kernel
theorem dr_Ma_init_12 : decode bc_Ma_init 12 = .ok (.aload_n 0, 1) := by decide +kernel
theorem dr_Ma_init_13 : decode bc_Ma_init 13 = .ok (.bipush 13, 2) := by decide +kernel
theorem dr_Ma_init_15 : decode bc_Ma_init 15 = .ok (.bipush 13, 2) := by decide +kernel
theorem dr_Ma_init_17 : decode bc_Ma_init 17 = .ok (.multianewarray 15 2, 4) := by decide +kernel
theorem dr_Ma_init_21 : decode bc_Ma_init 21 = .ok (.putfield 17, 3) := by decide +kernel
theorem dr_Ma_init_24 : decode bc_Ma_init 24 = .ok (.aload_n 0, 1) := by decide +kernel
theorem dr_Ma_init_25 : decode bc_Ma_init 25 = .ok (.bipush 13, 2) := by decide +kernel
theorem dr_Ma_init_27 : decode bc_Ma_init 27 = .ok (.newarray .long, 2) := by decide +kernel
theorem dr_Ma_init_29 : decode bc_Ma_init 29 = .ok (.putfield 20, 3) := by decide +kernel
theorem dr_Ma_init_32 : decode bc_Ma_init 32 = .ok (.aload_n 0, 1) := by decide +kernel
theorem dr_Ma_init_33 : decode bc_Ma_init 33 = .ok (.bipush 13, 2) := by decide +kernel
theorem dr_Ma_init_35 : decode bc_Ma_init 35 = .ok (.newarray .long, 2) := by decide +kernel
theorem dr_Ma_init_37 : decode bc_Ma_init 37 = .ok (.putfield 24, 3) := by decide +kernel
theorem dr_Ma_init_40 : decode bc_Ma_init 40 = .ok (.aload_n 0, 1) := by decide +kernel
theorem dr_Ma_init_41 : decode bc_Ma_init 41 = .ok (.bipush 13, 2) := by decide +kernel
theorem dr_Ma_init_43 : decode bc_Ma_init 43 = .ok (.newarray .int, 2) := by decide +kernel
theorem dr_Ma_init_45 : decode bc_Ma_init 45 = .ok (.putfield 27, 3) := by decide +kernel
theorem dr_Ma_init_48 : decode bc_Ma_init 48 = .ok (.aload_n 0, 1) := by decide +kernel
theorem dr_Ma_init_49 : decode bc_Ma_init 49 = .ok (.bipush 13, 2) := by decide +kernel
theorem dr_Ma_init_51 : decode bc_Ma_init 51 = .ok (.newarray .int, 2) := by decide +kernel
theorem dr_Ma_init_53 : decode bc_Ma_init 53 = .ok (.putfield 30, 3) := by decide +kernel
theorem dr_Ma_init_56 : decode bc_Ma_init 56 = .ok (.aload_n 0, 1) := by decide +kernel
theorem dr_Ma_init_57 : decode bc_Ma_init 57 = .ok (.bipush 13, 2) := by decide +kernel
theorem dr_Ma_init_59 : decode bc_Ma_init 59 = .ok (.newarray .long, 2) := by decide +kernel
theorem dr_Ma_init_61 : decode bc_Ma_init 61 = .ok (.putfield 33, 3) := by decide +kernel
theorem dr_Ma_init_64 : decode bc_Ma_init 64 = .ok (.aload_n 0, 1) := by decide +kernel
theorem dr_Ma_init_65 : decode bc_Ma_init 65 = .ok (.bipush 13, 2) := by decide +kernel
theorem dr_Ma_init_67 : decode bc_Ma_init 67 = .ok (.newarray .boolean, 2) := by decide +kernel
theorem dr_Ma_init_69 : decode bc_Ma_init 69 = .ok (.putfield 36, 3) := by decide +kernel
theorem dr_Ma_init_72 : decode bc_Ma_init 72 = .ok (.aload_n 0, 1) := by decide +kernel
theorem dr_Ma_init_73 : decode bc_Ma_init 73 = .ok (.bipush 13, 2) := by decide +kernel
theorem dr_Ma_init_75 : decode bc_Ma_init 75 = .ok (.newarray .int, 2) := by decide +kernel
theorem dr_Ma_init_77 : decode bc_Ma_init 77 = .ok (.putfield 40, 3) := by decide +kernel
theorem dr_Ma_init_80 : decode bc_Ma_init 80 = .ok (.return_, 1) := by decide +kernel
theorem dr_Ma_add_0 : decode bc_Ma_add 0 = .ok (.aload_n 0, 1) := by decide +kernel
theorem dr_Ma_add_1 : decode bc_Ma_add 1 = .ok (.getfield 43, 3) := by decide +kernel
theorem dr_Ma_add_4 : decode bc_Ma_add 4 = .ok (.bipush 12, 2) := by decide +kernel
theorem dr_Ma_add_6 : decode bc_Ma_add 6 = .ok (.if_icmp .ge 23, 3) := by decide +kernel
theorem dr_Ma_add_9 : decode bc_Ma_add 9 = .ok (.aload_n 0, 1) := by decide +kernel
theorem dr_Ma_add_10 : decode bc_Ma_add 10 = .ok (.dup, 1) := by decide +kernel
theorem dr_Ma_add_11 : decode bc_Ma_add 11 = .ok (.getfield 43, 3) := by decide +kernel
theorem dr_Ma_add_14 : decode bc_Ma_add 14 = .ok (.iconst 1, 1) := by decide +kernel
theorem dr_Ma_add_15 : decode bc_Ma_add 15 = .ok (.iadd, 1) := by decide +kernel
theorem dr_Ma_add_16 : decode bc_Ma_add 16 = .ok (.putfield 43, 3) := by decide +kernel
theorem dr_Ma_add_19 : decode bc_Ma_add 19 = .ok (.aload_n 0, 1) := by decide +kernel
theorem dr_Ma_add_20 : decode bc_Ma_add 20 = .ok (.getfield 11, 3) := by decide +kernel
theorem dr_Ma_add_23 : decode bc_Ma_add 23 = .ok (.aload_n 0, 1) := by decide +kernel
theorem dr_Ma_add_24 : decode bc_Ma_add 24 = .ok (.getfield 43, 3) := by decide +kernel
theorem dr_Ma_add_27 : decode bc_Ma_add 27 = .ok (.iload_n 1, 1) := by decide +kernel
theorem dr_Ma_add_28 : decode bc_Ma_add 28 = .ok (.iastore, 1) := by decide +kernel
theorem dr_Ma_add_29 : decode bc_Ma_add 29 = .ok (.return_, 1) := by decide +kernel
theorem dr_Ma_forbidOwn_0 : decode bc_Ma_forbidOwn 0 = .ok (.aload_n 0, 1) := by decide +kernel
theorem dr_Ma_forbidOwn_1 : decode bc_Ma_forbidOwn 1 = .ok (.iload_n 1, 1) := by decide +kernel
theorem dr_Ma_forbidOwn_2 : decode bc_Ma_forbidOwn 2 = .ok (.invokevirtual 47, 3) := by decide +kernel
theorem dr_Ma_forbidOwn_5 : decode bc_Ma_forbidOwn 5 = .ok (.istore_n 2, 1) := by decide +kernel
theorem dr_Ma_forbidOwn_6 : decode bc_Ma_forbidOwn 6 = .ok (.aload_n 0, 1) := by decide +kernel
theorem dr_Ma_forbidOwn_7 : decode bc_Ma_forbidOwn 7 = .ok (.getfield 17, 3) := by decide +kernel
theorem dr_Ma_forbidOwn_10 : decode bc_Ma_forbidOwn 10 = .ok (.iload_n 2, 1) := by decide +kernel
theorem dr_Ma_forbidOwn_11 : decode bc_Ma_forbidOwn 11 = .ok (.aaload, 1) := by decide +kernel
theorem dr_Ma_forbidOwn_12 : decode bc_Ma_forbidOwn 12 = .ok (.iload_n 2, 1) := by decide +kernel
theorem dr_Ma_forbidOwn_13 : decode bc_Ma_forbidOwn 13 = .ok (.ldc2_w 51, 3) := by decide +kernel
theorem dr_Ma_forbidOwn_16 : decode bc_Ma_forbidOwn 16 = .ok (.lastore, 1) := by decide +kernel
theorem dr_Ma_forbidOwn_17 : decode bc_Ma_forbidOwn 17 = .ok (.return_, 1) := by decide +kernel
theorem dr_Ma_forbidOthers_0 : decode bc_Ma_forbidOthers 0 = .ok (.aload_n 0, 1) := by decide +kernel
theorem dr_Ma_forbidOthers_1 : decode bc_Ma_forbidOthers 1 = .ok (.iload_n 1, 1) := by decide +kernel
theorem dr_Ma_forbidOthers_2 : decode bc_Ma_forbidOthers 2 = .ok (.invokevirtual 47, 3) := by decide +kernel
theorem dr_Ma_forbidOthers_5 : decode bc_Ma_forbidOthers 5 = .ok (.istore_n 2, 1) := by decide +kernel
theorem dr_Ma_forbidOthers_6 : decode bc_Ma_forbidOthers 6 = .ok (.iconst 1, 1) := by decide +kernel
theorem dr_Ma_forbidOthers_7 : decode bc_Ma_forbidOthers 7 = .ok (.istore_n 3, 1) := by decide +kernel
theorem dr_Ma_forbidOthers_8 : decode bc_Ma_forbidOthers 8 = .ok (.iload_n 3, 1) := by decide +kernel
theorem dr_Ma_forbidOthers_9 : decode bc_Ma_forbidOthers 9 = .ok (.aload_n 0, 1) := by decide +kernel
theorem dr_Ma_forbidOthers_10 : decode bc_Ma_forbidOthers 10 = .ok (.getfield 43, 3) := by decide +kernel
theorem dr_Ma_forbidOthers_13 : decode bc_Ma_forbidOthers 13 = .ok (.if_icmp .gt 25, 3) := by decide +kernel
theorem dr_Ma_forbidOthers_16 : decode bc_Ma_forbidOthers 16 = .ok (.iload_n 3, 1) := by decide +kernel
theorem dr_Ma_forbidOthers_17 : decode bc_Ma_forbidOthers 17 = .ok (.iload_n 2, 1) := by decide +kernel
theorem dr_Ma_forbidOthers_18 : decode bc_Ma_forbidOthers 18 = .ok (.if_icmp .eq 14, 3) := by decide +kernel
theorem dr_Ma_forbidOthers_21 : decode bc_Ma_forbidOthers 21 = .ok (.aload_n 0, 1) := by decide +kernel
theorem dr_Ma_forbidOthers_22 : decode bc_Ma_forbidOthers 22 = .ok (.getfield 17, 3) := by decide +kernel
theorem dr_Ma_forbidOthers_25 : decode bc_Ma_forbidOthers 25 = .ok (.iload_n 2, 1) := by decide +kernel
theorem dr_Ma_forbidOthers_26 : decode bc_Ma_forbidOthers 26 = .ok (.aaload, 1) := by decide +kernel
theorem dr_Ma_forbidOthers_27 : decode bc_Ma_forbidOthers 27 = .ok (.iload_n 3, 1) := by decide +kernel
theorem dr_Ma_forbidOthers_28 : decode bc_Ma_forbidOthers 28 = .ok (.ldc2_w 51, 3) := by decide +kernel
theorem dr_Ma_forbidOthers_31 : decode bc_Ma_forbidOthers 31 = .ok (.lastore, 1) := by decide +kernel
theorem dr_Ma_forbidOthers_32 : decode bc_Ma_forbidOthers 32 = .ok (.iinc 3 1, 3) := by decide +kernel
theorem dr_Ma_forbidOthers_35 : decode bc_Ma_forbidOthers 35 = .ok (.goto (-27), 3) := by decide +kernel
theorem dr_Ma_forbidOthers_38 : decode bc_Ma_forbidOthers 38 = .ok (.return_, 1) := by decide +kernel
theorem dr_Ma_rowOfUnit_0 : decode bc_Ma_rowOfUnit 0 = .ok (.iconst 1, 1) := by decide +kernel
theorem dr_Ma_rowOfUnit_1 : decode bc_Ma_rowOfUnit 1 = .ok (.istore_n 2, 1) := by decide +kernel
theorem dr_Ma_rowOfUnit_2 : decode bc_Ma_rowOfUnit 2 = .ok (.iload_n 2, 1) := by decide +kernel
theorem dr_Ma_rowOfUnit_3 : decode bc_Ma_rowOfUnit 3 = .ok (.aload_n 0, 1) := by decide +kernel
theorem dr_Ma_rowOfUnit_4 : decode bc_Ma_rowOfUnit 4 = .ok (.getfield 43, 3) := by decide +kernel
theorem dr_Ma_rowOfUnit_7 : decode bc_Ma_rowOfUnit 7 = .ok (.if_icmp .gt 21, 3) := by decide +kernel
theorem dr_Ma_rowOfUnit_10 : decode bc_Ma_rowOfUnit 10 = .ok (.aload_n 0, 1) := by decide +kernel
theorem dr_Ma_rowOfUnit_11 : decode bc_Ma_rowOfUnit 11 = .ok (.getfield 11, 3) := by decide +kernel
theorem dr_Ma_rowOfUnit_14 : decode bc_Ma_rowOfUnit 14 = .ok (.iload_n 2, 1) := by decide +kernel
theorem dr_Ma_rowOfUnit_15 : decode bc_Ma_rowOfUnit 15 = .ok (.iaload, 1) := by decide +kernel
theorem dr_Ma_rowOfUnit_16 : decode bc_Ma_rowOfUnit 16 = .ok (.iload_n 1, 1) := by decide +kernel
theorem dr_Ma_rowOfUnit_17 : decode bc_Ma_rowOfUnit 17 = .ok (.if_icmp .ne 5, 3) := by decide +kernel
theorem dr_Ma_rowOfUnit_20 : decode bc_Ma_rowOfUnit 20 = .ok (.iload_n 2, 1) := by decide +kernel
theorem dr_Ma_rowOfUnit_21 : decode bc_Ma_rowOfUnit 21 = .ok (.ireturn, 1) := by decide +kernel
theorem dr_Ma_rowOfUnit_22 : decode bc_Ma_rowOfUnit 22 = .ok (.iinc 2 1, 3) := by decide +kernel
theorem dr_Ma_rowOfUnit_25 : decode bc_Ma_rowOfUnit 25 = .ok (.goto (-23), 3) := by decide +kernel
theorem dr_Ma_rowOfUnit_28 : decode bc_Ma_rowOfUnit 28 = .ok (.iconst 0, 1) := by decide +kernel
theorem dr_Ma_rowOfUnit_29 : decode bc_Ma_rowOfUnit 29 = .ok (.ireturn, 1) := by decide +kernel
theorem dr_Ma_sumIfKept_0 : decode bc_Ma_sumIfKept 0 = .ok (.lconst 0, 1) := by decide +kernel
theorem dr_Ma_sumIfKept_1 : decode bc_Ma_sumIfKept 1 = .ok (.lstore_n 1, 1) := by decide +kernel
theorem dr_Ma_sumIfKept_2 : decode bc_Ma_sumIfKept 2 = .ok (.iconst 1, 1) := by decide +kernel
theorem dr_Ma_sumIfKept_3 : decode bc_Ma_sumIfKept 3 = .ok (.istore_n 3, 1) := by decide +kernel
theorem dr_Ma_sumIfKept_4 : decode bc_Ma_sumIfKept 4 = .ok (.iload_n 3, 1) := by decide +kernel
theorem dr_Ma_sumIfKept_5 : decode bc_Ma_sumIfKept 5 = .ok (.aload_n 0, 1) := by decide +kernel
theorem dr_Ma_sumIfKept_6 : decode bc_Ma_sumIfKept 6 = .ok (.getfield 43, 3) := by decide +kernel
theorem dr_Ma_sumIfKept_9 : decode bc_Ma_sumIfKept 9 = .ok (.if_icmp .gt 20, 3) := by decide +kernel
theorem dr_Ma_sumIfKept_12 : decode bc_Ma_sumIfKept 12 = .ok (.lload_n 1, 1) := by decide +kernel
theorem dr_Ma_sumIfKept_13 : decode bc_Ma_sumIfKept 13 = .ok (.aload_n 0, 1) := by decide +kernel
theorem dr_Ma_sumIfKept_14 : decode bc_Ma_sumIfKept 14 = .ok (.getfield 17, 3) := by decide +kernel
theorem dr_Ma_sumIfKept_17 : decode bc_Ma_sumIfKept 17 = .ok (.iload_n 3, 1) := by decide +kernel
theorem dr_Ma_sumIfKept_18 : decode bc_Ma_sumIfKept 18 = .ok (.aaload, 1) := by decide +kernel
theorem dr_Ma_sumIfKept_19 : decode bc_Ma_sumIfKept 19 = .ok (.iload_n 3, 1) := by decide +kernel
theorem dr_Ma_sumIfKept_20 : decode bc_Ma_sumIfKept 20 = .ok (.laload, 1) := by decide +kernel
theorem dr_Ma_sumIfKept_21 : decode bc_Ma_sumIfKept 21 = .ok (.ladd, 1) := by decide +kernel
theorem dr_Ma_sumIfKept_22 : decode bc_Ma_sumIfKept 22 = .ok (.lstore_n 1, 1) := by decide +kernel
theorem dr_Ma_sumIfKept_23 : decode bc_Ma_sumIfKept 23 = .ok (.iinc 3 1, 3) := by decide +kernel
theorem dr_Ma_sumIfKept_26 : decode bc_Ma_sumIfKept 26 = .ok (.goto (-22), 3) := by decide +kernel
theorem dr_Ma_sumIfKept_29 : decode bc_Ma_sumIfKept 29 = .ok (.lload_n 1, 1) := by decide +kernel
theorem dr_Ma_sumIfKept_30 : decode bc_Ma_sumIfKept 30 = .ok (.lreturn, 1) := by decide +kernel
theorem dr_Ma_solve_0 : decode bc_Ma_solve 0 = .ok (.aload_n 0, 1) := by decide +kernel
theorem dr_Ma_solve_1 : decode bc_Ma_solve 1 = .ok (.getfield 20, 3) := by decide +kernel
theorem dr_Ma_solve_4 : decode bc_Ma_solve 4 = .ok (.lconst 0, 1) := by decide +kernel
theorem dr_Ma_solve_5 : decode bc_Ma_solve 5 = .ok (.invokestatic 53, 3) := by decide +kernel
theorem dr_Ma_solve_8 : decode bc_Ma_solve 8 = .ok (.aload_n 0, 1) := by decide +kernel
theorem dr_Ma_solve_9 : decode bc_Ma_solve 9 = .ok (.getfield 24, 3) := by decide +kernel
theorem dr_Ma_solve_12 : decode bc_Ma_solve 12 = .ok (.lconst 0, 1) := by decide +kernel
theorem dr_Ma_solve_13 : decode bc_Ma_solve 13 = .ok (.invokestatic 53, 3) := by decide +kernel
theorem dr_Ma_solve_16 : decode bc_Ma_solve 16 = .ok (.aload_n 0, 1) := by decide +kernel
theorem dr_Ma_solve_17 : decode bc_Ma_solve 17 = .ok (.getfield 27, 3) := by decide +kernel
theorem dr_Ma_solve_20 : decode bc_Ma_solve 20 = .ok (.iconst 0, 1) := by decide +kernel
theorem dr_Ma_solve_21 : decode bc_Ma_solve 21 = .ok (.invokestatic 59, 3) := by decide +kernel
theorem dr_Ma_solve_24 : decode bc_Ma_solve 24 = .ok (.iconst 1, 1) := by decide +kernel
theorem dr_Ma_solve_25 : decode bc_Ma_solve 25 = .ok (.istore_n 1, 1) := by decide +kernel
theorem dr_Ma_solve_26 : decode bc_Ma_solve 26 = .ok (.iload_n 1, 1) := by decide +kernel
theorem dr_Ma_solve_27 : decode bc_Ma_solve 27 = .ok (.aload_n 0, 1) := by decide +kernel
theorem dr_Ma_solve_28 : decode bc_Ma_solve 28 = .ok (.getfield 43, 3) := by decide +kernel
theorem dr_Ma_solve_31 : decode bc_Ma_solve 31 = .ok (.if_icmp .gt 14, 3) := by decide +kernel
theorem dr_Ma_solve_34 : decode bc_Ma_solve 34 = .ok (.aload_n 0, 1) := by decide +kernel
theorem dr_Ma_solve_35 : decode bc_Ma_solve 35 = .ok (.iload_n 1, 1) := by decide +kernel
theorem dr_Ma_solve_36 : decode bc_Ma_solve 36 = .ok (.invokevirtual 62, 3) := by decide +kernel
theorem dr_Ma_solve_39 : decode bc_Ma_solve 39 = .ok (.iinc 1 1, 3) := by decide +kernel
theorem dr_Ma_solve_42 : decode bc_Ma_solve 42 = .ok (.goto (-16), 3) := by decide +kernel
theorem dr_Ma_solve_45 : decode bc_Ma_solve 45 = .ok (.lconst 0, 1) := by decide +kernel
theorem dr_Ma_solve_46 : decode bc_Ma_solve 46 = .ok (.lstore_n 1, 1) := by decide +kernel
theorem dr_Ma_solve_47 : decode bc_Ma_solve 47 = .ok (.iconst 1, 1) := by decide +kernel
theorem dr_Ma_solve_48 : decode bc_Ma_solve 48 = .ok (.istore_n 3, 1) := by decide +kernel
theorem dr_Ma_solve_49 : decode bc_Ma_solve 49 = .ok (.iload_n 3, 1) := by decide +kernel
theorem dr_Ma_solve_50 : decode bc_Ma_solve 50 = .ok (.aload_n 0, 1) := by decide +kernel
theorem dr_Ma_solve_51 : decode bc_Ma_solve 51 = .ok (.getfield 43, 3) := by decide +kernel
theorem dr_Ma_solve_54 : decode bc_Ma_solve 54 = .ok (.if_icmp .gt 25, 3) := by decide +kernel
theorem dr_Ma_solve_57 : decode bc_Ma_solve 57 = .ok (.lload_n 1, 1) := by decide +kernel
theorem dr_Ma_solve_58 : decode bc_Ma_solve 58 = .ok (.aload_n 0, 1) := by decide +kernel
theorem dr_Ma_solve_59 : decode bc_Ma_solve 59 = .ok (.getfield 17, 3) := by decide +kernel
theorem dr_Ma_solve_62 : decode bc_Ma_solve 62 = .ok (.aload_n 0, 1) := by decide +kernel
theorem dr_Ma_solve_63 : decode bc_Ma_solve 63 = .ok (.getfield 27, 3) := by decide +kernel
theorem dr_Ma_solve_66 : decode bc_Ma_solve 66 = .ok (.iload_n 3, 1) := by decide +kernel
theorem dr_Ma_solve_67 : decode bc_Ma_solve 67 = .ok (.iaload, 1) := by decide +kernel
theorem dr_Ma_solve_68 : decode bc_Ma_solve 68 = .ok (.aaload, 1) := by decide +kernel
theorem dr_Ma_solve_69 : decode bc_Ma_solve 69 = .ok (.iload_n 3, 1) := by decide +kernel
theorem dr_Ma_solve_70 : decode bc_Ma_solve 70 = .ok (.laload, 1) := by decide +kernel
theorem dr_Ma_solve_71 : decode bc_Ma_solve 71 = .ok (.ladd, 1) := by decide +kernel
theorem dr_Ma_solve_72 : decode bc_Ma_solve 72 = .ok (.lstore_n 1, 1) := by decide +kernel
theorem dr_Ma_solve_73 : decode bc_Ma_solve 73 = .ok (.iinc 3 1, 3) := by decide +kernel
theorem dr_Ma_solve_76 : decode bc_Ma_solve 76 = .ok (.goto (-27), 3) := by decide +kernel
theorem dr_Ma_solve_79 : decode bc_Ma_solve 79 = .ok (.lload_n 1, 1) := by decide +kernel
theorem dr_Ma_solve_80 : decode bc_Ma_solve 80 = .ok (.lreturn, 1) := by decide +kernel
theorem dr_Ma_insert_0 : decode bc_Ma_insert 0 = .ok (.aload_n 0, 1) := by decide +kernel
theorem dr_Ma_insert_1 : decode bc_Ma_insert 1 = .ok (.getfield 27, 3) := by decide +kernel
theorem dr_Ma_insert_4 : decode bc_Ma_insert 4 = .ok (.iconst 0, 1) := by decide +kernel
theorem dr_Ma_insert_5 : decode bc_Ma_insert 5 = .ok (.iload_n 1, 1) := by decide +kernel
theorem dr_Ma_insert_6 : decode bc_Ma_insert 6 = .ok (.iastore, 1) := by decide +kernel
theorem dr_Ma_insert_7 : decode bc_Ma_insert 7 = .ok (.aload_n 0, 1) := by decide +kernel
theorem dr_Ma_insert_8 : decode bc_Ma_insert 8 = .ok (.invokevirtual 66, 3) := by decide +kernel
theorem dr_Ma_insert_11 : decode bc_Ma_insert 11 = .ok (.aload_n 0, 1) := by decide +kernel
theorem dr_Ma_insert_12 : decode bc_Ma_insert 12 = .ok (.getfield 33, 3) := by decide +kernel
theorem dr_Ma_insert_15 : decode bc_Ma_insert 15 = .ok (.ldc2_w 69, 3) := by decide +kernel
theorem dr_Ma_insert_18 : decode bc_Ma_insert 18 = .ok (.invokestatic 53, 3) := by decide +kernel
theorem dr_Ma_insert_21 : decode bc_Ma_insert 21 = .ok (.iconst 0, 1) := by decide +kernel
theorem dr_Ma_insert_22 : decode bc_Ma_insert 22 = .ok (.istore_n 2, 1) := by decide +kernel
theorem dr_Ma_insert_23 : decode bc_Ma_insert 23 = .ok (.iconst 0, 1) := by decide +kernel
theorem dr_Ma_insert_24 : decode bc_Ma_insert 24 = .ok (.istore_n 3, 1) := by decide +kernel
theorem dr_Ma_insert_25 : decode bc_Ma_insert 25 = .ok (.iload_n 3, 1) := by decide +kernel
theorem dr_Ma_insert_26 : decode bc_Ma_insert 26 = .ok (.aload_n 0, 1) := by decide +kernel
theorem dr_Ma_insert_27 : decode bc_Ma_insert 27 = .ok (.getfield 43, 3) := by decide +kernel
theorem dr_Ma_insert_30 : decode bc_Ma_insert 30 = .ok (.if_icmp .ge 24, 3) := by decide +kernel
theorem dr_Ma_insert_33 : decode bc_Ma_insert 33 = .ok (.aload_n 0, 1) := by decide +kernel
theorem dr_Ma_insert_34 : decode bc_Ma_insert 34 = .ok (.getfield 27, 3) := by decide +kernel
theorem dr_Ma_insert_37 : decode bc_Ma_insert 37 = .ok (.iload_n 2, 1) := by decide +kernel
theorem dr_Ma_insert_38 : decode bc_Ma_insert 38 = .ok (.iaload, 1) := by decide +kernel
theorem dr_Ma_insert_39 : decode bc_Ma_insert 39 = .ok (.ifCond .eq 15, 3) := by decide +kernel
theorem dr_Ma_insert_42 : decode bc_Ma_insert 42 = .ok (.aload_n 0, 1) := by decide +kernel
theorem dr_Ma_insert_43 : decode bc_Ma_insert 43 = .ok (.iload_n 2, 1) := by decide +kernel
theorem dr_Ma_insert_44 : decode bc_Ma_insert 44 = .ok (.invokevirtual 71, 3) := by decide +kernel
theorem dr_Ma_insert_47 : decode bc_Ma_insert 47 = .ok (.istore_n 2, 1) := by decide +kernel
theorem dr_Ma_insert_48 : decode bc_Ma_insert 48 = .ok (.iinc 3 1, 3) := by decide +kernel
theorem dr_Ma_insert_51 : decode bc_Ma_insert 51 = .ok (.goto (-26), 3) := by decide +kernel
theorem dr_Ma_insert_54 : decode bc_Ma_insert 54 = .ok (.aload_n 0, 1) := by decide +kernel
theorem dr_Ma_insert_55 : decode bc_Ma_insert 55 = .ok (.iload_n 2, 1) := by decide +kernel
theorem dr_Ma_insert_56 : decode bc_Ma_insert 56 = .ok (.invokevirtual 74, 3) := by decide +kernel
theorem dr_Ma_insert_59 : decode bc_Ma_insert 59 = .ok (.return_, 1) := by decide +kernel
theorem dr_Ma_forgetSeen_0 : decode bc_Ma_forgetSeen 0 = .ok (.iconst 0, 1) := by decide +kernel
theorem dr_Ma_forgetSeen_1 : decode bc_Ma_forgetSeen 1 = .ok (.istore_n 1, 1) := by decide +kernel
theorem dr_Ma_forgetSeen_2 : decode bc_Ma_forgetSeen 2 = .ok (.iload_n 1, 1) := by decide +kernel
theorem dr_Ma_forgetSeen_3 : decode bc_Ma_forgetSeen 3 = .ok (.aload_n 0, 1) := by decide +kernel
theorem dr_Ma_forgetSeen_4 : decode bc_Ma_forgetSeen 4 = .ok (.getfield 43, 3) := by decide +kernel
theorem dr_Ma_forgetSeen_7 : decode bc_Ma_forgetSeen 7 = .ok (.if_icmp .gt 16, 3) := by decide +kernel
theorem dr_Ma_forgetSeen_10 : decode bc_Ma_forgetSeen 10 = .ok (.aload_n 0, 1) := by decide +kernel
theorem dr_Ma_forgetSeen_11 : decode bc_Ma_forgetSeen 11 = .ok (.getfield 36, 3) := by decide +kernel
theorem dr_Ma_forgetSeen_14 : decode bc_Ma_forgetSeen 14 = .ok (.iload_n 1, 1) := by decide +kernel
theorem dr_Ma_forgetSeen_15 : decode bc_Ma_forgetSeen 15 = .ok (.iconst 0, 1) := by decide +kernel
theorem dr_Ma_forgetSeen_16 : decode bc_Ma_forgetSeen 16 = .ok (.bastore, 1) := by decide +kernel
theorem dr_Ma_forgetSeen_17 : decode bc_Ma_forgetSeen 17 = .ok (.iinc 1 1, 3) := by decide +kernel
theorem dr_Ma_forgetSeen_20 : decode bc_Ma_forgetSeen 20 = .ok (.goto (-18), 3) := by decide +kernel
theorem dr_Ma_forgetSeen_23 : decode bc_Ma_forgetSeen 23 = .ok (.return_, 1) := by decide +kernel
theorem dr_Ma_nextColumn_0 : decode bc_Ma_nextColumn 0 = .ok (.aload_n 0, 1) := by decide +kernel
theorem dr_Ma_nextColumn_1 : decode bc_Ma_nextColumn 1 = .ok (.getfield 36, 3) := by decide +kernel
theorem dr_Ma_nextColumn_4 : decode bc_Ma_nextColumn 4 = .ok (.iload_n 1, 1) := by decide +kernel
theorem dr_Ma_nextColumn_5 : decode bc_Ma_nextColumn 5 = .ok (.iconst 1, 1) := by decide +kernel
theorem dr_Ma_nextColumn_6 : decode bc_Ma_nextColumn 6 = .ok (.bastore, 1) := by decide +kernel
theorem dr_Ma_nextColumn_7 : decode bc_Ma_nextColumn 7 = .ok (.aload_n 0, 1) := by decide +kernel
theorem dr_Ma_nextColumn_8 : decode bc_Ma_nextColumn 8 = .ok (.getfield 27, 3) := by decide +kernel
theorem dr_Ma_nextColumn_11 : decode bc_Ma_nextColumn 11 = .ok (.iload_n 1, 1) := by decide +kernel
theorem dr_Ma_nextColumn_12 : decode bc_Ma_nextColumn 12 = .ok (.iaload, 1) := by decide +kernel
theorem dr_Ma_nextColumn_13 : decode bc_Ma_nextColumn 13 = .ok (.istore_n 2, 1) := by decide +kernel
theorem dr_Ma_nextColumn_14 : decode bc_Ma_nextColumn 14 = .ok (.iconst 0, 1) := by decide +kernel
theorem dr_Ma_nextColumn_15 : decode bc_Ma_nextColumn 15 = .ok (.istore_n 3, 1) := by decide +kernel
theorem dr_Ma_nextColumn_16 : decode bc_Ma_nextColumn 16 = .ok (.iconst 1, 1) := by decide +kernel
theorem dr_Ma_nextColumn_17 : decode bc_Ma_nextColumn 17 = .ok (.istore 4, 2) := by decide +kernel
theorem dr_Ma_nextColumn_19 : decode bc_Ma_nextColumn 19 = .ok (.iload 4, 2) := by decide +kernel
theorem dr_Ma_nextColumn_21 : decode bc_Ma_nextColumn 21 = .ok (.aload_n 0, 1) := by decide +kernel
theorem dr_Ma_nextColumn_22 : decode bc_Ma_nextColumn 22 = .ok (.getfield 43, 3) := by decide +kernel
theorem dr_Ma_nextColumn_25 : decode bc_Ma_nextColumn 25 = .ok (.if_icmp .gt 82, 3) := by decide +kernel
theorem dr_Ma_nextColumn_28 : decode bc_Ma_nextColumn 28 = .ok (.aload_n 0, 1) := by decide +kernel
theorem dr_Ma_nextColumn_29 : decode bc_Ma_nextColumn 29 = .ok (.getfield 36, 3) := by decide +kernel
theorem dr_Ma_nextColumn_32 : decode bc_Ma_nextColumn 32 = .ok (.iload 4, 2) := by decide +kernel
theorem dr_Ma_nextColumn_34 : decode bc_Ma_nextColumn 34 = .ok (.baload, 1) := by decide +kernel
theorem dr_Ma_nextColumn_35 : decode bc_Ma_nextColumn 35 = .ok (.ifCond .ne 66, 3) := by decide +kernel
theorem dr_Ma_nextColumn_38 : decode bc_Ma_nextColumn 38 = .ok (.aload_n 0, 1) := by decide +kernel
theorem dr_Ma_nextColumn_39 : decode bc_Ma_nextColumn 39 = .ok (.iload_n 2, 1) := by decide +kernel
theorem dr_Ma_nextColumn_40 : decode bc_Ma_nextColumn 40 = .ok (.iload 4, 2) := by decide +kernel
theorem dr_Ma_nextColumn_42 : decode bc_Ma_nextColumn 42 = .ok (.invokevirtual 77, 3) := by decide +kernel
theorem dr_Ma_nextColumn_45 : decode bc_Ma_nextColumn 45 = .ok (.lstore 5, 2) := by decide +kernel
theorem dr_Ma_nextColumn_47 : decode bc_Ma_nextColumn 47 = .ok (.lload 5, 2) := by decide +kernel
theorem dr_Ma_nextColumn_49 : decode bc_Ma_nextColumn 49 = .ok (.aload_n 0, 1) := by decide +kernel
theorem dr_Ma_nextColumn_50 : decode bc_Ma_nextColumn 50 = .ok (.getfield 33, 3) := by decide +kernel
theorem dr_Ma_nextColumn_53 : decode bc_Ma_nextColumn 53 = .ok (.iload 4, 2) := by decide +kernel
theorem dr_Ma_nextColumn_55 : decode bc_Ma_nextColumn 55 = .ok (.laload, 1) := by decide +kernel
theorem dr_Ma_nextColumn_56 : decode bc_Ma_nextColumn 56 = .ok (.lcmp, 1) := by decide +kernel
theorem dr_Ma_nextColumn_57 : decode bc_Ma_nextColumn 57 = .ok (.ifCond .ge 20, 3) := by decide +kernel
theorem dr_Ma_nextColumn_60 : decode bc_Ma_nextColumn 60 = .ok (.aload_n 0, 1) := by decide +kernel
theorem dr_Ma_nextColumn_61 : decode bc_Ma_nextColumn 61 = .ok (.getfield 33, 3) := by decide +kernel
theorem dr_Ma_nextColumn_64 : decode bc_Ma_nextColumn 64 = .ok (.iload 4, 2) := by decide +kernel
theorem dr_Ma_nextColumn_66 : decode bc_Ma_nextColumn 66 = .ok (.lload 5, 2) := by decide +kernel
theorem dr_Ma_nextColumn_68 : decode bc_Ma_nextColumn 68 = .ok (.lastore, 1) := by decide +kernel
theorem dr_Ma_nextColumn_69 : decode bc_Ma_nextColumn 69 = .ok (.aload_n 0, 1) := by decide +kernel
theorem dr_Ma_nextColumn_70 : decode bc_Ma_nextColumn 70 = .ok (.getfield 30, 3) := by decide +kernel
theorem dr_Ma_nextColumn_73 : decode bc_Ma_nextColumn 73 = .ok (.iload 4, 2) := by decide +kernel
theorem dr_Ma_nextColumn_75 : decode bc_Ma_nextColumn 75 = .ok (.iload_n 1, 1) := by decide +kernel
theorem dr_Ma_nextColumn_76 : decode bc_Ma_nextColumn 76 = .ok (.iastore, 1) := by decide +kernel
theorem dr_Ma_nextColumn_77 : decode bc_Ma_nextColumn 77 = .ok (.iload_n 3, 1) := by decide +kernel
theorem dr_Ma_nextColumn_78 : decode bc_Ma_nextColumn 78 = .ok (.ifCond .eq 20, 3) := by decide +kernel
theorem dr_Ma_nextColumn_81 : decode bc_Ma_nextColumn 81 = .ok (.aload_n 0, 1) := by decide +kernel
theorem dr_Ma_nextColumn_82 : decode bc_Ma_nextColumn 82 = .ok (.getfield 33, 3) := by decide +kernel
theorem dr_Ma_nextColumn_85 : decode bc_Ma_nextColumn 85 = .ok (.iload 4, 2) := by decide +kernel
theorem dr_Ma_nextColumn_87 : decode bc_Ma_nextColumn 87 = .ok (.laload, 1) := by decide +kernel
theorem dr_Ma_nextColumn_88 : decode bc_Ma_nextColumn 88 = .ok (.aload_n 0, 1) := by decide +kernel
theorem dr_Ma_nextColumn_89 : decode bc_Ma_nextColumn 89 = .ok (.getfield 33, 3) := by decide +kernel
theorem dr_Ma_nextColumn_92 : decode bc_Ma_nextColumn 92 = .ok (.iload_n 3, 1) := by decide +kernel
theorem dr_Ma_nextColumn_93 : decode bc_Ma_nextColumn 93 = .ok (.laload, 1) := by decide +kernel
theorem dr_Ma_nextColumn_94 : decode bc_Ma_nextColumn 94 = .ok (.lcmp, 1) := by decide +kernel
theorem dr_Ma_nextColumn_95 : decode bc_Ma_nextColumn 95 = .ok (.ifCond .ge 6, 3) := by decide +kernel
theorem dr_Ma_nextColumn_98 : decode bc_Ma_nextColumn 98 = .ok (.iload 4, 2) := by decide +kernel
theorem dr_Ma_nextColumn_100 : decode bc_Ma_nextColumn 100 = .ok (.istore_n 3, 1) := by decide +kernel
theorem dr_Ma_nextColumn_101 : decode bc_Ma_nextColumn 101 = .ok (.iinc 4 1, 3) := by decide +kernel
theorem dr_Ma_nextColumn_104 : decode bc_Ma_nextColumn 104 = .ok (.goto (-85), 3) := by decide +kernel
theorem dr_Ma_nextColumn_107 : decode bc_Ma_nextColumn 107 = .ok (.aload_n 0, 1) := by decide +kernel
theorem dr_Ma_nextColumn_108 : decode bc_Ma_nextColumn 108 = .ok (.aload_n 0, 1) := by decide +kernel
theorem dr_Ma_nextColumn_109 : decode bc_Ma_nextColumn 109 = .ok (.getfield 33, 3) := by decide +kernel
theorem dr_Ma_nextColumn_112 : decode bc_Ma_nextColumn 112 = .ok (.iload_n 3, 1) := by decide +kernel
theorem dr_Ma_nextColumn_113 : decode bc_Ma_nextColumn 113 = .ok (.laload, 1) := by decide +kernel
theorem dr_Ma_nextColumn_114 : decode bc_Ma_nextColumn 114 = .ok (.invokevirtual 81, 3) := by decide +kernel
theorem dr_Ma_nextColumn_117 : decode bc_Ma_nextColumn 117 = .ok (.iload_n 3, 1) := by decide +kernel
theorem dr_Ma_nextColumn_118 : decode bc_Ma_nextColumn 118 = .ok (.ireturn, 1) := by decide +kernel
theorem dr_Ma_changePrices_0 : decode bc_Ma_changePrices 0 = .ok (.iconst 0, 1) := by decide +kernel
theorem dr_Ma_changePrices_1 : decode bc_Ma_changePrices 1 = .ok (.istore_n 3, 1) := by decide +kernel
theorem dr_Ma_changePrices_2 : decode bc_Ma_changePrices 2 = .ok (.iload_n 3, 1) := by decide +kernel
theorem dr_Ma_changePrices_3 : decode bc_Ma_changePrices 3 = .ok (.aload_n 0, 1) := by decide +kernel
theorem dr_Ma_changePrices_4 : decode bc_Ma_changePrices 4 = .ok (.getfield 43, 3) := by decide +kernel
theorem dr_Ma_changePrices_7 : decode bc_Ma_changePrices 7 = .ok (.if_icmp .gt 56, 3) := by decide +kernel
theorem dr_Ma_changePrices_10 : decode bc_Ma_changePrices 10 = .ok (.aload_n 0, 1) := by decide +kernel
theorem dr_Ma_changePrices_11 : decode bc_Ma_changePrices 11 = .ok (.getfield 36, 3) := by decide +kernel
theorem dr_Ma_changePrices_14 : decode bc_Ma_changePrices 14 = .ok (.iload_n 3, 1) := by decide +kernel
theorem dr_Ma_changePrices_15 : decode bc_Ma_changePrices 15 = .ok (.baload, 1) := by decide +kernel
theorem dr_Ma_changePrices_16 : decode bc_Ma_changePrices 16 = .ok (.ifCond .eq 31, 3) := by decide +kernel
theorem dr_Ma_changePrices_19 : decode bc_Ma_changePrices 19 = .ok (.aload_n 0, 1) := by decide +kernel
theorem dr_Ma_changePrices_20 : decode bc_Ma_changePrices 20 = .ok (.getfield 20, 3) := by decide +kernel
theorem dr_Ma_changePrices_23 : decode bc_Ma_changePrices 23 = .ok (.aload_n 0, 1) := by decide +kernel
theorem dr_Ma_changePrices_24 : decode bc_Ma_changePrices 24 = .ok (.getfield 27, 3) := by decide +kernel
theorem dr_Ma_changePrices_27 : decode bc_Ma_changePrices 27 = .ok (.iload_n 3, 1) := by decide +kernel
theorem dr_Ma_changePrices_28 : decode bc_Ma_changePrices 28 = .ok (.iaload, 1) := by decide +kernel
theorem dr_Ma_changePrices_29 : decode bc_Ma_changePrices 29 = .ok (.dup2, 1) := by decide +kernel
theorem dr_Ma_changePrices_30 : decode bc_Ma_changePrices 30 = .ok (.laload, 1) := by decide +kernel
theorem dr_Ma_changePrices_31 : decode bc_Ma_changePrices 31 = .ok (.lload_n 1, 1) := by decide +kernel
theorem dr_Ma_changePrices_32 : decode bc_Ma_changePrices 32 = .ok (.ladd, 1) := by decide +kernel
theorem dr_Ma_changePrices_33 : decode bc_Ma_changePrices 33 = .ok (.lastore, 1) := by decide +kernel
theorem dr_Ma_changePrices_34 : decode bc_Ma_changePrices 34 = .ok (.aload_n 0, 1) := by decide +kernel
theorem dr_Ma_changePrices_35 : decode bc_Ma_changePrices 35 = .ok (.getfield 24, 3) := by decide +kernel
theorem dr_Ma_changePrices_38 : decode bc_Ma_changePrices 38 = .ok (.iload_n 3, 1) := by decide +kernel
theorem dr_Ma_changePrices_39 : decode bc_Ma_changePrices 39 = .ok (.dup2, 1) := by decide +kernel
theorem dr_Ma_changePrices_40 : decode bc_Ma_changePrices 40 = .ok (.laload, 1) := by decide +kernel
theorem dr_Ma_changePrices_41 : decode bc_Ma_changePrices 41 = .ok (.lload_n 1, 1) := by decide +kernel
theorem dr_Ma_changePrices_42 : decode bc_Ma_changePrices 42 = .ok (.lsub, 1) := by decide +kernel
theorem dr_Ma_changePrices_43 : decode bc_Ma_changePrices 43 = .ok (.lastore, 1) := by decide +kernel
theorem dr_Ma_changePrices_44 : decode bc_Ma_changePrices 44 = .ok (.goto 13, 3) := by decide +kernel
theorem dr_Ma_changePrices_47 : decode bc_Ma_changePrices 47 = .ok (.aload_n 0, 1) := by decide +kernel
theorem dr_Ma_changePrices_48 : decode bc_Ma_changePrices 48 = .ok (.getfield 33, 3) := by decide +kernel
theorem dr_Ma_changePrices_51 : decode bc_Ma_changePrices 51 = .ok (.iload_n 3, 1) := by decide +kernel
theorem dr_Ma_changePrices_52 : decode bc_Ma_changePrices 52 = .ok (.dup2, 1) := by decide +kernel
theorem dr_Ma_changePrices_53 : decode bc_Ma_changePrices 53 = .ok (.laload, 1) := by decide +kernel
theorem dr_Ma_changePrices_54 : decode bc_Ma_changePrices 54 = .ok (.lload_n 1, 1) := by decide +kernel
theorem dr_Ma_changePrices_55 : decode bc_Ma_changePrices 55 = .ok (.lsub, 1) := by decide +kernel
theorem dr_Ma_changePrices_56 : decode bc_Ma_changePrices 56 = .ok (.lastore, 1) := by decide +kernel
theorem dr_Ma_changePrices_57 : decode bc_Ma_changePrices 57 = .ok (.iinc 3 1, 3) := by decide +kernel
theorem dr_Ma_changePrices_60 : decode bc_Ma_changePrices 60 = .ok (.goto (-58), 3) := by decide +kernel
theorem dr_Ma_changePrices_63 : decode bc_Ma_changePrices 63 = .ok (.return_, 1) := by decide +kernel
theorem dr_Ma_extraCost_0 : decode bc_Ma_extraCost 0 = .ok (.aload_n 0, 1) := by decide +kernel
theorem dr_Ma_extraCost_1 : decode bc_Ma_extraCost 1 = .ok (.getfield 17, 3) := by decide +kernel
theorem dr_Ma_extraCost_4 : decode bc_Ma_extraCost 4 = .ok (.iload_n 1, 1) := by decide +kernel
theorem dr_Ma_extraCost_5 : decode bc_Ma_extraCost 5 = .ok (.aaload, 1) := by decide +kernel
theorem dr_Ma_extraCost_6 : decode bc_Ma_extraCost 6 = .ok (.iload_n 2, 1) := by decide +kernel
theorem dr_Ma_extraCost_7 : decode bc_Ma_extraCost 7 = .ok (.laload, 1) := by decide +kernel
theorem dr_Ma_extraCost_8 : decode bc_Ma_extraCost 8 = .ok (.aload_n 0, 1) := by decide +kernel
theorem dr_Ma_extraCost_9 : decode bc_Ma_extraCost 9 = .ok (.getfield 20, 3) := by decide +kernel
theorem dr_Ma_extraCost_12 : decode bc_Ma_extraCost 12 = .ok (.iload_n 1, 1) := by decide +kernel
theorem dr_Ma_extraCost_13 : decode bc_Ma_extraCost 13 = .ok (.laload, 1) := by decide +kernel
theorem dr_Ma_extraCost_14 : decode bc_Ma_extraCost 14 = .ok (.lsub, 1) := by decide +kernel
theorem dr_Ma_extraCost_15 : decode bc_Ma_extraCost 15 = .ok (.aload_n 0, 1) := by decide +kernel
theorem dr_Ma_extraCost_16 : decode bc_Ma_extraCost 16 = .ok (.getfield 24, 3) := by decide +kernel
theorem dr_Ma_extraCost_19 : decode bc_Ma_extraCost 19 = .ok (.iload_n 2, 1) := by decide +kernel
theorem dr_Ma_extraCost_20 : decode bc_Ma_extraCost 20 = .ok (.laload, 1) := by decide +kernel
theorem dr_Ma_extraCost_21 : decode bc_Ma_extraCost 21 = .ok (.lsub, 1) := by decide +kernel
theorem dr_Ma_extraCost_22 : decode bc_Ma_extraCost 22 = .ok (.lreturn, 1) := by decide +kernel
theorem dr_Ma_moveAlong_0 : decode bc_Ma_moveAlong 0 = .ok (.iload_n 1, 1) := by decide +kernel
theorem dr_Ma_moveAlong_1 : decode bc_Ma_moveAlong 1 = .ok (.istore_n 2, 1) := by decide +kernel
theorem dr_Ma_moveAlong_2 : decode bc_Ma_moveAlong 2 = .ok (.iconst 0, 1) := by decide +kernel
theorem dr_Ma_moveAlong_3 : decode bc_Ma_moveAlong 3 = .ok (.istore_n 3, 1) := by decide +kernel
theorem dr_Ma_moveAlong_4 : decode bc_Ma_moveAlong 4 = .ok (.iload_n 3, 1) := by decide +kernel
theorem dr_Ma_moveAlong_5 : decode bc_Ma_moveAlong 5 = .ok (.aload_n 0, 1) := by decide +kernel
theorem dr_Ma_moveAlong_6 : decode bc_Ma_moveAlong 6 = .ok (.getfield 43, 3) := by decide +kernel
theorem dr_Ma_moveAlong_9 : decode bc_Ma_moveAlong 9 = .ok (.if_icmp .ge 37, 3) := by decide +kernel
theorem dr_Ma_moveAlong_12 : decode bc_Ma_moveAlong 12 = .ok (.iload_n 2, 1) := by decide +kernel
theorem dr_Ma_moveAlong_13 : decode bc_Ma_moveAlong 13 = .ok (.ifCond .eq 33, 3) := by decide +kernel
theorem dr_Ma_moveAlong_16 : decode bc_Ma_moveAlong 16 = .ok (.aload_n 0, 1) := by decide +kernel
theorem dr_Ma_moveAlong_17 : decode bc_Ma_moveAlong 17 = .ok (.getfield 27, 3) := by decide +kernel
theorem dr_Ma_moveAlong_20 : decode bc_Ma_moveAlong 20 = .ok (.iload_n 2, 1) := by decide +kernel
theorem dr_Ma_moveAlong_21 : decode bc_Ma_moveAlong 21 = .ok (.aload_n 0, 1) := by decide +kernel
theorem dr_Ma_moveAlong_22 : decode bc_Ma_moveAlong 22 = .ok (.getfield 27, 3) := by decide +kernel
theorem dr_Ma_moveAlong_25 : decode bc_Ma_moveAlong 25 = .ok (.aload_n 0, 1) := by decide +kernel
theorem dr_Ma_moveAlong_26 : decode bc_Ma_moveAlong 26 = .ok (.getfield 30, 3) := by decide +kernel
theorem dr_Ma_moveAlong_29 : decode bc_Ma_moveAlong 29 = .ok (.iload_n 2, 1) := by decide +kernel
theorem dr_Ma_moveAlong_30 : decode bc_Ma_moveAlong 30 = .ok (.iaload, 1) := by decide +kernel
theorem dr_Ma_moveAlong_31 : decode bc_Ma_moveAlong 31 = .ok (.iaload, 1) := by decide +kernel
theorem dr_Ma_moveAlong_32 : decode bc_Ma_moveAlong 32 = .ok (.iastore, 1) := by decide +kernel
theorem dr_Ma_moveAlong_33 : decode bc_Ma_moveAlong 33 = .ok (.aload_n 0, 1) := by decide +kernel
theorem dr_Ma_moveAlong_34 : decode bc_Ma_moveAlong 34 = .ok (.getfield 30, 3) := by decide +kernel
theorem dr_Ma_moveAlong_37 : decode bc_Ma_moveAlong 37 = .ok (.iload_n 2, 1) := by decide +kernel
theorem dr_Ma_moveAlong_38 : decode bc_Ma_moveAlong 38 = .ok (.iaload, 1) := by decide +kernel
theorem dr_Ma_moveAlong_39 : decode bc_Ma_moveAlong 39 = .ok (.istore_n 2, 1) := by decide +kernel
theorem dr_Ma_moveAlong_40 : decode bc_Ma_moveAlong 40 = .ok (.iinc 3 1, 3) := by decide +kernel
theorem dr_Ma_moveAlong_43 : decode bc_Ma_moveAlong 43 = .ok (.goto (-39), 3) := by decide +kernel
theorem dr_Ma_moveAlong_46 : decode bc_Ma_moveAlong 46 = .ok (.return_, 1) := by decide +kernel
theorem dr_Ma_settleTies_0 : decode bc_Ma_settleTies 0 = .ok (.iconst 1, 1) := by decide +kernel
theorem dr_Ma_settleTies_1 : decode bc_Ma_settleTies 1 = .ok (.istore_n 1, 1) := by decide +kernel
theorem dr_Ma_settleTies_2 : decode bc_Ma_settleTies 2 = .ok (.iload_n 1, 1) := by decide +kernel
theorem dr_Ma_settleTies_3 : decode bc_Ma_settleTies 3 = .ok (.aload_n 0, 1) := by decide +kernel
theorem dr_Ma_settleTies_4 : decode bc_Ma_settleTies 4 = .ok (.getfield 43, 3) := by decide +kernel
theorem dr_Ma_settleTies_7 : decode bc_Ma_settleTies 7 = .ok (.if_icmp .gt 43, 3) := by decide +kernel
theorem dr_Ma_settleTies_10 : decode bc_Ma_settleTies 10 = .ok (.aload_n 0, 1) := by decide +kernel
theorem dr_Ma_settleTies_11 : decode bc_Ma_settleTies 11 = .ok (.iload_n 1, 1) := by decide +kernel
theorem dr_Ma_settleTies_12 : decode bc_Ma_settleTies 12 = .ok (.iload_n 1, 1) := by decide +kernel
theorem dr_Ma_settleTies_13 : decode bc_Ma_settleTies 13 = .ok (.invokevirtual 85, 3) := by decide +kernel
theorem dr_Ma_settleTies_16 : decode bc_Ma_settleTies 16 = .ok (.istore_n 2, 1) := by decide +kernel
theorem dr_Ma_settleTies_17 : decode bc_Ma_settleTies 17 = .ok (.iconst 1, 1) := by decide +kernel
theorem dr_Ma_settleTies_18 : decode bc_Ma_settleTies 18 = .ok (.istore_n 3, 1) := by decide +kernel
theorem dr_Ma_settleTies_19 : decode bc_Ma_settleTies 19 = .ok (.iload_n 3, 1) := by decide +kernel
theorem dr_Ma_settleTies_20 : decode bc_Ma_settleTies 20 = .ok (.aload_n 0, 1) := by decide +kernel
theorem dr_Ma_settleTies_21 : decode bc_Ma_settleTies 21 = .ok (.getfield 43, 3) := by decide +kernel
theorem dr_Ma_settleTies_24 : decode bc_Ma_settleTies 24 = .ok (.if_icmp .gt 20, 3) := by decide +kernel
theorem dr_Ma_settleTies_27 : decode bc_Ma_settleTies 27 = .ok (.iload_n 2, 1) := by decide +kernel
theorem dr_Ma_settleTies_28 : decode bc_Ma_settleTies 28 = .ok (.ifCond .ne 16, 3) := by decide +kernel
theorem dr_Ma_settleTies_31 : decode bc_Ma_settleTies 31 = .ok (.aload_n 0, 1) := by decide +kernel
theorem dr_Ma_settleTies_32 : decode bc_Ma_settleTies 32 = .ok (.iload_n 1, 1) := by decide +kernel
theorem dr_Ma_settleTies_33 : decode bc_Ma_settleTies 33 = .ok (.iload_n 3, 1) := by decide +kernel
theorem dr_Ma_settleTies_34 : decode bc_Ma_settleTies 34 = .ok (.invokevirtual 85, 3) := by decide +kernel
theorem dr_Ma_settleTies_37 : decode bc_Ma_settleTies 37 = .ok (.istore_n 2, 1) := by decide +kernel
theorem dr_Ma_settleTies_38 : decode bc_Ma_settleTies 38 = .ok (.iinc 3 1, 3) := by decide +kernel
theorem dr_Ma_settleTies_41 : decode bc_Ma_settleTies 41 = .ok (.goto (-22), 3) := by decide +kernel
theorem dr_Ma_settleTies_44 : decode bc_Ma_settleTies 44 = .ok (.iinc 1 1, 3) := by decide +kernel
theorem dr_Ma_settleTies_47 : decode bc_Ma_settleTies 47 = .ok (.goto (-45), 3) := by decide +kernel
theorem dr_Ma_settleTies_50 : decode bc_Ma_settleTies 50 = .ok (.return_, 1) := by decide +kernel
theorem dr_Ma_takes_0 : decode bc_Ma_takes 0 = .ok (.aload_n 0, 1) := by decide +kernel
theorem dr_Ma_takes_1 : decode bc_Ma_takes 1 = .ok (.getfield 27, 3) := by decide +kernel
theorem dr_Ma_takes_4 : decode bc_Ma_takes 4 = .ok (.iload_n 2, 1) := by decide +kernel
theorem dr_Ma_takes_5 : decode bc_Ma_takes 5 = .ok (.iaload, 1) := by decide +kernel
theorem dr_Ma_takes_6 : decode bc_Ma_takes 6 = .ok (.iload_n 1, 1) := by decide +kernel
theorem dr_Ma_takes_7 : decode bc_Ma_takes 7 = .ok (.if_icmp .ne 5, 3) := by decide +kernel
theorem dr_Ma_takes_10 : decode bc_Ma_takes 10 = .ok (.iconst 1, 1) := by decide +kernel
theorem dr_Ma_takes_11 : decode bc_Ma_takes 11 = .ok (.ireturn, 1) := by decide +kernel
theorem dr_Ma_takes_12 : decode bc_Ma_takes 12 = .ok (.aload_n 0, 1) := by decide +kernel
theorem dr_Ma_takes_13 : decode bc_Ma_takes 13 = .ok (.getfield 27, 3) := by decide +kernel
theorem dr_Ma_takes_16 : decode bc_Ma_takes 16 = .ok (.iload_n 2, 1) := by decide +kernel
theorem dr_Ma_takes_17 : decode bc_Ma_takes 17 = .ok (.iaload, 1) := by decide +kernel
theorem dr_Ma_takes_18 : decode bc_Ma_takes 18 = .ok (.iload_n 1, 1) := by decide +kernel
theorem dr_Ma_takes_19 : decode bc_Ma_takes 19 = .ok (.if_icmp .lt 14, 3) := by decide +kernel
theorem dr_Ma_takes_22 : decode bc_Ma_takes 22 = .ok (.aload_n 0, 1) := by decide +kernel
theorem dr_Ma_takes_23 : decode bc_Ma_takes 23 = .ok (.iload_n 1, 1) := by decide +kernel
theorem dr_Ma_takes_24 : decode bc_Ma_takes 24 = .ok (.iload_n 2, 1) := by decide +kernel
theorem dr_Ma_takes_25 : decode bc_Ma_takes 25 = .ok (.invokevirtual 77, 3) := by decide +kernel
theorem dr_Ma_takes_28 : decode bc_Ma_takes 28 = .ok (.lconst 0, 1) := by decide +kernel
theorem dr_Ma_takes_29 : decode bc_Ma_takes 29 = .ok (.lcmp, 1) := by decide +kernel
theorem dr_Ma_takes_30 : decode bc_Ma_takes 30 = .ok (.ifCond .eq 5, 3) := by decide +kernel
theorem dr_Ma_takes_33 : decode bc_Ma_takes 33 = .ok (.iconst 0, 1) := by decide +kernel
theorem dr_Ma_takes_34 : decode bc_Ma_takes 34 = .ok (.ireturn, 1) := by decide +kernel
theorem dr_Ma_takes_35 : decode bc_Ma_takes 35 = .ok (.aload_n 0, 1) := by decide +kernel
theorem dr_Ma_takes_36 : decode bc_Ma_takes 36 = .ok (.iload_n 1, 1) := by decide +kernel
theorem dr_Ma_takes_37 : decode bc_Ma_takes 37 = .ok (.invokevirtual 89, 3) := by decide +kernel
theorem dr_Ma_takes_40 : decode bc_Ma_takes 40 = .ok (.istore_n 3, 1) := by decide +kernel
theorem dr_Ma_takes_41 : decode bc_Ma_takes 41 = .ok (.aload_n 0, 1) := by decide +kernel
theorem dr_Ma_takes_42 : decode bc_Ma_takes 42 = .ok (.iload_n 1, 1) := by decide +kernel
theorem dr_Ma_takes_43 : decode bc_Ma_takes 43 = .ok (.iload_n 2, 1) := by decide +kernel
theorem dr_Ma_takes_44 : decode bc_Ma_takes 44 = .ok (.iload_n 3, 1) := by decide +kernel
theorem dr_Ma_takes_45 : decode bc_Ma_takes 45 = .ok (.invokevirtual 92, 3) := by decide +kernel
theorem dr_Ma_takes_48 : decode bc_Ma_takes 48 = .ok (.ifCond .ne 5, 3) := by decide +kernel
theorem dr_Ma_takes_51 : decode bc_Ma_takes 51 = .ok (.iconst 0, 1) := by decide +kernel
theorem dr_Ma_takes_52 : decode bc_Ma_takes 52 = .ok (.ireturn, 1) := by decide +kernel
theorem dr_Ma_takes_53 : decode bc_Ma_takes 53 = .ok (.aload_n 0, 1) := by decide +kernel
theorem dr_Ma_takes_54 : decode bc_Ma_takes 54 = .ok (.iload_n 3, 1) := by decide +kernel
theorem dr_Ma_takes_55 : decode bc_Ma_takes 55 = .ok (.invokevirtual 74, 3) := by decide +kernel
theorem dr_Ma_takes_58 : decode bc_Ma_takes 58 = .ok (.iconst 1, 1) := by decide +kernel
theorem dr_Ma_takes_59 : decode bc_Ma_takes 59 = .ok (.ireturn, 1) := by decide +kernel
theorem dr_Ma_columnOf_0 : decode bc_Ma_columnOf 0 = .ok (.iconst 1, 1) := by decide +kernel
theorem dr_Ma_columnOf_1 : decode bc_Ma_columnOf 1 = .ok (.istore_n 2, 1) := by decide +kernel
theorem dr_Ma_columnOf_2 : decode bc_Ma_columnOf 2 = .ok (.iload_n 2, 1) := by decide +kernel
theorem dr_Ma_columnOf_3 : decode bc_Ma_columnOf 3 = .ok (.aload_n 0, 1) := by decide +kernel
theorem dr_Ma_columnOf_4 : decode bc_Ma_columnOf 4 = .ok (.getfield 43, 3) := by decide +kernel
theorem dr_Ma_columnOf_7 : decode bc_Ma_columnOf 7 = .ok (.if_icmp .gt 21, 3) := by decide +kernel
theorem dr_Ma_columnOf_10 : decode bc_Ma_columnOf 10 = .ok (.aload_n 0, 1) := by decide +kernel
theorem dr_Ma_columnOf_11 : decode bc_Ma_columnOf 11 = .ok (.getfield 27, 3) := by decide +kernel
theorem dr_Ma_columnOf_14 : decode bc_Ma_columnOf 14 = .ok (.iload_n 2, 1) := by decide +kernel
theorem dr_Ma_columnOf_15 : decode bc_Ma_columnOf 15 = .ok (.iaload, 1) := by decide +kernel
theorem dr_Ma_columnOf_16 : decode bc_Ma_columnOf 16 = .ok (.iload_n 1, 1) := by decide +kernel
theorem dr_Ma_columnOf_17 : decode bc_Ma_columnOf 17 = .ok (.if_icmp .ne 5, 3) := by decide +kernel
theorem dr_Ma_columnOf_20 : decode bc_Ma_columnOf 20 = .ok (.iload_n 2, 1) := by decide +kernel
theorem dr_Ma_columnOf_21 : decode bc_Ma_columnOf 21 = .ok (.ireturn, 1) := by decide +kernel
theorem dr_Ma_columnOf_22 : decode bc_Ma_columnOf 22 = .ok (.iinc 2 1, 3) := by decide +kernel
theorem dr_Ma_columnOf_25 : decode bc_Ma_columnOf 25 = .ok (.goto (-23), 3) := by decide +kernel
theorem dr_Ma_columnOf_28 : decode bc_Ma_columnOf 28 = .ok (.iconst 0, 1) := by decide +kernel
theorem dr_Ma_columnOf_29 : decode bc_Ma_columnOf 29 = .ok (.ireturn, 1) := by decide +kernel
theorem dr_Ma_reaches_0 : decode bc_Ma_reaches 0 = .ok (.aload_n 0, 1) := by decide +kernel
theorem dr_Ma_reaches_1 : decode bc_Ma_reaches 1 = .ok (.invokevirtual 66, 3) := by decide +kernel
theorem dr_Ma_reaches_4 : decode bc_Ma_reaches 4 = .ok (.aload_n 0, 1) := by decide +kernel
theorem dr_Ma_reaches_5 : decode bc_Ma_reaches 5 = .ok (.getfield 27, 3) := by decide +kernel
theorem dr_Ma_reaches_8 : decode bc_Ma_reaches 8 = .ok (.iconst 0, 1) := by decide +kernel
theorem dr_Ma_reaches_9 : decode bc_Ma_reaches 9 = .ok (.iload_n 1, 1) := by decide +kernel
theorem dr_Ma_reaches_10 : decode bc_Ma_reaches 10 = .ok (.iastore, 1) := by decide +kernel
theorem dr_Ma_reaches_11 : decode bc_Ma_reaches 11 = .ok (.aload_n 0, 1) := by decide +kernel
theorem dr_Ma_reaches_12 : decode bc_Ma_reaches 12 = .ok (.getfield 30, 3) := by decide +kernel
theorem dr_Ma_reaches_15 : decode bc_Ma_reaches 15 = .ok (.iload_n 2, 1) := by decide +kernel
theorem dr_Ma_reaches_16 : decode bc_Ma_reaches 16 = .ok (.iconst 0, 1) := by decide +kernel
theorem dr_Ma_reaches_17 : decode bc_Ma_reaches 17 = .ok (.iastore, 1) := by decide +kernel
theorem dr_Ma_reaches_18 : decode bc_Ma_reaches 18 = .ok (.aload_n 0, 1) := by decide +kernel
theorem dr_Ma_reaches_19 : decode bc_Ma_reaches 19 = .ok (.getfield 36, 3) := by decide +kernel
theorem dr_Ma_reaches_22 : decode bc_Ma_reaches 22 = .ok (.iload_n 2, 1) := by decide +kernel
theorem dr_Ma_reaches_23 : decode bc_Ma_reaches 23 = .ok (.iconst 1, 1) := by decide +kernel
theorem dr_Ma_reaches_24 : decode bc_Ma_reaches 24 = .ok (.bastore, 1) := by decide +kernel
theorem dr_Ma_reaches_25 : decode bc_Ma_reaches 25 = .ok (.aload_n 0, 1) := by decide +kernel
theorem dr_Ma_reaches_26 : decode bc_Ma_reaches 26 = .ok (.getfield 40, 3) := by decide +kernel
theorem dr_Ma_reaches_29 : decode bc_Ma_reaches 29 = .ok (.iconst 0, 1) := by decide +kernel
theorem dr_Ma_reaches_30 : decode bc_Ma_reaches 30 = .ok (.iload_n 2, 1) := by decide +kernel
theorem dr_Ma_reaches_31 : decode bc_Ma_reaches 31 = .ok (.iastore, 1) := by decide +kernel
theorem dr_Ma_reaches_32 : decode bc_Ma_reaches 32 = .ok (.iconst 1, 1) := by decide +kernel
theorem dr_Ma_reaches_33 : decode bc_Ma_reaches 33 = .ok (.istore 4, 2) := by decide +kernel
theorem dr_Ma_reaches_35 : decode bc_Ma_reaches 35 = .ok (.iconst 0, 1) := by decide +kernel
theorem dr_Ma_reaches_36 : decode bc_Ma_reaches 36 = .ok (.istore 5, 2) := by decide +kernel
theorem dr_Ma_reaches_38 : decode bc_Ma_reaches 38 = .ok (.iload 5, 2) := by decide +kernel
theorem dr_Ma_reaches_40 : decode bc_Ma_reaches 40 = .ok (.aload_n 0, 1) := by decide +kernel
theorem dr_Ma_reaches_41 : decode bc_Ma_reaches 41 = .ok (.getfield 43, 3) := by decide +kernel
theorem dr_Ma_reaches_44 : decode bc_Ma_reaches 44 = .ok (.if_icmp .ge 41, 3) := by decide +kernel
theorem dr_Ma_reaches_47 : decode bc_Ma_reaches 47 = .ok (.iload 5, 2) := by decide +kernel
theorem dr_Ma_reaches_49 : decode bc_Ma_reaches 49 = .ok (.iload 4, 2) := by decide +kernel
theorem dr_Ma_reaches_51 : decode bc_Ma_reaches 51 = .ok (.if_icmp .ge 34, 3) := by decide +kernel
theorem dr_Ma_reaches_54 : decode bc_Ma_reaches 54 = .ok (.aload_n 0, 1) := by decide +kernel
theorem dr_Ma_reaches_55 : decode bc_Ma_reaches 55 = .ok (.getfield 36, 3) := by decide +kernel
theorem dr_Ma_reaches_58 : decode bc_Ma_reaches 58 = .ok (.iload_n 3, 1) := by decide +kernel
theorem dr_Ma_reaches_59 : decode bc_Ma_reaches 59 = .ok (.baload, 1) := by decide +kernel
theorem dr_Ma_reaches_60 : decode bc_Ma_reaches 60 = .ok (.ifCond .ne 25, 3) := by decide +kernel
theorem dr_Ma_reaches_63 : decode bc_Ma_reaches 63 = .ok (.aload_n 0, 1) := by decide +kernel
theorem dr_Ma_reaches_64 : decode bc_Ma_reaches 64 = .ok (.aload_n 0, 1) := by decide +kernel
theorem dr_Ma_reaches_65 : decode bc_Ma_reaches 65 = .ok (.getfield 40, 3) := by decide +kernel
theorem dr_Ma_reaches_68 : decode bc_Ma_reaches 68 = .ok (.iload 5, 2) := by decide +kernel
theorem dr_Ma_reaches_70 : decode bc_Ma_reaches 70 = .ok (.iaload, 1) := by decide +kernel
theorem dr_Ma_reaches_71 : decode bc_Ma_reaches 71 = .ok (.iload_n 1, 1) := by decide +kernel
theorem dr_Ma_reaches_72 : decode bc_Ma_reaches 72 = .ok (.iload 4, 2) := by decide +kernel
theorem dr_Ma_reaches_74 : decode bc_Ma_reaches 74 = .ok (.invokevirtual 96, 3) := by decide +kernel
theorem dr_Ma_reaches_77 : decode bc_Ma_reaches 77 = .ok (.istore 4, 2) := by decide +kernel
theorem dr_Ma_reaches_79 : decode bc_Ma_reaches 79 = .ok (.iinc 5 1, 3) := by decide +kernel
theorem dr_Ma_reaches_82 : decode bc_Ma_reaches 82 = .ok (.goto (-44), 3) := by decide +kernel
theorem dr_Ma_reaches_85 : decode bc_Ma_reaches 85 = .ok (.aload_n 0, 1) := by decide +kernel
theorem dr_Ma_reaches_86 : decode bc_Ma_reaches 86 = .ok (.getfield 36, 3) := by decide +kernel
theorem dr_Ma_reaches_89 : decode bc_Ma_reaches 89 = .ok (.iload_n 3, 1) := by decide +kernel
theorem dr_Ma_reaches_90 : decode bc_Ma_reaches 90 = .ok (.baload, 1) := by decide +kernel
theorem dr_Ma_reaches_91 : decode bc_Ma_reaches 91 = .ok (.ireturn, 1) := by decide +kernel
theorem dr_Ma_queueFrom_0 : decode bc_Ma_queueFrom 0 = .ok (.iload_n 3, 1) := by decide +kernel
theorem dr_Ma_queueFrom_1 : decode bc_Ma_queueFrom 1 = .ok (.istore 4, 2) := by decide +kernel
theorem dr_Ma_queueFrom_3 : decode bc_Ma_queueFrom 3 = .ok (.iconst 1, 1) := by decide +kernel
theorem dr_Ma_queueFrom_4 : decode bc_Ma_queueFrom 4 = .ok (.istore 5, 2) := by decide +kernel
theorem dr_Ma_queueFrom_6 : decode bc_Ma_queueFrom 6 = .ok (.iload 5, 2) := by decide +kernel
theorem dr_Ma_queueFrom_8 : decode bc_Ma_queueFrom 8 = .ok (.aload_n 0, 1) := by decide +kernel
theorem dr_Ma_queueFrom_9 : decode bc_Ma_queueFrom 9 = .ok (.getfield 43, 3) := by decide +kernel
theorem dr_Ma_queueFrom_12 : decode bc_Ma_queueFrom 12 = .ok (.if_icmp .gt 87, 3) := by decide +kernel
theorem dr_Ma_queueFrom_15 : decode bc_Ma_queueFrom 15 = .ok (.aload_n 0, 1) := by decide +kernel
theorem dr_Ma_queueFrom_16 : decode bc_Ma_queueFrom 16 = .ok (.getfield 36, 3) := by decide +kernel
theorem dr_Ma_queueFrom_19 : decode bc_Ma_queueFrom 19 = .ok (.iload 5, 2) := by decide +kernel
theorem dr_Ma_queueFrom_21 : decode bc_Ma_queueFrom 21 = .ok (.baload, 1) := by decide +kernel
theorem dr_Ma_queueFrom_22 : decode bc_Ma_queueFrom 22 = .ok (.ifCond .ne 18, 3) := by decide +kernel
theorem dr_Ma_queueFrom_25 : decode bc_Ma_queueFrom 25 = .ok (.aload_n 0, 1) := by decide +kernel
theorem dr_Ma_queueFrom_26 : decode bc_Ma_queueFrom 26 = .ok (.getfield 27, 3) := by decide +kernel
theorem dr_Ma_queueFrom_29 : decode bc_Ma_queueFrom 29 = .ok (.iload 5, 2) := by decide +kernel
theorem dr_Ma_queueFrom_31 : decode bc_Ma_queueFrom 31 = .ok (.iaload, 1) := by decide +kernel
theorem dr_Ma_queueFrom_32 : decode bc_Ma_queueFrom 32 = .ok (.iload_n 2, 1) := by decide +kernel
theorem dr_Ma_queueFrom_33 : decode bc_Ma_queueFrom 33 = .ok (.if_icmp .lt 7, 3) := by decide +kernel
theorem dr_Ma_queueFrom_36 : decode bc_Ma_queueFrom 36 = .ok (.iconst 1, 1) := by decide +kernel
theorem dr_Ma_queueFrom_37 : decode bc_Ma_queueFrom 37 = .ok (.goto 4, 3) := by decide +kernel
theorem dr_Ma_queueFrom_40 : decode bc_Ma_queueFrom 40 = .ok (.iconst 0, 1) := by decide +kernel
theorem dr_Ma_queueFrom_41 : decode bc_Ma_queueFrom 41 = .ok (.istore 6, 2) := by decide +kernel
theorem dr_Ma_queueFrom_43 : decode bc_Ma_queueFrom 43 = .ok (.iload 6, 2) := by decide +kernel
theorem dr_Ma_queueFrom_45 : decode bc_Ma_queueFrom 45 = .ok (.ifCond .eq 48, 3) := by decide +kernel
theorem dr_Ma_queueFrom_48 : decode bc_Ma_queueFrom 48 = .ok (.aload_n 0, 1) := by decide +kernel
theorem dr_Ma_queueFrom_49 : decode bc_Ma_queueFrom 49 = .ok (.aload_n 0, 1) := by decide +kernel
theorem dr_Ma_queueFrom_50 : decode bc_Ma_queueFrom 50 = .ok (.getfield 27, 3) := by decide +kernel
theorem dr_Ma_queueFrom_53 : decode bc_Ma_queueFrom 53 = .ok (.iload_n 1, 1) := by decide +kernel
theorem dr_Ma_queueFrom_54 : decode bc_Ma_queueFrom 54 = .ok (.iaload, 1) := by decide +kernel
theorem dr_Ma_queueFrom_55 : decode bc_Ma_queueFrom 55 = .ok (.iload 5, 2) := by decide +kernel
theorem dr_Ma_queueFrom_57 : decode bc_Ma_queueFrom 57 = .ok (.invokevirtual 77, 3) := by decide +kernel
theorem dr_Ma_queueFrom_60 : decode bc_Ma_queueFrom 60 = .ok (.lconst 0, 1) := by decide +kernel
theorem dr_Ma_queueFrom_61 : decode bc_Ma_queueFrom 61 = .ok (.lcmp, 1) := by decide +kernel
theorem dr_Ma_queueFrom_62 : decode bc_Ma_queueFrom 62 = .ok (.ifCond .ne 31, 3) := by decide +kernel
theorem dr_Ma_queueFrom_65 : decode bc_Ma_queueFrom 65 = .ok (.aload_n 0, 1) := by decide +kernel
theorem dr_Ma_queueFrom_66 : decode bc_Ma_queueFrom 66 = .ok (.getfield 36, 3) := by decide +kernel
theorem dr_Ma_queueFrom_69 : decode bc_Ma_queueFrom 69 = .ok (.iload 5, 2) := by decide +kernel
theorem dr_Ma_queueFrom_71 : decode bc_Ma_queueFrom 71 = .ok (.iconst 1, 1) := by decide +kernel
theorem dr_Ma_queueFrom_72 : decode bc_Ma_queueFrom 72 = .ok (.bastore, 1) := by decide +kernel
theorem dr_Ma_queueFrom_73 : decode bc_Ma_queueFrom 73 = .ok (.aload_n 0, 1) := by decide +kernel
theorem dr_Ma_queueFrom_74 : decode bc_Ma_queueFrom 74 = .ok (.getfield 30, 3) := by decide +kernel
theorem dr_Ma_queueFrom_77 : decode bc_Ma_queueFrom 77 = .ok (.iload 5, 2) := by decide +kernel
theorem dr_Ma_queueFrom_79 : decode bc_Ma_queueFrom 79 = .ok (.iload_n 1, 1) := by decide +kernel
theorem dr_Ma_queueFrom_80 : decode bc_Ma_queueFrom 80 = .ok (.iastore, 1) := by decide +kernel
theorem dr_Ma_queueFrom_81 : decode bc_Ma_queueFrom 81 = .ok (.aload_n 0, 1) := by decide +kernel
theorem dr_Ma_queueFrom_82 : decode bc_Ma_queueFrom 82 = .ok (.getfield 40, 3) := by decide +kernel
theorem dr_Ma_queueFrom_85 : decode bc_Ma_queueFrom 85 = .ok (.iload 4, 2) := by decide +kernel
theorem dr_Ma_queueFrom_87 : decode bc_Ma_queueFrom 87 = .ok (.iload 5, 2) := by decide +kernel
theorem dr_Ma_queueFrom_89 : decode bc_Ma_queueFrom 89 = .ok (.iastore, 1) := by decide +kernel
theorem dr_Ma_queueFrom_90 : decode bc_Ma_queueFrom 90 = .ok (.iinc 4 1, 3) := by decide +kernel
theorem dr_Ma_queueFrom_93 : decode bc_Ma_queueFrom 93 = .ok (.iinc 5 1, 3) := by decide +kernel
theorem dr_Ma_queueFrom_96 : decode bc_Ma_queueFrom 96 = .ok (.goto (-90), 3) := by decide +kernel
theorem dr_Ma_queueFrom_99 : decode bc_Ma_queueFrom 99 = .ok (.iload 4, 2) := by decide +kernel
theorem dr_Ma_queueFrom_101 : decode bc_Ma_queueFrom 101 = .ok (.ireturn, 1) := by decide +kernel
theorem dr_Ne_init_0 : decode bc_Ne_init 0 = .ok (.aload_n 0, 1) := by decide +kernel
theorem dr_Ne_init_1 : decode bc_Ne_init 1 = .ok (.invokespecial 3, 3) := by decide +kernel
theorem dr_Ne_init_4 : decode bc_Ne_init 4 = .ok (.aload_n 0, 1) := by decide +kernel
theorem dr_Ne_init_5 : decode bc_Ne_init 5 = .ok (.sipush 200, 3) := by decide +kernel
theorem dr_Ne_init_8 : decode bc_Ne_init 8 = .ok (.newarray .boolean, 2) := by decide +kernel
theorem dr_Ne_init_10 : decode bc_Ne_init 10 = .ok (.putfield 9, 3) := by decide +kernel
theorem dr_Ne_init_13 : decode bc_Ne_init 13 = .ok (.aload_n 0, 1) := by decide +kernel
theorem dr_Ne_init_14 : decode bc_Ne_init 14 = .ok (.sipush 200, 3) := by decide +kernel
theorem dr_Ne_init_17 : decode bc_Ne_init 17 = .ok (.newarray .long, 2) := by decide +kernel
theorem dr_Ne_init_19 : decode bc_Ne_init 19 = .ok (.putfield 15, 3) := by decide +kernel
theorem dr_Ne_init_22 : decode bc_Ne_init 22 = .ok (.aload_n 0, 1) := by decide +kernel
theorem dr_Ne_init_23 : decode bc_Ne_init 23 = .ok (.sipush 200, 3) := by decide +kernel
theorem dr_Ne_init_26 : decode bc_Ne_init 26 = .ok (.newarray .long, 2) := by decide +kernel
theorem dr_Ne_init_28 : decode bc_Ne_init 28 = .ok (.putfield 19, 3) := by decide +kernel
theorem dr_Ne_init_31 : decode bc_Ne_init 31 = .ok (.aload_n 0, 1) := by decide +kernel
theorem dr_Ne_init_32 : decode bc_Ne_init 32 = .ok (.sipush 200, 3) := by decide +kernel
theorem dr_Ne_init_35 : decode bc_Ne_init 35 = .ok (.newarray .int, 2) := by decide +kernel
theorem dr_Ne_init_37 : decode bc_Ne_init 37 = .ok (.putfield 22, 3) := by decide +kernel
theorem dr_Ne_init_40 : decode bc_Ne_init 40 = .ok (.aload_n 0, 1) := by decide +kernel
theorem dr_Ne_init_41 : decode bc_Ne_init 41 = .ok (.getfield 22, 3) := by decide +kernel
theorem dr_Ne_init_44 : decode bc_Ne_init 44 = .ok (.iconst (-1), 1) := by decide +kernel
theorem dr_Ne_init_45 : decode bc_Ne_init 45 = .ok (.invokestatic 26, 3) := by decide +kernel
theorem dr_Ne_init_48 : decode bc_Ne_init 48 = .ok (.return_, 1) := by decide +kernel
theorem dr_Ne_aim_0 : decode bc_Ne_aim 0 = .ok (.aload_n 0, 1) := by decide +kernel
theorem dr_Ne_aim_1 : decode bc_Ne_aim 1 = .ok (.getfield 9, 3) := by decide +kernel
theorem dr_Ne_aim_4 : decode bc_Ne_aim 4 = .ok (.iload_n 1, 1) := by decide +kernel
theorem dr_Ne_aim_5 : decode bc_Ne_aim 5 = .ok (.baload, 1) := by decide +kernel
theorem dr_Ne_aim_6 : decode bc_Ne_aim 6 = .ok (.ifCond .eq 26, 3) := by decide +kernel
theorem dr_Ne_aim_9 : decode bc_Ne_aim 9 = .ok (.aload_n 0, 1) := by decide +kernel
theorem dr_Ne_aim_10 : decode bc_Ne_aim 10 = .ok (.getfield 15, 3) := by decide +kernel
theorem dr_Ne_aim_13 : decode bc_Ne_aim 13 = .ok (.iload_n 1, 1) := by decide +kernel
theorem dr_Ne_aim_14 : decode bc_Ne_aim 14 = .ok (.laload, 1) := by decide +kernel
theorem dr_Ne_aim_15 : decode bc_Ne_aim 15 = .ok (.lload_n 2, 1) := by decide +kernel
theorem dr_Ne_aim_16 : decode bc_Ne_aim 16 = .ok (.lcmp, 1) := by decide +kernel
theorem dr_Ne_aim_17 : decode bc_Ne_aim 17 = .ok (.ifCond .ne 15, 3) := by decide +kernel
theorem dr_Ne_aim_20 : decode bc_Ne_aim 20 = .ok (.aload_n 0, 1) := by decide +kernel
theorem dr_Ne_aim_21 : decode bc_Ne_aim 21 = .ok (.getfield 19, 3) := by decide +kernel
theorem dr_Ne_aim_24 : decode bc_Ne_aim 24 = .ok (.iload_n 1, 1) := by decide +kernel
theorem dr_Ne_aim_25 : decode bc_Ne_aim 25 = .ok (.laload, 1) := by decide +kernel
theorem dr_Ne_aim_26 : decode bc_Ne_aim 26 = .ok (.lload 4, 2) := by decide +kernel
theorem dr_Ne_aim_28 : decode bc_Ne_aim 28 = .ok (.lcmp, 1) := by decide +kernel
theorem dr_Ne_aim_29 : decode bc_Ne_aim 29 = .ok (.ifCond .eq 7, 3) := by decide +kernel
theorem dr_Ne_aim_32 : decode bc_Ne_aim 32 = .ok (.iconst 1, 1) := by decide +kernel
theorem dr_Ne_aim_33 : decode bc_Ne_aim 33 = .ok (.goto 4, 3) := by decide +kernel
theorem dr_Ne_aim_36 : decode bc_Ne_aim 36 = .ok (.iconst 0, 1) := by decide +kernel
theorem dr_Ne_aim_37 : decode bc_Ne_aim 37 = .ok (.istore 6, 2) := by decide +kernel
theorem dr_Ne_aim_39 : decode bc_Ne_aim 39 = .ok (.aload_n 0, 1) := by decide +kernel
theorem dr_Ne_aim_40 : decode bc_Ne_aim 40 = .ok (.getfield 9, 3) := by decide +kernel
theorem dr_Ne_aim_43 : decode bc_Ne_aim 43 = .ok (.iload_n 1, 1) := by decide +kernel
theorem dr_Ne_aim_44 : decode bc_Ne_aim 44 = .ok (.iconst 1, 1) := by decide +kernel
theorem dr_Ne_aim_45 : decode bc_Ne_aim 45 = .ok (.bastore, 1) := by decide +kernel
theorem dr_Ne_aim_46 : decode bc_Ne_aim 46 = .ok (.aload_n 0, 1) := by decide +kernel
theorem dr_Ne_aim_47 : decode bc_Ne_aim 47 = .ok (.getfield 15, 3) := by decide +kernel
theorem dr_Ne_aim_50 : decode bc_Ne_aim 50 = .ok (.iload_n 1, 1) := by decide +kernel
theorem dr_Ne_aim_51 : decode bc_Ne_aim 51 = .ok (.lload_n 2, 1) := by decide +kernel
theorem dr_Ne_aim_52 : decode bc_Ne_aim 52 = .ok (.lastore, 1) := by decide +kernel
theorem dr_Ne_aim_53 : decode bc_Ne_aim 53 = .ok (.aload_n 0, 1) := by decide +kernel
theorem dr_Ne_aim_54 : decode bc_Ne_aim 54 = .ok (.getfield 19, 3) := by decide +kernel
theorem dr_Ne_aim_57 : decode bc_Ne_aim 57 = .ok (.iload_n 1, 1) := by decide +kernel
theorem dr_Ne_aim_58 : decode bc_Ne_aim 58 = .ok (.lload 4, 2) := by decide +kernel
theorem dr_Ne_aim_60 : decode bc_Ne_aim 60 = .ok (.lastore, 1) := by decide +kernel
theorem dr_Ne_aim_61 : decode bc_Ne_aim 61 = .ok (.iload 6, 2) := by decide +kernel
theorem dr_Ne_aim_63 : decode bc_Ne_aim 63 = .ok (.ireturn, 1) := by decide +kernel
theorem dr_Pi_init_0 : decode bc_Pi_init 0 = .ok (.aload_n 0, 1) := by decide +kernel
theorem dr_Pi_init_1 : decode bc_Pi_init 1 = .ok (.invokespecial 3, 3) := by decide +kernel
theorem dr_Pi_init_4 : decode bc_Pi_init 4 = .ok (.aload_n 0, 1) := by decide +kernel
theorem dr_Pi_init_5 : decode bc_Pi_init 5 = .ok (.bipush 12, 2) := by decide +kernel
theorem dr_Pi_init_7 : decode bc_Pi_init 7 = .ok (.newarray .int, 2) := by decide +kernel
theorem dr_Pi_init_9 : decode bc_Pi_init 9 = .ok (.putfield 9, 3) := by decide +kernel
theorem dr_Pi_init_12 : decode bc_Pi_init 12 = .ok (.aload_n 0, 1) := by decide +kernel
theorem dr_Pi_init_13 : decode bc_Pi_init 13 = .ok (.bipush 80, 2) := by decide +kernel
theorem dr_Pi_init_15 : decode bc_Pi_init 15 = .ok (.newarray .int, 2) := by decide +kernel
theorem dr_Pi_init_17 : decode bc_Pi_init 17 = .ok (.putfield 15, 3) := by decide +kernel
theorem dr_Pi_init_20 : decode bc_Pi_init 20 = .ok (.aload_n 0, 1) := by decide +kernel
theorem dr_Pi_init_21 : decode bc_Pi_init 21 = .ok (.bipush 80, 2) := by decide +kernel
theorem dr_Pi_init_23 : decode bc_Pi_init 23 = .ok (.newarray .long, 2) := by decide +kernel
theorem dr_Pi_init_25 : decode bc_Pi_init 25 = .ok (.putfield 18, 3) := by decide +kernel
theorem dr_Pi_init_28 : decode bc_Pi_init 28 = .ok (.aload_n 0, 1) := by decide +kernel
theorem dr_Pi_init_29 : decode bc_Pi_init 29 = .ok (.bipush 80, 2) := by decide +kernel
theorem dr_Pi_init_31 : decode bc_Pi_init 31 = .ok (.newarray .long, 2) := by decide +kernel
theorem dr_Pi_init_33 : decode bc_Pi_init 33 = .ok (.putfield 22, 3) := by decide +kernel
theorem dr_Pi_init_36 : decode bc_Pi_init 36 = .ok (.aload_n 0, 1) := by decide +kernel
theorem dr_Pi_init_37 : decode bc_Pi_init 37 = .ok (.bipush 80, 2) := by decide +kernel
theorem dr_Pi_init_39 : decode bc_Pi_init 39 = .ok (.newarray .int, 2) := by decide +kernel
theorem dr_Pi_init_41 : decode bc_Pi_init 41 = .ok (.putfield 25, 3) := by decide +kernel
theorem dr_Pi_init_44 : decode bc_Pi_init 44 = .ok (.aload_n 0, 1) := by decide +kernel
theorem dr_Pi_init_45 : decode bc_Pi_init 45 = .ok (.bipush 80, 2) := by decide +kernel
theorem dr_Pi_init_47 : decode bc_Pi_init 47 = .ok (.newarray .int, 2) := by decide +kernel
theorem dr_Pi_init_49 : decode bc_Pi_init 49 = .ok (.putfield 28, 3) := by decide +kernel
theorem dr_Pi_init_52 : decode bc_Pi_init 52 = .ok (.aload_n 0, 1) := by decide +kernel
theorem dr_Pi_init_53 : decode bc_Pi_init 53 = .ok (.bipush 80, 2) := by decide +kernel
theorem dr_Pi_init_55 : decode bc_Pi_init 55 = .ok (.newarray .int, 2) := by decide +kernel
theorem dr_Pi_init_57 : decode bc_Pi_init 57 = .ok (.putfield 31, 3) := by decide +kernel
theorem dr_Pi_init_60 : decode bc_Pi_init 60 = .ok (.aload_n 0, 1) := by decide +kernel
theorem dr_Pi_init_61 : decode bc_Pi_init 61 = .ok (.bipush 80, 2) := by decide +kernel
theorem dr_Pi_init_63 : decode bc_Pi_init 63 = .ok (.newarray .int, 2) := by decide +kernel
theorem dr_Pi_init_65 : decode bc_Pi_init 65 = .ok (.putfield 34, 3) := by decide +kernel
theorem dr_Pi_init_68 : decode bc_Pi_init 68 = .ok (.aload_n 0, 1) := by decide +kernel
theorem dr_Pi_init_69 : decode bc_Pi_init 69 = .ok (.bipush 80, 2) := by decide +kernel
theorem dr_Pi_init_71 : decode bc_Pi_init 71 = .ok (.newarray .boolean, 2) := by decide +kernel
theorem dr_Pi_init_73 : decode bc_Pi_init 73 = .ok (.putfield 37, 3) := by decide +kernel
theorem dr_Pi_init_76 : decode bc_Pi_init 76 = .ok (.aload_n 0, 1) := by decide +kernel
theorem dr_Pi_init_77 : decode bc_Pi_init 77 = .ok (.bipush 80, 2) := by decide +kernel
theorem dr_Pi_init_79 : decode bc_Pi_init 79 = .ok (.newarray .boolean, 2) := by decide +kernel
theorem dr_Pi_init_81 : decode bc_Pi_init 81 = .ok (.putfield 41, 3) := by decide +kernel
theorem dr_Pi_init_84 : decode bc_Pi_init 84 = .ok (.return_, 1) := by decide +kernel
