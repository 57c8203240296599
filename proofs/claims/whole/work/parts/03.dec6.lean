theorem dr_Jm_abs_0 : decode bc_Jm_abs 0 = .ok (.lload_n 0, 1) := by decide +kernel
theorem dr_Jm_abs_1 : decode bc_Jm_abs 1 = .ok (.lconst 0, 1) := by decide +kernel
theorem dr_Jm_abs_2 : decode bc_Jm_abs 2 = .ok (.lcmp, 1) := by decide +kernel
theorem dr_Jm_abs_3 : decode bc_Jm_abs 3 = .ok (.ifCond .ge 8, 3) := by decide +kernel
theorem dr_Jm_abs_6 : decode bc_Jm_abs 6 = .ok (.lload_n 0, 1) := by decide +kernel
theorem dr_Jm_abs_7 : decode bc_Jm_abs 7 = .ok (.lneg, 1) := by decide +kernel
theorem dr_Jm_abs_8 : decode bc_Jm_abs 8 = .ok (.goto 4, 3) := by decide +kernel
theorem dr_Jm_abs_11 : decode bc_Jm_abs 11 = .ok (.lload_n 0, 1) := by decide +kernel
theorem dr_Jm_abs_12 : decode bc_Jm_abs 12 = .ok (.lreturn, 1) := by decide +kernel
theorem dr_Ar_fill_0 : decode bc_Ar_fill 0 = .ok (.iconst 0, 1) := by decide +kernel
theorem dr_Ar_fill_1 : decode bc_Ar_fill 1 = .ok (.istore_n 2, 1) := by decide +kernel
theorem dr_Ar_fill_2 : decode bc_Ar_fill 2 = .ok (.aload_n 0, 1) := by decide +kernel
theorem dr_Ar_fill_3 : decode bc_Ar_fill 3 = .ok (.arraylength, 1) := by decide +kernel
theorem dr_Ar_fill_4 : decode bc_Ar_fill 4 = .ok (.istore_n 3, 1) := by decide +kernel
theorem dr_Ar_fill_5 : decode bc_Ar_fill 5 = .ok (.iload_n 2, 1) := by decide +kernel
theorem dr_Ar_fill_6 : decode bc_Ar_fill 6 = .ok (.iload_n 3, 1) := by decide +kernel
theorem dr_Ar_fill_7 : decode bc_Ar_fill 7 = .ok (.if_icmp .ge 13, 3) := by decide +kernel
theorem dr_Ar_fill_10 : decode bc_Ar_fill 10 = .ok (.aload_n 0, 1) := by decide +kernel
theorem dr_Ar_fill_11 : decode bc_Ar_fill 11 = .ok (.iload_n 2, 1) := by decide +kernel
theorem dr_Ar_fill_12 : decode bc_Ar_fill 12 = .ok (.iload_n 1, 1) := by decide +kernel
theorem dr_Ar_fill_13 : decode bc_Ar_fill 13 = .ok (.iastore, 1) := by decide +kernel
theorem dr_Ar_fill_14 : decode bc_Ar_fill 14 = .ok (.iinc 2 1, 3) := by decide +kernel
theorem dr_Ar_fill_17 : decode bc_Ar_fill 17 = .ok (.goto (-12), 3) := by decide +kernel
theorem dr_Ar_fill_20 : decode bc_Ar_fill 20 = .ok (.return_, 1) := by decide +kernel
theorem dr_Ar_fillL_0 : decode bc_Ar_fillL 0 = .ok (.iconst 0, 1) := by decide +kernel
theorem dr_Ar_fillL_1 : decode bc_Ar_fillL 1 = .ok (.istore_n 3, 1) := by decide +kernel
theorem dr_Ar_fillL_2 : decode bc_Ar_fillL 2 = .ok (.aload_n 0, 1) := by decide +kernel
theorem dr_Ar_fillL_3 : decode bc_Ar_fillL 3 = .ok (.arraylength, 1) := by decide +kernel
theorem dr_Ar_fillL_4 : decode bc_Ar_fillL 4 = .ok (.istore 4, 2) := by decide +kernel
theorem dr_Ar_fillL_6 : decode bc_Ar_fillL 6 = .ok (.iload_n 3, 1) := by decide +kernel
theorem dr_Ar_fillL_7 : decode bc_Ar_fillL 7 = .ok (.iload 4, 2) := by decide +kernel
theorem dr_Ar_fillL_9 : decode bc_Ar_fillL 9 = .ok (.if_icmp .ge 13, 3) := by decide +kernel
theorem dr_Ar_fillL_12 : decode bc_Ar_fillL 12 = .ok (.aload_n 0, 1) := by decide +kernel
theorem dr_Ar_fillL_13 : decode bc_Ar_fillL 13 = .ok (.iload_n 3, 1) := by decide +kernel
theorem dr_Ar_fillL_14 : decode bc_Ar_fillL 14 = .ok (.lload_n 1, 1) := by decide +kernel
theorem dr_Ar_fillL_15 : decode bc_Ar_fillL 15 = .ok (.lastore, 1) := by decide +kernel
theorem dr_Ar_fillL_16 : decode bc_Ar_fillL 16 = .ok (.iinc 3 1, 3) := by decide +kernel
theorem dr_Ar_fillL_19 : decode bc_Ar_fillL 19 = .ok (.goto (-13), 3) := by decide +kernel
theorem dr_Ar_fillL_22 : decode bc_Ar_fillL 22 = .ok (.return_, 1) := by decide +kernel
