theorem dr_Mo_choose_0 : decode bc_Mo_choose 0 = .ok (.iconst 0, 1) := by decide +kernel
theorem dr_Mo_choose_1 : decode bc_Mo_choose 1 = .ok (.istore_n 1, 1) := by decide +kernel
theorem dr_Mo_choose_2 : decode bc_Mo_choose 2 = .ok (.aload_n 0, 1) := by decide +kernel
theorem dr_Mo_choose_3 : decode bc_Mo_choose 3 = .ok (.invokevirtual 138, 3) := by decide +kernel
theorem dr_Mo_choose_6 : decode bc_Mo_choose 6 = .ok (.aload_n 0, 1) := by decide +kernel
theorem dr_Mo_choose_7 : decode bc_Mo_choose 7 = .ok (.getfield 69, 3) := by decide +kernel
theorem dr_Mo_choose_10 : decode bc_Mo_choose 10 = .ok (.iconst 0, 1) := by decide +kernel
theorem dr_Mo_choose_11 : decode bc_Mo_choose 11 = .ok (.laload, 1) := by decide +kernel
theorem dr_Mo_choose_12 : decode bc_Mo_choose 12 = .ok (.lcmp, 1) := by decide +kernel
theorem dr_Mo_choose_13 : decode bc_Mo_choose 13 = .ok (.ifCond .ne 7, 3) := by decide +kernel
theorem dr_Mo_choose_16 : decode bc_Mo_choose 16 = .ok (.iconst 1, 1) := by decide +kernel
theorem dr_Mo_choose_17 : decode bc_Mo_choose 17 = .ok (.goto 4, 3) := by decide +kernel
theorem dr_Mo_choose_20 : decode bc_Mo_choose 20 = .ok (.iconst 0, 1) := by decide +kernel
theorem dr_Mo_choose_21 : decode bc_Mo_choose 21 = .ok (.istore_n 2, 1) := by decide +kernel
theorem dr_Mo_choose_22 : decode bc_Mo_choose 22 = .ok (.iconst 0, 1) := by decide +kernel
theorem dr_Mo_choose_23 : decode bc_Mo_choose 23 = .ok (.istore_n 3, 1) := by decide +kernel
theorem dr_Mo_choose_24 : decode bc_Mo_choose 24 = .ok (.iload_n 3, 1) := by decide +kernel
theorem dr_Mo_choose_25 : decode bc_Mo_choose 25 = .ok (.aload_n 0, 1) := by decide +kernel
theorem dr_Mo_choose_26 : decode bc_Mo_choose 26 = .ok (.getfield 121, 3) := by decide +kernel
theorem dr_Mo_choose_29 : decode bc_Mo_choose 29 = .ok (.if_icmp .ge 64, 3) := by decide +kernel
theorem dr_Mo_choose_32 : decode bc_Mo_choose 32 = .ok (.iconst 0, 1) := by decide +kernel
theorem dr_Mo_choose_33 : decode bc_Mo_choose 33 = .ok (.istore 4, 2) := by decide +kernel
theorem dr_Mo_choose_35 : decode bc_Mo_choose 35 = .ok (.iload_n 2, 1) := by decide +kernel
theorem dr_Mo_choose_36 : decode bc_Mo_choose 36 = .ok (.ifCond .ne 13, 3) := by decide +kernel
theorem dr_Mo_choose_39 : decode bc_Mo_choose 39 = .ok (.aload_n 0, 1) := by decide +kernel
theorem dr_Mo_choose_40 : decode bc_Mo_choose 40 = .ok (.iload_n 3, 1) := by decide +kernel
theorem dr_Mo_choose_41 : decode bc_Mo_choose 41 = .ok (.iload_n 3, 1) := by decide +kernel
theorem dr_Mo_choose_42 : decode bc_Mo_choose 42 = .ok (.iload_n 1, 1) := by decide +kernel
theorem dr_Mo_choose_43 : decode bc_Mo_choose 43 = .ok (.invokevirtual 141, 3) := by decide +kernel
theorem dr_Mo_choose_46 : decode bc_Mo_choose 46 = .ok (.ifCond .eq 9, 3) := by decide +kernel
theorem dr_Mo_choose_49 : decode bc_Mo_choose 49 = .ok (.iload_n 3, 1) := by decide +kernel
theorem dr_Mo_choose_50 : decode bc_Mo_choose 50 = .ok (.istore 4, 2) := by decide +kernel
theorem dr_Mo_choose_52 : decode bc_Mo_choose 52 = .ok (.goto 20, 3) := by decide +kernel
theorem dr_Mo_choose_55 : decode bc_Mo_choose 55 = .ok (.aload_n 0, 1) := by decide +kernel
theorem dr_Mo_choose_56 : decode bc_Mo_choose 56 = .ok (.iload_n 3, 1) := by decide +kernel
theorem dr_Mo_choose_57 : decode bc_Mo_choose 57 = .ok (.iload 4, 2) := by decide +kernel
theorem dr_Mo_choose_59 : decode bc_Mo_choose 59 = .ok (.iload_n 1, 1) := by decide +kernel
theorem dr_Mo_choose_60 : decode bc_Mo_choose 60 = .ok (.invokevirtual 141, 3) := by decide +kernel
theorem dr_Mo_choose_63 : decode bc_Mo_choose 63 = .ok (.ifCond .ne 9, 3) := by decide +kernel
theorem dr_Mo_choose_66 : decode bc_Mo_choose 66 = .ok (.iinc 4 1, 3) := by decide +kernel
theorem dr_Mo_choose_69 : decode bc_Mo_choose 69 = .ok (.goto (-14), 3) := by decide +kernel
theorem dr_Mo_choose_72 : decode bc_Mo_choose 72 = .ok (.aload_n 0, 1) := by decide +kernel
theorem dr_Mo_choose_73 : decode bc_Mo_choose 73 = .ok (.getfield 72, 3) := by decide +kernel
theorem dr_Mo_choose_76 : decode bc_Mo_choose 76 = .ok (.iload_n 3, 1) := by decide +kernel
theorem dr_Mo_choose_77 : decode bc_Mo_choose 77 = .ok (.iload 4, 2) := by decide +kernel
theorem dr_Mo_choose_79 : decode bc_Mo_choose 79 = .ok (.iastore, 1) := by decide +kernel
theorem dr_Mo_choose_80 : decode bc_Mo_choose 80 = .ok (.iload_n 1, 1) := by decide +kernel
theorem dr_Mo_choose_81 : decode bc_Mo_choose 81 = .ok (.iconst 1, 1) := by decide +kernel
theorem dr_Mo_choose_82 : decode bc_Mo_choose 82 = .ok (.iload 4, 2) := by decide +kernel
theorem dr_Mo_choose_84 : decode bc_Mo_choose 84 = .ok (.ishl, 1) := by decide +kernel
theorem dr_Mo_choose_85 : decode bc_Mo_choose 85 = .ok (.ior, 1) := by decide +kernel
theorem dr_Mo_choose_86 : decode bc_Mo_choose 86 = .ok (.istore_n 1, 1) := by decide +kernel
theorem dr_Mo_choose_87 : decode bc_Mo_choose 87 = .ok (.iinc 3 1, 3) := by decide +kernel
theorem dr_Mo_choose_90 : decode bc_Mo_choose 90 = .ok (.goto (-66), 3) := by decide +kernel
theorem dr_Mo_choose_93 : decode bc_Mo_choose 93 = .ok (.return_, 1) := by decide +kernel
theorem dr_Mo_match_0 : decode bc_Mo_match 0 = .ok (.aload_n 0, 1) := by decide +kernel
theorem dr_Mo_match_1 : decode bc_Mo_match 1 = .ok (.iload_n 1, 1) := by decide +kernel
theorem dr_Mo_match_2 : decode bc_Mo_match 2 = .ok (.iload_n 2, 1) := by decide +kernel
theorem dr_Mo_match_3 : decode bc_Mo_match 3 = .ok (.iconst (-1), 1) := by decide +kernel
theorem dr_Mo_match_4 : decode bc_Mo_match 4 = .ok (.iconst 0, 1) := by decide +kernel
theorem dr_Mo_match_5 : decode bc_Mo_match 5 = .ok (.invokevirtual 145, 3) := by decide +kernel
theorem dr_Mo_match_8 : decode bc_Mo_match 8 = .ok (.aload_n 0, 1) := by decide +kernel
theorem dr_Mo_match_9 : decode bc_Mo_match 9 = .ok (.invokevirtual 149, 3) := by decide +kernel
theorem dr_Mo_match_12 : decode bc_Mo_match 12 = .ok (.iconst 0, 1) := by decide +kernel
theorem dr_Mo_match_13 : decode bc_Mo_match 13 = .ok (.istore_n 3, 1) := by decide +kernel
theorem dr_Mo_match_14 : decode bc_Mo_match 14 = .ok (.iload_n 3, 1) := by decide +kernel
theorem dr_Mo_match_15 : decode bc_Mo_match 15 = .ok (.aload_n 0, 1) := by decide +kernel
theorem dr_Mo_match_16 : decode bc_Mo_match 16 = .ok (.getfield 121, 3) := by decide +kernel
theorem dr_Mo_match_19 : decode bc_Mo_match 19 = .ok (.if_icmp .ge 72, 3) := by decide +kernel
theorem dr_Mo_match_22 : decode bc_Mo_match 22 = .ok (.aload_n 0, 1) := by decide +kernel
theorem dr_Mo_match_23 : decode bc_Mo_match 23 = .ok (.getfield 63, 3) := by decide +kernel
theorem dr_Mo_match_26 : decode bc_Mo_match 26 = .ok (.iload_n 3, 1) := by decide +kernel
theorem dr_Mo_match_27 : decode bc_Mo_match 27 = .ok (.iaload, 1) := by decide +kernel
theorem dr_Mo_match_28 : decode bc_Mo_match 28 = .ok (.istore 4, 2) := by decide +kernel
theorem dr_Mo_match_30 : decode bc_Mo_match 30 = .ok (.aload_n 0, 1) := by decide +kernel
theorem dr_Mo_match_31 : decode bc_Mo_match 31 = .ok (.getfield 63, 3) := by decide +kernel
theorem dr_Mo_match_34 : decode bc_Mo_match 34 = .ok (.aload_n 0, 1) := by decide +kernel
theorem dr_Mo_match_35 : decode bc_Mo_match 35 = .ok (.getfield 72, 3) := by decide +kernel
theorem dr_Mo_match_38 : decode bc_Mo_match 38 = .ok (.iload_n 3, 1) := by decide +kernel
theorem dr_Mo_match_39 : decode bc_Mo_match 39 = .ok (.iaload, 1) := by decide +kernel
theorem dr_Mo_match_40 : decode bc_Mo_match 40 = .ok (.iaload, 1) := by decide +kernel
theorem dr_Mo_match_41 : decode bc_Mo_match 41 = .ok (.istore 5, 2) := by decide +kernel
theorem dr_Mo_match_43 : decode bc_Mo_match 43 = .ok (.aload_n 0, 1) := by decide +kernel
theorem dr_Mo_match_44 : decode bc_Mo_match 44 = .ok (.getfield 75, 3) := by decide +kernel
theorem dr_Mo_match_47 : decode bc_Mo_match 47 = .ok (.iload 4, 2) := by decide +kernel
theorem dr_Mo_match_49 : decode bc_Mo_match 49 = .ok (.aload_n 0, 1) := by decide +kernel
theorem dr_Mo_match_50 : decode bc_Mo_match 50 = .ok (.getfield 23, 3) := by decide +kernel
theorem dr_Mo_match_53 : decode bc_Mo_match 53 = .ok (.iload 5, 2) := by decide +kernel
theorem dr_Mo_match_55 : decode bc_Mo_match 55 = .ok (.iaload, 1) := by decide +kernel
theorem dr_Mo_match_56 : decode bc_Mo_match 56 = .ok (.iastore, 1) := by decide +kernel
theorem dr_Mo_match_57 : decode bc_Mo_match 57 = .ok (.iload_n 2, 1) := by decide +kernel
theorem dr_Mo_match_58 : decode bc_Mo_match 58 = .ok (.ifCond .eq 27, 3) := by decide +kernel
theorem dr_Mo_match_61 : decode bc_Mo_match 61 = .ok (.aload_n 0, 1) := by decide +kernel
theorem dr_Mo_match_62 : decode bc_Mo_match 62 = .ok (.getfield 75, 3) := by decide +kernel
theorem dr_Mo_match_65 : decode bc_Mo_match 65 = .ok (.aload_n 0, 1) := by decide +kernel
theorem dr_Mo_match_66 : decode bc_Mo_match 66 = .ok (.getfield 33, 3) := by decide +kernel
theorem dr_Mo_match_69 : decode bc_Mo_match 69 = .ok (.iload 4, 2) := by decide +kernel
theorem dr_Mo_match_71 : decode bc_Mo_match 71 = .ok (.iaload, 1) := by decide +kernel
theorem dr_Mo_match_72 : decode bc_Mo_match 72 = .ok (.aload_n 0, 1) := by decide +kernel
theorem dr_Mo_match_73 : decode bc_Mo_match 73 = .ok (.getfield 23, 3) := by decide +kernel
theorem dr_Mo_match_76 : decode bc_Mo_match 76 = .ok (.aload_n 0, 1) := by decide +kernel
theorem dr_Mo_match_77 : decode bc_Mo_match 77 = .ok (.getfield 33, 3) := by decide +kernel
theorem dr_Mo_match_80 : decode bc_Mo_match 80 = .ok (.iload 5, 2) := by decide +kernel
theorem dr_Mo_match_82 : decode bc_Mo_match 82 = .ok (.iaload, 1) := by decide +kernel
theorem dr_Mo_match_83 : decode bc_Mo_match 83 = .ok (.iaload, 1) := by decide +kernel
theorem dr_Mo_match_84 : decode bc_Mo_match 84 = .ok (.iastore, 1) := by decide +kernel
theorem dr_Mo_match_85 : decode bc_Mo_match 85 = .ok (.iinc 3 1, 3) := by decide +kernel
theorem dr_Mo_match_88 : decode bc_Mo_match 88 = .ok (.goto (-74), 3) := by decide +kernel
theorem dr_Mo_match_91 : decode bc_Mo_match 91 = .ok (.return_, 1) := by decide +kernel
theorem dr_Mo_keepNets_0 : decode bc_Mo_keepNets 0 = .ok (.aload_n 0, 1) := by decide +kernel
theorem dr_Mo_keepNets_1 : decode bc_Mo_keepNets 1 = .ok (.getfield 152, 3) := by decide +kernel
theorem dr_Mo_keepNets_4 : decode bc_Mo_keepNets 4 = .ok (.bipush 10, 2) := by decide +kernel
theorem dr_Mo_keepNets_6 : decode bc_Mo_keepNets 6 = .ok (.if_icmp .ne 80, 3) := by decide +kernel
theorem dr_Mo_keepNets_9 : decode bc_Mo_keepNets 9 = .ok (.iconst 1, 1) := by decide +kernel
theorem dr_Mo_keepNets_10 : decode bc_Mo_keepNets 10 = .ok (.istore_n 1, 1) := by decide +kernel
theorem dr_Mo_keepNets_11 : decode bc_Mo_keepNets 11 = .ok (.iload_n 1, 1) := by decide +kernel
theorem dr_Mo_keepNets_12 : decode bc_Mo_keepNets 12 = .ok (.bipush 10, 2) := by decide +kernel
theorem dr_Mo_keepNets_14 : decode bc_Mo_keepNets 14 = .ok (.if_icmp .ge 62, 3) := by decide +kernel
theorem dr_Mo_keepNets_17 : decode bc_Mo_keepNets 17 = .ok (.aload_n 0, 1) := by decide +kernel
theorem dr_Mo_keepNets_18 : decode bc_Mo_keepNets 18 = .ok (.getfield 51, 3) := by decide +kernel
theorem dr_Mo_keepNets_21 : decode bc_Mo_keepNets 21 = .ok (.iload_n 1, 1) := by decide +kernel
theorem dr_Mo_keepNets_22 : decode bc_Mo_keepNets 22 = .ok (.iconst 1, 1) := by decide +kernel
theorem dr_Mo_keepNets_23 : decode bc_Mo_keepNets 23 = .ok (.isub, 1) := by decide +kernel
theorem dr_Mo_keepNets_24 : decode bc_Mo_keepNets 24 = .ok (.aload_n 0, 1) := by decide +kernel
theorem dr_Mo_keepNets_25 : decode bc_Mo_keepNets 25 = .ok (.getfield 51, 3) := by decide +kernel
theorem dr_Mo_keepNets_28 : decode bc_Mo_keepNets 28 = .ok (.iload_n 1, 1) := by decide +kernel
theorem dr_Mo_keepNets_29 : decode bc_Mo_keepNets 29 = .ok (.iaload, 1) := by decide +kernel
theorem dr_Mo_keepNets_30 : decode bc_Mo_keepNets 30 = .ok (.iastore, 1) := by decide +kernel
theorem dr_Mo_keepNets_31 : decode bc_Mo_keepNets 31 = .ok (.iconst 0, 1) := by decide +kernel
theorem dr_Mo_keepNets_32 : decode bc_Mo_keepNets 32 = .ok (.istore_n 2, 1) := by decide +kernel
theorem dr_Mo_keepNets_33 : decode bc_Mo_keepNets 33 = .ok (.iload_n 2, 1) := by decide +kernel
theorem dr_Mo_keepNets_34 : decode bc_Mo_keepNets 34 = .ok (.bipush 80, 2) := by decide +kernel
theorem dr_Mo_keepNets_36 : decode bc_Mo_keepNets 36 = .ok (.if_icmp .ge 34, 3) := by decide +kernel
theorem dr_Mo_keepNets_39 : decode bc_Mo_keepNets 39 = .ok (.aload_n 0, 1) := by decide +kernel
theorem dr_Mo_keepNets_40 : decode bc_Mo_keepNets 40 = .ok (.getfield 54, 3) := by decide +kernel
theorem dr_Mo_keepNets_43 : decode bc_Mo_keepNets 43 = .ok (.bipush 80, 2) := by decide +kernel
theorem dr_Mo_keepNets_45 : decode bc_Mo_keepNets 45 = .ok (.iload_n 1, 1) := by decide +kernel
theorem dr_Mo_keepNets_46 : decode bc_Mo_keepNets 46 = .ok (.imul, 1) := by decide +kernel
theorem dr_Mo_keepNets_47 : decode bc_Mo_keepNets 47 = .ok (.bipush 80, 2) := by decide +kernel
theorem dr_Mo_keepNets_49 : decode bc_Mo_keepNets 49 = .ok (.isub, 1) := by decide +kernel
theorem dr_Mo_keepNets_50 : decode bc_Mo_keepNets 50 = .ok (.iload_n 2, 1) := by decide +kernel
theorem dr_Mo_keepNets_51 : decode bc_Mo_keepNets 51 = .ok (.iadd, 1) := by decide +kernel
theorem dr_Mo_keepNets_52 : decode bc_Mo_keepNets 52 = .ok (.aload_n 0, 1) := by decide +kernel
theorem dr_Mo_keepNets_53 : decode bc_Mo_keepNets 53 = .ok (.getfield 54, 3) := by decide +kernel
theorem dr_Mo_keepNets_56 : decode bc_Mo_keepNets 56 = .ok (.bipush 80, 2) := by decide +kernel
theorem dr_Mo_keepNets_58 : decode bc_Mo_keepNets 58 = .ok (.iload_n 1, 1) := by decide +kernel
theorem dr_Mo_keepNets_59 : decode bc_Mo_keepNets 59 = .ok (.imul, 1) := by decide +kernel
theorem dr_Mo_keepNets_60 : decode bc_Mo_keepNets 60 = .ok (.iload_n 2, 1) := by decide +kernel
theorem dr_Mo_keepNets_61 : decode bc_Mo_keepNets 61 = .ok (.iadd, 1) := by decide +kernel
theorem dr_Mo_keepNets_62 : decode bc_Mo_keepNets 62 = .ok (.iaload, 1) := by decide +kernel
theorem dr_Mo_keepNets_63 : decode bc_Mo_keepNets 63 = .ok (.iastore, 1) := by decide +kernel
theorem dr_Mo_keepNets_64 : decode bc_Mo_keepNets 64 = .ok (.iinc 2 1, 3) := by decide +kernel
theorem dr_Mo_keepNets_67 : decode bc_Mo_keepNets 67 = .ok (.goto (-34), 3) := by decide +kernel
theorem dr_Mo_keepNets_70 : decode bc_Mo_keepNets 70 = .ok (.iinc 1 1, 3) := by decide +kernel
theorem dr_Mo_keepNets_73 : decode bc_Mo_keepNets 73 = .ok (.goto (-62), 3) := by decide +kernel
theorem dr_Mo_keepNets_76 : decode bc_Mo_keepNets 76 = .ok (.aload_n 0, 1) := by decide +kernel
theorem dr_Mo_keepNets_77 : decode bc_Mo_keepNets 77 = .ok (.dup, 1) := by decide +kernel
theorem dr_Mo_keepNets_78 : decode bc_Mo_keepNets 78 = .ok (.getfield 152, 3) := by decide +kernel
theorem dr_Mo_keepNets_81 : decode bc_Mo_keepNets 81 = .ok (.iconst 1, 1) := by decide +kernel
theorem dr_Mo_keepNets_82 : decode bc_Mo_keepNets 82 = .ok (.isub, 1) := by decide +kernel
theorem dr_Mo_keepNets_83 : decode bc_Mo_keepNets 83 = .ok (.putfield 152, 3) := by decide +kernel
theorem dr_Mo_keepNets_86 : decode bc_Mo_keepNets 86 = .ok (.aload_n 0, 1) := by decide +kernel
theorem dr_Mo_keepNets_87 : decode bc_Mo_keepNets 87 = .ok (.getfield 51, 3) := by decide +kernel
theorem dr_Mo_keepNets_90 : decode bc_Mo_keepNets 90 = .ok (.aload_n 0, 1) := by decide +kernel
theorem dr_Mo_keepNets_91 : decode bc_Mo_keepNets 91 = .ok (.getfield 152, 3) := by decide +kernel
theorem dr_Mo_keepNets_94 : decode bc_Mo_keepNets 94 = .ok (.aload_n 0, 1) := by decide +kernel
theorem dr_Mo_keepNets_95 : decode bc_Mo_keepNets 95 = .ok (.getfield 89, 3) := by decide +kernel
theorem dr_Mo_keepNets_98 : decode bc_Mo_keepNets 98 = .ok (.iastore, 1) := by decide +kernel
theorem dr_Mo_keepNets_99 : decode bc_Mo_keepNets 99 = .ok (.iconst 0, 1) := by decide +kernel
theorem dr_Mo_keepNets_100 : decode bc_Mo_keepNets 100 = .ok (.istore_n 1, 1) := by decide +kernel
theorem dr_Mo_keepNets_101 : decode bc_Mo_keepNets 101 = .ok (.iload_n 1, 1) := by decide +kernel
theorem dr_Mo_keepNets_102 : decode bc_Mo_keepNets 102 = .ok (.aload_n 0, 1) := by decide +kernel
theorem dr_Mo_keepNets_103 : decode bc_Mo_keepNets 103 = .ok (.getfield 89, 3) := by decide +kernel
theorem dr_Mo_keepNets_106 : decode bc_Mo_keepNets 106 = .ok (.if_icmp .ge 29, 3) := by decide +kernel
theorem dr_Mo_keepNets_109 : decode bc_Mo_keepNets 109 = .ok (.aload_n 0, 1) := by decide +kernel
theorem dr_Mo_keepNets_110 : decode bc_Mo_keepNets 110 = .ok (.getfield 54, 3) := by decide +kernel
theorem dr_Mo_keepNets_113 : decode bc_Mo_keepNets 113 = .ok (.bipush 80, 2) := by decide +kernel
theorem dr_Mo_keepNets_115 : decode bc_Mo_keepNets 115 = .ok (.aload_n 0, 1) := by decide +kernel
theorem dr_Mo_keepNets_116 : decode bc_Mo_keepNets 116 = .ok (.getfield 152, 3) := by decide +kernel
theorem dr_Mo_keepNets_119 : decode bc_Mo_keepNets 119 = .ok (.imul, 1) := by decide +kernel
theorem dr_Mo_keepNets_120 : decode bc_Mo_keepNets 120 = .ok (.iload_n 1, 1) := by decide +kernel
theorem dr_Mo_keepNets_121 : decode bc_Mo_keepNets 121 = .ok (.iadd, 1) := by decide +kernel
theorem dr_Mo_keepNets_122 : decode bc_Mo_keepNets 122 = .ok (.aload_n 0, 1) := by decide +kernel
theorem dr_Mo_keepNets_123 : decode bc_Mo_keepNets 123 = .ok (.getfield 23, 3) := by decide +kernel
theorem dr_Mo_keepNets_126 : decode bc_Mo_keepNets 126 = .ok (.iload_n 1, 1) := by decide +kernel
theorem dr_Mo_keepNets_127 : decode bc_Mo_keepNets 127 = .ok (.iaload, 1) := by decide +kernel
theorem dr_Mo_keepNets_128 : decode bc_Mo_keepNets 128 = .ok (.iastore, 1) := by decide +kernel
theorem dr_Mo_keepNets_129 : decode bc_Mo_keepNets 129 = .ok (.iinc 1 1, 3) := by decide +kernel
theorem dr_Mo_keepNets_132 : decode bc_Mo_keepNets 132 = .ok (.goto (-31), 3) := by decide +kernel
theorem dr_Mo_keepNets_135 : decode bc_Mo_keepNets 135 = .ok (.aload_n 0, 1) := by decide +kernel
theorem dr_Mo_keepNets_136 : decode bc_Mo_keepNets 136 = .ok (.dup, 1) := by decide +kernel
theorem dr_Mo_keepNets_137 : decode bc_Mo_keepNets 137 = .ok (.getfield 152, 3) := by decide +kernel
theorem dr_Mo_keepNets_140 : decode bc_Mo_keepNets 140 = .ok (.iconst 1, 1) := by decide +kernel
theorem dr_Mo_keepNets_141 : decode bc_Mo_keepNets 141 = .ok (.iadd, 1) := by decide +kernel
theorem dr_Mo_keepNets_142 : decode bc_Mo_keepNets 142 = .ok (.putfield 152, 3) := by decide +kernel
theorem dr_Mo_keepNets_145 : decode bc_Mo_keepNets 145 = .ok (.return_, 1) := by decide +kernel
theorem dr_Mo_run_0 : decode bc_Mo_run 0 = .ok (.aload_n 0, 1) := by decide +kernel
theorem dr_Mo_run_1 : decode bc_Mo_run 1 = .ok (.iconst 0, 1) := by decide +kernel
theorem dr_Mo_run_2 : decode bc_Mo_run 2 = .ok (.putfield 78, 3) := by decide +kernel
theorem dr_Mo_run_5 : decode bc_Mo_run 5 = .ok (.aload_n 0, 1) := by decide +kernel
theorem dr_Mo_run_6 : decode bc_Mo_run 6 = .ok (.aload_n 0, 1) := by decide +kernel
theorem dr_Mo_run_7 : decode bc_Mo_run 7 = .ok (.invokevirtual 113, 3) := by decide +kernel
theorem dr_Mo_run_10 : decode bc_Mo_run 10 = .ok (.putfield 117, 3) := by decide +kernel
theorem dr_Mo_run_13 : decode bc_Mo_run 13 = .ok (.iconst 0, 1) := by decide +kernel
theorem dr_Mo_run_14 : decode bc_Mo_run 14 = .ok (.istore_n 1, 1) := by decide +kernel
theorem dr_Mo_run_15 : decode bc_Mo_run 15 = .ok (.iload_n 1, 1) := by decide +kernel
theorem dr_Mo_run_16 : decode bc_Mo_run 16 = .ok (.aload_n 0, 1) := by decide +kernel
theorem dr_Mo_run_17 : decode bc_Mo_run 17 = .ok (.getfield 89, 3) := by decide +kernel
theorem dr_Mo_run_20 : decode bc_Mo_run 20 = .ok (.if_icmp .ge 21, 3) := by decide +kernel
theorem dr_Mo_run_23 : decode bc_Mo_run 23 = .ok (.aload_n 0, 1) := by decide +kernel
theorem dr_Mo_run_24 : decode bc_Mo_run 24 = .ok (.getfield 75, 3) := by decide +kernel
theorem dr_Mo_run_27 : decode bc_Mo_run 27 = .ok (.iload_n 1, 1) := by decide +kernel
theorem dr_Mo_run_28 : decode bc_Mo_run 28 = .ok (.aload_n 0, 1) := by decide +kernel
theorem dr_Mo_run_29 : decode bc_Mo_run 29 = .ok (.getfield 23, 3) := by decide +kernel
theorem dr_Mo_run_32 : decode bc_Mo_run 32 = .ok (.iload_n 1, 1) := by decide +kernel
theorem dr_Mo_run_33 : decode bc_Mo_run 33 = .ok (.iaload, 1) := by decide +kernel
theorem dr_Mo_run_34 : decode bc_Mo_run 34 = .ok (.iastore, 1) := by decide +kernel
theorem dr_Mo_run_35 : decode bc_Mo_run 35 = .ok (.iinc 1 1, 3) := by decide +kernel
theorem dr_Mo_run_38 : decode bc_Mo_run 38 = .ok (.goto (-23), 3) := by decide +kernel
theorem dr_Mo_run_41 : decode bc_Mo_run 41 = .ok (.iconst 0, 1) := by decide +kernel
theorem dr_Mo_run_42 : decode bc_Mo_run 42 = .ok (.istore_n 1, 1) := by decide +kernel
theorem dr_Mo_run_43 : decode bc_Mo_run 43 = .ok (.iload_n 1, 1) := by decide +kernel
theorem dr_Mo_run_44 : decode bc_Mo_run 44 = .ok (.aload_n 0, 1) := by decide +kernel
theorem dr_Mo_run_45 : decode bc_Mo_run 45 = .ok (.getfield 82, 3) := by decide +kernel
theorem dr_Mo_run_48 : decode bc_Mo_run 48 = .ok (.if_icmp .ge 21, 3) := by decide +kernel
theorem dr_Mo_run_51 : decode bc_Mo_run 51 = .ok (.aload_n 0, 1) := by decide +kernel
theorem dr_Mo_run_52 : decode bc_Mo_run 52 = .ok (.iload_n 1, 1) := by decide +kernel
theorem dr_Mo_run_53 : decode bc_Mo_run 53 = .ok (.iconst 0, 1) := by decide +kernel
theorem dr_Mo_run_54 : decode bc_Mo_run 54 = .ok (.invokevirtual 155, 3) := by decide +kernel
theorem dr_Mo_run_57 : decode bc_Mo_run 57 = .ok (.aload_n 0, 1) := by decide +kernel
theorem dr_Mo_run_58 : decode bc_Mo_run 58 = .ok (.iload_n 1, 1) := by decide +kernel
theorem dr_Mo_run_59 : decode bc_Mo_run 59 = .ok (.iconst 1, 1) := by decide +kernel
theorem dr_Mo_run_60 : decode bc_Mo_run 60 = .ok (.invokevirtual 155, 3) := by decide +kernel
theorem dr_Mo_run_63 : decode bc_Mo_run 63 = .ok (.iinc 1 1, 3) := by decide +kernel
theorem dr_Mo_run_66 : decode bc_Mo_run 66 = .ok (.goto (-23), 3) := by decide +kernel
theorem dr_Mo_run_69 : decode bc_Mo_run 69 = .ok (.iconst 0, 1) := by decide +kernel
theorem dr_Mo_run_70 : decode bc_Mo_run 70 = .ok (.istore_n 1, 1) := by decide +kernel
theorem dr_Mo_run_71 : decode bc_Mo_run 71 = .ok (.iconst 0, 1) := by decide +kernel
theorem dr_Mo_run_72 : decode bc_Mo_run 72 = .ok (.istore_n 2, 1) := by decide +kernel
theorem dr_Mo_run_73 : decode bc_Mo_run 73 = .ok (.iload_n 2, 1) := by decide +kernel
theorem dr_Mo_run_74 : decode bc_Mo_run 74 = .ok (.aload_n 0, 1) := by decide +kernel
theorem dr_Mo_run_75 : decode bc_Mo_run 75 = .ok (.getfield 89, 3) := by decide +kernel
theorem dr_Mo_run_78 : decode bc_Mo_run 78 = .ok (.if_icmp .ge 32, 3) := by decide +kernel
theorem dr_Mo_run_81 : decode bc_Mo_run 81 = .ok (.iload_n 1, 1) := by decide +kernel
theorem dr_Mo_run_82 : decode bc_Mo_run 82 = .ok (.aload_n 0, 1) := by decide +kernel
theorem dr_Mo_run_83 : decode bc_Mo_run 83 = .ok (.getfield 75, 3) := by decide +kernel
theorem dr_Mo_run_86 : decode bc_Mo_run 86 = .ok (.iload_n 2, 1) := by decide +kernel
theorem dr_Mo_run_87 : decode bc_Mo_run 87 = .ok (.iaload, 1) := by decide +kernel
theorem dr_Mo_run_88 : decode bc_Mo_run 88 = .ok (.aload_n 0, 1) := by decide +kernel
theorem dr_Mo_run_89 : decode bc_Mo_run 89 = .ok (.getfield 23, 3) := by decide +kernel
theorem dr_Mo_run_92 : decode bc_Mo_run 92 = .ok (.iload_n 2, 1) := by decide +kernel
theorem dr_Mo_run_93 : decode bc_Mo_run 93 = .ok (.iaload, 1) := by decide +kernel
theorem dr_Mo_run_94 : decode bc_Mo_run 94 = .ok (.if_icmp .eq 7, 3) := by decide +kernel
theorem dr_Mo_run_97 : decode bc_Mo_run 97 = .ok (.iconst 1, 1) := by decide +kernel
theorem dr_Mo_run_98 : decode bc_Mo_run 98 = .ok (.goto 4, 3) := by decide +kernel
theorem dr_Mo_run_101 : decode bc_Mo_run 101 = .ok (.iconst 0, 1) := by decide +kernel
theorem dr_Mo_run_102 : decode bc_Mo_run 102 = .ok (.iadd, 1) := by decide +kernel
theorem dr_Mo_run_103 : decode bc_Mo_run 103 = .ok (.istore_n 1, 1) := by decide +kernel
theorem dr_Mo_run_104 : decode bc_Mo_run 104 = .ok (.iinc 2 1, 3) := by decide +kernel
theorem dr_Mo_run_107 : decode bc_Mo_run 107 = .ok (.goto (-34), 3) := by decide +kernel
theorem dr_Mo_run_110 : decode bc_Mo_run 110 = .ok (.iload_n 1, 1) := by decide +kernel
theorem dr_Mo_run_111 : decode bc_Mo_run 111 = .ok (.ifCond .le 7, 3) := by decide +kernel
theorem dr_Mo_run_114 : decode bc_Mo_run 114 = .ok (.aload_n 0, 1) := by decide +kernel
theorem dr_Mo_run_115 : decode bc_Mo_run 115 = .ok (.invokevirtual 159, 3) := by decide +kernel
theorem dr_Mo_run_118 : decode bc_Mo_run 118 = .ok (.iconst 0, 1) := by decide +kernel
theorem dr_Mo_run_119 : decode bc_Mo_run 119 = .ok (.istore_n 2, 1) := by decide +kernel
theorem dr_Mo_run_120 : decode bc_Mo_run 120 = .ok (.iload_n 2, 1) := by decide +kernel
theorem dr_Mo_run_121 : decode bc_Mo_run 121 = .ok (.aload_n 0, 1) := by decide +kernel
theorem dr_Mo_run_122 : decode bc_Mo_run 122 = .ok (.getfield 89, 3) := by decide +kernel
theorem dr_Mo_run_125 : decode bc_Mo_run 125 = .ok (.if_icmp .ge 21, 3) := by decide +kernel
theorem dr_Mo_run_128 : decode bc_Mo_run 128 = .ok (.aload_n 0, 1) := by decide +kernel
theorem dr_Mo_run_129 : decode bc_Mo_run 129 = .ok (.getfield 23, 3) := by decide +kernel
theorem dr_Mo_run_132 : decode bc_Mo_run 132 = .ok (.iload_n 2, 1) := by decide +kernel
theorem dr_Mo_run_133 : decode bc_Mo_run 133 = .ok (.aload_n 0, 1) := by decide +kernel
theorem dr_Mo_run_134 : decode bc_Mo_run 134 = .ok (.getfield 75, 3) := by decide +kernel
theorem dr_Mo_run_137 : decode bc_Mo_run 137 = .ok (.iload_n 2, 1) := by decide +kernel
theorem dr_Mo_run_138 : decode bc_Mo_run 138 = .ok (.iaload, 1) := by decide +kernel
theorem dr_Mo_run_139 : decode bc_Mo_run 139 = .ok (.iastore, 1) := by decide +kernel
theorem dr_Mo_run_140 : decode bc_Mo_run 140 = .ok (.iinc 2 1, 3) := by decide +kernel
theorem dr_Mo_run_143 : decode bc_Mo_run 143 = .ok (.goto (-23), 3) := by decide +kernel
theorem dr_Mo_run_146 : decode bc_Mo_run 146 = .ok (.iload_n 1, 1) := by decide +kernel
theorem dr_Mo_run_147 : decode bc_Mo_run 147 = .ok (.ireturn, 1) := by decide +kernel
theorem dr_Mo_undo_0 : decode bc_Mo_undo 0 = .ok (.aload_n 0, 1) := by decide +kernel
theorem dr_Mo_undo_1 : decode bc_Mo_undo 1 = .ok (.iconst 0, 1) := by decide +kernel
theorem dr_Mo_undo_2 : decode bc_Mo_undo 2 = .ok (.putfield 78, 3) := by decide +kernel
theorem dr_Mo_undo_5 : decode bc_Mo_undo 5 = .ok (.aload_n 0, 1) := by decide +kernel
theorem dr_Mo_undo_6 : decode bc_Mo_undo 6 = .ok (.getfield 152, 3) := by decide +kernel
theorem dr_Mo_undo_9 : decode bc_Mo_undo 9 = .ok (.ifCond .ne 5, 3) := by decide +kernel
theorem dr_Mo_undo_12 : decode bc_Mo_undo 12 = .ok (.iconst 0, 1) := by decide +kernel
theorem dr_Mo_undo_13 : decode bc_Mo_undo 13 = .ok (.ireturn, 1) := by decide +kernel
theorem dr_Mo_undo_14 : decode bc_Mo_undo 14 = .ok (.aload_n 0, 1) := by decide +kernel
theorem dr_Mo_undo_15 : decode bc_Mo_undo 15 = .ok (.dup, 1) := by decide +kernel
theorem dr_Mo_undo_16 : decode bc_Mo_undo 16 = .ok (.getfield 152, 3) := by decide +kernel
theorem dr_Mo_undo_19 : decode bc_Mo_undo 19 = .ok (.iconst 1, 1) := by decide +kernel
theorem dr_Mo_undo_20 : decode bc_Mo_undo 20 = .ok (.isub, 1) := by decide +kernel
theorem dr_Mo_undo_21 : decode bc_Mo_undo 21 = .ok (.putfield 152, 3) := by decide +kernel
theorem dr_Mo_undo_24 : decode bc_Mo_undo 24 = .ok (.iconst 0, 1) := by decide +kernel
theorem dr_Mo_undo_25 : decode bc_Mo_undo 25 = .ok (.istore_n 1, 1) := by decide +kernel
theorem dr_Mo_undo_26 : decode bc_Mo_undo 26 = .ok (.iload_n 1, 1) := by decide +kernel
theorem dr_Mo_undo_27 : decode bc_Mo_undo 27 = .ok (.aload_n 0, 1) := by decide +kernel
theorem dr_Mo_undo_28 : decode bc_Mo_undo 28 = .ok (.getfield 51, 3) := by decide +kernel
theorem dr_Mo_undo_31 : decode bc_Mo_undo 31 = .ok (.aload_n 0, 1) := by decide +kernel
theorem dr_Mo_undo_32 : decode bc_Mo_undo 32 = .ok (.getfield 152, 3) := by decide +kernel
theorem dr_Mo_undo_35 : decode bc_Mo_undo 35 = .ok (.iaload, 1) := by decide +kernel
theorem dr_Mo_undo_36 : decode bc_Mo_undo 36 = .ok (.if_icmp .ge 29, 3) := by decide +kernel
theorem dr_Mo_undo_39 : decode bc_Mo_undo 39 = .ok (.aload_n 0, 1) := by decide +kernel
theorem dr_Mo_undo_40 : decode bc_Mo_undo 40 = .ok (.getfield 23, 3) := by decide +kernel
theorem dr_Mo_undo_43 : decode bc_Mo_undo 43 = .ok (.iload_n 1, 1) := by decide +kernel
theorem dr_Mo_undo_44 : decode bc_Mo_undo 44 = .ok (.aload_n 0, 1) := by decide +kernel
theorem dr_Mo_undo_45 : decode bc_Mo_undo 45 = .ok (.getfield 54, 3) := by decide +kernel
theorem dr_Mo_undo_48 : decode bc_Mo_undo 48 = .ok (.bipush 80, 2) := by decide +kernel
theorem dr_Mo_undo_50 : decode bc_Mo_undo 50 = .ok (.aload_n 0, 1) := by decide +kernel
theorem dr_Mo_undo_51 : decode bc_Mo_undo 51 = .ok (.getfield 152, 3) := by decide +kernel
theorem dr_Mo_undo_54 : decode bc_Mo_undo 54 = .ok (.imul, 1) := by decide +kernel
theorem dr_Mo_undo_55 : decode bc_Mo_undo 55 = .ok (.iload_n 1, 1) := by decide +kernel
theorem dr_Mo_undo_56 : decode bc_Mo_undo 56 = .ok (.iadd, 1) := by decide +kernel
theorem dr_Mo_undo_57 : decode bc_Mo_undo 57 = .ok (.iaload, 1) := by decide +kernel
theorem dr_Mo_undo_58 : decode bc_Mo_undo 58 = .ok (.iastore, 1) := by decide +kernel
theorem dr_Mo_undo_59 : decode bc_Mo_undo 59 = .ok (.iinc 1 1, 3) := by decide +kernel
theorem dr_Mo_undo_62 : decode bc_Mo_undo 62 = .ok (.goto (-36), 3) := by decide +kernel
theorem dr_Mo_undo_65 : decode bc_Mo_undo 65 = .ok (.iconst 1, 1) := by decide +kernel
theorem dr_Mo_undo_66 : decode bc_Mo_undo 66 = .ok (.ireturn, 1) := by decide +kernel
theorem dr_Mo_netOf_0 : decode bc_Mo_netOf 0 = .ok (.aload_n 0, 1) := by decide +kernel
theorem dr_Mo_netOf_1 : decode bc_Mo_netOf 1 = .ok (.aload_n 0, 1) := by decide +kernel
theorem dr_Mo_netOf_2 : decode bc_Mo_netOf 2 = .ok (.iload_n 1, 1) := by decide +kernel
theorem dr_Mo_netOf_3 : decode bc_Mo_netOf 3 = .ok (.invokevirtual 100, 3) := by decide +kernel
theorem dr_Mo_netOf_6 : decode bc_Mo_netOf 6 = .ok (.ifCond .eq 7, 3) := by decide +kernel
theorem dr_Mo_netOf_9 : decode bc_Mo_netOf 9 = .ok (.iconst 0, 1) := by decide +kernel
theorem dr_Mo_netOf_10 : decode bc_Mo_netOf 10 = .ok (.goto 4, 3) := by decide +kernel
theorem dr_Mo_netOf_13 : decode bc_Mo_netOf 13 = .ok (.iconst 1, 1) := by decide +kernel
theorem dr_Mo_netOf_14 : decode bc_Mo_netOf 14 = .ok (.putfield 78, 3) := by decide +kernel
theorem dr_Mo_netOf_17 : decode bc_Mo_netOf 17 = .ok (.aload_n 0, 1) := by decide +kernel
theorem dr_Mo_netOf_18 : decode bc_Mo_netOf 18 = .ok (.getfield 78, 3) := by decide +kernel
theorem dr_Mo_netOf_21 : decode bc_Mo_netOf 21 = .ok (.ifCond .ne 12, 3) := by decide +kernel
theorem dr_Mo_netOf_24 : decode bc_Mo_netOf 24 = .ok (.aload_n 0, 1) := by decide +kernel
theorem dr_Mo_netOf_25 : decode bc_Mo_netOf 25 = .ok (.getfield 23, 3) := by decide +kernel
theorem dr_Mo_netOf_28 : decode bc_Mo_netOf 28 = .ok (.iload_n 1, 1) := by decide +kernel
theorem dr_Mo_netOf_29 : decode bc_Mo_netOf 29 = .ok (.iaload, 1) := by decide +kernel
theorem dr_Mo_netOf_30 : decode bc_Mo_netOf 30 = .ok (.goto 4, 3) := by decide +kernel
theorem dr_Mo_netOf_33 : decode bc_Mo_netOf 33 = .ok (.iconst 0, 1) := by decide +kernel
theorem dr_Mo_netOf_34 : decode bc_Mo_netOf 34 = .ok (.ireturn, 1) := by decide +kernel
theorem dr_Mo_dual_0 : decode bc_Mo_dual 0 = .ok (.aload_n 0, 1) := by decide +kernel
theorem dr_Mo_dual_1 : decode bc_Mo_dual 1 = .ok (.aload_n 0, 1) := by decide +kernel
theorem dr_Mo_dual_2 : decode bc_Mo_dual 2 = .ok (.iload_n 2, 1) := by decide +kernel
theorem dr_Mo_dual_3 : decode bc_Mo_dual 3 = .ok (.invokevirtual 100, 3) := by decide +kernel
theorem dr_Mo_dual_6 : decode bc_Mo_dual 6 = .ok (.ifCond .eq 16, 3) := by decide +kernel
theorem dr_Mo_dual_9 : decode bc_Mo_dual 9 = .ok (.iload_n 1, 1) := by decide +kernel
theorem dr_Mo_dual_10 : decode bc_Mo_dual 10 = .ok (.ifCond .eq 8, 3) := by decide +kernel
theorem dr_Mo_dual_13 : decode bc_Mo_dual 13 = .ok (.iload_n 1, 1) := by decide +kernel
theorem dr_Mo_dual_14 : decode bc_Mo_dual 14 = .ok (.iconst 1, 1) := by decide +kernel
theorem dr_Mo_dual_15 : decode bc_Mo_dual 15 = .ok (.if_icmp .ne 7, 3) := by decide +kernel
theorem dr_Mo_dual_18 : decode bc_Mo_dual 18 = .ok (.iconst 0, 1) := by decide +kernel
theorem dr_Mo_dual_19 : decode bc_Mo_dual 19 = .ok (.goto 4, 3) := by decide +kernel
theorem dr_Mo_dual_22 : decode bc_Mo_dual 22 = .ok (.iconst 1, 1) := by decide +kernel
theorem dr_Mo_dual_23 : decode bc_Mo_dual 23 = .ok (.putfield 78, 3) := by decide +kernel
theorem dr_Mo_dual_26 : decode bc_Mo_dual 26 = .ok (.aload_n 0, 1) := by decide +kernel
theorem dr_Mo_dual_27 : decode bc_Mo_dual 27 = .ok (.getfield 78, 3) := by decide +kernel
theorem dr_Mo_dual_30 : decode bc_Mo_dual 30 = .ok (.ifCond .eq 5, 3) := by decide +kernel
theorem dr_Mo_dual_33 : decode bc_Mo_dual 33 = .ok (.lconst 0, 1) := by decide +kernel
theorem dr_Mo_dual_34 : decode bc_Mo_dual 34 = .ok (.lreturn, 1) := by decide +kernel
theorem dr_Mo_dual_35 : decode bc_Mo_dual 35 = .ok (.aload_n 0, 1) := by decide +kernel
theorem dr_Mo_dual_36 : decode bc_Mo_dual 36 = .ok (.getfield 33, 3) := by decide +kernel
theorem dr_Mo_dual_39 : decode bc_Mo_dual 39 = .ok (.iload_n 2, 1) := by decide +kernel
theorem dr_Mo_dual_40 : decode bc_Mo_dual 40 = .ok (.iaload, 1) := by decide +kernel
theorem dr_Mo_dual_41 : decode bc_Mo_dual 41 = .ok (.iconst (-1), 1) := by decide +kernel
theorem dr_Mo_dual_42 : decode bc_Mo_dual 42 = .ok (.if_icmp .eq 7, 3) := by decide +kernel
theorem dr_Mo_dual_45 : decode bc_Mo_dual 45 = .ok (.iconst 1, 1) := by decide +kernel
theorem dr_Mo_dual_46 : decode bc_Mo_dual 46 = .ok (.goto 4, 3) := by decide +kernel
theorem dr_Mo_dual_49 : decode bc_Mo_dual 49 = .ok (.iconst 0, 1) := by decide +kernel
theorem dr_Mo_dual_50 : decode bc_Mo_dual 50 = .ok (.istore_n 3, 1) := by decide +kernel
theorem dr_Mo_dual_51 : decode bc_Mo_dual 51 = .ok (.iload_n 3, 1) := by decide +kernel
theorem dr_Mo_dual_52 : decode bc_Mo_dual 52 = .ok (.ifCond .eq 21, 3) := by decide +kernel
theorem dr_Mo_dual_55 : decode bc_Mo_dual 55 = .ok (.aload_n 0, 1) := by decide +kernel
theorem dr_Mo_dual_56 : decode bc_Mo_dual 56 = .ok (.getfield 36, 3) := by decide +kernel
theorem dr_Mo_dual_59 : decode bc_Mo_dual 59 = .ok (.iload_n 2, 1) := by decide +kernel
theorem dr_Mo_dual_60 : decode bc_Mo_dual 60 = .ok (.baload, 1) := by decide +kernel
theorem dr_Mo_dual_61 : decode bc_Mo_dual 61 = .ok (.ifCond .ne 12, 3) := by decide +kernel
theorem dr_Mo_dual_64 : decode bc_Mo_dual 64 = .ok (.aload_n 0, 1) := by decide +kernel
theorem dr_Mo_dual_65 : decode bc_Mo_dual 65 = .ok (.getfield 33, 3) := by decide +kernel
theorem dr_Mo_dual_68 : decode bc_Mo_dual 68 = .ok (.iload_n 2, 1) := by decide +kernel
theorem dr_Mo_dual_69 : decode bc_Mo_dual 69 = .ok (.iaload, 1) := by decide +kernel
theorem dr_Mo_dual_70 : decode bc_Mo_dual 70 = .ok (.goto 4, 3) := by decide +kernel
theorem dr_Mo_dual_73 : decode bc_Mo_dual 73 = .ok (.iload_n 2, 1) := by decide +kernel
theorem dr_Mo_dual_74 : decode bc_Mo_dual 74 = .ok (.istore 4, 2) := by decide +kernel
theorem dr_Mo_dual_76 : decode bc_Mo_dual 76 = .ok (.aload_n 0, 1) := by decide +kernel
theorem dr_Mo_dual_77 : decode bc_Mo_dual 77 = .ok (.iload 4, 2) := by decide +kernel
theorem dr_Mo_dual_79 : decode bc_Mo_dual 79 = .ok (.aload_n 0, 1) := by decide +kernel
theorem dr_Mo_dual_80 : decode bc_Mo_dual 80 = .ok (.getfield 7, 3) := by decide +kernel
theorem dr_Mo_dual_83 : decode bc_Mo_dual 83 = .ok (.iload 4, 2) := by decide +kernel
theorem dr_Mo_dual_85 : decode bc_Mo_dual 85 = .ok (.iaload, 1) := by decide +kernel
theorem dr_Mo_dual_86 : decode bc_Mo_dual 86 = .ok (.iload_n 3, 1) := by decide +kernel
theorem dr_Mo_dual_87 : decode bc_Mo_dual 87 = .ok (.invokevirtual 124, 3) := by decide +kernel
theorem dr_Mo_dual_90 : decode bc_Mo_dual 90 = .ok (.ifCond .ne 7, 3) := by decide +kernel
theorem dr_Mo_dual_93 : decode bc_Mo_dual 93 = .ok (.ldc2_w 162, 3) := by decide +kernel
theorem dr_Mo_dual_96 : decode bc_Mo_dual 96 = .ok (.lreturn, 1) := by decide +kernel
theorem dr_Mo_dual_97 : decode bc_Mo_dual 97 = .ok (.aload_n 0, 1) := by decide +kernel
theorem dr_Mo_dual_98 : decode bc_Mo_dual 98 = .ok (.aload_n 0, 1) := by decide +kernel
theorem dr_Mo_dual_99 : decode bc_Mo_dual 99 = .ok (.getfield 7, 3) := by decide +kernel
theorem dr_Mo_dual_102 : decode bc_Mo_dual 102 = .ok (.iload 4, 2) := by decide +kernel
theorem dr_Mo_dual_104 : decode bc_Mo_dual 104 = .ok (.iaload, 1) := by decide +kernel
theorem dr_Mo_dual_105 : decode bc_Mo_dual 105 = .ok (.iload_n 3, 1) := by decide +kernel
theorem dr_Mo_dual_106 : decode bc_Mo_dual 106 = .ok (.iconst (-1), 1) := by decide +kernel
theorem dr_Mo_dual_107 : decode bc_Mo_dual 107 = .ok (.iconst 0, 1) := by decide +kernel
theorem dr_Mo_dual_108 : decode bc_Mo_dual 108 = .ok (.invokevirtual 145, 3) := by decide +kernel
theorem dr_Mo_dual_111 : decode bc_Mo_dual 111 = .ok (.aload_n 0, 1) := by decide +kernel
theorem dr_Mo_dual_112 : decode bc_Mo_dual 112 = .ok (.getfield 69, 3) := by decide +kernel
theorem dr_Mo_dual_115 : decode bc_Mo_dual 115 = .ok (.iconst 0, 1) := by decide +kernel
theorem dr_Mo_dual_116 : decode bc_Mo_dual 116 = .ok (.laload, 1) := by decide +kernel
theorem dr_Mo_dual_117 : decode bc_Mo_dual 117 = .ok (.lstore 5, 2) := by decide +kernel
theorem dr_Mo_dual_119 : decode bc_Mo_dual 119 = .ok (.iload_n 1, 1) := by decide +kernel
theorem dr_Mo_dual_120 : decode bc_Mo_dual 120 = .ok (.iconst 1, 1) := by decide +kernel
theorem dr_Mo_dual_121 : decode bc_Mo_dual 121 = .ok (.if_icmp .ne 15, 3) := by decide +kernel
theorem dr_Mo_dual_124 : decode bc_Mo_dual 124 = .ok (.aload_n 0, 1) := by decide +kernel
theorem dr_Mo_dual_125 : decode bc_Mo_dual 125 = .ok (.getfield 121, 3) := by decide +kernel
theorem dr_Mo_dual_128 : decode bc_Mo_dual 128 = .ok (.iconst 1, 1) := by decide +kernel
theorem dr_Mo_dual_129 : decode bc_Mo_dual 129 = .ok (.if_icmp .ne 7, 3) := by decide +kernel
theorem dr_Mo_dual_132 : decode bc_Mo_dual 132 = .ok (.ldc2_w 162, 3) := by decide +kernel
theorem dr_Mo_dual_135 : decode bc_Mo_dual 135 = .ok (.lreturn, 1) := by decide +kernel
theorem dr_Mo_dual_136 : decode bc_Mo_dual 136 = .ok (.aload_n 0, 1) := by decide +kernel
theorem dr_Mo_dual_137 : decode bc_Mo_dual 137 = .ok (.aload_n 0, 1) := by decide +kernel
theorem dr_Mo_dual_138 : decode bc_Mo_dual 138 = .ok (.getfield 7, 3) := by decide +kernel
theorem dr_Mo_dual_141 : decode bc_Mo_dual 141 = .ok (.iload 4, 2) := by decide +kernel
theorem dr_Mo_dual_143 : decode bc_Mo_dual 143 = .ok (.iaload, 1) := by decide +kernel
theorem dr_Mo_dual_144 : decode bc_Mo_dual 144 = .ok (.iload_n 3, 1) := by decide +kernel
theorem dr_Mo_dual_145 : decode bc_Mo_dual 145 = .ok (.iload 4, 2) := by decide +kernel
theorem dr_Mo_dual_147 : decode bc_Mo_dual 147 = .ok (.iload_n 1, 1) := by decide +kernel
theorem dr_Mo_dual_148 : decode bc_Mo_dual 148 = .ok (.ifCond .ne 7, 3) := by decide +kernel
theorem dr_Mo_dual_151 : decode bc_Mo_dual 151 = .ok (.iconst 1, 1) := by decide +kernel
theorem dr_Mo_dual_152 : decode bc_Mo_dual 152 = .ok (.goto 4, 3) := by decide +kernel
theorem dr_Mo_dual_155 : decode bc_Mo_dual 155 = .ok (.iconst (-1), 1) := by decide +kernel
theorem dr_Mo_dual_156 : decode bc_Mo_dual 156 = .ok (.invokevirtual 145, 3) := by decide +kernel
theorem dr_Mo_dual_159 : decode bc_Mo_dual 159 = .ok (.aload_n 0, 1) := by decide +kernel
theorem dr_Mo_dual_160 : decode bc_Mo_dual 160 = .ok (.getfield 69, 3) := by decide +kernel
theorem dr_Mo_dual_163 : decode bc_Mo_dual 163 = .ok (.iconst 0, 1) := by decide +kernel
theorem dr_Mo_dual_164 : decode bc_Mo_dual 164 = .ok (.laload, 1) := by decide +kernel
theorem dr_Mo_dual_165 : decode bc_Mo_dual 165 = .ok (.lload 5, 2) := by decide +kernel
theorem dr_Mo_dual_167 : decode bc_Mo_dual 167 = .ok (.lsub, 1) := by decide +kernel
theorem dr_Mo_dual_168 : decode bc_Mo_dual 168 = .ok (.lreturn, 1) := by decide +kernel
theorem dr_Mo_note_0 : decode bc_Mo_note 0 = .ok (.iload_n 1, 1) := by decide +kernel
theorem dr_Mo_note_1 : decode bc_Mo_note 1 = .ok (.istore_n 3, 1) := by decide +kernel
theorem dr_Mo_note_2 : decode bc_Mo_note 2 = .ok (.iconst (-1), 1) := by decide +kernel
theorem dr_Mo_note_3 : decode bc_Mo_note 3 = .ok (.istore 4, 2) := by decide +kernel
theorem dr_Mo_note_5 : decode bc_Mo_note 5 = .ok (.iconst 0, 1) := by decide +kernel
theorem dr_Mo_note_6 : decode bc_Mo_note 6 = .ok (.istore 5, 2) := by decide +kernel
theorem dr_Mo_note_8 : decode bc_Mo_note 8 = .ok (.iload 5, 2) := by decide +kernel
theorem dr_Mo_note_10 : decode bc_Mo_note 10 = .ok (.aload_n 0, 1) := by decide +kernel
theorem dr_Mo_note_11 : decode bc_Mo_note 11 = .ok (.getfield 89, 3) := by decide +kernel
theorem dr_Mo_note_14 : decode bc_Mo_note 14 = .ok (.if_icmp .ge 46, 3) := by decide +kernel
theorem dr_Mo_note_17 : decode bc_Mo_note 17 = .ok (.iload 4, 2) := by decide +kernel
theorem dr_Mo_note_19 : decode bc_Mo_note 19 = .ok (.iconst (-1), 1) := by decide +kernel
theorem dr_Mo_note_20 : decode bc_Mo_note 20 = .ok (.if_icmp .ne 40, 3) := by decide +kernel
theorem dr_Mo_note_23 : decode bc_Mo_note 23 = .ok (.aload_n 0, 1) := by decide +kernel
theorem dr_Mo_note_24 : decode bc_Mo_note 24 = .ok (.getfield 23, 3) := by decide +kernel
theorem dr_Mo_note_27 : decode bc_Mo_note 27 = .ok (.iload 5, 2) := by decide +kernel
theorem dr_Mo_note_29 : decode bc_Mo_note 29 = .ok (.iaload, 1) := by decide +kernel
theorem dr_Mo_note_30 : decode bc_Mo_note 30 = .ok (.aload_n 0, 1) := by decide +kernel
theorem dr_Mo_note_31 : decode bc_Mo_note 31 = .ok (.getfield 26, 3) := by decide +kernel
theorem dr_Mo_note_34 : decode bc_Mo_note 34 = .ok (.iload 5, 2) := by decide +kernel
theorem dr_Mo_note_36 : decode bc_Mo_note 36 = .ok (.iaload, 1) := by decide +kernel
theorem dr_Mo_note_37 : decode bc_Mo_note 37 = .ok (.if_icmp .ne 6, 3) := by decide +kernel
theorem dr_Mo_note_40 : decode bc_Mo_note 40 = .ok (.goto 14, 3) := by decide +kernel
theorem dr_Mo_note_43 : decode bc_Mo_note 43 = .ok (.iload_n 3, 1) := by decide +kernel
theorem dr_Mo_note_44 : decode bc_Mo_note 44 = .ok (.ifCond .ne 7, 3) := by decide +kernel
theorem dr_Mo_note_47 : decode bc_Mo_note 47 = .ok (.iload 5, 2) := by decide +kernel
theorem dr_Mo_note_49 : decode bc_Mo_note 49 = .ok (.istore 4, 2) := by decide +kernel
theorem dr_Mo_note_51 : decode bc_Mo_note 51 = .ok (.iinc 3 (-1), 3) := by decide +kernel
theorem dr_Mo_note_54 : decode bc_Mo_note 54 = .ok (.iinc 5 1, 3) := by decide +kernel
theorem dr_Mo_note_57 : decode bc_Mo_note 57 = .ok (.goto (-49), 3) := by decide +kernel
theorem dr_Mo_note_60 : decode bc_Mo_note 60 = .ok (.aload_n 0, 1) := by decide +kernel
theorem dr_Mo_note_61 : decode bc_Mo_note 61 = .ok (.iload_n 1, 1) := by decide +kernel
theorem dr_Mo_note_62 : decode bc_Mo_note 62 = .ok (.ifCond .lt 22, 3) := by decide +kernel
theorem dr_Mo_note_65 : decode bc_Mo_note 65 = .ok (.iload 4, 2) := by decide +kernel
theorem dr_Mo_note_67 : decode bc_Mo_note 67 = .ok (.iconst (-1), 1) := by decide +kernel
theorem dr_Mo_note_68 : decode bc_Mo_note 68 = .ok (.if_icmp .eq 16, 3) := by decide +kernel
theorem dr_Mo_note_71 : decode bc_Mo_note 71 = .ok (.iload_n 2, 1) := by decide +kernel
theorem dr_Mo_note_72 : decode bc_Mo_note 72 = .ok (.ifCond .lt 12, 3) := by decide +kernel
theorem dr_Mo_note_75 : decode bc_Mo_note 75 = .ok (.iload_n 2, 1) := by decide +kernel
theorem dr_Mo_note_76 : decode bc_Mo_note 76 = .ok (.iconst 3, 1) := by decide +kernel
theorem dr_Mo_note_77 : decode bc_Mo_note 77 = .ok (.if_icmp .ge 7, 3) := by decide +kernel
theorem dr_Mo_note_80 : decode bc_Mo_note 80 = .ok (.iconst 0, 1) := by decide +kernel
theorem dr_Mo_note_81 : decode bc_Mo_note 81 = .ok (.goto 4, 3) := by decide +kernel
theorem dr_Mo_note_84 : decode bc_Mo_note 84 = .ok (.iconst 1, 1) := by decide +kernel
theorem dr_Mo_note_85 : decode bc_Mo_note 85 = .ok (.putfield 78, 3) := by decide +kernel
theorem dr_Mo_note_88 : decode bc_Mo_note 88 = .ok (.aload_n 0, 1) := by decide +kernel
theorem dr_Mo_note_89 : decode bc_Mo_note 89 = .ok (.getfield 78, 3) := by decide +kernel
theorem dr_Mo_note_92 : decode bc_Mo_note 92 = .ok (.ifCond .eq 5, 3) := by decide +kernel
theorem dr_Mo_note_95 : decode bc_Mo_note 95 = .ok (.iconst 0, 1) := by decide +kernel
theorem dr_Mo_note_96 : decode bc_Mo_note 96 = .ok (.ireturn, 1) := by decide +kernel
theorem dr_Mo_note_97 : decode bc_Mo_note 97 = .ok (.iload_n 2, 1) := by decide +kernel
theorem dr_Mo_note_98 : decode bc_Mo_note 98 = .ok (.ifCond .ne 8, 3) := by decide +kernel
theorem dr_Mo_note_101 : decode bc_Mo_note 101 = .ok (.iload 4, 2) := by decide +kernel
theorem dr_Mo_note_103 : decode bc_Mo_note 103 = .ok (.goto 25, 3) := by decide +kernel
theorem dr_Mo_note_106 : decode bc_Mo_note 106 = .ok (.iload_n 2, 1) := by decide +kernel
theorem dr_Mo_note_107 : decode bc_Mo_note 107 = .ok (.iconst 1, 1) := by decide +kernel
theorem dr_Mo_note_108 : decode bc_Mo_note 108 = .ok (.if_icmp .ne 13, 3) := by decide +kernel
theorem dr_Mo_note_111 : decode bc_Mo_note 111 = .ok (.aload_n 0, 1) := by decide +kernel
theorem dr_Mo_note_112 : decode bc_Mo_note 112 = .ok (.getfield 26, 3) := by decide +kernel
theorem dr_Mo_note_115 : decode bc_Mo_note 115 = .ok (.iload 4, 2) := by decide +kernel
theorem dr_Mo_note_117 : decode bc_Mo_note 117 = .ok (.iaload, 1) := by decide +kernel
theorem dr_Mo_note_118 : decode bc_Mo_note 118 = .ok (.goto 10, 3) := by decide +kernel
theorem dr_Mo_note_121 : decode bc_Mo_note 121 = .ok (.aload_n 0, 1) := by decide +kernel
theorem dr_Mo_note_122 : decode bc_Mo_note 122 = .ok (.getfield 23, 3) := by decide +kernel
theorem dr_Mo_note_125 : decode bc_Mo_note 125 = .ok (.iload 4, 2) := by decide +kernel
theorem dr_Mo_note_127 : decode bc_Mo_note 127 = .ok (.iaload, 1) := by decide +kernel
theorem dr_Mo_note_128 : decode bc_Mo_note 128 = .ok (.ireturn, 1) := by decide +kernel
theorem dr_Mo_gate_0 : decode bc_Mo_gate 0 = .ok (.iload_n 1, 1) := by decide +kernel
theorem dr_Mo_gate_1 : decode bc_Mo_gate 1 = .ok (.bipush 16, 2) := by decide +kernel
theorem dr_Mo_gate_3 : decode bc_Mo_gate 3 = .ok (.ishr, 1) := by decide +kernel
theorem dr_Mo_gate_4 : decode bc_Mo_gate 4 = .ok (.istore_n 2, 1) := by decide +kernel
theorem dr_Mo_gate_5 : decode bc_Mo_gate 5 = .ok (.iload_n 2, 1) := by decide +kernel
theorem dr_Mo_gate_6 : decode bc_Mo_gate 6 = .ok (.iconst 1, 1) := by decide +kernel
theorem dr_Mo_gate_7 : decode bc_Mo_gate 7 = .ok (.if_icmp .lt 23, 3) := by decide +kernel
theorem dr_Mo_gate_10 : decode bc_Mo_gate 10 = .ok (.iload_n 2, 1) := by decide +kernel
theorem dr_Mo_gate_11 : decode bc_Mo_gate 11 = .ok (.iconst 4, 1) := by decide +kernel
theorem dr_Mo_gate_12 : decode bc_Mo_gate 12 = .ok (.if_icmp .gt 18, 3) := by decide +kernel
theorem dr_Mo_gate_15 : decode bc_Mo_gate 15 = .ok (.iload_n 1, 1) := by decide +kernel
theorem dr_Mo_gate_16 : decode bc_Mo_gate 16 = .ok (.ldc 164, 2) := by decide +kernel
theorem dr_Mo_gate_18 : decode bc_Mo_gate 18 = .ok (.iand, 1) := by decide +kernel
theorem dr_Mo_gate_19 : decode bc_Mo_gate 19 = .ok (.iconst 1, 1) := by decide +kernel
theorem dr_Mo_gate_20 : decode bc_Mo_gate 20 = .ok (.iload_n 2, 1) := by decide +kernel
theorem dr_Mo_gate_21 : decode bc_Mo_gate 21 = .ok (.ishl, 1) := by decide +kernel
theorem dr_Mo_gate_22 : decode bc_Mo_gate 22 = .ok (.ishr, 1) := by decide +kernel
theorem dr_Mo_gate_23 : decode bc_Mo_gate 23 = .ok (.ifCond .ne 7, 3) := by decide +kernel
theorem dr_Mo_gate_26 : decode bc_Mo_gate 26 = .ok (.iconst 1, 1) := by decide +kernel
theorem dr_Mo_gate_27 : decode bc_Mo_gate 27 = .ok (.goto 4, 3) := by decide +kernel
theorem dr_Mo_gate_30 : decode bc_Mo_gate 30 = .ok (.iconst 0, 1) := by decide +kernel
theorem dr_Mo_gate_31 : decode bc_Mo_gate 31 = .ok (.istore_n 3, 1) := by decide +kernel
theorem dr_Mo_gate_32 : decode bc_Mo_gate 32 = .ok (.aload_n 0, 1) := by decide +kernel
theorem dr_Mo_gate_33 : decode bc_Mo_gate 33 = .ok (.iload_n 3, 1) := by decide +kernel
theorem dr_Mo_gate_34 : decode bc_Mo_gate 34 = .ok (.ifCond .eq 7, 3) := by decide +kernel
theorem dr_Mo_gate_37 : decode bc_Mo_gate 37 = .ok (.iconst 0, 1) := by decide +kernel
theorem dr_Mo_gate_38 : decode bc_Mo_gate 38 = .ok (.goto 4, 3) := by decide +kernel
theorem dr_Mo_gate_41 : decode bc_Mo_gate 41 = .ok (.iconst 1, 1) := by decide +kernel
theorem dr_Mo_gate_42 : decode bc_Mo_gate 42 = .ok (.putfield 78, 3) := by decide +kernel
theorem dr_Mo_gate_45 : decode bc_Mo_gate 45 = .ok (.aload_n 0, 1) := by decide +kernel
theorem dr_Mo_gate_46 : decode bc_Mo_gate 46 = .ok (.getfield 78, 3) := by decide +kernel
theorem dr_Mo_gate_49 : decode bc_Mo_gate 49 = .ok (.ifCond .eq 5, 3) := by decide +kernel
theorem dr_Mo_gate_52 : decode bc_Mo_gate 52 = .ok (.iconst 0, 1) := by decide +kernel
theorem dr_Mo_gate_53 : decode bc_Mo_gate 53 = .ok (.ireturn, 1) := by decide +kernel
theorem dr_Mo_gate_54 : decode bc_Mo_gate 54 = .ok (.aload_n 0, 1) := by decide +kernel
theorem dr_Mo_gate_55 : decode bc_Mo_gate 55 = .ok (.getfield 165, 3) := by decide +kernel
theorem dr_Mo_gate_58 : decode bc_Mo_gate 58 = .ok (.bipush 20, 2) := by decide +kernel
theorem dr_Mo_gate_60 : decode bc_Mo_gate 60 = .ok (.if_icmp .ne 5, 3) := by decide +kernel
theorem dr_Mo_gate_63 : decode bc_Mo_gate 63 = .ok (.iconst (-1), 1) := by decide +kernel
theorem dr_Mo_gate_64 : decode bc_Mo_gate 64 = .ok (.ireturn, 1) := by decide +kernel
theorem dr_Mo_gate_65 : decode bc_Mo_gate 65 = .ok (.aload_n 0, 1) := by decide +kernel
theorem dr_Mo_gate_66 : decode bc_Mo_gate 66 = .ok (.getfield 57, 3) := by decide +kernel
theorem dr_Mo_gate_69 : decode bc_Mo_gate 69 = .ok (.aload_n 0, 1) := by decide +kernel
theorem dr_Mo_gate_70 : decode bc_Mo_gate 70 = .ok (.getfield 165, 3) := by decide +kernel
theorem dr_Mo_gate_73 : decode bc_Mo_gate 73 = .ok (.iload_n 2, 1) := by decide +kernel
theorem dr_Mo_gate_74 : decode bc_Mo_gate 74 = .ok (.iastore, 1) := by decide +kernel
theorem dr_Mo_gate_75 : decode bc_Mo_gate 75 = .ok (.aload_n 0, 1) := by decide +kernel
theorem dr_Mo_gate_76 : decode bc_Mo_gate 76 = .ok (.getfield 60, 3) := by decide +kernel
theorem dr_Mo_gate_79 : decode bc_Mo_gate 79 = .ok (.aload_n 0, 1) := by decide +kernel
theorem dr_Mo_gate_80 : decode bc_Mo_gate 80 = .ok (.getfield 165, 3) := by decide +kernel
theorem dr_Mo_gate_83 : decode bc_Mo_gate 83 = .ok (.iload_n 1, 1) := by decide +kernel
theorem dr_Mo_gate_84 : decode bc_Mo_gate 84 = .ok (.ldc 164, 2) := by decide +kernel
theorem dr_Mo_gate_86 : decode bc_Mo_gate 86 = .ok (.iand, 1) := by decide +kernel
theorem dr_Mo_gate_87 : decode bc_Mo_gate 87 = .ok (.iastore, 1) := by decide +kernel
theorem dr_Mo_gate_88 : decode bc_Mo_gate 88 = .ok (.aload_n 0, 1) := by decide +kernel
theorem dr_Mo_gate_89 : decode bc_Mo_gate 89 = .ok (.dup, 1) := by decide +kernel
theorem dr_Mo_gate_90 : decode bc_Mo_gate 90 = .ok (.getfield 165, 3) := by decide +kernel
theorem dr_Mo_gate_93 : decode bc_Mo_gate 93 = .ok (.iconst 1, 1) := by decide +kernel
theorem dr_Mo_gate_94 : decode bc_Mo_gate 94 = .ok (.iadd, 1) := by decide +kernel
theorem dr_Mo_gate_95 : decode bc_Mo_gate 95 = .ok (.putfield 165, 3) := by decide +kernel
theorem dr_Mo_gate_98 : decode bc_Mo_gate 98 = .ok (.aload_n 0, 1) := by decide +kernel
theorem dr_Mo_gate_99 : decode bc_Mo_gate 99 = .ok (.getfield 165, 3) := by decide +kernel
theorem dr_Mo_gate_102 : decode bc_Mo_gate 102 = .ok (.iconst 1, 1) := by decide +kernel
theorem dr_Mo_gate_103 : decode bc_Mo_gate 103 = .ok (.isub, 1) := by decide +kernel
theorem dr_Mo_gate_104 : decode bc_Mo_gate 104 = .ok (.ireturn, 1) := by decide +kernel
theorem dr_Mo_isSo_0 : decode bc_Mo_isSo 0 = .ok (.aload_n 0, 1) := by decide +kernel
theorem dr_Mo_isSo_1 : decode bc_Mo_isSo 1 = .ok (.getfield 57, 3) := by decide +kernel
theorem dr_Mo_isSo_4 : decode bc_Mo_isSo 4 = .ok (.iload_n 1, 1) := by decide +kernel
theorem dr_Mo_isSo_5 : decode bc_Mo_isSo 5 = .ok (.iaload, 1) := by decide +kernel
theorem dr_Mo_isSo_6 : decode bc_Mo_isSo 6 = .ok (.istore 4, 2) := by decide +kernel
theorem dr_Mo_isSo_8 : decode bc_Mo_isSo 8 = .ok (.iconst 0, 1) := by decide +kernel
theorem dr_Mo_isSo_9 : decode bc_Mo_isSo 9 = .ok (.istore 5, 2) := by decide +kernel
theorem dr_Mo_isSo_11 : decode bc_Mo_isSo 11 = .ok (.iload 5, 2) := by decide +kernel
theorem dr_Mo_isSo_13 : decode bc_Mo_isSo 13 = .ok (.iconst 1, 1) := by decide +kernel
theorem dr_Mo_isSo_14 : decode bc_Mo_isSo 14 = .ok (.iload 4, 2) := by decide +kernel
theorem dr_Mo_isSo_16 : decode bc_Mo_isSo 16 = .ok (.ishl, 1) := by decide +kernel
theorem dr_Mo_isSo_17 : decode bc_Mo_isSo 17 = .ok (.if_icmp .ge 76, 3) := by decide +kernel
theorem dr_Mo_isSo_20 : decode bc_Mo_isSo 20 = .ok (.iconst 0, 1) := by decide +kernel
theorem dr_Mo_isSo_21 : decode bc_Mo_isSo 21 = .ok (.istore 6, 2) := by decide +kernel
theorem dr_Mo_isSo_23 : decode bc_Mo_isSo 23 = .ok (.iconst 0, 1) := by decide +kernel
theorem dr_Mo_isSo_24 : decode bc_Mo_isSo 24 = .ok (.istore 7, 2) := by decide +kernel
theorem dr_Mo_isSo_26 : decode bc_Mo_isSo 26 = .ok (.iload 7, 2) := by decide +kernel
theorem dr_Mo_isSo_28 : decode bc_Mo_isSo 28 = .ok (.iload 4, 2) := by decide +kernel
theorem dr_Mo_isSo_30 : decode bc_Mo_isSo 30 = .ok (.if_icmp .ge 30, 3) := by decide +kernel
theorem dr_Mo_isSo_33 : decode bc_Mo_isSo 33 = .ok (.iload 6, 2) := by decide +kernel
theorem dr_Mo_isSo_35 : decode bc_Mo_isSo 35 = .ok (.iload 5, 2) := by decide +kernel
theorem dr_Mo_isSo_37 : decode bc_Mo_isSo 37 = .ok (.iload 7, 2) := by decide +kernel
theorem dr_Mo_isSo_39 : decode bc_Mo_isSo 39 = .ok (.ishr, 1) := by decide +kernel
theorem dr_Mo_isSo_40 : decode bc_Mo_isSo 40 = .ok (.iconst 1, 1) := by decide +kernel
theorem dr_Mo_isSo_41 : decode bc_Mo_isSo 41 = .ok (.iand, 1) := by decide +kernel
theorem dr_Mo_isSo_42 : decode bc_Mo_isSo 42 = .ok (.iload_n 3, 1) := by decide +kernel
theorem dr_Mo_isSo_43 : decode bc_Mo_isSo 43 = .ok (.iconst 2, 1) := by decide +kernel
theorem dr_Mo_isSo_44 : decode bc_Mo_isSo 44 = .ok (.iload 7, 2) := by decide +kernel
theorem dr_Mo_isSo_46 : decode bc_Mo_isSo 46 = .ok (.imul, 1) := by decide +kernel
theorem dr_Mo_isSo_47 : decode bc_Mo_isSo 47 = .ok (.ishr, 1) := by decide +kernel
theorem dr_Mo_isSo_48 : decode bc_Mo_isSo 48 = .ok (.iconst 3, 1) := by decide +kernel
theorem dr_Mo_isSo_49 : decode bc_Mo_isSo 49 = .ok (.iand, 1) := by decide +kernel
theorem dr_Mo_isSo_50 : decode bc_Mo_isSo 50 = .ok (.ishl, 1) := by decide +kernel
theorem dr_Mo_isSo_51 : decode bc_Mo_isSo 51 = .ok (.ior, 1) := by decide +kernel
theorem dr_Mo_isSo_52 : decode bc_Mo_isSo 52 = .ok (.istore 6, 2) := by decide +kernel
theorem dr_Mo_isSo_54 : decode bc_Mo_isSo 54 = .ok (.iinc 7 1, 3) := by decide +kernel
theorem dr_Mo_isSo_57 : decode bc_Mo_isSo 57 = .ok (.goto (-31), 3) := by decide +kernel
theorem dr_Mo_isSo_60 : decode bc_Mo_isSo 60 = .ok (.aload_n 0, 1) := by decide +kernel
theorem dr_Mo_isSo_61 : decode bc_Mo_isSo 61 = .ok (.getfield 60, 3) := by decide +kernel
theorem dr_Mo_isSo_64 : decode bc_Mo_isSo 64 = .ok (.iload_n 1, 1) := by decide +kernel
theorem dr_Mo_isSo_65 : decode bc_Mo_isSo 65 = .ok (.iaload, 1) := by decide +kernel
theorem dr_Mo_isSo_66 : decode bc_Mo_isSo 66 = .ok (.iload 5, 2) := by decide +kernel
theorem dr_Mo_isSo_68 : decode bc_Mo_isSo 68 = .ok (.ishr, 1) := by decide +kernel
theorem dr_Mo_isSo_69 : decode bc_Mo_isSo 69 = .ok (.iconst 1, 1) := by decide +kernel
theorem dr_Mo_isSo_70 : decode bc_Mo_isSo 70 = .ok (.iand, 1) := by decide +kernel
theorem dr_Mo_isSo_71 : decode bc_Mo_isSo 71 = .ok (.aload_n 0, 1) := by decide +kernel
theorem dr_Mo_isSo_72 : decode bc_Mo_isSo 72 = .ok (.getfield 60, 3) := by decide +kernel
theorem dr_Mo_isSo_75 : decode bc_Mo_isSo 75 = .ok (.iload_n 2, 1) := by decide +kernel
theorem dr_Mo_isSo_76 : decode bc_Mo_isSo 76 = .ok (.iaload, 1) := by decide +kernel
theorem dr_Mo_isSo_77 : decode bc_Mo_isSo 77 = .ok (.iload 6, 2) := by decide +kernel
theorem dr_Mo_isSo_79 : decode bc_Mo_isSo 79 = .ok (.ishr, 1) := by decide +kernel
theorem dr_Mo_isSo_80 : decode bc_Mo_isSo 80 = .ok (.iconst 1, 1) := by decide +kernel
theorem dr_Mo_isSo_81 : decode bc_Mo_isSo 81 = .ok (.iand, 1) := by decide +kernel
theorem dr_Mo_isSo_82 : decode bc_Mo_isSo 82 = .ok (.if_icmp .eq 5, 3) := by decide +kernel
theorem dr_Mo_isSo_85 : decode bc_Mo_isSo 85 = .ok (.iconst 0, 1) := by decide +kernel
theorem dr_Mo_isSo_86 : decode bc_Mo_isSo 86 = .ok (.ireturn, 1) := by decide +kernel
theorem dr_Mo_isSo_87 : decode bc_Mo_isSo 87 = .ok (.iinc 5 1, 3) := by decide +kernel
theorem dr_Mo_isSo_90 : decode bc_Mo_isSo 90 = .ok (.goto (-79), 3) := by decide +kernel
theorem dr_Mo_isSo_93 : decode bc_Mo_isSo 93 = .ok (.iconst 1, 1) := by decide +kernel
theorem dr_Mo_isSo_94 : decode bc_Mo_isSo 94 = .ok (.ireturn, 1) := by decide +kernel
theorem dr_Mo_isOrder_0 : decode bc_Mo_isOrder 0 = .ok (.iconst 0, 1) := by decide +kernel
theorem dr_Mo_isOrder_1 : decode bc_Mo_isOrder 1 = .ok (.istore_n 2, 1) := by decide +kernel
theorem dr_Mo_isOrder_2 : decode bc_Mo_isOrder 2 = .ok (.iconst 0, 1) := by decide +kernel
theorem dr_Mo_isOrder_3 : decode bc_Mo_isOrder 3 = .ok (.istore_n 3, 1) := by decide +kernel
theorem dr_Mo_isOrder_4 : decode bc_Mo_isOrder 4 = .ok (.iload_n 3, 1) := by decide +kernel
theorem dr_Mo_isOrder_5 : decode bc_Mo_isOrder 5 = .ok (.iload_n 1, 1) := by decide +kernel
theorem dr_Mo_isOrder_6 : decode bc_Mo_isOrder 6 = .ok (.if_icmp .ge 21, 3) := by decide +kernel
theorem dr_Mo_isOrder_9 : decode bc_Mo_isOrder 9 = .ok (.iload_n 2, 1) := by decide +kernel
theorem dr_Mo_isOrder_10 : decode bc_Mo_isOrder 10 = .ok (.iconst 1, 1) := by decide +kernel
theorem dr_Mo_isOrder_11 : decode bc_Mo_isOrder 11 = .ok (.iload_n 0, 1) := by decide +kernel
theorem dr_Mo_isOrder_12 : decode bc_Mo_isOrder 12 = .ok (.iconst 2, 1) := by decide +kernel
theorem dr_Mo_isOrder_13 : decode bc_Mo_isOrder 13 = .ok (.iload_n 3, 1) := by decide +kernel
theorem dr_Mo_isOrder_14 : decode bc_Mo_isOrder 14 = .ok (.imul, 1) := by decide +kernel
theorem dr_Mo_isOrder_15 : decode bc_Mo_isOrder 15 = .ok (.ishr, 1) := by decide +kernel
theorem dr_Mo_isOrder_16 : decode bc_Mo_isOrder 16 = .ok (.iconst 3, 1) := by decide +kernel
theorem dr_Mo_isOrder_17 : decode bc_Mo_isOrder 17 = .ok (.iand, 1) := by decide +kernel
theorem dr_Mo_isOrder_18 : decode bc_Mo_isOrder 18 = .ok (.ishl, 1) := by decide +kernel
theorem dr_Mo_isOrder_19 : decode bc_Mo_isOrder 19 = .ok (.ior, 1) := by decide +kernel
theorem dr_Mo_isOrder_20 : decode bc_Mo_isOrder 20 = .ok (.istore_n 2, 1) := by decide +kernel
theorem dr_Mo_isOrder_21 : decode bc_Mo_isOrder 21 = .ok (.iinc 3 1, 3) := by decide +kernel
theorem dr_Mo_isOrder_24 : decode bc_Mo_isOrder 24 = .ok (.goto (-20), 3) := by decide +kernel
theorem dr_Mo_isOrder_27 : decode bc_Mo_isOrder 27 = .ok (.iload_n 2, 1) := by decide +kernel
theorem dr_Mo_isOrder_28 : decode bc_Mo_isOrder 28 = .ok (.iconst 1, 1) := by decide +kernel
theorem dr_Mo_isOrder_29 : decode bc_Mo_isOrder 29 = .ok (.iload_n 1, 1) := by decide +kernel
theorem dr_Mo_isOrder_30 : decode bc_Mo_isOrder 30 = .ok (.ishl, 1) := by decide +kernel
theorem dr_Mo_isOrder_31 : decode bc_Mo_isOrder 31 = .ok (.iconst 1, 1) := by decide +kernel
theorem dr_Mo_isOrder_32 : decode bc_Mo_isOrder 32 = .ok (.isub, 1) := by decide +kernel
theorem dr_Mo_isOrder_33 : decode bc_Mo_isOrder 33 = .ok (.if_icmp .ne 7, 3) := by decide +kernel
theorem dr_Mo_isOrder_36 : decode bc_Mo_isOrder 36 = .ok (.iconst 1, 1) := by decide +kernel
theorem dr_Mo_isOrder_37 : decode bc_Mo_isOrder 37 = .ok (.goto 4, 3) := by decide +kernel
theorem dr_Mo_isOrder_40 : decode bc_Mo_isOrder 40 = .ok (.iconst 0, 1) := by decide +kernel
theorem dr_Mo_isOrder_41 : decode bc_Mo_isOrder 41 = .ok (.ireturn, 1) := by decide +kernel
theorem dr_Mo_equalGate_0 : decode bc_Mo_equalGate 0 = .ok (.iload_n 1, 1) := by decide +kernel
theorem dr_Mo_equalGate_1 : decode bc_Mo_equalGate 1 = .ok (.ifCond .lt 27, 3) := by decide +kernel
theorem dr_Mo_equalGate_4 : decode bc_Mo_equalGate 4 = .ok (.iload_n 1, 1) := by decide +kernel
theorem dr_Mo_equalGate_5 : decode bc_Mo_equalGate 5 = .ok (.aload_n 0, 1) := by decide +kernel
theorem dr_Mo_equalGate_6 : decode bc_Mo_equalGate 6 = .ok (.getfield 165, 3) := by decide +kernel
theorem dr_Mo_equalGate_9 : decode bc_Mo_equalGate 9 = .ok (.if_icmp .ge 19, 3) := by decide +kernel
theorem dr_Mo_equalGate_12 : decode bc_Mo_equalGate 12 = .ok (.iload_n 2, 1) := by decide +kernel
theorem dr_Mo_equalGate_13 : decode bc_Mo_equalGate 13 = .ok (.ifCond .lt 15, 3) := by decide +kernel
theorem dr_Mo_equalGate_16 : decode bc_Mo_equalGate 16 = .ok (.iload_n 2, 1) := by decide +kernel
theorem dr_Mo_equalGate_17 : decode bc_Mo_equalGate 17 = .ok (.aload_n 0, 1) := by decide +kernel
theorem dr_Mo_equalGate_18 : decode bc_Mo_equalGate 18 = .ok (.getfield 165, 3) := by decide +kernel
theorem dr_Mo_equalGate_21 : decode bc_Mo_equalGate 21 = .ok (.if_icmp .ge 7, 3) := by decide +kernel
theorem dr_Mo_equalGate_24 : decode bc_Mo_equalGate 24 = .ok (.iconst 1, 1) := by decide +kernel
theorem dr_Mo_equalGate_25 : decode bc_Mo_equalGate 25 = .ok (.goto 4, 3) := by decide +kernel
theorem dr_Mo_equalGate_28 : decode bc_Mo_equalGate 28 = .ok (.iconst 0, 1) := by decide +kernel
theorem dr_Mo_equalGate_29 : decode bc_Mo_equalGate 29 = .ok (.istore_n 3, 1) := by decide +kernel
theorem dr_Mo_equalGate_30 : decode bc_Mo_equalGate 30 = .ok (.aload_n 0, 1) := by decide +kernel
theorem dr_Mo_equalGate_31 : decode bc_Mo_equalGate 31 = .ok (.iload_n 3, 1) := by decide +kernel
theorem dr_Mo_equalGate_32 : decode bc_Mo_equalGate 32 = .ok (.ifCond .eq 7, 3) := by decide +kernel
theorem dr_Mo_equalGate_35 : decode bc_Mo_equalGate 35 = .ok (.iconst 0, 1) := by decide +kernel
theorem dr_Mo_equalGate_36 : decode bc_Mo_equalGate 36 = .ok (.goto 4, 3) := by decide +kernel
theorem dr_Mo_equalGate_39 : decode bc_Mo_equalGate 39 = .ok (.iconst 1, 1) := by decide +kernel
theorem dr_Mo_equalGate_40 : decode bc_Mo_equalGate 40 = .ok (.putfield 78, 3) := by decide +kernel
theorem dr_Mo_equalGate_43 : decode bc_Mo_equalGate 43 = .ok (.aload_n 0, 1) := by decide +kernel
theorem dr_Mo_equalGate_44 : decode bc_Mo_equalGate 44 = .ok (.getfield 78, 3) := by decide +kernel
theorem dr_Mo_equalGate_47 : decode bc_Mo_equalGate 47 = .ok (.ifCond .ne 18, 3) := by decide +kernel
theorem dr_Mo_equalGate_50 : decode bc_Mo_equalGate 50 = .ok (.aload_n 0, 1) := by decide +kernel
theorem dr_Mo_equalGate_51 : decode bc_Mo_equalGate 51 = .ok (.getfield 57, 3) := by decide +kernel
theorem dr_Mo_equalGate_54 : decode bc_Mo_equalGate 54 = .ok (.iload_n 1, 1) := by decide +kernel
theorem dr_Mo_equalGate_55 : decode bc_Mo_equalGate 55 = .ok (.iaload, 1) := by decide +kernel
theorem dr_Mo_equalGate_56 : decode bc_Mo_equalGate 56 = .ok (.aload_n 0, 1) := by decide +kernel
theorem dr_Mo_equalGate_57 : decode bc_Mo_equalGate 57 = .ok (.getfield 57, 3) := by decide +kernel
theorem dr_Mo_equalGate_60 : decode bc_Mo_equalGate 60 = .ok (.iload_n 2, 1) := by decide +kernel
theorem dr_Mo_equalGate_61 : decode bc_Mo_equalGate 61 = .ok (.iaload, 1) := by decide +kernel
theorem dr_Mo_equalGate_62 : decode bc_Mo_equalGate 62 = .ok (.if_icmp .eq 5, 3) := by decide +kernel
theorem dr_Mo_equalGate_65 : decode bc_Mo_equalGate 65 = .ok (.iconst 0, 1) := by decide +kernel
theorem dr_Mo_equalGate_66 : decode bc_Mo_equalGate 66 = .ok (.ireturn, 1) := by decide +kernel
theorem dr_Mo_equalGate_67 : decode bc_Mo_equalGate 67 = .ok (.iconst 0, 1) := by decide +kernel
theorem dr_Mo_equalGate_68 : decode bc_Mo_equalGate 68 = .ok (.istore 4, 2) := by decide +kernel
theorem dr_Mo_equalGate_70 : decode bc_Mo_equalGate 70 = .ok (.iconst 0, 1) := by decide +kernel
theorem dr_Mo_equalGate_71 : decode bc_Mo_equalGate 71 = .ok (.istore 5, 2) := by decide +kernel
theorem dr_Mo_equalGate_73 : decode bc_Mo_equalGate 73 = .ok (.iload 5, 2) := by decide +kernel
theorem dr_Mo_equalGate_75 : decode bc_Mo_equalGate 75 = .ok (.iconst 1, 1) := by decide +kernel
theorem dr_Mo_equalGate_76 : decode bc_Mo_equalGate 76 = .ok (.iconst 2, 1) := by decide +kernel
theorem dr_Mo_equalGate_77 : decode bc_Mo_equalGate 77 = .ok (.aload_n 0, 1) := by decide +kernel
theorem dr_Mo_equalGate_78 : decode bc_Mo_equalGate 78 = .ok (.getfield 57, 3) := by decide +kernel
theorem dr_Mo_equalGate_81 : decode bc_Mo_equalGate 81 = .ok (.iload_n 1, 1) := by decide +kernel
theorem dr_Mo_equalGate_82 : decode bc_Mo_equalGate 82 = .ok (.iaload, 1) := by decide +kernel
theorem dr_Mo_equalGate_83 : decode bc_Mo_equalGate 83 = .ok (.imul, 1) := by decide +kernel
theorem dr_Mo_equalGate_84 : decode bc_Mo_equalGate 84 = .ok (.ishl, 1) := by decide +kernel
theorem dr_Mo_equalGate_85 : decode bc_Mo_equalGate 85 = .ok (.if_icmp .ge 46, 3) := by decide +kernel
theorem dr_Mo_equalGate_88 : decode bc_Mo_equalGate 88 = .ok (.iload 4, 2) := by decide +kernel
theorem dr_Mo_equalGate_90 : decode bc_Mo_equalGate 90 = .ok (.ifCond .ne 28, 3) := by decide +kernel
theorem dr_Mo_equalGate_93 : decode bc_Mo_equalGate 93 = .ok (.iload 5, 2) := by decide +kernel
theorem dr_Mo_equalGate_95 : decode bc_Mo_equalGate 95 = .ok (.aload_n 0, 1) := by decide +kernel
theorem dr_Mo_equalGate_96 : decode bc_Mo_equalGate 96 = .ok (.getfield 57, 3) := by decide +kernel
theorem dr_Mo_equalGate_99 : decode bc_Mo_equalGate 99 = .ok (.iload_n 1, 1) := by decide +kernel
theorem dr_Mo_equalGate_100 : decode bc_Mo_equalGate 100 = .ok (.iaload, 1) := by decide +kernel
theorem dr_Mo_equalGate_101 : decode bc_Mo_equalGate 101 = .ok (.invokestatic 168, 3) := by decide +kernel
theorem dr_Mo_equalGate_104 : decode bc_Mo_equalGate 104 = .ok (.ifCond .eq 18, 3) := by decide +kernel
theorem dr_Mo_equalGate_107 : decode bc_Mo_equalGate 107 = .ok (.aload_n 0, 1) := by decide +kernel
theorem dr_Mo_equalGate_108 : decode bc_Mo_equalGate 108 = .ok (.iload_n 1, 1) := by decide +kernel
theorem dr_Mo_equalGate_109 : decode bc_Mo_equalGate 109 = .ok (.iload_n 2, 1) := by decide +kernel
theorem dr_Mo_equalGate_110 : decode bc_Mo_equalGate 110 = .ok (.iload 5, 2) := by decide +kernel
theorem dr_Mo_equalGate_112 : decode bc_Mo_equalGate 112 = .ok (.invokevirtual 172, 3) := by decide +kernel
theorem dr_Mo_equalGate_115 : decode bc_Mo_equalGate 115 = .ok (.ifCond .eq 7, 3) := by decide +kernel
theorem dr_Mo_equalGate_118 : decode bc_Mo_equalGate 118 = .ok (.iconst 1, 1) := by decide +kernel
theorem dr_Mo_equalGate_119 : decode bc_Mo_equalGate 119 = .ok (.goto 4, 3) := by decide +kernel
theorem dr_Mo_equalGate_122 : decode bc_Mo_equalGate 122 = .ok (.iconst 0, 1) := by decide +kernel
theorem dr_Mo_equalGate_123 : decode bc_Mo_equalGate 123 = .ok (.istore 4, 2) := by decide +kernel
theorem dr_Mo_equalGate_125 : decode bc_Mo_equalGate 125 = .ok (.iinc 5 1, 3) := by decide +kernel
theorem dr_Mo_equalGate_128 : decode bc_Mo_equalGate 128 = .ok (.goto (-55), 3) := by decide +kernel
theorem dr_Mo_equalGate_131 : decode bc_Mo_equalGate 131 = .ok (.iload 4, 2) := by decide +kernel
theorem dr_Mo_equalGate_133 : decode bc_Mo_equalGate 133 = .ok (.ireturn, 1) := by decide +kernel
theorem dr_Mo_turn_0 : decode bc_Mo_turn 0 = .ok (.lload 4, 2) := by decide +kernel
theorem dr_Mo_turn_2 : decode bc_Mo_turn 2 = .ok (.lload_n 0, 1) := by decide +kernel
theorem dr_Mo_turn_3 : decode bc_Mo_turn 3 = .ok (.lsub, 1) := by decide +kernel
theorem dr_Mo_turn_4 : decode bc_Mo_turn 4 = .ok (.lload 10, 2) := by decide +kernel
theorem dr_Mo_turn_6 : decode bc_Mo_turn 6 = .ok (.lload_n 2, 1) := by decide +kernel
theorem dr_Mo_turn_7 : decode bc_Mo_turn 7 = .ok (.lsub, 1) := by decide +kernel
theorem dr_Mo_turn_8 : decode bc_Mo_turn 8 = .ok (.lmul, 1) := by decide +kernel
theorem dr_Mo_turn_9 : decode bc_Mo_turn 9 = .ok (.lload 6, 2) := by decide +kernel
theorem dr_Mo_turn_11 : decode bc_Mo_turn 11 = .ok (.lload_n 2, 1) := by decide +kernel
theorem dr_Mo_turn_12 : decode bc_Mo_turn 12 = .ok (.lsub, 1) := by decide +kernel
theorem dr_Mo_turn_13 : decode bc_Mo_turn 13 = .ok (.lload 8, 2) := by decide +kernel
theorem dr_Mo_turn_15 : decode bc_Mo_turn 15 = .ok (.lload_n 0, 1) := by decide +kernel
theorem dr_Mo_turn_16 : decode bc_Mo_turn 16 = .ok (.lsub, 1) := by decide +kernel
theorem dr_Mo_turn_17 : decode bc_Mo_turn 17 = .ok (.lmul, 1) := by decide +kernel
theorem dr_Mo_turn_18 : decode bc_Mo_turn 18 = .ok (.lsub, 1) := by decide +kernel
theorem dr_Mo_turn_19 : decode bc_Mo_turn 19 = .ok (.lstore 12, 2) := by decide +kernel
theorem dr_Mo_turn_21 : decode bc_Mo_turn 21 = .ok (.lload 12, 2) := by decide +kernel
theorem dr_Mo_turn_23 : decode bc_Mo_turn 23 = .ok (.lconst 0, 1) := by decide +kernel
theorem dr_Mo_turn_24 : decode bc_Mo_turn 24 = .ok (.lcmp, 1) := by decide +kernel
theorem dr_Mo_turn_25 : decode bc_Mo_turn 25 = .ok (.ifCond .ge 7, 3) := by decide +kernel
theorem dr_Mo_turn_28 : decode bc_Mo_turn 28 = .ok (.iconst (-1), 1) := by decide +kernel
theorem dr_Mo_turn_29 : decode bc_Mo_turn 29 = .ok (.goto 15, 3) := by decide +kernel
theorem dr_Mo_turn_32 : decode bc_Mo_turn 32 = .ok (.lload 12, 2) := by decide +kernel
theorem dr_Mo_turn_34 : decode bc_Mo_turn 34 = .ok (.lconst 0, 1) := by decide +kernel
theorem dr_Mo_turn_35 : decode bc_Mo_turn 35 = .ok (.lcmp, 1) := by decide +kernel
theorem dr_Mo_turn_36 : decode bc_Mo_turn 36 = .ok (.ifCond .le 7, 3) := by decide +kernel
theorem dr_Mo_turn_39 : decode bc_Mo_turn 39 = .ok (.iconst 1, 1) := by decide +kernel
theorem dr_Mo_turn_40 : decode bc_Mo_turn 40 = .ok (.goto 4, 3) := by decide +kernel
theorem dr_Mo_turn_43 : decode bc_Mo_turn 43 = .ok (.iconst 0, 1) := by decide +kernel
theorem dr_Mo_turn_44 : decode bc_Mo_turn 44 = .ok (.ireturn, 1) := by decide +kernel
theorem dr_Mo_cross_0 : decode bc_Mo_cross 0 = .ok (.aload_n 0, 1) := by decide +kernel
theorem dr_Mo_cross_1 : decode bc_Mo_cross 1 = .ok (.getfield 23, 3) := by decide +kernel
theorem dr_Mo_cross_4 : decode bc_Mo_cross 4 = .ok (.iload_n 1, 1) := by decide +kernel
theorem dr_Mo_cross_5 : decode bc_Mo_cross 5 = .ok (.iaload, 1) := by decide +kernel
theorem dr_Mo_cross_6 : decode bc_Mo_cross 6 = .ok (.istore_n 3, 1) := by decide +kernel
theorem dr_Mo_cross_7 : decode bc_Mo_cross 7 = .ok (.aload_n 0, 1) := by decide +kernel
theorem dr_Mo_cross_8 : decode bc_Mo_cross 8 = .ok (.getfield 23, 3) := by decide +kernel
theorem dr_Mo_cross_11 : decode bc_Mo_cross 11 = .ok (.iload_n 2, 1) := by decide +kernel
theorem dr_Mo_cross_12 : decode bc_Mo_cross 12 = .ok (.iaload, 1) := by decide +kernel
theorem dr_Mo_cross_13 : decode bc_Mo_cross 13 = .ok (.istore 4, 2) := by decide +kernel
theorem dr_Mo_cross_15 : decode bc_Mo_cross 15 = .ok (.aload_n 0, 1) := by decide +kernel
theorem dr_Mo_cross_16 : decode bc_Mo_cross 16 = .ok (.getfield 39, 3) := by decide +kernel
theorem dr_Mo_cross_19 : decode bc_Mo_cross 19 = .ok (.iload_n 3, 1) := by decide +kernel
theorem dr_Mo_cross_20 : decode bc_Mo_cross 20 = .ok (.baload, 1) := by decide +kernel
theorem dr_Mo_cross_21 : decode bc_Mo_cross 21 = .ok (.ifCond .eq 13, 3) := by decide +kernel
theorem dr_Mo_cross_24 : decode bc_Mo_cross 24 = .ok (.aload_n 0, 1) := by decide +kernel
theorem dr_Mo_cross_25 : decode bc_Mo_cross 25 = .ok (.getfield 39, 3) := by decide +kernel
theorem dr_Mo_cross_28 : decode bc_Mo_cross 28 = .ok (.iload 4, 2) := by decide +kernel
theorem dr_Mo_cross_30 : decode bc_Mo_cross 30 = .ok (.baload, 1) := by decide +kernel
theorem dr_Mo_cross_31 : decode bc_Mo_cross 31 = .ok (.ifCond .ne 5, 3) := by decide +kernel
theorem dr_Mo_cross_34 : decode bc_Mo_cross 34 = .ok (.iconst 0, 1) := by decide +kernel
theorem dr_Mo_cross_35 : decode bc_Mo_cross 35 = .ok (.ireturn, 1) := by decide +kernel
theorem dr_Mo_cross_36 : decode bc_Mo_cross 36 = .ok (.aload_n 0, 1) := by decide +kernel
theorem dr_Mo_cross_37 : decode bc_Mo_cross 37 = .ok (.getfield 13, 3) := by decide +kernel
theorem dr_Mo_cross_40 : decode bc_Mo_cross 40 = .ok (.iload_n 1, 1) := by decide +kernel
theorem dr_Mo_cross_41 : decode bc_Mo_cross 41 = .ok (.laload, 1) := by decide +kernel
theorem dr_Mo_cross_42 : decode bc_Mo_cross 42 = .ok (.aload_n 0, 1) := by decide +kernel
theorem dr_Mo_cross_43 : decode bc_Mo_cross 43 = .ok (.getfield 17, 3) := by decide +kernel
theorem dr_Mo_cross_46 : decode bc_Mo_cross 46 = .ok (.iload_n 1, 1) := by decide +kernel
theorem dr_Mo_cross_47 : decode bc_Mo_cross 47 = .ok (.laload, 1) := by decide +kernel
theorem dr_Mo_cross_48 : decode bc_Mo_cross 48 = .ok (.aload_n 0, 1) := by decide +kernel
theorem dr_Mo_cross_49 : decode bc_Mo_cross 49 = .ok (.getfield 42, 3) := by decide +kernel
theorem dr_Mo_cross_52 : decode bc_Mo_cross 52 = .ok (.iload_n 3, 1) := by decide +kernel
theorem dr_Mo_cross_53 : decode bc_Mo_cross 53 = .ok (.laload, 1) := by decide +kernel
theorem dr_Mo_cross_54 : decode bc_Mo_cross 54 = .ok (.aload_n 0, 1) := by decide +kernel
theorem dr_Mo_cross_55 : decode bc_Mo_cross 55 = .ok (.getfield 45, 3) := by decide +kernel
theorem dr_Mo_cross_58 : decode bc_Mo_cross 58 = .ok (.iload_n 3, 1) := by decide +kernel
theorem dr_Mo_cross_59 : decode bc_Mo_cross 59 = .ok (.laload, 1) := by decide +kernel
theorem dr_Mo_cross_60 : decode bc_Mo_cross 60 = .ok (.aload_n 0, 1) := by decide +kernel
theorem dr_Mo_cross_61 : decode bc_Mo_cross 61 = .ok (.getfield 13, 3) := by decide +kernel
theorem dr_Mo_cross_64 : decode bc_Mo_cross 64 = .ok (.iload_n 2, 1) := by decide +kernel
theorem dr_Mo_cross_65 : decode bc_Mo_cross 65 = .ok (.laload, 1) := by decide +kernel
theorem dr_Mo_cross_66 : decode bc_Mo_cross 66 = .ok (.aload_n 0, 1) := by decide +kernel
theorem dr_Mo_cross_67 : decode bc_Mo_cross 67 = .ok (.getfield 17, 3) := by decide +kernel
theorem dr_Mo_cross_70 : decode bc_Mo_cross 70 = .ok (.iload_n 2, 1) := by decide +kernel
theorem dr_Mo_cross_71 : decode bc_Mo_cross 71 = .ok (.laload, 1) := by decide +kernel
theorem dr_Mo_cross_72 : decode bc_Mo_cross 72 = .ok (.invokestatic 175, 3) := by decide +kernel
theorem dr_Mo_cross_75 : decode bc_Mo_cross 75 = .ok (.aload_n 0, 1) := by decide +kernel
theorem dr_Mo_cross_76 : decode bc_Mo_cross 76 = .ok (.getfield 13, 3) := by decide +kernel
theorem dr_Mo_cross_79 : decode bc_Mo_cross 79 = .ok (.iload_n 1, 1) := by decide +kernel
theorem dr_Mo_cross_80 : decode bc_Mo_cross 80 = .ok (.laload, 1) := by decide +kernel
theorem dr_Mo_cross_81 : decode bc_Mo_cross 81 = .ok (.aload_n 0, 1) := by decide +kernel
theorem dr_Mo_cross_82 : decode bc_Mo_cross 82 = .ok (.getfield 17, 3) := by decide +kernel
theorem dr_Mo_cross_85 : decode bc_Mo_cross 85 = .ok (.iload_n 1, 1) := by decide +kernel
theorem dr_Mo_cross_86 : decode bc_Mo_cross 86 = .ok (.laload, 1) := by decide +kernel
theorem dr_Mo_cross_87 : decode bc_Mo_cross 87 = .ok (.aload_n 0, 1) := by decide +kernel
theorem dr_Mo_cross_88 : decode bc_Mo_cross 88 = .ok (.getfield 42, 3) := by decide +kernel
theorem dr_Mo_cross_91 : decode bc_Mo_cross 91 = .ok (.iload_n 3, 1) := by decide +kernel
theorem dr_Mo_cross_92 : decode bc_Mo_cross 92 = .ok (.laload, 1) := by decide +kernel
theorem dr_Mo_cross_93 : decode bc_Mo_cross 93 = .ok (.aload_n 0, 1) := by decide +kernel
theorem dr_Mo_cross_94 : decode bc_Mo_cross 94 = .ok (.getfield 45, 3) := by decide +kernel
theorem dr_Mo_cross_97 : decode bc_Mo_cross 97 = .ok (.iload_n 3, 1) := by decide +kernel
theorem dr_Mo_cross_98 : decode bc_Mo_cross 98 = .ok (.laload, 1) := by decide +kernel
theorem dr_Mo_cross_99 : decode bc_Mo_cross 99 = .ok (.aload_n 0, 1) := by decide +kernel
theorem dr_Mo_cross_100 : decode bc_Mo_cross 100 = .ok (.getfield 42, 3) := by decide +kernel
theorem dr_Mo_cross_103 : decode bc_Mo_cross 103 = .ok (.iload 4, 2) := by decide +kernel
theorem dr_Mo_cross_105 : decode bc_Mo_cross 105 = .ok (.laload, 1) := by decide +kernel
theorem dr_Mo_cross_106 : decode bc_Mo_cross 106 = .ok (.aload_n 0, 1) := by decide +kernel
theorem dr_Mo_cross_107 : decode bc_Mo_cross 107 = .ok (.getfield 45, 3) := by decide +kernel
theorem dr_Mo_cross_110 : decode bc_Mo_cross 110 = .ok (.iload 4, 2) := by decide +kernel
theorem dr_Mo_cross_112 : decode bc_Mo_cross 112 = .ok (.laload, 1) := by decide +kernel
theorem dr_Mo_cross_113 : decode bc_Mo_cross 113 = .ok (.invokestatic 175, 3) := by decide +kernel
theorem dr_Mo_cross_116 : decode bc_Mo_cross 116 = .ok (.imul, 1) := by decide +kernel
theorem dr_Mo_cross_117 : decode bc_Mo_cross 117 = .ok (.istore 5, 2) := by decide +kernel
theorem dr_Mo_cross_119 : decode bc_Mo_cross 119 = .ok (.aload_n 0, 1) := by decide +kernel
theorem dr_Mo_cross_120 : decode bc_Mo_cross 120 = .ok (.getfield 13, 3) := by decide +kernel
theorem dr_Mo_cross_123 : decode bc_Mo_cross 123 = .ok (.iload_n 2, 1) := by decide +kernel
theorem dr_Mo_cross_124 : decode bc_Mo_cross 124 = .ok (.laload, 1) := by decide +kernel
theorem dr_Mo_cross_125 : decode bc_Mo_cross 125 = .ok (.aload_n 0, 1) := by decide +kernel
theorem dr_Mo_cross_126 : decode bc_Mo_cross 126 = .ok (.getfield 17, 3) := by decide +kernel
theorem dr_Mo_cross_129 : decode bc_Mo_cross 129 = .ok (.iload_n 2, 1) := by decide +kernel
theorem dr_Mo_cross_130 : decode bc_Mo_cross 130 = .ok (.laload, 1) := by decide +kernel
theorem dr_Mo_cross_131 : decode bc_Mo_cross 131 = .ok (.aload_n 0, 1) := by decide +kernel
theorem dr_Mo_cross_132 : decode bc_Mo_cross 132 = .ok (.getfield 42, 3) := by decide +kernel
theorem dr_Mo_cross_135 : decode bc_Mo_cross 135 = .ok (.iload 4, 2) := by decide +kernel
theorem dr_Mo_cross_137 : decode bc_Mo_cross 137 = .ok (.laload, 1) := by decide +kernel
theorem dr_Mo_cross_138 : decode bc_Mo_cross 138 = .ok (.aload_n 0, 1) := by decide +kernel
theorem dr_Mo_cross_139 : decode bc_Mo_cross 139 = .ok (.getfield 45, 3) := by decide +kernel
theorem dr_Mo_cross_142 : decode bc_Mo_cross 142 = .ok (.iload 4, 2) := by decide +kernel
theorem dr_Mo_cross_144 : decode bc_Mo_cross 144 = .ok (.laload, 1) := by decide +kernel
theorem dr_Mo_cross_145 : decode bc_Mo_cross 145 = .ok (.aload_n 0, 1) := by decide +kernel
theorem dr_Mo_cross_146 : decode bc_Mo_cross 146 = .ok (.getfield 13, 3) := by decide +kernel
theorem dr_Mo_cross_149 : decode bc_Mo_cross 149 = .ok (.iload_n 1, 1) := by decide +kernel
theorem dr_Mo_cross_150 : decode bc_Mo_cross 150 = .ok (.laload, 1) := by decide +kernel
theorem dr_Mo_cross_151 : decode bc_Mo_cross 151 = .ok (.aload_n 0, 1) := by decide +kernel
theorem dr_Mo_cross_152 : decode bc_Mo_cross 152 = .ok (.getfield 17, 3) := by decide +kernel
theorem dr_Mo_cross_155 : decode bc_Mo_cross 155 = .ok (.iload_n 1, 1) := by decide +kernel
theorem dr_Mo_cross_156 : decode bc_Mo_cross 156 = .ok (.laload, 1) := by decide +kernel
theorem dr_Mo_cross_157 : decode bc_Mo_cross 157 = .ok (.invokestatic 175, 3) := by decide +kernel
theorem dr_Mo_cross_160 : decode bc_Mo_cross 160 = .ok (.aload_n 0, 1) := by decide +kernel
theorem dr_Mo_cross_161 : decode bc_Mo_cross 161 = .ok (.getfield 13, 3) := by decide +kernel
theorem dr_Mo_cross_164 : decode bc_Mo_cross 164 = .ok (.iload_n 2, 1) := by decide +kernel
theorem dr_Mo_cross_165 : decode bc_Mo_cross 165 = .ok (.laload, 1) := by decide +kernel
theorem dr_Mo_cross_166 : decode bc_Mo_cross 166 = .ok (.aload_n 0, 1) := by decide +kernel
theorem dr_Mo_cross_167 : decode bc_Mo_cross 167 = .ok (.getfield 17, 3) := by decide +kernel
theorem dr_Mo_cross_170 : decode bc_Mo_cross 170 = .ok (.iload_n 2, 1) := by decide +kernel
theorem dr_Mo_cross_171 : decode bc_Mo_cross 171 = .ok (.laload, 1) := by decide +kernel
theorem dr_Mo_cross_172 : decode bc_Mo_cross 172 = .ok (.aload_n 0, 1) := by decide +kernel
theorem dr_Mo_cross_173 : decode bc_Mo_cross 173 = .ok (.getfield 42, 3) := by decide +kernel
theorem dr_Mo_cross_176 : decode bc_Mo_cross 176 = .ok (.iload 4, 2) := by decide +kernel
theorem dr_Mo_cross_178 : decode bc_Mo_cross 178 = .ok (.laload, 1) := by decide +kernel
theorem dr_Mo_cross_179 : decode bc_Mo_cross 179 = .ok (.aload_n 0, 1) := by decide +kernel
theorem dr_Mo_cross_180 : decode bc_Mo_cross 180 = .ok (.getfield 45, 3) := by decide +kernel
theorem dr_Mo_cross_183 : decode bc_Mo_cross 183 = .ok (.iload 4, 2) := by decide +kernel
theorem dr_Mo_cross_185 : decode bc_Mo_cross 185 = .ok (.laload, 1) := by decide +kernel
theorem dr_Mo_cross_186 : decode bc_Mo_cross 186 = .ok (.aload_n 0, 1) := by decide +kernel
theorem dr_Mo_cross_187 : decode bc_Mo_cross 187 = .ok (.getfield 42, 3) := by decide +kernel
theorem dr_Mo_cross_190 : decode bc_Mo_cross 190 = .ok (.iload_n 3, 1) := by decide +kernel
theorem dr_Mo_cross_191 : decode bc_Mo_cross 191 = .ok (.laload, 1) := by decide +kernel
theorem dr_Mo_cross_192 : decode bc_Mo_cross 192 = .ok (.aload_n 0, 1) := by decide +kernel
theorem dr_Mo_cross_193 : decode bc_Mo_cross 193 = .ok (.getfield 45, 3) := by decide +kernel
theorem dr_Mo_cross_196 : decode bc_Mo_cross 196 = .ok (.iload_n 3, 1) := by decide +kernel
theorem dr_Mo_cross_197 : decode bc_Mo_cross 197 = .ok (.laload, 1) := by decide +kernel
theorem dr_Mo_cross_198 : decode bc_Mo_cross 198 = .ok (.invokestatic 175, 3) := by decide +kernel
theorem dr_Mo_cross_201 : decode bc_Mo_cross 201 = .ok (.imul, 1) := by decide +kernel
theorem dr_Mo_cross_202 : decode bc_Mo_cross 202 = .ok (.istore 6, 2) := by decide +kernel
theorem dr_Mo_cross_204 : decode bc_Mo_cross 204 = .ok (.iload 5, 2) := by decide +kernel
theorem dr_Mo_cross_206 : decode bc_Mo_cross 206 = .ok (.ifCond .ge 12, 3) := by decide +kernel
theorem dr_Mo_cross_209 : decode bc_Mo_cross 209 = .ok (.iload 6, 2) := by decide +kernel
theorem dr_Mo_cross_211 : decode bc_Mo_cross 211 = .ok (.ifCond .ge 7, 3) := by decide +kernel
theorem dr_Mo_cross_214 : decode bc_Mo_cross 214 = .ok (.iconst 1, 1) := by decide +kernel
theorem dr_Mo_cross_215 : decode bc_Mo_cross 215 = .ok (.goto 4, 3) := by decide +kernel
theorem dr_Mo_cross_218 : decode bc_Mo_cross 218 = .ok (.iconst 0, 1) := by decide +kernel
theorem dr_Mo_cross_219 : decode bc_Mo_cross 219 = .ok (.ireturn, 1) := by decide +kernel
theorem dr_Mo_crossings_0 : decode bc_Mo_crossings 0 = .ok (.aload_n 0, 1) := by decide +kernel
theorem dr_Mo_crossings_1 : decode bc_Mo_crossings 1 = .ok (.iconst 0, 1) := by decide +kernel
theorem dr_Mo_crossings_2 : decode bc_Mo_crossings 2 = .ok (.putfield 78, 3) := by decide +kernel
theorem dr_Mo_crossings_5 : decode bc_Mo_crossings 5 = .ok (.iconst 0, 1) := by decide +kernel
theorem dr_Mo_crossings_6 : decode bc_Mo_crossings 6 = .ok (.istore_n 1, 1) := by decide +kernel
theorem dr_Mo_crossings_7 : decode bc_Mo_crossings 7 = .ok (.iconst 0, 1) := by decide +kernel
theorem dr_Mo_crossings_8 : decode bc_Mo_crossings 8 = .ok (.istore_n 2, 1) := by decide +kernel
theorem dr_Mo_crossings_9 : decode bc_Mo_crossings 9 = .ok (.iload_n 2, 1) := by decide +kernel
theorem dr_Mo_crossings_10 : decode bc_Mo_crossings 10 = .ok (.aload_n 0, 1) := by decide +kernel
theorem dr_Mo_crossings_11 : decode bc_Mo_crossings 11 = .ok (.getfield 89, 3) := by decide +kernel
theorem dr_Mo_crossings_14 : decode bc_Mo_crossings 14 = .ok (.if_icmp .ge 54, 3) := by decide +kernel
theorem dr_Mo_crossings_17 : decode bc_Mo_crossings 17 = .ok (.iconst 0, 1) := by decide +kernel
theorem dr_Mo_crossings_18 : decode bc_Mo_crossings 18 = .ok (.istore_n 3, 1) := by decide +kernel
theorem dr_Mo_crossings_19 : decode bc_Mo_crossings 19 = .ok (.iload_n 3, 1) := by decide +kernel
theorem dr_Mo_crossings_20 : decode bc_Mo_crossings 20 = .ok (.iload_n 2, 1) := by decide +kernel
theorem dr_Mo_crossings_21 : decode bc_Mo_crossings 21 = .ok (.if_icmp .ge 41, 3) := by decide +kernel
theorem dr_Mo_crossings_24 : decode bc_Mo_crossings 24 = .ok (.iload_n 1, 1) := by decide +kernel
theorem dr_Mo_crossings_25 : decode bc_Mo_crossings 25 = .ok (.aload_n 0, 1) := by decide +kernel
theorem dr_Mo_crossings_26 : decode bc_Mo_crossings 26 = .ok (.getfield 7, 3) := by decide +kernel
theorem dr_Mo_crossings_29 : decode bc_Mo_crossings 29 = .ok (.iload_n 2, 1) := by decide +kernel
theorem dr_Mo_crossings_30 : decode bc_Mo_crossings 30 = .ok (.iaload, 1) := by decide +kernel
theorem dr_Mo_crossings_31 : decode bc_Mo_crossings 31 = .ok (.aload_n 0, 1) := by decide +kernel
theorem dr_Mo_crossings_32 : decode bc_Mo_crossings 32 = .ok (.getfield 7, 3) := by decide +kernel
theorem dr_Mo_crossings_35 : decode bc_Mo_crossings 35 = .ok (.iload_n 3, 1) := by decide +kernel
theorem dr_Mo_crossings_36 : decode bc_Mo_crossings 36 = .ok (.iaload, 1) := by decide +kernel
theorem dr_Mo_crossings_37 : decode bc_Mo_crossings 37 = .ok (.if_icmp .ne 16, 3) := by decide +kernel
theorem dr_Mo_crossings_40 : decode bc_Mo_crossings 40 = .ok (.aload_n 0, 1) := by decide +kernel
theorem dr_Mo_crossings_41 : decode bc_Mo_crossings 41 = .ok (.iload_n 2, 1) := by decide +kernel
theorem dr_Mo_crossings_42 : decode bc_Mo_crossings 42 = .ok (.iload_n 3, 1) := by decide +kernel
theorem dr_Mo_crossings_43 : decode bc_Mo_crossings 43 = .ok (.invokevirtual 179, 3) := by decide +kernel
theorem dr_Mo_crossings_46 : decode bc_Mo_crossings 46 = .ok (.ifCond .eq 7, 3) := by decide +kernel
theorem dr_Mo_crossings_49 : decode bc_Mo_crossings 49 = .ok (.iconst 1, 1) := by decide +kernel
theorem dr_Mo_crossings_50 : decode bc_Mo_crossings 50 = .ok (.goto 4, 3) := by decide +kernel
theorem dr_Mo_crossings_53 : decode bc_Mo_crossings 53 = .ok (.iconst 0, 1) := by decide +kernel
theorem dr_Mo_crossings_54 : decode bc_Mo_crossings 54 = .ok (.iadd, 1) := by decide +kernel
theorem dr_Mo_crossings_55 : decode bc_Mo_crossings 55 = .ok (.istore_n 1, 1) := by decide +kernel
theorem dr_Mo_crossings_56 : decode bc_Mo_crossings 56 = .ok (.iinc 3 1, 3) := by decide +kernel
theorem dr_Mo_crossings_59 : decode bc_Mo_crossings 59 = .ok (.goto (-40), 3) := by decide +kernel
theorem dr_Mo_crossings_62 : decode bc_Mo_crossings 62 = .ok (.iinc 2 1, 3) := by decide +kernel
theorem dr_Mo_crossings_65 : decode bc_Mo_crossings 65 = .ok (.goto (-56), 3) := by decide +kernel
theorem dr_Mo_crossings_68 : decode bc_Mo_crossings 68 = .ok (.iload_n 1, 1) := by decide +kernel
theorem dr_Mo_crossings_69 : decode bc_Mo_crossings 69 = .ok (.ireturn, 1) := by decide +kernel
