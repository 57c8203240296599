theorem dr_PS_sideOfWay_0 : decode bc_PS_sideOfWay 0 = .ok (.aload_n 0, 1) := by decide +kernel
theorem dr_PS_sideOfWay_1 : decode bc_PS_sideOfWay 1 = .ok (.getfield 10, 3) := by decide +kernel
theorem dr_PS_sideOfWay_4 : decode bc_PS_sideOfWay 4 = .ok (.getfield 122, 3) := by decide +kernel
theorem dr_PS_sideOfWay_7 : decode bc_PS_sideOfWay 7 = .ok (.iload_n 1, 1) := by decide +kernel
theorem dr_PS_sideOfWay_8 : decode bc_PS_sideOfWay 8 = .ok (.iaload, 1) := by decide +kernel
theorem dr_PS_sideOfWay_9 : decode bc_PS_sideOfWay 9 = .ok (.istore 6, 2) := by decide +kernel
theorem dr_PS_sideOfWay_11 : decode bc_PS_sideOfWay 11 = .ok (.aload_n 0, 1) := by decide +kernel
theorem dr_PS_sideOfWay_12 : decode bc_PS_sideOfWay 12 = .ok (.getfield 19, 3) := by decide +kernel
theorem dr_PS_sideOfWay_15 : decode bc_PS_sideOfWay 15 = .ok (.getfield 212, 3) := by decide +kernel
theorem dr_PS_sideOfWay_18 : decode bc_PS_sideOfWay 18 = .ok (.iload 6, 2) := by decide +kernel
theorem dr_PS_sideOfWay_20 : decode bc_PS_sideOfWay 20 = .ok (.laload, 1) := by decide +kernel
theorem dr_PS_sideOfWay_21 : decode bc_PS_sideOfWay 21 = .ok (.aload_n 0, 1) := by decide +kernel
theorem dr_PS_sideOfWay_22 : decode bc_PS_sideOfWay 22 = .ok (.getfield 10, 3) := by decide +kernel
theorem dr_PS_sideOfWay_25 : decode bc_PS_sideOfWay 25 = .ok (.getfield 216, 3) := by decide +kernel
theorem dr_PS_sideOfWay_28 : decode bc_PS_sideOfWay 28 = .ok (.iload_n 1, 1) := by decide +kernel
theorem dr_PS_sideOfWay_29 : decode bc_PS_sideOfWay 29 = .ok (.laload, 1) := by decide +kernel
theorem dr_PS_sideOfWay_30 : decode bc_PS_sideOfWay 30 = .ok (.lsub, 1) := by decide +kernel
theorem dr_PS_sideOfWay_31 : decode bc_PS_sideOfWay 31 = .ok (.lstore 7, 2) := by decide +kernel
theorem dr_PS_sideOfWay_33 : decode bc_PS_sideOfWay 33 = .ok (.aload_n 0, 1) := by decide +kernel
theorem dr_PS_sideOfWay_34 : decode bc_PS_sideOfWay 34 = .ok (.getfield 19, 3) := by decide +kernel
theorem dr_PS_sideOfWay_37 : decode bc_PS_sideOfWay 37 = .ok (.getfield 223, 3) := by decide +kernel
theorem dr_PS_sideOfWay_40 : decode bc_PS_sideOfWay 40 = .ok (.iload 6, 2) := by decide +kernel
theorem dr_PS_sideOfWay_42 : decode bc_PS_sideOfWay 42 = .ok (.laload, 1) := by decide +kernel
theorem dr_PS_sideOfWay_43 : decode bc_PS_sideOfWay 43 = .ok (.aload_n 0, 1) := by decide +kernel
theorem dr_PS_sideOfWay_44 : decode bc_PS_sideOfWay 44 = .ok (.getfield 10, 3) := by decide +kernel
theorem dr_PS_sideOfWay_47 : decode bc_PS_sideOfWay 47 = .ok (.getfield 226, 3) := by decide +kernel
theorem dr_PS_sideOfWay_50 : decode bc_PS_sideOfWay 50 = .ok (.iload_n 1, 1) := by decide +kernel
theorem dr_PS_sideOfWay_51 : decode bc_PS_sideOfWay 51 = .ok (.laload, 1) := by decide +kernel
theorem dr_PS_sideOfWay_52 : decode bc_PS_sideOfWay 52 = .ok (.lsub, 1) := by decide +kernel
theorem dr_PS_sideOfWay_53 : decode bc_PS_sideOfWay 53 = .ok (.lstore 9, 2) := by decide +kernel
theorem dr_PS_sideOfWay_55 : decode bc_PS_sideOfWay 55 = .ok (.lload 7, 2) := by decide +kernel
theorem dr_PS_sideOfWay_57 : decode bc_PS_sideOfWay 57 = .ok (.lload 4, 2) := by decide +kernel
theorem dr_PS_sideOfWay_59 : decode bc_PS_sideOfWay 59 = .ok (.aload_n 0, 1) := by decide +kernel
theorem dr_PS_sideOfWay_60 : decode bc_PS_sideOfWay 60 = .ok (.getfield 10, 3) := by decide +kernel
theorem dr_PS_sideOfWay_63 : decode bc_PS_sideOfWay 63 = .ok (.getfield 226, 3) := by decide +kernel
theorem dr_PS_sideOfWay_66 : decode bc_PS_sideOfWay 66 = .ok (.iload_n 1, 1) := by decide +kernel
theorem dr_PS_sideOfWay_67 : decode bc_PS_sideOfWay 67 = .ok (.laload, 1) := by decide +kernel
theorem dr_PS_sideOfWay_68 : decode bc_PS_sideOfWay 68 = .ok (.lsub, 1) := by decide +kernel
theorem dr_PS_sideOfWay_69 : decode bc_PS_sideOfWay 69 = .ok (.lmul, 1) := by decide +kernel
theorem dr_PS_sideOfWay_70 : decode bc_PS_sideOfWay 70 = .ok (.lload 9, 2) := by decide +kernel
theorem dr_PS_sideOfWay_72 : decode bc_PS_sideOfWay 72 = .ok (.lload_n 2, 1) := by decide +kernel
theorem dr_PS_sideOfWay_73 : decode bc_PS_sideOfWay 73 = .ok (.aload_n 0, 1) := by decide +kernel
theorem dr_PS_sideOfWay_74 : decode bc_PS_sideOfWay 74 = .ok (.getfield 10, 3) := by decide +kernel
theorem dr_PS_sideOfWay_77 : decode bc_PS_sideOfWay 77 = .ok (.getfield 216, 3) := by decide +kernel
theorem dr_PS_sideOfWay_80 : decode bc_PS_sideOfWay 80 = .ok (.iload_n 1, 1) := by decide +kernel
theorem dr_PS_sideOfWay_81 : decode bc_PS_sideOfWay 81 = .ok (.laload, 1) := by decide +kernel
theorem dr_PS_sideOfWay_82 : decode bc_PS_sideOfWay 82 = .ok (.lsub, 1) := by decide +kernel
theorem dr_PS_sideOfWay_83 : decode bc_PS_sideOfWay 83 = .ok (.lmul, 1) := by decide +kernel
theorem dr_PS_sideOfWay_84 : decode bc_PS_sideOfWay 84 = .ok (.lsub, 1) := by decide +kernel
theorem dr_PS_sideOfWay_85 : decode bc_PS_sideOfWay 85 = .ok (.lreturn, 1) := by decide +kernel
theorem dr_Mo_init_0 : decode bc_Mo_init 0 = .ok (.aload_n 0, 1) := by decide +kernel
theorem dr_Mo_init_1 : decode bc_Mo_init 1 = .ok (.invokespecial 1, 3) := by decide +kernel
theorem dr_Mo_init_4 : decode bc_Mo_init 4 = .ok (.aload_n 0, 1) := by decide +kernel
theorem dr_Mo_init_5 : decode bc_Mo_init 5 = .ok (.bipush 80, 2) := by decide +kernel
theorem dr_Mo_init_7 : decode bc_Mo_init 7 = .ok (.newarray .int, 2) := by decide +kernel
theorem dr_Mo_init_9 : decode bc_Mo_init 9 = .ok (.putfield 7, 3) := by decide +kernel
theorem dr_Mo_init_12 : decode bc_Mo_init 12 = .ok (.aload_n 0, 1) := by decide +kernel
theorem dr_Mo_init_13 : decode bc_Mo_init 13 = .ok (.bipush 80, 2) := by decide +kernel
theorem dr_Mo_init_15 : decode bc_Mo_init 15 = .ok (.newarray .long, 2) := by decide +kernel
theorem dr_Mo_init_17 : decode bc_Mo_init 17 = .ok (.putfield 13, 3) := by decide +kernel
theorem dr_Mo_init_20 : decode bc_Mo_init 20 = .ok (.aload_n 0, 1) := by decide +kernel
theorem dr_Mo_init_21 : decode bc_Mo_init 21 = .ok (.bipush 80, 2) := by decide +kernel
theorem dr_Mo_init_23 : decode bc_Mo_init 23 = .ok (.newarray .long, 2) := by decide +kernel
theorem dr_Mo_init_25 : decode bc_Mo_init 25 = .ok (.putfield 17, 3) := by decide +kernel
theorem dr_Mo_init_28 : decode bc_Mo_init 28 = .ok (.aload_n 0, 1) := by decide +kernel
theorem dr_Mo_init_29 : decode bc_Mo_init 29 = .ok (.bipush 80, 2) := by decide +kernel
theorem dr_Mo_init_31 : decode bc_Mo_init 31 = .ok (.newarray .int, 2) := by decide +kernel
theorem dr_Mo_init_33 : decode bc_Mo_init 33 = .ok (.putfield 20, 3) := by decide +kernel
theorem dr_Mo_init_36 : decode bc_Mo_init 36 = .ok (.aload_n 0, 1) := by decide +kernel
theorem dr_Mo_init_37 : decode bc_Mo_init 37 = .ok (.bipush 80, 2) := by decide +kernel
theorem dr_Mo_init_39 : decode bc_Mo_init 39 = .ok (.newarray .int, 2) := by decide +kernel
theorem dr_Mo_init_41 : decode bc_Mo_init 41 = .ok (.putfield 23, 3) := by decide +kernel
theorem dr_Mo_init_44 : decode bc_Mo_init 44 = .ok (.aload_n 0, 1) := by decide +kernel
theorem dr_Mo_init_45 : decode bc_Mo_init 45 = .ok (.bipush 80, 2) := by decide +kernel
theorem dr_Mo_init_47 : decode bc_Mo_init 47 = .ok (.newarray .int, 2) := by decide +kernel
theorem dr_Mo_init_49 : decode bc_Mo_init 49 = .ok (.putfield 26, 3) := by decide +kernel
theorem dr_Mo_init_52 : decode bc_Mo_init 52 = .ok (.aload_n 0, 1) := by decide +kernel
theorem dr_Mo_init_53 : decode bc_Mo_init 53 = .ok (.bipush 80, 2) := by decide +kernel
theorem dr_Mo_init_55 : decode bc_Mo_init 55 = .ok (.newarray .boolean, 2) := by decide +kernel
theorem dr_Mo_init_57 : decode bc_Mo_init 57 = .ok (.putfield 29, 3) := by decide +kernel
theorem dr_Mo_init_60 : decode bc_Mo_init 60 = .ok (.aload_n 0, 1) := by decide +kernel
theorem dr_Mo_init_61 : decode bc_Mo_init 61 = .ok (.bipush 80, 2) := by decide +kernel
theorem dr_Mo_init_63 : decode bc_Mo_init 63 = .ok (.newarray .int, 2) := by decide +kernel
theorem dr_Mo_init_65 : decode bc_Mo_init 65 = .ok (.putfield 33, 3) := by decide +kernel
theorem dr_Mo_init_68 : decode bc_Mo_init 68 = .ok (.aload_n 0, 1) := by decide +kernel
theorem dr_Mo_init_69 : decode bc_Mo_init 69 = .ok (.bipush 80, 2) := by decide +kernel
theorem dr_Mo_init_71 : decode bc_Mo_init 71 = .ok (.newarray .boolean, 2) := by decide +kernel
theorem dr_Mo_init_73 : decode bc_Mo_init 73 = .ok (.putfield 36, 3) := by decide +kernel
theorem dr_Mo_init_76 : decode bc_Mo_init 76 = .ok (.aload_n 0, 1) := by decide +kernel
theorem dr_Mo_init_77 : decode bc_Mo_init 77 = .ok (.sipush 200, 3) := by decide +kernel
theorem dr_Mo_init_80 : decode bc_Mo_init 80 = .ok (.newarray .boolean, 2) := by decide +kernel
theorem dr_Mo_init_82 : decode bc_Mo_init 82 = .ok (.putfield 39, 3) := by decide +kernel
theorem dr_Mo_init_85 : decode bc_Mo_init 85 = .ok (.aload_n 0, 1) := by decide +kernel
theorem dr_Mo_init_86 : decode bc_Mo_init 86 = .ok (.sipush 200, 3) := by decide +kernel
theorem dr_Mo_init_89 : decode bc_Mo_init 89 = .ok (.newarray .long, 2) := by decide +kernel
theorem dr_Mo_init_91 : decode bc_Mo_init 91 = .ok (.putfield 42, 3) := by decide +kernel
theorem dr_Mo_init_94 : decode bc_Mo_init 94 = .ok (.aload_n 0, 1) := by decide +kernel
theorem dr_Mo_init_95 : decode bc_Mo_init 95 = .ok (.sipush 200, 3) := by decide +kernel
theorem dr_Mo_init_98 : decode bc_Mo_init 98 = .ok (.newarray .long, 2) := by decide +kernel
theorem dr_Mo_init_100 : decode bc_Mo_init 100 = .ok (.putfield 45, 3) := by decide +kernel
theorem dr_Mo_init_103 : decode bc_Mo_init 103 = .ok (.aload_n 0, 1) := by decide +kernel
theorem dr_Mo_init_104 : decode bc_Mo_init 104 = .ok (.sipush 200, 3) := by decide +kernel
theorem dr_Mo_init_107 : decode bc_Mo_init 107 = .ok (.newarray .int, 2) := by decide +kernel
theorem dr_Mo_init_109 : decode bc_Mo_init 109 = .ok (.putfield 48, 3) := by decide +kernel
theorem dr_Mo_init_112 : decode bc_Mo_init 112 = .ok (.aload_n 0, 1) := by decide +kernel
theorem dr_Mo_init_113 : decode bc_Mo_init 113 = .ok (.bipush 10, 2) := by decide +kernel
theorem dr_Mo_init_115 : decode bc_Mo_init 115 = .ok (.newarray .int, 2) := by decide +kernel
theorem dr_Mo_init_117 : decode bc_Mo_init 117 = .ok (.putfield 51, 3) := by decide +kernel
theorem dr_Mo_init_120 : decode bc_Mo_init 120 = .ok (.aload_n 0, 1) := by decide +kernel
theorem dr_Mo_init_121 : decode bc_Mo_init 121 = .ok (.sipush 800, 3) := by decide +kernel
theorem dr_Mo_init_124 : decode bc_Mo_init 124 = .ok (.newarray .int, 2) := by decide +kernel
theorem dr_Mo_init_126 : decode bc_Mo_init 126 = .ok (.putfield 54, 3) := by decide +kernel
theorem dr_Mo_init_129 : decode bc_Mo_init 129 = .ok (.aload_n 0, 1) := by decide +kernel
theorem dr_Mo_init_130 : decode bc_Mo_init 130 = .ok (.bipush 20, 2) := by decide +kernel
theorem dr_Mo_init_132 : decode bc_Mo_init 132 = .ok (.newarray .int, 2) := by decide +kernel
theorem dr_Mo_init_134 : decode bc_Mo_init 134 = .ok (.putfield 57, 3) := by decide +kernel
theorem dr_Mo_init_137 : decode bc_Mo_init 137 = .ok (.aload_n 0, 1) := by decide +kernel
theorem dr_Mo_init_138 : decode bc_Mo_init 138 = .ok (.bipush 20, 2) := by decide +kernel
theorem dr_Mo_init_140 : decode bc_Mo_init 140 = .ok (.newarray .int, 2) := by decide +kernel
theorem dr_Mo_init_142 : decode bc_Mo_init 142 = .ok (.putfield 60, 3) := by decide +kernel
theorem dr_Mo_init_145 : decode bc_Mo_init 145 = .ok (.aload_n 0, 1) := by decide +kernel
theorem dr_Mo_init_146 : decode bc_Mo_init 146 = .ok (.bipush 12, 2) := by decide +kernel
theorem dr_Mo_init_148 : decode bc_Mo_init 148 = .ok (.newarray .int, 2) := by decide +kernel
theorem dr_Mo_init_150 : decode bc_Mo_init 150 = .ok (.putfield 63, 3) := by decide +kernel
theorem dr_Mo_init_153 : decode bc_Mo_init 153 = .ok (.aload_n 0, 1) := by decide +kernel
theorem dr_Mo_init_154 : decode bc_Mo_init 154 = .ok (.sipush 144, 3) := by decide +kernel
theorem dr_Mo_init_157 : decode bc_Mo_init 157 = .ok (.newarray .long, 2) := by decide +kernel
theorem dr_Mo_init_159 : decode bc_Mo_init 159 = .ok (.putfield 66, 3) := by decide +kernel
theorem dr_Mo_init_162 : decode bc_Mo_init 162 = .ok (.aload_n 0, 1) := by decide +kernel
theorem dr_Mo_init_163 : decode bc_Mo_init 163 = .ok (.sipush 4096, 3) := by decide +kernel
theorem dr_Mo_init_166 : decode bc_Mo_init 166 = .ok (.newarray .long, 2) := by decide +kernel
theorem dr_Mo_init_168 : decode bc_Mo_init 168 = .ok (.putfield 69, 3) := by decide +kernel
theorem dr_Mo_init_171 : decode bc_Mo_init 171 = .ok (.aload_n 0, 1) := by decide +kernel
theorem dr_Mo_init_172 : decode bc_Mo_init 172 = .ok (.bipush 12, 2) := by decide +kernel
theorem dr_Mo_init_174 : decode bc_Mo_init 174 = .ok (.newarray .int, 2) := by decide +kernel
theorem dr_Mo_init_176 : decode bc_Mo_init 176 = .ok (.putfield 72, 3) := by decide +kernel
theorem dr_Mo_init_179 : decode bc_Mo_init 179 = .ok (.aload_n 0, 1) := by decide +kernel
theorem dr_Mo_init_180 : decode bc_Mo_init 180 = .ok (.bipush 80, 2) := by decide +kernel
theorem dr_Mo_init_182 : decode bc_Mo_init 182 = .ok (.newarray .int, 2) := by decide +kernel
theorem dr_Mo_init_184 : decode bc_Mo_init 184 = .ok (.putfield 75, 3) := by decide +kernel
theorem dr_Mo_init_187 : decode bc_Mo_init 187 = .ok (.return_, 1) := by decide +kernel
theorem dr_Mo_thrown_0 : decode bc_Mo_thrown 0 = .ok (.aload_n 0, 1) := by decide +kernel
theorem dr_Mo_thrown_1 : decode bc_Mo_thrown 1 = .ok (.getfield 78, 3) := by decide +kernel
theorem dr_Mo_thrown_4 : decode bc_Mo_thrown 4 = .ok (.ireturn, 1) := by decide +kernel
theorem dr_Mo_group_0 : decode bc_Mo_group 0 = .ok (.aload_n 0, 1) := by decide +kernel
theorem dr_Mo_group_1 : decode bc_Mo_group 1 = .ok (.iconst 0, 1) := by decide +kernel
theorem dr_Mo_group_2 : decode bc_Mo_group 2 = .ok (.putfield 78, 3) := by decide +kernel
theorem dr_Mo_group_5 : decode bc_Mo_group 5 = .ok (.aload_n 0, 1) := by decide +kernel
theorem dr_Mo_group_6 : decode bc_Mo_group 6 = .ok (.getfield 82, 3) := by decide +kernel
theorem dr_Mo_group_9 : decode bc_Mo_group 9 = .ok (.bipush 12, 2) := by decide +kernel
theorem dr_Mo_group_11 : decode bc_Mo_group 11 = .ok (.if_icmp .ne 5, 3) := by decide +kernel
theorem dr_Mo_group_14 : decode bc_Mo_group 14 = .ok (.iconst (-1), 1) := by decide +kernel
theorem dr_Mo_group_15 : decode bc_Mo_group 15 = .ok (.ireturn, 1) := by decide +kernel
theorem dr_Mo_group_16 : decode bc_Mo_group 16 = .ok (.aload_n 0, 1) := by decide +kernel
theorem dr_Mo_group_17 : decode bc_Mo_group 17 = .ok (.dup, 1) := by decide +kernel
theorem dr_Mo_group_18 : decode bc_Mo_group 18 = .ok (.getfield 82, 3) := by decide +kernel
theorem dr_Mo_group_21 : decode bc_Mo_group 21 = .ok (.iconst 1, 1) := by decide +kernel
theorem dr_Mo_group_22 : decode bc_Mo_group 22 = .ok (.iadd, 1) := by decide +kernel
theorem dr_Mo_group_23 : decode bc_Mo_group 23 = .ok (.putfield 82, 3) := by decide +kernel
theorem dr_Mo_group_26 : decode bc_Mo_group 26 = .ok (.aload_n 0, 1) := by decide +kernel
theorem dr_Mo_group_27 : decode bc_Mo_group 27 = .ok (.getfield 82, 3) := by decide +kernel
theorem dr_Mo_group_30 : decode bc_Mo_group 30 = .ok (.iconst 1, 1) := by decide +kernel
theorem dr_Mo_group_31 : decode bc_Mo_group 31 = .ok (.isub, 1) := by decide +kernel
theorem dr_Mo_group_32 : decode bc_Mo_group 32 = .ok (.ireturn, 1) := by decide +kernel
theorem dr_Mo_isPlace_0 : decode bc_Mo_isPlace 0 = .ok (.lload_n 0, 1) := by decide +kernel
theorem dr_Mo_isPlace_1 : decode bc_Mo_isPlace 1 = .ok (.ldc2_w 85, 3) := by decide +kernel
theorem dr_Mo_isPlace_4 : decode bc_Mo_isPlace 4 = .ok (.lcmp, 1) := by decide +kernel
theorem dr_Mo_isPlace_5 : decode bc_Mo_isPlace 5 = .ok (.ifCond .lt 31, 3) := by decide +kernel
theorem dr_Mo_isPlace_8 : decode bc_Mo_isPlace 8 = .ok (.lload_n 0, 1) := by decide +kernel
theorem dr_Mo_isPlace_9 : decode bc_Mo_isPlace 9 = .ok (.ldc2_w 87, 3) := by decide +kernel
theorem dr_Mo_isPlace_12 : decode bc_Mo_isPlace 12 = .ok (.lcmp, 1) := by decide +kernel
theorem dr_Mo_isPlace_13 : decode bc_Mo_isPlace 13 = .ok (.ifCond .gt 23, 3) := by decide +kernel
theorem dr_Mo_isPlace_16 : decode bc_Mo_isPlace 16 = .ok (.lload_n 2, 1) := by decide +kernel
theorem dr_Mo_isPlace_17 : decode bc_Mo_isPlace 17 = .ok (.ldc2_w 85, 3) := by decide +kernel
theorem dr_Mo_isPlace_20 : decode bc_Mo_isPlace 20 = .ok (.lcmp, 1) := by decide +kernel
theorem dr_Mo_isPlace_21 : decode bc_Mo_isPlace 21 = .ok (.ifCond .lt 15, 3) := by decide +kernel
theorem dr_Mo_isPlace_24 : decode bc_Mo_isPlace 24 = .ok (.lload_n 2, 1) := by decide +kernel
theorem dr_Mo_isPlace_25 : decode bc_Mo_isPlace 25 = .ok (.ldc2_w 87, 3) := by decide +kernel
theorem dr_Mo_isPlace_28 : decode bc_Mo_isPlace 28 = .ok (.lcmp, 1) := by decide +kernel
theorem dr_Mo_isPlace_29 : decode bc_Mo_isPlace 29 = .ok (.ifCond .gt 7, 3) := by decide +kernel
theorem dr_Mo_isPlace_32 : decode bc_Mo_isPlace 32 = .ok (.iconst 1, 1) := by decide +kernel
theorem dr_Mo_isPlace_33 : decode bc_Mo_isPlace 33 = .ok (.goto 4, 3) := by decide +kernel
theorem dr_Mo_isPlace_36 : decode bc_Mo_isPlace 36 = .ok (.iconst 0, 1) := by decide +kernel
theorem dr_Mo_isPlace_37 : decode bc_Mo_isPlace 37 = .ok (.ireturn, 1) := by decide +kernel
theorem dr_Mo_isNet_0 : decode bc_Mo_isNet 0 = .ok (.iload_n 0, 1) := by decide +kernel
theorem dr_Mo_isNet_1 : decode bc_Mo_isNet 1 = .ok (.ifCond .lt 14, 3) := by decide +kernel
theorem dr_Mo_isNet_4 : decode bc_Mo_isNet 4 = .ok (.iload_n 0, 1) := by decide +kernel
theorem dr_Mo_isNet_5 : decode bc_Mo_isNet 5 = .ok (.sipush 200, 3) := by decide +kernel
theorem dr_Mo_isNet_8 : decode bc_Mo_isNet 8 = .ok (.if_icmp .ge 7, 3) := by decide +kernel
theorem dr_Mo_isNet_11 : decode bc_Mo_isNet 11 = .ok (.iconst 1, 1) := by decide +kernel
theorem dr_Mo_isNet_12 : decode bc_Mo_isNet 12 = .ok (.goto 4, 3) := by decide +kernel
theorem dr_Mo_isNet_15 : decode bc_Mo_isNet 15 = .ok (.iconst 0, 1) := by decide +kernel
theorem dr_Mo_isNet_16 : decode bc_Mo_isNet 16 = .ok (.ireturn, 1) := by decide +kernel
theorem dr_Mo_isPin_0 : decode bc_Mo_isPin 0 = .ok (.iload_n 1, 1) := by decide +kernel
theorem dr_Mo_isPin_1 : decode bc_Mo_isPin 1 = .ok (.ifCond .lt 15, 3) := by decide +kernel
theorem dr_Mo_isPin_4 : decode bc_Mo_isPin 4 = .ok (.iload_n 1, 1) := by decide +kernel
theorem dr_Mo_isPin_5 : decode bc_Mo_isPin 5 = .ok (.aload_n 0, 1) := by decide +kernel
theorem dr_Mo_isPin_6 : decode bc_Mo_isPin 6 = .ok (.getfield 89, 3) := by decide +kernel
theorem dr_Mo_isPin_9 : decode bc_Mo_isPin 9 = .ok (.if_icmp .ge 7, 3) := by decide +kernel
theorem dr_Mo_isPin_12 : decode bc_Mo_isPin 12 = .ok (.iconst 1, 1) := by decide +kernel
theorem dr_Mo_isPin_13 : decode bc_Mo_isPin 13 = .ok (.goto 4, 3) := by decide +kernel
theorem dr_Mo_isPin_16 : decode bc_Mo_isPin 16 = .ok (.iconst 0, 1) := by decide +kernel
theorem dr_Mo_isPin_17 : decode bc_Mo_isPin 17 = .ok (.ireturn, 1) := by decide +kernel
theorem dr_Mo_pin_0 : decode bc_Mo_pin 0 = .ok (.iload_n 1, 1) := by decide +kernel
theorem dr_Mo_pin_1 : decode bc_Mo_pin 1 = .ok (.ifCond .lt 15, 3) := by decide +kernel
theorem dr_Mo_pin_4 : decode bc_Mo_pin 4 = .ok (.iload_n 1, 1) := by decide +kernel
theorem dr_Mo_pin_5 : decode bc_Mo_pin 5 = .ok (.aload_n 0, 1) := by decide +kernel
theorem dr_Mo_pin_6 : decode bc_Mo_pin 6 = .ok (.getfield 82, 3) := by decide +kernel
theorem dr_Mo_pin_9 : decode bc_Mo_pin 9 = .ok (.if_icmp .ge 7, 3) := by decide +kernel
theorem dr_Mo_pin_12 : decode bc_Mo_pin 12 = .ok (.iconst 1, 1) := by decide +kernel
theorem dr_Mo_pin_13 : decode bc_Mo_pin 13 = .ok (.goto 4, 3) := by decide +kernel
theorem dr_Mo_pin_16 : decode bc_Mo_pin 16 = .ok (.iconst 0, 1) := by decide +kernel
theorem dr_Mo_pin_17 : decode bc_Mo_pin 17 = .ok (.istore 7, 2) := by decide +kernel
theorem dr_Mo_pin_19 : decode bc_Mo_pin 19 = .ok (.aload_n 0, 1) := by decide +kernel
theorem dr_Mo_pin_20 : decode bc_Mo_pin 20 = .ok (.iload 7, 2) := by decide +kernel
theorem dr_Mo_pin_22 : decode bc_Mo_pin 22 = .ok (.ifCond .ne 7, 3) := by decide +kernel
theorem dr_Mo_pin_25 : decode bc_Mo_pin 25 = .ok (.iconst 1, 1) := by decide +kernel
theorem dr_Mo_pin_26 : decode bc_Mo_pin 26 = .ok (.goto 25, 3) := by decide +kernel
theorem dr_Mo_pin_29 : decode bc_Mo_pin 29 = .ok (.lload_n 2, 1) := by decide +kernel
theorem dr_Mo_pin_30 : decode bc_Mo_pin 30 = .ok (.lload 4, 2) := by decide +kernel
theorem dr_Mo_pin_32 : decode bc_Mo_pin 32 = .ok (.invokestatic 92, 3) := by decide +kernel
theorem dr_Mo_pin_35 : decode bc_Mo_pin 35 = .ok (.ifCond .eq 15, 3) := by decide +kernel
theorem dr_Mo_pin_38 : decode bc_Mo_pin 38 = .ok (.iload 6, 2) := by decide +kernel
theorem dr_Mo_pin_40 : decode bc_Mo_pin 40 = .ok (.invokestatic 96, 3) := by decide +kernel
theorem dr_Mo_pin_43 : decode bc_Mo_pin 43 = .ok (.ifCond .eq 7, 3) := by decide +kernel
theorem dr_Mo_pin_46 : decode bc_Mo_pin 46 = .ok (.iconst 0, 1) := by decide +kernel
theorem dr_Mo_pin_47 : decode bc_Mo_pin 47 = .ok (.goto 4, 3) := by decide +kernel
theorem dr_Mo_pin_50 : decode bc_Mo_pin 50 = .ok (.iconst 2, 1) := by decide +kernel
theorem dr_Mo_pin_51 : decode bc_Mo_pin 51 = .ok (.putfield 78, 3) := by decide +kernel
theorem dr_Mo_pin_54 : decode bc_Mo_pin 54 = .ok (.aload_n 0, 1) := by decide +kernel
theorem dr_Mo_pin_55 : decode bc_Mo_pin 55 = .ok (.getfield 78, 3) := by decide +kernel
theorem dr_Mo_pin_58 : decode bc_Mo_pin 58 = .ok (.ifCond .eq 5, 3) := by decide +kernel
theorem dr_Mo_pin_61 : decode bc_Mo_pin 61 = .ok (.iconst 0, 1) := by decide +kernel
theorem dr_Mo_pin_62 : decode bc_Mo_pin 62 = .ok (.ireturn, 1) := by decide +kernel
theorem dr_Mo_pin_63 : decode bc_Mo_pin 63 = .ok (.iconst 0, 1) := by decide +kernel
theorem dr_Mo_pin_64 : decode bc_Mo_pin 64 = .ok (.istore 8, 2) := by decide +kernel
theorem dr_Mo_pin_66 : decode bc_Mo_pin 66 = .ok (.iconst 0, 1) := by decide +kernel
theorem dr_Mo_pin_67 : decode bc_Mo_pin 67 = .ok (.istore 9, 2) := by decide +kernel
theorem dr_Mo_pin_69 : decode bc_Mo_pin 69 = .ok (.iload 9, 2) := by decide +kernel
theorem dr_Mo_pin_71 : decode bc_Mo_pin 71 = .ok (.aload_n 0, 1) := by decide +kernel
theorem dr_Mo_pin_72 : decode bc_Mo_pin 72 = .ok (.getfield 89, 3) := by decide +kernel
theorem dr_Mo_pin_75 : decode bc_Mo_pin 75 = .ok (.if_icmp .ge 30, 3) := by decide +kernel
theorem dr_Mo_pin_78 : decode bc_Mo_pin 78 = .ok (.iload 8, 2) := by decide +kernel
theorem dr_Mo_pin_80 : decode bc_Mo_pin 80 = .ok (.aload_n 0, 1) := by decide +kernel
theorem dr_Mo_pin_81 : decode bc_Mo_pin 81 = .ok (.getfield 7, 3) := by decide +kernel
theorem dr_Mo_pin_84 : decode bc_Mo_pin 84 = .ok (.iload 9, 2) := by decide +kernel
theorem dr_Mo_pin_86 : decode bc_Mo_pin 86 = .ok (.iaload, 1) := by decide +kernel
theorem dr_Mo_pin_87 : decode bc_Mo_pin 87 = .ok (.iload_n 1, 1) := by decide +kernel
theorem dr_Mo_pin_88 : decode bc_Mo_pin 88 = .ok (.if_icmp .ne 7, 3) := by decide +kernel
theorem dr_Mo_pin_91 : decode bc_Mo_pin 91 = .ok (.iconst 1, 1) := by decide +kernel
theorem dr_Mo_pin_92 : decode bc_Mo_pin 92 = .ok (.goto 4, 3) := by decide +kernel
theorem dr_Mo_pin_95 : decode bc_Mo_pin 95 = .ok (.iconst 0, 1) := by decide +kernel
theorem dr_Mo_pin_96 : decode bc_Mo_pin 96 = .ok (.iadd, 1) := by decide +kernel
theorem dr_Mo_pin_97 : decode bc_Mo_pin 97 = .ok (.istore 8, 2) := by decide +kernel
theorem dr_Mo_pin_99 : decode bc_Mo_pin 99 = .ok (.iinc 9 1, 3) := by decide +kernel
theorem dr_Mo_pin_102 : decode bc_Mo_pin 102 = .ok (.goto (-33), 3) := by decide +kernel
theorem dr_Mo_pin_105 : decode bc_Mo_pin 105 = .ok (.iload 8, 2) := by decide +kernel
theorem dr_Mo_pin_107 : decode bc_Mo_pin 107 = .ok (.bipush 12, 2) := by decide +kernel
theorem dr_Mo_pin_109 : decode bc_Mo_pin 109 = .ok (.if_icmp .eq 12, 3) := by decide +kernel
theorem dr_Mo_pin_112 : decode bc_Mo_pin 112 = .ok (.aload_n 0, 1) := by decide +kernel
theorem dr_Mo_pin_113 : decode bc_Mo_pin 113 = .ok (.getfield 89, 3) := by decide +kernel
theorem dr_Mo_pin_116 : decode bc_Mo_pin 116 = .ok (.bipush 80, 2) := by decide +kernel
theorem dr_Mo_pin_118 : decode bc_Mo_pin 118 = .ok (.if_icmp .ne 5, 3) := by decide +kernel
theorem dr_Mo_pin_121 : decode bc_Mo_pin 121 = .ok (.iconst (-1), 1) := by decide +kernel
theorem dr_Mo_pin_122 : decode bc_Mo_pin 122 = .ok (.ireturn, 1) := by decide +kernel
theorem dr_Mo_pin_123 : decode bc_Mo_pin 123 = .ok (.aload_n 0, 1) := by decide +kernel
theorem dr_Mo_pin_124 : decode bc_Mo_pin 124 = .ok (.getfield 7, 3) := by decide +kernel
theorem dr_Mo_pin_127 : decode bc_Mo_pin 127 = .ok (.aload_n 0, 1) := by decide +kernel
theorem dr_Mo_pin_128 : decode bc_Mo_pin 128 = .ok (.getfield 89, 3) := by decide +kernel
theorem dr_Mo_pin_131 : decode bc_Mo_pin 131 = .ok (.iload_n 1, 1) := by decide +kernel
theorem dr_Mo_pin_132 : decode bc_Mo_pin 132 = .ok (.iastore, 1) := by decide +kernel
theorem dr_Mo_pin_133 : decode bc_Mo_pin 133 = .ok (.aload_n 0, 1) := by decide +kernel
theorem dr_Mo_pin_134 : decode bc_Mo_pin 134 = .ok (.getfield 13, 3) := by decide +kernel
theorem dr_Mo_pin_137 : decode bc_Mo_pin 137 = .ok (.aload_n 0, 1) := by decide +kernel
theorem dr_Mo_pin_138 : decode bc_Mo_pin 138 = .ok (.getfield 89, 3) := by decide +kernel
theorem dr_Mo_pin_141 : decode bc_Mo_pin 141 = .ok (.lload_n 2, 1) := by decide +kernel
theorem dr_Mo_pin_142 : decode bc_Mo_pin 142 = .ok (.lastore, 1) := by decide +kernel
theorem dr_Mo_pin_143 : decode bc_Mo_pin 143 = .ok (.aload_n 0, 1) := by decide +kernel
theorem dr_Mo_pin_144 : decode bc_Mo_pin 144 = .ok (.getfield 17, 3) := by decide +kernel
theorem dr_Mo_pin_147 : decode bc_Mo_pin 147 = .ok (.aload_n 0, 1) := by decide +kernel
theorem dr_Mo_pin_148 : decode bc_Mo_pin 148 = .ok (.getfield 89, 3) := by decide +kernel
theorem dr_Mo_pin_151 : decode bc_Mo_pin 151 = .ok (.lload 4, 2) := by decide +kernel
theorem dr_Mo_pin_153 : decode bc_Mo_pin 153 = .ok (.lastore, 1) := by decide +kernel
theorem dr_Mo_pin_154 : decode bc_Mo_pin 154 = .ok (.aload_n 0, 1) := by decide +kernel
theorem dr_Mo_pin_155 : decode bc_Mo_pin 155 = .ok (.getfield 23, 3) := by decide +kernel
theorem dr_Mo_pin_158 : decode bc_Mo_pin 158 = .ok (.aload_n 0, 1) := by decide +kernel
theorem dr_Mo_pin_159 : decode bc_Mo_pin 159 = .ok (.getfield 89, 3) := by decide +kernel
theorem dr_Mo_pin_162 : decode bc_Mo_pin 162 = .ok (.iload 6, 2) := by decide +kernel
theorem dr_Mo_pin_164 : decode bc_Mo_pin 164 = .ok (.iastore, 1) := by decide +kernel
theorem dr_Mo_pin_165 : decode bc_Mo_pin 165 = .ok (.aload_n 0, 1) := by decide +kernel
theorem dr_Mo_pin_166 : decode bc_Mo_pin 166 = .ok (.getfield 26, 3) := by decide +kernel
theorem dr_Mo_pin_169 : decode bc_Mo_pin 169 = .ok (.aload_n 0, 1) := by decide +kernel
theorem dr_Mo_pin_170 : decode bc_Mo_pin 170 = .ok (.getfield 89, 3) := by decide +kernel
theorem dr_Mo_pin_173 : decode bc_Mo_pin 173 = .ok (.iload 6, 2) := by decide +kernel
theorem dr_Mo_pin_175 : decode bc_Mo_pin 175 = .ok (.iastore, 1) := by decide +kernel
theorem dr_Mo_pin_176 : decode bc_Mo_pin 176 = .ok (.aload_n 0, 1) := by decide +kernel
theorem dr_Mo_pin_177 : decode bc_Mo_pin 177 = .ok (.getfield 33, 3) := by decide +kernel
theorem dr_Mo_pin_180 : decode bc_Mo_pin 180 = .ok (.aload_n 0, 1) := by decide +kernel
theorem dr_Mo_pin_181 : decode bc_Mo_pin 181 = .ok (.getfield 89, 3) := by decide +kernel
theorem dr_Mo_pin_184 : decode bc_Mo_pin 184 = .ok (.iconst (-1), 1) := by decide +kernel
theorem dr_Mo_pin_185 : decode bc_Mo_pin 185 = .ok (.iastore, 1) := by decide +kernel
theorem dr_Mo_pin_186 : decode bc_Mo_pin 186 = .ok (.aload_n 0, 1) := by decide +kernel
theorem dr_Mo_pin_187 : decode bc_Mo_pin 187 = .ok (.dup, 1) := by decide +kernel
theorem dr_Mo_pin_188 : decode bc_Mo_pin 188 = .ok (.getfield 89, 3) := by decide +kernel
theorem dr_Mo_pin_191 : decode bc_Mo_pin 191 = .ok (.iconst 1, 1) := by decide +kernel
theorem dr_Mo_pin_192 : decode bc_Mo_pin 192 = .ok (.iadd, 1) := by decide +kernel
theorem dr_Mo_pin_193 : decode bc_Mo_pin 193 = .ok (.putfield 89, 3) := by decide +kernel
theorem dr_Mo_pin_196 : decode bc_Mo_pin 196 = .ok (.aload_n 0, 1) := by decide +kernel
theorem dr_Mo_pin_197 : decode bc_Mo_pin 197 = .ok (.getfield 89, 3) := by decide +kernel
theorem dr_Mo_pin_200 : decode bc_Mo_pin 200 = .ok (.iconst 1, 1) := by decide +kernel
theorem dr_Mo_pin_201 : decode bc_Mo_pin 201 = .ok (.isub, 1) := by decide +kernel
theorem dr_Mo_pin_202 : decode bc_Mo_pin 202 = .ok (.ireturn, 1) := by decide +kernel
theorem dr_Mo_target_0 : decode bc_Mo_target 0 = .ok (.aload_n 0, 1) := by decide +kernel
theorem dr_Mo_target_1 : decode bc_Mo_target 1 = .ok (.iload_n 1, 1) := by decide +kernel
theorem dr_Mo_target_2 : decode bc_Mo_target 2 = .ok (.invokestatic 96, 3) := by decide +kernel
theorem dr_Mo_target_5 : decode bc_Mo_target 5 = .ok (.ifCond .ne 7, 3) := by decide +kernel
theorem dr_Mo_target_8 : decode bc_Mo_target 8 = .ok (.iconst 1, 1) := by decide +kernel
theorem dr_Mo_target_9 : decode bc_Mo_target 9 = .ok (.goto 17, 3) := by decide +kernel
theorem dr_Mo_target_12 : decode bc_Mo_target 12 = .ok (.lload_n 2, 1) := by decide +kernel
theorem dr_Mo_target_13 : decode bc_Mo_target 13 = .ok (.lload 4, 2) := by decide +kernel
theorem dr_Mo_target_15 : decode bc_Mo_target 15 = .ok (.invokestatic 92, 3) := by decide +kernel
theorem dr_Mo_target_18 : decode bc_Mo_target 18 = .ok (.ifCond .eq 7, 3) := by decide +kernel
theorem dr_Mo_target_21 : decode bc_Mo_target 21 = .ok (.iconst 0, 1) := by decide +kernel
theorem dr_Mo_target_22 : decode bc_Mo_target 22 = .ok (.goto 4, 3) := by decide +kernel
theorem dr_Mo_target_25 : decode bc_Mo_target 25 = .ok (.iconst 2, 1) := by decide +kernel
theorem dr_Mo_target_26 : decode bc_Mo_target 26 = .ok (.putfield 78, 3) := by decide +kernel
theorem dr_Mo_target_29 : decode bc_Mo_target 29 = .ok (.aload_n 0, 1) := by decide +kernel
theorem dr_Mo_target_30 : decode bc_Mo_target 30 = .ok (.getfield 78, 3) := by decide +kernel
theorem dr_Mo_target_33 : decode bc_Mo_target 33 = .ok (.ifCond .ne 35, 3) := by decide +kernel
theorem dr_Mo_target_36 : decode bc_Mo_target 36 = .ok (.aload_n 0, 1) := by decide +kernel
theorem dr_Mo_target_37 : decode bc_Mo_target 37 = .ok (.getfield 39, 3) := by decide +kernel
theorem dr_Mo_target_40 : decode bc_Mo_target 40 = .ok (.iload_n 1, 1) := by decide +kernel
theorem dr_Mo_target_41 : decode bc_Mo_target 41 = .ok (.baload, 1) := by decide +kernel
theorem dr_Mo_target_42 : decode bc_Mo_target 42 = .ok (.ifCond .eq 28, 3) := by decide +kernel
theorem dr_Mo_target_45 : decode bc_Mo_target 45 = .ok (.aload_n 0, 1) := by decide +kernel
theorem dr_Mo_target_46 : decode bc_Mo_target 46 = .ok (.getfield 42, 3) := by decide +kernel
theorem dr_Mo_target_49 : decode bc_Mo_target 49 = .ok (.iload_n 1, 1) := by decide +kernel
theorem dr_Mo_target_50 : decode bc_Mo_target 50 = .ok (.laload, 1) := by decide +kernel
theorem dr_Mo_target_51 : decode bc_Mo_target 51 = .ok (.lload_n 2, 1) := by decide +kernel
theorem dr_Mo_target_52 : decode bc_Mo_target 52 = .ok (.lcmp, 1) := by decide +kernel
theorem dr_Mo_target_53 : decode bc_Mo_target 53 = .ok (.ifCond .ne 17, 3) := by decide +kernel
theorem dr_Mo_target_56 : decode bc_Mo_target 56 = .ok (.aload_n 0, 1) := by decide +kernel
theorem dr_Mo_target_57 : decode bc_Mo_target 57 = .ok (.getfield 45, 3) := by decide +kernel
theorem dr_Mo_target_60 : decode bc_Mo_target 60 = .ok (.iload_n 1, 1) := by decide +kernel
theorem dr_Mo_target_61 : decode bc_Mo_target 61 = .ok (.laload, 1) := by decide +kernel
theorem dr_Mo_target_62 : decode bc_Mo_target 62 = .ok (.lload 4, 2) := by decide +kernel
theorem dr_Mo_target_64 : decode bc_Mo_target 64 = .ok (.lcmp, 1) := by decide +kernel
theorem dr_Mo_target_65 : decode bc_Mo_target 65 = .ok (.ifCond .ne 5, 3) := by decide +kernel
theorem dr_Mo_target_68 : decode bc_Mo_target 68 = .ok (.iconst 0, 1) := by decide +kernel
theorem dr_Mo_target_69 : decode bc_Mo_target 69 = .ok (.ireturn, 1) := by decide +kernel
theorem dr_Mo_target_70 : decode bc_Mo_target 70 = .ok (.aload_n 0, 1) := by decide +kernel
theorem dr_Mo_target_71 : decode bc_Mo_target 71 = .ok (.getfield 39, 3) := by decide +kernel
theorem dr_Mo_target_74 : decode bc_Mo_target 74 = .ok (.iload_n 1, 1) := by decide +kernel
theorem dr_Mo_target_75 : decode bc_Mo_target 75 = .ok (.iconst 1, 1) := by decide +kernel
theorem dr_Mo_target_76 : decode bc_Mo_target 76 = .ok (.bastore, 1) := by decide +kernel
theorem dr_Mo_target_77 : decode bc_Mo_target 77 = .ok (.aload_n 0, 1) := by decide +kernel
theorem dr_Mo_target_78 : decode bc_Mo_target 78 = .ok (.getfield 42, 3) := by decide +kernel
theorem dr_Mo_target_81 : decode bc_Mo_target 81 = .ok (.iload_n 1, 1) := by decide +kernel
theorem dr_Mo_target_82 : decode bc_Mo_target 82 = .ok (.lload_n 2, 1) := by decide +kernel
theorem dr_Mo_target_83 : decode bc_Mo_target 83 = .ok (.lastore, 1) := by decide +kernel
theorem dr_Mo_target_84 : decode bc_Mo_target 84 = .ok (.aload_n 0, 1) := by decide +kernel
theorem dr_Mo_target_85 : decode bc_Mo_target 85 = .ok (.getfield 45, 3) := by decide +kernel
theorem dr_Mo_target_88 : decode bc_Mo_target 88 = .ok (.iload_n 1, 1) := by decide +kernel
theorem dr_Mo_target_89 : decode bc_Mo_target 89 = .ok (.lload 4, 2) := by decide +kernel
theorem dr_Mo_target_91 : decode bc_Mo_target 91 = .ok (.lastore, 1) := by decide +kernel
theorem dr_Mo_target_92 : decode bc_Mo_target 92 = .ok (.iconst 1, 1) := by decide +kernel
theorem dr_Mo_target_93 : decode bc_Mo_target 93 = .ok (.ireturn, 1) := by decide +kernel
theorem dr_Mo_lock_0 : decode bc_Mo_lock 0 = .ok (.aload_n 0, 1) := by decide +kernel
theorem dr_Mo_lock_1 : decode bc_Mo_lock 1 = .ok (.aload_n 0, 1) := by decide +kernel
theorem dr_Mo_lock_2 : decode bc_Mo_lock 2 = .ok (.iload_n 1, 1) := by decide +kernel
theorem dr_Mo_lock_3 : decode bc_Mo_lock 3 = .ok (.invokevirtual 100, 3) := by decide +kernel
theorem dr_Mo_lock_6 : decode bc_Mo_lock 6 = .ok (.ifCond .eq 7, 3) := by decide +kernel
theorem dr_Mo_lock_9 : decode bc_Mo_lock 9 = .ok (.iconst 0, 1) := by decide +kernel
theorem dr_Mo_lock_10 : decode bc_Mo_lock 10 = .ok (.goto 4, 3) := by decide +kernel
theorem dr_Mo_lock_13 : decode bc_Mo_lock 13 = .ok (.iconst 1, 1) := by decide +kernel
theorem dr_Mo_lock_14 : decode bc_Mo_lock 14 = .ok (.putfield 78, 3) := by decide +kernel
theorem dr_Mo_lock_17 : decode bc_Mo_lock 17 = .ok (.aload_n 0, 1) := by decide +kernel
theorem dr_Mo_lock_18 : decode bc_Mo_lock 18 = .ok (.getfield 78, 3) := by decide +kernel
theorem dr_Mo_lock_21 : decode bc_Mo_lock 21 = .ok (.ifCond .ne 12, 3) := by decide +kernel
theorem dr_Mo_lock_24 : decode bc_Mo_lock 24 = .ok (.aload_n 0, 1) := by decide +kernel
theorem dr_Mo_lock_25 : decode bc_Mo_lock 25 = .ok (.getfield 29, 3) := by decide +kernel
theorem dr_Mo_lock_28 : decode bc_Mo_lock 28 = .ok (.iload_n 1, 1) := by decide +kernel
theorem dr_Mo_lock_29 : decode bc_Mo_lock 29 = .ok (.baload, 1) := by decide +kernel
theorem dr_Mo_lock_30 : decode bc_Mo_lock 30 = .ok (.ifCond .eq 5, 3) := by decide +kernel
theorem dr_Mo_lock_33 : decode bc_Mo_lock 33 = .ok (.iconst 0, 1) := by decide +kernel
theorem dr_Mo_lock_34 : decode bc_Mo_lock 34 = .ok (.ireturn, 1) := by decide +kernel
theorem dr_Mo_lock_35 : decode bc_Mo_lock 35 = .ok (.aload_n 0, 1) := by decide +kernel
theorem dr_Mo_lock_36 : decode bc_Mo_lock 36 = .ok (.getfield 29, 3) := by decide +kernel
theorem dr_Mo_lock_39 : decode bc_Mo_lock 39 = .ok (.iload_n 1, 1) := by decide +kernel
theorem dr_Mo_lock_40 : decode bc_Mo_lock 40 = .ok (.iconst 1, 1) := by decide +kernel
theorem dr_Mo_lock_41 : decode bc_Mo_lock 41 = .ok (.bastore, 1) := by decide +kernel
theorem dr_Mo_lock_42 : decode bc_Mo_lock 42 = .ok (.iconst 1, 1) := by decide +kernel
theorem dr_Mo_lock_43 : decode bc_Mo_lock 43 = .ok (.ireturn, 1) := by decide +kernel
theorem dr_Mo_pair_0 : decode bc_Mo_pair 0 = .ok (.aload_n 0, 1) := by decide +kernel
theorem dr_Mo_pair_1 : decode bc_Mo_pair 1 = .ok (.aload_n 0, 1) := by decide +kernel
theorem dr_Mo_pair_2 : decode bc_Mo_pair 2 = .ok (.iload_n 1, 1) := by decide +kernel
theorem dr_Mo_pair_3 : decode bc_Mo_pair 3 = .ok (.invokevirtual 100, 3) := by decide +kernel
theorem dr_Mo_pair_6 : decode bc_Mo_pair 6 = .ok (.ifCond .eq 15, 3) := by decide +kernel
theorem dr_Mo_pair_9 : decode bc_Mo_pair 9 = .ok (.aload_n 0, 1) := by decide +kernel
theorem dr_Mo_pair_10 : decode bc_Mo_pair 10 = .ok (.iload_n 2, 1) := by decide +kernel
theorem dr_Mo_pair_11 : decode bc_Mo_pair 11 = .ok (.invokevirtual 100, 3) := by decide +kernel
theorem dr_Mo_pair_14 : decode bc_Mo_pair 14 = .ok (.ifCond .eq 7, 3) := by decide +kernel
theorem dr_Mo_pair_17 : decode bc_Mo_pair 17 = .ok (.iconst 0, 1) := by decide +kernel
theorem dr_Mo_pair_18 : decode bc_Mo_pair 18 = .ok (.goto 4, 3) := by decide +kernel
theorem dr_Mo_pair_21 : decode bc_Mo_pair 21 = .ok (.iconst 1, 1) := by decide +kernel
theorem dr_Mo_pair_22 : decode bc_Mo_pair 22 = .ok (.putfield 78, 3) := by decide +kernel
theorem dr_Mo_pair_25 : decode bc_Mo_pair 25 = .ok (.aload_n 0, 1) := by decide +kernel
theorem dr_Mo_pair_26 : decode bc_Mo_pair 26 = .ok (.getfield 78, 3) := by decide +kernel
theorem dr_Mo_pair_29 : decode bc_Mo_pair 29 = .ok (.ifCond .ne 43, 3) := by decide +kernel
theorem dr_Mo_pair_32 : decode bc_Mo_pair 32 = .ok (.iload_n 1, 1) := by decide +kernel
theorem dr_Mo_pair_33 : decode bc_Mo_pair 33 = .ok (.iload_n 2, 1) := by decide +kernel
theorem dr_Mo_pair_34 : decode bc_Mo_pair 34 = .ok (.if_icmp .eq 38, 3) := by decide +kernel
theorem dr_Mo_pair_37 : decode bc_Mo_pair 37 = .ok (.aload_n 0, 1) := by decide +kernel
theorem dr_Mo_pair_38 : decode bc_Mo_pair 38 = .ok (.getfield 7, 3) := by decide +kernel
theorem dr_Mo_pair_41 : decode bc_Mo_pair 41 = .ok (.iload_n 1, 1) := by decide +kernel
theorem dr_Mo_pair_42 : decode bc_Mo_pair 42 = .ok (.iaload, 1) := by decide +kernel
theorem dr_Mo_pair_43 : decode bc_Mo_pair 43 = .ok (.aload_n 0, 1) := by decide +kernel
theorem dr_Mo_pair_44 : decode bc_Mo_pair 44 = .ok (.getfield 7, 3) := by decide +kernel
theorem dr_Mo_pair_47 : decode bc_Mo_pair 47 = .ok (.iload_n 2, 1) := by decide +kernel
theorem dr_Mo_pair_48 : decode bc_Mo_pair 48 = .ok (.iaload, 1) := by decide +kernel
theorem dr_Mo_pair_49 : decode bc_Mo_pair 49 = .ok (.if_icmp .ne 23, 3) := by decide +kernel
theorem dr_Mo_pair_52 : decode bc_Mo_pair 52 = .ok (.aload_n 0, 1) := by decide +kernel
theorem dr_Mo_pair_53 : decode bc_Mo_pair 53 = .ok (.getfield 33, 3) := by decide +kernel
theorem dr_Mo_pair_56 : decode bc_Mo_pair 56 = .ok (.iload_n 1, 1) := by decide +kernel
theorem dr_Mo_pair_57 : decode bc_Mo_pair 57 = .ok (.iaload, 1) := by decide +kernel
theorem dr_Mo_pair_58 : decode bc_Mo_pair 58 = .ok (.iconst (-1), 1) := by decide +kernel
theorem dr_Mo_pair_59 : decode bc_Mo_pair 59 = .ok (.if_icmp .ne 13, 3) := by decide +kernel
theorem dr_Mo_pair_62 : decode bc_Mo_pair 62 = .ok (.aload_n 0, 1) := by decide +kernel
theorem dr_Mo_pair_63 : decode bc_Mo_pair 63 = .ok (.getfield 33, 3) := by decide +kernel
theorem dr_Mo_pair_66 : decode bc_Mo_pair 66 = .ok (.iload_n 2, 1) := by decide +kernel
theorem dr_Mo_pair_67 : decode bc_Mo_pair 67 = .ok (.iaload, 1) := by decide +kernel
theorem dr_Mo_pair_68 : decode bc_Mo_pair 68 = .ok (.iconst (-1), 1) := by decide +kernel
theorem dr_Mo_pair_69 : decode bc_Mo_pair 69 = .ok (.if_icmp .eq 5, 3) := by decide +kernel
theorem dr_Mo_pair_72 : decode bc_Mo_pair 72 = .ok (.iconst 0, 1) := by decide +kernel
theorem dr_Mo_pair_73 : decode bc_Mo_pair 73 = .ok (.ireturn, 1) := by decide +kernel
theorem dr_Mo_pair_74 : decode bc_Mo_pair 74 = .ok (.aload_n 0, 1) := by decide +kernel
theorem dr_Mo_pair_75 : decode bc_Mo_pair 75 = .ok (.getfield 33, 3) := by decide +kernel
theorem dr_Mo_pair_78 : decode bc_Mo_pair 78 = .ok (.iload_n 1, 1) := by decide +kernel
theorem dr_Mo_pair_79 : decode bc_Mo_pair 79 = .ok (.iload_n 2, 1) := by decide +kernel
theorem dr_Mo_pair_80 : decode bc_Mo_pair 80 = .ok (.iastore, 1) := by decide +kernel
theorem dr_Mo_pair_81 : decode bc_Mo_pair 81 = .ok (.aload_n 0, 1) := by decide +kernel
theorem dr_Mo_pair_82 : decode bc_Mo_pair 82 = .ok (.getfield 33, 3) := by decide +kernel
theorem dr_Mo_pair_85 : decode bc_Mo_pair 85 = .ok (.iload_n 2, 1) := by decide +kernel
theorem dr_Mo_pair_86 : decode bc_Mo_pair 86 = .ok (.iload_n 1, 1) := by decide +kernel
theorem dr_Mo_pair_87 : decode bc_Mo_pair 87 = .ok (.iastore, 1) := by decide +kernel
theorem dr_Mo_pair_88 : decode bc_Mo_pair 88 = .ok (.aload_n 0, 1) := by decide +kernel
theorem dr_Mo_pair_89 : decode bc_Mo_pair 89 = .ok (.getfield 36, 3) := by decide +kernel
theorem dr_Mo_pair_92 : decode bc_Mo_pair 92 = .ok (.iload_n 1, 1) := by decide +kernel
theorem dr_Mo_pair_93 : decode bc_Mo_pair 93 = .ok (.iconst 1, 1) := by decide +kernel
theorem dr_Mo_pair_94 : decode bc_Mo_pair 94 = .ok (.bastore, 1) := by decide +kernel
theorem dr_Mo_pair_95 : decode bc_Mo_pair 95 = .ok (.iconst 1, 1) := by decide +kernel
theorem dr_Mo_pair_96 : decode bc_Mo_pair 96 = .ok (.ireturn, 1) := by decide +kernel
theorem dr_Mo_bank_0 : decode bc_Mo_bank 0 = .ok (.aload_n 0, 1) := by decide +kernel
theorem dr_Mo_bank_1 : decode bc_Mo_bank 1 = .ok (.aload_n 0, 1) := by decide +kernel
theorem dr_Mo_bank_2 : decode bc_Mo_bank 2 = .ok (.iload_n 1, 1) := by decide +kernel
theorem dr_Mo_bank_3 : decode bc_Mo_bank 3 = .ok (.invokevirtual 100, 3) := by decide +kernel
theorem dr_Mo_bank_6 : decode bc_Mo_bank 6 = .ok (.ifCond .ne 7, 3) := by decide +kernel
theorem dr_Mo_bank_9 : decode bc_Mo_bank 9 = .ok (.iconst 1, 1) := by decide +kernel
theorem dr_Mo_bank_10 : decode bc_Mo_bank 10 = .ok (.goto 18, 3) := by decide +kernel
theorem dr_Mo_bank_13 : decode bc_Mo_bank 13 = .ok (.iload_n 2, 1) := by decide +kernel
theorem dr_Mo_bank_14 : decode bc_Mo_bank 14 = .ok (.ifCond .lt 9, 3) := by decide +kernel
theorem dr_Mo_bank_17 : decode bc_Mo_bank 17 = .ok (.iload_n 2, 1) := by decide +kernel
theorem dr_Mo_bank_18 : decode bc_Mo_bank 18 = .ok (.bipush 15, 2) := by decide +kernel
theorem dr_Mo_bank_20 : decode bc_Mo_bank 20 = .ok (.if_icmp .le 7, 3) := by decide +kernel
theorem dr_Mo_bank_23 : decode bc_Mo_bank 23 = .ok (.iconst 2, 1) := by decide +kernel
theorem dr_Mo_bank_24 : decode bc_Mo_bank 24 = .ok (.goto 4, 3) := by decide +kernel
theorem dr_Mo_bank_27 : decode bc_Mo_bank 27 = .ok (.iconst 0, 1) := by decide +kernel
theorem dr_Mo_bank_28 : decode bc_Mo_bank 28 = .ok (.putfield 78, 3) := by decide +kernel
theorem dr_Mo_bank_31 : decode bc_Mo_bank 31 = .ok (.aload_n 0, 1) := by decide +kernel
theorem dr_Mo_bank_32 : decode bc_Mo_bank 32 = .ok (.getfield 78, 3) := by decide +kernel
theorem dr_Mo_bank_35 : decode bc_Mo_bank 35 = .ok (.ifCond .ne 13, 3) := by decide +kernel
theorem dr_Mo_bank_38 : decode bc_Mo_bank 38 = .ok (.aload_n 0, 1) := by decide +kernel
theorem dr_Mo_bank_39 : decode bc_Mo_bank 39 = .ok (.getfield 20, 3) := by decide +kernel
theorem dr_Mo_bank_42 : decode bc_Mo_bank 42 = .ok (.iload_n 1, 1) := by decide +kernel
theorem dr_Mo_bank_43 : decode bc_Mo_bank 43 = .ok (.iaload, 1) := by decide +kernel
theorem dr_Mo_bank_44 : decode bc_Mo_bank 44 = .ok (.iload_n 2, 1) := by decide +kernel
theorem dr_Mo_bank_45 : decode bc_Mo_bank 45 = .ok (.if_icmp .ne 5, 3) := by decide +kernel
theorem dr_Mo_bank_48 : decode bc_Mo_bank 48 = .ok (.iconst 0, 1) := by decide +kernel
theorem dr_Mo_bank_49 : decode bc_Mo_bank 49 = .ok (.ireturn, 1) := by decide +kernel
theorem dr_Mo_bank_50 : decode bc_Mo_bank 50 = .ok (.aload_n 0, 1) := by decide +kernel
theorem dr_Mo_bank_51 : decode bc_Mo_bank 51 = .ok (.getfield 20, 3) := by decide +kernel
theorem dr_Mo_bank_54 : decode bc_Mo_bank 54 = .ok (.iload_n 1, 1) := by decide +kernel
theorem dr_Mo_bank_55 : decode bc_Mo_bank 55 = .ok (.iload_n 2, 1) := by decide +kernel
theorem dr_Mo_bank_56 : decode bc_Mo_bank 56 = .ok (.iastore, 1) := by decide +kernel
theorem dr_Mo_bank_57 : decode bc_Mo_bank 57 = .ok (.iconst 1, 1) := by decide +kernel
theorem dr_Mo_bank_58 : decode bc_Mo_bank 58 = .ok (.ireturn, 1) := by decide +kernel
theorem dr_Mo_needs_0 : decode bc_Mo_needs 0 = .ok (.aload_n 0, 1) := by decide +kernel
theorem dr_Mo_needs_1 : decode bc_Mo_needs 1 = .ok (.iload_n 1, 1) := by decide +kernel
theorem dr_Mo_needs_2 : decode bc_Mo_needs 2 = .ok (.invokestatic 96, 3) := by decide +kernel
theorem dr_Mo_needs_5 : decode bc_Mo_needs 5 = .ok (.ifCond .ne 7, 3) := by decide +kernel
theorem dr_Mo_needs_8 : decode bc_Mo_needs 8 = .ok (.iconst 1, 1) := by decide +kernel
theorem dr_Mo_needs_9 : decode bc_Mo_needs 9 = .ok (.goto 19, 3) := by decide +kernel
theorem dr_Mo_needs_12 : decode bc_Mo_needs 12 = .ok (.iload_n 2, 1) := by decide +kernel
theorem dr_Mo_needs_13 : decode bc_Mo_needs 13 = .ok (.iconst (-1), 1) := by decide +kernel
theorem dr_Mo_needs_14 : decode bc_Mo_needs 14 = .ok (.if_icmp .lt 9, 3) := by decide +kernel
theorem dr_Mo_needs_17 : decode bc_Mo_needs 17 = .ok (.iload_n 2, 1) := by decide +kernel
theorem dr_Mo_needs_18 : decode bc_Mo_needs 18 = .ok (.bipush 15, 2) := by decide +kernel
theorem dr_Mo_needs_20 : decode bc_Mo_needs 20 = .ok (.if_icmp .le 7, 3) := by decide +kernel
theorem dr_Mo_needs_23 : decode bc_Mo_needs 23 = .ok (.iconst 2, 1) := by decide +kernel
theorem dr_Mo_needs_24 : decode bc_Mo_needs 24 = .ok (.goto 4, 3) := by decide +kernel
theorem dr_Mo_needs_27 : decode bc_Mo_needs 27 = .ok (.iconst 0, 1) := by decide +kernel
theorem dr_Mo_needs_28 : decode bc_Mo_needs 28 = .ok (.putfield 78, 3) := by decide +kernel
theorem dr_Mo_needs_31 : decode bc_Mo_needs 31 = .ok (.aload_n 0, 1) := by decide +kernel
theorem dr_Mo_needs_32 : decode bc_Mo_needs 32 = .ok (.getfield 78, 3) := by decide +kernel
theorem dr_Mo_needs_35 : decode bc_Mo_needs 35 = .ok (.ifCond .ne 15, 3) := by decide +kernel
theorem dr_Mo_needs_38 : decode bc_Mo_needs 38 = .ok (.aload_n 0, 1) := by decide +kernel
theorem dr_Mo_needs_39 : decode bc_Mo_needs 39 = .ok (.getfield 48, 3) := by decide +kernel
theorem dr_Mo_needs_42 : decode bc_Mo_needs 42 = .ok (.iload_n 1, 1) := by decide +kernel
theorem dr_Mo_needs_43 : decode bc_Mo_needs 43 = .ok (.iaload, 1) := by decide +kernel
theorem dr_Mo_needs_44 : decode bc_Mo_needs 44 = .ok (.iload_n 2, 1) := by decide +kernel
theorem dr_Mo_needs_45 : decode bc_Mo_needs 45 = .ok (.iconst 1, 1) := by decide +kernel
theorem dr_Mo_needs_46 : decode bc_Mo_needs 46 = .ok (.iadd, 1) := by decide +kernel
theorem dr_Mo_needs_47 : decode bc_Mo_needs 47 = .ok (.if_icmp .ne 5, 3) := by decide +kernel
theorem dr_Mo_needs_50 : decode bc_Mo_needs 50 = .ok (.iconst 0, 1) := by decide +kernel
theorem dr_Mo_needs_51 : decode bc_Mo_needs 51 = .ok (.ireturn, 1) := by decide +kernel
theorem dr_Mo_needs_52 : decode bc_Mo_needs 52 = .ok (.aload_n 0, 1) := by decide +kernel
theorem dr_Mo_needs_53 : decode bc_Mo_needs 53 = .ok (.getfield 48, 3) := by decide +kernel
theorem dr_Mo_needs_56 : decode bc_Mo_needs 56 = .ok (.iload_n 1, 1) := by decide +kernel
theorem dr_Mo_needs_57 : decode bc_Mo_needs 57 = .ok (.iload_n 2, 1) := by decide +kernel
theorem dr_Mo_needs_58 : decode bc_Mo_needs 58 = .ok (.iconst 1, 1) := by decide +kernel
theorem dr_Mo_needs_59 : decode bc_Mo_needs 59 = .ok (.iadd, 1) := by decide +kernel
theorem dr_Mo_needs_60 : decode bc_Mo_needs 60 = .ok (.iastore, 1) := by decide +kernel
theorem dr_Mo_needs_61 : decode bc_Mo_needs 61 = .ok (.iconst 1, 1) := by decide +kernel
theorem dr_Mo_needs_62 : decode bc_Mo_needs 62 = .ok (.ireturn, 1) := by decide +kernel
theorem dr_Mo_size_0 : decode bc_Mo_size 0 = .ok (.lload_n 0, 1) := by decide +kernel
theorem dr_Mo_size_1 : decode bc_Mo_size 1 = .ok (.lconst 0, 1) := by decide +kernel
theorem dr_Mo_size_2 : decode bc_Mo_size 2 = .ok (.lcmp, 1) := by decide +kernel
theorem dr_Mo_size_3 : decode bc_Mo_size 3 = .ok (.ifCond .ge 9, 3) := by decide +kernel
theorem dr_Mo_size_6 : decode bc_Mo_size 6 = .ok (.lconst 0, 1) := by decide +kernel
theorem dr_Mo_size_7 : decode bc_Mo_size 7 = .ok (.lload_n 0, 1) := by decide +kernel
theorem dr_Mo_size_8 : decode bc_Mo_size 8 = .ok (.lsub, 1) := by decide +kernel
theorem dr_Mo_size_9 : decode bc_Mo_size 9 = .ok (.goto 4, 3) := by decide +kernel
theorem dr_Mo_size_12 : decode bc_Mo_size 12 = .ok (.lload_n 0, 1) := by decide +kernel
theorem dr_Mo_size_13 : decode bc_Mo_size 13 = .ok (.lreturn, 1) := by decide +kernel
theorem dr_Mo_cost_0 : decode bc_Mo_cost 0 = .ok (.aload_n 0, 1) := by decide +kernel
theorem dr_Mo_cost_1 : decode bc_Mo_cost 1 = .ok (.getfield 39, 3) := by decide +kernel
theorem dr_Mo_cost_4 : decode bc_Mo_cost 4 = .ok (.iload_n 1, 1) := by decide +kernel
theorem dr_Mo_cost_5 : decode bc_Mo_cost 5 = .ok (.baload, 1) := by decide +kernel
theorem dr_Mo_cost_6 : decode bc_Mo_cost 6 = .ok (.ifCond .eq 39, 3) := by decide +kernel
theorem dr_Mo_cost_9 : decode bc_Mo_cost 9 = .ok (.aload_n 0, 1) := by decide +kernel
theorem dr_Mo_cost_10 : decode bc_Mo_cost 10 = .ok (.getfield 42, 3) := by decide +kernel
theorem dr_Mo_cost_13 : decode bc_Mo_cost 13 = .ok (.iload_n 1, 1) := by decide +kernel
theorem dr_Mo_cost_14 : decode bc_Mo_cost 14 = .ok (.laload, 1) := by decide +kernel
theorem dr_Mo_cost_15 : decode bc_Mo_cost 15 = .ok (.aload_n 0, 1) := by decide +kernel
theorem dr_Mo_cost_16 : decode bc_Mo_cost 16 = .ok (.getfield 13, 3) := by decide +kernel
theorem dr_Mo_cost_19 : decode bc_Mo_cost 19 = .ok (.iload_n 2, 1) := by decide +kernel
theorem dr_Mo_cost_20 : decode bc_Mo_cost 20 = .ok (.laload, 1) := by decide +kernel
theorem dr_Mo_cost_21 : decode bc_Mo_cost 21 = .ok (.lsub, 1) := by decide +kernel
theorem dr_Mo_cost_22 : decode bc_Mo_cost 22 = .ok (.invokestatic 103, 3) := by decide +kernel
theorem dr_Mo_cost_25 : decode bc_Mo_cost 25 = .ok (.aload_n 0, 1) := by decide +kernel
theorem dr_Mo_cost_26 : decode bc_Mo_cost 26 = .ok (.getfield 45, 3) := by decide +kernel
theorem dr_Mo_cost_29 : decode bc_Mo_cost 29 = .ok (.iload_n 1, 1) := by decide +kernel
theorem dr_Mo_cost_30 : decode bc_Mo_cost 30 = .ok (.laload, 1) := by decide +kernel
theorem dr_Mo_cost_31 : decode bc_Mo_cost 31 = .ok (.aload_n 0, 1) := by decide +kernel
theorem dr_Mo_cost_32 : decode bc_Mo_cost 32 = .ok (.getfield 17, 3) := by decide +kernel
theorem dr_Mo_cost_35 : decode bc_Mo_cost 35 = .ok (.iload_n 2, 1) := by decide +kernel
theorem dr_Mo_cost_36 : decode bc_Mo_cost 36 = .ok (.laload, 1) := by decide +kernel
theorem dr_Mo_cost_37 : decode bc_Mo_cost 37 = .ok (.lsub, 1) := by decide +kernel
theorem dr_Mo_cost_38 : decode bc_Mo_cost 38 = .ok (.invokestatic 103, 3) := by decide +kernel
theorem dr_Mo_cost_41 : decode bc_Mo_cost 41 = .ok (.ladd, 1) := by decide +kernel
theorem dr_Mo_cost_42 : decode bc_Mo_cost 42 = .ok (.goto 4, 3) := by decide +kernel
theorem dr_Mo_cost_45 : decode bc_Mo_cost 45 = .ok (.lconst 0, 1) := by decide +kernel
theorem dr_Mo_cost_46 : decode bc_Mo_cost 46 = .ok (.lstore_n 3, 1) := by decide +kernel
theorem dr_Mo_cost_47 : decode bc_Mo_cost 47 = .ok (.aload_n 0, 1) := by decide +kernel
theorem dr_Mo_cost_48 : decode bc_Mo_cost 48 = .ok (.getfield 48, 3) := by decide +kernel
theorem dr_Mo_cost_51 : decode bc_Mo_cost 51 = .ok (.iload_n 1, 1) := by decide +kernel
theorem dr_Mo_cost_52 : decode bc_Mo_cost 52 = .ok (.iaload, 1) := by decide +kernel
theorem dr_Mo_cost_53 : decode bc_Mo_cost 53 = .ok (.ifCond .le 28, 3) := by decide +kernel
theorem dr_Mo_cost_56 : decode bc_Mo_cost 56 = .ok (.aload_n 0, 1) := by decide +kernel
theorem dr_Mo_cost_57 : decode bc_Mo_cost 57 = .ok (.getfield 48, 3) := by decide +kernel
theorem dr_Mo_cost_60 : decode bc_Mo_cost 60 = .ok (.iload_n 1, 1) := by decide +kernel
theorem dr_Mo_cost_61 : decode bc_Mo_cost 61 = .ok (.iaload, 1) := by decide +kernel
theorem dr_Mo_cost_62 : decode bc_Mo_cost 62 = .ok (.aload_n 0, 1) := by decide +kernel
theorem dr_Mo_cost_63 : decode bc_Mo_cost 63 = .ok (.getfield 20, 3) := by decide +kernel
theorem dr_Mo_cost_66 : decode bc_Mo_cost 66 = .ok (.iload_n 2, 1) := by decide +kernel
theorem dr_Mo_cost_67 : decode bc_Mo_cost 67 = .ok (.iaload, 1) := by decide +kernel
theorem dr_Mo_cost_68 : decode bc_Mo_cost 68 = .ok (.iconst 1, 1) := by decide +kernel
theorem dr_Mo_cost_69 : decode bc_Mo_cost 69 = .ok (.iadd, 1) := by decide +kernel
theorem dr_Mo_cost_70 : decode bc_Mo_cost 70 = .ok (.if_icmp .eq 11, 3) := by decide +kernel
theorem dr_Mo_cost_73 : decode bc_Mo_cost 73 = .ok (.lload_n 3, 1) := by decide +kernel
theorem dr_Mo_cost_74 : decode bc_Mo_cost 74 = .ok (.ldc2_w 107, 3) := by decide +kernel
theorem dr_Mo_cost_77 : decode bc_Mo_cost 77 = .ok (.ladd, 1) := by decide +kernel
theorem dr_Mo_cost_78 : decode bc_Mo_cost 78 = .ok (.goto 4, 3) := by decide +kernel
theorem dr_Mo_cost_81 : decode bc_Mo_cost 81 = .ok (.lload_n 3, 1) := by decide +kernel
theorem dr_Mo_cost_82 : decode bc_Mo_cost 82 = .ok (.lreturn, 1) := by decide +kernel
theorem dr_Mo_sumOf_0 : decode bc_Mo_sumOf 0 = .ok (.lconst 0, 1) := by decide +kernel
theorem dr_Mo_sumOf_1 : decode bc_Mo_sumOf 1 = .ok (.lstore_n 1, 1) := by decide +kernel
theorem dr_Mo_sumOf_2 : decode bc_Mo_sumOf 2 = .ok (.iconst 0, 1) := by decide +kernel
theorem dr_Mo_sumOf_3 : decode bc_Mo_sumOf 3 = .ok (.istore_n 3, 1) := by decide +kernel
theorem dr_Mo_sumOf_4 : decode bc_Mo_sumOf 4 = .ok (.iload_n 3, 1) := by decide +kernel
theorem dr_Mo_sumOf_5 : decode bc_Mo_sumOf 5 = .ok (.aload_n 0, 1) := by decide +kernel
theorem dr_Mo_sumOf_6 : decode bc_Mo_sumOf 6 = .ok (.getfield 89, 3) := by decide +kernel
theorem dr_Mo_sumOf_9 : decode bc_Mo_sumOf 9 = .ok (.if_icmp .ge 23, 3) := by decide +kernel
theorem dr_Mo_sumOf_12 : decode bc_Mo_sumOf 12 = .ok (.lload_n 1, 1) := by decide +kernel
theorem dr_Mo_sumOf_13 : decode bc_Mo_sumOf 13 = .ok (.aload_n 0, 1) := by decide +kernel
theorem dr_Mo_sumOf_14 : decode bc_Mo_sumOf 14 = .ok (.aload_n 0, 1) := by decide +kernel
theorem dr_Mo_sumOf_15 : decode bc_Mo_sumOf 15 = .ok (.getfield 23, 3) := by decide +kernel
theorem dr_Mo_sumOf_18 : decode bc_Mo_sumOf 18 = .ok (.iload_n 3, 1) := by decide +kernel
theorem dr_Mo_sumOf_19 : decode bc_Mo_sumOf 19 = .ok (.iaload, 1) := by decide +kernel
theorem dr_Mo_sumOf_20 : decode bc_Mo_sumOf 20 = .ok (.iload_n 3, 1) := by decide +kernel
theorem dr_Mo_sumOf_21 : decode bc_Mo_sumOf 21 = .ok (.invokevirtual 109, 3) := by decide +kernel
theorem dr_Mo_sumOf_24 : decode bc_Mo_sumOf 24 = .ok (.ladd, 1) := by decide +kernel
theorem dr_Mo_sumOf_25 : decode bc_Mo_sumOf 25 = .ok (.lstore_n 1, 1) := by decide +kernel
theorem dr_Mo_sumOf_26 : decode bc_Mo_sumOf 26 = .ok (.iinc 3 1, 3) := by decide +kernel
theorem dr_Mo_sumOf_29 : decode bc_Mo_sumOf 29 = .ok (.goto (-25), 3) := by decide +kernel
theorem dr_Mo_sumOf_32 : decode bc_Mo_sumOf 32 = .ok (.lload_n 1, 1) := by decide +kernel
theorem dr_Mo_sumOf_33 : decode bc_Mo_sumOf 33 = .ok (.lreturn, 1) := by decide +kernel
theorem dr_Mo_sum_0 : decode bc_Mo_sum 0 = .ok (.aload_n 0, 1) := by decide +kernel
theorem dr_Mo_sum_1 : decode bc_Mo_sum 1 = .ok (.iconst 0, 1) := by decide +kernel
theorem dr_Mo_sum_2 : decode bc_Mo_sum 2 = .ok (.putfield 78, 3) := by decide +kernel
theorem dr_Mo_sum_5 : decode bc_Mo_sum 5 = .ok (.aload_n 0, 1) := by decide +kernel
theorem dr_Mo_sum_6 : decode bc_Mo_sum 6 = .ok (.invokevirtual 113, 3) := by decide +kernel
theorem dr_Mo_sum_9 : decode bc_Mo_sum 9 = .ok (.lreturn, 1) := by decide +kernel
theorem dr_Mo_before_0 : decode bc_Mo_before 0 = .ok (.aload_n 0, 1) := by decide +kernel
theorem dr_Mo_before_1 : decode bc_Mo_before 1 = .ok (.iconst 0, 1) := by decide +kernel
theorem dr_Mo_before_2 : decode bc_Mo_before 2 = .ok (.putfield 78, 3) := by decide +kernel
theorem dr_Mo_before_5 : decode bc_Mo_before 5 = .ok (.aload_n 0, 1) := by decide +kernel
theorem dr_Mo_before_6 : decode bc_Mo_before 6 = .ok (.getfield 117, 3) := by decide +kernel
theorem dr_Mo_before_9 : decode bc_Mo_before 9 = .ok (.lreturn, 1) := by decide +kernel
theorem dr_Mo_isUnit_0 : decode bc_Mo_isUnit 0 = .ok (.aload_n 0, 1) := by decide +kernel
theorem dr_Mo_isUnit_1 : decode bc_Mo_isUnit 1 = .ok (.getfield 7, 3) := by decide +kernel
theorem dr_Mo_isUnit_4 : decode bc_Mo_isUnit 4 = .ok (.iload_n 1, 1) := by decide +kernel
theorem dr_Mo_isUnit_5 : decode bc_Mo_isUnit 5 = .ok (.iaload, 1) := by decide +kernel
theorem dr_Mo_isUnit_6 : decode bc_Mo_isUnit 6 = .ok (.iload_n 2, 1) := by decide +kernel
theorem dr_Mo_isUnit_7 : decode bc_Mo_isUnit 7 = .ok (.if_icmp .ne 12, 3) := by decide +kernel
theorem dr_Mo_isUnit_10 : decode bc_Mo_isUnit 10 = .ok (.aload_n 0, 1) := by decide +kernel
theorem dr_Mo_isUnit_11 : decode bc_Mo_isUnit 11 = .ok (.getfield 29, 3) := by decide +kernel
theorem dr_Mo_isUnit_14 : decode bc_Mo_isUnit 14 = .ok (.iload_n 1, 1) := by decide +kernel
theorem dr_Mo_isUnit_15 : decode bc_Mo_isUnit 15 = .ok (.baload, 1) := by decide +kernel
theorem dr_Mo_isUnit_16 : decode bc_Mo_isUnit 16 = .ok (.ifCond .eq 5, 3) := by decide +kernel
theorem dr_Mo_isUnit_19 : decode bc_Mo_isUnit 19 = .ok (.iconst 0, 1) := by decide +kernel
theorem dr_Mo_isUnit_20 : decode bc_Mo_isUnit 20 = .ok (.ireturn, 1) := by decide +kernel
theorem dr_Mo_isUnit_21 : decode bc_Mo_isUnit 21 = .ok (.iload_n 3, 1) := by decide +kernel
theorem dr_Mo_isUnit_22 : decode bc_Mo_isUnit 22 = .ok (.ifCond .eq 34, 3) := by decide +kernel
theorem dr_Mo_isUnit_25 : decode bc_Mo_isUnit 25 = .ok (.aload_n 0, 1) := by decide +kernel
theorem dr_Mo_isUnit_26 : decode bc_Mo_isUnit 26 = .ok (.getfield 36, 3) := by decide +kernel
theorem dr_Mo_isUnit_29 : decode bc_Mo_isUnit 29 = .ok (.iload_n 1, 1) := by decide +kernel
theorem dr_Mo_isUnit_30 : decode bc_Mo_isUnit 30 = .ok (.baload, 1) := by decide +kernel
theorem dr_Mo_isUnit_31 : decode bc_Mo_isUnit 31 = .ok (.ifCond .eq 21, 3) := by decide +kernel
theorem dr_Mo_isUnit_34 : decode bc_Mo_isUnit 34 = .ok (.aload_n 0, 1) := by decide +kernel
theorem dr_Mo_isUnit_35 : decode bc_Mo_isUnit 35 = .ok (.getfield 29, 3) := by decide +kernel
theorem dr_Mo_isUnit_38 : decode bc_Mo_isUnit 38 = .ok (.aload_n 0, 1) := by decide +kernel
theorem dr_Mo_isUnit_39 : decode bc_Mo_isUnit 39 = .ok (.getfield 33, 3) := by decide +kernel
theorem dr_Mo_isUnit_42 : decode bc_Mo_isUnit 42 = .ok (.iload_n 1, 1) := by decide +kernel
theorem dr_Mo_isUnit_43 : decode bc_Mo_isUnit 43 = .ok (.iaload, 1) := by decide +kernel
theorem dr_Mo_isUnit_44 : decode bc_Mo_isUnit 44 = .ok (.baload, 1) := by decide +kernel
theorem dr_Mo_isUnit_45 : decode bc_Mo_isUnit 45 = .ok (.ifCond .ne 7, 3) := by decide +kernel
theorem dr_Mo_isUnit_48 : decode bc_Mo_isUnit 48 = .ok (.iconst 1, 1) := by decide +kernel
theorem dr_Mo_isUnit_49 : decode bc_Mo_isUnit 49 = .ok (.goto 22, 3) := by decide +kernel
theorem dr_Mo_isUnit_52 : decode bc_Mo_isUnit 52 = .ok (.iconst 0, 1) := by decide +kernel
theorem dr_Mo_isUnit_53 : decode bc_Mo_isUnit 53 = .ok (.goto 18, 3) := by decide +kernel
theorem dr_Mo_isUnit_56 : decode bc_Mo_isUnit 56 = .ok (.aload_n 0, 1) := by decide +kernel
theorem dr_Mo_isUnit_57 : decode bc_Mo_isUnit 57 = .ok (.getfield 33, 3) := by decide +kernel
theorem dr_Mo_isUnit_60 : decode bc_Mo_isUnit 60 = .ok (.iload_n 1, 1) := by decide +kernel
theorem dr_Mo_isUnit_61 : decode bc_Mo_isUnit 61 = .ok (.iaload, 1) := by decide +kernel
theorem dr_Mo_isUnit_62 : decode bc_Mo_isUnit 62 = .ok (.iconst (-1), 1) := by decide +kernel
theorem dr_Mo_isUnit_63 : decode bc_Mo_isUnit 63 = .ok (.if_icmp .ne 7, 3) := by decide +kernel
theorem dr_Mo_isUnit_66 : decode bc_Mo_isUnit 66 = .ok (.iconst 1, 1) := by decide +kernel
theorem dr_Mo_isUnit_67 : decode bc_Mo_isUnit 67 = .ok (.goto 4, 3) := by decide +kernel
theorem dr_Mo_isUnit_70 : decode bc_Mo_isUnit 70 = .ok (.iconst 0, 1) := by decide +kernel
theorem dr_Mo_isUnit_71 : decode bc_Mo_isUnit 71 = .ok (.ireturn, 1) := by decide +kernel
theorem dr_Mo_unitCost_0 : decode bc_Mo_unitCost 0 = .ok (.aload_n 0, 1) := by decide +kernel
theorem dr_Mo_unitCost_1 : decode bc_Mo_unitCost 1 = .ok (.aload_n 0, 1) := by decide +kernel
theorem dr_Mo_unitCost_2 : decode bc_Mo_unitCost 2 = .ok (.getfield 23, 3) := by decide +kernel
theorem dr_Mo_unitCost_5 : decode bc_Mo_unitCost 5 = .ok (.iload_n 2, 1) := by decide +kernel
theorem dr_Mo_unitCost_6 : decode bc_Mo_unitCost 6 = .ok (.iaload, 1) := by decide +kernel
theorem dr_Mo_unitCost_7 : decode bc_Mo_unitCost 7 = .ok (.iload_n 1, 1) := by decide +kernel
theorem dr_Mo_unitCost_8 : decode bc_Mo_unitCost 8 = .ok (.invokevirtual 109, 3) := by decide +kernel
theorem dr_Mo_unitCost_11 : decode bc_Mo_unitCost 11 = .ok (.iload_n 3, 1) := by decide +kernel
theorem dr_Mo_unitCost_12 : decode bc_Mo_unitCost 12 = .ok (.ifCond .eq 27, 3) := by decide +kernel
theorem dr_Mo_unitCost_15 : decode bc_Mo_unitCost 15 = .ok (.aload_n 0, 1) := by decide +kernel
theorem dr_Mo_unitCost_16 : decode bc_Mo_unitCost 16 = .ok (.aload_n 0, 1) := by decide +kernel
theorem dr_Mo_unitCost_17 : decode bc_Mo_unitCost 17 = .ok (.getfield 23, 3) := by decide +kernel
theorem dr_Mo_unitCost_20 : decode bc_Mo_unitCost 20 = .ok (.aload_n 0, 1) := by decide +kernel
theorem dr_Mo_unitCost_21 : decode bc_Mo_unitCost 21 = .ok (.getfield 33, 3) := by decide +kernel
theorem dr_Mo_unitCost_24 : decode bc_Mo_unitCost 24 = .ok (.iload_n 2, 1) := by decide +kernel
theorem dr_Mo_unitCost_25 : decode bc_Mo_unitCost 25 = .ok (.iaload, 1) := by decide +kernel
theorem dr_Mo_unitCost_26 : decode bc_Mo_unitCost 26 = .ok (.iaload, 1) := by decide +kernel
theorem dr_Mo_unitCost_27 : decode bc_Mo_unitCost 27 = .ok (.aload_n 0, 1) := by decide +kernel
theorem dr_Mo_unitCost_28 : decode bc_Mo_unitCost 28 = .ok (.getfield 33, 3) := by decide +kernel
theorem dr_Mo_unitCost_31 : decode bc_Mo_unitCost 31 = .ok (.iload_n 1, 1) := by decide +kernel
theorem dr_Mo_unitCost_32 : decode bc_Mo_unitCost 32 = .ok (.iaload, 1) := by decide +kernel
theorem dr_Mo_unitCost_33 : decode bc_Mo_unitCost 33 = .ok (.invokevirtual 109, 3) := by decide +kernel
theorem dr_Mo_unitCost_36 : decode bc_Mo_unitCost 36 = .ok (.goto 4, 3) := by decide +kernel
theorem dr_Mo_unitCost_39 : decode bc_Mo_unitCost 39 = .ok (.lconst 0, 1) := by decide +kernel
theorem dr_Mo_unitCost_40 : decode bc_Mo_unitCost 40 = .ok (.ladd, 1) := by decide +kernel
theorem dr_Mo_unitCost_41 : decode bc_Mo_unitCost 41 = .ok (.lreturn, 1) := by decide +kernel
theorem dr_Mo_bits_0 : decode bc_Mo_bits 0 = .ok (.iconst 0, 1) := by decide +kernel
theorem dr_Mo_bits_1 : decode bc_Mo_bits 1 = .ok (.istore_n 1, 1) := by decide +kernel
theorem dr_Mo_bits_2 : decode bc_Mo_bits 2 = .ok (.iload_n 0, 1) := by decide +kernel
theorem dr_Mo_bits_3 : decode bc_Mo_bits 3 = .ok (.istore_n 2, 1) := by decide +kernel
theorem dr_Mo_bits_4 : decode bc_Mo_bits 4 = .ok (.iload_n 2, 1) := by decide +kernel
theorem dr_Mo_bits_5 : decode bc_Mo_bits 5 = .ok (.ifCond .eq 16, 3) := by decide +kernel
theorem dr_Mo_bits_8 : decode bc_Mo_bits 8 = .ok (.iload_n 1, 1) := by decide +kernel
theorem dr_Mo_bits_9 : decode bc_Mo_bits 9 = .ok (.iload_n 2, 1) := by decide +kernel
theorem dr_Mo_bits_10 : decode bc_Mo_bits 10 = .ok (.iconst 1, 1) := by decide +kernel
theorem dr_Mo_bits_11 : decode bc_Mo_bits 11 = .ok (.iand, 1) := by decide +kernel
theorem dr_Mo_bits_12 : decode bc_Mo_bits 12 = .ok (.iadd, 1) := by decide +kernel
theorem dr_Mo_bits_13 : decode bc_Mo_bits 13 = .ok (.istore_n 1, 1) := by decide +kernel
theorem dr_Mo_bits_14 : decode bc_Mo_bits 14 = .ok (.iload_n 2, 1) := by decide +kernel
theorem dr_Mo_bits_15 : decode bc_Mo_bits 15 = .ok (.iconst 1, 1) := by decide +kernel
theorem dr_Mo_bits_16 : decode bc_Mo_bits 16 = .ok (.ishr, 1) := by decide +kernel
theorem dr_Mo_bits_17 : decode bc_Mo_bits 17 = .ok (.istore_n 2, 1) := by decide +kernel
theorem dr_Mo_bits_18 : decode bc_Mo_bits 18 = .ok (.goto (-14), 3) := by decide +kernel
theorem dr_Mo_bits_21 : decode bc_Mo_bits 21 = .ok (.iload_n 1, 1) := by decide +kernel
theorem dr_Mo_bits_22 : decode bc_Mo_bits 22 = .ok (.ireturn, 1) := by decide +kernel
theorem dr_Mo_reckon_0 : decode bc_Mo_reckon 0 = .ok (.aload_n 0, 1) := by decide +kernel
theorem dr_Mo_reckon_1 : decode bc_Mo_reckon 1 = .ok (.iconst 0, 1) := by decide +kernel
theorem dr_Mo_reckon_2 : decode bc_Mo_reckon 2 = .ok (.putfield 121, 3) := by decide +kernel
theorem dr_Mo_reckon_5 : decode bc_Mo_reckon 5 = .ok (.iconst 0, 1) := by decide +kernel
theorem dr_Mo_reckon_6 : decode bc_Mo_reckon 6 = .ok (.istore 5, 2) := by decide +kernel
theorem dr_Mo_reckon_8 : decode bc_Mo_reckon 8 = .ok (.iload 5, 2) := by decide +kernel
theorem dr_Mo_reckon_10 : decode bc_Mo_reckon 10 = .ok (.aload_n 0, 1) := by decide +kernel
theorem dr_Mo_reckon_11 : decode bc_Mo_reckon 11 = .ok (.getfield 89, 3) := by decide +kernel
theorem dr_Mo_reckon_14 : decode bc_Mo_reckon 14 = .ok (.if_icmp .ge 44, 3) := by decide +kernel
theorem dr_Mo_reckon_17 : decode bc_Mo_reckon 17 = .ok (.aload_n 0, 1) := by decide +kernel
theorem dr_Mo_reckon_18 : decode bc_Mo_reckon 18 = .ok (.iload 5, 2) := by decide +kernel
theorem dr_Mo_reckon_20 : decode bc_Mo_reckon 20 = .ok (.iload_n 1, 1) := by decide +kernel
theorem dr_Mo_reckon_21 : decode bc_Mo_reckon 21 = .ok (.iload_n 2, 1) := by decide +kernel
theorem dr_Mo_reckon_22 : decode bc_Mo_reckon 22 = .ok (.invokevirtual 124, 3) := by decide +kernel
theorem dr_Mo_reckon_25 : decode bc_Mo_reckon 25 = .ok (.ifCond .ne 6, 3) := by decide +kernel
theorem dr_Mo_reckon_28 : decode bc_Mo_reckon 28 = .ok (.goto 24, 3) := by decide +kernel
theorem dr_Mo_reckon_31 : decode bc_Mo_reckon 31 = .ok (.aload_n 0, 1) := by decide +kernel
theorem dr_Mo_reckon_32 : decode bc_Mo_reckon 32 = .ok (.getfield 63, 3) := by decide +kernel
theorem dr_Mo_reckon_35 : decode bc_Mo_reckon 35 = .ok (.aload_n 0, 1) := by decide +kernel
theorem dr_Mo_reckon_36 : decode bc_Mo_reckon 36 = .ok (.getfield 121, 3) := by decide +kernel
theorem dr_Mo_reckon_39 : decode bc_Mo_reckon 39 = .ok (.iload 5, 2) := by decide +kernel
theorem dr_Mo_reckon_41 : decode bc_Mo_reckon 41 = .ok (.iastore, 1) := by decide +kernel
theorem dr_Mo_reckon_42 : decode bc_Mo_reckon 42 = .ok (.aload_n 0, 1) := by decide +kernel
theorem dr_Mo_reckon_43 : decode bc_Mo_reckon 43 = .ok (.dup, 1) := by decide +kernel
theorem dr_Mo_reckon_44 : decode bc_Mo_reckon 44 = .ok (.getfield 121, 3) := by decide +kernel
theorem dr_Mo_reckon_47 : decode bc_Mo_reckon 47 = .ok (.iconst 1, 1) := by decide +kernel
theorem dr_Mo_reckon_48 : decode bc_Mo_reckon 48 = .ok (.iadd, 1) := by decide +kernel
theorem dr_Mo_reckon_49 : decode bc_Mo_reckon 49 = .ok (.putfield 121, 3) := by decide +kernel
theorem dr_Mo_reckon_52 : decode bc_Mo_reckon 52 = .ok (.iinc 5 1, 3) := by decide +kernel
theorem dr_Mo_reckon_55 : decode bc_Mo_reckon 55 = .ok (.goto (-47), 3) := by decide +kernel
theorem dr_Mo_reckon_58 : decode bc_Mo_reckon 58 = .ok (.iconst 0, 1) := by decide +kernel
theorem dr_Mo_reckon_59 : decode bc_Mo_reckon 59 = .ok (.istore 5, 2) := by decide +kernel
theorem dr_Mo_reckon_61 : decode bc_Mo_reckon 61 = .ok (.iload 5, 2) := by decide +kernel
theorem dr_Mo_reckon_63 : decode bc_Mo_reckon 63 = .ok (.aload_n 0, 1) := by decide +kernel
theorem dr_Mo_reckon_64 : decode bc_Mo_reckon 64 = .ok (.getfield 121, 3) := by decide +kernel
theorem dr_Mo_reckon_67 : decode bc_Mo_reckon 67 = .ok (.if_icmp .ge 114, 3) := by decide +kernel
theorem dr_Mo_reckon_70 : decode bc_Mo_reckon 70 = .ok (.iconst 0, 1) := by decide +kernel
theorem dr_Mo_reckon_71 : decode bc_Mo_reckon 71 = .ok (.istore 6, 2) := by decide +kernel
theorem dr_Mo_reckon_73 : decode bc_Mo_reckon 73 = .ok (.iload 6, 2) := by decide +kernel
theorem dr_Mo_reckon_75 : decode bc_Mo_reckon 75 = .ok (.aload_n 0, 1) := by decide +kernel
theorem dr_Mo_reckon_76 : decode bc_Mo_reckon 76 = .ok (.getfield 121, 3) := by decide +kernel
theorem dr_Mo_reckon_79 : decode bc_Mo_reckon 79 = .ok (.if_icmp .ge 96, 3) := by decide +kernel
theorem dr_Mo_reckon_82 : decode bc_Mo_reckon 82 = .ok (.aload_n 0, 1) := by decide +kernel
theorem dr_Mo_reckon_83 : decode bc_Mo_reckon 83 = .ok (.getfield 63, 3) := by decide +kernel
theorem dr_Mo_reckon_86 : decode bc_Mo_reckon 86 = .ok (.iload 5, 2) := by decide +kernel
theorem dr_Mo_reckon_88 : decode bc_Mo_reckon 88 = .ok (.iaload, 1) := by decide +kernel
theorem dr_Mo_reckon_89 : decode bc_Mo_reckon 89 = .ok (.iload_n 3, 1) := by decide +kernel
theorem dr_Mo_reckon_90 : decode bc_Mo_reckon 90 = .ok (.if_icmp .ne 33, 3) := by decide +kernel
theorem dr_Mo_reckon_93 : decode bc_Mo_reckon 93 = .ok (.iload 4, 2) := by decide +kernel
theorem dr_Mo_reckon_95 : decode bc_Mo_reckon 95 = .ok (.iconst 1, 1) := by decide +kernel
theorem dr_Mo_reckon_96 : decode bc_Mo_reckon 96 = .ok (.if_icmp .ne 10, 3) := by decide +kernel
theorem dr_Mo_reckon_99 : decode bc_Mo_reckon 99 = .ok (.iload 5, 2) := by decide +kernel
theorem dr_Mo_reckon_101 : decode bc_Mo_reckon 101 = .ok (.iload 6, 2) := by decide +kernel
theorem dr_Mo_reckon_103 : decode bc_Mo_reckon 103 = .ok (.if_icmp .ne 16, 3) := by decide +kernel
theorem dr_Mo_reckon_106 : decode bc_Mo_reckon 106 = .ok (.iload 4, 2) := by decide +kernel
theorem dr_Mo_reckon_108 : decode bc_Mo_reckon 108 = .ok (.iconst (-1), 1) := by decide +kernel
theorem dr_Mo_reckon_109 : decode bc_Mo_reckon 109 = .ok (.if_icmp .ne 14, 3) := by decide +kernel
theorem dr_Mo_reckon_112 : decode bc_Mo_reckon 112 = .ok (.iload 5, 2) := by decide +kernel
theorem dr_Mo_reckon_114 : decode bc_Mo_reckon 114 = .ok (.iload 6, 2) := by decide +kernel
theorem dr_Mo_reckon_116 : decode bc_Mo_reckon 116 = .ok (.if_icmp .ne 7, 3) := by decide +kernel
theorem dr_Mo_reckon_119 : decode bc_Mo_reckon 119 = .ok (.iconst 1, 1) := by decide +kernel
theorem dr_Mo_reckon_120 : decode bc_Mo_reckon 120 = .ok (.goto 4, 3) := by decide +kernel
theorem dr_Mo_reckon_123 : decode bc_Mo_reckon 123 = .ok (.iconst 0, 1) := by decide +kernel
theorem dr_Mo_reckon_124 : decode bc_Mo_reckon 124 = .ok (.istore 7, 2) := by decide +kernel
theorem dr_Mo_reckon_126 : decode bc_Mo_reckon 126 = .ok (.aload_n 0, 1) := by decide +kernel
theorem dr_Mo_reckon_127 : decode bc_Mo_reckon 127 = .ok (.getfield 66, 3) := by decide +kernel
theorem dr_Mo_reckon_130 : decode bc_Mo_reckon 130 = .ok (.bipush 12, 2) := by decide +kernel
theorem dr_Mo_reckon_132 : decode bc_Mo_reckon 132 = .ok (.iload 5, 2) := by decide +kernel
theorem dr_Mo_reckon_134 : decode bc_Mo_reckon 134 = .ok (.imul, 1) := by decide +kernel
theorem dr_Mo_reckon_135 : decode bc_Mo_reckon 135 = .ok (.iload 6, 2) := by decide +kernel
theorem dr_Mo_reckon_137 : decode bc_Mo_reckon 137 = .ok (.iadd, 1) := by decide +kernel
theorem dr_Mo_reckon_138 : decode bc_Mo_reckon 138 = .ok (.iload 7, 2) := by decide +kernel
theorem dr_Mo_reckon_140 : decode bc_Mo_reckon 140 = .ok (.ifCond .eq 9, 3) := by decide +kernel
theorem dr_Mo_reckon_143 : decode bc_Mo_reckon 143 = .ok (.ldc2_w 128, 3) := by decide +kernel
theorem dr_Mo_reckon_146 : decode bc_Mo_reckon 146 = .ok (.goto 22, 3) := by decide +kernel
theorem dr_Mo_reckon_149 : decode bc_Mo_reckon 149 = .ok (.aload_n 0, 1) := by decide +kernel
theorem dr_Mo_reckon_150 : decode bc_Mo_reckon 150 = .ok (.aload_n 0, 1) := by decide +kernel
theorem dr_Mo_reckon_151 : decode bc_Mo_reckon 151 = .ok (.getfield 63, 3) := by decide +kernel
theorem dr_Mo_reckon_154 : decode bc_Mo_reckon 154 = .ok (.iload 5, 2) := by decide +kernel
theorem dr_Mo_reckon_156 : decode bc_Mo_reckon 156 = .ok (.iaload, 1) := by decide +kernel
theorem dr_Mo_reckon_157 : decode bc_Mo_reckon 157 = .ok (.aload_n 0, 1) := by decide +kernel
theorem dr_Mo_reckon_158 : decode bc_Mo_reckon 158 = .ok (.getfield 63, 3) := by decide +kernel
theorem dr_Mo_reckon_161 : decode bc_Mo_reckon 161 = .ok (.iload 6, 2) := by decide +kernel
theorem dr_Mo_reckon_163 : decode bc_Mo_reckon 163 = .ok (.iaload, 1) := by decide +kernel
theorem dr_Mo_reckon_164 : decode bc_Mo_reckon 164 = .ok (.iload_n 2, 1) := by decide +kernel
theorem dr_Mo_reckon_165 : decode bc_Mo_reckon 165 = .ok (.invokevirtual 130, 3) := by decide +kernel
theorem dr_Mo_reckon_168 : decode bc_Mo_reckon 168 = .ok (.lastore, 1) := by decide +kernel
theorem dr_Mo_reckon_169 : decode bc_Mo_reckon 169 = .ok (.iinc 6 1, 3) := by decide +kernel
theorem dr_Mo_reckon_172 : decode bc_Mo_reckon 172 = .ok (.goto (-99), 3) := by decide +kernel
theorem dr_Mo_reckon_175 : decode bc_Mo_reckon 175 = .ok (.iinc 5 1, 3) := by decide +kernel
theorem dr_Mo_reckon_178 : decode bc_Mo_reckon 178 = .ok (.goto (-117), 3) := by decide +kernel
theorem dr_Mo_reckon_181 : decode bc_Mo_reckon 181 = .ok (.iconst 1, 1) := by decide +kernel
theorem dr_Mo_reckon_182 : decode bc_Mo_reckon 182 = .ok (.aload_n 0, 1) := by decide +kernel
theorem dr_Mo_reckon_183 : decode bc_Mo_reckon 183 = .ok (.getfield 121, 3) := by decide +kernel
theorem dr_Mo_reckon_186 : decode bc_Mo_reckon 186 = .ok (.ishl, 1) := by decide +kernel
theorem dr_Mo_reckon_187 : decode bc_Mo_reckon 187 = .ok (.iconst 1, 1) := by decide +kernel
theorem dr_Mo_reckon_188 : decode bc_Mo_reckon 188 = .ok (.isub, 1) := by decide +kernel
theorem dr_Mo_reckon_189 : decode bc_Mo_reckon 189 = .ok (.istore 5, 2) := by decide +kernel
theorem dr_Mo_reckon_191 : decode bc_Mo_reckon 191 = .ok (.aload_n 0, 1) := by decide +kernel
theorem dr_Mo_reckon_192 : decode bc_Mo_reckon 192 = .ok (.getfield 69, 3) := by decide +kernel
theorem dr_Mo_reckon_195 : decode bc_Mo_reckon 195 = .ok (.iload 5, 2) := by decide +kernel
theorem dr_Mo_reckon_197 : decode bc_Mo_reckon 197 = .ok (.lconst 0, 1) := by decide +kernel
theorem dr_Mo_reckon_198 : decode bc_Mo_reckon 198 = .ok (.lastore, 1) := by decide +kernel
theorem dr_Mo_reckon_199 : decode bc_Mo_reckon 199 = .ok (.iload 5, 2) := by decide +kernel
theorem dr_Mo_reckon_201 : decode bc_Mo_reckon 201 = .ok (.iconst 1, 1) := by decide +kernel
theorem dr_Mo_reckon_202 : decode bc_Mo_reckon 202 = .ok (.isub, 1) := by decide +kernel
theorem dr_Mo_reckon_203 : decode bc_Mo_reckon 203 = .ok (.istore 6, 2) := by decide +kernel
theorem dr_Mo_reckon_205 : decode bc_Mo_reckon 205 = .ok (.iload 6, 2) := by decide +kernel
theorem dr_Mo_reckon_207 : decode bc_Mo_reckon 207 = .ok (.ifCond .lt 107, 3) := by decide +kernel
theorem dr_Mo_reckon_210 : decode bc_Mo_reckon 210 = .ok (.iload 6, 2) := by decide +kernel
theorem dr_Mo_reckon_212 : decode bc_Mo_reckon 212 = .ok (.invokestatic 134, 3) := by decide +kernel
theorem dr_Mo_reckon_215 : decode bc_Mo_reckon 215 = .ok (.istore 7, 2) := by decide +kernel
theorem dr_Mo_reckon_217 : decode bc_Mo_reckon 217 = .ok (.ldc2_w 128, 3) := by decide +kernel
theorem dr_Mo_reckon_220 : decode bc_Mo_reckon 220 = .ok (.lstore 8, 2) := by decide +kernel
theorem dr_Mo_reckon_222 : decode bc_Mo_reckon 222 = .ok (.iconst 0, 1) := by decide +kernel
theorem dr_Mo_reckon_223 : decode bc_Mo_reckon 223 = .ok (.istore 10, 2) := by decide +kernel
theorem dr_Mo_reckon_225 : decode bc_Mo_reckon 225 = .ok (.iload 10, 2) := by decide +kernel
theorem dr_Mo_reckon_227 : decode bc_Mo_reckon 227 = .ok (.aload_n 0, 1) := by decide +kernel
theorem dr_Mo_reckon_228 : decode bc_Mo_reckon 228 = .ok (.getfield 121, 3) := by decide +kernel
theorem dr_Mo_reckon_231 : decode bc_Mo_reckon 231 = .ok (.if_icmp .ge 68, 3) := by decide +kernel
theorem dr_Mo_reckon_234 : decode bc_Mo_reckon 234 = .ok (.iload 6, 2) := by decide +kernel
theorem dr_Mo_reckon_236 : decode bc_Mo_reckon 236 = .ok (.iload 10, 2) := by decide +kernel
theorem dr_Mo_reckon_238 : decode bc_Mo_reckon 238 = .ok (.ishr, 1) := by decide +kernel
theorem dr_Mo_reckon_239 : decode bc_Mo_reckon 239 = .ok (.iconst 1, 1) := by decide +kernel
theorem dr_Mo_reckon_240 : decode bc_Mo_reckon 240 = .ok (.iand, 1) := by decide +kernel
theorem dr_Mo_reckon_241 : decode bc_Mo_reckon 241 = .ok (.iconst 1, 1) := by decide +kernel
theorem dr_Mo_reckon_242 : decode bc_Mo_reckon 242 = .ok (.if_icmp .ne 6, 3) := by decide +kernel
theorem dr_Mo_reckon_245 : decode bc_Mo_reckon 245 = .ok (.goto 48, 3) := by decide +kernel
theorem dr_Mo_reckon_248 : decode bc_Mo_reckon 248 = .ok (.aload_n 0, 1) := by decide +kernel
theorem dr_Mo_reckon_249 : decode bc_Mo_reckon 249 = .ok (.getfield 66, 3) := by decide +kernel
theorem dr_Mo_reckon_252 : decode bc_Mo_reckon 252 = .ok (.bipush 12, 2) := by decide +kernel
theorem dr_Mo_reckon_254 : decode bc_Mo_reckon 254 = .ok (.iload 7, 2) := by decide +kernel
theorem dr_Mo_reckon_256 : decode bc_Mo_reckon 256 = .ok (.imul, 1) := by decide +kernel
theorem dr_Mo_reckon_257 : decode bc_Mo_reckon 257 = .ok (.iload 10, 2) := by decide +kernel
theorem dr_Mo_reckon_259 : decode bc_Mo_reckon 259 = .ok (.iadd, 1) := by decide +kernel
theorem dr_Mo_reckon_260 : decode bc_Mo_reckon 260 = .ok (.laload, 1) := by decide +kernel
theorem dr_Mo_reckon_261 : decode bc_Mo_reckon 261 = .ok (.aload_n 0, 1) := by decide +kernel
theorem dr_Mo_reckon_262 : decode bc_Mo_reckon 262 = .ok (.getfield 69, 3) := by decide +kernel
theorem dr_Mo_reckon_265 : decode bc_Mo_reckon 265 = .ok (.iload 6, 2) := by decide +kernel
theorem dr_Mo_reckon_267 : decode bc_Mo_reckon 267 = .ok (.iconst 1, 1) := by decide +kernel
theorem dr_Mo_reckon_268 : decode bc_Mo_reckon 268 = .ok (.iload 10, 2) := by decide +kernel
theorem dr_Mo_reckon_270 : decode bc_Mo_reckon 270 = .ok (.ishl, 1) := by decide +kernel
theorem dr_Mo_reckon_271 : decode bc_Mo_reckon 271 = .ok (.ior, 1) := by decide +kernel
theorem dr_Mo_reckon_272 : decode bc_Mo_reckon 272 = .ok (.laload, 1) := by decide +kernel
theorem dr_Mo_reckon_273 : decode bc_Mo_reckon 273 = .ok (.ladd, 1) := by decide +kernel
theorem dr_Mo_reckon_274 : decode bc_Mo_reckon 274 = .ok (.lstore 11, 2) := by decide +kernel
theorem dr_Mo_reckon_276 : decode bc_Mo_reckon 276 = .ok (.lload 11, 2) := by decide +kernel
theorem dr_Mo_reckon_278 : decode bc_Mo_reckon 278 = .ok (.lload 8, 2) := by decide +kernel
theorem dr_Mo_reckon_280 : decode bc_Mo_reckon 280 = .ok (.lcmp, 1) := by decide +kernel
theorem dr_Mo_reckon_281 : decode bc_Mo_reckon 281 = .ok (.ifCond .ge 8, 3) := by decide +kernel
theorem dr_Mo_reckon_284 : decode bc_Mo_reckon 284 = .ok (.lload 11, 2) := by decide +kernel
theorem dr_Mo_reckon_286 : decode bc_Mo_reckon 286 = .ok (.goto 5, 3) := by decide +kernel
theorem dr_Mo_reckon_289 : decode bc_Mo_reckon 289 = .ok (.lload 8, 2) := by decide +kernel
theorem dr_Mo_reckon_291 : decode bc_Mo_reckon 291 = .ok (.lstore 8, 2) := by decide +kernel
theorem dr_Mo_reckon_293 : decode bc_Mo_reckon 293 = .ok (.iinc 10 1, 3) := by decide +kernel
theorem dr_Mo_reckon_296 : decode bc_Mo_reckon 296 = .ok (.goto (-71), 3) := by decide +kernel
theorem dr_Mo_reckon_299 : decode bc_Mo_reckon 299 = .ok (.aload_n 0, 1) := by decide +kernel
theorem dr_Mo_reckon_300 : decode bc_Mo_reckon 300 = .ok (.getfield 69, 3) := by decide +kernel
theorem dr_Mo_reckon_303 : decode bc_Mo_reckon 303 = .ok (.iload 6, 2) := by decide +kernel
theorem dr_Mo_reckon_305 : decode bc_Mo_reckon 305 = .ok (.lload 8, 2) := by decide +kernel
theorem dr_Mo_reckon_307 : decode bc_Mo_reckon 307 = .ok (.lastore, 1) := by decide +kernel
theorem dr_Mo_reckon_308 : decode bc_Mo_reckon 308 = .ok (.iinc 6 (-1), 3) := by decide +kernel
theorem dr_Mo_reckon_311 : decode bc_Mo_reckon 311 = .ok (.goto (-106), 3) := by decide +kernel
theorem dr_Mo_reckon_314 : decode bc_Mo_reckon 314 = .ok (.return_, 1) := by decide +kernel
theorem dr_Mo_sumNow_0 : decode bc_Mo_sumNow 0 = .ok (.lconst 0, 1) := by decide +kernel
theorem dr_Mo_sumNow_1 : decode bc_Mo_sumNow 1 = .ok (.lstore_n 1, 1) := by decide +kernel
theorem dr_Mo_sumNow_2 : decode bc_Mo_sumNow 2 = .ok (.iconst 0, 1) := by decide +kernel
theorem dr_Mo_sumNow_3 : decode bc_Mo_sumNow 3 = .ok (.istore_n 3, 1) := by decide +kernel
theorem dr_Mo_sumNow_4 : decode bc_Mo_sumNow 4 = .ok (.iload_n 3, 1) := by decide +kernel
theorem dr_Mo_sumNow_5 : decode bc_Mo_sumNow 5 = .ok (.aload_n 0, 1) := by decide +kernel
theorem dr_Mo_sumNow_6 : decode bc_Mo_sumNow 6 = .ok (.getfield 121, 3) := by decide +kernel
theorem dr_Mo_sumNow_9 : decode bc_Mo_sumNow 9 = .ok (.if_icmp .ge 23, 3) := by decide +kernel
theorem dr_Mo_sumNow_12 : decode bc_Mo_sumNow 12 = .ok (.lload_n 1, 1) := by decide +kernel
theorem dr_Mo_sumNow_13 : decode bc_Mo_sumNow 13 = .ok (.aload_n 0, 1) := by decide +kernel
theorem dr_Mo_sumNow_14 : decode bc_Mo_sumNow 14 = .ok (.getfield 66, 3) := by decide +kernel
theorem dr_Mo_sumNow_17 : decode bc_Mo_sumNow 17 = .ok (.bipush 12, 2) := by decide +kernel
theorem dr_Mo_sumNow_19 : decode bc_Mo_sumNow 19 = .ok (.iload_n 3, 1) := by decide +kernel
theorem dr_Mo_sumNow_20 : decode bc_Mo_sumNow 20 = .ok (.imul, 1) := by decide +kernel
theorem dr_Mo_sumNow_21 : decode bc_Mo_sumNow 21 = .ok (.iload_n 3, 1) := by decide +kernel
theorem dr_Mo_sumNow_22 : decode bc_Mo_sumNow 22 = .ok (.iadd, 1) := by decide +kernel
theorem dr_Mo_sumNow_23 : decode bc_Mo_sumNow 23 = .ok (.laload, 1) := by decide +kernel
theorem dr_Mo_sumNow_24 : decode bc_Mo_sumNow 24 = .ok (.ladd, 1) := by decide +kernel
theorem dr_Mo_sumNow_25 : decode bc_Mo_sumNow 25 = .ok (.lstore_n 1, 1) := by decide +kernel
theorem dr_Mo_sumNow_26 : decode bc_Mo_sumNow 26 = .ok (.iinc 3 1, 3) := by decide +kernel
theorem dr_Mo_sumNow_29 : decode bc_Mo_sumNow 29 = .ok (.goto (-25), 3) := by decide +kernel
theorem dr_Mo_sumNow_32 : decode bc_Mo_sumNow 32 = .ok (.lload_n 1, 1) := by decide +kernel
theorem dr_Mo_sumNow_33 : decode bc_Mo_sumNow 33 = .ok (.lreturn, 1) := by decide +kernel
theorem dr_Mo_fits_0 : decode bc_Mo_fits 0 = .ok (.iload_n 3, 1) := by decide +kernel
theorem dr_Mo_fits_1 : decode bc_Mo_fits 1 = .ok (.iload_n 2, 1) := by decide +kernel
theorem dr_Mo_fits_2 : decode bc_Mo_fits 2 = .ok (.ishr, 1) := by decide +kernel
theorem dr_Mo_fits_3 : decode bc_Mo_fits 3 = .ok (.iconst 1, 1) := by decide +kernel
theorem dr_Mo_fits_4 : decode bc_Mo_fits 4 = .ok (.iand, 1) := by decide +kernel
theorem dr_Mo_fits_5 : decode bc_Mo_fits 5 = .ok (.ifCond .ne 39, 3) := by decide +kernel
theorem dr_Mo_fits_8 : decode bc_Mo_fits 8 = .ok (.aload_n 0, 1) := by decide +kernel
theorem dr_Mo_fits_9 : decode bc_Mo_fits 9 = .ok (.getfield 66, 3) := by decide +kernel
theorem dr_Mo_fits_12 : decode bc_Mo_fits 12 = .ok (.bipush 12, 2) := by decide +kernel
theorem dr_Mo_fits_14 : decode bc_Mo_fits 14 = .ok (.iload_n 1, 1) := by decide +kernel
theorem dr_Mo_fits_15 : decode bc_Mo_fits 15 = .ok (.imul, 1) := by decide +kernel
theorem dr_Mo_fits_16 : decode bc_Mo_fits 16 = .ok (.iload_n 2, 1) := by decide +kernel
theorem dr_Mo_fits_17 : decode bc_Mo_fits 17 = .ok (.iadd, 1) := by decide +kernel
theorem dr_Mo_fits_18 : decode bc_Mo_fits 18 = .ok (.laload, 1) := by decide +kernel
theorem dr_Mo_fits_19 : decode bc_Mo_fits 19 = .ok (.aload_n 0, 1) := by decide +kernel
theorem dr_Mo_fits_20 : decode bc_Mo_fits 20 = .ok (.getfield 69, 3) := by decide +kernel
theorem dr_Mo_fits_23 : decode bc_Mo_fits 23 = .ok (.iload_n 3, 1) := by decide +kernel
theorem dr_Mo_fits_24 : decode bc_Mo_fits 24 = .ok (.iconst 1, 1) := by decide +kernel
theorem dr_Mo_fits_25 : decode bc_Mo_fits 25 = .ok (.iload_n 2, 1) := by decide +kernel
theorem dr_Mo_fits_26 : decode bc_Mo_fits 26 = .ok (.ishl, 1) := by decide +kernel
theorem dr_Mo_fits_27 : decode bc_Mo_fits 27 = .ok (.ior, 1) := by decide +kernel
theorem dr_Mo_fits_28 : decode bc_Mo_fits 28 = .ok (.laload, 1) := by decide +kernel
theorem dr_Mo_fits_29 : decode bc_Mo_fits 29 = .ok (.ladd, 1) := by decide +kernel
theorem dr_Mo_fits_30 : decode bc_Mo_fits 30 = .ok (.aload_n 0, 1) := by decide +kernel
theorem dr_Mo_fits_31 : decode bc_Mo_fits 31 = .ok (.getfield 69, 3) := by decide +kernel
theorem dr_Mo_fits_34 : decode bc_Mo_fits 34 = .ok (.iload_n 3, 1) := by decide +kernel
theorem dr_Mo_fits_35 : decode bc_Mo_fits 35 = .ok (.laload, 1) := by decide +kernel
theorem dr_Mo_fits_36 : decode bc_Mo_fits 36 = .ok (.lcmp, 1) := by decide +kernel
theorem dr_Mo_fits_37 : decode bc_Mo_fits 37 = .ok (.ifCond .ne 7, 3) := by decide +kernel
theorem dr_Mo_fits_40 : decode bc_Mo_fits 40 = .ok (.iconst 1, 1) := by decide +kernel
theorem dr_Mo_fits_41 : decode bc_Mo_fits 41 = .ok (.goto 4, 3) := by decide +kernel
theorem dr_Mo_fits_44 : decode bc_Mo_fits 44 = .ok (.iconst 0, 1) := by decide +kernel
theorem dr_Mo_fits_45 : decode bc_Mo_fits 45 = .ok (.ireturn, 1) := by decide +kernel
