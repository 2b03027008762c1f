theorem dX9_init_0 : decode cX9_init 0 = .ok (.aload_n 0, 1) := by decide +kernel
theorem dX9_init_1 : decode cX9_init 1 = .ok (.invokespecial 1, 3) := by decide +kernel
theorem dX9_init_4 : decode cX9_init 4 = .ok (.aload_n 0, 1) := by decide +kernel
theorem dX9_init_5 : decode cX9_init 5 = .ok (.bipush 110, 2) := by decide +kernel
theorem dX9_init_7 : decode cX9_init 7 = .ok (.newarray .int, 2) := by decide +kernel
theorem dX9_init_9 : decode cX9_init 9 = .ok (.putfield 7, 3) := by decide +kernel
theorem dX9_init_12 : decode cX9_init 12 = .ok (.aload_n 0, 1) := by decide +kernel
theorem dX9_init_13 : decode cX9_init 13 = .ok (.bipush 74, 2) := by decide +kernel
theorem dX9_init_15 : decode cX9_init 15 = .ok (.newarray .int, 2) := by decide +kernel
theorem dX9_init_17 : decode cX9_init 17 = .ok (.putfield 13, 3) := by decide +kernel
theorem dX9_init_20 : decode cX9_init 20 = .ok (.aload_n 0, 1) := by decide +kernel
theorem dX9_init_21 : decode cX9_init 21 = .ok (.bipush 74, 2) := by decide +kernel
theorem dX9_init_23 : decode cX9_init 23 = .ok (.newarray .int, 2) := by decide +kernel
theorem dX9_init_25 : decode cX9_init 25 = .ok (.putfield 16, 3) := by decide +kernel
theorem dX9_init_28 : decode cX9_init 28 = .ok (.aload_n 0, 1) := by decide +kernel
theorem dX9_init_29 : decode cX9_init 29 = .ok (.bipush 13, 2) := by decide +kernel
theorem dX9_init_31 : decode cX9_init 31 = .ok (.newarray .int, 2) := by decide +kernel
theorem dX9_init_33 : decode cX9_init 33 = .ok (.putfield 19, 3) := by decide +kernel
theorem dX9_init_36 : decode cX9_init 36 = .ok (.aload_n 0, 1) := by decide +kernel
theorem dX9_init_37 : decode cX9_init 37 = .ok (.sipush 130, 3) := by decide +kernel
theorem dX9_init_40 : decode cX9_init 40 = .ok (.newarray .int, 2) := by decide +kernel
theorem dX9_init_42 : decode cX9_init 42 = .ok (.putfield 22, 3) := by decide +kernel
theorem dX9_init_45 : decode cX9_init 45 = .ok (.aload_n 0, 1) := by decide +kernel
theorem dX9_init_46 : decode cX9_init 46 = .ok (.bipush 26, 2) := by decide +kernel
theorem dX9_init_48 : decode cX9_init 48 = .ok (.newarray .int, 2) := by decide +kernel
theorem dX9_init_50 : decode cX9_init 50 = .ok (.putfield 25, 3) := by decide +kernel
theorem dX9_init_53 : decode cX9_init 53 = .ok (.aload_n 0, 1) := by decide +kernel
theorem dX9_init_54 : decode cX9_init 54 = .ok (.iconst 2, 1) := by decide +kernel
theorem dX9_init_55 : decode cX9_init 55 = .ok (.newarray .boolean, 2) := by decide +kernel
theorem dX9_init_57 : decode cX9_init 57 = .ok (.putfield 28, 3) := by decide +kernel
theorem dX9_init_60 : decode cX9_init 60 = .ok (.aload_n 0, 1) := by decide +kernel
theorem dX9_init_61 : decode cX9_init 61 = .ok (.bipush 6, 2) := by decide +kernel
theorem dX9_init_63 : decode cX9_init 63 = .ok (.newarray .int, 2) := by decide +kernel
theorem dX9_init_65 : decode cX9_init 65 = .ok (.putfield 32, 3) := by decide +kernel
theorem dX9_init_68 : decode cX9_init 68 = .ok (.aload_n 0, 1) := by decide +kernel
theorem dX9_init_69 : decode cX9_init 69 = .ok (.bipush 6, 2) := by decide +kernel
theorem dX9_init_71 : decode cX9_init 71 = .ok (.newarray .int, 2) := by decide +kernel
theorem dX9_init_73 : decode cX9_init 73 = .ok (.putfield 35, 3) := by decide +kernel
theorem dX9_init_76 : decode cX9_init 76 = .ok (.aload_n 0, 1) := by decide +kernel
theorem dX9_init_77 : decode cX9_init 77 = .ok (.bipush 6, 2) := by decide +kernel
theorem dX9_init_79 : decode cX9_init 79 = .ok (.newarray .int, 2) := by decide +kernel
theorem dX9_init_81 : decode cX9_init 81 = .ok (.putfield 38, 3) := by decide +kernel
theorem dX9_init_84 : decode cX9_init 84 = .ok (.aload_n 0, 1) := by decide +kernel
theorem dX9_init_85 : decode cX9_init 85 = .ok (.iconst 4, 1) := by decide +kernel
theorem dX9_init_86 : decode cX9_init 86 = .ok (.newarray .int, 2) := by decide +kernel
theorem dX9_init_88 : decode cX9_init 88 = .ok (.putfield 41, 3) := by decide +kernel
theorem dX9_init_91 : decode cX9_init 91 = .ok (.aload_n 0, 1) := by decide +kernel
theorem dX9_init_92 : decode cX9_init 92 = .ok (.bipush 9, 2) := by decide +kernel
theorem dX9_init_94 : decode cX9_init 94 = .ok (.newarray .int, 2) := by decide +kernel
theorem dX9_init_96 : decode cX9_init 96 = .ok (.putfield 44, 3) := by decide +kernel
theorem dX9_init_99 : decode cX9_init 99 = .ok (.aload_n 0, 1) := by decide +kernel
theorem dX9_init_100 : decode cX9_init 100 = .ok (.bipush 9, 2) := by decide +kernel
theorem dX9_init_102 : decode cX9_init 102 = .ok (.newarray .int, 2) := by decide +kernel
theorem dX9_init_104 : decode cX9_init 104 = .ok (.putfield 47, 3) := by decide +kernel
theorem dX9_init_107 : decode cX9_init 107 = .ok (.aload_n 0, 1) := by decide +kernel
theorem dX9_init_108 : decode cX9_init 108 = .ok (.bipush 9, 2) := by decide +kernel
theorem dX9_init_110 : decode cX9_init 110 = .ok (.newarray .int, 2) := by decide +kernel
theorem dX9_init_112 : decode cX9_init 112 = .ok (.putfield 50, 3) := by decide +kernel
theorem dX9_init_115 : decode cX9_init 115 = .ok (.aload_n 0, 1) := by decide +kernel
theorem dX9_init_116 : decode cX9_init 116 = .ok (.sipush 512, 3) := by decide +kernel
theorem dX9_init_119 : decode cX9_init 119 = .ok (.newarray .int, 2) := by decide +kernel
theorem dX9_init_121 : decode cX9_init 121 = .ok (.putfield 53, 3) := by decide +kernel
theorem dX9_init_124 : decode cX9_init 124 = .ok (.aload_n 0, 1) := by decide +kernel
theorem dX9_init_125 : decode cX9_init 125 = .ok (.bipush 20, 2) := by decide +kernel
theorem dX9_init_127 : decode cX9_init 127 = .ok (.newarray .int, 2) := by decide +kernel
theorem dX9_init_129 : decode cX9_init 129 = .ok (.putfield 56, 3) := by decide +kernel
theorem dX9_init_132 : decode cX9_init 132 = .ok (.aload_n 0, 1) := by decide +kernel
theorem dX9_init_133 : decode cX9_init 133 = .ok (.bipush 20, 2) := by decide +kernel
theorem dX9_init_135 : decode cX9_init 135 = .ok (.newarray .boolean, 2) := by decide +kernel
theorem dX9_init_137 : decode cX9_init 137 = .ok (.putfield 59, 3) := by decide +kernel
theorem dX9_init_140 : decode cX9_init 140 = .ok (.aload_n 0, 1) := by decide +kernel
theorem dX9_init_141 : decode cX9_init 141 = .ok (.sipush 162, 3) := by decide +kernel
theorem dX9_init_144 : decode cX9_init 144 = .ok (.newarray .int, 2) := by decide +kernel
theorem dX9_init_146 : decode cX9_init 146 = .ok (.putfield 62, 3) := by decide +kernel
theorem dX9_init_149 : decode cX9_init 149 = .ok (.aload_n 0, 1) := by decide +kernel
theorem dX9_init_150 : decode cX9_init 150 = .ok (.iconst 4, 1) := by decide +kernel
theorem dX9_init_151 : decode cX9_init 151 = .ok (.newarray .int, 2) := by decide +kernel
theorem dX9_init_153 : decode cX9_init 153 = .ok (.putfield 65, 3) := by decide +kernel
theorem dX9_init_156 : decode cX9_init 156 = .ok (.aload_n 0, 1) := by decide +kernel
theorem dX9_init_157 : decode cX9_init 157 = .ok (.iconst 4, 1) := by decide +kernel
theorem dX9_init_158 : decode cX9_init 158 = .ok (.newarray .int, 2) := by decide +kernel
theorem dX9_init_160 : decode cX9_init 160 = .ok (.putfield 68, 3) := by decide +kernel
theorem dX9_init_163 : decode cX9_init 163 = .ok (.aload_n 0, 1) := by decide +kernel
theorem dX9_init_164 : decode cX9_init 164 = .ok (.bipush 81, 2) := by decide +kernel
theorem dX9_init_166 : decode cX9_init 166 = .ok (.newarray .int, 2) := by decide +kernel
theorem dX9_init_168 : decode cX9_init 168 = .ok (.putfield 71, 3) := by decide +kernel
theorem dX9_init_171 : decode cX9_init 171 = .ok (.aload_n 0, 1) := by decide +kernel
theorem dX9_init_172 : decode cX9_init 172 = .ok (.invokevirtual 74, 3) := by decide +kernel
theorem dX9_init_175 : decode cX9_init 175 = .ok (.aload_n 0, 1) := by decide +kernel
theorem dX9_init_176 : decode cX9_init 176 = .ok (.invokevirtual 77, 3) := by decide +kernel
theorem dX9_init_179 : decode cX9_init 179 = .ok (.return_, 1) := by decide +kernel
theorem dX9_in_0 : decode cX9_in 0 = .ok (.iload_n 0, 1) := by decide +kernel
theorem dX9_in_1 : decode cX9_in 1 = .ok (.iload_n 1, 1) := by decide +kernel
theorem dX9_in_2 : decode cX9_in 2 = .ok (.if_icmp .lt 12, 3) := by decide +kernel
theorem dX9_in_5 : decode cX9_in 5 = .ok (.iload_n 0, 1) := by decide +kernel
theorem dX9_in_6 : decode cX9_in 6 = .ok (.iload_n 2, 1) := by decide +kernel
theorem dX9_in_7 : decode cX9_in 7 = .ok (.if_icmp .gt 7, 3) := by decide +kernel
theorem dX9_in_10 : decode cX9_in 10 = .ok (.iconst 1, 1) := by decide +kernel
theorem dX9_in_11 : decode cX9_in 11 = .ok (.goto 4, 3) := by decide +kernel
theorem dX9_in_14 : decode cX9_in 14 = .ok (.iconst 0, 1) := by decide +kernel
theorem dX9_in_15 : decode cX9_in 15 = .ok (.ireturn, 1) := by decide +kernel
theorem dX9_has_0 : decode cX9_has 0 = .ok (.iload_n 0, 1) := by decide +kernel
theorem dX9_has_1 : decode cX9_has 1 = .ok (.iload_n 1, 1) := by decide +kernel
theorem dX9_has_2 : decode cX9_has 2 = .ok (.ishr, 1) := by decide +kernel
theorem dX9_has_3 : decode cX9_has 3 = .ok (.iconst 1, 1) := by decide +kernel
theorem dX9_has_4 : decode cX9_has 4 = .ok (.iand, 1) := by decide +kernel
theorem dX9_has_5 : decode cX9_has 5 = .ok (.iconst 1, 1) := by decide +kernel
theorem dX9_has_6 : decode cX9_has 6 = .ok (.if_icmp .ne 7, 3) := by decide +kernel
theorem dX9_has_9 : decode cX9_has 9 = .ok (.iconst 1, 1) := by decide +kernel
theorem dX9_has_10 : decode cX9_has 10 = .ok (.goto 4, 3) := by decide +kernel
theorem dX9_has_13 : decode cX9_has 13 = .ok (.iconst 0, 1) := by decide +kernel
theorem dX9_has_14 : decode cX9_has 14 = .ok (.ireturn, 1) := by decide +kernel
theorem dX9_ones_0 : decode cX9_ones 0 = .ok (.iconst 0, 1) := by decide +kernel
theorem dX9_ones_1 : decode cX9_ones 1 = .ok (.istore_n 1, 1) := by decide +kernel
theorem dX9_ones_2 : decode cX9_ones 2 = .ok (.iload_n 0, 1) := by decide +kernel
theorem dX9_ones_3 : decode cX9_ones 3 = .ok (.istore_n 2, 1) := by decide +kernel
theorem dX9_ones_4 : decode cX9_ones 4 = .ok (.iload_n 2, 1) := by decide +kernel
theorem dX9_ones_5 : decode cX9_ones 5 = .ok (.ifCond .eq 15, 3) := by decide +kernel
theorem dX9_ones_8 : decode cX9_ones 8 = .ok (.iinc 1 1, 3) := by decide +kernel
theorem dX9_ones_11 : decode cX9_ones 11 = .ok (.iload_n 2, 1) := by decide +kernel
theorem dX9_ones_12 : decode cX9_ones 12 = .ok (.iload_n 2, 1) := by decide +kernel
theorem dX9_ones_13 : decode cX9_ones 13 = .ok (.iconst 1, 1) := by decide +kernel
theorem dX9_ones_14 : decode cX9_ones 14 = .ok (.isub, 1) := by decide +kernel
theorem dX9_ones_15 : decode cX9_ones 15 = .ok (.iand, 1) := by decide +kernel
theorem dX9_ones_16 : decode cX9_ones 16 = .ok (.istore_n 2, 1) := by decide +kernel
theorem dX9_ones_17 : decode cX9_ones 17 = .ok (.goto (-13), 3) := by decide +kernel
theorem dX9_ones_20 : decode cX9_ones 20 = .ok (.iload_n 1, 1) := by decide +kernel
theorem dX9_ones_21 : decode cX9_ones 21 = .ok (.ireturn, 1) := by decide +kernel
theorem dX9_lowest_0 : decode cX9_lowest 0 = .ok (.iconst 0, 1) := by decide +kernel
theorem dX9_lowest_1 : decode cX9_lowest 1 = .ok (.istore_n 1, 1) := by decide +kernel
theorem dX9_lowest_2 : decode cX9_lowest 2 = .ok (.iload_n 0, 1) := by decide +kernel
theorem dX9_lowest_3 : decode cX9_lowest 3 = .ok (.iload_n 1, 1) := by decide +kernel
theorem dX9_lowest_4 : decode cX9_lowest 4 = .ok (.invokestatic 84, 3) := by decide +kernel
theorem dX9_lowest_7 : decode cX9_lowest 7 = .ok (.ifCond .ne 9, 3) := by decide +kernel
theorem dX9_lowest_10 : decode cX9_lowest 10 = .ok (.iinc 1 1, 3) := by decide +kernel
theorem dX9_lowest_13 : decode cX9_lowest 13 = .ok (.goto (-11), 3) := by decide +kernel
theorem dX9_lowest_16 : decode cX9_lowest 16 = .ok (.iload_n 1, 1) := by decide +kernel
theorem dX9_lowest_17 : decode cX9_lowest 17 = .ok (.ireturn, 1) := by decide +kernel
theorem dX9_type_0 : decode cX9_type 0 = .ok (.aload_n 0, 1) := by decide +kernel
theorem dX9_type_1 : decode cX9_type 1 = .ok (.iconst 0, 1) := by decide +kernel
theorem dX9_type_2 : decode cX9_type 2 = .ok (.putfield 80, 3) := by decide +kernel
theorem dX9_type_5 : decode cX9_type 5 = .ok (.iload_n 1, 1) := by decide +kernel
theorem dX9_type_6 : decode cX9_type 6 = .ok (.iconst 0, 1) := by decide +kernel
theorem dX9_type_7 : decode cX9_type 7 = .ok (.sipush 255, 3) := by decide +kernel
theorem dX9_type_10 : decode cX9_type 10 = .ok (.invokestatic 88, 3) := by decide +kernel
theorem dX9_type_13 : decode cX9_type 13 = .ok (.ifCond .ne 5, 3) := by decide +kernel
theorem dX9_type_16 : decode cX9_type 16 = .ok (.iconst (-1), 1) := by decide +kernel
theorem dX9_type_17 : decode cX9_type 17 = .ok (.ireturn, 1) := by decide +kernel
theorem dX9_type_18 : decode cX9_type 18 = .ok (.aload_n 0, 1) := by decide +kernel
theorem dX9_type_19 : decode cX9_type 19 = .ok (.getfield 92, 3) := by decide +kernel
theorem dX9_type_22 : decode cX9_type 22 = .ok (.bipush 110, 2) := by decide +kernel
theorem dX9_type_24 : decode cX9_type 24 = .ok (.if_icmp .ne 6, 3) := by decide +kernel
theorem dX9_type_27 : decode cX9_type 27 = .ok (.bipush (-3), 2) := by decide +kernel
theorem dX9_type_29 : decode cX9_type 29 = .ok (.ireturn, 1) := by decide +kernel
theorem dX9_type_30 : decode cX9_type 30 = .ok (.aload_n 0, 1) := by decide +kernel
theorem dX9_type_31 : decode cX9_type 31 = .ok (.getfield 7, 3) := by decide +kernel
theorem dX9_type_34 : decode cX9_type 34 = .ok (.aload_n 0, 1) := by decide +kernel
theorem dX9_type_35 : decode cX9_type 35 = .ok (.getfield 92, 3) := by decide +kernel
theorem dX9_type_38 : decode cX9_type 38 = .ok (.iload_n 1, 1) := by decide +kernel
theorem dX9_type_39 : decode cX9_type 39 = .ok (.iastore, 1) := by decide +kernel
theorem dX9_type_40 : decode cX9_type 40 = .ok (.aload_n 0, 1) := by decide +kernel
theorem dX9_type_41 : decode cX9_type 41 = .ok (.dup, 1) := by decide +kernel
theorem dX9_type_42 : decode cX9_type 42 = .ok (.getfield 92, 3) := by decide +kernel
theorem dX9_type_45 : decode cX9_type 45 = .ok (.iconst 1, 1) := by decide +kernel
theorem dX9_type_46 : decode cX9_type 46 = .ok (.iadd, 1) := by decide +kernel
theorem dX9_type_47 : decode cX9_type 47 = .ok (.putfield 92, 3) := by decide +kernel
theorem dX9_type_50 : decode cX9_type 50 = .ok (.aload_n 0, 1) := by decide +kernel
theorem dX9_type_51 : decode cX9_type 51 = .ok (.getfield 92, 3) := by decide +kernel
theorem dX9_type_54 : decode cX9_type 54 = .ok (.ireturn, 1) := by decide +kernel
theorem dX9_clear_0 : decode cX9_clear 0 = .ok (.aload_n 0, 1) := by decide +kernel
theorem dX9_clear_1 : decode cX9_clear 1 = .ok (.iconst 0, 1) := by decide +kernel
theorem dX9_clear_2 : decode cX9_clear 2 = .ok (.putfield 80, 3) := by decide +kernel
theorem dX9_clear_5 : decode cX9_clear 5 = .ok (.aload_n 0, 1) := by decide +kernel
theorem dX9_clear_6 : decode cX9_clear 6 = .ok (.getfield 92, 3) := by decide +kernel
theorem dX9_clear_9 : decode cX9_clear 9 = .ok (.istore_n 1, 1) := by decide +kernel
theorem dX9_clear_10 : decode cX9_clear 10 = .ok (.aload_n 0, 1) := by decide +kernel
theorem dX9_clear_11 : decode cX9_clear 11 = .ok (.iconst 0, 1) := by decide +kernel
theorem dX9_clear_12 : decode cX9_clear 12 = .ok (.putfield 92, 3) := by decide +kernel
theorem dX9_clear_15 : decode cX9_clear 15 = .ok (.iload_n 1, 1) := by decide +kernel
theorem dX9_clear_16 : decode cX9_clear 16 = .ok (.ireturn, 1) := by decide +kernel
theorem dX9_letterAt_0 : decode cX9_letterAt 0 = .ok (.iload_n 1, 1) := by decide +kernel
theorem dX9_letterAt_1 : decode cX9_letterAt 1 = .ok (.aload_n 0, 1) := by decide +kernel
theorem dX9_letterAt_2 : decode cX9_letterAt 2 = .ok (.getfield 92, 3) := by decide +kernel
theorem dX9_letterAt_5 : decode cX9_letterAt 5 = .ok (.if_icmp .ge 12, 3) := by decide +kernel
theorem dX9_letterAt_8 : decode cX9_letterAt 8 = .ok (.aload_n 0, 1) := by decide +kernel
theorem dX9_letterAt_9 : decode cX9_letterAt 9 = .ok (.getfield 7, 3) := by decide +kernel
theorem dX9_letterAt_12 : decode cX9_letterAt 12 = .ok (.iload_n 1, 1) := by decide +kernel
theorem dX9_letterAt_13 : decode cX9_letterAt 13 = .ok (.iaload, 1) := by decide +kernel
theorem dX9_letterAt_14 : decode cX9_letterAt 14 = .ok (.goto 4, 3) := by decide +kernel
theorem dX9_letterAt_17 : decode cX9_letterAt 17 = .ok (.iconst (-1), 1) := by decide +kernel
theorem dX9_letterAt_18 : decode cX9_letterAt 18 = .ok (.ireturn, 1) := by decide +kernel
theorem dX9_advances_0 : decode cX9_advances 0 = .ok (.aload_n 0, 1) := by decide +kernel
theorem dX9_advances_1 : decode cX9_advances 1 = .ok (.aload_n 0, 1) := by decide +kernel
theorem dX9_advances_2 : decode cX9_advances 2 = .ok (.getfield 95, 3) := by decide +kernel
theorem dX9_advances_5 : decode cX9_advances 5 = .ok (.invokevirtual 98, 3) := by decide +kernel
theorem dX9_advances_8 : decode cX9_advances 8 = .ok (.bipush 32, 2) := by decide +kernel
theorem dX9_advances_10 : decode cX9_advances 10 = .ok (.if_icmp .ne 16, 3) := by decide +kernel
theorem dX9_advances_13 : decode cX9_advances 13 = .ok (.aload_n 0, 1) := by decide +kernel
theorem dX9_advances_14 : decode cX9_advances 14 = .ok (.dup, 1) := by decide +kernel
theorem dX9_advances_15 : decode cX9_advances 15 = .ok (.getfield 95, 3) := by decide +kernel
theorem dX9_advances_18 : decode cX9_advances 18 = .ok (.iconst 1, 1) := by decide +kernel
theorem dX9_advances_19 : decode cX9_advances 19 = .ok (.iadd, 1) := by decide +kernel
theorem dX9_advances_20 : decode cX9_advances 20 = .ok (.putfield 95, 3) := by decide +kernel
theorem dX9_advances_23 : decode cX9_advances 23 = .ok (.goto (-23), 3) := by decide +kernel
theorem dX9_advances_26 : decode cX9_advances 26 = .ok (.aload_n 0, 1) := by decide +kernel
theorem dX9_advances_27 : decode cX9_advances 27 = .ok (.aload_n 0, 1) := by decide +kernel
theorem dX9_advances_28 : decode cX9_advances 28 = .ok (.getfield 95, 3) := by decide +kernel
theorem dX9_advances_31 : decode cX9_advances 31 = .ok (.putfield 102, 3) := by decide +kernel
theorem dX9_advances_34 : decode cX9_advances 34 = .ok (.aload_n 0, 1) := by decide +kernel
theorem dX9_advances_35 : decode cX9_advances 35 = .ok (.aload_n 0, 1) := by decide +kernel
theorem dX9_advances_36 : decode cX9_advances 36 = .ok (.getfield 95, 3) := by decide +kernel
theorem dX9_advances_39 : decode cX9_advances 39 = .ok (.invokevirtual 98, 3) := by decide +kernel
theorem dX9_advances_42 : decode cX9_advances 42 = .ok (.istore_n 1, 1) := by decide +kernel
theorem dX9_advances_43 : decode cX9_advances 43 = .ok (.iload_n 1, 1) := by decide +kernel
theorem dX9_advances_44 : decode cX9_advances 44 = .ok (.ifCond .ge 11, 3) := by decide +kernel
theorem dX9_advances_47 : decode cX9_advances 47 = .ok (.aload_n 0, 1) := by decide +kernel
theorem dX9_advances_48 : decode cX9_advances 48 = .ok (.iconst 0, 1) := by decide +kernel
theorem dX9_advances_49 : decode cX9_advances 49 = .ok (.putfield 105, 3) := by decide +kernel
theorem dX9_advances_52 : decode cX9_advances 52 = .ok (.goto 187, 3) := by decide +kernel
theorem dX9_advances_55 : decode cX9_advances 55 = .ok (.iload_n 1, 1) := by decide +kernel
theorem dX9_advances_56 : decode cX9_advances 56 = .ok (.bipush 48, 2) := by decide +kernel
theorem dX9_advances_58 : decode cX9_advances 58 = .ok (.bipush 57, 2) := by decide +kernel
theorem dX9_advances_60 : decode cX9_advances 60 = .ok (.invokestatic 88, 3) := by decide +kernel
theorem dX9_advances_63 : decode cX9_advances 63 = .ok (.ifCond .eq 118, 3) := by decide +kernel
theorem dX9_advances_66 : decode cX9_advances 66 = .ok (.aload_n 0, 1) := by decide +kernel
theorem dX9_advances_67 : decode cX9_advances 67 = .ok (.iconst 0, 1) := by decide +kernel
theorem dX9_advances_68 : decode cX9_advances 68 = .ok (.putfield 108, 3) := by decide +kernel
theorem dX9_advances_71 : decode cX9_advances 71 = .ok (.aload_n 0, 1) := by decide +kernel
theorem dX9_advances_72 : decode cX9_advances 72 = .ok (.aload_n 0, 1) := by decide +kernel
theorem dX9_advances_73 : decode cX9_advances 73 = .ok (.getfield 95, 3) := by decide +kernel
theorem dX9_advances_76 : decode cX9_advances 76 = .ok (.invokevirtual 98, 3) := by decide +kernel
theorem dX9_advances_79 : decode cX9_advances 79 = .ok (.bipush 48, 2) := by decide +kernel
theorem dX9_advances_81 : decode cX9_advances 81 = .ok (.bipush 57, 2) := by decide +kernel
theorem dX9_advances_83 : decode cX9_advances 83 = .ok (.invokestatic 88, 3) := by decide +kernel
theorem dX9_advances_86 : decode cX9_advances 86 = .ok (.ifCond .eq 55, 3) := by decide +kernel
theorem dX9_advances_89 : decode cX9_advances 89 = .ok (.aload_n 0, 1) := by decide +kernel
theorem dX9_advances_90 : decode cX9_advances 90 = .ok (.aload_n 0, 1) := by decide +kernel
theorem dX9_advances_91 : decode cX9_advances 91 = .ok (.getfield 108, 3) := by decide +kernel
theorem dX9_advances_94 : decode cX9_advances 94 = .ok (.bipush 99, 2) := by decide +kernel
theorem dX9_advances_96 : decode cX9_advances 96 = .ok (.if_icmp .le 10, 3) := by decide +kernel
theorem dX9_advances_99 : decode cX9_advances 99 = .ok (.aload_n 0, 1) := by decide +kernel
theorem dX9_advances_100 : decode cX9_advances 100 = .ok (.getfield 108, 3) := by decide +kernel
theorem dX9_advances_103 : decode cX9_advances 103 = .ok (.goto 22, 3) := by decide +kernel
theorem dX9_advances_106 : decode cX9_advances 106 = .ok (.bipush 10, 2) := by decide +kernel
theorem dX9_advances_108 : decode cX9_advances 108 = .ok (.aload_n 0, 1) := by decide +kernel
theorem dX9_advances_109 : decode cX9_advances 109 = .ok (.getfield 108, 3) := by decide +kernel
theorem dX9_advances_112 : decode cX9_advances 112 = .ok (.imul, 1) := by decide +kernel
theorem dX9_advances_113 : decode cX9_advances 113 = .ok (.aload_n 0, 1) := by decide +kernel
theorem dX9_advances_114 : decode cX9_advances 114 = .ok (.aload_n 0, 1) := by decide +kernel
theorem dX9_advances_115 : decode cX9_advances 115 = .ok (.getfield 95, 3) := by decide +kernel
theorem dX9_advances_118 : decode cX9_advances 118 = .ok (.invokevirtual 98, 3) := by decide +kernel
theorem dX9_advances_121 : decode cX9_advances 121 = .ok (.iadd, 1) := by decide +kernel
theorem dX9_advances_122 : decode cX9_advances 122 = .ok (.bipush 48, 2) := by decide +kernel
theorem dX9_advances_124 : decode cX9_advances 124 = .ok (.isub, 1) := by decide +kernel
theorem dX9_advances_125 : decode cX9_advances 125 = .ok (.putfield 108, 3) := by decide +kernel
theorem dX9_advances_128 : decode cX9_advances 128 = .ok (.aload_n 0, 1) := by decide +kernel
theorem dX9_advances_129 : decode cX9_advances 129 = .ok (.dup, 1) := by decide +kernel
theorem dX9_advances_130 : decode cX9_advances 130 = .ok (.getfield 95, 3) := by decide +kernel
theorem dX9_advances_133 : decode cX9_advances 133 = .ok (.iconst 1, 1) := by decide +kernel
theorem dX9_advances_134 : decode cX9_advances 134 = .ok (.iadd, 1) := by decide +kernel
theorem dX9_advances_135 : decode cX9_advances 135 = .ok (.putfield 95, 3) := by decide +kernel
theorem dX9_advances_138 : decode cX9_advances 138 = .ok (.goto (-67), 3) := by decide +kernel
theorem dX9_advances_141 : decode cX9_advances 141 = .ok (.aload_n 0, 1) := by decide +kernel
theorem dX9_advances_142 : decode cX9_advances 142 = .ok (.aload_n 0, 1) := by decide +kernel
theorem dX9_advances_143 : decode cX9_advances 143 = .ok (.getfield 108, 3) := by decide +kernel
theorem dX9_advances_146 : decode cX9_advances 146 = .ok (.bipush 99, 2) := by decide +kernel
theorem dX9_advances_148 : decode cX9_advances 148 = .ok (.if_icmp .gt 22, 3) := by decide +kernel
theorem dX9_advances_151 : decode cX9_advances 151 = .ok (.iload_n 1, 1) := by decide +kernel
theorem dX9_advances_152 : decode cX9_advances 152 = .ok (.bipush 48, 2) := by decide +kernel
theorem dX9_advances_154 : decode cX9_advances 154 = .ok (.if_icmp .ne 20, 3) := by decide +kernel
theorem dX9_advances_157 : decode cX9_advances 157 = .ok (.aload_n 0, 1) := by decide +kernel
theorem dX9_advances_158 : decode cX9_advances 158 = .ok (.getfield 95, 3) := by decide +kernel
theorem dX9_advances_161 : decode cX9_advances 161 = .ok (.aload_n 0, 1) := by decide +kernel
theorem dX9_advances_162 : decode cX9_advances 162 = .ok (.getfield 102, 3) := by decide +kernel
theorem dX9_advances_165 : decode cX9_advances 165 = .ok (.isub, 1) := by decide +kernel
theorem dX9_advances_166 : decode cX9_advances 166 = .ok (.iconst 1, 1) := by decide +kernel
theorem dX9_advances_167 : decode cX9_advances 167 = .ok (.if_icmp .le 7, 3) := by decide +kernel
theorem dX9_advances_170 : decode cX9_advances 170 = .ok (.iconst 4, 1) := by decide +kernel
theorem dX9_advances_171 : decode cX9_advances 171 = .ok (.goto 4, 3) := by decide +kernel
theorem dX9_advances_174 : decode cX9_advances 174 = .ok (.iconst 2, 1) := by decide +kernel
theorem dX9_advances_175 : decode cX9_advances 175 = .ok (.putfield 105, 3) := by decide +kernel
theorem dX9_advances_178 : decode cX9_advances 178 = .ok (.goto 61, 3) := by decide +kernel
theorem dX9_advances_181 : decode cX9_advances 181 = .ok (.aload_n 0, 1) := by decide +kernel
theorem dX9_advances_182 : decode cX9_advances 182 = .ok (.dup, 1) := by decide +kernel
theorem dX9_advances_183 : decode cX9_advances 183 = .ok (.getfield 95, 3) := by decide +kernel
theorem dX9_advances_186 : decode cX9_advances 186 = .ok (.iconst 1, 1) := by decide +kernel
theorem dX9_advances_187 : decode cX9_advances 187 = .ok (.iadd, 1) := by decide +kernel
theorem dX9_advances_188 : decode cX9_advances 188 = .ok (.putfield 95, 3) := by decide +kernel
theorem dX9_advances_191 : decode cX9_advances 191 = .ok (.aload_n 0, 1) := by decide +kernel
theorem dX9_advances_192 : decode cX9_advances 192 = .ok (.iload_n 1, 1) := by decide +kernel
theorem dX9_advances_193 : decode cX9_advances 193 = .ok (.putfield 108, 3) := by decide +kernel
theorem dX9_advances_196 : decode cX9_advances 196 = .ok (.aload_n 0, 1) := by decide +kernel
theorem dX9_advances_197 : decode cX9_advances 197 = .ok (.iload_n 1, 1) := by decide +kernel
theorem dX9_advances_198 : decode cX9_advances 198 = .ok (.bipush 59, 2) := by decide +kernel
theorem dX9_advances_200 : decode cX9_advances 200 = .ok (.if_icmp .ne 7, 3) := by decide +kernel
theorem dX9_advances_203 : decode cX9_advances 203 = .ok (.iconst 3, 1) := by decide +kernel
theorem dX9_advances_204 : decode cX9_advances 204 = .ok (.goto 32, 3) := by decide +kernel
theorem dX9_advances_207 : decode cX9_advances 207 = .ok (.iload_n 1, 1) := by decide +kernel
theorem dX9_advances_208 : decode cX9_advances 208 = .ok (.bipush 104, 2) := by decide +kernel
theorem dX9_advances_210 : decode cX9_advances 210 = .ok (.if_icmp .eq 21, 3) := by decide +kernel
theorem dX9_advances_213 : decode cX9_advances 213 = .ok (.iload_n 1, 1) := by decide +kernel
theorem dX9_advances_214 : decode cX9_advances 214 = .ok (.bipush 107, 2) := by decide +kernel
theorem dX9_advances_216 : decode cX9_advances 216 = .ok (.if_icmp .eq 15, 3) := by decide +kernel
theorem dX9_advances_219 : decode cX9_advances 219 = .ok (.iload_n 1, 1) := by decide +kernel
theorem dX9_advances_220 : decode cX9_advances 220 = .ok (.bipush 112, 2) := by decide +kernel
theorem dX9_advances_222 : decode cX9_advances 222 = .ok (.if_icmp .eq 9, 3) := by decide +kernel
theorem dX9_advances_225 : decode cX9_advances 225 = .ok (.iload_n 1, 1) := by decide +kernel
theorem dX9_advances_226 : decode cX9_advances 226 = .ok (.bipush 115, 2) := by decide +kernel
theorem dX9_advances_228 : decode cX9_advances 228 = .ok (.if_icmp .ne 7, 3) := by decide +kernel
theorem dX9_advances_231 : decode cX9_advances 231 = .ok (.iconst 1, 1) := by decide +kernel
theorem dX9_advances_232 : decode cX9_advances 232 = .ok (.goto 4, 3) := by decide +kernel
theorem dX9_advances_235 : decode cX9_advances 235 = .ok (.iconst 4, 1) := by decide +kernel
theorem dX9_advances_236 : decode cX9_advances 236 = .ok (.putfield 105, 3) := by decide +kernel
theorem dX9_advances_239 : decode cX9_advances 239 = .ok (.return_, 1) := by decide +kernel
theorem dX9_isWell_0 : decode cX9_isWell 0 = .ok (.aload_n 0, 1) := by decide +kernel
theorem dX9_isWell_1 : decode cX9_isWell 1 = .ok (.getfield 111, 3) := by decide +kernel
theorem dX9_isWell_4 : decode cX9_isWell 4 = .ok (.ifCond .ge 7, 3) := by decide +kernel
theorem dX9_isWell_7 : decode cX9_isWell 7 = .ok (.iconst 1, 1) := by decide +kernel
theorem dX9_isWell_8 : decode cX9_isWell 8 = .ok (.goto 4, 3) := by decide +kernel
theorem dX9_isWell_11 : decode cX9_isWell 11 = .ok (.iconst 0, 1) := by decide +kernel
theorem dX9_isWell_12 : decode cX9_isWell 12 = .ok (.ireturn, 1) := by decide +kernel
theorem dX9_takes_0 : decode cX9_takes 0 = .ok (.aload_n 0, 1) := by decide +kernel
theorem dX9_takes_1 : decode cX9_takes 1 = .ok (.invokevirtual 114, 3) := by decide +kernel
theorem dX9_takes_4 : decode cX9_takes 4 = .ok (.ifCond .ne 5, 3) := by decide +kernel
theorem dX9_takes_7 : decode cX9_takes 7 = .ok (.iconst 0, 1) := by decide +kernel
theorem dX9_takes_8 : decode cX9_takes 8 = .ok (.ireturn, 1) := by decide +kernel
theorem dX9_takes_9 : decode cX9_takes 9 = .ok (.iload_n 1, 1) := by decide +kernel
theorem dX9_takes_10 : decode cX9_takes 10 = .ok (.ifCond .ne 13, 3) := by decide +kernel
theorem dX9_takes_13 : decode cX9_takes 13 = .ok (.aload_n 0, 1) := by decide +kernel
theorem dX9_takes_14 : decode cX9_takes 14 = .ok (.aload_n 0, 1) := by decide +kernel
theorem dX9_takes_15 : decode cX9_takes 15 = .ok (.getfield 102, 3) := by decide +kernel
theorem dX9_takes_18 : decode cX9_takes 18 = .ok (.putfield 111, 3) := by decide +kernel
theorem dX9_takes_21 : decode cX9_takes 21 = .ok (.iconst 0, 1) := by decide +kernel
theorem dX9_takes_22 : decode cX9_takes 22 = .ok (.ireturn, 1) := by decide +kernel
theorem dX9_takes_23 : decode cX9_takes 23 = .ok (.aload_n 0, 1) := by decide +kernel
theorem dX9_takes_24 : decode cX9_takes 24 = .ok (.getfield 108, 3) := by decide +kernel
theorem dX9_takes_27 : decode cX9_takes 27 = .ok (.istore_n 2, 1) := by decide +kernel
theorem dX9_takes_28 : decode cX9_takes 28 = .ok (.aload_n 0, 1) := by decide +kernel
theorem dX9_takes_29 : decode cX9_takes 29 = .ok (.invokevirtual 118, 3) := by decide +kernel
theorem dX9_takes_32 : decode cX9_takes 32 = .ok (.iload_n 2, 1) := by decide +kernel
theorem dX9_takes_33 : decode cX9_takes 33 = .ok (.ireturn, 1) := by decide +kernel
theorem dX9_isNumber_0 : decode cX9_isNumber 0 = .ok (.aload_n 0, 1) := by decide +kernel
theorem dX9_isNumber_1 : decode cX9_isNumber 1 = .ok (.getfield 105, 3) := by decide +kernel
theorem dX9_isNumber_4 : decode cX9_isNumber 4 = .ok (.iconst 2, 1) := by decide +kernel
theorem dX9_isNumber_5 : decode cX9_isNumber 5 = .ok (.if_icmp .ne 19, 3) := by decide +kernel
theorem dX9_isNumber_8 : decode cX9_isNumber 8 = .ok (.aload_n 0, 1) := by decide +kernel
theorem dX9_isNumber_9 : decode cX9_isNumber 9 = .ok (.getfield 108, 3) := by decide +kernel
theorem dX9_isNumber_12 : decode cX9_isNumber 12 = .ok (.iload_n 1, 1) := by decide +kernel
theorem dX9_isNumber_13 : decode cX9_isNumber 13 = .ok (.iload_n 2, 1) := by decide +kernel
theorem dX9_isNumber_14 : decode cX9_isNumber 14 = .ok (.invokestatic 88, 3) := by decide +kernel
theorem dX9_isNumber_17 : decode cX9_isNumber 17 = .ok (.ifCond .eq 7, 3) := by decide +kernel
theorem dX9_isNumber_20 : decode cX9_isNumber 20 = .ok (.iconst 1, 1) := by decide +kernel
theorem dX9_isNumber_21 : decode cX9_isNumber 21 = .ok (.goto 4, 3) := by decide +kernel
theorem dX9_isNumber_24 : decode cX9_isNumber 24 = .ok (.iconst 0, 1) := by decide +kernel
theorem dX9_isNumber_25 : decode cX9_isNumber 25 = .ok (.ireturn, 1) := by decide +kernel
theorem dX9_begins_0 : decode cX9_begins 0 = .ok (.iconst 0, 1) := by decide +kernel
theorem dX9_begins_1 : decode cX9_begins 1 = .ok (.istore_n 1, 1) := by decide +kernel
theorem dX9_begins_2 : decode cX9_begins 2 = .ok (.iload_n 1, 1) := by decide +kernel
theorem dX9_begins_3 : decode cX9_begins 3 = .ok (.bipush 74, 2) := by decide +kernel
theorem dX9_begins_5 : decode cX9_begins 5 = .ok (.if_icmp .ge 16, 3) := by decide +kernel
theorem dX9_begins_8 : decode cX9_begins 8 = .ok (.aload_n 0, 1) := by decide +kernel
theorem dX9_begins_9 : decode cX9_begins 9 = .ok (.getfield 16, 3) := by decide +kernel
theorem dX9_begins_12 : decode cX9_begins 12 = .ok (.iload_n 1, 1) := by decide +kernel
theorem dX9_begins_13 : decode cX9_begins 13 = .ok (.iconst 0, 1) := by decide +kernel
theorem dX9_begins_14 : decode cX9_begins 14 = .ok (.iastore, 1) := by decide +kernel
theorem dX9_begins_15 : decode cX9_begins 15 = .ok (.iinc 1 1, 3) := by decide +kernel
theorem dX9_begins_18 : decode cX9_begins 18 = .ok (.goto (-16), 3) := by decide +kernel
theorem dX9_begins_21 : decode cX9_begins 21 = .ok (.aload_n 0, 1) := by decide +kernel
theorem dX9_begins_22 : decode cX9_begins 22 = .ok (.iconst 0, 1) := by decide +kernel
theorem dX9_begins_23 : decode cX9_begins 23 = .ok (.putfield 121, 3) := by decide +kernel
theorem dX9_begins_26 : decode cX9_begins 26 = .ok (.return_, 1) := by decide +kernel
theorem dX9_cutOf_0 : decode cX9_cutOf 0 = .ok (.iconst (-1), 1) := by decide +kernel
theorem dX9_cutOf_1 : decode cX9_cutOf 1 = .ok (.istore_n 3, 1) := by decide +kernel
theorem dX9_cutOf_2 : decode cX9_cutOf 2 = .ok (.iconst 0, 1) := by decide +kernel
theorem dX9_cutOf_3 : decode cX9_cutOf 3 = .ok (.istore 4, 2) := by decide +kernel
theorem dX9_cutOf_5 : decode cX9_cutOf 5 = .ok (.iload 4, 2) := by decide +kernel
theorem dX9_cutOf_7 : decode cX9_cutOf 7 = .ok (.aload_n 0, 1) := by decide +kernel
theorem dX9_cutOf_8 : decode cX9_cutOf 8 = .ok (.iconst 1, 1) := by decide +kernel
theorem dX9_cutOf_9 : decode cX9_cutOf 9 = .ok (.iaload, 1) := by decide +kernel
theorem dX9_cutOf_10 : decode cX9_cutOf 10 = .ok (.if_icmp .ge 72, 3) := by decide +kernel
theorem dX9_cutOf_13 : decode cX9_cutOf 13 = .ok (.aload_n 0, 1) := by decide +kernel
theorem dX9_cutOf_14 : decode cX9_cutOf 14 = .ok (.bipush 22, 2) := by decide +kernel
theorem dX9_cutOf_16 : decode cX9_cutOf 16 = .ok (.iload 4, 2) := by decide +kernel
theorem dX9_cutOf_18 : decode cX9_cutOf 18 = .ok (.iadd, 1) := by decide +kernel
theorem dX9_cutOf_19 : decode cX9_cutOf 19 = .ok (.iaload, 1) := by decide +kernel
theorem dX9_cutOf_20 : decode cX9_cutOf 20 = .ok (.iload_n 1, 1) := by decide +kernel
theorem dX9_cutOf_21 : decode cX9_cutOf 21 = .ok (.if_icmp .ne 14, 3) := by decide +kernel
theorem dX9_cutOf_24 : decode cX9_cutOf 24 = .ok (.aload_n 0, 1) := by decide +kernel
theorem dX9_cutOf_25 : decode cX9_cutOf 25 = .ok (.bipush 36, 2) := by decide +kernel
theorem dX9_cutOf_27 : decode cX9_cutOf 27 = .ok (.iload 4, 2) := by decide +kernel
theorem dX9_cutOf_29 : decode cX9_cutOf 29 = .ok (.iadd, 1) := by decide +kernel
theorem dX9_cutOf_30 : decode cX9_cutOf 30 = .ok (.iaload, 1) := by decide +kernel
theorem dX9_cutOf_31 : decode cX9_cutOf 31 = .ok (.iload_n 2, 1) := by decide +kernel
theorem dX9_cutOf_32 : decode cX9_cutOf 32 = .ok (.if_icmp .eq 25, 3) := by decide +kernel
theorem dX9_cutOf_35 : decode cX9_cutOf 35 = .ok (.aload_n 0, 1) := by decide +kernel
theorem dX9_cutOf_36 : decode cX9_cutOf 36 = .ok (.bipush 22, 2) := by decide +kernel
theorem dX9_cutOf_38 : decode cX9_cutOf 38 = .ok (.iload 4, 2) := by decide +kernel
theorem dX9_cutOf_40 : decode cX9_cutOf 40 = .ok (.iadd, 1) := by decide +kernel
theorem dX9_cutOf_41 : decode cX9_cutOf 41 = .ok (.iaload, 1) := by decide +kernel
theorem dX9_cutOf_42 : decode cX9_cutOf 42 = .ok (.iload_n 2, 1) := by decide +kernel
theorem dX9_cutOf_43 : decode cX9_cutOf 43 = .ok (.if_icmp .ne 18, 3) := by decide +kernel
theorem dX9_cutOf_46 : decode cX9_cutOf 46 = .ok (.aload_n 0, 1) := by decide +kernel
theorem dX9_cutOf_47 : decode cX9_cutOf 47 = .ok (.bipush 36, 2) := by decide +kernel
theorem dX9_cutOf_49 : decode cX9_cutOf 49 = .ok (.iload 4, 2) := by decide +kernel
theorem dX9_cutOf_51 : decode cX9_cutOf 51 = .ok (.iadd, 1) := by decide +kernel
theorem dX9_cutOf_52 : decode cX9_cutOf 52 = .ok (.iaload, 1) := by decide +kernel
theorem dX9_cutOf_53 : decode cX9_cutOf 53 = .ok (.iload_n 1, 1) := by decide +kernel
theorem dX9_cutOf_54 : decode cX9_cutOf 54 = .ok (.if_icmp .ne 7, 3) := by decide +kernel
theorem dX9_cutOf_57 : decode cX9_cutOf 57 = .ok (.iconst 1, 1) := by decide +kernel
theorem dX9_cutOf_58 : decode cX9_cutOf 58 = .ok (.goto 4, 3) := by decide +kernel
theorem dX9_cutOf_61 : decode cX9_cutOf 61 = .ok (.iconst 0, 1) := by decide +kernel
theorem dX9_cutOf_62 : decode cX9_cutOf 62 = .ok (.istore 5, 2) := by decide +kernel
theorem dX9_cutOf_64 : decode cX9_cutOf 64 = .ok (.iload 5, 2) := by decide +kernel
theorem dX9_cutOf_66 : decode cX9_cutOf 66 = .ok (.ifCond .eq 8, 3) := by decide +kernel
theorem dX9_cutOf_69 : decode cX9_cutOf 69 = .ok (.iload 4, 2) := by decide +kernel
theorem dX9_cutOf_71 : decode cX9_cutOf 71 = .ok (.goto 4, 3) := by decide +kernel
theorem dX9_cutOf_74 : decode cX9_cutOf 74 = .ok (.iload_n 3, 1) := by decide +kernel
theorem dX9_cutOf_75 : decode cX9_cutOf 75 = .ok (.istore_n 3, 1) := by decide +kernel
theorem dX9_cutOf_76 : decode cX9_cutOf 76 = .ok (.iinc 4 1, 3) := by decide +kernel
theorem dX9_cutOf_79 : decode cX9_cutOf 79 = .ok (.goto (-74), 3) := by decide +kernel
theorem dX9_cutOf_82 : decode cX9_cutOf 82 = .ok (.iload_n 3, 1) := by decide +kernel
theorem dX9_cutOf_83 : decode cX9_cutOf 83 = .ok (.ireturn, 1) := by decide +kernel
theorem dX9_hasRoom_0 : decode cX9_hasRoom 0 = .ok (.aload_n 0, 1) := by decide +kernel
theorem dX9_hasRoom_1 : decode cX9_hasRoom 1 = .ok (.getfield 16, 3) := by decide +kernel
theorem dX9_hasRoom_4 : decode cX9_hasRoom 4 = .ok (.iload_n 1, 1) := by decide +kernel
theorem dX9_hasRoom_5 : decode cX9_hasRoom 5 = .ok (.iload_n 2, 1) := by decide +kernel
theorem dX9_hasRoom_6 : decode cX9_hasRoom 6 = .ok (.invokestatic 125, 3) := by decide +kernel
theorem dX9_hasRoom_9 : decode cX9_hasRoom 9 = .ok (.ifCond .ge 14, 3) := by decide +kernel
theorem dX9_hasRoom_12 : decode cX9_hasRoom 12 = .ok (.aload_n 0, 1) := by decide +kernel
theorem dX9_hasRoom_13 : decode cX9_hasRoom 13 = .ok (.getfield 16, 3) := by decide +kernel
theorem dX9_hasRoom_16 : decode cX9_hasRoom 16 = .ok (.iconst 1, 1) := by decide +kernel
theorem dX9_hasRoom_17 : decode cX9_hasRoom 17 = .ok (.iaload, 1) := by decide +kernel
theorem dX9_hasRoom_18 : decode cX9_hasRoom 18 = .ok (.bipush 14, 2) := by decide +kernel
theorem dX9_hasRoom_20 : decode cX9_hasRoom 20 = .ok (.if_icmp .ge 7, 3) := by decide +kernel
theorem dX9_hasRoom_23 : decode cX9_hasRoom 23 = .ok (.iconst 1, 1) := by decide +kernel
theorem dX9_hasRoom_24 : decode cX9_hasRoom 24 = .ok (.goto 4, 3) := by decide +kernel
theorem dX9_hasRoom_27 : decode cX9_hasRoom 27 = .ok (.iconst 0, 1) := by decide +kernel
theorem dX9_hasRoom_28 : decode cX9_hasRoom 28 = .ok (.ireturn, 1) := by decide +kernel
theorem dX9_cuts_0 : decode cX9_cuts 0 = .ok (.aload_n 0, 1) := by decide +kernel
theorem dX9_cuts_1 : decode cX9_cuts 1 = .ok (.invokevirtual 114, 3) := by decide +kernel
theorem dX9_cuts_4 : decode cX9_cuts 4 = .ok (.ifCond .eq 70, 3) := by decide +kernel
theorem dX9_cuts_7 : decode cX9_cuts 7 = .ok (.aload_n 0, 1) := by decide +kernel
theorem dX9_cuts_8 : decode cX9_cuts 8 = .ok (.getfield 16, 3) := by decide +kernel
theorem dX9_cuts_11 : decode cX9_cuts 11 = .ok (.iload_n 1, 1) := by decide +kernel
theorem dX9_cuts_12 : decode cX9_cuts 12 = .ok (.iload_n 2, 1) := by decide +kernel
theorem dX9_cuts_13 : decode cX9_cuts 13 = .ok (.invokestatic 125, 3) := by decide +kernel
theorem dX9_cuts_16 : decode cX9_cuts 16 = .ok (.ifCond .ge 58, 3) := by decide +kernel
theorem dX9_cuts_19 : decode cX9_cuts 19 = .ok (.aload_n 0, 1) := by decide +kernel
theorem dX9_cuts_20 : decode cX9_cuts 20 = .ok (.getfield 16, 3) := by decide +kernel
theorem dX9_cuts_23 : decode cX9_cuts 23 = .ok (.iconst 1, 1) := by decide +kernel
theorem dX9_cuts_24 : decode cX9_cuts 24 = .ok (.iaload, 1) := by decide +kernel
theorem dX9_cuts_25 : decode cX9_cuts 25 = .ok (.istore_n 3, 1) := by decide +kernel
theorem dX9_cuts_26 : decode cX9_cuts 26 = .ok (.aload_n 0, 1) := by decide +kernel
theorem dX9_cuts_27 : decode cX9_cuts 27 = .ok (.getfield 16, 3) := by decide +kernel
theorem dX9_cuts_30 : decode cX9_cuts 30 = .ok (.bipush 22, 2) := by decide +kernel
theorem dX9_cuts_32 : decode cX9_cuts 32 = .ok (.iload_n 3, 1) := by decide +kernel
theorem dX9_cuts_33 : decode cX9_cuts 33 = .ok (.iadd, 1) := by decide +kernel
theorem dX9_cuts_34 : decode cX9_cuts 34 = .ok (.iload_n 1, 1) := by decide +kernel
theorem dX9_cuts_35 : decode cX9_cuts 35 = .ok (.iload_n 2, 1) := by decide +kernel
theorem dX9_cuts_36 : decode cX9_cuts 36 = .ok (.if_icmp .ge 7, 3) := by decide +kernel
theorem dX9_cuts_39 : decode cX9_cuts 39 = .ok (.iload_n 1, 1) := by decide +kernel
theorem dX9_cuts_40 : decode cX9_cuts 40 = .ok (.goto 4, 3) := by decide +kernel
theorem dX9_cuts_43 : decode cX9_cuts 43 = .ok (.iload_n 2, 1) := by decide +kernel
theorem dX9_cuts_44 : decode cX9_cuts 44 = .ok (.iastore, 1) := by decide +kernel
theorem dX9_cuts_45 : decode cX9_cuts 45 = .ok (.aload_n 0, 1) := by decide +kernel
theorem dX9_cuts_46 : decode cX9_cuts 46 = .ok (.getfield 16, 3) := by decide +kernel
theorem dX9_cuts_49 : decode cX9_cuts 49 = .ok (.bipush 36, 2) := by decide +kernel
theorem dX9_cuts_51 : decode cX9_cuts 51 = .ok (.iload_n 3, 1) := by decide +kernel
theorem dX9_cuts_52 : decode cX9_cuts 52 = .ok (.iadd, 1) := by decide +kernel
theorem dX9_cuts_53 : decode cX9_cuts 53 = .ok (.iload_n 1, 1) := by decide +kernel
theorem dX9_cuts_54 : decode cX9_cuts 54 = .ok (.iload_n 2, 1) := by decide +kernel
theorem dX9_cuts_55 : decode cX9_cuts 55 = .ok (.if_icmp .ge 7, 3) := by decide +kernel
theorem dX9_cuts_58 : decode cX9_cuts 58 = .ok (.iload_n 2, 1) := by decide +kernel
theorem dX9_cuts_59 : decode cX9_cuts 59 = .ok (.goto 4, 3) := by decide +kernel
theorem dX9_cuts_62 : decode cX9_cuts 62 = .ok (.iload_n 1, 1) := by decide +kernel
theorem dX9_cuts_63 : decode cX9_cuts 63 = .ok (.iastore, 1) := by decide +kernel
theorem dX9_cuts_64 : decode cX9_cuts 64 = .ok (.aload_n 0, 1) := by decide +kernel
theorem dX9_cuts_65 : decode cX9_cuts 65 = .ok (.getfield 16, 3) := by decide +kernel
theorem dX9_cuts_68 : decode cX9_cuts 68 = .ok (.iconst 1, 1) := by decide +kernel
theorem dX9_cuts_69 : decode cX9_cuts 69 = .ok (.dup2, 1) := by decide +kernel
theorem dX9_cuts_70 : decode cX9_cuts 70 = .ok (.iaload, 1) := by decide +kernel
theorem dX9_cuts_71 : decode cX9_cuts 71 = .ok (.iconst 1, 1) := by decide +kernel
theorem dX9_cuts_72 : decode cX9_cuts 72 = .ok (.iadd, 1) := by decide +kernel
theorem dX9_cuts_73 : decode cX9_cuts 73 = .ok (.iastore, 1) := by decide +kernel
theorem dX9_cuts_74 : decode cX9_cuts 74 = .ok (.return_, 1) := by decide +kernel
theorem dX9_isFreeAt_0 : decode cX9_isFreeAt 0 = .ok (.iconst 1, 1) := by decide +kernel
theorem dX9_isFreeAt_1 : decode cX9_isFreeAt 1 = .ok (.istore_n 3, 1) := by decide +kernel
theorem dX9_isFreeAt_2 : decode cX9_isFreeAt 2 = .ok (.iconst 0, 1) := by decide +kernel
theorem dX9_isFreeAt_3 : decode cX9_isFreeAt 3 = .ok (.istore 4, 2) := by decide +kernel
theorem dX9_isFreeAt_5 : decode cX9_isFreeAt 5 = .ok (.iload 4, 2) := by decide +kernel
theorem dX9_isFreeAt_7 : decode cX9_isFreeAt 7 = .ok (.aload_n 0, 1) := by decide +kernel
theorem dX9_isFreeAt_8 : decode cX9_isFreeAt 8 = .ok (.getfield 16, 3) := by decide +kernel
theorem dX9_isFreeAt_11 : decode cX9_isFreeAt 11 = .ok (.iconst 0, 1) := by decide +kernel
theorem dX9_isFreeAt_12 : decode cX9_isFreeAt 12 = .ok (.iaload, 1) := by decide +kernel
theorem dX9_isFreeAt_13 : decode cX9_isFreeAt 13 = .ok (.if_icmp .ge 46, 3) := by decide +kernel
theorem dX9_isFreeAt_16 : decode cX9_isFreeAt 16 = .ok (.iload_n 3, 1) := by decide +kernel
theorem dX9_isFreeAt_17 : decode cX9_isFreeAt 17 = .ok (.ifCond .eq 34, 3) := by decide +kernel
theorem dX9_isFreeAt_20 : decode cX9_isFreeAt 20 = .ok (.aload_n 0, 1) := by decide +kernel
theorem dX9_isFreeAt_21 : decode cX9_isFreeAt 21 = .ok (.getfield 16, 3) := by decide +kernel
theorem dX9_isFreeAt_24 : decode cX9_isFreeAt 24 = .ok (.iconst 4, 1) := by decide +kernel
theorem dX9_isFreeAt_25 : decode cX9_isFreeAt 25 = .ok (.iload 4, 2) := by decide +kernel
theorem dX9_isFreeAt_27 : decode cX9_isFreeAt 27 = .ok (.iadd, 1) := by decide +kernel
theorem dX9_isFreeAt_28 : decode cX9_isFreeAt 28 = .ok (.iaload, 1) := by decide +kernel
theorem dX9_isFreeAt_29 : decode cX9_isFreeAt 29 = .ok (.iload_n 1, 1) := by decide +kernel
theorem dX9_isFreeAt_30 : decode cX9_isFreeAt 30 = .ok (.if_icmp .ne 17, 3) := by decide +kernel
theorem dX9_isFreeAt_33 : decode cX9_isFreeAt 33 = .ok (.aload_n 0, 1) := by decide +kernel
theorem dX9_isFreeAt_34 : decode cX9_isFreeAt 34 = .ok (.getfield 16, 3) := by decide +kernel
theorem dX9_isFreeAt_37 : decode cX9_isFreeAt 37 = .ok (.bipush 13, 2) := by decide +kernel
theorem dX9_isFreeAt_39 : decode cX9_isFreeAt 39 = .ok (.iload 4, 2) := by decide +kernel
theorem dX9_isFreeAt_41 : decode cX9_isFreeAt 41 = .ok (.iadd, 1) := by decide +kernel
theorem dX9_isFreeAt_42 : decode cX9_isFreeAt 42 = .ok (.iaload, 1) := by decide +kernel
theorem dX9_isFreeAt_43 : decode cX9_isFreeAt 43 = .ok (.iload_n 2, 1) := by decide +kernel
theorem dX9_isFreeAt_44 : decode cX9_isFreeAt 44 = .ok (.if_icmp .eq 7, 3) := by decide +kernel
theorem dX9_isFreeAt_47 : decode cX9_isFreeAt 47 = .ok (.iconst 1, 1) := by decide +kernel
theorem dX9_isFreeAt_48 : decode cX9_isFreeAt 48 = .ok (.goto 4, 3) := by decide +kernel
theorem dX9_isFreeAt_51 : decode cX9_isFreeAt 51 = .ok (.iconst 0, 1) := by decide +kernel
theorem dX9_isFreeAt_52 : decode cX9_isFreeAt 52 = .ok (.istore_n 3, 1) := by decide +kernel
theorem dX9_isFreeAt_53 : decode cX9_isFreeAt 53 = .ok (.iinc 4 1, 3) := by decide +kernel
theorem dX9_isFreeAt_56 : decode cX9_isFreeAt 56 = .ok (.goto (-51), 3) := by decide +kernel
theorem dX9_isFreeAt_59 : decode cX9_isFreeAt 59 = .ok (.iload_n 3, 1) := by decide +kernel
theorem dX9_isFreeAt_60 : decode cX9_isFreeAt 60 = .ok (.ireturn, 1) := by decide +kernel
theorem dX9_readsCorner_0 : decode cX9_readsCorner 0 = .ok (.aload_n 0, 1) := by decide +kernel
theorem dX9_readsCorner_1 : decode cX9_readsCorner 1 = .ok (.aload_n 0, 1) := by decide +kernel
theorem dX9_readsCorner_2 : decode cX9_readsCorner 2 = .ok (.iconst 0, 1) := by decide +kernel
theorem dX9_readsCorner_3 : decode cX9_readsCorner 3 = .ok (.bipush 20, 2) := by decide +kernel
theorem dX9_readsCorner_5 : decode cX9_readsCorner 5 = .ok (.invokevirtual 129, 3) := by decide +kernel
theorem dX9_readsCorner_8 : decode cX9_readsCorner 8 = .ok (.invokevirtual 132, 3) := by decide +kernel
theorem dX9_readsCorner_11 : decode cX9_readsCorner 11 = .ok (.istore_n 1, 1) := by decide +kernel
theorem dX9_readsCorner_12 : decode cX9_readsCorner 12 = .ok (.aload_n 0, 1) := by decide +kernel
theorem dX9_readsCorner_13 : decode cX9_readsCorner 13 = .ok (.aload_n 0, 1) := by decide +kernel
theorem dX9_readsCorner_14 : decode cX9_readsCorner 14 = .ok (.iconst 0, 1) := by decide +kernel
theorem dX9_readsCorner_15 : decode cX9_readsCorner 15 = .ok (.bipush 20, 2) := by decide +kernel
theorem dX9_readsCorner_17 : decode cX9_readsCorner 17 = .ok (.invokevirtual 129, 3) := by decide +kernel
theorem dX9_readsCorner_20 : decode cX9_readsCorner 20 = .ok (.ifCond .eq 19, 3) := by decide +kernel
theorem dX9_readsCorner_23 : decode cX9_readsCorner 23 = .ok (.aload_n 0, 1) := by decide +kernel
theorem dX9_readsCorner_24 : decode cX9_readsCorner 24 = .ok (.iload_n 1, 1) := by decide +kernel
theorem dX9_readsCorner_25 : decode cX9_readsCorner 25 = .ok (.aload_n 0, 1) := by decide +kernel
theorem dX9_readsCorner_26 : decode cX9_readsCorner 26 = .ok (.getfield 108, 3) := by decide +kernel
theorem dX9_readsCorner_29 : decode cX9_readsCorner 29 = .ok (.invokevirtual 136, 3) := by decide +kernel
theorem dX9_readsCorner_32 : decode cX9_readsCorner 32 = .ok (.ifCond .eq 7, 3) := by decide +kernel
theorem dX9_readsCorner_35 : decode cX9_readsCorner 35 = .ok (.iconst 1, 1) := by decide +kernel
theorem dX9_readsCorner_36 : decode cX9_readsCorner 36 = .ok (.goto 4, 3) := by decide +kernel
theorem dX9_readsCorner_39 : decode cX9_readsCorner 39 = .ok (.iconst 0, 1) := by decide +kernel
theorem dX9_readsCorner_40 : decode cX9_readsCorner 40 = .ok (.invokevirtual 132, 3) := by decide +kernel
theorem dX9_readsCorner_43 : decode cX9_readsCorner 43 = .ok (.istore_n 2, 1) := by decide +kernel
theorem dX9_readsCorner_44 : decode cX9_readsCorner 44 = .ok (.aload_n 0, 1) := by decide +kernel
theorem dX9_readsCorner_45 : decode cX9_readsCorner 45 = .ok (.getfield 16, 3) := by decide +kernel
theorem dX9_readsCorner_48 : decode cX9_readsCorner 48 = .ok (.iconst 4, 1) := by decide +kernel
theorem dX9_readsCorner_49 : decode cX9_readsCorner 49 = .ok (.aload_n 0, 1) := by decide +kernel
theorem dX9_readsCorner_50 : decode cX9_readsCorner 50 = .ok (.getfield 16, 3) := by decide +kernel
theorem dX9_readsCorner_53 : decode cX9_readsCorner 53 = .ok (.iconst 0, 1) := by decide +kernel
theorem dX9_readsCorner_54 : decode cX9_readsCorner 54 = .ok (.iaload, 1) := by decide +kernel
theorem dX9_readsCorner_55 : decode cX9_readsCorner 55 = .ok (.iadd, 1) := by decide +kernel
theorem dX9_readsCorner_56 : decode cX9_readsCorner 56 = .ok (.iload_n 1, 1) := by decide +kernel
theorem dX9_readsCorner_57 : decode cX9_readsCorner 57 = .ok (.iastore, 1) := by decide +kernel
theorem dX9_readsCorner_58 : decode cX9_readsCorner 58 = .ok (.aload_n 0, 1) := by decide +kernel
theorem dX9_readsCorner_59 : decode cX9_readsCorner 59 = .ok (.getfield 16, 3) := by decide +kernel
theorem dX9_readsCorner_62 : decode cX9_readsCorner 62 = .ok (.bipush 13, 2) := by decide +kernel
theorem dX9_readsCorner_64 : decode cX9_readsCorner 64 = .ok (.aload_n 0, 1) := by decide +kernel
theorem dX9_readsCorner_65 : decode cX9_readsCorner 65 = .ok (.getfield 16, 3) := by decide +kernel
theorem dX9_readsCorner_68 : decode cX9_readsCorner 68 = .ok (.iconst 0, 1) := by decide +kernel
theorem dX9_readsCorner_69 : decode cX9_readsCorner 69 = .ok (.iaload, 1) := by decide +kernel
theorem dX9_readsCorner_70 : decode cX9_readsCorner 70 = .ok (.iadd, 1) := by decide +kernel
theorem dX9_readsCorner_71 : decode cX9_readsCorner 71 = .ok (.iload_n 2, 1) := by decide +kernel
theorem dX9_readsCorner_72 : decode cX9_readsCorner 72 = .ok (.iastore, 1) := by decide +kernel
theorem dX9_readsCorner_73 : decode cX9_readsCorner 73 = .ok (.aload_n 0, 1) := by decide +kernel
theorem dX9_readsCorner_74 : decode cX9_readsCorner 74 = .ok (.getfield 16, 3) := by decide +kernel
theorem dX9_readsCorner_77 : decode cX9_readsCorner 77 = .ok (.iconst 0, 1) := by decide +kernel
theorem dX9_readsCorner_78 : decode cX9_readsCorner 78 = .ok (.dup2, 1) := by decide +kernel
theorem dX9_readsCorner_79 : decode cX9_readsCorner 79 = .ok (.iaload, 1) := by decide +kernel
theorem dX9_readsCorner_80 : decode cX9_readsCorner 80 = .ok (.iconst 1, 1) := by decide +kernel
theorem dX9_readsCorner_81 : decode cX9_readsCorner 81 = .ok (.iadd, 1) := by decide +kernel
theorem dX9_readsCorner_82 : decode cX9_readsCorner 82 = .ok (.iastore, 1) := by decide +kernel
theorem dX9_readsCorner_83 : decode cX9_readsCorner 83 = .ok (.return_, 1) := by decide +kernel
theorem dX9_isCorner_0 : decode cX9_isCorner 0 = .ok (.aload_n 0, 1) := by decide +kernel
theorem dX9_isCorner_1 : decode cX9_isCorner 1 = .ok (.iconst 0, 1) := by decide +kernel
theorem dX9_isCorner_2 : decode cX9_isCorner 2 = .ok (.aload_n 0, 1) := by decide +kernel
theorem dX9_isCorner_3 : decode cX9_isCorner 3 = .ok (.getfield 16, 3) := by decide +kernel
theorem dX9_isCorner_6 : decode cX9_isCorner 6 = .ok (.iconst 0, 1) := by decide +kernel
theorem dX9_isCorner_7 : decode cX9_isCorner 7 = .ok (.iaload, 1) := by decide +kernel
theorem dX9_isCorner_8 : decode cX9_isCorner 8 = .ok (.iconst 1, 1) := by decide +kernel
theorem dX9_isCorner_9 : decode cX9_isCorner 9 = .ok (.isub, 1) := by decide +kernel
theorem dX9_isCorner_10 : decode cX9_isCorner 10 = .ok (.invokevirtual 129, 3) := by decide +kernel
theorem dX9_isCorner_13 : decode cX9_isCorner 13 = .ok (.ireturn, 1) := by decide +kernel
theorem dX9_readsPart_0 : decode cX9_readsPart 0 = .ok (.aload_n 0, 1) := by decide +kernel
theorem dX9_readsPart_1 : decode cX9_readsPart 1 = .ok (.getfield 16, 3) := by decide +kernel
theorem dX9_readsPart_4 : decode cX9_readsPart 4 = .ok (.iconst 2, 1) := by decide +kernel
theorem dX9_readsPart_5 : decode cX9_readsPart 5 = .ok (.iaload, 1) := by decide +kernel
theorem dX9_readsPart_6 : decode cX9_readsPart 6 = .ok (.istore_n 1, 1) := by decide +kernel
theorem dX9_readsPart_7 : decode cX9_readsPart 7 = .ok (.iconst 0, 1) := by decide +kernel
theorem dX9_readsPart_8 : decode cX9_readsPart 8 = .ok (.istore_n 2, 1) := by decide +kernel
theorem dX9_readsPart_9 : decode cX9_readsPart 9 = .ok (.iconst 0, 1) := by decide +kernel
theorem dX9_readsPart_10 : decode cX9_readsPart 10 = .ok (.istore_n 3, 1) := by decide +kernel
theorem dX9_readsPart_11 : decode cX9_readsPart 11 = .ok (.aload_n 0, 1) := by decide +kernel
theorem dX9_readsPart_12 : decode cX9_readsPart 12 = .ok (.invokevirtual 114, 3) := by decide +kernel
theorem dX9_readsPart_15 : decode cX9_readsPart 15 = .ok (.ifCond .eq 143, 3) := by decide +kernel
theorem dX9_readsPart_18 : decode cX9_readsPart 18 = .ok (.iload_n 2, 1) := by decide +kernel
theorem dX9_readsPart_19 : decode cX9_readsPart 19 = .ok (.iconst 3, 1) := by decide +kernel
theorem dX9_readsPart_20 : decode cX9_readsPart 20 = .ok (.if_icmp .lt 11, 3) := by decide +kernel
theorem dX9_readsPart_23 : decode cX9_readsPart 23 = .ok (.aload_n 0, 1) := by decide +kernel
theorem dX9_readsPart_24 : decode cX9_readsPart 24 = .ok (.getfield 105, 3) := by decide +kernel
theorem dX9_readsPart_27 : decode cX9_readsPart 27 = .ok (.iconst 3, 1) := by decide +kernel
theorem dX9_readsPart_28 : decode cX9_readsPart 28 = .ok (.if_icmp .eq 130, 3) := by decide +kernel
theorem dX9_readsPart_31 : decode cX9_readsPart 31 = .ok (.iload_n 2, 1) := by decide +kernel
theorem dX9_readsPart_32 : decode cX9_readsPart 32 = .ok (.ifCond .ne 7, 3) := by decide +kernel
theorem dX9_readsPart_35 : decode cX9_readsPart 35 = .ok (.iconst 0, 1) := by decide +kernel
theorem dX9_readsPart_36 : decode cX9_readsPart 36 = .ok (.goto 18, 3) := by decide +kernel
theorem dX9_readsPart_39 : decode cX9_readsPart 39 = .ok (.aload_n 0, 1) := by decide +kernel
theorem dX9_readsPart_40 : decode cX9_readsPart 40 = .ok (.getfield 16, 3) := by decide +kernel
theorem dX9_readsPart_43 : decode cX9_readsPart 43 = .ok (.bipush 54, 2) := by decide +kernel
theorem dX9_readsPart_45 : decode cX9_readsPart 45 = .ok (.iconst 5, 1) := by decide +kernel
theorem dX9_readsPart_46 : decode cX9_readsPart 46 = .ok (.iload_n 1, 1) := by decide +kernel
theorem dX9_readsPart_47 : decode cX9_readsPart 47 = .ok (.imul, 1) := by decide +kernel
theorem dX9_readsPart_48 : decode cX9_readsPart 48 = .ok (.iadd, 1) := by decide +kernel
theorem dX9_readsPart_49 : decode cX9_readsPart 49 = .ok (.iload_n 2, 1) := by decide +kernel
theorem dX9_readsPart_50 : decode cX9_readsPart 50 = .ok (.iadd, 1) := by decide +kernel
theorem dX9_readsPart_51 : decode cX9_readsPart 51 = .ok (.iconst 1, 1) := by decide +kernel
theorem dX9_readsPart_52 : decode cX9_readsPart 52 = .ok (.isub, 1) := by decide +kernel
theorem dX9_readsPart_53 : decode cX9_readsPart 53 = .ok (.iaload, 1) := by decide +kernel
theorem dX9_readsPart_54 : decode cX9_readsPart 54 = .ok (.istore 4, 2) := by decide +kernel
theorem dX9_readsPart_56 : decode cX9_readsPart 56 = .ok (.iload_n 2, 1) := by decide +kernel
theorem dX9_readsPart_57 : decode cX9_readsPart 57 = .ok (.iconst 5, 1) := by decide +kernel
theorem dX9_readsPart_58 : decode cX9_readsPart 58 = .ok (.if_icmp .ge 42, 3) := by decide +kernel
theorem dX9_readsPart_61 : decode cX9_readsPart 61 = .ok (.aload_n 0, 1) := by decide +kernel
theorem dX9_readsPart_62 : decode cX9_readsPart 62 = .ok (.invokevirtual 139, 3) := by decide +kernel
theorem dX9_readsPart_65 : decode cX9_readsPart 65 = .ok (.ifCond .eq 35, 3) := by decide +kernel
theorem dX9_readsPart_68 : decode cX9_readsPart 68 = .ok (.iload_n 3, 1) := by decide +kernel
theorem dX9_readsPart_69 : decode cX9_readsPart 69 = .ok (.aload_n 0, 1) := by decide +kernel
theorem dX9_readsPart_70 : decode cX9_readsPart 70 = .ok (.getfield 108, 3) := by decide +kernel
theorem dX9_readsPart_73 : decode cX9_readsPart 73 = .ok (.invokestatic 84, 3) := by decide +kernel
theorem dX9_readsPart_76 : decode cX9_readsPart 76 = .ok (.ifCond .ne 24, 3) := by decide +kernel
theorem dX9_readsPart_79 : decode cX9_readsPart 79 = .ok (.iload_n 2, 1) := by decide +kernel
theorem dX9_readsPart_80 : decode cX9_readsPart 80 = .ok (.ifCond .eq 16, 3) := by decide +kernel
theorem dX9_readsPart_83 : decode cX9_readsPart 83 = .ok (.aload_n 0, 1) := by decide +kernel
theorem dX9_readsPart_84 : decode cX9_readsPart 84 = .ok (.iload 4, 2) := by decide +kernel
theorem dX9_readsPart_86 : decode cX9_readsPart 86 = .ok (.aload_n 0, 1) := by decide +kernel
theorem dX9_readsPart_87 : decode cX9_readsPart 87 = .ok (.getfield 108, 3) := by decide +kernel
theorem dX9_readsPart_90 : decode cX9_readsPart 90 = .ok (.invokevirtual 142, 3) := by decide +kernel
theorem dX9_readsPart_93 : decode cX9_readsPart 93 = .ok (.ifCond .eq 7, 3) := by decide +kernel
theorem dX9_readsPart_96 : decode cX9_readsPart 96 = .ok (.iconst 1, 1) := by decide +kernel
theorem dX9_readsPart_97 : decode cX9_readsPart 97 = .ok (.goto 4, 3) := by decide +kernel
theorem dX9_readsPart_100 : decode cX9_readsPart 100 = .ok (.iconst 0, 1) := by decide +kernel
theorem dX9_readsPart_101 : decode cX9_readsPart 101 = .ok (.istore 5, 2) := by decide +kernel
theorem dX9_readsPart_103 : decode cX9_readsPart 103 = .ok (.aload_n 0, 1) := by decide +kernel
theorem dX9_readsPart_104 : decode cX9_readsPart 104 = .ok (.iload 5, 2) := by decide +kernel
theorem dX9_readsPart_106 : decode cX9_readsPart 106 = .ok (.invokevirtual 132, 3) := by decide +kernel
theorem dX9_readsPart_109 : decode cX9_readsPart 109 = .ok (.istore 6, 2) := by decide +kernel
theorem dX9_readsPart_111 : decode cX9_readsPart 111 = .ok (.aload_n 0, 1) := by decide +kernel
theorem dX9_readsPart_112 : decode cX9_readsPart 112 = .ok (.invokevirtual 114, 3) := by decide +kernel
theorem dX9_readsPart_115 : decode cX9_readsPart 115 = .ok (.ifCond .eq 40, 3) := by decide +kernel
theorem dX9_readsPart_118 : decode cX9_readsPart 118 = .ok (.iload_n 2, 1) := by decide +kernel
theorem dX9_readsPart_119 : decode cX9_readsPart 119 = .ok (.ifCond .le 11, 3) := by decide +kernel
theorem dX9_readsPart_122 : decode cX9_readsPart 122 = .ok (.aload_n 0, 1) := by decide +kernel
theorem dX9_readsPart_123 : decode cX9_readsPart 123 = .ok (.iload 4, 2) := by decide +kernel
theorem dX9_readsPart_125 : decode cX9_readsPart 125 = .ok (.iload 6, 2) := by decide +kernel
theorem dX9_readsPart_127 : decode cX9_readsPart 127 = .ok (.invokevirtual 145, 3) := by decide +kernel
theorem dX9_readsPart_130 : decode cX9_readsPart 130 = .ok (.aload_n 0, 1) := by decide +kernel
theorem dX9_readsPart_131 : decode cX9_readsPart 131 = .ok (.getfield 16, 3) := by decide +kernel
theorem dX9_readsPart_134 : decode cX9_readsPart 134 = .ok (.bipush 54, 2) := by decide +kernel
theorem dX9_readsPart_136 : decode cX9_readsPart 136 = .ok (.iconst 5, 1) := by decide +kernel
theorem dX9_readsPart_137 : decode cX9_readsPart 137 = .ok (.iload_n 1, 1) := by decide +kernel
theorem dX9_readsPart_138 : decode cX9_readsPart 138 = .ok (.imul, 1) := by decide +kernel
theorem dX9_readsPart_139 : decode cX9_readsPart 139 = .ok (.iadd, 1) := by decide +kernel
theorem dX9_readsPart_140 : decode cX9_readsPart 140 = .ok (.iload_n 2, 1) := by decide +kernel
theorem dX9_readsPart_141 : decode cX9_readsPart 141 = .ok (.iadd, 1) := by decide +kernel
theorem dX9_readsPart_142 : decode cX9_readsPart 142 = .ok (.iload 6, 2) := by decide +kernel
theorem dX9_readsPart_144 : decode cX9_readsPart 144 = .ok (.iastore, 1) := by decide +kernel
theorem dX9_readsPart_145 : decode cX9_readsPart 145 = .ok (.iload_n 3, 1) := by decide +kernel
theorem dX9_readsPart_146 : decode cX9_readsPart 146 = .ok (.iconst 1, 1) := by decide +kernel
theorem dX9_readsPart_147 : decode cX9_readsPart 147 = .ok (.iload 6, 2) := by decide +kernel
theorem dX9_readsPart_149 : decode cX9_readsPart 149 = .ok (.ishl, 1) := by decide +kernel
theorem dX9_readsPart_150 : decode cX9_readsPart 150 = .ok (.ior, 1) := by decide +kernel
theorem dX9_readsPart_151 : decode cX9_readsPart 151 = .ok (.istore_n 3, 1) := by decide +kernel
theorem dX9_readsPart_152 : decode cX9_readsPart 152 = .ok (.iinc 2 1, 3) := by decide +kernel
theorem dX9_readsPart_155 : decode cX9_readsPart 155 = .ok (.goto (-144), 3) := by decide +kernel
theorem dX9_readsPart_158 : decode cX9_readsPart 158 = .ok (.aload_n 0, 1) := by decide +kernel
theorem dX9_readsPart_159 : decode cX9_readsPart 159 = .ok (.invokevirtual 114, 3) := by decide +kernel
theorem dX9_readsPart_162 : decode cX9_readsPart 162 = .ok (.ifCond .eq 60, 3) := by decide +kernel
theorem dX9_readsPart_165 : decode cX9_readsPart 165 = .ok (.aload_n 0, 1) := by decide +kernel
theorem dX9_readsPart_166 : decode cX9_readsPart 166 = .ok (.getfield 16, 3) := by decide +kernel
theorem dX9_readsPart_169 : decode cX9_readsPart 169 = .ok (.bipush 54, 2) := by decide +kernel
theorem dX9_readsPart_171 : decode cX9_readsPart 171 = .ok (.iconst 5, 1) := by decide +kernel
theorem dX9_readsPart_172 : decode cX9_readsPart 172 = .ok (.iload_n 1, 1) := by decide +kernel
theorem dX9_readsPart_173 : decode cX9_readsPart 173 = .ok (.imul, 1) := by decide +kernel
theorem dX9_readsPart_174 : decode cX9_readsPart 174 = .ok (.iadd, 1) := by decide +kernel
theorem dX9_readsPart_175 : decode cX9_readsPart 175 = .ok (.iaload, 1) := by decide +kernel
theorem dX9_readsPart_176 : decode cX9_readsPart 176 = .ok (.istore 4, 2) := by decide +kernel
theorem dX9_readsPart_178 : decode cX9_readsPart 178 = .ok (.aload_n 0, 1) := by decide +kernel
theorem dX9_readsPart_179 : decode cX9_readsPart 179 = .ok (.getfield 16, 3) := by decide +kernel
theorem dX9_readsPart_182 : decode cX9_readsPart 182 = .ok (.bipush 54, 2) := by decide +kernel
theorem dX9_readsPart_184 : decode cX9_readsPart 184 = .ok (.iconst 5, 1) := by decide +kernel
theorem dX9_readsPart_185 : decode cX9_readsPart 185 = .ok (.iload_n 1, 1) := by decide +kernel
theorem dX9_readsPart_186 : decode cX9_readsPart 186 = .ok (.imul, 1) := by decide +kernel
theorem dX9_readsPart_187 : decode cX9_readsPart 187 = .ok (.iadd, 1) := by decide +kernel
theorem dX9_readsPart_188 : decode cX9_readsPart 188 = .ok (.iload_n 2, 1) := by decide +kernel
theorem dX9_readsPart_189 : decode cX9_readsPart 189 = .ok (.iadd, 1) := by decide +kernel
theorem dX9_readsPart_190 : decode cX9_readsPart 190 = .ok (.iconst 1, 1) := by decide +kernel
theorem dX9_readsPart_191 : decode cX9_readsPart 191 = .ok (.isub, 1) := by decide +kernel
theorem dX9_readsPart_192 : decode cX9_readsPart 192 = .ok (.iaload, 1) := by decide +kernel
theorem dX9_readsPart_193 : decode cX9_readsPart 193 = .ok (.istore 5, 2) := by decide +kernel
theorem dX9_readsPart_195 : decode cX9_readsPart 195 = .ok (.aload_n 0, 1) := by decide +kernel
theorem dX9_readsPart_196 : decode cX9_readsPart 196 = .ok (.iload 5, 2) := by decide +kernel
theorem dX9_readsPart_198 : decode cX9_readsPart 198 = .ok (.iload 4, 2) := by decide +kernel
theorem dX9_readsPart_200 : decode cX9_readsPart 200 = .ok (.invokevirtual 142, 3) := by decide +kernel
theorem dX9_readsPart_203 : decode cX9_readsPart 203 = .ok (.ifCond .ne 11, 3) := by decide +kernel
theorem dX9_readsPart_206 : decode cX9_readsPart 206 = .ok (.aload_n 0, 1) := by decide +kernel
theorem dX9_readsPart_207 : decode cX9_readsPart 207 = .ok (.aload_n 0, 1) := by decide +kernel
theorem dX9_readsPart_208 : decode cX9_readsPart 208 = .ok (.getfield 102, 3) := by decide +kernel
theorem dX9_readsPart_211 : decode cX9_readsPart 211 = .ok (.putfield 111, 3) := by decide +kernel
theorem dX9_readsPart_214 : decode cX9_readsPart 214 = .ok (.aload_n 0, 1) := by decide +kernel
theorem dX9_readsPart_215 : decode cX9_readsPart 215 = .ok (.iload 5, 2) := by decide +kernel
theorem dX9_readsPart_217 : decode cX9_readsPart 217 = .ok (.iload 4, 2) := by decide +kernel
theorem dX9_readsPart_219 : decode cX9_readsPart 219 = .ok (.invokevirtual 145, 3) := by decide +kernel
theorem dX9_readsPart_222 : decode cX9_readsPart 222 = .ok (.aload_n 0, 1) := by decide +kernel
theorem dX9_readsPart_223 : decode cX9_readsPart 223 = .ok (.getfield 16, 3) := by decide +kernel
theorem dX9_readsPart_226 : decode cX9_readsPart 226 = .ok (.bipush 50, 2) := by decide +kernel
theorem dX9_readsPart_228 : decode cX9_readsPart 228 = .ok (.iload_n 1, 1) := by decide +kernel
theorem dX9_readsPart_229 : decode cX9_readsPart 229 = .ok (.iadd, 1) := by decide +kernel
theorem dX9_readsPart_230 : decode cX9_readsPart 230 = .ok (.iload_n 2, 1) := by decide +kernel
theorem dX9_readsPart_231 : decode cX9_readsPart 231 = .ok (.iastore, 1) := by decide +kernel
theorem dX9_readsPart_232 : decode cX9_readsPart 232 = .ok (.aload_n 0, 1) := by decide +kernel
theorem dX9_readsPart_233 : decode cX9_readsPart 233 = .ok (.getfield 16, 3) := by decide +kernel
theorem dX9_readsPart_236 : decode cX9_readsPart 236 = .ok (.iconst 2, 1) := by decide +kernel
theorem dX9_readsPart_237 : decode cX9_readsPart 237 = .ok (.dup2, 1) := by decide +kernel
theorem dX9_readsPart_238 : decode cX9_readsPart 238 = .ok (.iaload, 1) := by decide +kernel
theorem dX9_readsPart_239 : decode cX9_readsPart 239 = .ok (.iconst 1, 1) := by decide +kernel
theorem dX9_readsPart_240 : decode cX9_readsPart 240 = .ok (.iadd, 1) := by decide +kernel
theorem dX9_readsPart_241 : decode cX9_readsPart 241 = .ok (.iastore, 1) := by decide +kernel
theorem dX9_readsPart_242 : decode cX9_readsPart 242 = .ok (.return_, 1) := by decide +kernel
theorem dX9_readsSeam_0 : decode cX9_readsSeam 0 = .ok (.aload_n 0, 1) := by decide +kernel
theorem dX9_readsSeam_1 : decode cX9_readsSeam 1 = .ok (.aload_n 0, 1) := by decide +kernel
theorem dX9_readsSeam_2 : decode cX9_readsSeam 2 = .ok (.invokevirtual 139, 3) := by decide +kernel
theorem dX9_readsSeam_5 : decode cX9_readsSeam 5 = .ok (.invokevirtual 132, 3) := by decide +kernel
theorem dX9_readsSeam_8 : decode cX9_readsSeam 8 = .ok (.istore_n 1, 1) := by decide +kernel
theorem dX9_readsSeam_9 : decode cX9_readsSeam 9 = .ok (.aload_n 0, 1) := by decide +kernel
theorem dX9_readsSeam_10 : decode cX9_readsSeam 10 = .ok (.aload_n 0, 1) := by decide +kernel
theorem dX9_readsSeam_11 : decode cX9_readsSeam 11 = .ok (.invokevirtual 114, 3) := by decide +kernel
theorem dX9_readsSeam_14 : decode cX9_readsSeam 14 = .ok (.ifCond .eq 34, 3) := by decide +kernel
theorem dX9_readsSeam_17 : decode cX9_readsSeam 17 = .ok (.aload_n 0, 1) := by decide +kernel
theorem dX9_readsSeam_18 : decode cX9_readsSeam 18 = .ok (.invokevirtual 139, 3) := by decide +kernel
theorem dX9_readsSeam_21 : decode cX9_readsSeam 21 = .ok (.ifCond .eq 27, 3) := by decide +kernel
theorem dX9_readsSeam_24 : decode cX9_readsSeam 24 = .ok (.aload_n 0, 1) := by decide +kernel
theorem dX9_readsSeam_25 : decode cX9_readsSeam 25 = .ok (.getfield 108, 3) := by decide +kernel
theorem dX9_readsSeam_28 : decode cX9_readsSeam 28 = .ok (.iload_n 1, 1) := by decide +kernel
theorem dX9_readsSeam_29 : decode cX9_readsSeam 29 = .ok (.if_icmp .eq 19, 3) := by decide +kernel
theorem dX9_readsSeam_32 : decode cX9_readsSeam 32 = .ok (.aload_n 0, 1) := by decide +kernel
theorem dX9_readsSeam_33 : decode cX9_readsSeam 33 = .ok (.iload_n 1, 1) := by decide +kernel
theorem dX9_readsSeam_34 : decode cX9_readsSeam 34 = .ok (.aload_n 0, 1) := by decide +kernel
theorem dX9_readsSeam_35 : decode cX9_readsSeam 35 = .ok (.getfield 108, 3) := by decide +kernel
theorem dX9_readsSeam_38 : decode cX9_readsSeam 38 = .ok (.invokevirtual 142, 3) := by decide +kernel
theorem dX9_readsSeam_41 : decode cX9_readsSeam 41 = .ok (.ifCond .eq 7, 3) := by decide +kernel
theorem dX9_readsSeam_44 : decode cX9_readsSeam 44 = .ok (.iconst 1, 1) := by decide +kernel
theorem dX9_readsSeam_45 : decode cX9_readsSeam 45 = .ok (.goto 4, 3) := by decide +kernel
theorem dX9_readsSeam_48 : decode cX9_readsSeam 48 = .ok (.iconst 0, 1) := by decide +kernel
theorem dX9_readsSeam_49 : decode cX9_readsSeam 49 = .ok (.invokevirtual 132, 3) := by decide +kernel
theorem dX9_readsSeam_52 : decode cX9_readsSeam 52 = .ok (.istore_n 2, 1) := by decide +kernel
theorem dX9_readsSeam_53 : decode cX9_readsSeam 53 = .ok (.aload_n 0, 1) := by decide +kernel
theorem dX9_readsSeam_54 : decode cX9_readsSeam 54 = .ok (.iload_n 1, 1) := by decide +kernel
theorem dX9_readsSeam_55 : decode cX9_readsSeam 55 = .ok (.iload_n 2, 1) := by decide +kernel
theorem dX9_readsSeam_56 : decode cX9_readsSeam 56 = .ok (.invokevirtual 145, 3) := by decide +kernel
theorem dX9_readsSeam_59 : decode cX9_readsSeam 59 = .ok (.return_, 1) := by decide +kernel
theorem dX9_mayBegin_0 : decode cX9_mayBegin 0 = .ok (.aload_n 0, 1) := by decide +kernel
theorem dX9_mayBegin_1 : decode cX9_mayBegin 1 = .ok (.getfield 108, 3) := by decide +kernel
theorem dX9_mayBegin_4 : decode cX9_mayBegin 4 = .ok (.bipush 104, 2) := by decide +kernel
theorem dX9_mayBegin_6 : decode cX9_mayBegin 6 = .ok (.if_icmp .ne 18, 3) := by decide +kernel
theorem dX9_mayBegin_9 : decode cX9_mayBegin 9 = .ok (.aload_n 0, 1) := by decide +kernel
theorem dX9_mayBegin_10 : decode cX9_mayBegin 10 = .ok (.getfield 121, 3) := by decide +kernel
theorem dX9_mayBegin_13 : decode cX9_mayBegin 13 = .ok (.ifCond .ne 7, 3) := by decide +kernel
theorem dX9_mayBegin_16 : decode cX9_mayBegin 16 = .ok (.iconst 1, 1) := by decide +kernel
theorem dX9_mayBegin_17 : decode cX9_mayBegin 17 = .ok (.goto 59, 3) := by decide +kernel
theorem dX9_mayBegin_20 : decode cX9_mayBegin 20 = .ok (.iconst 0, 1) := by decide +kernel
theorem dX9_mayBegin_21 : decode cX9_mayBegin 21 = .ok (.goto 55, 3) := by decide +kernel
theorem dX9_mayBegin_24 : decode cX9_mayBegin 24 = .ok (.aload_n 0, 1) := by decide +kernel
theorem dX9_mayBegin_25 : decode cX9_mayBegin 25 = .ok (.getfield 108, 3) := by decide +kernel
theorem dX9_mayBegin_28 : decode cX9_mayBegin 28 = .ok (.bipush 107, 2) := by decide +kernel
theorem dX9_mayBegin_30 : decode cX9_mayBegin 30 = .ok (.if_icmp .ne 22, 3) := by decide +kernel
theorem dX9_mayBegin_33 : decode cX9_mayBegin 33 = .ok (.aload_n 0, 1) := by decide +kernel
theorem dX9_mayBegin_34 : decode cX9_mayBegin 34 = .ok (.getfield 16, 3) := by decide +kernel
theorem dX9_mayBegin_37 : decode cX9_mayBegin 37 = .ok (.iconst 0, 1) := by decide +kernel
theorem dX9_mayBegin_38 : decode cX9_mayBegin 38 = .ok (.iaload, 1) := by decide +kernel
theorem dX9_mayBegin_39 : decode cX9_mayBegin 39 = .ok (.bipush 9, 2) := by decide +kernel
theorem dX9_mayBegin_41 : decode cX9_mayBegin 41 = .ok (.if_icmp .ge 7, 3) := by decide +kernel
theorem dX9_mayBegin_44 : decode cX9_mayBegin 44 = .ok (.iconst 1, 1) := by decide +kernel
theorem dX9_mayBegin_45 : decode cX9_mayBegin 45 = .ok (.goto 31, 3) := by decide +kernel
theorem dX9_mayBegin_48 : decode cX9_mayBegin 48 = .ok (.iconst 0, 1) := by decide +kernel
theorem dX9_mayBegin_49 : decode cX9_mayBegin 49 = .ok (.goto 27, 3) := by decide +kernel
theorem dX9_mayBegin_52 : decode cX9_mayBegin 52 = .ok (.aload_n 0, 1) := by decide +kernel
theorem dX9_mayBegin_53 : decode cX9_mayBegin 53 = .ok (.getfield 108, 3) := by decide +kernel
theorem dX9_mayBegin_56 : decode cX9_mayBegin 56 = .ok (.bipush 115, 2) := by decide +kernel
theorem dX9_mayBegin_58 : decode cX9_mayBegin 58 = .ok (.if_icmp .eq 13, 3) := by decide +kernel
theorem dX9_mayBegin_61 : decode cX9_mayBegin 61 = .ok (.aload_n 0, 1) := by decide +kernel
theorem dX9_mayBegin_62 : decode cX9_mayBegin 62 = .ok (.getfield 16, 3) := by decide +kernel
theorem dX9_mayBegin_65 : decode cX9_mayBegin 65 = .ok (.iconst 2, 1) := by decide +kernel
theorem dX9_mayBegin_66 : decode cX9_mayBegin 66 = .ok (.iaload, 1) := by decide +kernel
theorem dX9_mayBegin_67 : decode cX9_mayBegin 67 = .ok (.iconst 4, 1) := by decide +kernel
theorem dX9_mayBegin_68 : decode cX9_mayBegin 68 = .ok (.if_icmp .ge 7, 3) := by decide +kernel
theorem dX9_mayBegin_71 : decode cX9_mayBegin 71 = .ok (.iconst 1, 1) := by decide +kernel
theorem dX9_mayBegin_72 : decode cX9_mayBegin 72 = .ok (.goto 4, 3) := by decide +kernel
theorem dX9_mayBegin_75 : decode cX9_mayBegin 75 = .ok (.iconst 0, 1) := by decide +kernel
theorem dX9_mayBegin_76 : decode cX9_mayBegin 76 = .ok (.ireturn, 1) := by decide +kernel
theorem dX9_readsItem_0 : decode cX9_readsItem 0 = .ok (.iload_n 1, 1) := by decide +kernel
theorem dX9_readsItem_1 : decode cX9_readsItem 1 = .ok (.bipush 104, 2) := by decide +kernel
theorem dX9_readsItem_3 : decode cX9_readsItem 3 = .ok (.if_icmp .ne 28, 3) := by decide +kernel
theorem dX9_readsItem_6 : decode cX9_readsItem 6 = .ok (.aload_n 0, 1) := by decide +kernel
theorem dX9_readsItem_7 : decode cX9_readsItem 7 = .ok (.iconst 1, 1) := by decide +kernel
theorem dX9_readsItem_8 : decode cX9_readsItem 8 = .ok (.putfield 121, 3) := by decide +kernel
theorem dX9_readsItem_11 : decode cX9_readsItem 11 = .ok (.aload_n 0, 1) := by decide +kernel
theorem dX9_readsItem_12 : decode cX9_readsItem 12 = .ok (.getfield 16, 3) := by decide +kernel
theorem dX9_readsItem_15 : decode cX9_readsItem 15 = .ok (.iconst 3, 1) := by decide +kernel
theorem dX9_readsItem_16 : decode cX9_readsItem 16 = .ok (.aload_n 0, 1) := by decide +kernel
theorem dX9_readsItem_17 : decode cX9_readsItem 17 = .ok (.aload_n 0, 1) := by decide +kernel
theorem dX9_readsItem_18 : decode cX9_readsItem 18 = .ok (.iconst 0, 1) := by decide +kernel
theorem dX9_readsItem_19 : decode cX9_readsItem 19 = .ok (.bipush 20, 2) := by decide +kernel
theorem dX9_readsItem_21 : decode cX9_readsItem 21 = .ok (.invokevirtual 129, 3) := by decide +kernel
theorem dX9_readsItem_24 : decode cX9_readsItem 24 = .ok (.invokevirtual 132, 3) := by decide +kernel
theorem dX9_readsItem_27 : decode cX9_readsItem 27 = .ok (.iastore, 1) := by decide +kernel
theorem dX9_readsItem_28 : decode cX9_readsItem 28 = .ok (.goto 33, 3) := by decide +kernel
theorem dX9_readsItem_31 : decode cX9_readsItem 31 = .ok (.iload_n 1, 1) := by decide +kernel
theorem dX9_readsItem_32 : decode cX9_readsItem 32 = .ok (.bipush 107, 2) := by decide +kernel
theorem dX9_readsItem_34 : decode cX9_readsItem 34 = .ok (.if_icmp .ne 10, 3) := by decide +kernel
theorem dX9_readsItem_37 : decode cX9_readsItem 37 = .ok (.aload_n 0, 1) := by decide +kernel
theorem dX9_readsItem_38 : decode cX9_readsItem 38 = .ok (.invokevirtual 149, 3) := by decide +kernel
theorem dX9_readsItem_41 : decode cX9_readsItem 41 = .ok (.goto 20, 3) := by decide +kernel
theorem dX9_readsItem_44 : decode cX9_readsItem 44 = .ok (.iload_n 1, 1) := by decide +kernel
theorem dX9_readsItem_45 : decode cX9_readsItem 45 = .ok (.bipush 112, 2) := by decide +kernel
theorem dX9_readsItem_47 : decode cX9_readsItem 47 = .ok (.if_icmp .ne 10, 3) := by decide +kernel
theorem dX9_readsItem_50 : decode cX9_readsItem 50 = .ok (.aload_n 0, 1) := by decide +kernel
theorem dX9_readsItem_51 : decode cX9_readsItem 51 = .ok (.invokevirtual 152, 3) := by decide +kernel
theorem dX9_readsItem_54 : decode cX9_readsItem 54 = .ok (.goto 7, 3) := by decide +kernel
theorem dX9_readsItem_57 : decode cX9_readsItem 57 = .ok (.aload_n 0, 1) := by decide +kernel
theorem dX9_readsItem_58 : decode cX9_readsItem 58 = .ok (.invokevirtual 155, 3) := by decide +kernel
theorem dX9_readsItem_61 : decode cX9_readsItem 61 = .ok (.return_, 1) := by decide +kernel
theorem dX9_sorts_0 : decode cX9_sorts 0 = .ok (.iconst 0, 1) := by decide +kernel
theorem dX9_sorts_1 : decode cX9_sorts 1 = .ok (.istore_n 1, 1) := by decide +kernel
theorem dX9_sorts_2 : decode cX9_sorts 2 = .ok (.iload_n 1, 1) := by decide +kernel
theorem dX9_sorts_3 : decode cX9_sorts 3 = .ok (.aload_n 0, 1) := by decide +kernel
theorem dX9_sorts_4 : decode cX9_sorts 4 = .ok (.getfield 16, 3) := by decide +kernel
theorem dX9_sorts_7 : decode cX9_sorts 7 = .ok (.iconst 1, 1) := by decide +kernel
theorem dX9_sorts_8 : decode cX9_sorts 8 = .ok (.iaload, 1) := by decide +kernel
theorem dX9_sorts_9 : decode cX9_sorts 9 = .ok (.if_icmp .ge 166, 3) := by decide +kernel
theorem dX9_sorts_12 : decode cX9_sorts 12 = .ok (.iconst 0, 1) := by decide +kernel
theorem dX9_sorts_13 : decode cX9_sorts 13 = .ok (.istore_n 2, 1) := by decide +kernel
theorem dX9_sorts_14 : decode cX9_sorts 14 = .ok (.iload_n 2, 1) := by decide +kernel
theorem dX9_sorts_15 : decode cX9_sorts 15 = .ok (.iconst 1, 1) := by decide +kernel
theorem dX9_sorts_16 : decode cX9_sorts 16 = .ok (.iadd, 1) := by decide +kernel
theorem dX9_sorts_17 : decode cX9_sorts 17 = .ok (.aload_n 0, 1) := by decide +kernel
theorem dX9_sorts_18 : decode cX9_sorts 18 = .ok (.getfield 16, 3) := by decide +kernel
theorem dX9_sorts_21 : decode cX9_sorts 21 = .ok (.iconst 1, 1) := by decide +kernel
theorem dX9_sorts_22 : decode cX9_sorts 22 = .ok (.iaload, 1) := by decide +kernel
theorem dX9_sorts_23 : decode cX9_sorts 23 = .ok (.if_icmp .ge 146, 3) := by decide +kernel
theorem dX9_sorts_26 : decode cX9_sorts 26 = .ok (.bipush 16, 2) := by decide +kernel
theorem dX9_sorts_28 : decode cX9_sorts 28 = .ok (.aload_n 0, 1) := by decide +kernel
theorem dX9_sorts_29 : decode cX9_sorts 29 = .ok (.getfield 16, 3) := by decide +kernel
theorem dX9_sorts_32 : decode cX9_sorts 32 = .ok (.bipush 22, 2) := by decide +kernel
theorem dX9_sorts_34 : decode cX9_sorts 34 = .ok (.iload_n 2, 1) := by decide +kernel
theorem dX9_sorts_35 : decode cX9_sorts 35 = .ok (.iadd, 1) := by decide +kernel
theorem dX9_sorts_36 : decode cX9_sorts 36 = .ok (.iaload, 1) := by decide +kernel
theorem dX9_sorts_37 : decode cX9_sorts 37 = .ok (.imul, 1) := by decide +kernel
theorem dX9_sorts_38 : decode cX9_sorts 38 = .ok (.aload_n 0, 1) := by decide +kernel
theorem dX9_sorts_39 : decode cX9_sorts 39 = .ok (.getfield 16, 3) := by decide +kernel
theorem dX9_sorts_42 : decode cX9_sorts 42 = .ok (.bipush 36, 2) := by decide +kernel
theorem dX9_sorts_44 : decode cX9_sorts 44 = .ok (.iload_n 2, 1) := by decide +kernel
theorem dX9_sorts_45 : decode cX9_sorts 45 = .ok (.iadd, 1) := by decide +kernel
theorem dX9_sorts_46 : decode cX9_sorts 46 = .ok (.iaload, 1) := by decide +kernel
theorem dX9_sorts_47 : decode cX9_sorts 47 = .ok (.iadd, 1) := by decide +kernel
theorem dX9_sorts_48 : decode cX9_sorts 48 = .ok (.bipush 16, 2) := by decide +kernel
theorem dX9_sorts_50 : decode cX9_sorts 50 = .ok (.aload_n 0, 1) := by decide +kernel
theorem dX9_sorts_51 : decode cX9_sorts 51 = .ok (.getfield 16, 3) := by decide +kernel
theorem dX9_sorts_54 : decode cX9_sorts 54 = .ok (.bipush 22, 2) := by decide +kernel
theorem dX9_sorts_56 : decode cX9_sorts 56 = .ok (.iload_n 2, 1) := by decide +kernel
theorem dX9_sorts_57 : decode cX9_sorts 57 = .ok (.iadd, 1) := by decide +kernel
theorem dX9_sorts_58 : decode cX9_sorts 58 = .ok (.iconst 1, 1) := by decide +kernel
theorem dX9_sorts_59 : decode cX9_sorts 59 = .ok (.iadd, 1) := by decide +kernel
theorem dX9_sorts_60 : decode cX9_sorts 60 = .ok (.iaload, 1) := by decide +kernel
theorem dX9_sorts_61 : decode cX9_sorts 61 = .ok (.imul, 1) := by decide +kernel
theorem dX9_sorts_62 : decode cX9_sorts 62 = .ok (.aload_n 0, 1) := by decide +kernel
theorem dX9_sorts_63 : decode cX9_sorts 63 = .ok (.getfield 16, 3) := by decide +kernel
theorem dX9_sorts_66 : decode cX9_sorts 66 = .ok (.bipush 36, 2) := by decide +kernel
theorem dX9_sorts_68 : decode cX9_sorts 68 = .ok (.iload_n 2, 1) := by decide +kernel
theorem dX9_sorts_69 : decode cX9_sorts 69 = .ok (.iadd, 1) := by decide +kernel
theorem dX9_sorts_70 : decode cX9_sorts 70 = .ok (.iconst 1, 1) := by decide +kernel
theorem dX9_sorts_71 : decode cX9_sorts 71 = .ok (.iadd, 1) := by decide +kernel
theorem dX9_sorts_72 : decode cX9_sorts 72 = .ok (.iaload, 1) := by decide +kernel
theorem dX9_sorts_73 : decode cX9_sorts 73 = .ok (.iadd, 1) := by decide +kernel
theorem dX9_sorts_74 : decode cX9_sorts 74 = .ok (.if_icmp .le 89, 3) := by decide +kernel
theorem dX9_sorts_77 : decode cX9_sorts 77 = .ok (.aload_n 0, 1) := by decide +kernel
theorem dX9_sorts_78 : decode cX9_sorts 78 = .ok (.getfield 16, 3) := by decide +kernel
theorem dX9_sorts_81 : decode cX9_sorts 81 = .ok (.bipush 22, 2) := by decide +kernel
theorem dX9_sorts_83 : decode cX9_sorts 83 = .ok (.iload_n 2, 1) := by decide +kernel
theorem dX9_sorts_84 : decode cX9_sorts 84 = .ok (.iadd, 1) := by decide +kernel
theorem dX9_sorts_85 : decode cX9_sorts 85 = .ok (.iaload, 1) := by decide +kernel
theorem dX9_sorts_86 : decode cX9_sorts 86 = .ok (.istore_n 3, 1) := by decide +kernel
theorem dX9_sorts_87 : decode cX9_sorts 87 = .ok (.aload_n 0, 1) := by decide +kernel
theorem dX9_sorts_88 : decode cX9_sorts 88 = .ok (.getfield 16, 3) := by decide +kernel
theorem dX9_sorts_91 : decode cX9_sorts 91 = .ok (.bipush 36, 2) := by decide +kernel
theorem dX9_sorts_93 : decode cX9_sorts 93 = .ok (.iload_n 2, 1) := by decide +kernel
theorem dX9_sorts_94 : decode cX9_sorts 94 = .ok (.iadd, 1) := by decide +kernel
theorem dX9_sorts_95 : decode cX9_sorts 95 = .ok (.iaload, 1) := by decide +kernel
theorem dX9_sorts_96 : decode cX9_sorts 96 = .ok (.istore 4, 2) := by decide +kernel
theorem dX9_sorts_98 : decode cX9_sorts 98 = .ok (.aload_n 0, 1) := by decide +kernel
theorem dX9_sorts_99 : decode cX9_sorts 99 = .ok (.getfield 16, 3) := by decide +kernel
theorem dX9_sorts_102 : decode cX9_sorts 102 = .ok (.bipush 22, 2) := by decide +kernel
theorem dX9_sorts_104 : decode cX9_sorts 104 = .ok (.iload_n 2, 1) := by decide +kernel
theorem dX9_sorts_105 : decode cX9_sorts 105 = .ok (.iadd, 1) := by decide +kernel
theorem dX9_sorts_106 : decode cX9_sorts 106 = .ok (.aload_n 0, 1) := by decide +kernel
theorem dX9_sorts_107 : decode cX9_sorts 107 = .ok (.getfield 16, 3) := by decide +kernel
theorem dX9_sorts_110 : decode cX9_sorts 110 = .ok (.bipush 22, 2) := by decide +kernel
theorem dX9_sorts_112 : decode cX9_sorts 112 = .ok (.iload_n 2, 1) := by decide +kernel
theorem dX9_sorts_113 : decode cX9_sorts 113 = .ok (.iadd, 1) := by decide +kernel
theorem dX9_sorts_114 : decode cX9_sorts 114 = .ok (.iconst 1, 1) := by decide +kernel
theorem dX9_sorts_115 : decode cX9_sorts 115 = .ok (.iadd, 1) := by decide +kernel
theorem dX9_sorts_116 : decode cX9_sorts 116 = .ok (.iaload, 1) := by decide +kernel
theorem dX9_sorts_117 : decode cX9_sorts 117 = .ok (.iastore, 1) := by decide +kernel
theorem dX9_sorts_118 : decode cX9_sorts 118 = .ok (.aload_n 0, 1) := by decide +kernel
theorem dX9_sorts_119 : decode cX9_sorts 119 = .ok (.getfield 16, 3) := by decide +kernel
theorem dX9_sorts_122 : decode cX9_sorts 122 = .ok (.bipush 36, 2) := by decide +kernel
theorem dX9_sorts_124 : decode cX9_sorts 124 = .ok (.iload_n 2, 1) := by decide +kernel
theorem dX9_sorts_125 : decode cX9_sorts 125 = .ok (.iadd, 1) := by decide +kernel
theorem dX9_sorts_126 : decode cX9_sorts 126 = .ok (.aload_n 0, 1) := by decide +kernel
theorem dX9_sorts_127 : decode cX9_sorts 127 = .ok (.getfield 16, 3) := by decide +kernel
theorem dX9_sorts_130 : decode cX9_sorts 130 = .ok (.bipush 36, 2) := by decide +kernel
theorem dX9_sorts_132 : decode cX9_sorts 132 = .ok (.iload_n 2, 1) := by decide +kernel
theorem dX9_sorts_133 : decode cX9_sorts 133 = .ok (.iadd, 1) := by decide +kernel
theorem dX9_sorts_134 : decode cX9_sorts 134 = .ok (.iconst 1, 1) := by decide +kernel
theorem dX9_sorts_135 : decode cX9_sorts 135 = .ok (.iadd, 1) := by decide +kernel
theorem dX9_sorts_136 : decode cX9_sorts 136 = .ok (.iaload, 1) := by decide +kernel
theorem dX9_sorts_137 : decode cX9_sorts 137 = .ok (.iastore, 1) := by decide +kernel
theorem dX9_sorts_138 : decode cX9_sorts 138 = .ok (.aload_n 0, 1) := by decide +kernel
theorem dX9_sorts_139 : decode cX9_sorts 139 = .ok (.getfield 16, 3) := by decide +kernel
theorem dX9_sorts_142 : decode cX9_sorts 142 = .ok (.bipush 22, 2) := by decide +kernel
theorem dX9_sorts_144 : decode cX9_sorts 144 = .ok (.iload_n 2, 1) := by decide +kernel
theorem dX9_sorts_145 : decode cX9_sorts 145 = .ok (.iadd, 1) := by decide +kernel
theorem dX9_sorts_146 : decode cX9_sorts 146 = .ok (.iconst 1, 1) := by decide +kernel
theorem dX9_sorts_147 : decode cX9_sorts 147 = .ok (.iadd, 1) := by decide +kernel
theorem dX9_sorts_148 : decode cX9_sorts 148 = .ok (.iload_n 3, 1) := by decide +kernel
theorem dX9_sorts_149 : decode cX9_sorts 149 = .ok (.iastore, 1) := by decide +kernel
theorem dX9_sorts_150 : decode cX9_sorts 150 = .ok (.aload_n 0, 1) := by decide +kernel
theorem dX9_sorts_151 : decode cX9_sorts 151 = .ok (.getfield 16, 3) := by decide +kernel
theorem dX9_sorts_154 : decode cX9_sorts 154 = .ok (.bipush 36, 2) := by decide +kernel
theorem dX9_sorts_156 : decode cX9_sorts 156 = .ok (.iload_n 2, 1) := by decide +kernel
theorem dX9_sorts_157 : decode cX9_sorts 157 = .ok (.iadd, 1) := by decide +kernel
theorem dX9_sorts_158 : decode cX9_sorts 158 = .ok (.iconst 1, 1) := by decide +kernel
theorem dX9_sorts_159 : decode cX9_sorts 159 = .ok (.iadd, 1) := by decide +kernel
theorem dX9_sorts_160 : decode cX9_sorts 160 = .ok (.iload 4, 2) := by decide +kernel
theorem dX9_sorts_162 : decode cX9_sorts 162 = .ok (.iastore, 1) := by decide +kernel
theorem dX9_sorts_163 : decode cX9_sorts 163 = .ok (.iinc 2 1, 3) := by decide +kernel
theorem dX9_sorts_166 : decode cX9_sorts 166 = .ok (.goto (-152), 3) := by decide +kernel
theorem dX9_sorts_169 : decode cX9_sorts 169 = .ok (.iinc 1 1, 3) := by decide +kernel
theorem dX9_sorts_172 : decode cX9_sorts 172 = .ok (.goto (-170), 3) := by decide +kernel
theorem dX9_sorts_175 : decode cX9_sorts 175 = .ok (.return_, 1) := by decide +kernel
theorem dX9_plate_0 : decode cX9_plate 0 = .ok (.aload_n 0, 1) := by decide +kernel
theorem dX9_plate_1 : decode cX9_plate 1 = .ok (.iconst 0, 1) := by decide +kernel
theorem dX9_plate_2 : decode cX9_plate 2 = .ok (.putfield 80, 3) := by decide +kernel
theorem dX9_plate_5 : decode cX9_plate 5 = .ok (.aload_n 0, 1) := by decide +kernel
theorem dX9_plate_6 : decode cX9_plate 6 = .ok (.iconst (-1), 1) := by decide +kernel
theorem dX9_plate_7 : decode cX9_plate 7 = .ok (.putfield 111, 3) := by decide +kernel
theorem dX9_plate_10 : decode cX9_plate 10 = .ok (.aload_n 0, 1) := by decide +kernel
theorem dX9_plate_11 : decode cX9_plate 11 = .ok (.iconst 0, 1) := by decide +kernel
theorem dX9_plate_12 : decode cX9_plate 12 = .ok (.putfield 95, 3) := by decide +kernel
theorem dX9_plate_15 : decode cX9_plate 15 = .ok (.aload_n 0, 1) := by decide +kernel
theorem dX9_plate_16 : decode cX9_plate 16 = .ok (.invokevirtual 74, 3) := by decide +kernel
theorem dX9_plate_19 : decode cX9_plate 19 = .ok (.iconst 0, 1) := by decide +kernel
theorem dX9_plate_20 : decode cX9_plate 20 = .ok (.istore_n 1, 1) := by decide +kernel
theorem dX9_plate_21 : decode cX9_plate 21 = .ok (.aload_n 0, 1) := by decide +kernel
theorem dX9_plate_22 : decode cX9_plate 22 = .ok (.invokevirtual 118, 3) := by decide +kernel
theorem dX9_plate_25 : decode cX9_plate 25 = .ok (.aload_n 0, 1) := by decide +kernel
theorem dX9_plate_26 : decode cX9_plate 26 = .ok (.invokevirtual 114, 3) := by decide +kernel
theorem dX9_plate_29 : decode cX9_plate 29 = .ok (.ifCond .eq 71, 3) := by decide +kernel
theorem dX9_plate_32 : decode cX9_plate 32 = .ok (.aload_n 0, 1) := by decide +kernel
theorem dX9_plate_33 : decode cX9_plate 33 = .ok (.getfield 105, 3) := by decide +kernel
theorem dX9_plate_36 : decode cX9_plate 36 = .ok (.ifCond .eq 64, 3) := by decide +kernel
theorem dX9_plate_39 : decode cX9_plate 39 = .ok (.aload_n 0, 1) := by decide +kernel
theorem dX9_plate_40 : decode cX9_plate 40 = .ok (.aload_n 0, 1) := by decide +kernel
theorem dX9_plate_41 : decode cX9_plate 41 = .ok (.getfield 105, 3) := by decide +kernel
theorem dX9_plate_44 : decode cX9_plate 44 = .ok (.iconst 1, 1) := by decide +kernel
theorem dX9_plate_45 : decode cX9_plate 45 = .ok (.if_icmp .ne 14, 3) := by decide +kernel
theorem dX9_plate_48 : decode cX9_plate 48 = .ok (.aload_n 0, 1) := by decide +kernel
theorem dX9_plate_49 : decode cX9_plate 49 = .ok (.invokevirtual 158, 3) := by decide +kernel
theorem dX9_plate_52 : decode cX9_plate 52 = .ok (.ifCond .eq 7, 3) := by decide +kernel
theorem dX9_plate_55 : decode cX9_plate 55 = .ok (.iconst 1, 1) := by decide +kernel
theorem dX9_plate_56 : decode cX9_plate 56 = .ok (.goto 4, 3) := by decide +kernel
theorem dX9_plate_59 : decode cX9_plate 59 = .ok (.iconst 0, 1) := by decide +kernel
theorem dX9_plate_60 : decode cX9_plate 60 = .ok (.invokevirtual 132, 3) := by decide +kernel
theorem dX9_plate_63 : decode cX9_plate 63 = .ok (.istore_n 2, 1) := by decide +kernel
theorem dX9_plate_64 : decode cX9_plate 64 = .ok (.aload_n 0, 1) := by decide +kernel
theorem dX9_plate_65 : decode cX9_plate 65 = .ok (.invokevirtual 114, 3) := by decide +kernel
theorem dX9_plate_68 : decode cX9_plate 68 = .ok (.ifCond .eq 8, 3) := by decide +kernel
theorem dX9_plate_71 : decode cX9_plate 71 = .ok (.aload_n 0, 1) := by decide +kernel
theorem dX9_plate_72 : decode cX9_plate 72 = .ok (.iload_n 2, 1) := by decide +kernel
theorem dX9_plate_73 : decode cX9_plate 73 = .ok (.invokevirtual 161, 3) := by decide +kernel
theorem dX9_plate_76 : decode cX9_plate 76 = .ok (.aload_n 0, 1) := by decide +kernel
theorem dX9_plate_77 : decode cX9_plate 77 = .ok (.aload_n 0, 1) := by decide +kernel
theorem dX9_plate_78 : decode cX9_plate 78 = .ok (.getfield 105, 3) := by decide +kernel
theorem dX9_plate_81 : decode cX9_plate 81 = .ok (.iconst 3, 1) := by decide +kernel
theorem dX9_plate_82 : decode cX9_plate 82 = .ok (.if_icmp .ne 7, 3) := by decide +kernel
theorem dX9_plate_85 : decode cX9_plate 85 = .ok (.iconst 1, 1) := by decide +kernel
theorem dX9_plate_86 : decode cX9_plate 86 = .ok (.goto 4, 3) := by decide +kernel
theorem dX9_plate_89 : decode cX9_plate 89 = .ok (.iconst 0, 1) := by decide +kernel
theorem dX9_plate_90 : decode cX9_plate 90 = .ok (.invokevirtual 132, 3) := by decide +kernel
theorem dX9_plate_93 : decode cX9_plate 93 = .ok (.pop, 1) := by decide +kernel
theorem dX9_plate_94 : decode cX9_plate 94 = .ok (.iinc 1 1, 3) := by decide +kernel
theorem dX9_plate_97 : decode cX9_plate 97 = .ok (.goto (-72), 3) := by decide +kernel
theorem dX9_plate_100 : decode cX9_plate 100 = .ok (.aload_n 0, 1) := by decide +kernel
theorem dX9_plate_101 : decode cX9_plate 101 = .ok (.invokevirtual 114, 3) := by decide +kernel
theorem dX9_plate_104 : decode cX9_plate 104 = .ok (.ifCond .ne 11, 3) := by decide +kernel
theorem dX9_plate_107 : decode cX9_plate 107 = .ok (.bipush (-10), 2) := by decide +kernel
theorem dX9_plate_109 : decode cX9_plate 109 = .ok (.aload_n 0, 1) := by decide +kernel
theorem dX9_plate_110 : decode cX9_plate 110 = .ok (.getfield 111, 3) := by decide +kernel
theorem dX9_plate_113 : decode cX9_plate 113 = .ok (.isub, 1) := by decide +kernel
theorem dX9_plate_114 : decode cX9_plate 114 = .ok (.ireturn, 1) := by decide +kernel
theorem dX9_plate_115 : decode cX9_plate 115 = .ok (.aload_n 0, 1) := by decide +kernel
theorem dX9_plate_116 : decode cX9_plate 116 = .ok (.invokevirtual 165, 3) := by decide +kernel
theorem dX9_plate_119 : decode cX9_plate 119 = .ok (.aload_n 0, 1) := by decide +kernel
theorem dX9_plate_120 : decode cX9_plate 120 = .ok (.invokevirtual 77, 3) := by decide +kernel
theorem dX9_plate_123 : decode cX9_plate 123 = .ok (.iload_n 1, 1) := by decide +kernel
theorem dX9_plate_124 : decode cX9_plate 124 = .ok (.ireturn, 1) := by decide +kernel
theorem dX9_settles_0 : decode cX9_settles 0 = .ok (.iconst 0, 1) := by decide +kernel
theorem dX9_settles_1 : decode cX9_settles 1 = .ok (.istore_n 1, 1) := by decide +kernel
theorem dX9_settles_2 : decode cX9_settles 2 = .ok (.iload_n 1, 1) := by decide +kernel
theorem dX9_settles_3 : decode cX9_settles 3 = .ok (.bipush 74, 2) := by decide +kernel
theorem dX9_settles_5 : decode cX9_settles 5 = .ok (.if_icmp .ge 21, 3) := by decide +kernel
theorem dX9_settles_8 : decode cX9_settles 8 = .ok (.aload_n 0, 1) := by decide +kernel
theorem dX9_settles_9 : decode cX9_settles 9 = .ok (.getfield 13, 3) := by decide +kernel
theorem dX9_settles_12 : decode cX9_settles 12 = .ok (.iload_n 1, 1) := by decide +kernel
theorem dX9_settles_13 : decode cX9_settles 13 = .ok (.aload_n 0, 1) := by decide +kernel
theorem dX9_settles_14 : decode cX9_settles 14 = .ok (.getfield 16, 3) := by decide +kernel
theorem dX9_settles_17 : decode cX9_settles 17 = .ok (.iload_n 1, 1) := by decide +kernel
theorem dX9_settles_18 : decode cX9_settles 18 = .ok (.iaload, 1) := by decide +kernel
theorem dX9_settles_19 : decode cX9_settles 19 = .ok (.iastore, 1) := by decide +kernel
theorem dX9_settles_20 : decode cX9_settles 20 = .ok (.iinc 1 1, 3) := by decide +kernel
theorem dX9_settles_23 : decode cX9_settles 23 = .ok (.goto (-21), 3) := by decide +kernel
theorem dX9_settles_26 : decode cX9_settles 26 = .ok (.aload_n 0, 1) := by decide +kernel
theorem dX9_settles_27 : decode cX9_settles 27 = .ok (.getfield 19, 3) := by decide +kernel
theorem dX9_settles_30 : decode cX9_settles 30 = .ok (.iconst 0, 1) := by decide +kernel
theorem dX9_settles_31 : decode cX9_settles 31 = .ok (.iconst 1, 1) := by decide +kernel
theorem dX9_settles_32 : decode cX9_settles 32 = .ok (.aload_n 0, 1) := by decide +kernel
theorem dX9_settles_33 : decode cX9_settles 33 = .ok (.getfield 13, 3) := by decide +kernel
theorem dX9_settles_36 : decode cX9_settles 36 = .ok (.iconst 1, 1) := by decide +kernel
theorem dX9_settles_37 : decode cX9_settles 37 = .ok (.iaload, 1) := by decide +kernel
theorem dX9_settles_38 : decode cX9_settles 38 = .ok (.ishl, 1) := by decide +kernel
theorem dX9_settles_39 : decode cX9_settles 39 = .ok (.iconst 1, 1) := by decide +kernel
theorem dX9_settles_40 : decode cX9_settles 40 = .ok (.isub, 1) := by decide +kernel
theorem dX9_settles_41 : decode cX9_settles 41 = .ok (.iastore, 1) := by decide +kernel
theorem dX9_settles_42 : decode cX9_settles 42 = .ok (.aload_n 0, 1) := by decide +kernel
theorem dX9_settles_43 : decode cX9_settles 43 = .ok (.getfield 19, 3) := by decide +kernel
theorem dX9_settles_46 : decode cX9_settles 46 = .ok (.iconst 1, 1) := by decide +kernel
theorem dX9_settles_47 : decode cX9_settles 47 = .ok (.aload_n 0, 1) := by decide +kernel
theorem dX9_settles_48 : decode cX9_settles 48 = .ok (.getfield 13, 3) := by decide +kernel
theorem dX9_settles_51 : decode cX9_settles 51 = .ok (.iconst 0, 1) := by decide +kernel
theorem dX9_settles_52 : decode cX9_settles 52 = .ok (.iaload, 1) := by decide +kernel
theorem dX9_settles_53 : decode cX9_settles 53 = .ok (.ifCond .ne 8, 3) := by decide +kernel
theorem dX9_settles_56 : decode cX9_settles 56 = .ok (.bipush (-9), 2) := by decide +kernel
theorem dX9_settles_58 : decode cX9_settles 58 = .ok (.goto 4, 3) := by decide +kernel
theorem dX9_settles_61 : decode cX9_settles 61 = .ok (.iconst 0, 1) := by decide +kernel
theorem dX9_settles_62 : decode cX9_settles 62 = .ok (.iastore, 1) := by decide +kernel
theorem dX9_settles_63 : decode cX9_settles 63 = .ok (.aload_n 0, 1) := by decide +kernel
theorem dX9_settles_64 : decode cX9_settles 64 = .ok (.getfield 19, 3) := by decide +kernel
theorem dX9_settles_67 : decode cX9_settles 67 = .ok (.iconst 2, 1) := by decide +kernel
theorem dX9_settles_68 : decode cX9_settles 68 = .ok (.iconst 0, 1) := by decide +kernel
theorem dX9_settles_69 : decode cX9_settles 69 = .ok (.iastore, 1) := by decide +kernel
theorem dX9_settles_70 : decode cX9_settles 70 = .ok (.aload_n 0, 1) := by decide +kernel
theorem dX9_settles_71 : decode cX9_settles 71 = .ok (.getfield 19, 3) := by decide +kernel
theorem dX9_settles_74 : decode cX9_settles 74 = .ok (.iconst 3, 1) := by decide +kernel
theorem dX9_settles_75 : decode cX9_settles 75 = .ok (.iconst 0, 1) := by decide +kernel
theorem dX9_settles_76 : decode cX9_settles 76 = .ok (.iastore, 1) := by decide +kernel
theorem dX9_settles_77 : decode cX9_settles 77 = .ok (.iconst 0, 1) := by decide +kernel
theorem dX9_settles_78 : decode cX9_settles 78 = .ok (.istore_n 1, 1) := by decide +kernel
theorem dX9_settles_79 : decode cX9_settles 79 = .ok (.iload_n 1, 1) := by decide +kernel
theorem dX9_settles_80 : decode cX9_settles 80 = .ok (.bipush 9, 2) := by decide +kernel
theorem dX9_settles_82 : decode cX9_settles 82 = .ok (.if_icmp .ge 19, 3) := by decide +kernel
theorem dX9_settles_85 : decode cX9_settles 85 = .ok (.aload_n 0, 1) := by decide +kernel
theorem dX9_settles_86 : decode cX9_settles 86 = .ok (.getfield 19, 3) := by decide +kernel
theorem dX9_settles_89 : decode cX9_settles 89 = .ok (.iconst 4, 1) := by decide +kernel
theorem dX9_settles_90 : decode cX9_settles 90 = .ok (.iload_n 1, 1) := by decide +kernel
theorem dX9_settles_91 : decode cX9_settles 91 = .ok (.iadd, 1) := by decide +kernel
theorem dX9_settles_92 : decode cX9_settles 92 = .ok (.bipush (-9), 2) := by decide +kernel
theorem dX9_settles_94 : decode cX9_settles 94 = .ok (.iastore, 1) := by decide +kernel
theorem dX9_settles_95 : decode cX9_settles 95 = .ok (.iinc 1 1, 3) := by decide +kernel
theorem dX9_settles_98 : decode cX9_settles 98 = .ok (.goto (-19), 3) := by decide +kernel
theorem dX9_settles_101 : decode cX9_settles 101 = .ok (.iconst 0, 1) := by decide +kernel
theorem dX9_settles_102 : decode cX9_settles 102 = .ok (.istore_n 1, 1) := by decide +kernel
theorem dX9_settles_103 : decode cX9_settles 103 = .ok (.iload_n 1, 1) := by decide +kernel
theorem dX9_settles_104 : decode cX9_settles 104 = .ok (.aload_n 0, 1) := by decide +kernel
theorem dX9_settles_105 : decode cX9_settles 105 = .ok (.getfield 13, 3) := by decide +kernel
theorem dX9_settles_108 : decode cX9_settles 108 = .ok (.iconst 2, 1) := by decide +kernel
theorem dX9_settles_109 : decode cX9_settles 109 = .ok (.iaload, 1) := by decide +kernel
theorem dX9_settles_110 : decode cX9_settles 110 = .ok (.if_icmp .ge 64, 3) := by decide +kernel
theorem dX9_settles_113 : decode cX9_settles 113 = .ok (.aload_n 0, 1) := by decide +kernel
theorem dX9_settles_114 : decode cX9_settles 114 = .ok (.getfield 41, 3) := by decide +kernel
theorem dX9_settles_117 : decode cX9_settles 117 = .ok (.iload_n 1, 1) := by decide +kernel
theorem dX9_settles_118 : decode cX9_settles 118 = .ok (.iconst 0, 1) := by decide +kernel
theorem dX9_settles_119 : decode cX9_settles 119 = .ok (.iastore, 1) := by decide +kernel
theorem dX9_settles_120 : decode cX9_settles 120 = .ok (.iconst 0, 1) := by decide +kernel
theorem dX9_settles_121 : decode cX9_settles 121 = .ok (.istore_n 2, 1) := by decide +kernel
theorem dX9_settles_122 : decode cX9_settles 122 = .ok (.iload_n 2, 1) := by decide +kernel
theorem dX9_settles_123 : decode cX9_settles 123 = .ok (.aload_n 0, 1) := by decide +kernel
theorem dX9_settles_124 : decode cX9_settles 124 = .ok (.getfield 13, 3) := by decide +kernel
theorem dX9_settles_127 : decode cX9_settles 127 = .ok (.iconst 2, 1) := by decide +kernel
theorem dX9_settles_128 : decode cX9_settles 128 = .ok (.iaload, 1) := by decide +kernel
theorem dX9_settles_129 : decode cX9_settles 129 = .ok (.if_icmp .ge 39, 3) := by decide +kernel
theorem dX9_settles_132 : decode cX9_settles 132 = .ok (.aload_n 0, 1) := by decide +kernel
theorem dX9_settles_133 : decode cX9_settles 133 = .ok (.getfield 41, 3) := by decide +kernel
theorem dX9_settles_136 : decode cX9_settles 136 = .ok (.iload_n 1, 1) := by decide +kernel
theorem dX9_settles_137 : decode cX9_settles 137 = .ok (.dup2, 1) := by decide +kernel
theorem dX9_settles_138 : decode cX9_settles 138 = .ok (.iaload, 1) := by decide +kernel
theorem dX9_settles_139 : decode cX9_settles 139 = .ok (.iload_n 1, 1) := by decide +kernel
theorem dX9_settles_140 : decode cX9_settles 140 = .ok (.iload_n 2, 1) := by decide +kernel
theorem dX9_settles_141 : decode cX9_settles 141 = .ok (.if_icmp .eq 18, 3) := by decide +kernel
theorem dX9_settles_144 : decode cX9_settles 144 = .ok (.aload_n 0, 1) := by decide +kernel
theorem dX9_settles_145 : decode cX9_settles 145 = .ok (.iload_n 1, 1) := by decide +kernel
theorem dX9_settles_146 : decode cX9_settles 146 = .ok (.iload_n 2, 1) := by decide +kernel
theorem dX9_settles_147 : decode cX9_settles 147 = .ok (.invokevirtual 168, 3) := by decide +kernel
theorem dX9_settles_150 : decode cX9_settles 150 = .ok (.ifCond .eq 9, 3) := by decide +kernel
theorem dX9_settles_153 : decode cX9_settles 153 = .ok (.iconst 1, 1) := by decide +kernel
theorem dX9_settles_154 : decode cX9_settles 154 = .ok (.iload_n 2, 1) := by decide +kernel
theorem dX9_settles_155 : decode cX9_settles 155 = .ok (.ishl, 1) := by decide +kernel
theorem dX9_settles_156 : decode cX9_settles 156 = .ok (.goto 4, 3) := by decide +kernel
theorem dX9_settles_159 : decode cX9_settles 159 = .ok (.iconst 0, 1) := by decide +kernel
theorem dX9_settles_160 : decode cX9_settles 160 = .ok (.ior, 1) := by decide +kernel
theorem dX9_settles_161 : decode cX9_settles 161 = .ok (.iastore, 1) := by decide +kernel
theorem dX9_settles_162 : decode cX9_settles 162 = .ok (.iinc 2 1, 3) := by decide +kernel
theorem dX9_settles_165 : decode cX9_settles 165 = .ok (.goto (-43), 3) := by decide +kernel
theorem dX9_settles_168 : decode cX9_settles 168 = .ok (.iinc 1 1, 3) := by decide +kernel
theorem dX9_settles_171 : decode cX9_settles 171 = .ok (.goto (-68), 3) := by decide +kernel
theorem dX9_settles_174 : decode cX9_settles 174 = .ok (.aload_n 0, 1) := by decide +kernel
theorem dX9_settles_175 : decode cX9_settles 175 = .ok (.iconst 0, 1) := by decide +kernel
theorem dX9_settles_176 : decode cX9_settles 176 = .ok (.putfield 92, 3) := by decide +kernel
theorem dX9_settles_179 : decode cX9_settles 179 = .ok (.aload_n 0, 1) := by decide +kernel
theorem dX9_settles_180 : decode cX9_settles 180 = .ok (.iconst 0, 1) := by decide +kernel
theorem dX9_settles_181 : decode cX9_settles 181 = .ok (.putfield 171, 3) := by decide +kernel
theorem dX9_settles_184 : decode cX9_settles 184 = .ok (.aload_n 0, 1) := by decide +kernel
theorem dX9_settles_185 : decode cX9_settles 185 = .ok (.iconst 0, 1) := by decide +kernel
theorem dX9_settles_186 : decode cX9_settles 186 = .ok (.putfield 174, 3) := by decide +kernel
theorem dX9_settles_189 : decode cX9_settles 189 = .ok (.aload_n 0, 1) := by decide +kernel
theorem dX9_settles_190 : decode cX9_settles 190 = .ok (.getfield 28, 3) := by decide +kernel
theorem dX9_settles_193 : decode cX9_settles 193 = .ok (.iconst 0, 1) := by decide +kernel
theorem dX9_settles_194 : decode cX9_settles 194 = .ok (.iconst 0, 1) := by decide +kernel
theorem dX9_settles_195 : decode cX9_settles 195 = .ok (.bastore, 1) := by decide +kernel
theorem dX9_settles_196 : decode cX9_settles 196 = .ok (.aload_n 0, 1) := by decide +kernel
theorem dX9_settles_197 : decode cX9_settles 197 = .ok (.getfield 28, 3) := by decide +kernel
theorem dX9_settles_200 : decode cX9_settles 200 = .ok (.iconst 1, 1) := by decide +kernel
theorem dX9_settles_201 : decode cX9_settles 201 = .ok (.iconst 0, 1) := by decide +kernel
theorem dX9_settles_202 : decode cX9_settles 202 = .ok (.bastore, 1) := by decide +kernel
theorem dX9_settles_203 : decode cX9_settles 203 = .ok (.return_, 1) := by decide +kernel
theorem dX9_ringAt_0 : decode cX9_ringAt 0 = .ok (.aload_n 0, 1) := by decide +kernel
theorem dX9_ringAt_1 : decode cX9_ringAt 1 = .ok (.getfield 13, 3) := by decide +kernel
theorem dX9_ringAt_4 : decode cX9_ringAt 4 = .ok (.bipush 54, 2) := by decide +kernel
theorem dX9_ringAt_6 : decode cX9_ringAt 6 = .ok (.iconst 5, 1) := by decide +kernel
theorem dX9_ringAt_7 : decode cX9_ringAt 7 = .ok (.iload_n 1, 1) := by decide +kernel
theorem dX9_ringAt_8 : decode cX9_ringAt 8 = .ok (.imul, 1) := by decide +kernel
theorem dX9_ringAt_9 : decode cX9_ringAt 9 = .ok (.iadd, 1) := by decide +kernel
theorem dX9_ringAt_10 : decode cX9_ringAt 10 = .ok (.iload_n 2, 1) := by decide +kernel
theorem dX9_ringAt_11 : decode cX9_ringAt 11 = .ok (.aload_n 0, 1) := by decide +kernel
theorem dX9_ringAt_12 : decode cX9_ringAt 12 = .ok (.getfield 13, 3) := by decide +kernel
theorem dX9_ringAt_15 : decode cX9_ringAt 15 = .ok (.bipush 50, 2) := by decide +kernel
theorem dX9_ringAt_17 : decode cX9_ringAt 17 = .ok (.iload_n 1, 1) := by decide +kernel
theorem dX9_ringAt_18 : decode cX9_ringAt 18 = .ok (.iadd, 1) := by decide +kernel
theorem dX9_ringAt_19 : decode cX9_ringAt 19 = .ok (.iaload, 1) := by decide +kernel
theorem dX9_ringAt_20 : decode cX9_ringAt 20 = .ok (.irem, 1) := by decide +kernel
theorem dX9_ringAt_21 : decode cX9_ringAt 21 = .ok (.iadd, 1) := by decide +kernel
theorem dX9_ringAt_22 : decode cX9_ringAt 22 = .ok (.iaload, 1) := by decide +kernel
theorem dX9_ringAt_23 : decode cX9_ringAt 23 = .ok (.ireturn, 1) := by decide +kernel
theorem dX9_side_0 : decode cX9_side 0 = .ok (.aload_n 0, 1) := by decide +kernel
theorem dX9_side_1 : decode cX9_side 1 = .ok (.getfield 13, 3) := by decide +kernel
theorem dX9_side_4 : decode cX9_side 4 = .ok (.iconst 4, 1) := by decide +kernel
theorem dX9_side_5 : decode cX9_side 5 = .ok (.iload_n 2, 1) := by decide +kernel
theorem dX9_side_6 : decode cX9_side 6 = .ok (.iadd, 1) := by decide +kernel
theorem dX9_side_7 : decode cX9_side 7 = .ok (.iaload, 1) := by decide +kernel
theorem dX9_side_8 : decode cX9_side 8 = .ok (.aload_n 0, 1) := by decide +kernel
theorem dX9_side_9 : decode cX9_side 9 = .ok (.getfield 13, 3) := by decide +kernel
theorem dX9_side_12 : decode cX9_side 12 = .ok (.iconst 4, 1) := by decide +kernel
theorem dX9_side_13 : decode cX9_side 13 = .ok (.iload_n 1, 1) := by decide +kernel
theorem dX9_side_14 : decode cX9_side 14 = .ok (.iadd, 1) := by decide +kernel
theorem dX9_side_15 : decode cX9_side 15 = .ok (.iaload, 1) := by decide +kernel
theorem dX9_side_16 : decode cX9_side 16 = .ok (.isub, 1) := by decide +kernel
theorem dX9_side_17 : decode cX9_side 17 = .ok (.aload_n 0, 1) := by decide +kernel
theorem dX9_side_18 : decode cX9_side 18 = .ok (.getfield 13, 3) := by decide +kernel
theorem dX9_side_21 : decode cX9_side 21 = .ok (.bipush 13, 2) := by decide +kernel
theorem dX9_side_23 : decode cX9_side 23 = .ok (.iload_n 3, 1) := by decide +kernel
theorem dX9_side_24 : decode cX9_side 24 = .ok (.iadd, 1) := by decide +kernel
theorem dX9_side_25 : decode cX9_side 25 = .ok (.iaload, 1) := by decide +kernel
theorem dX9_side_26 : decode cX9_side 26 = .ok (.aload_n 0, 1) := by decide +kernel
theorem dX9_side_27 : decode cX9_side 27 = .ok (.getfield 13, 3) := by decide +kernel
theorem dX9_side_30 : decode cX9_side 30 = .ok (.bipush 13, 2) := by decide +kernel
theorem dX9_side_32 : decode cX9_side 32 = .ok (.iload_n 1, 1) := by decide +kernel
theorem dX9_side_33 : decode cX9_side 33 = .ok (.iadd, 1) := by decide +kernel
theorem dX9_side_34 : decode cX9_side 34 = .ok (.iaload, 1) := by decide +kernel
theorem dX9_side_35 : decode cX9_side 35 = .ok (.isub, 1) := by decide +kernel
theorem dX9_side_36 : decode cX9_side 36 = .ok (.imul, 1) := by decide +kernel
theorem dX9_side_37 : decode cX9_side 37 = .ok (.aload_n 0, 1) := by decide +kernel
theorem dX9_side_38 : decode cX9_side 38 = .ok (.getfield 13, 3) := by decide +kernel
theorem dX9_side_41 : decode cX9_side 41 = .ok (.iconst 4, 1) := by decide +kernel
theorem dX9_side_42 : decode cX9_side 42 = .ok (.iload_n 3, 1) := by decide +kernel
theorem dX9_side_43 : decode cX9_side 43 = .ok (.iadd, 1) := by decide +kernel
theorem dX9_side_44 : decode cX9_side 44 = .ok (.iaload, 1) := by decide +kernel
theorem dX9_side_45 : decode cX9_side 45 = .ok (.aload_n 0, 1) := by decide +kernel
theorem dX9_side_46 : decode cX9_side 46 = .ok (.getfield 13, 3) := by decide +kernel
theorem dX9_side_49 : decode cX9_side 49 = .ok (.iconst 4, 1) := by decide +kernel
theorem dX9_side_50 : decode cX9_side 50 = .ok (.iload_n 1, 1) := by decide +kernel
theorem dX9_side_51 : decode cX9_side 51 = .ok (.iadd, 1) := by decide +kernel
theorem dX9_side_52 : decode cX9_side 52 = .ok (.iaload, 1) := by decide +kernel
theorem dX9_side_53 : decode cX9_side 53 = .ok (.isub, 1) := by decide +kernel
theorem dX9_side_54 : decode cX9_side 54 = .ok (.aload_n 0, 1) := by decide +kernel
theorem dX9_side_55 : decode cX9_side 55 = .ok (.getfield 13, 3) := by decide +kernel
theorem dX9_side_58 : decode cX9_side 58 = .ok (.bipush 13, 2) := by decide +kernel
theorem dX9_side_60 : decode cX9_side 60 = .ok (.iload_n 2, 1) := by decide +kernel
theorem dX9_side_61 : decode cX9_side 61 = .ok (.iadd, 1) := by decide +kernel
theorem dX9_side_62 : decode cX9_side 62 = .ok (.iaload, 1) := by decide +kernel
theorem dX9_side_63 : decode cX9_side 63 = .ok (.aload_n 0, 1) := by decide +kernel
theorem dX9_side_64 : decode cX9_side 64 = .ok (.getfield 13, 3) := by decide +kernel
theorem dX9_side_67 : decode cX9_side 67 = .ok (.bipush 13, 2) := by decide +kernel
theorem dX9_side_69 : decode cX9_side 69 = .ok (.iload_n 1, 1) := by decide +kernel
theorem dX9_side_70 : decode cX9_side 70 = .ok (.iadd, 1) := by decide +kernel
theorem dX9_side_71 : decode cX9_side 71 = .ok (.iaload, 1) := by decide +kernel
theorem dX9_side_72 : decode cX9_side 72 = .ok (.isub, 1) := by decide +kernel
theorem dX9_side_73 : decode cX9_side 73 = .ok (.imul, 1) := by decide +kernel
theorem dX9_side_74 : decode cX9_side 74 = .ok (.isub, 1) := by decide +kernel
theorem dX9_side_75 : decode cX9_side 75 = .ok (.ireturn, 1) := by decide +kernel
theorem dX9_isOn_0 : decode cX9_isOn 0 = .ok (.aload_n 0, 1) := by decide +kernel
theorem dX9_isOn_1 : decode cX9_isOn 1 = .ok (.getfield 13, 3) := by decide +kernel
theorem dX9_isOn_4 : decode cX9_isOn 4 = .ok (.iconst 4, 1) := by decide +kernel
theorem dX9_isOn_5 : decode cX9_isOn 5 = .ok (.iload_n 3, 1) := by decide +kernel
theorem dX9_isOn_6 : decode cX9_isOn 6 = .ok (.iadd, 1) := by decide +kernel
theorem dX9_isOn_7 : decode cX9_isOn 7 = .ok (.iaload, 1) := by decide +kernel
theorem dX9_isOn_8 : decode cX9_isOn 8 = .ok (.aload_n 0, 1) := by decide +kernel
theorem dX9_isOn_9 : decode cX9_isOn 9 = .ok (.getfield 13, 3) := by decide +kernel
theorem dX9_isOn_12 : decode cX9_isOn 12 = .ok (.iconst 4, 1) := by decide +kernel
theorem dX9_isOn_13 : decode cX9_isOn 13 = .ok (.iload_n 1, 1) := by decide +kernel
theorem dX9_isOn_14 : decode cX9_isOn 14 = .ok (.iadd, 1) := by decide +kernel
theorem dX9_isOn_15 : decode cX9_isOn 15 = .ok (.iaload, 1) := by decide +kernel
theorem dX9_isOn_16 : decode cX9_isOn 16 = .ok (.aload_n 0, 1) := by decide +kernel
theorem dX9_isOn_17 : decode cX9_isOn 17 = .ok (.getfield 13, 3) := by decide +kernel
theorem dX9_isOn_20 : decode cX9_isOn 20 = .ok (.iconst 4, 1) := by decide +kernel
theorem dX9_isOn_21 : decode cX9_isOn 21 = .ok (.iload_n 2, 1) := by decide +kernel
theorem dX9_isOn_22 : decode cX9_isOn 22 = .ok (.iadd, 1) := by decide +kernel
theorem dX9_isOn_23 : decode cX9_isOn 23 = .ok (.iaload, 1) := by decide +kernel
theorem dX9_isOn_24 : decode cX9_isOn 24 = .ok (.invokestatic 88, 3) := by decide +kernel
theorem dX9_isOn_27 : decode cX9_isOn 27 = .ok (.ifCond .ne 33, 3) := by decide +kernel
theorem dX9_isOn_30 : decode cX9_isOn 30 = .ok (.aload_n 0, 1) := by decide +kernel
theorem dX9_isOn_31 : decode cX9_isOn 31 = .ok (.getfield 13, 3) := by decide +kernel
theorem dX9_isOn_34 : decode cX9_isOn 34 = .ok (.iconst 4, 1) := by decide +kernel
theorem dX9_isOn_35 : decode cX9_isOn 35 = .ok (.iload_n 3, 1) := by decide +kernel
theorem dX9_isOn_36 : decode cX9_isOn 36 = .ok (.iadd, 1) := by decide +kernel
theorem dX9_isOn_37 : decode cX9_isOn 37 = .ok (.iaload, 1) := by decide +kernel
theorem dX9_isOn_38 : decode cX9_isOn 38 = .ok (.aload_n 0, 1) := by decide +kernel
theorem dX9_isOn_39 : decode cX9_isOn 39 = .ok (.getfield 13, 3) := by decide +kernel
theorem dX9_isOn_42 : decode cX9_isOn 42 = .ok (.iconst 4, 1) := by decide +kernel
theorem dX9_isOn_43 : decode cX9_isOn 43 = .ok (.iload_n 2, 1) := by decide +kernel
theorem dX9_isOn_44 : decode cX9_isOn 44 = .ok (.iadd, 1) := by decide +kernel
theorem dX9_isOn_45 : decode cX9_isOn 45 = .ok (.iaload, 1) := by decide +kernel
theorem dX9_isOn_46 : decode cX9_isOn 46 = .ok (.aload_n 0, 1) := by decide +kernel
theorem dX9_isOn_47 : decode cX9_isOn 47 = .ok (.getfield 13, 3) := by decide +kernel
theorem dX9_isOn_50 : decode cX9_isOn 50 = .ok (.iconst 4, 1) := by decide +kernel
theorem dX9_isOn_51 : decode cX9_isOn 51 = .ok (.iload_n 1, 1) := by decide +kernel
theorem dX9_isOn_52 : decode cX9_isOn 52 = .ok (.iadd, 1) := by decide +kernel
theorem dX9_isOn_53 : decode cX9_isOn 53 = .ok (.iaload, 1) := by decide +kernel
theorem dX9_isOn_54 : decode cX9_isOn 54 = .ok (.invokestatic 88, 3) := by decide +kernel
theorem dX9_isOn_57 : decode cX9_isOn 57 = .ok (.ifCond .eq 7, 3) := by decide +kernel
theorem dX9_isOn_60 : decode cX9_isOn 60 = .ok (.iconst 1, 1) := by decide +kernel
theorem dX9_isOn_61 : decode cX9_isOn 61 = .ok (.goto 4, 3) := by decide +kernel
theorem dX9_isOn_64 : decode cX9_isOn 64 = .ok (.iconst 0, 1) := by decide +kernel
theorem dX9_isOn_65 : decode cX9_isOn 65 = .ok (.istore 4, 2) := by decide +kernel
theorem dX9_isOn_67 : decode cX9_isOn 67 = .ok (.aload_n 0, 1) := by decide +kernel
theorem dX9_isOn_68 : decode cX9_isOn 68 = .ok (.getfield 13, 3) := by decide +kernel
theorem dX9_isOn_71 : decode cX9_isOn 71 = .ok (.bipush 13, 2) := by decide +kernel
theorem dX9_isOn_73 : decode cX9_isOn 73 = .ok (.iload_n 3, 1) := by decide +kernel
theorem dX9_isOn_74 : decode cX9_isOn 74 = .ok (.iadd, 1) := by decide +kernel
theorem dX9_isOn_75 : decode cX9_isOn 75 = .ok (.iaload, 1) := by decide +kernel
theorem dX9_isOn_76 : decode cX9_isOn 76 = .ok (.aload_n 0, 1) := by decide +kernel
theorem dX9_isOn_77 : decode cX9_isOn 77 = .ok (.getfield 13, 3) := by decide +kernel
theorem dX9_isOn_80 : decode cX9_isOn 80 = .ok (.bipush 13, 2) := by decide +kernel
theorem dX9_isOn_82 : decode cX9_isOn 82 = .ok (.iload_n 1, 1) := by decide +kernel
theorem dX9_isOn_83 : decode cX9_isOn 83 = .ok (.iadd, 1) := by decide +kernel
theorem dX9_isOn_84 : decode cX9_isOn 84 = .ok (.iaload, 1) := by decide +kernel
theorem dX9_isOn_85 : decode cX9_isOn 85 = .ok (.aload_n 0, 1) := by decide +kernel
theorem dX9_isOn_86 : decode cX9_isOn 86 = .ok (.getfield 13, 3) := by decide +kernel
theorem dX9_isOn_89 : decode cX9_isOn 89 = .ok (.bipush 13, 2) := by decide +kernel
theorem dX9_isOn_91 : decode cX9_isOn 91 = .ok (.iload_n 2, 1) := by decide +kernel
theorem dX9_isOn_92 : decode cX9_isOn 92 = .ok (.iadd, 1) := by decide +kernel
theorem dX9_isOn_93 : decode cX9_isOn 93 = .ok (.iaload, 1) := by decide +kernel
theorem dX9_isOn_94 : decode cX9_isOn 94 = .ok (.invokestatic 88, 3) := by decide +kernel
theorem dX9_isOn_97 : decode cX9_isOn 97 = .ok (.ifCond .ne 36, 3) := by decide +kernel
theorem dX9_isOn_100 : decode cX9_isOn 100 = .ok (.aload_n 0, 1) := by decide +kernel
theorem dX9_isOn_101 : decode cX9_isOn 101 = .ok (.getfield 13, 3) := by decide +kernel
theorem dX9_isOn_104 : decode cX9_isOn 104 = .ok (.bipush 13, 2) := by decide +kernel
theorem dX9_isOn_106 : decode cX9_isOn 106 = .ok (.iload_n 3, 1) := by decide +kernel
theorem dX9_isOn_107 : decode cX9_isOn 107 = .ok (.iadd, 1) := by decide +kernel
theorem dX9_isOn_108 : decode cX9_isOn 108 = .ok (.iaload, 1) := by decide +kernel
theorem dX9_isOn_109 : decode cX9_isOn 109 = .ok (.aload_n 0, 1) := by decide +kernel
theorem dX9_isOn_110 : decode cX9_isOn 110 = .ok (.getfield 13, 3) := by decide +kernel
theorem dX9_isOn_113 : decode cX9_isOn 113 = .ok (.bipush 13, 2) := by decide +kernel
theorem dX9_isOn_115 : decode cX9_isOn 115 = .ok (.iload_n 2, 1) := by decide +kernel
theorem dX9_isOn_116 : decode cX9_isOn 116 = .ok (.iadd, 1) := by decide +kernel
theorem dX9_isOn_117 : decode cX9_isOn 117 = .ok (.iaload, 1) := by decide +kernel
theorem dX9_isOn_118 : decode cX9_isOn 118 = .ok (.aload_n 0, 1) := by decide +kernel
theorem dX9_isOn_119 : decode cX9_isOn 119 = .ok (.getfield 13, 3) := by decide +kernel
theorem dX9_isOn_122 : decode cX9_isOn 122 = .ok (.bipush 13, 2) := by decide +kernel
theorem dX9_isOn_124 : decode cX9_isOn 124 = .ok (.iload_n 1, 1) := by decide +kernel
theorem dX9_isOn_125 : decode cX9_isOn 125 = .ok (.iadd, 1) := by decide +kernel
theorem dX9_isOn_126 : decode cX9_isOn 126 = .ok (.iaload, 1) := by decide +kernel
theorem dX9_isOn_127 : decode cX9_isOn 127 = .ok (.invokestatic 88, 3) := by decide +kernel
theorem dX9_isOn_130 : decode cX9_isOn 130 = .ok (.ifCond .eq 7, 3) := by decide +kernel
theorem dX9_isOn_133 : decode cX9_isOn 133 = .ok (.iconst 1, 1) := by decide +kernel
theorem dX9_isOn_134 : decode cX9_isOn 134 = .ok (.goto 4, 3) := by decide +kernel
theorem dX9_isOn_137 : decode cX9_isOn 137 = .ok (.iconst 0, 1) := by decide +kernel
theorem dX9_isOn_138 : decode cX9_isOn 138 = .ok (.istore 5, 2) := by decide +kernel
theorem dX9_isOn_140 : decode cX9_isOn 140 = .ok (.iload 4, 2) := by decide +kernel
theorem dX9_isOn_142 : decode cX9_isOn 142 = .ok (.ifCond .eq 22, 3) := by decide +kernel
theorem dX9_isOn_145 : decode cX9_isOn 145 = .ok (.iload 5, 2) := by decide +kernel
theorem dX9_isOn_147 : decode cX9_isOn 147 = .ok (.ifCond .eq 17, 3) := by decide +kernel
theorem dX9_isOn_150 : decode cX9_isOn 150 = .ok (.aload_n 0, 1) := by decide +kernel
theorem dX9_isOn_151 : decode cX9_isOn 151 = .ok (.iload_n 1, 1) := by decide +kernel
theorem dX9_isOn_152 : decode cX9_isOn 152 = .ok (.iload_n 2, 1) := by decide +kernel
theorem dX9_isOn_153 : decode cX9_isOn 153 = .ok (.iload_n 3, 1) := by decide +kernel
theorem dX9_isOn_154 : decode cX9_isOn 154 = .ok (.invokevirtual 177, 3) := by decide +kernel
theorem dX9_isOn_157 : decode cX9_isOn 157 = .ok (.ifCond .ne 7, 3) := by decide +kernel
theorem dX9_isOn_160 : decode cX9_isOn 160 = .ok (.iconst 1, 1) := by decide +kernel
theorem dX9_isOn_161 : decode cX9_isOn 161 = .ok (.goto 4, 3) := by decide +kernel
theorem dX9_isOn_164 : decode cX9_isOn 164 = .ok (.iconst 0, 1) := by decide +kernel
theorem dX9_isOn_165 : decode cX9_isOn 165 = .ok (.ireturn, 1) := by decide +kernel
theorem dX9_isWithin_0 : decode cX9_isWithin 0 = .ok (.aload_n 0, 1) := by decide +kernel
theorem dX9_isWithin_1 : decode cX9_isWithin 1 = .ok (.iload_n 1, 1) := by decide +kernel
theorem dX9_isWithin_2 : decode cX9_isWithin 2 = .ok (.iconst 0, 1) := by decide +kernel
theorem dX9_isWithin_3 : decode cX9_isWithin 3 = .ok (.invokevirtual 181, 3) := by decide +kernel
theorem dX9_isWithin_6 : decode cX9_isWithin 6 = .ok (.istore_n 3, 1) := by decide +kernel
theorem dX9_isWithin_7 : decode cX9_isWithin 7 = .ok (.iconst 0, 1) := by decide +kernel
theorem dX9_isWithin_8 : decode cX9_isWithin 8 = .ok (.istore 4, 2) := by decide +kernel
theorem dX9_isWithin_10 : decode cX9_isWithin 10 = .ok (.iconst 0, 1) := by decide +kernel
theorem dX9_isWithin_11 : decode cX9_isWithin 11 = .ok (.istore 5, 2) := by decide +kernel
theorem dX9_isWithin_13 : decode cX9_isWithin 13 = .ok (.iload 5, 2) := by decide +kernel
theorem dX9_isWithin_15 : decode cX9_isWithin 15 = .ok (.aload_n 0, 1) := by decide +kernel
theorem dX9_isWithin_16 : decode cX9_isWithin 16 = .ok (.getfield 13, 3) := by decide +kernel
theorem dX9_isWithin_19 : decode cX9_isWithin 19 = .ok (.bipush 50, 2) := by decide +kernel
theorem dX9_isWithin_21 : decode cX9_isWithin 21 = .ok (.iload_n 2, 1) := by decide +kernel
theorem dX9_isWithin_22 : decode cX9_isWithin 22 = .ok (.iadd, 1) := by decide +kernel
theorem dX9_isWithin_23 : decode cX9_isWithin 23 = .ok (.iaload, 1) := by decide +kernel
theorem dX9_isWithin_24 : decode cX9_isWithin 24 = .ok (.if_icmp .ge 165, 3) := by decide +kernel
theorem dX9_isWithin_27 : decode cX9_isWithin 27 = .ok (.aload_n 0, 1) := by decide +kernel
theorem dX9_isWithin_28 : decode cX9_isWithin 28 = .ok (.iload_n 2, 1) := by decide +kernel
theorem dX9_isWithin_29 : decode cX9_isWithin 29 = .ok (.iload 5, 2) := by decide +kernel
theorem dX9_isWithin_31 : decode cX9_isWithin 31 = .ok (.invokevirtual 181, 3) := by decide +kernel
theorem dX9_isWithin_34 : decode cX9_isWithin 34 = .ok (.istore 6, 2) := by decide +kernel
theorem dX9_isWithin_36 : decode cX9_isWithin 36 = .ok (.aload_n 0, 1) := by decide +kernel
theorem dX9_isWithin_37 : decode cX9_isWithin 37 = .ok (.iload_n 2, 1) := by decide +kernel
theorem dX9_isWithin_38 : decode cX9_isWithin 38 = .ok (.iload 5, 2) := by decide +kernel
theorem dX9_isWithin_40 : decode cX9_isWithin 40 = .ok (.iconst 1, 1) := by decide +kernel
theorem dX9_isWithin_41 : decode cX9_isWithin 41 = .ok (.iadd, 1) := by decide +kernel
theorem dX9_isWithin_42 : decode cX9_isWithin 42 = .ok (.invokevirtual 181, 3) := by decide +kernel
theorem dX9_isWithin_45 : decode cX9_isWithin 45 = .ok (.istore 7, 2) := by decide +kernel
theorem dX9_isWithin_47 : decode cX9_isWithin 47 = .ok (.iload 6, 2) := by decide +kernel
theorem dX9_isWithin_49 : decode cX9_isWithin 49 = .ok (.iload_n 3, 1) := by decide +kernel
theorem dX9_isWithin_50 : decode cX9_isWithin 50 = .ok (.if_icmp .eq 15, 3) := by decide +kernel
theorem dX9_isWithin_53 : decode cX9_isWithin 53 = .ok (.aload_n 0, 1) := by decide +kernel
theorem dX9_isWithin_54 : decode cX9_isWithin 54 = .ok (.iload 6, 2) := by decide +kernel
theorem dX9_isWithin_56 : decode cX9_isWithin 56 = .ok (.iload 7, 2) := by decide +kernel
theorem dX9_isWithin_58 : decode cX9_isWithin 58 = .ok (.iload_n 3, 1) := by decide +kernel
theorem dX9_isWithin_59 : decode cX9_isWithin 59 = .ok (.invokevirtual 185, 3) := by decide +kernel
theorem dX9_isWithin_62 : decode cX9_isWithin 62 = .ok (.ifCond .eq 5, 3) := by decide +kernel
theorem dX9_isWithin_65 : decode cX9_isWithin 65 = .ok (.iconst 0, 1) := by decide +kernel
theorem dX9_isWithin_66 : decode cX9_isWithin 66 = .ok (.ireturn, 1) := by decide +kernel
theorem dX9_isWithin_67 : decode cX9_isWithin 67 = .ok (.aload_n 0, 1) := by decide +kernel
theorem dX9_isWithin_68 : decode cX9_isWithin 68 = .ok (.getfield 13, 3) := by decide +kernel
theorem dX9_isWithin_71 : decode cX9_isWithin 71 = .ok (.bipush 13, 2) := by decide +kernel
theorem dX9_isWithin_73 : decode cX9_isWithin 73 = .ok (.iload 6, 2) := by decide +kernel
theorem dX9_isWithin_75 : decode cX9_isWithin 75 = .ok (.iadd, 1) := by decide +kernel
theorem dX9_isWithin_76 : decode cX9_isWithin 76 = .ok (.iaload, 1) := by decide +kernel
theorem dX9_isWithin_77 : decode cX9_isWithin 77 = .ok (.aload_n 0, 1) := by decide +kernel
theorem dX9_isWithin_78 : decode cX9_isWithin 78 = .ok (.getfield 13, 3) := by decide +kernel
theorem dX9_isWithin_81 : decode cX9_isWithin 81 = .ok (.bipush 13, 2) := by decide +kernel
theorem dX9_isWithin_83 : decode cX9_isWithin 83 = .ok (.iload_n 3, 1) := by decide +kernel
theorem dX9_isWithin_84 : decode cX9_isWithin 84 = .ok (.iadd, 1) := by decide +kernel
theorem dX9_isWithin_85 : decode cX9_isWithin 85 = .ok (.iaload, 1) := by decide +kernel
theorem dX9_isWithin_86 : decode cX9_isWithin 86 = .ok (.if_icmp .gt 7, 3) := by decide +kernel
theorem dX9_isWithin_89 : decode cX9_isWithin 89 = .ok (.iconst 1, 1) := by decide +kernel
theorem dX9_isWithin_90 : decode cX9_isWithin 90 = .ok (.goto 4, 3) := by decide +kernel
theorem dX9_isWithin_93 : decode cX9_isWithin 93 = .ok (.iconst 0, 1) := by decide +kernel
theorem dX9_isWithin_94 : decode cX9_isWithin 94 = .ok (.istore 8, 2) := by decide +kernel
theorem dX9_isWithin_96 : decode cX9_isWithin 96 = .ok (.aload_n 0, 1) := by decide +kernel
theorem dX9_isWithin_97 : decode cX9_isWithin 97 = .ok (.getfield 13, 3) := by decide +kernel
theorem dX9_isWithin_100 : decode cX9_isWithin 100 = .ok (.bipush 13, 2) := by decide +kernel
theorem dX9_isWithin_102 : decode cX9_isWithin 102 = .ok (.iload 7, 2) := by decide +kernel
theorem dX9_isWithin_104 : decode cX9_isWithin 104 = .ok (.iadd, 1) := by decide +kernel
theorem dX9_isWithin_105 : decode cX9_isWithin 105 = .ok (.iaload, 1) := by decide +kernel
theorem dX9_isWithin_106 : decode cX9_isWithin 106 = .ok (.aload_n 0, 1) := by decide +kernel
theorem dX9_isWithin_107 : decode cX9_isWithin 107 = .ok (.getfield 13, 3) := by decide +kernel
theorem dX9_isWithin_110 : decode cX9_isWithin 110 = .ok (.bipush 13, 2) := by decide +kernel
theorem dX9_isWithin_112 : decode cX9_isWithin 112 = .ok (.iload_n 3, 1) := by decide +kernel
theorem dX9_isWithin_113 : decode cX9_isWithin 113 = .ok (.iadd, 1) := by decide +kernel
theorem dX9_isWithin_114 : decode cX9_isWithin 114 = .ok (.iaload, 1) := by decide +kernel
theorem dX9_isWithin_115 : decode cX9_isWithin 115 = .ok (.if_icmp .gt 7, 3) := by decide +kernel
theorem dX9_isWithin_118 : decode cX9_isWithin 118 = .ok (.iconst 1, 1) := by decide +kernel
theorem dX9_isWithin_119 : decode cX9_isWithin 119 = .ok (.goto 4, 3) := by decide +kernel
theorem dX9_isWithin_122 : decode cX9_isWithin 122 = .ok (.iconst 0, 1) := by decide +kernel
theorem dX9_isWithin_123 : decode cX9_isWithin 123 = .ok (.istore 9, 2) := by decide +kernel
theorem dX9_isWithin_125 : decode cX9_isWithin 125 = .ok (.iload 4, 2) := by decide +kernel
theorem dX9_isWithin_127 : decode cX9_isWithin 127 = .ok (.iload 8, 2) := by decide +kernel
theorem dX9_isWithin_129 : decode cX9_isWithin 129 = .ok (.ifCond .eq 24, 3) := by decide +kernel
theorem dX9_isWithin_132 : decode cX9_isWithin 132 = .ok (.iload 9, 2) := by decide +kernel
theorem dX9_isWithin_134 : decode cX9_isWithin 134 = .ok (.ifCond .ne 19, 3) := by decide +kernel
theorem dX9_isWithin_137 : decode cX9_isWithin 137 = .ok (.aload_n 0, 1) := by decide +kernel
theorem dX9_isWithin_138 : decode cX9_isWithin 138 = .ok (.iload 6, 2) := by decide +kernel
theorem dX9_isWithin_140 : decode cX9_isWithin 140 = .ok (.iload 7, 2) := by decide +kernel
theorem dX9_isWithin_142 : decode cX9_isWithin 142 = .ok (.iload_n 3, 1) := by decide +kernel
theorem dX9_isWithin_143 : decode cX9_isWithin 143 = .ok (.invokevirtual 177, 3) := by decide +kernel
theorem dX9_isWithin_146 : decode cX9_isWithin 146 = .ok (.ifCond .le 7, 3) := by decide +kernel
theorem dX9_isWithin_149 : decode cX9_isWithin 149 = .ok (.iconst 1, 1) := by decide +kernel
theorem dX9_isWithin_150 : decode cX9_isWithin 150 = .ok (.goto 30, 3) := by decide +kernel
theorem dX9_isWithin_153 : decode cX9_isWithin 153 = .ok (.iload 8, 2) := by decide +kernel
theorem dX9_isWithin_155 : decode cX9_isWithin 155 = .ok (.ifCond .ne 24, 3) := by decide +kernel
theorem dX9_isWithin_158 : decode cX9_isWithin 158 = .ok (.iload 9, 2) := by decide +kernel
theorem dX9_isWithin_160 : decode cX9_isWithin 160 = .ok (.ifCond .eq 19, 3) := by decide +kernel
theorem dX9_isWithin_163 : decode cX9_isWithin 163 = .ok (.aload_n 0, 1) := by decide +kernel
theorem dX9_isWithin_164 : decode cX9_isWithin 164 = .ok (.iload 6, 2) := by decide +kernel
theorem dX9_isWithin_166 : decode cX9_isWithin 166 = .ok (.iload 7, 2) := by decide +kernel
theorem dX9_isWithin_168 : decode cX9_isWithin 168 = .ok (.iload_n 3, 1) := by decide +kernel
theorem dX9_isWithin_169 : decode cX9_isWithin 169 = .ok (.invokevirtual 177, 3) := by decide +kernel
theorem dX9_isWithin_172 : decode cX9_isWithin 172 = .ok (.ifCond .ge 7, 3) := by decide +kernel
theorem dX9_isWithin_175 : decode cX9_isWithin 175 = .ok (.iconst (-1), 1) := by decide +kernel
theorem dX9_isWithin_176 : decode cX9_isWithin 176 = .ok (.goto 4, 3) := by decide +kernel
theorem dX9_isWithin_179 : decode cX9_isWithin 179 = .ok (.iconst 0, 1) := by decide +kernel
theorem dX9_isWithin_180 : decode cX9_isWithin 180 = .ok (.iadd, 1) := by decide +kernel
theorem dX9_isWithin_181 : decode cX9_isWithin 181 = .ok (.istore 4, 2) := by decide +kernel
theorem dX9_isWithin_183 : decode cX9_isWithin 183 = .ok (.iinc 5 1, 3) := by decide +kernel
theorem dX9_isWithin_186 : decode cX9_isWithin 186 = .ok (.goto (-173), 3) := by decide +kernel
theorem dX9_isWithin_189 : decode cX9_isWithin 189 = .ok (.iload 4, 2) := by decide +kernel
theorem dX9_isWithin_191 : decode cX9_isWithin 191 = .ok (.ifCond .eq 7, 3) := by decide +kernel
theorem dX9_isWithin_194 : decode cX9_isWithin 194 = .ok (.iconst 1, 1) := by decide +kernel
theorem dX9_isWithin_195 : decode cX9_isWithin 195 = .ok (.goto 4, 3) := by decide +kernel
theorem dX9_isWithin_198 : decode cX9_isWithin 198 = .ok (.iconst 0, 1) := by decide +kernel
theorem dX9_isWithin_199 : decode cX9_isWithin 199 = .ok (.ireturn, 1) := by decide +kernel
theorem dX9_isCornerNow_0 : decode cX9_isCornerNow 0 = .ok (.iload_n 1, 1) := by decide +kernel
theorem dX9_isCornerNow_1 : decode cX9_isCornerNow 1 = .ok (.iconst 0, 1) := by decide +kernel
theorem dX9_isCornerNow_2 : decode cX9_isCornerNow 2 = .ok (.aload_n 0, 1) := by decide +kernel
theorem dX9_isCornerNow_3 : decode cX9_isCornerNow 3 = .ok (.getfield 13, 3) := by decide +kernel
theorem dX9_isCornerNow_6 : decode cX9_isCornerNow 6 = .ok (.iconst 0, 1) := by decide +kernel
theorem dX9_isCornerNow_7 : decode cX9_isCornerNow 7 = .ok (.iaload, 1) := by decide +kernel
theorem dX9_isCornerNow_8 : decode cX9_isCornerNow 8 = .ok (.iconst 1, 1) := by decide +kernel
theorem dX9_isCornerNow_9 : decode cX9_isCornerNow 9 = .ok (.isub, 1) := by decide +kernel
theorem dX9_isCornerNow_10 : decode cX9_isCornerNow 10 = .ok (.invokestatic 88, 3) := by decide +kernel
theorem dX9_isCornerNow_13 : decode cX9_isCornerNow 13 = .ok (.ireturn, 1) := by decide +kernel
theorem dX9_way_0 : decode cX9_way 0 = .ok (.aload_n 0, 1) := by decide +kernel
theorem dX9_way_1 : decode cX9_way 1 = .ok (.getfield 13, 3) := by decide +kernel
theorem dX9_way_4 : decode cX9_way 4 = .ok (.iconst 4, 1) := by decide +kernel
theorem dX9_way_5 : decode cX9_way 5 = .ok (.iload_n 1, 1) := by decide +kernel
theorem dX9_way_6 : decode cX9_way 6 = .ok (.iadd, 1) := by decide +kernel
theorem dX9_way_7 : decode cX9_way 7 = .ok (.iaload, 1) := by decide +kernel
theorem dX9_way_8 : decode cX9_way 8 = .ok (.aload_n 0, 1) := by decide +kernel
theorem dX9_way_9 : decode cX9_way 9 = .ok (.getfield 13, 3) := by decide +kernel
theorem dX9_way_12 : decode cX9_way 12 = .ok (.iconst 4, 1) := by decide +kernel
theorem dX9_way_13 : decode cX9_way 13 = .ok (.iload_n 2, 1) := by decide +kernel
theorem dX9_way_14 : decode cX9_way 14 = .ok (.iadd, 1) := by decide +kernel
theorem dX9_way_15 : decode cX9_way 15 = .ok (.iaload, 1) := by decide +kernel
theorem dX9_way_16 : decode cX9_way 16 = .ok (.isub, 1) := by decide +kernel
theorem dX9_way_17 : decode cX9_way 17 = .ok (.istore_n 3, 1) := by decide +kernel
theorem dX9_way_18 : decode cX9_way 18 = .ok (.aload_n 0, 1) := by decide +kernel
theorem dX9_way_19 : decode cX9_way 19 = .ok (.getfield 13, 3) := by decide +kernel
theorem dX9_way_22 : decode cX9_way 22 = .ok (.bipush 13, 2) := by decide +kernel
theorem dX9_way_24 : decode cX9_way 24 = .ok (.iload_n 1, 1) := by decide +kernel
theorem dX9_way_25 : decode cX9_way 25 = .ok (.iadd, 1) := by decide +kernel
theorem dX9_way_26 : decode cX9_way 26 = .ok (.iaload, 1) := by decide +kernel
theorem dX9_way_27 : decode cX9_way 27 = .ok (.aload_n 0, 1) := by decide +kernel
theorem dX9_way_28 : decode cX9_way 28 = .ok (.getfield 13, 3) := by decide +kernel
theorem dX9_way_31 : decode cX9_way 31 = .ok (.bipush 13, 2) := by decide +kernel
theorem dX9_way_33 : decode cX9_way 33 = .ok (.iload_n 2, 1) := by decide +kernel
theorem dX9_way_34 : decode cX9_way 34 = .ok (.iadd, 1) := by decide +kernel
theorem dX9_way_35 : decode cX9_way 35 = .ok (.iaload, 1) := by decide +kernel
theorem dX9_way_36 : decode cX9_way 36 = .ok (.isub, 1) := by decide +kernel
theorem dX9_way_37 : decode cX9_way 37 = .ok (.istore 4, 2) := by decide +kernel
theorem dX9_way_39 : decode cX9_way 39 = .ok (.iload_n 3, 1) := by decide +kernel
theorem dX9_way_40 : decode cX9_way 40 = .ok (.ifCond .ge 8, 3) := by decide +kernel
theorem dX9_way_43 : decode cX9_way 43 = .ok (.iload_n 3, 1) := by decide +kernel
theorem dX9_way_44 : decode cX9_way 44 = .ok (.ineg, 1) := by decide +kernel
theorem dX9_way_45 : decode cX9_way 45 = .ok (.goto 4, 3) := by decide +kernel
theorem dX9_way_48 : decode cX9_way 48 = .ok (.iload_n 3, 1) := by decide +kernel
theorem dX9_way_49 : decode cX9_way 49 = .ok (.iload 4, 2) := by decide +kernel
theorem dX9_way_51 : decode cX9_way 51 = .ok (.ifCond .ge 9, 3) := by decide +kernel
theorem dX9_way_54 : decode cX9_way 54 = .ok (.iload 4, 2) := by decide +kernel
theorem dX9_way_56 : decode cX9_way 56 = .ok (.ineg, 1) := by decide +kernel
theorem dX9_way_57 : decode cX9_way 57 = .ok (.goto 5, 3) := by decide +kernel
theorem dX9_way_60 : decode cX9_way 60 = .ok (.iload 4, 2) := by decide +kernel
theorem dX9_way_62 : decode cX9_way 62 = .ok (.iadd, 1) := by decide +kernel
theorem dX9_way_63 : decode cX9_way 63 = .ok (.ireturn, 1) := by decide +kernel
theorem dX9_endsAt_0 : decode cX9_endsAt 0 = .ok (.iconst 0, 1) := by decide +kernel
theorem dX9_endsAt_1 : decode cX9_endsAt 1 = .ok (.istore_n 3, 1) := by decide +kernel
theorem dX9_endsAt_2 : decode cX9_endsAt 2 = .ok (.iconst 0, 1) := by decide +kernel
theorem dX9_endsAt_3 : decode cX9_endsAt 3 = .ok (.istore 4, 2) := by decide +kernel
theorem dX9_endsAt_5 : decode cX9_endsAt 5 = .ok (.iload 4, 2) := by decide +kernel
theorem dX9_endsAt_7 : decode cX9_endsAt 7 = .ok (.aload_n 0, 1) := by decide +kernel
theorem dX9_endsAt_8 : decode cX9_endsAt 8 = .ok (.iconst 1, 1) := by decide +kernel
theorem dX9_endsAt_9 : decode cX9_endsAt 9 = .ok (.iaload, 1) := by decide +kernel
theorem dX9_endsAt_10 : decode cX9_endsAt 10 = .ok (.if_icmp .ge 48, 3) := by decide +kernel
theorem dX9_endsAt_13 : decode cX9_endsAt 13 = .ok (.iload_n 3, 1) := by decide +kernel
theorem dX9_endsAt_14 : decode cX9_endsAt 14 = .ok (.iload_n 2, 1) := by decide +kernel
theorem dX9_endsAt_15 : decode cX9_endsAt 15 = .ok (.iload 4, 2) := by decide +kernel
theorem dX9_endsAt_17 : decode cX9_endsAt 17 = .ok (.invokestatic 84, 3) := by decide +kernel
theorem dX9_endsAt_20 : decode cX9_endsAt 20 = .ok (.ifCond .eq 29, 3) := by decide +kernel
theorem dX9_endsAt_23 : decode cX9_endsAt 23 = .ok (.aload_n 0, 1) := by decide +kernel
theorem dX9_endsAt_24 : decode cX9_endsAt 24 = .ok (.bipush 22, 2) := by decide +kernel
theorem dX9_endsAt_26 : decode cX9_endsAt 26 = .ok (.iload 4, 2) := by decide +kernel
theorem dX9_endsAt_28 : decode cX9_endsAt 28 = .ok (.iadd, 1) := by decide +kernel
theorem dX9_endsAt_29 : decode cX9_endsAt 29 = .ok (.iaload, 1) := by decide +kernel
theorem dX9_endsAt_30 : decode cX9_endsAt 30 = .ok (.iload_n 1, 1) := by decide +kernel
theorem dX9_endsAt_31 : decode cX9_endsAt 31 = .ok (.if_icmp .eq 14, 3) := by decide +kernel
theorem dX9_endsAt_34 : decode cX9_endsAt 34 = .ok (.aload_n 0, 1) := by decide +kernel
theorem dX9_endsAt_35 : decode cX9_endsAt 35 = .ok (.bipush 36, 2) := by decide +kernel
theorem dX9_endsAt_37 : decode cX9_endsAt 37 = .ok (.iload 4, 2) := by decide +kernel
theorem dX9_endsAt_39 : decode cX9_endsAt 39 = .ok (.iadd, 1) := by decide +kernel
theorem dX9_endsAt_40 : decode cX9_endsAt 40 = .ok (.iaload, 1) := by decide +kernel
theorem dX9_endsAt_41 : decode cX9_endsAt 41 = .ok (.iload_n 1, 1) := by decide +kernel
theorem dX9_endsAt_42 : decode cX9_endsAt 42 = .ok (.if_icmp .ne 7, 3) := by decide +kernel
theorem dX9_endsAt_45 : decode cX9_endsAt 45 = .ok (.iconst 1, 1) := by decide +kernel
theorem dX9_endsAt_46 : decode cX9_endsAt 46 = .ok (.goto 4, 3) := by decide +kernel
theorem dX9_endsAt_49 : decode cX9_endsAt 49 = .ok (.iconst 0, 1) := by decide +kernel
theorem dX9_endsAt_50 : decode cX9_endsAt 50 = .ok (.iadd, 1) := by decide +kernel
theorem dX9_endsAt_51 : decode cX9_endsAt 51 = .ok (.istore_n 3, 1) := by decide +kernel
theorem dX9_endsAt_52 : decode cX9_endsAt 52 = .ok (.iinc 4 1, 3) := by decide +kernel
theorem dX9_endsAt_55 : decode cX9_endsAt 55 = .ok (.goto (-50), 3) := by decide +kernel
theorem dX9_endsAt_58 : decode cX9_endsAt 58 = .ok (.iload_n 3, 1) := by decide +kernel
theorem dX9_endsAt_59 : decode cX9_endsAt 59 = .ok (.ireturn, 1) := by decide +kernel
theorem dX9_corner_0 : decode cX9_corner 0 = .ok (.aload_n 0, 1) := by decide +kernel
theorem dX9_corner_1 : decode cX9_corner 1 = .ok (.iconst 0, 1) := by decide +kernel
theorem dX9_corner_2 : decode cX9_corner 2 = .ok (.putfield 80, 3) := by decide +kernel
theorem dX9_corner_5 : decode cX9_corner 5 = .ok (.aload_n 0, 1) := by decide +kernel
theorem dX9_corner_6 : decode cX9_corner 6 = .ok (.iload_n 1, 1) := by decide +kernel
theorem dX9_corner_7 : decode cX9_corner 7 = .ok (.invokevirtual 188, 3) := by decide +kernel
theorem dX9_corner_10 : decode cX9_corner 10 = .ok (.ifCond .eq 12, 3) := by decide +kernel
theorem dX9_corner_13 : decode cX9_corner 13 = .ok (.iload_n 2, 1) := by decide +kernel
theorem dX9_corner_14 : decode cX9_corner 14 = .ok (.iconst 0, 1) := by decide +kernel
theorem dX9_corner_15 : decode cX9_corner 15 = .ok (.iconst 3, 1) := by decide +kernel
theorem dX9_corner_16 : decode cX9_corner 16 = .ok (.invokestatic 88, 3) := by decide +kernel
theorem dX9_corner_19 : decode cX9_corner 19 = .ok (.ifCond .ne 5, 3) := by decide +kernel
theorem dX9_corner_22 : decode cX9_corner 22 = .ok (.iconst (-1), 1) := by decide +kernel
theorem dX9_corner_23 : decode cX9_corner 23 = .ok (.ireturn, 1) := by decide +kernel
theorem dX9_corner_24 : decode cX9_corner 24 = .ok (.iload_n 2, 1) := by decide +kernel
theorem dX9_corner_25 : decode cX9_corner 25 = .ok (.ifCond .ne 14, 3) := by decide +kernel
theorem dX9_corner_28 : decode cX9_corner 28 = .ok (.aload_n 0, 1) := by decide +kernel
theorem dX9_corner_29 : decode cX9_corner 29 = .ok (.getfield 13, 3) := by decide +kernel
theorem dX9_corner_32 : decode cX9_corner 32 = .ok (.iconst 4, 1) := by decide +kernel
theorem dX9_corner_33 : decode cX9_corner 33 = .ok (.iload_n 1, 1) := by decide +kernel
theorem dX9_corner_34 : decode cX9_corner 34 = .ok (.iadd, 1) := by decide +kernel
theorem dX9_corner_35 : decode cX9_corner 35 = .ok (.iaload, 1) := by decide +kernel
theorem dX9_corner_36 : decode cX9_corner 36 = .ok (.goto 50, 3) := by decide +kernel
theorem dX9_corner_39 : decode cX9_corner 39 = .ok (.iload_n 2, 1) := by decide +kernel
theorem dX9_corner_40 : decode cX9_corner 40 = .ok (.iconst 1, 1) := by decide +kernel
theorem dX9_corner_41 : decode cX9_corner 41 = .ok (.if_icmp .ne 15, 3) := by decide +kernel
theorem dX9_corner_44 : decode cX9_corner 44 = .ok (.aload_n 0, 1) := by decide +kernel
theorem dX9_corner_45 : decode cX9_corner 45 = .ok (.getfield 13, 3) := by decide +kernel
theorem dX9_corner_48 : decode cX9_corner 48 = .ok (.bipush 13, 2) := by decide +kernel
theorem dX9_corner_50 : decode cX9_corner 50 = .ok (.iload_n 1, 1) := by decide +kernel
theorem dX9_corner_51 : decode cX9_corner 51 = .ok (.iadd, 1) := by decide +kernel
theorem dX9_corner_52 : decode cX9_corner 52 = .ok (.iaload, 1) := by decide +kernel
theorem dX9_corner_53 : decode cX9_corner 53 = .ok (.goto 33, 3) := by decide +kernel
theorem dX9_corner_56 : decode cX9_corner 56 = .ok (.iload_n 2, 1) := by decide +kernel
theorem dX9_corner_57 : decode cX9_corner 57 = .ok (.iconst 2, 1) := by decide +kernel
theorem dX9_corner_58 : decode cX9_corner 58 = .ok (.if_icmp .ne 20, 3) := by decide +kernel
theorem dX9_corner_61 : decode cX9_corner 61 = .ok (.aload_n 0, 1) := by decide +kernel
theorem dX9_corner_62 : decode cX9_corner 62 = .ok (.getfield 13, 3) := by decide +kernel
theorem dX9_corner_65 : decode cX9_corner 65 = .ok (.iload_n 1, 1) := by decide +kernel
theorem dX9_corner_66 : decode cX9_corner 66 = .ok (.aload_n 0, 1) := by decide +kernel
theorem dX9_corner_67 : decode cX9_corner 67 = .ok (.getfield 19, 3) := by decide +kernel
theorem dX9_corner_70 : decode cX9_corner 70 = .ok (.iconst 0, 1) := by decide +kernel
theorem dX9_corner_71 : decode cX9_corner 71 = .ok (.iaload, 1) := by decide +kernel
theorem dX9_corner_72 : decode cX9_corner 72 = .ok (.invokestatic 192, 3) := by decide +kernel
theorem dX9_corner_75 : decode cX9_corner 75 = .ok (.goto 11, 3) := by decide +kernel
theorem dX9_corner_78 : decode cX9_corner 78 = .ok (.aload_n 0, 1) := by decide +kernel
theorem dX9_corner_79 : decode cX9_corner 79 = .ok (.getfield 19, 3) := by decide +kernel
theorem dX9_corner_82 : decode cX9_corner 82 = .ok (.iconst 4, 1) := by decide +kernel
theorem dX9_corner_83 : decode cX9_corner 83 = .ok (.iload_n 1, 1) := by decide +kernel
theorem dX9_corner_84 : decode cX9_corner 84 = .ok (.iadd, 1) := by decide +kernel
theorem dX9_corner_85 : decode cX9_corner 85 = .ok (.iaload, 1) := by decide +kernel
theorem dX9_corner_86 : decode cX9_corner 86 = .ok (.ireturn, 1) := by decide +kernel
theorem dX9_roots_0 : decode cX9_roots 0 = .ok (.iconst 0, 1) := by decide +kernel
theorem dX9_roots_1 : decode cX9_roots 1 = .ok (.istore_n 2, 1) := by decide +kernel
theorem dX9_roots_2 : decode cX9_roots 2 = .ok (.iload_n 2, 1) := by decide +kernel
theorem dX9_roots_3 : decode cX9_roots 3 = .ok (.bipush 9, 2) := by decide +kernel
theorem dX9_roots_5 : decode cX9_roots 5 = .ok (.if_icmp .ge 16, 3) := by decide +kernel
theorem dX9_roots_8 : decode cX9_roots 8 = .ok (.aload_n 0, 1) := by decide +kernel
theorem dX9_roots_9 : decode cX9_roots 9 = .ok (.getfield 44, 3) := by decide +kernel
theorem dX9_roots_12 : decode cX9_roots 12 = .ok (.iload_n 2, 1) := by decide +kernel
theorem dX9_roots_13 : decode cX9_roots 13 = .ok (.iload_n 2, 1) := by decide +kernel
theorem dX9_roots_14 : decode cX9_roots 14 = .ok (.iastore, 1) := by decide +kernel
theorem dX9_roots_15 : decode cX9_roots 15 = .ok (.iinc 2 1, 3) := by decide +kernel
theorem dX9_roots_18 : decode cX9_roots 18 = .ok (.goto (-16), 3) := by decide +kernel
theorem dX9_roots_21 : decode cX9_roots 21 = .ok (.iconst 0, 1) := by decide +kernel
theorem dX9_roots_22 : decode cX9_roots 22 = .ok (.istore_n 2, 1) := by decide +kernel
theorem dX9_roots_23 : decode cX9_roots 23 = .ok (.iload_n 2, 1) := by decide +kernel
theorem dX9_roots_24 : decode cX9_roots 24 = .ok (.bipush 9, 2) := by decide +kernel
theorem dX9_roots_26 : decode cX9_roots 26 = .ok (.if_icmp .ge 111, 3) := by decide +kernel
theorem dX9_roots_29 : decode cX9_roots 29 = .ok (.iconst 0, 1) := by decide +kernel
theorem dX9_roots_30 : decode cX9_roots 30 = .ok (.istore_n 3, 1) := by decide +kernel
theorem dX9_roots_31 : decode cX9_roots 31 = .ok (.iload_n 3, 1) := by decide +kernel
theorem dX9_roots_32 : decode cX9_roots 32 = .ok (.aload_n 0, 1) := by decide +kernel
theorem dX9_roots_33 : decode cX9_roots 33 = .ok (.getfield 13, 3) := by decide +kernel
theorem dX9_roots_36 : decode cX9_roots 36 = .ok (.iconst 1, 1) := by decide +kernel
theorem dX9_roots_37 : decode cX9_roots 37 = .ok (.iaload, 1) := by decide +kernel
theorem dX9_roots_38 : decode cX9_roots 38 = .ok (.if_icmp .ge 93, 3) := by decide +kernel
theorem dX9_roots_41 : decode cX9_roots 41 = .ok (.iload_n 1, 1) := by decide +kernel
theorem dX9_roots_42 : decode cX9_roots 42 = .ok (.iload_n 3, 1) := by decide +kernel
theorem dX9_roots_43 : decode cX9_roots 43 = .ok (.invokestatic 84, 3) := by decide +kernel
theorem dX9_roots_46 : decode cX9_roots 46 = .ok (.ifCond .eq 79, 3) := by decide +kernel
theorem dX9_roots_49 : decode cX9_roots 49 = .ok (.aload_n 0, 1) := by decide +kernel
theorem dX9_roots_50 : decode cX9_roots 50 = .ok (.getfield 13, 3) := by decide +kernel
theorem dX9_roots_53 : decode cX9_roots 53 = .ok (.bipush 22, 2) := by decide +kernel
theorem dX9_roots_55 : decode cX9_roots 55 = .ok (.iload_n 3, 1) := by decide +kernel
theorem dX9_roots_56 : decode cX9_roots 56 = .ok (.iadd, 1) := by decide +kernel
theorem dX9_roots_57 : decode cX9_roots 57 = .ok (.iaload, 1) := by decide +kernel
theorem dX9_roots_58 : decode cX9_roots 58 = .ok (.istore 4, 2) := by decide +kernel
theorem dX9_roots_60 : decode cX9_roots 60 = .ok (.aload_n 0, 1) := by decide +kernel
theorem dX9_roots_61 : decode cX9_roots 61 = .ok (.getfield 13, 3) := by decide +kernel
theorem dX9_roots_64 : decode cX9_roots 64 = .ok (.bipush 36, 2) := by decide +kernel
theorem dX9_roots_66 : decode cX9_roots 66 = .ok (.iload_n 3, 1) := by decide +kernel
theorem dX9_roots_67 : decode cX9_roots 67 = .ok (.iadd, 1) := by decide +kernel
theorem dX9_roots_68 : decode cX9_roots 68 = .ok (.iaload, 1) := by decide +kernel
theorem dX9_roots_69 : decode cX9_roots 69 = .ok (.istore 5, 2) := by decide +kernel
theorem dX9_roots_71 : decode cX9_roots 71 = .ok (.aload_n 0, 1) := by decide +kernel
theorem dX9_roots_72 : decode cX9_roots 72 = .ok (.getfield 44, 3) := by decide +kernel
theorem dX9_roots_75 : decode cX9_roots 75 = .ok (.iload 4, 2) := by decide +kernel
theorem dX9_roots_77 : decode cX9_roots 77 = .ok (.iaload, 1) := by decide +kernel
theorem dX9_roots_78 : decode cX9_roots 78 = .ok (.aload_n 0, 1) := by decide +kernel
theorem dX9_roots_79 : decode cX9_roots 79 = .ok (.getfield 44, 3) := by decide +kernel
theorem dX9_roots_82 : decode cX9_roots 82 = .ok (.iload 5, 2) := by decide +kernel
theorem dX9_roots_84 : decode cX9_roots 84 = .ok (.iaload, 1) := by decide +kernel
theorem dX9_roots_85 : decode cX9_roots 85 = .ok (.if_icmp .ge 13, 3) := by decide +kernel
theorem dX9_roots_88 : decode cX9_roots 88 = .ok (.aload_n 0, 1) := by decide +kernel
theorem dX9_roots_89 : decode cX9_roots 89 = .ok (.getfield 44, 3) := by decide +kernel
theorem dX9_roots_92 : decode cX9_roots 92 = .ok (.iload 4, 2) := by decide +kernel
theorem dX9_roots_94 : decode cX9_roots 94 = .ok (.iaload, 1) := by decide +kernel
theorem dX9_roots_95 : decode cX9_roots 95 = .ok (.goto 10, 3) := by decide +kernel
theorem dX9_roots_98 : decode cX9_roots 98 = .ok (.aload_n 0, 1) := by decide +kernel
theorem dX9_roots_99 : decode cX9_roots 99 = .ok (.getfield 44, 3) := by decide +kernel
theorem dX9_roots_102 : decode cX9_roots 102 = .ok (.iload 5, 2) := by decide +kernel
theorem dX9_roots_104 : decode cX9_roots 104 = .ok (.iaload, 1) := by decide +kernel
theorem dX9_roots_105 : decode cX9_roots 105 = .ok (.istore 6, 2) := by decide +kernel
theorem dX9_roots_107 : decode cX9_roots 107 = .ok (.aload_n 0, 1) := by decide +kernel
theorem dX9_roots_108 : decode cX9_roots 108 = .ok (.getfield 44, 3) := by decide +kernel
theorem dX9_roots_111 : decode cX9_roots 111 = .ok (.iload 4, 2) := by decide +kernel
theorem dX9_roots_113 : decode cX9_roots 113 = .ok (.iload 6, 2) := by decide +kernel
theorem dX9_roots_115 : decode cX9_roots 115 = .ok (.iastore, 1) := by decide +kernel
theorem dX9_roots_116 : decode cX9_roots 116 = .ok (.aload_n 0, 1) := by decide +kernel
theorem dX9_roots_117 : decode cX9_roots 117 = .ok (.getfield 44, 3) := by decide +kernel
theorem dX9_roots_120 : decode cX9_roots 120 = .ok (.iload 5, 2) := by decide +kernel
theorem dX9_roots_122 : decode cX9_roots 122 = .ok (.iload 6, 2) := by decide +kernel
theorem dX9_roots_124 : decode cX9_roots 124 = .ok (.iastore, 1) := by decide +kernel
theorem dX9_roots_125 : decode cX9_roots 125 = .ok (.iinc 3 1, 3) := by decide +kernel
theorem dX9_roots_128 : decode cX9_roots 128 = .ok (.goto (-97), 3) := by decide +kernel
theorem dX9_roots_131 : decode cX9_roots 131 = .ok (.iinc 2 1, 3) := by decide +kernel
theorem dX9_roots_134 : decode cX9_roots 134 = .ok (.goto (-111), 3) := by decide +kernel
theorem dX9_roots_137 : decode cX9_roots 137 = .ok (.return_, 1) := by decide +kernel
theorem dX9_pieces_0 : decode cX9_pieces 0 = .ok (.aload_n 0, 1) := by decide +kernel
theorem dX9_pieces_1 : decode cX9_pieces 1 = .ok (.aload_n 0, 1) := by decide +kernel
theorem dX9_pieces_2 : decode cX9_pieces 2 = .ok (.getfield 19, 3) := by decide +kernel
theorem dX9_pieces_5 : decode cX9_pieces 5 = .ok (.iconst 0, 1) := by decide +kernel
theorem dX9_pieces_6 : decode cX9_pieces 6 = .ok (.iaload, 1) := by decide +kernel
theorem dX9_pieces_7 : decode cX9_pieces 7 = .ok (.invokevirtual 195, 3) := by decide +kernel
theorem dX9_pieces_10 : decode cX9_pieces 10 = .ok (.aload_n 0, 1) := by decide +kernel
theorem dX9_pieces_11 : decode cX9_pieces 11 = .ok (.iconst 0, 1) := by decide +kernel
theorem dX9_pieces_12 : decode cX9_pieces 12 = .ok (.putfield 198, 3) := by decide +kernel
theorem dX9_pieces_15 : decode cX9_pieces 15 = .ok (.iconst 0, 1) := by decide +kernel
theorem dX9_pieces_16 : decode cX9_pieces 16 = .ok (.istore_n 1, 1) := by decide +kernel
theorem dX9_pieces_17 : decode cX9_pieces 17 = .ok (.iload_n 1, 1) := by decide +kernel
theorem dX9_pieces_18 : decode cX9_pieces 18 = .ok (.aload_n 0, 1) := by decide +kernel
theorem dX9_pieces_19 : decode cX9_pieces 19 = .ok (.getfield 13, 3) := by decide +kernel
theorem dX9_pieces_22 : decode cX9_pieces 22 = .ok (.iconst 0, 1) := by decide +kernel
theorem dX9_pieces_23 : decode cX9_pieces 23 = .ok (.iaload, 1) := by decide +kernel
theorem dX9_pieces_24 : decode cX9_pieces 24 = .ok (.if_icmp .ge 56, 3) := by decide +kernel
theorem dX9_pieces_27 : decode cX9_pieces 27 = .ok (.aload_n 0, 1) := by decide +kernel
theorem dX9_pieces_28 : decode cX9_pieces 28 = .ok (.getfield 44, 3) := by decide +kernel
theorem dX9_pieces_31 : decode cX9_pieces 31 = .ok (.iload_n 1, 1) := by decide +kernel
theorem dX9_pieces_32 : decode cX9_pieces 32 = .ok (.iaload, 1) := by decide +kernel
theorem dX9_pieces_33 : decode cX9_pieces 33 = .ok (.iload_n 1, 1) := by decide +kernel
theorem dX9_pieces_34 : decode cX9_pieces 34 = .ok (.if_icmp .ne 40, 3) := by decide +kernel
theorem dX9_pieces_37 : decode cX9_pieces 37 = .ok (.aload_n 0, 1) := by decide +kernel
theorem dX9_pieces_38 : decode cX9_pieces 38 = .ok (.getfield 13, 3) := by decide +kernel
theorem dX9_pieces_41 : decode cX9_pieces 41 = .ok (.iload_n 1, 1) := by decide +kernel
theorem dX9_pieces_42 : decode cX9_pieces 42 = .ok (.aload_n 0, 1) := by decide +kernel
theorem dX9_pieces_43 : decode cX9_pieces 43 = .ok (.getfield 19, 3) := by decide +kernel
theorem dX9_pieces_46 : decode cX9_pieces 46 = .ok (.iconst 0, 1) := by decide +kernel
theorem dX9_pieces_47 : decode cX9_pieces 47 = .ok (.iaload, 1) := by decide +kernel
theorem dX9_pieces_48 : decode cX9_pieces 48 = .ok (.invokestatic 192, 3) := by decide +kernel
theorem dX9_pieces_51 : decode cX9_pieces 51 = .ok (.ifCond .le 23, 3) := by decide +kernel
theorem dX9_pieces_54 : decode cX9_pieces 54 = .ok (.aload_n 0, 1) := by decide +kernel
theorem dX9_pieces_55 : decode cX9_pieces 55 = .ok (.getfield 47, 3) := by decide +kernel
theorem dX9_pieces_58 : decode cX9_pieces 58 = .ok (.aload_n 0, 1) := by decide +kernel
theorem dX9_pieces_59 : decode cX9_pieces 59 = .ok (.getfield 198, 3) := by decide +kernel
theorem dX9_pieces_62 : decode cX9_pieces 62 = .ok (.iload_n 1, 1) := by decide +kernel
theorem dX9_pieces_63 : decode cX9_pieces 63 = .ok (.iastore, 1) := by decide +kernel
theorem dX9_pieces_64 : decode cX9_pieces 64 = .ok (.aload_n 0, 1) := by decide +kernel
theorem dX9_pieces_65 : decode cX9_pieces 65 = .ok (.dup, 1) := by decide +kernel
theorem dX9_pieces_66 : decode cX9_pieces 66 = .ok (.getfield 198, 3) := by decide +kernel
theorem dX9_pieces_69 : decode cX9_pieces 69 = .ok (.iconst 1, 1) := by decide +kernel
theorem dX9_pieces_70 : decode cX9_pieces 70 = .ok (.iadd, 1) := by decide +kernel
theorem dX9_pieces_71 : decode cX9_pieces 71 = .ok (.putfield 198, 3) := by decide +kernel
theorem dX9_pieces_74 : decode cX9_pieces 74 = .ok (.iinc 1 1, 3) := by decide +kernel
theorem dX9_pieces_77 : decode cX9_pieces 77 = .ok (.goto (-60), 3) := by decide +kernel
theorem dX9_pieces_80 : decode cX9_pieces 80 = .ok (.return_, 1) := by decide +kernel
theorem dX9_pieceOf_0 : decode cX9_pieceOf 0 = .ok (.iconst 0, 1) := by decide +kernel
theorem dX9_pieceOf_1 : decode cX9_pieceOf 1 = .ok (.istore_n 2, 1) := by decide +kernel
theorem dX9_pieceOf_2 : decode cX9_pieceOf 2 = .ok (.aload_n 0, 1) := by decide +kernel
theorem dX9_pieceOf_3 : decode cX9_pieceOf 3 = .ok (.getfield 47, 3) := by decide +kernel
theorem dX9_pieceOf_6 : decode cX9_pieceOf 6 = .ok (.iload_n 2, 1) := by decide +kernel
theorem dX9_pieceOf_7 : decode cX9_pieceOf 7 = .ok (.iaload, 1) := by decide +kernel
theorem dX9_pieceOf_8 : decode cX9_pieceOf 8 = .ok (.aload_n 0, 1) := by decide +kernel
theorem dX9_pieceOf_9 : decode cX9_pieceOf 9 = .ok (.getfield 44, 3) := by decide +kernel
theorem dX9_pieceOf_12 : decode cX9_pieceOf 12 = .ok (.aload_n 0, 1) := by decide +kernel
theorem dX9_pieceOf_13 : decode cX9_pieceOf 13 = .ok (.getfield 13, 3) := by decide +kernel
theorem dX9_pieceOf_16 : decode cX9_pieceOf 16 = .ok (.bipush 22, 2) := by decide +kernel
theorem dX9_pieceOf_18 : decode cX9_pieceOf 18 = .ok (.iload_n 1, 1) := by decide +kernel
theorem dX9_pieceOf_19 : decode cX9_pieceOf 19 = .ok (.iadd, 1) := by decide +kernel
theorem dX9_pieceOf_20 : decode cX9_pieceOf 20 = .ok (.iaload, 1) := by decide +kernel
theorem dX9_pieceOf_21 : decode cX9_pieceOf 21 = .ok (.iaload, 1) := by decide +kernel
theorem dX9_pieceOf_22 : decode cX9_pieceOf 22 = .ok (.if_icmp .eq 9, 3) := by decide +kernel
theorem dX9_pieceOf_25 : decode cX9_pieceOf 25 = .ok (.iinc 2 1, 3) := by decide +kernel
theorem dX9_pieceOf_28 : decode cX9_pieceOf 28 = .ok (.goto (-26), 3) := by decide +kernel
theorem dX9_pieceOf_31 : decode cX9_pieceOf 31 = .ok (.iload_n 2, 1) := by decide +kernel
theorem dX9_pieceOf_32 : decode cX9_pieceOf 32 = .ok (.ireturn, 1) := by decide +kernel
theorem dX9_cutsOf_0 : decode cX9_cutsOf 0 = .ok (.iconst 0, 1) := by decide +kernel
theorem dX9_cutsOf_1 : decode cX9_cutsOf 1 = .ok (.istore_n 2, 1) := by decide +kernel
theorem dX9_cutsOf_2 : decode cX9_cutsOf 2 = .ok (.iconst 0, 1) := by decide +kernel
theorem dX9_cutsOf_3 : decode cX9_cutsOf 3 = .ok (.istore_n 3, 1) := by decide +kernel
theorem dX9_cutsOf_4 : decode cX9_cutsOf 4 = .ok (.iload_n 3, 1) := by decide +kernel
theorem dX9_cutsOf_5 : decode cX9_cutsOf 5 = .ok (.aload_n 0, 1) := by decide +kernel
theorem dX9_cutsOf_6 : decode cX9_cutsOf 6 = .ok (.getfield 13, 3) := by decide +kernel
theorem dX9_cutsOf_9 : decode cX9_cutsOf 9 = .ok (.iconst 1, 1) := by decide +kernel
theorem dX9_cutsOf_10 : decode cX9_cutsOf 10 = .ok (.iaload, 1) := by decide +kernel
theorem dX9_cutsOf_11 : decode cX9_cutsOf 11 = .ok (.if_icmp .ge 55, 3) := by decide +kernel
theorem dX9_cutsOf_14 : decode cX9_cutsOf 14 = .ok (.iload_n 2, 1) := by decide +kernel
theorem dX9_cutsOf_15 : decode cX9_cutsOf 15 = .ok (.aload_n 0, 1) := by decide +kernel
theorem dX9_cutsOf_16 : decode cX9_cutsOf 16 = .ok (.getfield 19, 3) := by decide +kernel
theorem dX9_cutsOf_19 : decode cX9_cutsOf 19 = .ok (.iconst 0, 1) := by decide +kernel
theorem dX9_cutsOf_20 : decode cX9_cutsOf 20 = .ok (.iaload, 1) := by decide +kernel
theorem dX9_cutsOf_21 : decode cX9_cutsOf 21 = .ok (.iload_n 3, 1) := by decide +kernel
theorem dX9_cutsOf_22 : decode cX9_cutsOf 22 = .ok (.invokestatic 84, 3) := by decide +kernel
theorem dX9_cutsOf_25 : decode cX9_cutsOf 25 = .ok (.ifCond .eq 32, 3) := by decide +kernel
theorem dX9_cutsOf_28 : decode cX9_cutsOf 28 = .ok (.aload_n 0, 1) := by decide +kernel
theorem dX9_cutsOf_29 : decode cX9_cutsOf 29 = .ok (.getfield 44, 3) := by decide +kernel
theorem dX9_cutsOf_32 : decode cX9_cutsOf 32 = .ok (.aload_n 0, 1) := by decide +kernel
theorem dX9_cutsOf_33 : decode cX9_cutsOf 33 = .ok (.getfield 13, 3) := by decide +kernel
theorem dX9_cutsOf_36 : decode cX9_cutsOf 36 = .ok (.bipush 22, 2) := by decide +kernel
theorem dX9_cutsOf_38 : decode cX9_cutsOf 38 = .ok (.iload_n 3, 1) := by decide +kernel
theorem dX9_cutsOf_39 : decode cX9_cutsOf 39 = .ok (.iadd, 1) := by decide +kernel
theorem dX9_cutsOf_40 : decode cX9_cutsOf 40 = .ok (.iaload, 1) := by decide +kernel
theorem dX9_cutsOf_41 : decode cX9_cutsOf 41 = .ok (.iaload, 1) := by decide +kernel
theorem dX9_cutsOf_42 : decode cX9_cutsOf 42 = .ok (.aload_n 0, 1) := by decide +kernel
theorem dX9_cutsOf_43 : decode cX9_cutsOf 43 = .ok (.getfield 47, 3) := by decide +kernel
theorem dX9_cutsOf_46 : decode cX9_cutsOf 46 = .ok (.iload_n 1, 1) := by decide +kernel
theorem dX9_cutsOf_47 : decode cX9_cutsOf 47 = .ok (.iaload, 1) := by decide +kernel
theorem dX9_cutsOf_48 : decode cX9_cutsOf 48 = .ok (.if_icmp .ne 9, 3) := by decide +kernel
theorem dX9_cutsOf_51 : decode cX9_cutsOf 51 = .ok (.iconst 1, 1) := by decide +kernel
theorem dX9_cutsOf_52 : decode cX9_cutsOf 52 = .ok (.iload_n 3, 1) := by decide +kernel
theorem dX9_cutsOf_53 : decode cX9_cutsOf 53 = .ok (.ishl, 1) := by decide +kernel
theorem dX9_cutsOf_54 : decode cX9_cutsOf 54 = .ok (.goto 4, 3) := by decide +kernel
theorem dX9_cutsOf_57 : decode cX9_cutsOf 57 = .ok (.iconst 0, 1) := by decide +kernel
theorem dX9_cutsOf_58 : decode cX9_cutsOf 58 = .ok (.ior, 1) := by decide +kernel
theorem dX9_cutsOf_59 : decode cX9_cutsOf 59 = .ok (.istore_n 2, 1) := by decide +kernel
theorem dX9_cutsOf_60 : decode cX9_cutsOf 60 = .ok (.iinc 3 1, 3) := by decide +kernel
theorem dX9_cutsOf_63 : decode cX9_cutsOf 63 = .ok (.goto (-59), 3) := by decide +kernel
theorem dX9_cutsOf_66 : decode cX9_cutsOf 66 = .ok (.iload_n 2, 1) := by decide +kernel
theorem dX9_cutsOf_67 : decode cX9_cutsOf 67 = .ok (.ireturn, 1) := by decide +kernel
theorem dX9_oddOf_0 : decode cX9_oddOf 0 = .ok (.iconst 0, 1) := by decide +kernel
theorem dX9_oddOf_1 : decode cX9_oddOf 1 = .ok (.istore_n 2, 1) := by decide +kernel
theorem dX9_oddOf_2 : decode cX9_oddOf 2 = .ok (.iconst 0, 1) := by decide +kernel
theorem dX9_oddOf_3 : decode cX9_oddOf 3 = .ok (.istore_n 3, 1) := by decide +kernel
theorem dX9_oddOf_4 : decode cX9_oddOf 4 = .ok (.iload_n 3, 1) := by decide +kernel
theorem dX9_oddOf_5 : decode cX9_oddOf 5 = .ok (.aload_n 0, 1) := by decide +kernel
theorem dX9_oddOf_6 : decode cX9_oddOf 6 = .ok (.getfield 13, 3) := by decide +kernel
theorem dX9_oddOf_9 : decode cX9_oddOf 9 = .ok (.iconst 0, 1) := by decide +kernel
theorem dX9_oddOf_10 : decode cX9_oddOf 10 = .ok (.iaload, 1) := by decide +kernel
theorem dX9_oddOf_11 : decode cX9_oddOf 11 = .ok (.if_icmp .ge 54, 3) := by decide +kernel
theorem dX9_oddOf_14 : decode cX9_oddOf 14 = .ok (.iload_n 2, 1) := by decide +kernel
theorem dX9_oddOf_15 : decode cX9_oddOf 15 = .ok (.aload_n 0, 1) := by decide +kernel
theorem dX9_oddOf_16 : decode cX9_oddOf 16 = .ok (.getfield 44, 3) := by decide +kernel
theorem dX9_oddOf_19 : decode cX9_oddOf 19 = .ok (.iload_n 3, 1) := by decide +kernel
theorem dX9_oddOf_20 : decode cX9_oddOf 20 = .ok (.iaload, 1) := by decide +kernel
theorem dX9_oddOf_21 : decode cX9_oddOf 21 = .ok (.aload_n 0, 1) := by decide +kernel
theorem dX9_oddOf_22 : decode cX9_oddOf 22 = .ok (.getfield 47, 3) := by decide +kernel
theorem dX9_oddOf_25 : decode cX9_oddOf 25 = .ok (.iload_n 1, 1) := by decide +kernel
theorem dX9_oddOf_26 : decode cX9_oddOf 26 = .ok (.iaload, 1) := by decide +kernel
theorem dX9_oddOf_27 : decode cX9_oddOf 27 = .ok (.if_icmp .ne 29, 3) := by decide +kernel
theorem dX9_oddOf_30 : decode cX9_oddOf 30 = .ok (.aload_n 0, 1) := by decide +kernel
theorem dX9_oddOf_31 : decode cX9_oddOf 31 = .ok (.getfield 13, 3) := by decide +kernel
theorem dX9_oddOf_34 : decode cX9_oddOf 34 = .ok (.iload_n 3, 1) := by decide +kernel
theorem dX9_oddOf_35 : decode cX9_oddOf 35 = .ok (.aload_n 0, 1) := by decide +kernel
theorem dX9_oddOf_36 : decode cX9_oddOf 36 = .ok (.getfield 19, 3) := by decide +kernel
theorem dX9_oddOf_39 : decode cX9_oddOf 39 = .ok (.iconst 0, 1) := by decide +kernel
theorem dX9_oddOf_40 : decode cX9_oddOf 40 = .ok (.iaload, 1) := by decide +kernel
theorem dX9_oddOf_41 : decode cX9_oddOf 41 = .ok (.invokestatic 192, 3) := by decide +kernel
theorem dX9_oddOf_44 : decode cX9_oddOf 44 = .ok (.iconst 2, 1) := by decide +kernel
theorem dX9_oddOf_45 : decode cX9_oddOf 45 = .ok (.irem, 1) := by decide +kernel
theorem dX9_oddOf_46 : decode cX9_oddOf 46 = .ok (.iconst 1, 1) := by decide +kernel
theorem dX9_oddOf_47 : decode cX9_oddOf 47 = .ok (.if_icmp .ne 9, 3) := by decide +kernel
theorem dX9_oddOf_50 : decode cX9_oddOf 50 = .ok (.iconst 1, 1) := by decide +kernel
theorem dX9_oddOf_51 : decode cX9_oddOf 51 = .ok (.iload_n 3, 1) := by decide +kernel
theorem dX9_oddOf_52 : decode cX9_oddOf 52 = .ok (.ishl, 1) := by decide +kernel
theorem dX9_oddOf_53 : decode cX9_oddOf 53 = .ok (.goto 4, 3) := by decide +kernel
theorem dX9_oddOf_56 : decode cX9_oddOf 56 = .ok (.iconst 0, 1) := by decide +kernel
theorem dX9_oddOf_57 : decode cX9_oddOf 57 = .ok (.ior, 1) := by decide +kernel
theorem dX9_oddOf_58 : decode cX9_oddOf 58 = .ok (.istore_n 2, 1) := by decide +kernel
theorem dX9_oddOf_59 : decode cX9_oddOf 59 = .ok (.iinc 3 1, 3) := by decide +kernel
theorem dX9_oddOf_62 : decode cX9_oddOf 62 = .ok (.goto (-58), 3) := by decide +kernel
theorem dX9_oddOf_65 : decode cX9_oddOf 65 = .ok (.iload_n 2, 1) := by decide +kernel
theorem dX9_oddOf_66 : decode cX9_oddOf 66 = .ok (.ireturn, 1) := by decide +kernel
theorem dX9_cut_0 : decode cX9_cut 0 = .ok (.aload_n 0, 1) := by decide +kernel
theorem dX9_cut_1 : decode cX9_cut 1 = .ok (.iconst 0, 1) := by decide +kernel
theorem dX9_cut_2 : decode cX9_cut 2 = .ok (.putfield 80, 3) := by decide +kernel
theorem dX9_cut_5 : decode cX9_cut 5 = .ok (.iload_n 1, 1) := by decide +kernel
theorem dX9_cut_6 : decode cX9_cut 6 = .ok (.iconst 0, 1) := by decide +kernel
theorem dX9_cut_7 : decode cX9_cut 7 = .ok (.aload_n 0, 1) := by decide +kernel
theorem dX9_cut_8 : decode cX9_cut 8 = .ok (.getfield 13, 3) := by decide +kernel
theorem dX9_cut_11 : decode cX9_cut 11 = .ok (.iconst 1, 1) := by decide +kernel
theorem dX9_cut_12 : decode cX9_cut 12 = .ok (.iaload, 1) := by decide +kernel
theorem dX9_cut_13 : decode cX9_cut 13 = .ok (.iconst 1, 1) := by decide +kernel
theorem dX9_cut_14 : decode cX9_cut 14 = .ok (.isub, 1) := by decide +kernel
theorem dX9_cut_15 : decode cX9_cut 15 = .ok (.invokestatic 88, 3) := by decide +kernel
theorem dX9_cut_18 : decode cX9_cut 18 = .ok (.ifCond .eq 12, 3) := by decide +kernel
theorem dX9_cut_21 : decode cX9_cut 21 = .ok (.iload_n 2, 1) := by decide +kernel
theorem dX9_cut_22 : decode cX9_cut 22 = .ok (.iconst 0, 1) := by decide +kernel
theorem dX9_cut_23 : decode cX9_cut 23 = .ok (.iconst 4, 1) := by decide +kernel
theorem dX9_cut_24 : decode cX9_cut 24 = .ok (.invokestatic 88, 3) := by decide +kernel
theorem dX9_cut_27 : decode cX9_cut 27 = .ok (.ifCond .ne 5, 3) := by decide +kernel
theorem dX9_cut_30 : decode cX9_cut 30 = .ok (.iconst (-1), 1) := by decide +kernel
theorem dX9_cut_31 : decode cX9_cut 31 = .ok (.ireturn, 1) := by decide +kernel
theorem dX9_cut_32 : decode cX9_cut 32 = .ok (.iload_n 2, 1) := by decide +kernel
theorem dX9_cut_33 : decode cX9_cut 33 = .ok (.iconst 3, 1) := by decide +kernel
theorem dX9_cut_34 : decode cX9_cut 34 = .ok (.if_icmp .ge 47, 3) := by decide +kernel
theorem dX9_cut_37 : decode cX9_cut 37 = .ok (.iload_n 2, 1) := by decide +kernel
theorem dX9_cut_38 : decode cX9_cut 38 = .ok (.ifCond .ne 15, 3) := by decide +kernel
theorem dX9_cut_41 : decode cX9_cut 41 = .ok (.aload_n 0, 1) := by decide +kernel
theorem dX9_cut_42 : decode cX9_cut 42 = .ok (.getfield 13, 3) := by decide +kernel
theorem dX9_cut_45 : decode cX9_cut 45 = .ok (.bipush 22, 2) := by decide +kernel
theorem dX9_cut_47 : decode cX9_cut 47 = .ok (.iload_n 1, 1) := by decide +kernel
theorem dX9_cut_48 : decode cX9_cut 48 = .ok (.iadd, 1) := by decide +kernel
theorem dX9_cut_49 : decode cX9_cut 49 = .ok (.iaload, 1) := by decide +kernel
theorem dX9_cut_50 : decode cX9_cut 50 = .ok (.goto 30, 3) := by decide +kernel
theorem dX9_cut_53 : decode cX9_cut 53 = .ok (.iload_n 2, 1) := by decide +kernel
theorem dX9_cut_54 : decode cX9_cut 54 = .ok (.iconst 1, 1) := by decide +kernel
theorem dX9_cut_55 : decode cX9_cut 55 = .ok (.if_icmp .ne 15, 3) := by decide +kernel
theorem dX9_cut_58 : decode cX9_cut 58 = .ok (.aload_n 0, 1) := by decide +kernel
theorem dX9_cut_59 : decode cX9_cut 59 = .ok (.getfield 13, 3) := by decide +kernel
theorem dX9_cut_62 : decode cX9_cut 62 = .ok (.bipush 36, 2) := by decide +kernel
theorem dX9_cut_64 : decode cX9_cut 64 = .ok (.iload_n 1, 1) := by decide +kernel
theorem dX9_cut_65 : decode cX9_cut 65 = .ok (.iadd, 1) := by decide +kernel
theorem dX9_cut_66 : decode cX9_cut 66 = .ok (.iaload, 1) := by decide +kernel
theorem dX9_cut_67 : decode cX9_cut 67 = .ok (.goto 13, 3) := by decide +kernel
theorem dX9_cut_70 : decode cX9_cut 70 = .ok (.aload_n 0, 1) := by decide +kernel
theorem dX9_cut_71 : decode cX9_cut 71 = .ok (.getfield 19, 3) := by decide +kernel
theorem dX9_cut_74 : decode cX9_cut 74 = .ok (.iconst 0, 1) := by decide +kernel
theorem dX9_cut_75 : decode cX9_cut 75 = .ok (.iaload, 1) := by decide +kernel
theorem dX9_cut_76 : decode cX9_cut 76 = .ok (.iload_n 1, 1) := by decide +kernel
theorem dX9_cut_77 : decode cX9_cut 77 = .ok (.ishr, 1) := by decide +kernel
theorem dX9_cut_78 : decode cX9_cut 78 = .ok (.iconst 1, 1) := by decide +kernel
theorem dX9_cut_79 : decode cX9_cut 79 = .ok (.iand, 1) := by decide +kernel
theorem dX9_cut_80 : decode cX9_cut 80 = .ok (.ireturn, 1) := by decide +kernel
theorem dX9_cut_81 : decode cX9_cut 81 = .ok (.aload_n 0, 1) := by decide +kernel
theorem dX9_cut_82 : decode cX9_cut 82 = .ok (.invokevirtual 201, 3) := by decide +kernel
theorem dX9_cut_85 : decode cX9_cut 85 = .ok (.iload_n 2, 1) := by decide +kernel
theorem dX9_cut_86 : decode cX9_cut 86 = .ok (.iconst 4, 1) := by decide +kernel
theorem dX9_cut_87 : decode cX9_cut 87 = .ok (.if_icmp .ne 28, 3) := by decide +kernel
theorem dX9_cut_90 : decode cX9_cut 90 = .ok (.aload_n 0, 1) := by decide +kernel
theorem dX9_cut_91 : decode cX9_cut 91 = .ok (.aload_n 0, 1) := by decide +kernel
theorem dX9_cut_92 : decode cX9_cut 92 = .ok (.getfield 13, 3) := by decide +kernel
theorem dX9_cut_95 : decode cX9_cut 95 = .ok (.bipush 22, 2) := by decide +kernel
theorem dX9_cut_97 : decode cX9_cut 97 = .ok (.iload_n 1, 1) := by decide +kernel
theorem dX9_cut_98 : decode cX9_cut 98 = .ok (.iadd, 1) := by decide +kernel
theorem dX9_cut_99 : decode cX9_cut 99 = .ok (.iaload, 1) := by decide +kernel
theorem dX9_cut_100 : decode cX9_cut 100 = .ok (.aload_n 0, 1) := by decide +kernel
theorem dX9_cut_101 : decode cX9_cut 101 = .ok (.getfield 13, 3) := by decide +kernel
theorem dX9_cut_104 : decode cX9_cut 104 = .ok (.bipush 36, 2) := by decide +kernel
theorem dX9_cut_106 : decode cX9_cut 106 = .ok (.iload_n 1, 1) := by decide +kernel
theorem dX9_cut_107 : decode cX9_cut 107 = .ok (.iadd, 1) := by decide +kernel
theorem dX9_cut_108 : decode cX9_cut 108 = .ok (.iaload, 1) := by decide +kernel
theorem dX9_cut_109 : decode cX9_cut 109 = .ok (.invokevirtual 204, 3) := by decide +kernel
theorem dX9_cut_112 : decode cX9_cut 112 = .ok (.goto 26, 3) := by decide +kernel
theorem dX9_cut_115 : decode cX9_cut 115 = .ok (.aload_n 0, 1) := by decide +kernel
theorem dX9_cut_116 : decode cX9_cut 116 = .ok (.getfield 19, 3) := by decide +kernel
theorem dX9_cut_119 : decode cX9_cut 119 = .ok (.iconst 0, 1) := by decide +kernel
theorem dX9_cut_120 : decode cX9_cut 120 = .ok (.iaload, 1) := by decide +kernel
theorem dX9_cut_121 : decode cX9_cut 121 = .ok (.iload_n 1, 1) := by decide +kernel
theorem dX9_cut_122 : decode cX9_cut 122 = .ok (.invokestatic 84, 3) := by decide +kernel
theorem dX9_cut_125 : decode cX9_cut 125 = .ok (.ifCond .eq 11, 3) := by decide +kernel
theorem dX9_cut_128 : decode cX9_cut 128 = .ok (.aload_n 0, 1) := by decide +kernel
theorem dX9_cut_129 : decode cX9_cut 129 = .ok (.iload_n 1, 1) := by decide +kernel
theorem dX9_cut_130 : decode cX9_cut 130 = .ok (.invokevirtual 207, 3) := by decide +kernel
theorem dX9_cut_133 : decode cX9_cut 133 = .ok (.goto 5, 3) := by decide +kernel
theorem dX9_cut_136 : decode cX9_cut 136 = .ok (.bipush (-9), 2) := by decide +kernel
theorem dX9_cut_138 : decode cX9_cut 138 = .ok (.ireturn, 1) := by decide +kernel
theorem dX9_cutsOfPart_0 : decode cX9_cutsOfPart 0 = .ok (.iconst 0, 1) := by decide +kernel
theorem dX9_cutsOfPart_1 : decode cX9_cutsOfPart 1 = .ok (.istore_n 2, 1) := by decide +kernel
theorem dX9_cutsOfPart_2 : decode cX9_cutsOfPart 2 = .ok (.iconst 0, 1) := by decide +kernel
theorem dX9_cutsOfPart_3 : decode cX9_cutsOfPart 3 = .ok (.istore_n 3, 1) := by decide +kernel
theorem dX9_cutsOfPart_4 : decode cX9_cutsOfPart 4 = .ok (.iload_n 3, 1) := by decide +kernel
theorem dX9_cutsOfPart_5 : decode cX9_cutsOfPart 5 = .ok (.aload_n 0, 1) := by decide +kernel
theorem dX9_cutsOfPart_6 : decode cX9_cutsOfPart 6 = .ok (.getfield 13, 3) := by decide +kernel
theorem dX9_cutsOfPart_9 : decode cX9_cutsOfPart 9 = .ok (.bipush 50, 2) := by decide +kernel
theorem dX9_cutsOfPart_11 : decode cX9_cutsOfPart 11 = .ok (.iload_n 1, 1) := by decide +kernel
theorem dX9_cutsOfPart_12 : decode cX9_cutsOfPart 12 = .ok (.iadd, 1) := by decide +kernel
theorem dX9_cutsOfPart_13 : decode cX9_cutsOfPart 13 = .ok (.iaload, 1) := by decide +kernel
theorem dX9_cutsOfPart_14 : decode cX9_cutsOfPart 14 = .ok (.if_icmp .ge 35, 3) := by decide +kernel
theorem dX9_cutsOfPart_17 : decode cX9_cutsOfPart 17 = .ok (.iload_n 2, 1) := by decide +kernel
theorem dX9_cutsOfPart_18 : decode cX9_cutsOfPart 18 = .ok (.iconst 1, 1) := by decide +kernel
theorem dX9_cutsOfPart_19 : decode cX9_cutsOfPart 19 = .ok (.aload_n 0, 1) := by decide +kernel
theorem dX9_cutsOfPart_20 : decode cX9_cutsOfPart 20 = .ok (.getfield 13, 3) := by decide +kernel
theorem dX9_cutsOfPart_23 : decode cX9_cutsOfPart 23 = .ok (.aload_n 0, 1) := by decide +kernel
theorem dX9_cutsOfPart_24 : decode cX9_cutsOfPart 24 = .ok (.iload_n 1, 1) := by decide +kernel
theorem dX9_cutsOfPart_25 : decode cX9_cutsOfPart 25 = .ok (.iload_n 3, 1) := by decide +kernel
theorem dX9_cutsOfPart_26 : decode cX9_cutsOfPart 26 = .ok (.invokevirtual 181, 3) := by decide +kernel
theorem dX9_cutsOfPart_29 : decode cX9_cutsOfPart 29 = .ok (.aload_n 0, 1) := by decide +kernel
theorem dX9_cutsOfPart_30 : decode cX9_cutsOfPart 30 = .ok (.iload_n 1, 1) := by decide +kernel
theorem dX9_cutsOfPart_31 : decode cX9_cutsOfPart 31 = .ok (.iload_n 3, 1) := by decide +kernel
theorem dX9_cutsOfPart_32 : decode cX9_cutsOfPart 32 = .ok (.iconst 1, 1) := by decide +kernel
theorem dX9_cutsOfPart_33 : decode cX9_cutsOfPart 33 = .ok (.iadd, 1) := by decide +kernel
theorem dX9_cutsOfPart_34 : decode cX9_cutsOfPart 34 = .ok (.invokevirtual 181, 3) := by decide +kernel
theorem dX9_cutsOfPart_37 : decode cX9_cutsOfPart 37 = .ok (.invokestatic 125, 3) := by decide +kernel
theorem dX9_cutsOfPart_40 : decode cX9_cutsOfPart 40 = .ok (.ishl, 1) := by decide +kernel
theorem dX9_cutsOfPart_41 : decode cX9_cutsOfPart 41 = .ok (.ior, 1) := by decide +kernel
theorem dX9_cutsOfPart_42 : decode cX9_cutsOfPart 42 = .ok (.istore_n 2, 1) := by decide +kernel
theorem dX9_cutsOfPart_43 : decode cX9_cutsOfPart 43 = .ok (.iinc 3 1, 3) := by decide +kernel
theorem dX9_cutsOfPart_46 : decode cX9_cutsOfPart 46 = .ok (.goto (-42), 3) := by decide +kernel
theorem dX9_cutsOfPart_49 : decode cX9_cutsOfPart 49 = .ok (.iload_n 2, 1) := by decide +kernel
theorem dX9_cutsOfPart_50 : decode cX9_cutsOfPart 50 = .ok (.ireturn, 1) := by decide +kernel
theorem dX9_part_0 : decode cX9_part 0 = .ok (.aload_n 0, 1) := by decide +kernel
theorem dX9_part_1 : decode cX9_part 1 = .ok (.iconst 0, 1) := by decide +kernel
