theorem dX9_part_2 : decode cX9_part 2 = .ok (.putfield 80, 3) := by decide +kernel
theorem dX9_part_5 : decode cX9_part 5 = .ok (.iload_n 1, 1) := by decide +kernel
theorem dX9_part_6 : decode cX9_part 6 = .ok (.iconst 0, 1) := by decide +kernel
theorem dX9_part_7 : decode cX9_part 7 = .ok (.aload_n 0, 1) := by decide +kernel
theorem dX9_part_8 : decode cX9_part 8 = .ok (.getfield 13, 3) := by decide +kernel
theorem dX9_part_11 : decode cX9_part 11 = .ok (.iconst 2, 1) := by decide +kernel
theorem dX9_part_12 : decode cX9_part 12 = .ok (.iaload, 1) := by decide +kernel
theorem dX9_part_13 : decode cX9_part 13 = .ok (.iconst 1, 1) := by decide +kernel
theorem dX9_part_14 : decode cX9_part 14 = .ok (.isub, 1) := by decide +kernel
theorem dX9_part_15 : decode cX9_part 15 = .ok (.invokestatic 88, 3) := by decide +kernel
theorem dX9_part_18 : decode cX9_part 18 = .ok (.ifCond .eq 12, 3) := by decide +kernel
theorem dX9_part_21 : decode cX9_part 21 = .ok (.iload_n 2, 1) := by decide +kernel
theorem dX9_part_22 : decode cX9_part 22 = .ok (.iconst 0, 1) := by decide +kernel
theorem dX9_part_23 : decode cX9_part 23 = .ok (.iconst 2, 1) := by decide +kernel
theorem dX9_part_24 : decode cX9_part 24 = .ok (.invokestatic 88, 3) := by decide +kernel
theorem dX9_part_27 : decode cX9_part 27 = .ok (.ifCond .ne 5, 3) := by decide +kernel
theorem dX9_part_30 : decode cX9_part 30 = .ok (.iconst (-1), 1) := by decide +kernel
theorem dX9_part_31 : decode cX9_part 31 = .ok (.ireturn, 1) := by decide +kernel
theorem dX9_part_32 : decode cX9_part 32 = .ok (.iload_n 2, 1) := by decide +kernel
theorem dX9_part_33 : decode cX9_part 33 = .ok (.ifCond .ne 15, 3) := by decide +kernel
theorem dX9_part_36 : decode cX9_part 36 = .ok (.aload_n 0, 1) := by decide +kernel
theorem dX9_part_37 : decode cX9_part 37 = .ok (.getfield 13, 3) := by decide +kernel
theorem dX9_part_40 : decode cX9_part 40 = .ok (.bipush 50, 2) := by decide +kernel
theorem dX9_part_42 : decode cX9_part 42 = .ok (.iload_n 1, 1) := by decide +kernel
theorem dX9_part_43 : decode cX9_part 43 = .ok (.iadd, 1) := by decide +kernel
theorem dX9_part_44 : decode cX9_part 44 = .ok (.iaload, 1) := by decide +kernel
theorem dX9_part_45 : decode cX9_part 45 = .ok (.goto 32, 3) := by decide +kernel
theorem dX9_part_48 : decode cX9_part 48 = .ok (.iload_n 2, 1) := by decide +kernel
theorem dX9_part_49 : decode cX9_part 49 = .ok (.iconst 1, 1) := by decide +kernel
theorem dX9_part_50 : decode cX9_part 50 = .ok (.if_icmp .ne 21, 3) := by decide +kernel
theorem dX9_part_53 : decode cX9_part 53 = .ok (.aload_n 0, 1) := by decide +kernel
theorem dX9_part_54 : decode cX9_part 54 = .ok (.iload_n 1, 1) := by decide +kernel
theorem dX9_part_55 : decode cX9_part 55 = .ok (.invokevirtual 210, 3) := by decide +kernel
theorem dX9_part_58 : decode cX9_part 58 = .ok (.aload_n 0, 1) := by decide +kernel
theorem dX9_part_59 : decode cX9_part 59 = .ok (.getfield 19, 3) := by decide +kernel
theorem dX9_part_62 : decode cX9_part 62 = .ok (.iconst 0, 1) := by decide +kernel
theorem dX9_part_63 : decode cX9_part 63 = .ok (.iaload, 1) := by decide +kernel
theorem dX9_part_64 : decode cX9_part 64 = .ok (.iand, 1) := by decide +kernel
theorem dX9_part_65 : decode cX9_part 65 = .ok (.invokestatic 213, 3) := by decide +kernel
theorem dX9_part_68 : decode cX9_part 68 = .ok (.goto 9, 3) := by decide +kernel
theorem dX9_part_71 : decode cX9_part 71 = .ok (.aload_n 0, 1) := by decide +kernel
theorem dX9_part_72 : decode cX9_part 72 = .ok (.getfield 41, 3) := by decide +kernel
theorem dX9_part_75 : decode cX9_part 75 = .ok (.iload_n 1, 1) := by decide +kernel
theorem dX9_part_76 : decode cX9_part 76 = .ok (.iaload, 1) := by decide +kernel
theorem dX9_part_77 : decode cX9_part 77 = .ok (.ireturn, 1) := by decide +kernel
theorem dX9_notes_0 : decode cX9_notes 0 = .ok (.aload_n 0, 1) := by decide +kernel
theorem dX9_notes_1 : decode cX9_notes 1 = .ok (.getfield 174, 3) := by decide +kernel
theorem dX9_notes_4 : decode cX9_notes 4 = .ok (.bipush 10, 2) := by decide +kernel
theorem dX9_notes_6 : decode cX9_notes 6 = .ok (.if_icmp .ne 38, 3) := by decide +kernel
theorem dX9_notes_9 : decode cX9_notes 9 = .ok (.iconst 0, 1) := by decide +kernel
theorem dX9_notes_10 : decode cX9_notes 10 = .ok (.istore_n 1, 1) := by decide +kernel
theorem dX9_notes_11 : decode cX9_notes 11 = .ok (.iload_n 1, 1) := by decide +kernel
theorem dX9_notes_12 : decode cX9_notes 12 = .ok (.bipush 117, 2) := by decide +kernel
theorem dX9_notes_14 : decode cX9_notes 14 = .ok (.if_icmp .ge 24, 3) := by decide +kernel
theorem dX9_notes_17 : decode cX9_notes 17 = .ok (.aload_n 0, 1) := by decide +kernel
theorem dX9_notes_18 : decode cX9_notes 18 = .ok (.getfield 22, 3) := by decide +kernel
theorem dX9_notes_21 : decode cX9_notes 21 = .ok (.iload_n 1, 1) := by decide +kernel
theorem dX9_notes_22 : decode cX9_notes 22 = .ok (.aload_n 0, 1) := by decide +kernel
theorem dX9_notes_23 : decode cX9_notes 23 = .ok (.getfield 22, 3) := by decide +kernel
theorem dX9_notes_26 : decode cX9_notes 26 = .ok (.iload_n 1, 1) := by decide +kernel
theorem dX9_notes_27 : decode cX9_notes 27 = .ok (.bipush 13, 2) := by decide +kernel
theorem dX9_notes_29 : decode cX9_notes 29 = .ok (.iadd, 1) := by decide +kernel
theorem dX9_notes_30 : decode cX9_notes 30 = .ok (.iaload, 1) := by decide +kernel
theorem dX9_notes_31 : decode cX9_notes 31 = .ok (.iastore, 1) := by decide +kernel
theorem dX9_notes_32 : decode cX9_notes 32 = .ok (.iinc 1 1, 3) := by decide +kernel
theorem dX9_notes_35 : decode cX9_notes 35 = .ok (.goto (-24), 3) := by decide +kernel
theorem dX9_notes_38 : decode cX9_notes 38 = .ok (.aload_n 0, 1) := by decide +kernel
theorem dX9_notes_39 : decode cX9_notes 39 = .ok (.bipush 9, 2) := by decide +kernel
theorem dX9_notes_41 : decode cX9_notes 41 = .ok (.putfield 174, 3) := by decide +kernel
theorem dX9_notes_44 : decode cX9_notes 44 = .ok (.iconst 0, 1) := by decide +kernel
theorem dX9_notes_45 : decode cX9_notes 45 = .ok (.istore_n 1, 1) := by decide +kernel
theorem dX9_notes_46 : decode cX9_notes 46 = .ok (.iload_n 1, 1) := by decide +kernel
theorem dX9_notes_47 : decode cX9_notes 47 = .ok (.bipush 13, 2) := by decide +kernel
theorem dX9_notes_49 : decode cX9_notes 49 = .ok (.if_icmp .ge 29, 3) := by decide +kernel
theorem dX9_notes_52 : decode cX9_notes 52 = .ok (.aload_n 0, 1) := by decide +kernel
theorem dX9_notes_53 : decode cX9_notes 53 = .ok (.getfield 22, 3) := by decide +kernel
theorem dX9_notes_56 : decode cX9_notes 56 = .ok (.bipush 13, 2) := by decide +kernel
theorem dX9_notes_58 : decode cX9_notes 58 = .ok (.aload_n 0, 1) := by decide +kernel
theorem dX9_notes_59 : decode cX9_notes 59 = .ok (.getfield 174, 3) := by decide +kernel
theorem dX9_notes_62 : decode cX9_notes 62 = .ok (.imul, 1) := by decide +kernel
theorem dX9_notes_63 : decode cX9_notes 63 = .ok (.iload_n 1, 1) := by decide +kernel
theorem dX9_notes_64 : decode cX9_notes 64 = .ok (.iadd, 1) := by decide +kernel
theorem dX9_notes_65 : decode cX9_notes 65 = .ok (.aload_n 0, 1) := by decide +kernel
theorem dX9_notes_66 : decode cX9_notes 66 = .ok (.getfield 19, 3) := by decide +kernel
theorem dX9_notes_69 : decode cX9_notes 69 = .ok (.iload_n 1, 1) := by decide +kernel
theorem dX9_notes_70 : decode cX9_notes 70 = .ok (.iaload, 1) := by decide +kernel
theorem dX9_notes_71 : decode cX9_notes 71 = .ok (.iastore, 1) := by decide +kernel
theorem dX9_notes_72 : decode cX9_notes 72 = .ok (.iinc 1 1, 3) := by decide +kernel
theorem dX9_notes_75 : decode cX9_notes 75 = .ok (.goto (-29), 3) := by decide +kernel
theorem dX9_notes_78 : decode cX9_notes 78 = .ok (.aload_n 0, 1) := by decide +kernel
theorem dX9_notes_79 : decode cX9_notes 79 = .ok (.dup, 1) := by decide +kernel
theorem dX9_notes_80 : decode cX9_notes 80 = .ok (.getfield 174, 3) := by decide +kernel
theorem dX9_notes_83 : decode cX9_notes 83 = .ok (.iconst 1, 1) := by decide +kernel
theorem dX9_notes_84 : decode cX9_notes 84 = .ok (.iadd, 1) := by decide +kernel
theorem dX9_notes_85 : decode cX9_notes 85 = .ok (.putfield 174, 3) := by decide +kernel
theorem dX9_notes_88 : decode cX9_notes 88 = .ok (.return_, 1) := by decide +kernel
theorem dX9_wouldFall_0 : decode cX9_wouldFall 0 = .ok (.iconst 0, 1) := by decide +kernel
theorem dX9_wouldFall_1 : decode cX9_wouldFall 1 = .ok (.istore_n 2, 1) := by decide +kernel
theorem dX9_wouldFall_2 : decode cX9_wouldFall 2 = .ok (.iconst 0, 1) := by decide +kernel
theorem dX9_wouldFall_3 : decode cX9_wouldFall 3 = .ok (.istore_n 3, 1) := by decide +kernel
theorem dX9_wouldFall_4 : decode cX9_wouldFall 4 = .ok (.iload_n 3, 1) := by decide +kernel
theorem dX9_wouldFall_5 : decode cX9_wouldFall 5 = .ok (.aload_n 0, 1) := by decide +kernel
theorem dX9_wouldFall_6 : decode cX9_wouldFall 6 = .ok (.getfield 13, 3) := by decide +kernel
theorem dX9_wouldFall_9 : decode cX9_wouldFall 9 = .ok (.iconst 2, 1) := by decide +kernel
theorem dX9_wouldFall_10 : decode cX9_wouldFall 10 = .ok (.iaload, 1) := by decide +kernel
theorem dX9_wouldFall_11 : decode cX9_wouldFall 11 = .ok (.if_icmp .ge 74, 3) := by decide +kernel
theorem dX9_wouldFall_14 : decode cX9_wouldFall 14 = .ok (.iconst 0, 1) := by decide +kernel
theorem dX9_wouldFall_15 : decode cX9_wouldFall 15 = .ok (.istore 4, 2) := by decide +kernel
theorem dX9_wouldFall_17 : decode cX9_wouldFall 17 = .ok (.iload 4, 2) := by decide +kernel
theorem dX9_wouldFall_19 : decode cX9_wouldFall 19 = .ok (.aload_n 0, 1) := by decide +kernel
theorem dX9_wouldFall_20 : decode cX9_wouldFall 20 = .ok (.getfield 13, 3) := by decide +kernel
theorem dX9_wouldFall_23 : decode cX9_wouldFall 23 = .ok (.iconst 2, 1) := by decide +kernel
theorem dX9_wouldFall_24 : decode cX9_wouldFall 24 = .ok (.iaload, 1) := by decide +kernel
theorem dX9_wouldFall_25 : decode cX9_wouldFall 25 = .ok (.if_icmp .ge 54, 3) := by decide +kernel
theorem dX9_wouldFall_28 : decode cX9_wouldFall 28 = .ok (.iload_n 2, 1) := by decide +kernel
theorem dX9_wouldFall_29 : decode cX9_wouldFall 29 = .ok (.ifCond .ne 38, 3) := by decide +kernel
theorem dX9_wouldFall_32 : decode cX9_wouldFall 32 = .ok (.aload_n 0, 1) := by decide +kernel
theorem dX9_wouldFall_33 : decode cX9_wouldFall 33 = .ok (.getfield 41, 3) := by decide +kernel
theorem dX9_wouldFall_36 : decode cX9_wouldFall 36 = .ok (.iload 4, 2) := by decide +kernel
theorem dX9_wouldFall_38 : decode cX9_wouldFall 38 = .ok (.iaload, 1) := by decide +kernel
theorem dX9_wouldFall_39 : decode cX9_wouldFall 39 = .ok (.iload_n 3, 1) := by decide +kernel
theorem dX9_wouldFall_40 : decode cX9_wouldFall 40 = .ok (.invokestatic 84, 3) := by decide +kernel
theorem dX9_wouldFall_43 : decode cX9_wouldFall 43 = .ok (.ifCond .eq 28, 3) := by decide +kernel
theorem dX9_wouldFall_46 : decode cX9_wouldFall 46 = .ok (.aload_n 0, 1) := by decide +kernel
theorem dX9_wouldFall_47 : decode cX9_wouldFall 47 = .ok (.iload_n 3, 1) := by decide +kernel
theorem dX9_wouldFall_48 : decode cX9_wouldFall 48 = .ok (.invokevirtual 210, 3) := by decide +kernel
theorem dX9_wouldFall_51 : decode cX9_wouldFall 51 = .ok (.iload_n 1, 1) := by decide +kernel
theorem dX9_wouldFall_52 : decode cX9_wouldFall 52 = .ok (.iand, 1) := by decide +kernel
theorem dX9_wouldFall_53 : decode cX9_wouldFall 53 = .ok (.ifCond .ne 18, 3) := by decide +kernel
theorem dX9_wouldFall_56 : decode cX9_wouldFall 56 = .ok (.aload_n 0, 1) := by decide +kernel
theorem dX9_wouldFall_57 : decode cX9_wouldFall 57 = .ok (.iload 4, 2) := by decide +kernel
theorem dX9_wouldFall_59 : decode cX9_wouldFall 59 = .ok (.invokevirtual 210, 3) := by decide +kernel
theorem dX9_wouldFall_62 : decode cX9_wouldFall 62 = .ok (.iload_n 1, 1) := by decide +kernel
theorem dX9_wouldFall_63 : decode cX9_wouldFall 63 = .ok (.iand, 1) := by decide +kernel
theorem dX9_wouldFall_64 : decode cX9_wouldFall 64 = .ok (.ifCond .eq 7, 3) := by decide +kernel
theorem dX9_wouldFall_67 : decode cX9_wouldFall 67 = .ok (.iconst 1, 1) := by decide +kernel
theorem dX9_wouldFall_68 : decode cX9_wouldFall 68 = .ok (.goto 4, 3) := by decide +kernel
theorem dX9_wouldFall_71 : decode cX9_wouldFall 71 = .ok (.iconst 0, 1) := by decide +kernel
theorem dX9_wouldFall_72 : decode cX9_wouldFall 72 = .ok (.istore_n 2, 1) := by decide +kernel
theorem dX9_wouldFall_73 : decode cX9_wouldFall 73 = .ok (.iinc 4 1, 3) := by decide +kernel
theorem dX9_wouldFall_76 : decode cX9_wouldFall 76 = .ok (.goto (-59), 3) := by decide +kernel
theorem dX9_wouldFall_79 : decode cX9_wouldFall 79 = .ok (.iinc 3 1, 3) := by decide +kernel
theorem dX9_wouldFall_82 : decode cX9_wouldFall 82 = .ok (.goto (-78), 3) := by decide +kernel
theorem dX9_wouldFall_85 : decode cX9_wouldFall 85 = .ok (.iload_n 2, 1) := by decide +kernel
theorem dX9_wouldFall_86 : decode cX9_wouldFall 86 = .ok (.ireturn, 1) := by decide +kernel
theorem dX9_isCool_0 : decode cX9_isCool 0 = .ok (.aload_n 0, 1) := by decide +kernel
theorem dX9_isCool_1 : decode cX9_isCool 1 = .ok (.getfield 19, 3) := by decide +kernel
theorem dX9_isCool_4 : decode cX9_isCool 4 = .ok (.iconst 4, 1) := by decide +kernel
theorem dX9_isCool_5 : decode cX9_isCool 5 = .ok (.iload_n 1, 1) := by decide +kernel
theorem dX9_isCool_6 : decode cX9_isCool 6 = .ok (.iadd, 1) := by decide +kernel
theorem dX9_isCool_7 : decode cX9_isCool 7 = .ok (.iaload, 1) := by decide +kernel
theorem dX9_isCool_8 : decode cX9_isCool 8 = .ok (.bipush (-9), 2) := by decide +kernel
theorem dX9_isCool_10 : decode cX9_isCool 10 = .ok (.if_icmp .eq 22, 3) := by decide +kernel
theorem dX9_isCool_13 : decode cX9_isCool 13 = .ok (.iload_n 2, 1) := by decide +kernel
theorem dX9_isCool_14 : decode cX9_isCool 14 = .ok (.aload_n 0, 1) := by decide +kernel
theorem dX9_isCool_15 : decode cX9_isCool 15 = .ok (.getfield 19, 3) := by decide +kernel
theorem dX9_isCool_18 : decode cX9_isCool 18 = .ok (.iconst 4, 1) := by decide +kernel
theorem dX9_isCool_19 : decode cX9_isCool 19 = .ok (.iload_n 1, 1) := by decide +kernel
theorem dX9_isCool_20 : decode cX9_isCool 20 = .ok (.iadd, 1) := by decide +kernel
theorem dX9_isCool_21 : decode cX9_isCool 21 = .ok (.iaload, 1) := by decide +kernel
theorem dX9_isCool_22 : decode cX9_isCool 22 = .ok (.aload_n 0, 1) := by decide +kernel
theorem dX9_isCool_23 : decode cX9_isCool 23 = .ok (.getfield 13, 3) := by decide +kernel
theorem dX9_isCool_26 : decode cX9_isCool 26 = .ok (.iconst 3, 1) := by decide +kernel
theorem dX9_isCool_27 : decode cX9_isCool 27 = .ok (.iaload, 1) := by decide +kernel
theorem dX9_isCool_28 : decode cX9_isCool 28 = .ok (.iadd, 1) := by decide +kernel
theorem dX9_isCool_29 : decode cX9_isCool 29 = .ok (.if_icmp .lt 7, 3) := by decide +kernel
theorem dX9_isCool_32 : decode cX9_isCool 32 = .ok (.iconst 1, 1) := by decide +kernel
theorem dX9_isCool_33 : decode cX9_isCool 33 = .ok (.goto 4, 3) := by decide +kernel
theorem dX9_isCool_36 : decode cX9_isCool 36 = .ok (.iconst 0, 1) := by decide +kernel
theorem dX9_isCool_37 : decode cX9_isCool 37 = .ok (.ireturn, 1) := by decide +kernel
theorem dX9_beginsAt_0 : decode cX9_beginsAt 0 = .ok (.aload_n 0, 1) := by decide +kernel
theorem dX9_beginsAt_1 : decode cX9_beginsAt 1 = .ok (.getfield 19, 3) := by decide +kernel
theorem dX9_beginsAt_4 : decode cX9_beginsAt 4 = .ok (.iconst 2, 1) := by decide +kernel
theorem dX9_beginsAt_5 : decode cX9_beginsAt 5 = .ok (.iaload, 1) := by decide +kernel
theorem dX9_beginsAt_6 : decode cX9_beginsAt 6 = .ok (.istore_n 3, 1) := by decide +kernel
theorem dX9_beginsAt_7 : decode cX9_beginsAt 7 = .ok (.aload_n 0, 1) := by decide +kernel
theorem dX9_beginsAt_8 : decode cX9_beginsAt 8 = .ok (.iload_n 1, 1) := by decide +kernel
theorem dX9_beginsAt_9 : decode cX9_beginsAt 9 = .ok (.iload_n 2, 1) := by decide +kernel
theorem dX9_beginsAt_10 : decode cX9_beginsAt 10 = .ok (.invokevirtual 204, 3) := by decide +kernel
theorem dX9_beginsAt_13 : decode cX9_beginsAt 13 = .ok (.istore 4, 2) := by decide +kernel
theorem dX9_beginsAt_15 : decode cX9_beginsAt 15 = .ok (.aload_n 0, 1) := by decide +kernel
theorem dX9_beginsAt_16 : decode cX9_beginsAt 16 = .ok (.getfield 19, 3) := by decide +kernel
theorem dX9_beginsAt_19 : decode cX9_beginsAt 19 = .ok (.iconst 3, 1) := by decide +kernel
theorem dX9_beginsAt_20 : decode cX9_beginsAt 20 = .ok (.iaload, 1) := by decide +kernel
theorem dX9_beginsAt_21 : decode cX9_beginsAt 21 = .ok (.iconst 1, 1) := by decide +kernel
theorem dX9_beginsAt_22 : decode cX9_beginsAt 22 = .ok (.if_icmp .eq 12, 3) := by decide +kernel
theorem dX9_beginsAt_25 : decode cX9_beginsAt 25 = .ok (.aload_n 0, 1) := by decide +kernel
theorem dX9_beginsAt_26 : decode cX9_beginsAt 26 = .ok (.iload_n 1, 1) := by decide +kernel
theorem dX9_beginsAt_27 : decode cX9_beginsAt 27 = .ok (.iload_n 3, 1) := by decide +kernel
theorem dX9_beginsAt_28 : decode cX9_beginsAt 28 = .ok (.invokevirtual 216, 3) := by decide +kernel
theorem dX9_beginsAt_31 : decode cX9_beginsAt 31 = .ok (.ifCond .eq 17, 3) := by decide +kernel
theorem dX9_beginsAt_34 : decode cX9_beginsAt 34 = .ok (.aload_n 0, 1) := by decide +kernel
theorem dX9_beginsAt_35 : decode cX9_beginsAt 35 = .ok (.iload_n 2, 1) := by decide +kernel
theorem dX9_beginsAt_36 : decode cX9_beginsAt 36 = .ok (.iload_n 3, 1) := by decide +kernel
theorem dX9_beginsAt_37 : decode cX9_beginsAt 37 = .ok (.iload 4, 2) := by decide +kernel
theorem dX9_beginsAt_39 : decode cX9_beginsAt 39 = .ok (.iadd, 1) := by decide +kernel
theorem dX9_beginsAt_40 : decode cX9_beginsAt 40 = .ok (.invokevirtual 216, 3) := by decide +kernel
theorem dX9_beginsAt_43 : decode cX9_beginsAt 43 = .ok (.ifCond .eq 5, 3) := by decide +kernel
theorem dX9_beginsAt_46 : decode cX9_beginsAt 46 = .ok (.iload_n 3, 1) := by decide +kernel
theorem dX9_beginsAt_47 : decode cX9_beginsAt 47 = .ok (.ireturn, 1) := by decide +kernel
theorem dX9_beginsAt_48 : decode cX9_beginsAt 48 = .ok (.iload_n 3, 1) := by decide +kernel
theorem dX9_beginsAt_49 : decode cX9_beginsAt 49 = .ok (.istore 5, 2) := by decide +kernel
theorem dX9_beginsAt_51 : decode cX9_beginsAt 51 = .ok (.aload_n 0, 1) := by decide +kernel
theorem dX9_beginsAt_52 : decode cX9_beginsAt 52 = .ok (.getfield 19, 3) := by decide +kernel
theorem dX9_beginsAt_55 : decode cX9_beginsAt 55 = .ok (.iconst 4, 1) := by decide +kernel
theorem dX9_beginsAt_56 : decode cX9_beginsAt 56 = .ok (.iload_n 1, 1) := by decide +kernel
theorem dX9_beginsAt_57 : decode cX9_beginsAt 57 = .ok (.iadd, 1) := by decide +kernel
theorem dX9_beginsAt_58 : decode cX9_beginsAt 58 = .ok (.iaload, 1) := by decide +kernel
theorem dX9_beginsAt_59 : decode cX9_beginsAt 59 = .ok (.bipush (-9), 2) := by decide +kernel
theorem dX9_beginsAt_61 : decode cX9_beginsAt 61 = .ok (.if_icmp .ne 7, 3) := by decide +kernel
theorem dX9_beginsAt_64 : decode cX9_beginsAt 64 = .ok (.iconst 0, 1) := by decide +kernel
theorem dX9_beginsAt_65 : decode cX9_beginsAt 65 = .ok (.goto 18, 3) := by decide +kernel
theorem dX9_beginsAt_68 : decode cX9_beginsAt 68 = .ok (.aload_n 0, 1) := by decide +kernel
theorem dX9_beginsAt_69 : decode cX9_beginsAt 69 = .ok (.getfield 19, 3) := by decide +kernel
theorem dX9_beginsAt_72 : decode cX9_beginsAt 72 = .ok (.iconst 4, 1) := by decide +kernel
theorem dX9_beginsAt_73 : decode cX9_beginsAt 73 = .ok (.iload_n 1, 1) := by decide +kernel
theorem dX9_beginsAt_74 : decode cX9_beginsAt 74 = .ok (.iadd, 1) := by decide +kernel
theorem dX9_beginsAt_75 : decode cX9_beginsAt 75 = .ok (.iaload, 1) := by decide +kernel
theorem dX9_beginsAt_76 : decode cX9_beginsAt 76 = .ok (.aload_n 0, 1) := by decide +kernel
theorem dX9_beginsAt_77 : decode cX9_beginsAt 77 = .ok (.getfield 13, 3) := by decide +kernel
theorem dX9_beginsAt_80 : decode cX9_beginsAt 80 = .ok (.iconst 3, 1) := by decide +kernel
theorem dX9_beginsAt_81 : decode cX9_beginsAt 81 = .ok (.iaload, 1) := by decide +kernel
theorem dX9_beginsAt_82 : decode cX9_beginsAt 82 = .ok (.iadd, 1) := by decide +kernel
theorem dX9_beginsAt_83 : decode cX9_beginsAt 83 = .ok (.istore 6, 2) := by decide +kernel
theorem dX9_beginsAt_85 : decode cX9_beginsAt 85 = .ok (.aload_n 0, 1) := by decide +kernel
theorem dX9_beginsAt_86 : decode cX9_beginsAt 86 = .ok (.getfield 19, 3) := by decide +kernel
theorem dX9_beginsAt_89 : decode cX9_beginsAt 89 = .ok (.iconst 4, 1) := by decide +kernel
theorem dX9_beginsAt_90 : decode cX9_beginsAt 90 = .ok (.iload_n 2, 1) := by decide +kernel
theorem dX9_beginsAt_91 : decode cX9_beginsAt 91 = .ok (.iadd, 1) := by decide +kernel
theorem dX9_beginsAt_92 : decode cX9_beginsAt 92 = .ok (.iaload, 1) := by decide +kernel
theorem dX9_beginsAt_93 : decode cX9_beginsAt 93 = .ok (.bipush (-9), 2) := by decide +kernel
theorem dX9_beginsAt_95 : decode cX9_beginsAt 95 = .ok (.if_icmp .ne 7, 3) := by decide +kernel
theorem dX9_beginsAt_98 : decode cX9_beginsAt 98 = .ok (.iconst 0, 1) := by decide +kernel
theorem dX9_beginsAt_99 : decode cX9_beginsAt 99 = .ok (.goto 21, 3) := by decide +kernel
theorem dX9_beginsAt_102 : decode cX9_beginsAt 102 = .ok (.aload_n 0, 1) := by decide +kernel
theorem dX9_beginsAt_103 : decode cX9_beginsAt 103 = .ok (.getfield 19, 3) := by decide +kernel
theorem dX9_beginsAt_106 : decode cX9_beginsAt 106 = .ok (.iconst 4, 1) := by decide +kernel
theorem dX9_beginsAt_107 : decode cX9_beginsAt 107 = .ok (.iload_n 2, 1) := by decide +kernel
theorem dX9_beginsAt_108 : decode cX9_beginsAt 108 = .ok (.iadd, 1) := by decide +kernel
theorem dX9_beginsAt_109 : decode cX9_beginsAt 109 = .ok (.iaload, 1) := by decide +kernel
theorem dX9_beginsAt_110 : decode cX9_beginsAt 110 = .ok (.aload_n 0, 1) := by decide +kernel
theorem dX9_beginsAt_111 : decode cX9_beginsAt 111 = .ok (.getfield 13, 3) := by decide +kernel
theorem dX9_beginsAt_114 : decode cX9_beginsAt 114 = .ok (.iconst 3, 1) := by decide +kernel
theorem dX9_beginsAt_115 : decode cX9_beginsAt 115 = .ok (.iaload, 1) := by decide +kernel
theorem dX9_beginsAt_116 : decode cX9_beginsAt 116 = .ok (.iadd, 1) := by decide +kernel
theorem dX9_beginsAt_117 : decode cX9_beginsAt 117 = .ok (.iload 4, 2) := by decide +kernel
theorem dX9_beginsAt_119 : decode cX9_beginsAt 119 = .ok (.isub, 1) := by decide +kernel
theorem dX9_beginsAt_120 : decode cX9_beginsAt 120 = .ok (.istore 7, 2) := by decide +kernel
theorem dX9_beginsAt_122 : decode cX9_beginsAt 122 = .ok (.iload 6, 2) := by decide +kernel
theorem dX9_beginsAt_124 : decode cX9_beginsAt 124 = .ok (.iload 5, 2) := by decide +kernel
theorem dX9_beginsAt_126 : decode cX9_beginsAt 126 = .ok (.if_icmp .le 8, 3) := by decide +kernel
theorem dX9_beginsAt_129 : decode cX9_beginsAt 129 = .ok (.iload 6, 2) := by decide +kernel
theorem dX9_beginsAt_131 : decode cX9_beginsAt 131 = .ok (.goto 5, 3) := by decide +kernel
theorem dX9_beginsAt_134 : decode cX9_beginsAt 134 = .ok (.iload 5, 2) := by decide +kernel
theorem dX9_beginsAt_136 : decode cX9_beginsAt 136 = .ok (.istore 5, 2) := by decide +kernel
theorem dX9_beginsAt_138 : decode cX9_beginsAt 138 = .ok (.iload 7, 2) := by decide +kernel
theorem dX9_beginsAt_140 : decode cX9_beginsAt 140 = .ok (.iload 5, 2) := by decide +kernel
theorem dX9_beginsAt_142 : decode cX9_beginsAt 142 = .ok (.if_icmp .le 8, 3) := by decide +kernel
theorem dX9_beginsAt_145 : decode cX9_beginsAt 145 = .ok (.iload 7, 2) := by decide +kernel
theorem dX9_beginsAt_147 : decode cX9_beginsAt 147 = .ok (.goto 5, 3) := by decide +kernel
theorem dX9_beginsAt_150 : decode cX9_beginsAt 150 = .ok (.iload 5, 2) := by decide +kernel
theorem dX9_beginsAt_152 : decode cX9_beginsAt 152 = .ok (.ireturn, 1) := by decide +kernel
theorem dX9_mayBurn_0 : decode cX9_mayBurn 0 = .ok (.aload_n 0, 1) := by decide +kernel
theorem dX9_mayBurn_1 : decode cX9_mayBurn 1 = .ok (.getfield 13, 3) := by decide +kernel
theorem dX9_mayBurn_4 : decode cX9_mayBurn 4 = .ok (.aload_n 0, 1) := by decide +kernel
theorem dX9_mayBurn_5 : decode cX9_mayBurn 5 = .ok (.getfield 19, 3) := by decide +kernel
theorem dX9_mayBurn_8 : decode cX9_mayBurn 8 = .ok (.iconst 1, 1) := by decide +kernel
theorem dX9_mayBurn_9 : decode cX9_mayBurn 9 = .ok (.iaload, 1) := by decide +kernel
theorem dX9_mayBurn_10 : decode cX9_mayBurn 10 = .ok (.iload_n 1, 1) := by decide +kernel
theorem dX9_mayBurn_11 : decode cX9_mayBurn 11 = .ok (.invokestatic 125, 3) := by decide +kernel
theorem dX9_mayBurn_14 : decode cX9_mayBurn 14 = .ok (.istore_n 2, 1) := by decide +kernel
theorem dX9_mayBurn_15 : decode cX9_mayBurn 15 = .ok (.iload_n 2, 1) := by decide +kernel
theorem dX9_mayBurn_16 : decode cX9_mayBurn 16 = .ok (.ifCond .lt 39, 3) := by decide +kernel
theorem dX9_mayBurn_19 : decode cX9_mayBurn 19 = .ok (.aload_n 0, 1) := by decide +kernel
theorem dX9_mayBurn_20 : decode cX9_mayBurn 20 = .ok (.getfield 19, 3) := by decide +kernel
theorem dX9_mayBurn_23 : decode cX9_mayBurn 23 = .ok (.iconst 0, 1) := by decide +kernel
theorem dX9_mayBurn_24 : decode cX9_mayBurn 24 = .ok (.iaload, 1) := by decide +kernel
theorem dX9_mayBurn_25 : decode cX9_mayBurn 25 = .ok (.iload_n 2, 1) := by decide +kernel
theorem dX9_mayBurn_26 : decode cX9_mayBurn 26 = .ok (.invokestatic 84, 3) := by decide +kernel
theorem dX9_mayBurn_29 : decode cX9_mayBurn 29 = .ok (.ifCond .eq 26, 3) := by decide +kernel
theorem dX9_mayBurn_32 : decode cX9_mayBurn 32 = .ok (.aload_n 0, 1) := by decide +kernel
theorem dX9_mayBurn_33 : decode cX9_mayBurn 33 = .ok (.aload_n 0, 1) := by decide +kernel
theorem dX9_mayBurn_34 : decode cX9_mayBurn 34 = .ok (.getfield 19, 3) := by decide +kernel
theorem dX9_mayBurn_37 : decode cX9_mayBurn 37 = .ok (.iconst 0, 1) := by decide +kernel
theorem dX9_mayBurn_38 : decode cX9_mayBurn 38 = .ok (.iaload, 1) := by decide +kernel
theorem dX9_mayBurn_39 : decode cX9_mayBurn 39 = .ok (.iconst 1, 1) := by decide +kernel
theorem dX9_mayBurn_40 : decode cX9_mayBurn 40 = .ok (.iload_n 2, 1) := by decide +kernel
theorem dX9_mayBurn_41 : decode cX9_mayBurn 41 = .ok (.ishl, 1) := by decide +kernel
theorem dX9_mayBurn_42 : decode cX9_mayBurn 42 = .ok (.iconst (-1), 1) := by decide +kernel
theorem dX9_mayBurn_43 : decode cX9_mayBurn 43 = .ok (.ixor, 1) := by decide +kernel
theorem dX9_mayBurn_44 : decode cX9_mayBurn 44 = .ok (.iand, 1) := by decide +kernel
theorem dX9_mayBurn_45 : decode cX9_mayBurn 45 = .ok (.invokevirtual 219, 3) := by decide +kernel
theorem dX9_mayBurn_48 : decode cX9_mayBurn 48 = .ok (.ifCond .ne 7, 3) := by decide +kernel
theorem dX9_mayBurn_51 : decode cX9_mayBurn 51 = .ok (.iconst 1, 1) := by decide +kernel
theorem dX9_mayBurn_52 : decode cX9_mayBurn 52 = .ok (.goto 4, 3) := by decide +kernel
theorem dX9_mayBurn_55 : decode cX9_mayBurn 55 = .ok (.iconst 0, 1) := by decide +kernel
theorem dX9_mayBurn_56 : decode cX9_mayBurn 56 = .ok (.ireturn, 1) := by decide +kernel
theorem dX9_burn_0 : decode cX9_burn 0 = .ok (.aload_n 0, 1) := by decide +kernel
theorem dX9_burn_1 : decode cX9_burn 1 = .ok (.invokevirtual 222, 3) := by decide +kernel
theorem dX9_burn_4 : decode cX9_burn 4 = .ok (.aload_n 0, 1) := by decide +kernel
theorem dX9_burn_5 : decode cX9_burn 5 = .ok (.getfield 19, 3) := by decide +kernel
theorem dX9_burn_8 : decode cX9_burn 8 = .ok (.iconst 1, 1) := by decide +kernel
theorem dX9_burn_9 : decode cX9_burn 9 = .ok (.iaload, 1) := by decide +kernel
theorem dX9_burn_10 : decode cX9_burn 10 = .ok (.istore_n 2, 1) := by decide +kernel
theorem dX9_burn_11 : decode cX9_burn 11 = .ok (.aload_n 0, 1) := by decide +kernel
theorem dX9_burn_12 : decode cX9_burn 12 = .ok (.iload_n 2, 1) := by decide +kernel
theorem dX9_burn_13 : decode cX9_burn 13 = .ok (.iload_n 1, 1) := by decide +kernel
theorem dX9_burn_14 : decode cX9_burn 14 = .ok (.invokevirtual 225, 3) := by decide +kernel
theorem dX9_burn_17 : decode cX9_burn 17 = .ok (.istore_n 3, 1) := by decide +kernel
theorem dX9_burn_18 : decode cX9_burn 18 = .ok (.aload_n 0, 1) := by decide +kernel
theorem dX9_burn_19 : decode cX9_burn 19 = .ok (.getfield 19, 3) := by decide +kernel
theorem dX9_burn_22 : decode cX9_burn 22 = .ok (.iconst 0, 1) := by decide +kernel
theorem dX9_burn_23 : decode cX9_burn 23 = .ok (.dup2, 1) := by decide +kernel
theorem dX9_burn_24 : decode cX9_burn 24 = .ok (.iaload, 1) := by decide +kernel
theorem dX9_burn_25 : decode cX9_burn 25 = .ok (.iconst 1, 1) := by decide +kernel
theorem dX9_burn_26 : decode cX9_burn 26 = .ok (.aload_n 0, 1) := by decide +kernel
theorem dX9_burn_27 : decode cX9_burn 27 = .ok (.getfield 13, 3) := by decide +kernel
theorem dX9_burn_30 : decode cX9_burn 30 = .ok (.iload_n 2, 1) := by decide +kernel
theorem dX9_burn_31 : decode cX9_burn 31 = .ok (.iload_n 1, 1) := by decide +kernel
theorem dX9_burn_32 : decode cX9_burn 32 = .ok (.invokestatic 125, 3) := by decide +kernel
theorem dX9_burn_35 : decode cX9_burn 35 = .ok (.ishl, 1) := by decide +kernel
theorem dX9_burn_36 : decode cX9_burn 36 = .ok (.iconst (-1), 1) := by decide +kernel
theorem dX9_burn_37 : decode cX9_burn 37 = .ok (.ixor, 1) := by decide +kernel
theorem dX9_burn_38 : decode cX9_burn 38 = .ok (.iand, 1) := by decide +kernel
theorem dX9_burn_39 : decode cX9_burn 39 = .ok (.iastore, 1) := by decide +kernel
theorem dX9_burn_40 : decode cX9_burn 40 = .ok (.aload_n 0, 1) := by decide +kernel
theorem dX9_burn_41 : decode cX9_burn 41 = .ok (.getfield 19, 3) := by decide +kernel
theorem dX9_burn_44 : decode cX9_burn 44 = .ok (.iconst 4, 1) := by decide +kernel
theorem dX9_burn_45 : decode cX9_burn 45 = .ok (.iload_n 2, 1) := by decide +kernel
theorem dX9_burn_46 : decode cX9_burn 46 = .ok (.iadd, 1) := by decide +kernel
theorem dX9_burn_47 : decode cX9_burn 47 = .ok (.iload_n 3, 1) := by decide +kernel
theorem dX9_burn_48 : decode cX9_burn 48 = .ok (.iastore, 1) := by decide +kernel
theorem dX9_burn_49 : decode cX9_burn 49 = .ok (.aload_n 0, 1) := by decide +kernel
theorem dX9_burn_50 : decode cX9_burn 50 = .ok (.getfield 19, 3) := by decide +kernel
theorem dX9_burn_53 : decode cX9_burn 53 = .ok (.iconst 2, 1) := by decide +kernel
theorem dX9_burn_54 : decode cX9_burn 54 = .ok (.iload_n 3, 1) := by decide +kernel
theorem dX9_burn_55 : decode cX9_burn 55 = .ok (.aload_n 0, 1) := by decide +kernel
theorem dX9_burn_56 : decode cX9_burn 56 = .ok (.iload_n 2, 1) := by decide +kernel
theorem dX9_burn_57 : decode cX9_burn 57 = .ok (.iload_n 1, 1) := by decide +kernel
theorem dX9_burn_58 : decode cX9_burn 58 = .ok (.invokevirtual 204, 3) := by decide +kernel
theorem dX9_burn_61 : decode cX9_burn 61 = .ok (.iadd, 1) := by decide +kernel
theorem dX9_burn_62 : decode cX9_burn 62 = .ok (.iastore, 1) := by decide +kernel
theorem dX9_burn_63 : decode cX9_burn 63 = .ok (.aload_n 0, 1) := by decide +kernel
theorem dX9_burn_64 : decode cX9_burn 64 = .ok (.getfield 19, 3) := by decide +kernel
theorem dX9_burn_67 : decode cX9_burn 67 = .ok (.iconst 4, 1) := by decide +kernel
theorem dX9_burn_68 : decode cX9_burn 68 = .ok (.iload_n 1, 1) := by decide +kernel
theorem dX9_burn_69 : decode cX9_burn 69 = .ok (.iadd, 1) := by decide +kernel
theorem dX9_burn_70 : decode cX9_burn 70 = .ok (.aload_n 0, 1) := by decide +kernel
theorem dX9_burn_71 : decode cX9_burn 71 = .ok (.getfield 19, 3) := by decide +kernel
theorem dX9_burn_74 : decode cX9_burn 74 = .ok (.iconst 2, 1) := by decide +kernel
theorem dX9_burn_75 : decode cX9_burn 75 = .ok (.iaload, 1) := by decide +kernel
theorem dX9_burn_76 : decode cX9_burn 76 = .ok (.iastore, 1) := by decide +kernel
theorem dX9_burn_77 : decode cX9_burn 77 = .ok (.aload_n 0, 1) := by decide +kernel
theorem dX9_burn_78 : decode cX9_burn 78 = .ok (.getfield 19, 3) := by decide +kernel
theorem dX9_burn_81 : decode cX9_burn 81 = .ok (.iconst 1, 1) := by decide +kernel
theorem dX9_burn_82 : decode cX9_burn 82 = .ok (.iload_n 1, 1) := by decide +kernel
theorem dX9_burn_83 : decode cX9_burn 83 = .ok (.iastore, 1) := by decide +kernel
theorem dX9_burn_84 : decode cX9_burn 84 = .ok (.aload_n 0, 1) := by decide +kernel
theorem dX9_burn_85 : decode cX9_burn 85 = .ok (.getfield 19, 3) := by decide +kernel
theorem dX9_burn_88 : decode cX9_burn 88 = .ok (.iconst 3, 1) := by decide +kernel
theorem dX9_burn_89 : decode cX9_burn 89 = .ok (.iconst 1, 1) := by decide +kernel
theorem dX9_burn_90 : decode cX9_burn 90 = .ok (.iastore, 1) := by decide +kernel
theorem dX9_burn_91 : decode cX9_burn 91 = .ok (.aload_n 0, 1) := by decide +kernel
theorem dX9_burn_92 : decode cX9_burn 92 = .ok (.getfield 19, 3) := by decide +kernel
theorem dX9_burn_95 : decode cX9_burn 95 = .ok (.iconst 2, 1) := by decide +kernel
theorem dX9_burn_96 : decode cX9_burn 96 = .ok (.iaload, 1) := by decide +kernel
theorem dX9_burn_97 : decode cX9_burn 97 = .ok (.ireturn, 1) := by decide +kernel
theorem dX9_move_0 : decode cX9_move 0 = .ok (.aload_n 0, 1) := by decide +kernel
theorem dX9_move_1 : decode cX9_move 1 = .ok (.invokevirtual 222, 3) := by decide +kernel
theorem dX9_move_4 : decode cX9_move 4 = .ok (.aload_n 0, 1) := by decide +kernel
theorem dX9_move_5 : decode cX9_move 5 = .ok (.getfield 19, 3) := by decide +kernel
theorem dX9_move_8 : decode cX9_move 8 = .ok (.iconst 2, 1) := by decide +kernel
theorem dX9_move_9 : decode cX9_move 9 = .ok (.dup2, 1) := by decide +kernel
theorem dX9_move_10 : decode cX9_move 10 = .ok (.iaload, 1) := by decide +kernel
theorem dX9_move_11 : decode cX9_move 11 = .ok (.aload_n 0, 1) := by decide +kernel
theorem dX9_move_12 : decode cX9_move 12 = .ok (.aload_n 0, 1) := by decide +kernel
theorem dX9_move_13 : decode cX9_move 13 = .ok (.getfield 19, 3) := by decide +kernel
theorem dX9_move_16 : decode cX9_move 16 = .ok (.iconst 1, 1) := by decide +kernel
theorem dX9_move_17 : decode cX9_move 17 = .ok (.iaload, 1) := by decide +kernel
theorem dX9_move_18 : decode cX9_move 18 = .ok (.iload_n 1, 1) := by decide +kernel
theorem dX9_move_19 : decode cX9_move 19 = .ok (.invokevirtual 204, 3) := by decide +kernel
theorem dX9_move_22 : decode cX9_move 22 = .ok (.iadd, 1) := by decide +kernel
theorem dX9_move_23 : decode cX9_move 23 = .ok (.iastore, 1) := by decide +kernel
theorem dX9_move_24 : decode cX9_move 24 = .ok (.aload_n 0, 1) := by decide +kernel
theorem dX9_move_25 : decode cX9_move 25 = .ok (.getfield 19, 3) := by decide +kernel
theorem dX9_move_28 : decode cX9_move 28 = .ok (.iconst 1, 1) := by decide +kernel
theorem dX9_move_29 : decode cX9_move 29 = .ok (.iload_n 1, 1) := by decide +kernel
theorem dX9_move_30 : decode cX9_move 30 = .ok (.iastore, 1) := by decide +kernel
theorem dX9_move_31 : decode cX9_move 31 = .ok (.aload_n 0, 1) := by decide +kernel
theorem dX9_move_32 : decode cX9_move 32 = .ok (.getfield 19, 3) := by decide +kernel
theorem dX9_move_35 : decode cX9_move 35 = .ok (.iconst 3, 1) := by decide +kernel
theorem dX9_move_36 : decode cX9_move 36 = .ok (.iconst 0, 1) := by decide +kernel
theorem dX9_move_37 : decode cX9_move 37 = .ok (.iastore, 1) := by decide +kernel
theorem dX9_move_38 : decode cX9_move 38 = .ok (.aload_n 0, 1) := by decide +kernel
theorem dX9_move_39 : decode cX9_move 39 = .ok (.getfield 19, 3) := by decide +kernel
theorem dX9_move_42 : decode cX9_move 42 = .ok (.iconst 2, 1) := by decide +kernel
theorem dX9_move_43 : decode cX9_move 43 = .ok (.iaload, 1) := by decide +kernel
theorem dX9_move_44 : decode cX9_move 44 = .ok (.ireturn, 1) := by decide +kernel
theorem dX9_burns_0 : decode cX9_burns 0 = .ok (.aload_n 0, 1) := by decide +kernel
theorem dX9_burns_1 : decode cX9_burns 1 = .ok (.iconst 0, 1) := by decide +kernel
theorem dX9_burns_2 : decode cX9_burns 2 = .ok (.putfield 80, 3) := by decide +kernel
theorem dX9_burns_5 : decode cX9_burns 5 = .ok (.aload_n 0, 1) := by decide +kernel
theorem dX9_burns_6 : decode cX9_burns 6 = .ok (.iload_n 1, 1) := by decide +kernel
theorem dX9_burns_7 : decode cX9_burns 7 = .ok (.invokevirtual 188, 3) := by decide +kernel
theorem dX9_burns_10 : decode cX9_burns 10 = .ok (.ifCond .eq 13, 3) := by decide +kernel
theorem dX9_burns_13 : decode cX9_burns 13 = .ok (.iload_n 1, 1) := by decide +kernel
theorem dX9_burns_14 : decode cX9_burns 14 = .ok (.aload_n 0, 1) := by decide +kernel
theorem dX9_burns_15 : decode cX9_burns 15 = .ok (.getfield 19, 3) := by decide +kernel
theorem dX9_burns_18 : decode cX9_burns 18 = .ok (.iconst 1, 1) := by decide +kernel
theorem dX9_burns_19 : decode cX9_burns 19 = .ok (.iaload, 1) := by decide +kernel
theorem dX9_burns_20 : decode cX9_burns 20 = .ok (.if_icmp .ne 5, 3) := by decide +kernel
theorem dX9_burns_23 : decode cX9_burns 23 = .ok (.iconst (-1), 1) := by decide +kernel
theorem dX9_burns_24 : decode cX9_burns 24 = .ok (.ireturn, 1) := by decide +kernel
theorem dX9_burns_25 : decode cX9_burns 25 = .ok (.aload_n 0, 1) := by decide +kernel
theorem dX9_burns_26 : decode cX9_burns 26 = .ok (.iload_n 1, 1) := by decide +kernel
theorem dX9_burns_27 : decode cX9_burns 27 = .ok (.invokevirtual 228, 3) := by decide +kernel
theorem dX9_burns_30 : decode cX9_burns 30 = .ok (.ifCond .eq 11, 3) := by decide +kernel
theorem dX9_burns_33 : decode cX9_burns 33 = .ok (.aload_n 0, 1) := by decide +kernel
theorem dX9_burns_34 : decode cX9_burns 34 = .ok (.iload_n 1, 1) := by decide +kernel
theorem dX9_burns_35 : decode cX9_burns 35 = .ok (.invokevirtual 231, 3) := by decide +kernel
theorem dX9_burns_38 : decode cX9_burns 38 = .ok (.goto 5, 3) := by decide +kernel
theorem dX9_burns_41 : decode cX9_burns 41 = .ok (.bipush (-2), 2) := by decide +kernel
theorem dX9_burns_43 : decode cX9_burns 43 = .ok (.ireturn, 1) := by decide +kernel
theorem dX9_moves_0 : decode cX9_moves 0 = .ok (.aload_n 0, 1) := by decide +kernel
theorem dX9_moves_1 : decode cX9_moves 1 = .ok (.iconst 0, 1) := by decide +kernel
theorem dX9_moves_2 : decode cX9_moves 2 = .ok (.putfield 80, 3) := by decide +kernel
theorem dX9_moves_5 : decode cX9_moves 5 = .ok (.aload_n 0, 1) := by decide +kernel
theorem dX9_moves_6 : decode cX9_moves 6 = .ok (.iload_n 1, 1) := by decide +kernel
theorem dX9_moves_7 : decode cX9_moves 7 = .ok (.invokevirtual 188, 3) := by decide +kernel
theorem dX9_moves_10 : decode cX9_moves 10 = .ok (.ifCond .eq 13, 3) := by decide +kernel
theorem dX9_moves_13 : decode cX9_moves 13 = .ok (.iload_n 1, 1) := by decide +kernel
theorem dX9_moves_14 : decode cX9_moves 14 = .ok (.aload_n 0, 1) := by decide +kernel
theorem dX9_moves_15 : decode cX9_moves 15 = .ok (.getfield 19, 3) := by decide +kernel
theorem dX9_moves_18 : decode cX9_moves 18 = .ok (.iconst 1, 1) := by decide +kernel
theorem dX9_moves_19 : decode cX9_moves 19 = .ok (.iaload, 1) := by decide +kernel
theorem dX9_moves_20 : decode cX9_moves 20 = .ok (.if_icmp .ne 7, 3) := by decide +kernel
theorem dX9_moves_23 : decode cX9_moves 23 = .ok (.iconst (-1), 1) := by decide +kernel
theorem dX9_moves_24 : decode cX9_moves 24 = .ok (.goto 8, 3) := by decide +kernel
theorem dX9_moves_27 : decode cX9_moves 27 = .ok (.aload_n 0, 1) := by decide +kernel
theorem dX9_moves_28 : decode cX9_moves 28 = .ok (.iload_n 1, 1) := by decide +kernel
theorem dX9_moves_29 : decode cX9_moves 29 = .ok (.invokevirtual 234, 3) := by decide +kernel
theorem dX9_moves_32 : decode cX9_moves 32 = .ok (.ireturn, 1) := by decide +kernel
theorem dX9_follows_0 : decode cX9_follows 0 = .ok (.aload_n 0, 1) := by decide +kernel
theorem dX9_follows_1 : decode cX9_follows 1 = .ok (.iconst 0, 1) := by decide +kernel
theorem dX9_follows_2 : decode cX9_follows 2 = .ok (.putfield 80, 3) := by decide +kernel
theorem dX9_follows_5 : decode cX9_follows 5 = .ok (.aload_n 0, 1) := by decide +kernel
theorem dX9_follows_6 : decode cX9_follows 6 = .ok (.getfield 19, 3) := by decide +kernel
theorem dX9_follows_9 : decode cX9_follows 9 = .ok (.iconst 0, 1) := by decide +kernel
theorem dX9_follows_10 : decode cX9_follows 10 = .ok (.iaload, 1) := by decide +kernel
theorem dX9_follows_11 : decode cX9_follows 11 = .ok (.ifCond .eq 10, 3) := by decide +kernel
theorem dX9_follows_14 : decode cX9_follows 14 = .ok (.aload_n 0, 1) := by decide +kernel
theorem dX9_follows_15 : decode cX9_follows 15 = .ok (.invokevirtual 237, 3) := by decide +kernel
theorem dX9_follows_18 : decode cX9_follows 18 = .ok (.ifCond .ne 6, 3) := by decide +kernel
theorem dX9_follows_21 : decode cX9_follows 21 = .ok (.bipush (-2), 2) := by decide +kernel
theorem dX9_follows_23 : decode cX9_follows 23 = .ok (.ireturn, 1) := by decide +kernel
theorem dX9_follows_24 : decode cX9_follows 24 = .ok (.aload_n 0, 1) := by decide +kernel
theorem dX9_follows_25 : decode cX9_follows 25 = .ok (.getfield 68, 3) := by decide +kernel
theorem dX9_follows_28 : decode cX9_follows 28 = .ok (.iconst 0, 1) := by decide +kernel
theorem dX9_follows_29 : decode cX9_follows 29 = .ok (.iaload, 1) := by decide +kernel
theorem dX9_follows_30 : decode cX9_follows 30 = .ok (.istore_n 1, 1) := by decide +kernel
theorem dX9_follows_31 : decode cX9_follows 31 = .ok (.aload_n 0, 1) := by decide +kernel
theorem dX9_follows_32 : decode cX9_follows 32 = .ok (.iload_n 1, 1) := by decide +kernel
theorem dX9_follows_33 : decode cX9_follows 33 = .ok (.invokevirtual 240, 3) := by decide +kernel
theorem dX9_follows_36 : decode cX9_follows 36 = .ok (.aload_n 0, 1) := by decide +kernel
theorem dX9_follows_37 : decode cX9_follows 37 = .ok (.getfield 19, 3) := by decide +kernel
theorem dX9_follows_40 : decode cX9_follows 40 = .ok (.iconst 1, 1) := by decide +kernel
theorem dX9_follows_41 : decode cX9_follows 41 = .ok (.iaload, 1) := by decide +kernel
theorem dX9_follows_42 : decode cX9_follows 42 = .ok (.if_icmp .eq 20, 3) := by decide +kernel
theorem dX9_follows_45 : decode cX9_follows 45 = .ok (.aload_n 0, 1) := by decide +kernel
theorem dX9_follows_46 : decode cX9_follows 46 = .ok (.aload_n 0, 1) := by decide +kernel
theorem dX9_follows_47 : decode cX9_follows 47 = .ok (.iload_n 1, 1) := by decide +kernel
theorem dX9_follows_48 : decode cX9_follows 48 = .ok (.invokevirtual 240, 3) := by decide +kernel
theorem dX9_follows_51 : decode cX9_follows 51 = .ok (.invokevirtual 234, 3) := by decide +kernel
theorem dX9_follows_54 : decode cX9_follows 54 = .ok (.pop, 1) := by decide +kernel
theorem dX9_follows_55 : decode cX9_follows 55 = .ok (.aload_n 0, 1) := by decide +kernel
theorem dX9_follows_56 : decode cX9_follows 56 = .ok (.getfield 19, 3) := by decide +kernel
theorem dX9_follows_59 : decode cX9_follows 59 = .ok (.iconst 1, 1) := by decide +kernel
theorem dX9_follows_60 : decode cX9_follows 60 = .ok (.iaload, 1) := by decide +kernel
theorem dX9_follows_61 : decode cX9_follows 61 = .ok (.ireturn, 1) := by decide +kernel
theorem dX9_follows_62 : decode cX9_follows 62 = .ok (.aload_n 0, 1) := by decide +kernel
theorem dX9_follows_63 : decode cX9_follows 63 = .ok (.iload_n 1, 1) := by decide +kernel
theorem dX9_follows_64 : decode cX9_follows 64 = .ok (.invokevirtual 243, 3) := by decide +kernel
theorem dX9_follows_67 : decode cX9_follows 67 = .ok (.pop, 1) := by decide +kernel
theorem dX9_follows_68 : decode cX9_follows 68 = .ok (.aload_n 0, 1) := by decide +kernel
theorem dX9_follows_69 : decode cX9_follows 69 = .ok (.getfield 56, 3) := by decide +kernel
theorem dX9_follows_72 : decode cX9_follows 72 = .ok (.iconst 0, 1) := by decide +kernel
theorem dX9_follows_73 : decode cX9_follows 73 = .ok (.iaload, 1) := by decide +kernel
theorem dX9_follows_74 : decode cX9_follows 74 = .ok (.istore_n 2, 1) := by decide +kernel
theorem dX9_follows_75 : decode cX9_follows 75 = .ok (.aload_n 0, 1) := by decide +kernel
theorem dX9_follows_76 : decode cX9_follows 76 = .ok (.iload_n 2, 1) := by decide +kernel
theorem dX9_follows_77 : decode cX9_follows 77 = .ok (.invokevirtual 228, 3) := by decide +kernel
theorem dX9_follows_80 : decode cX9_follows 80 = .ok (.ifCond .ne 6, 3) := by decide +kernel
theorem dX9_follows_83 : decode cX9_follows 83 = .ok (.bipush (-2), 2) := by decide +kernel
theorem dX9_follows_85 : decode cX9_follows 85 = .ok (.ireturn, 1) := by decide +kernel
theorem dX9_follows_86 : decode cX9_follows 86 = .ok (.aload_n 0, 1) := by decide +kernel
theorem dX9_follows_87 : decode cX9_follows 87 = .ok (.iload_n 2, 1) := by decide +kernel
theorem dX9_follows_88 : decode cX9_follows 88 = .ok (.invokevirtual 231, 3) := by decide +kernel
theorem dX9_follows_91 : decode cX9_follows 91 = .ok (.pop, 1) := by decide +kernel
theorem dX9_follows_92 : decode cX9_follows 92 = .ok (.aload_n 0, 1) := by decide +kernel
theorem dX9_follows_93 : decode cX9_follows 93 = .ok (.getfield 19, 3) := by decide +kernel
theorem dX9_follows_96 : decode cX9_follows 96 = .ok (.iconst 1, 1) := by decide +kernel
theorem dX9_follows_97 : decode cX9_follows 97 = .ok (.iaload, 1) := by decide +kernel
theorem dX9_follows_98 : decode cX9_follows 98 = .ok (.ireturn, 1) := by decide +kernel
theorem dX9_undo_0 : decode cX9_undo 0 = .ok (.aload_n 0, 1) := by decide +kernel
theorem dX9_undo_1 : decode cX9_undo 1 = .ok (.iconst 0, 1) := by decide +kernel
theorem dX9_undo_2 : decode cX9_undo 2 = .ok (.putfield 80, 3) := by decide +kernel
theorem dX9_undo_5 : decode cX9_undo 5 = .ok (.aload_n 0, 1) := by decide +kernel
theorem dX9_undo_6 : decode cX9_undo 6 = .ok (.getfield 174, 3) := by decide +kernel
theorem dX9_undo_9 : decode cX9_undo 9 = .ok (.ifCond .ne 6, 3) := by decide +kernel
theorem dX9_undo_12 : decode cX9_undo 12 = .ok (.bipush (-2), 2) := by decide +kernel
theorem dX9_undo_14 : decode cX9_undo 14 = .ok (.ireturn, 1) := by decide +kernel
theorem dX9_undo_15 : decode cX9_undo 15 = .ok (.aload_n 0, 1) := by decide +kernel
theorem dX9_undo_16 : decode cX9_undo 16 = .ok (.dup, 1) := by decide +kernel
theorem dX9_undo_17 : decode cX9_undo 17 = .ok (.getfield 174, 3) := by decide +kernel
theorem dX9_undo_20 : decode cX9_undo 20 = .ok (.iconst 1, 1) := by decide +kernel
theorem dX9_undo_21 : decode cX9_undo 21 = .ok (.isub, 1) := by decide +kernel
theorem dX9_undo_22 : decode cX9_undo 22 = .ok (.putfield 174, 3) := by decide +kernel
theorem dX9_undo_25 : decode cX9_undo 25 = .ok (.iconst 0, 1) := by decide +kernel
theorem dX9_undo_26 : decode cX9_undo 26 = .ok (.istore_n 1, 1) := by decide +kernel
theorem dX9_undo_27 : decode cX9_undo 27 = .ok (.iload_n 1, 1) := by decide +kernel
theorem dX9_undo_28 : decode cX9_undo 28 = .ok (.bipush 13, 2) := by decide +kernel
theorem dX9_undo_30 : decode cX9_undo 30 = .ok (.if_icmp .ge 29, 3) := by decide +kernel
theorem dX9_undo_33 : decode cX9_undo 33 = .ok (.aload_n 0, 1) := by decide +kernel
theorem dX9_undo_34 : decode cX9_undo 34 = .ok (.getfield 19, 3) := by decide +kernel
theorem dX9_undo_37 : decode cX9_undo 37 = .ok (.iload_n 1, 1) := by decide +kernel
theorem dX9_undo_38 : decode cX9_undo 38 = .ok (.aload_n 0, 1) := by decide +kernel
theorem dX9_undo_39 : decode cX9_undo 39 = .ok (.getfield 22, 3) := by decide +kernel
theorem dX9_undo_42 : decode cX9_undo 42 = .ok (.bipush 13, 2) := by decide +kernel
theorem dX9_undo_44 : decode cX9_undo 44 = .ok (.aload_n 0, 1) := by decide +kernel
theorem dX9_undo_45 : decode cX9_undo 45 = .ok (.getfield 174, 3) := by decide +kernel
theorem dX9_undo_48 : decode cX9_undo 48 = .ok (.imul, 1) := by decide +kernel
theorem dX9_undo_49 : decode cX9_undo 49 = .ok (.iload_n 1, 1) := by decide +kernel
theorem dX9_undo_50 : decode cX9_undo 50 = .ok (.iadd, 1) := by decide +kernel
theorem dX9_undo_51 : decode cX9_undo 51 = .ok (.iaload, 1) := by decide +kernel
theorem dX9_undo_52 : decode cX9_undo 52 = .ok (.iastore, 1) := by decide +kernel
theorem dX9_undo_53 : decode cX9_undo 53 = .ok (.iinc 1 1, 3) := by decide +kernel
theorem dX9_undo_56 : decode cX9_undo 56 = .ok (.goto (-29), 3) := by decide +kernel
theorem dX9_undo_59 : decode cX9_undo 59 = .ok (.aload_n 0, 1) := by decide +kernel
theorem dX9_undo_60 : decode cX9_undo 60 = .ok (.getfield 174, 3) := by decide +kernel
theorem dX9_undo_63 : decode cX9_undo 63 = .ok (.ireturn, 1) := by decide +kernel
theorem dX9_pairs_0 : decode cX9_pairs 0 = .ok (.aload_n 0, 1) := by decide +kernel
theorem dX9_pairs_1 : decode cX9_pairs 1 = .ok (.getfield 53, 3) := by decide +kernel
theorem dX9_pairs_4 : decode cX9_pairs 4 = .ok (.iconst 0, 1) := by decide +kernel
theorem dX9_pairs_5 : decode cX9_pairs 5 = .ok (.iconst 0, 1) := by decide +kernel
theorem dX9_pairs_6 : decode cX9_pairs 6 = .ok (.iastore, 1) := by decide +kernel
theorem dX9_pairs_7 : decode cX9_pairs 7 = .ok (.iconst 1, 1) := by decide +kernel
theorem dX9_pairs_8 : decode cX9_pairs 8 = .ok (.istore_n 2, 1) := by decide +kernel
theorem dX9_pairs_9 : decode cX9_pairs 9 = .ok (.iload_n 2, 1) := by decide +kernel
theorem dX9_pairs_10 : decode cX9_pairs 10 = .ok (.sipush 512, 3) := by decide +kernel
theorem dX9_pairs_13 : decode cX9_pairs 13 = .ok (.if_icmp .ge 123, 3) := by decide +kernel
theorem dX9_pairs_16 : decode cX9_pairs 16 = .ok (.aload_n 0, 1) := by decide +kernel
theorem dX9_pairs_17 : decode cX9_pairs 17 = .ok (.getfield 53, 3) := by decide +kernel
theorem dX9_pairs_20 : decode cX9_pairs 20 = .ok (.iload_n 2, 1) := by decide +kernel
theorem dX9_pairs_21 : decode cX9_pairs 21 = .ok (.ldc 246, 2) := by decide +kernel
theorem dX9_pairs_23 : decode cX9_pairs 23 = .ok (.iastore, 1) := by decide +kernel
theorem dX9_pairs_24 : decode cX9_pairs 24 = .ok (.iload_n 2, 1) := by decide +kernel
theorem dX9_pairs_25 : decode cX9_pairs 25 = .ok (.iload_n 1, 1) := by decide +kernel
theorem dX9_pairs_26 : decode cX9_pairs 26 = .ok (.iconst (-1), 1) := by decide +kernel
theorem dX9_pairs_27 : decode cX9_pairs 27 = .ok (.ixor, 1) := by decide +kernel
theorem dX9_pairs_28 : decode cX9_pairs 28 = .ok (.iand, 1) := by decide +kernel
theorem dX9_pairs_29 : decode cX9_pairs 29 = .ok (.ifCond .ne 101, 3) := by decide +kernel
theorem dX9_pairs_32 : decode cX9_pairs 32 = .ok (.iload_n 2, 1) := by decide +kernel
theorem dX9_pairs_33 : decode cX9_pairs 33 = .ok (.invokestatic 213, 3) := by decide +kernel
theorem dX9_pairs_36 : decode cX9_pairs 36 = .ok (.iconst 2, 1) := by decide +kernel
theorem dX9_pairs_37 : decode cX9_pairs 37 = .ok (.irem, 1) := by decide +kernel
theorem dX9_pairs_38 : decode cX9_pairs 38 = .ok (.ifCond .ne 92, 3) := by decide +kernel
theorem dX9_pairs_41 : decode cX9_pairs 41 = .ok (.iload_n 2, 1) := by decide +kernel
theorem dX9_pairs_42 : decode cX9_pairs 42 = .ok (.invokestatic 247, 3) := by decide +kernel
theorem dX9_pairs_45 : decode cX9_pairs 45 = .ok (.istore_n 3, 1) := by decide +kernel
theorem dX9_pairs_46 : decode cX9_pairs 46 = .ok (.iload_n 3, 1) := by decide +kernel
theorem dX9_pairs_47 : decode cX9_pairs 47 = .ok (.iconst 1, 1) := by decide +kernel
theorem dX9_pairs_48 : decode cX9_pairs 48 = .ok (.iadd, 1) := by decide +kernel
theorem dX9_pairs_49 : decode cX9_pairs 49 = .ok (.istore 4, 2) := by decide +kernel
theorem dX9_pairs_51 : decode cX9_pairs 51 = .ok (.iload 4, 2) := by decide +kernel
theorem dX9_pairs_53 : decode cX9_pairs 53 = .ok (.bipush 9, 2) := by decide +kernel
theorem dX9_pairs_55 : decode cX9_pairs 55 = .ok (.if_icmp .ge 75, 3) := by decide +kernel
theorem dX9_pairs_58 : decode cX9_pairs 58 = .ok (.iload_n 2, 1) := by decide +kernel
theorem dX9_pairs_59 : decode cX9_pairs 59 = .ok (.iload 4, 2) := by decide +kernel
theorem dX9_pairs_61 : decode cX9_pairs 61 = .ok (.invokestatic 84, 3) := by decide +kernel
theorem dX9_pairs_64 : decode cX9_pairs 64 = .ok (.ifCond .eq 60, 3) := by decide +kernel
theorem dX9_pairs_67 : decode cX9_pairs 67 = .ok (.aload_n 0, 1) := by decide +kernel
theorem dX9_pairs_68 : decode cX9_pairs 68 = .ok (.iload_n 3, 1) := by decide +kernel
theorem dX9_pairs_69 : decode cX9_pairs 69 = .ok (.iload 4, 2) := by decide +kernel
theorem dX9_pairs_71 : decode cX9_pairs 71 = .ok (.invokevirtual 204, 3) := by decide +kernel
theorem dX9_pairs_74 : decode cX9_pairs 74 = .ok (.aload_n 0, 1) := by decide +kernel
theorem dX9_pairs_75 : decode cX9_pairs 75 = .ok (.getfield 53, 3) := by decide +kernel
theorem dX9_pairs_78 : decode cX9_pairs 78 = .ok (.iload_n 2, 1) := by decide +kernel
theorem dX9_pairs_79 : decode cX9_pairs 79 = .ok (.iconst 1, 1) := by decide +kernel
theorem dX9_pairs_80 : decode cX9_pairs 80 = .ok (.iload_n 3, 1) := by decide +kernel
theorem dX9_pairs_81 : decode cX9_pairs 81 = .ok (.ishl, 1) := by decide +kernel
theorem dX9_pairs_82 : decode cX9_pairs 82 = .ok (.iconst (-1), 1) := by decide +kernel
theorem dX9_pairs_83 : decode cX9_pairs 83 = .ok (.ixor, 1) := by decide +kernel
theorem dX9_pairs_84 : decode cX9_pairs 84 = .ok (.iand, 1) := by decide +kernel
theorem dX9_pairs_85 : decode cX9_pairs 85 = .ok (.iconst 1, 1) := by decide +kernel
theorem dX9_pairs_86 : decode cX9_pairs 86 = .ok (.iload 4, 2) := by decide +kernel
theorem dX9_pairs_88 : decode cX9_pairs 88 = .ok (.ishl, 1) := by decide +kernel
theorem dX9_pairs_89 : decode cX9_pairs 89 = .ok (.iconst (-1), 1) := by decide +kernel
theorem dX9_pairs_90 : decode cX9_pairs 90 = .ok (.ixor, 1) := by decide +kernel
theorem dX9_pairs_91 : decode cX9_pairs 91 = .ok (.iand, 1) := by decide +kernel
theorem dX9_pairs_92 : decode cX9_pairs 92 = .ok (.iaload, 1) := by decide +kernel
theorem dX9_pairs_93 : decode cX9_pairs 93 = .ok (.iadd, 1) := by decide +kernel
theorem dX9_pairs_94 : decode cX9_pairs 94 = .ok (.istore 5, 2) := by decide +kernel
theorem dX9_pairs_96 : decode cX9_pairs 96 = .ok (.aload_n 0, 1) := by decide +kernel
theorem dX9_pairs_97 : decode cX9_pairs 97 = .ok (.getfield 53, 3) := by decide +kernel
theorem dX9_pairs_100 : decode cX9_pairs 100 = .ok (.iload_n 2, 1) := by decide +kernel
theorem dX9_pairs_101 : decode cX9_pairs 101 = .ok (.iload 5, 2) := by decide +kernel
theorem dX9_pairs_103 : decode cX9_pairs 103 = .ok (.aload_n 0, 1) := by decide +kernel
theorem dX9_pairs_104 : decode cX9_pairs 104 = .ok (.getfield 53, 3) := by decide +kernel
theorem dX9_pairs_107 : decode cX9_pairs 107 = .ok (.iload_n 2, 1) := by decide +kernel
theorem dX9_pairs_108 : decode cX9_pairs 108 = .ok (.iaload, 1) := by decide +kernel
theorem dX9_pairs_109 : decode cX9_pairs 109 = .ok (.if_icmp .ge 8, 3) := by decide +kernel
theorem dX9_pairs_112 : decode cX9_pairs 112 = .ok (.iload 5, 2) := by decide +kernel
theorem dX9_pairs_114 : decode cX9_pairs 114 = .ok (.goto 9, 3) := by decide +kernel
theorem dX9_pairs_117 : decode cX9_pairs 117 = .ok (.aload_n 0, 1) := by decide +kernel
theorem dX9_pairs_118 : decode cX9_pairs 118 = .ok (.getfield 53, 3) := by decide +kernel
theorem dX9_pairs_121 : decode cX9_pairs 121 = .ok (.iload_n 2, 1) := by decide +kernel
theorem dX9_pairs_122 : decode cX9_pairs 122 = .ok (.iaload, 1) := by decide +kernel
theorem dX9_pairs_123 : decode cX9_pairs 123 = .ok (.iastore, 1) := by decide +kernel
theorem dX9_pairs_124 : decode cX9_pairs 124 = .ok (.iinc 4 1, 3) := by decide +kernel
theorem dX9_pairs_127 : decode cX9_pairs 127 = .ok (.goto (-76), 3) := by decide +kernel
theorem dX9_pairs_130 : decode cX9_pairs 130 = .ok (.iinc 2 1, 3) := by decide +kernel
theorem dX9_pairs_133 : decode cX9_pairs 133 = .ok (.goto (-124), 3) := by decide +kernel
theorem dX9_pairs_136 : decode cX9_pairs 136 = .ok (.return_, 1) := by decide +kernel
theorem dX9_links_0 : decode cX9_links 0 = .ok (.aload_n 0, 1) := by decide +kernel
theorem dX9_links_1 : decode cX9_links 1 = .ok (.iload_n 1, 1) := by decide +kernel
theorem dX9_links_2 : decode cX9_links 2 = .ok (.invokevirtual 250, 3) := by decide +kernel
theorem dX9_links_5 : decode cX9_links 5 = .ok (.istore_n 2, 1) := by decide +kernel
theorem dX9_links_6 : decode cX9_links 6 = .ok (.iconst 0, 1) := by decide +kernel
theorem dX9_links_7 : decode cX9_links 7 = .ok (.istore_n 3, 1) := by decide +kernel
theorem dX9_links_8 : decode cX9_links 8 = .ok (.iload_n 3, 1) := by decide +kernel
theorem dX9_links_9 : decode cX9_links 9 = .ok (.bipush 9, 2) := by decide +kernel
theorem dX9_links_11 : decode cX9_links 11 = .ok (.if_icmp .ge 17, 3) := by decide +kernel
theorem dX9_links_14 : decode cX9_links 14 = .ok (.aload_n 0, 1) := by decide +kernel
theorem dX9_links_15 : decode cX9_links 15 = .ok (.getfield 50, 3) := by decide +kernel
theorem dX9_links_18 : decode cX9_links 18 = .ok (.iload_n 3, 1) := by decide +kernel
theorem dX9_links_19 : decode cX9_links 19 = .ok (.bipush (-9), 2) := by decide +kernel
theorem dX9_links_21 : decode cX9_links 21 = .ok (.iastore, 1) := by decide +kernel
theorem dX9_links_22 : decode cX9_links 22 = .ok (.iinc 3 1, 3) := by decide +kernel
theorem dX9_links_25 : decode cX9_links 25 = .ok (.goto (-17), 3) := by decide +kernel
theorem dX9_links_28 : decode cX9_links 28 = .ok (.aload_n 0, 1) := by decide +kernel
theorem dX9_links_29 : decode cX9_links 29 = .ok (.iload_n 2, 1) := by decide +kernel
theorem dX9_links_30 : decode cX9_links 30 = .ok (.invokevirtual 253, 3) := by decide +kernel
theorem dX9_links_33 : decode cX9_links 33 = .ok (.aload_n 0, 1) := by decide +kernel
theorem dX9_links_34 : decode cX9_links 34 = .ok (.getfield 53, 3) := by decide +kernel
theorem dX9_links_37 : decode cX9_links 37 = .ok (.iload_n 2, 1) := by decide +kernel
theorem dX9_links_38 : decode cX9_links 38 = .ok (.iaload, 1) := by decide +kernel
theorem dX9_links_39 : decode cX9_links 39 = .ok (.istore_n 3, 1) := by decide +kernel
theorem dX9_links_40 : decode cX9_links 40 = .ok (.iload_n 2, 1) := by decide +kernel
theorem dX9_links_41 : decode cX9_links 41 = .ok (.ifCond .eq 105, 3) := by decide +kernel
theorem dX9_links_44 : decode cX9_links 44 = .ok (.iload_n 2, 1) := by decide +kernel
theorem dX9_links_45 : decode cX9_links 45 = .ok (.invokestatic 247, 3) := by decide +kernel
theorem dX9_links_48 : decode cX9_links 48 = .ok (.istore 4, 2) := by decide +kernel
theorem dX9_links_50 : decode cX9_links 50 = .ok (.iload 4, 2) := by decide +kernel
theorem dX9_links_52 : decode cX9_links 52 = .ok (.iconst 1, 1) := by decide +kernel
theorem dX9_links_53 : decode cX9_links 53 = .ok (.iadd, 1) := by decide +kernel
theorem dX9_links_54 : decode cX9_links 54 = .ok (.istore 5, 2) := by decide +kernel
theorem dX9_links_56 : decode cX9_links 56 = .ok (.iload_n 2, 1) := by decide +kernel
theorem dX9_links_57 : decode cX9_links 57 = .ok (.iload 5, 2) := by decide +kernel
theorem dX9_links_59 : decode cX9_links 59 = .ok (.invokestatic 84, 3) := by decide +kernel
theorem dX9_links_62 : decode cX9_links 62 = .ok (.ifCond .eq 41, 3) := by decide +kernel
theorem dX9_links_65 : decode cX9_links 65 = .ok (.aload_n 0, 1) := by decide +kernel
theorem dX9_links_66 : decode cX9_links 66 = .ok (.iload 4, 2) := by decide +kernel
theorem dX9_links_68 : decode cX9_links 68 = .ok (.iload 5, 2) := by decide +kernel
theorem dX9_links_70 : decode cX9_links 70 = .ok (.invokevirtual 204, 3) := by decide +kernel
theorem dX9_links_73 : decode cX9_links 73 = .ok (.aload_n 0, 1) := by decide +kernel
theorem dX9_links_74 : decode cX9_links 74 = .ok (.getfield 53, 3) := by decide +kernel
theorem dX9_links_77 : decode cX9_links 77 = .ok (.iload_n 2, 1) := by decide +kernel
theorem dX9_links_78 : decode cX9_links 78 = .ok (.iconst 1, 1) := by decide +kernel
theorem dX9_links_79 : decode cX9_links 79 = .ok (.iload 4, 2) := by decide +kernel
theorem dX9_links_81 : decode cX9_links 81 = .ok (.ishl, 1) := by decide +kernel
theorem dX9_links_82 : decode cX9_links 82 = .ok (.iconst (-1), 1) := by decide +kernel
theorem dX9_links_83 : decode cX9_links 83 = .ok (.ixor, 1) := by decide +kernel
theorem dX9_links_84 : decode cX9_links 84 = .ok (.iand, 1) := by decide +kernel
theorem dX9_links_85 : decode cX9_links 85 = .ok (.iconst 1, 1) := by decide +kernel
theorem dX9_links_86 : decode cX9_links 86 = .ok (.iload 5, 2) := by decide +kernel
theorem dX9_links_88 : decode cX9_links 88 = .ok (.ishl, 1) := by decide +kernel
theorem dX9_links_89 : decode cX9_links 89 = .ok (.iconst (-1), 1) := by decide +kernel
theorem dX9_links_90 : decode cX9_links 90 = .ok (.ixor, 1) := by decide +kernel
theorem dX9_links_91 : decode cX9_links 91 = .ok (.iand, 1) := by decide +kernel
theorem dX9_links_92 : decode cX9_links 92 = .ok (.iaload, 1) := by decide +kernel
theorem dX9_links_93 : decode cX9_links 93 = .ok (.iadd, 1) := by decide +kernel
theorem dX9_links_94 : decode cX9_links 94 = .ok (.aload_n 0, 1) := by decide +kernel
theorem dX9_links_95 : decode cX9_links 95 = .ok (.getfield 53, 3) := by decide +kernel
theorem dX9_links_98 : decode cX9_links 98 = .ok (.iload_n 2, 1) := by decide +kernel
theorem dX9_links_99 : decode cX9_links 99 = .ok (.iaload, 1) := by decide +kernel
theorem dX9_links_100 : decode cX9_links 100 = .ok (.if_icmp .eq 9, 3) := by decide +kernel
theorem dX9_links_103 : decode cX9_links 103 = .ok (.iinc 5 1, 3) := by decide +kernel
theorem dX9_links_106 : decode cX9_links 106 = .ok (.goto (-50), 3) := by decide +kernel
theorem dX9_links_109 : decode cX9_links 109 = .ok (.aload_n 0, 1) := by decide +kernel
theorem dX9_links_110 : decode cX9_links 110 = .ok (.getfield 50, 3) := by decide +kernel
theorem dX9_links_113 : decode cX9_links 113 = .ok (.iload 4, 2) := by decide +kernel
theorem dX9_links_115 : decode cX9_links 115 = .ok (.iload 5, 2) := by decide +kernel
theorem dX9_links_117 : decode cX9_links 117 = .ok (.iastore, 1) := by decide +kernel
theorem dX9_links_118 : decode cX9_links 118 = .ok (.aload_n 0, 1) := by decide +kernel
theorem dX9_links_119 : decode cX9_links 119 = .ok (.getfield 50, 3) := by decide +kernel
theorem dX9_links_122 : decode cX9_links 122 = .ok (.iload 5, 2) := by decide +kernel
theorem dX9_links_124 : decode cX9_links 124 = .ok (.iload 4, 2) := by decide +kernel
theorem dX9_links_126 : decode cX9_links 126 = .ok (.iastore, 1) := by decide +kernel
theorem dX9_links_127 : decode cX9_links 127 = .ok (.iload_n 2, 1) := by decide +kernel
theorem dX9_links_128 : decode cX9_links 128 = .ok (.iconst 1, 1) := by decide +kernel
theorem dX9_links_129 : decode cX9_links 129 = .ok (.iload 4, 2) := by decide +kernel
theorem dX9_links_131 : decode cX9_links 131 = .ok (.ishl, 1) := by decide +kernel
theorem dX9_links_132 : decode cX9_links 132 = .ok (.iconst (-1), 1) := by decide +kernel
theorem dX9_links_133 : decode cX9_links 133 = .ok (.ixor, 1) := by decide +kernel
theorem dX9_links_134 : decode cX9_links 134 = .ok (.iconst 1, 1) := by decide +kernel
theorem dX9_links_135 : decode cX9_links 135 = .ok (.iload 5, 2) := by decide +kernel
theorem dX9_links_137 : decode cX9_links 137 = .ok (.ishl, 1) := by decide +kernel
theorem dX9_links_138 : decode cX9_links 138 = .ok (.iconst (-1), 1) := by decide +kernel
theorem dX9_links_139 : decode cX9_links 139 = .ok (.ixor, 1) := by decide +kernel
theorem dX9_links_140 : decode cX9_links 140 = .ok (.iand, 1) := by decide +kernel
theorem dX9_links_141 : decode cX9_links 141 = .ok (.iand, 1) := by decide +kernel
theorem dX9_links_142 : decode cX9_links 142 = .ok (.istore_n 2, 1) := by decide +kernel
theorem dX9_links_143 : decode cX9_links 143 = .ok (.goto (-103), 3) := by decide +kernel
theorem dX9_links_146 : decode cX9_links 146 = .ok (.iload_n 3, 1) := by decide +kernel
theorem dX9_links_147 : decode cX9_links 147 = .ok (.ireturn, 1) := by decide +kernel
theorem dX9_link_0 : decode cX9_link 0 = .ok (.aload_n 0, 1) := by decide +kernel
theorem dX9_link_1 : decode cX9_link 1 = .ok (.iconst 0, 1) := by decide +kernel
theorem dX9_link_2 : decode cX9_link 2 = .ok (.putfield 80, 3) := by decide +kernel
theorem dX9_link_5 : decode cX9_link 5 = .ok (.aload_n 0, 1) := by decide +kernel
theorem dX9_link_6 : decode cX9_link 6 = .ok (.iload_n 1, 1) := by decide +kernel
theorem dX9_link_7 : decode cX9_link 7 = .ok (.invokevirtual 188, 3) := by decide +kernel
theorem dX9_link_10 : decode cX9_link 10 = .ok (.ifCond .ne 5, 3) := by decide +kernel
theorem dX9_link_13 : decode cX9_link 13 = .ok (.iconst (-1), 1) := by decide +kernel
theorem dX9_link_14 : decode cX9_link 14 = .ok (.ireturn, 1) := by decide +kernel
theorem dX9_link_15 : decode cX9_link 15 = .ok (.aload_n 0, 1) := by decide +kernel
theorem dX9_link_16 : decode cX9_link 16 = .ok (.invokevirtual 201, 3) := by decide +kernel
theorem dX9_link_19 : decode cX9_link 19 = .ok (.bipush (-9), 2) := by decide +kernel
theorem dX9_link_21 : decode cX9_link 21 = .ok (.istore_n 2, 1) := by decide +kernel
theorem dX9_link_22 : decode cX9_link 22 = .ok (.iconst 0, 1) := by decide +kernel
theorem dX9_link_23 : decode cX9_link 23 = .ok (.istore_n 3, 1) := by decide +kernel
theorem dX9_link_24 : decode cX9_link 24 = .ok (.iload_n 3, 1) := by decide +kernel
theorem dX9_link_25 : decode cX9_link 25 = .ok (.aload_n 0, 1) := by decide +kernel
theorem dX9_link_26 : decode cX9_link 26 = .ok (.getfield 198, 3) := by decide +kernel
theorem dX9_link_29 : decode cX9_link 29 = .ok (.if_icmp .ge 37, 3) := by decide +kernel
theorem dX9_link_32 : decode cX9_link 32 = .ok (.aload_n 0, 1) := by decide +kernel
theorem dX9_link_33 : decode cX9_link 33 = .ok (.iload_n 3, 1) := by decide +kernel
theorem dX9_link_34 : decode cX9_link 34 = .ok (.invokevirtual 256, 3) := by decide +kernel
theorem dX9_link_37 : decode cX9_link 37 = .ok (.pop, 1) := by decide +kernel
theorem dX9_link_38 : decode cX9_link 38 = .ok (.aload_n 0, 1) := by decide +kernel
theorem dX9_link_39 : decode cX9_link 39 = .ok (.getfield 50, 3) := by decide +kernel
theorem dX9_link_42 : decode cX9_link 42 = .ok (.iload_n 1, 1) := by decide +kernel
theorem dX9_link_43 : decode cX9_link 43 = .ok (.iaload, 1) := by decide +kernel
theorem dX9_link_44 : decode cX9_link 44 = .ok (.bipush (-9), 2) := by decide +kernel
theorem dX9_link_46 : decode cX9_link 46 = .ok (.if_icmp .eq 12, 3) := by decide +kernel
theorem dX9_link_49 : decode cX9_link 49 = .ok (.aload_n 0, 1) := by decide +kernel
theorem dX9_link_50 : decode cX9_link 50 = .ok (.getfield 50, 3) := by decide +kernel
theorem dX9_link_53 : decode cX9_link 53 = .ok (.iload_n 1, 1) := by decide +kernel
theorem dX9_link_54 : decode cX9_link 54 = .ok (.iaload, 1) := by decide +kernel
theorem dX9_link_55 : decode cX9_link 55 = .ok (.goto 4, 3) := by decide +kernel
theorem dX9_link_58 : decode cX9_link 58 = .ok (.iload_n 2, 1) := by decide +kernel
theorem dX9_link_59 : decode cX9_link 59 = .ok (.istore_n 2, 1) := by decide +kernel
theorem dX9_link_60 : decode cX9_link 60 = .ok (.iinc 3 1, 3) := by decide +kernel
theorem dX9_link_63 : decode cX9_link 63 = .ok (.goto (-39), 3) := by decide +kernel
theorem dX9_link_66 : decode cX9_link 66 = .ok (.iload_n 2, 1) := by decide +kernel
theorem dX9_link_67 : decode cX9_link 67 = .ok (.ireturn, 1) := by decide +kernel
theorem dX9_startOf_0 : decode cX9_startOf 0 = .ok (.aload_n 0, 1) := by decide +kernel
theorem dX9_startOf_1 : decode cX9_startOf 1 = .ok (.getfield 19, 3) := by decide +kernel
theorem dX9_startOf_4 : decode cX9_startOf 4 = .ok (.iconst 1, 1) := by decide +kernel
theorem dX9_startOf_5 : decode cX9_startOf 5 = .ok (.iaload, 1) := by decide +kernel
theorem dX9_startOf_6 : decode cX9_startOf 6 = .ok (.istore_n 2, 1) := by decide +kernel
theorem dX9_startOf_7 : decode cX9_startOf 7 = .ok (.aload_n 0, 1) := by decide +kernel
theorem dX9_startOf_8 : decode cX9_startOf 8 = .ok (.getfield 44, 3) := by decide +kernel
theorem dX9_startOf_11 : decode cX9_startOf 11 = .ok (.iload_n 2, 1) := by decide +kernel
theorem dX9_startOf_12 : decode cX9_startOf 12 = .ok (.iaload, 1) := by decide +kernel
theorem dX9_startOf_13 : decode cX9_startOf 13 = .ok (.aload_n 0, 1) := by decide +kernel
theorem dX9_startOf_14 : decode cX9_startOf 14 = .ok (.getfield 47, 3) := by decide +kernel
theorem dX9_startOf_17 : decode cX9_startOf 17 = .ok (.iload_n 1, 1) := by decide +kernel
theorem dX9_startOf_18 : decode cX9_startOf 18 = .ok (.iaload, 1) := by decide +kernel
theorem dX9_startOf_19 : decode cX9_startOf 19 = .ok (.if_icmp .ne 24, 3) := by decide +kernel
theorem dX9_startOf_22 : decode cX9_startOf 22 = .ok (.aload_n 0, 1) := by decide +kernel
theorem dX9_startOf_23 : decode cX9_startOf 23 = .ok (.getfield 13, 3) := by decide +kernel
theorem dX9_startOf_26 : decode cX9_startOf 26 = .ok (.iload_n 2, 1) := by decide +kernel
theorem dX9_startOf_27 : decode cX9_startOf 27 = .ok (.aload_n 0, 1) := by decide +kernel
theorem dX9_startOf_28 : decode cX9_startOf 28 = .ok (.getfield 19, 3) := by decide +kernel
theorem dX9_startOf_31 : decode cX9_startOf 31 = .ok (.iconst 0, 1) := by decide +kernel
theorem dX9_startOf_32 : decode cX9_startOf 32 = .ok (.iaload, 1) := by decide +kernel
theorem dX9_startOf_33 : decode cX9_startOf 33 = .ok (.invokestatic 192, 3) := by decide +kernel
theorem dX9_startOf_36 : decode cX9_startOf 36 = .ok (.ifCond .le 7, 3) := by decide +kernel
theorem dX9_startOf_39 : decode cX9_startOf 39 = .ok (.iload_n 2, 1) := by decide +kernel
theorem dX9_startOf_40 : decode cX9_startOf 40 = .ok (.goto 9, 3) := by decide +kernel
theorem dX9_startOf_43 : decode cX9_startOf 43 = .ok (.aload_n 0, 1) := by decide +kernel
theorem dX9_startOf_44 : decode cX9_startOf 44 = .ok (.getfield 47, 3) := by decide +kernel
theorem dX9_startOf_47 : decode cX9_startOf 47 = .ok (.iload_n 1, 1) := by decide +kernel
theorem dX9_startOf_48 : decode cX9_startOf 48 = .ok (.iaload, 1) := by decide +kernel
theorem dX9_startOf_49 : decode cX9_startOf 49 = .ok (.ireturn, 1) := by decide +kernel
theorem dX9_opens_0 : decode cX9_opens 0 = .ok (.aload_n 0, 1) := by decide +kernel
theorem dX9_opens_1 : decode cX9_opens 1 = .ok (.getfield 62, 3) := by decide +kernel
theorem dX9_opens_4 : decode cX9_opens 4 = .ok (.bipush 81, 2) := by decide +kernel
theorem dX9_opens_6 : decode cX9_opens 6 = .ok (.iload_n 3, 1) := by decide +kernel
theorem dX9_opens_7 : decode cX9_opens 7 = .ok (.imul, 1) := by decide +kernel
theorem dX9_opens_8 : decode cX9_opens 8 = .ok (.bipush 9, 2) := by decide +kernel
theorem dX9_opens_10 : decode cX9_opens 10 = .ok (.iload_n 1, 1) := by decide +kernel
theorem dX9_opens_11 : decode cX9_opens 11 = .ok (.imul, 1) := by decide +kernel
theorem dX9_opens_12 : decode cX9_opens 12 = .ok (.iadd, 1) := by decide +kernel
theorem dX9_opens_13 : decode cX9_opens 13 = .ok (.iload_n 2, 1) := by decide +kernel
theorem dX9_opens_14 : decode cX9_opens 14 = .ok (.iadd, 1) := by decide +kernel
theorem dX9_opens_15 : decode cX9_opens 15 = .ok (.iconst 1, 1) := by decide +kernel
theorem dX9_opens_16 : decode cX9_opens 16 = .ok (.iastore, 1) := by decide +kernel
theorem dX9_opens_17 : decode cX9_opens 17 = .ok (.aload_n 0, 1) := by decide +kernel
theorem dX9_opens_18 : decode cX9_opens 18 = .ok (.getfield 62, 3) := by decide +kernel
theorem dX9_opens_21 : decode cX9_opens 21 = .ok (.bipush 81, 2) := by decide +kernel
theorem dX9_opens_23 : decode cX9_opens 23 = .ok (.iload_n 3, 1) := by decide +kernel
theorem dX9_opens_24 : decode cX9_opens 24 = .ok (.imul, 1) := by decide +kernel
theorem dX9_opens_25 : decode cX9_opens 25 = .ok (.bipush 9, 2) := by decide +kernel
theorem dX9_opens_27 : decode cX9_opens 27 = .ok (.iload_n 2, 1) := by decide +kernel
theorem dX9_opens_28 : decode cX9_opens 28 = .ok (.imul, 1) := by decide +kernel
theorem dX9_opens_29 : decode cX9_opens 29 = .ok (.iadd, 1) := by decide +kernel
theorem dX9_opens_30 : decode cX9_opens 30 = .ok (.iload_n 1, 1) := by decide +kernel
theorem dX9_opens_31 : decode cX9_opens 31 = .ok (.iadd, 1) := by decide +kernel
theorem dX9_opens_32 : decode cX9_opens 32 = .ok (.iconst 1, 1) := by decide +kernel
theorem dX9_opens_33 : decode cX9_opens 33 = .ok (.iastore, 1) := by decide +kernel
theorem dX9_opens_34 : decode cX9_opens 34 = .ok (.return_, 1) := by decide +kernel
theorem dX9_shuts_0 : decode cX9_shuts 0 = .ok (.aload_n 0, 1) := by decide +kernel
theorem dX9_shuts_1 : decode cX9_shuts 1 = .ok (.getfield 62, 3) := by decide +kernel
theorem dX9_shuts_4 : decode cX9_shuts 4 = .ok (.bipush 81, 2) := by decide +kernel
theorem dX9_shuts_6 : decode cX9_shuts 6 = .ok (.iload_n 3, 1) := by decide +kernel
theorem dX9_shuts_7 : decode cX9_shuts 7 = .ok (.imul, 1) := by decide +kernel
theorem dX9_shuts_8 : decode cX9_shuts 8 = .ok (.bipush 9, 2) := by decide +kernel
theorem dX9_shuts_10 : decode cX9_shuts 10 = .ok (.iload_n 1, 1) := by decide +kernel
theorem dX9_shuts_11 : decode cX9_shuts 11 = .ok (.imul, 1) := by decide +kernel
theorem dX9_shuts_12 : decode cX9_shuts 12 = .ok (.iadd, 1) := by decide +kernel
theorem dX9_shuts_13 : decode cX9_shuts 13 = .ok (.iload_n 2, 1) := by decide +kernel
theorem dX9_shuts_14 : decode cX9_shuts 14 = .ok (.iadd, 1) := by decide +kernel
theorem dX9_shuts_15 : decode cX9_shuts 15 = .ok (.iconst 0, 1) := by decide +kernel
theorem dX9_shuts_16 : decode cX9_shuts 16 = .ok (.iastore, 1) := by decide +kernel
theorem dX9_shuts_17 : decode cX9_shuts 17 = .ok (.aload_n 0, 1) := by decide +kernel
theorem dX9_shuts_18 : decode cX9_shuts 18 = .ok (.getfield 62, 3) := by decide +kernel
theorem dX9_shuts_21 : decode cX9_shuts 21 = .ok (.bipush 81, 2) := by decide +kernel
theorem dX9_shuts_23 : decode cX9_shuts 23 = .ok (.iload_n 3, 1) := by decide +kernel
theorem dX9_shuts_24 : decode cX9_shuts 24 = .ok (.imul, 1) := by decide +kernel
theorem dX9_shuts_25 : decode cX9_shuts 25 = .ok (.bipush 9, 2) := by decide +kernel
theorem dX9_shuts_27 : decode cX9_shuts 27 = .ok (.iload_n 2, 1) := by decide +kernel
theorem dX9_shuts_28 : decode cX9_shuts 28 = .ok (.imul, 1) := by decide +kernel
theorem dX9_shuts_29 : decode cX9_shuts 29 = .ok (.iadd, 1) := by decide +kernel
theorem dX9_shuts_30 : decode cX9_shuts 30 = .ok (.iload_n 1, 1) := by decide +kernel
theorem dX9_shuts_31 : decode cX9_shuts 31 = .ok (.iadd, 1) := by decide +kernel
theorem dX9_shuts_32 : decode cX9_shuts 32 = .ok (.iconst 0, 1) := by decide +kernel
theorem dX9_shuts_33 : decode cX9_shuts 33 = .ok (.iastore, 1) := by decide +kernel
theorem dX9_shuts_34 : decode cX9_shuts 34 = .ok (.return_, 1) := by decide +kernel
theorem dX9_isOpen_0 : decode cX9_isOpen 0 = .ok (.aload_n 0, 1) := by decide +kernel
theorem dX9_isOpen_1 : decode cX9_isOpen 1 = .ok (.getfield 62, 3) := by decide +kernel
theorem dX9_isOpen_4 : decode cX9_isOpen 4 = .ok (.bipush 81, 2) := by decide +kernel
theorem dX9_isOpen_6 : decode cX9_isOpen 6 = .ok (.iload_n 3, 1) := by decide +kernel
theorem dX9_isOpen_7 : decode cX9_isOpen 7 = .ok (.imul, 1) := by decide +kernel
theorem dX9_isOpen_8 : decode cX9_isOpen 8 = .ok (.bipush 9, 2) := by decide +kernel
theorem dX9_isOpen_10 : decode cX9_isOpen 10 = .ok (.iload_n 1, 1) := by decide +kernel
theorem dX9_isOpen_11 : decode cX9_isOpen 11 = .ok (.imul, 1) := by decide +kernel
theorem dX9_isOpen_12 : decode cX9_isOpen 12 = .ok (.iadd, 1) := by decide +kernel
theorem dX9_isOpen_13 : decode cX9_isOpen 13 = .ok (.iload_n 2, 1) := by decide +kernel
theorem dX9_isOpen_14 : decode cX9_isOpen 14 = .ok (.iadd, 1) := by decide +kernel
theorem dX9_isOpen_15 : decode cX9_isOpen 15 = .ok (.iaload, 1) := by decide +kernel
theorem dX9_isOpen_16 : decode cX9_isOpen 16 = .ok (.iconst 1, 1) := by decide +kernel
theorem dX9_isOpen_17 : decode cX9_isOpen 17 = .ok (.if_icmp .ne 7, 3) := by decide +kernel
theorem dX9_isOpen_20 : decode cX9_isOpen 20 = .ok (.iconst 1, 1) := by decide +kernel
theorem dX9_isOpen_21 : decode cX9_isOpen 21 = .ok (.goto 4, 3) := by decide +kernel
theorem dX9_isOpen_24 : decode cX9_isOpen 24 = .ok (.iconst 0, 1) := by decide +kernel
theorem dX9_isOpen_25 : decode cX9_isOpen 25 = .ok (.ireturn, 1) := by decide +kernel
theorem dX9_isAllFrom_0 : decode cX9_isAllFrom 0 = .ok (.iconst 1, 1) := by decide +kernel
theorem dX9_isAllFrom_1 : decode cX9_isAllFrom 1 = .ok (.iload_n 1, 1) := by decide +kernel
theorem dX9_isAllFrom_2 : decode cX9_isAllFrom 2 = .ok (.ishl, 1) := by decide +kernel
theorem dX9_isAllFrom_3 : decode cX9_isAllFrom 3 = .ok (.istore_n 2, 1) := by decide +kernel
theorem dX9_isAllFrom_4 : decode cX9_isAllFrom 4 = .ok (.iconst 0, 1) := by decide +kernel
theorem dX9_isAllFrom_5 : decode cX9_isAllFrom 5 = .ok (.istore_n 3, 1) := by decide +kernel
theorem dX9_isAllFrom_6 : decode cX9_isAllFrom 6 = .ok (.iload_n 3, 1) := by decide +kernel
theorem dX9_isAllFrom_7 : decode cX9_isAllFrom 7 = .ok (.bipush 9, 2) := by decide +kernel
theorem dX9_isAllFrom_9 : decode cX9_isAllFrom 9 = .ok (.if_icmp .ge 85, 3) := by decide +kernel
theorem dX9_isAllFrom_12 : decode cX9_isAllFrom 12 = .ok (.iconst 0, 1) := by decide +kernel
theorem dX9_isAllFrom_13 : decode cX9_isAllFrom 13 = .ok (.istore 4, 2) := by decide +kernel
theorem dX9_isAllFrom_15 : decode cX9_isAllFrom 15 = .ok (.iload 4, 2) := by decide +kernel
theorem dX9_isAllFrom_17 : decode cX9_isAllFrom 17 = .ok (.bipush 9, 2) := by decide +kernel
theorem dX9_isAllFrom_19 : decode cX9_isAllFrom 19 = .ok (.if_icmp .ge 69, 3) := by decide +kernel
theorem dX9_isAllFrom_22 : decode cX9_isAllFrom 22 = .ok (.iconst 0, 1) := by decide +kernel
theorem dX9_isAllFrom_23 : decode cX9_isAllFrom 23 = .ok (.istore 5, 2) := by decide +kernel
theorem dX9_isAllFrom_25 : decode cX9_isAllFrom 25 = .ok (.iload 5, 2) := by decide +kernel
theorem dX9_isAllFrom_27 : decode cX9_isAllFrom 27 = .ok (.bipush 9, 2) := by decide +kernel
theorem dX9_isAllFrom_29 : decode cX9_isAllFrom 29 = .ok (.if_icmp .ge 53, 3) := by decide +kernel
theorem dX9_isAllFrom_32 : decode cX9_isAllFrom 32 = .ok (.iload_n 2, 1) := by decide +kernel
theorem dX9_isAllFrom_33 : decode cX9_isAllFrom 33 = .ok (.iload_n 2, 1) := by decide +kernel
theorem dX9_isAllFrom_34 : decode cX9_isAllFrom 34 = .ok (.iload 4, 2) := by decide +kernel
theorem dX9_isAllFrom_36 : decode cX9_isAllFrom 36 = .ok (.invokestatic 84, 3) := by decide +kernel
theorem dX9_isAllFrom_39 : decode cX9_isAllFrom 39 = .ok (.ifCond .eq 34, 3) := by decide +kernel
theorem dX9_isAllFrom_42 : decode cX9_isAllFrom 42 = .ok (.aload_n 0, 1) := by decide +kernel
theorem dX9_isAllFrom_43 : decode cX9_isAllFrom 43 = .ok (.iload 4, 2) := by decide +kernel
theorem dX9_isAllFrom_45 : decode cX9_isAllFrom 45 = .ok (.iload 5, 2) := by decide +kernel
theorem dX9_isAllFrom_47 : decode cX9_isAllFrom 47 = .ok (.iconst 0, 1) := by decide +kernel
theorem dX9_isAllFrom_48 : decode cX9_isAllFrom 48 = .ok (.invokevirtual 259, 3) := by decide +kernel
theorem dX9_isAllFrom_51 : decode cX9_isAllFrom 51 = .ok (.ifCond .ne 15, 3) := by decide +kernel
theorem dX9_isAllFrom_54 : decode cX9_isAllFrom 54 = .ok (.aload_n 0, 1) := by decide +kernel
theorem dX9_isAllFrom_55 : decode cX9_isAllFrom 55 = .ok (.iload 4, 2) := by decide +kernel
theorem dX9_isAllFrom_57 : decode cX9_isAllFrom 57 = .ok (.iload 5, 2) := by decide +kernel
theorem dX9_isAllFrom_59 : decode cX9_isAllFrom 59 = .ok (.iconst 1, 1) := by decide +kernel
theorem dX9_isAllFrom_60 : decode cX9_isAllFrom 60 = .ok (.invokevirtual 259, 3) := by decide +kernel
theorem dX9_isAllFrom_63 : decode cX9_isAllFrom 63 = .ok (.ifCond .eq 10, 3) := by decide +kernel
theorem dX9_isAllFrom_66 : decode cX9_isAllFrom 66 = .ok (.iconst 1, 1) := by decide +kernel
theorem dX9_isAllFrom_67 : decode cX9_isAllFrom 67 = .ok (.iload 5, 2) := by decide +kernel
theorem dX9_isAllFrom_69 : decode cX9_isAllFrom 69 = .ok (.ishl, 1) := by decide +kernel
theorem dX9_isAllFrom_70 : decode cX9_isAllFrom 70 = .ok (.goto 4, 3) := by decide +kernel
theorem dX9_isAllFrom_73 : decode cX9_isAllFrom 73 = .ok (.iconst 0, 1) := by decide +kernel
theorem dX9_isAllFrom_74 : decode cX9_isAllFrom 74 = .ok (.ior, 1) := by decide +kernel
theorem dX9_isAllFrom_75 : decode cX9_isAllFrom 75 = .ok (.istore_n 2, 1) := by decide +kernel
theorem dX9_isAllFrom_76 : decode cX9_isAllFrom 76 = .ok (.iinc 5 1, 3) := by decide +kernel
theorem dX9_isAllFrom_79 : decode cX9_isAllFrom 79 = .ok (.goto (-54), 3) := by decide +kernel
theorem dX9_isAllFrom_82 : decode cX9_isAllFrom 82 = .ok (.iinc 4 1, 3) := by decide +kernel
theorem dX9_isAllFrom_85 : decode cX9_isAllFrom 85 = .ok (.goto (-70), 3) := by decide +kernel
theorem dX9_isAllFrom_88 : decode cX9_isAllFrom 88 = .ok (.iinc 3 1, 3) := by decide +kernel
theorem dX9_isAllFrom_91 : decode cX9_isAllFrom 91 = .ok (.goto (-85), 3) := by decide +kernel
theorem dX9_isAllFrom_94 : decode cX9_isAllFrom 94 = .ok (.iconst 1, 1) := by decide +kernel
theorem dX9_isAllFrom_95 : decode cX9_isAllFrom 95 = .ok (.istore_n 3, 1) := by decide +kernel
theorem dX9_isAllFrom_96 : decode cX9_isAllFrom 96 = .ok (.iconst 0, 1) := by decide +kernel
theorem dX9_isAllFrom_97 : decode cX9_isAllFrom 97 = .ok (.istore 4, 2) := by decide +kernel
theorem dX9_isAllFrom_99 : decode cX9_isAllFrom 99 = .ok (.iload 4, 2) := by decide +kernel
theorem dX9_isAllFrom_101 : decode cX9_isAllFrom 101 = .ok (.bipush 9, 2) := by decide +kernel
theorem dX9_isAllFrom_103 : decode cX9_isAllFrom 103 = .ok (.if_icmp .ge 68, 3) := by decide +kernel
theorem dX9_isAllFrom_106 : decode cX9_isAllFrom 106 = .ok (.iconst 0, 1) := by decide +kernel
theorem dX9_isAllFrom_107 : decode cX9_isAllFrom 107 = .ok (.istore 5, 2) := by decide +kernel
theorem dX9_isAllFrom_109 : decode cX9_isAllFrom 109 = .ok (.iload 5, 2) := by decide +kernel
theorem dX9_isAllFrom_111 : decode cX9_isAllFrom 111 = .ok (.bipush 9, 2) := by decide +kernel
theorem dX9_isAllFrom_113 : decode cX9_isAllFrom 113 = .ok (.if_icmp .ge 52, 3) := by decide +kernel
theorem dX9_isAllFrom_116 : decode cX9_isAllFrom 116 = .ok (.iload_n 3, 1) := by decide +kernel
theorem dX9_isAllFrom_117 : decode cX9_isAllFrom 117 = .ok (.ifCond .eq 40, 3) := by decide +kernel
theorem dX9_isAllFrom_120 : decode cX9_isAllFrom 120 = .ok (.iload_n 2, 1) := by decide +kernel
theorem dX9_isAllFrom_121 : decode cX9_isAllFrom 121 = .ok (.iload 4, 2) := by decide +kernel
theorem dX9_isAllFrom_123 : decode cX9_isAllFrom 123 = .ok (.invokestatic 84, 3) := by decide +kernel
theorem dX9_isAllFrom_126 : decode cX9_isAllFrom 126 = .ok (.ifCond .ne 27, 3) := by decide +kernel
theorem dX9_isAllFrom_129 : decode cX9_isAllFrom 129 = .ok (.aload_n 0, 1) := by decide +kernel
theorem dX9_isAllFrom_130 : decode cX9_isAllFrom 130 = .ok (.iload 4, 2) := by decide +kernel
theorem dX9_isAllFrom_132 : decode cX9_isAllFrom 132 = .ok (.iload 5, 2) := by decide +kernel
theorem dX9_isAllFrom_134 : decode cX9_isAllFrom 134 = .ok (.iconst 0, 1) := by decide +kernel
theorem dX9_isAllFrom_135 : decode cX9_isAllFrom 135 = .ok (.invokevirtual 259, 3) := by decide +kernel
theorem dX9_isAllFrom_138 : decode cX9_isAllFrom 138 = .ok (.ifCond .ne 19, 3) := by decide +kernel
theorem dX9_isAllFrom_141 : decode cX9_isAllFrom 141 = .ok (.aload_n 0, 1) := by decide +kernel
theorem dX9_isAllFrom_142 : decode cX9_isAllFrom 142 = .ok (.iload 4, 2) := by decide +kernel
theorem dX9_isAllFrom_144 : decode cX9_isAllFrom 144 = .ok (.iload 5, 2) := by decide +kernel
theorem dX9_isAllFrom_146 : decode cX9_isAllFrom 146 = .ok (.iconst 1, 1) := by decide +kernel
theorem dX9_isAllFrom_147 : decode cX9_isAllFrom 147 = .ok (.invokevirtual 259, 3) := by decide +kernel
theorem dX9_isAllFrom_150 : decode cX9_isAllFrom 150 = .ok (.ifCond .ne 7, 3) := by decide +kernel
theorem dX9_isAllFrom_153 : decode cX9_isAllFrom 153 = .ok (.iconst 1, 1) := by decide +kernel
theorem dX9_isAllFrom_154 : decode cX9_isAllFrom 154 = .ok (.goto 4, 3) := by decide +kernel
theorem dX9_isAllFrom_157 : decode cX9_isAllFrom 157 = .ok (.iconst 0, 1) := by decide +kernel
theorem dX9_isAllFrom_158 : decode cX9_isAllFrom 158 = .ok (.istore_n 3, 1) := by decide +kernel
theorem dX9_isAllFrom_159 : decode cX9_isAllFrom 159 = .ok (.iinc 5 1, 3) := by decide +kernel
theorem dX9_isAllFrom_162 : decode cX9_isAllFrom 162 = .ok (.goto (-53), 3) := by decide +kernel
theorem dX9_isAllFrom_165 : decode cX9_isAllFrom 165 = .ok (.iinc 4 1, 3) := by decide +kernel
theorem dX9_isAllFrom_168 : decode cX9_isAllFrom 168 = .ok (.goto (-69), 3) := by decide +kernel
theorem dX9_isAllFrom_171 : decode cX9_isAllFrom 171 = .ok (.iload_n 3, 1) := by decide +kernel
theorem dX9_isAllFrom_172 : decode cX9_isAllFrom 172 = .ok (.ireturn, 1) := by decide +kernel
theorem dX9_goesOn_0 : decode cX9_goesOn 0 = .ok (.aload_n 0, 1) := by decide +kernel
theorem dX9_goesOn_1 : decode cX9_goesOn 1 = .ok (.iload_n 1, 1) := by decide +kernel
theorem dX9_goesOn_2 : decode cX9_goesOn 2 = .ok (.iload_n 2, 1) := by decide +kernel
theorem dX9_goesOn_3 : decode cX9_goesOn 3 = .ok (.iload_n 3, 1) := by decide +kernel
theorem dX9_goesOn_4 : decode cX9_goesOn 4 = .ok (.invokevirtual 259, 3) := by decide +kernel
theorem dX9_goesOn_7 : decode cX9_goesOn 7 = .ok (.ifCond .ne 5, 3) := by decide +kernel
theorem dX9_goesOn_10 : decode cX9_goesOn 10 = .ok (.iconst 0, 1) := by decide +kernel
theorem dX9_goesOn_11 : decode cX9_goesOn 11 = .ok (.ireturn, 1) := by decide +kernel
theorem dX9_goesOn_12 : decode cX9_goesOn 12 = .ok (.aload_n 0, 1) := by decide +kernel
theorem dX9_goesOn_13 : decode cX9_goesOn 13 = .ok (.iload_n 1, 1) := by decide +kernel
theorem dX9_goesOn_14 : decode cX9_goesOn 14 = .ok (.iload_n 2, 1) := by decide +kernel
theorem dX9_goesOn_15 : decode cX9_goesOn 15 = .ok (.iload_n 3, 1) := by decide +kernel
theorem dX9_goesOn_16 : decode cX9_goesOn 16 = .ok (.invokevirtual 262, 3) := by decide +kernel
theorem dX9_goesOn_19 : decode cX9_goesOn 19 = .ok (.aload_n 0, 1) := by decide +kernel
theorem dX9_goesOn_20 : decode cX9_goesOn 20 = .ok (.iload_n 2, 1) := by decide +kernel
theorem dX9_goesOn_21 : decode cX9_goesOn 21 = .ok (.invokevirtual 266, 3) := by decide +kernel
theorem dX9_goesOn_24 : decode cX9_goesOn 24 = .ok (.ifCond .eq 5, 3) := by decide +kernel
theorem dX9_goesOn_27 : decode cX9_goesOn 27 = .ok (.iconst 1, 1) := by decide +kernel
theorem dX9_goesOn_28 : decode cX9_goesOn 28 = .ok (.ireturn, 1) := by decide +kernel
theorem dX9_goesOn_29 : decode cX9_goesOn 29 = .ok (.aload_n 0, 1) := by decide +kernel
theorem dX9_goesOn_30 : decode cX9_goesOn 30 = .ok (.iload_n 1, 1) := by decide +kernel
theorem dX9_goesOn_31 : decode cX9_goesOn 31 = .ok (.iload_n 2, 1) := by decide +kernel
theorem dX9_goesOn_32 : decode cX9_goesOn 32 = .ok (.iload_n 3, 1) := by decide +kernel
theorem dX9_goesOn_33 : decode cX9_goesOn 33 = .ok (.invokevirtual 269, 3) := by decide +kernel
theorem dX9_goesOn_36 : decode cX9_goesOn 36 = .ok (.iconst 0, 1) := by decide +kernel
theorem dX9_goesOn_37 : decode cX9_goesOn 37 = .ok (.ireturn, 1) := by decide +kernel
theorem dX9_rounds_0 : decode cX9_rounds 0 = .ok (.aload_n 0, 1) := by decide +kernel
theorem dX9_rounds_1 : decode cX9_rounds 1 = .ok (.iload_n 1, 1) := by decide +kernel
theorem dX9_rounds_2 : decode cX9_rounds 2 = .ok (.invokevirtual 256, 3) := by decide +kernel
theorem dX9_rounds_5 : decode cX9_rounds 5 = .ok (.istore_n 2, 1) := by decide +kernel
theorem dX9_rounds_6 : decode cX9_rounds 6 = .ok (.iconst 0, 1) := by decide +kernel
theorem dX9_rounds_7 : decode cX9_rounds 7 = .ok (.istore_n 3, 1) := by decide +kernel
theorem dX9_rounds_8 : decode cX9_rounds 8 = .ok (.iload_n 3, 1) := by decide +kernel
theorem dX9_rounds_9 : decode cX9_rounds 9 = .ok (.sipush 162, 3) := by decide +kernel
theorem dX9_rounds_12 : decode cX9_rounds 12 = .ok (.if_icmp .ge 16, 3) := by decide +kernel
theorem dX9_rounds_15 : decode cX9_rounds 15 = .ok (.aload_n 0, 1) := by decide +kernel
theorem dX9_rounds_16 : decode cX9_rounds 16 = .ok (.getfield 62, 3) := by decide +kernel
theorem dX9_rounds_19 : decode cX9_rounds 19 = .ok (.iload_n 3, 1) := by decide +kernel
theorem dX9_rounds_20 : decode cX9_rounds 20 = .ok (.iconst 0, 1) := by decide +kernel
theorem dX9_rounds_21 : decode cX9_rounds 21 = .ok (.iastore, 1) := by decide +kernel
theorem dX9_rounds_22 : decode cX9_rounds 22 = .ok (.iinc 3 1, 3) := by decide +kernel
theorem dX9_rounds_25 : decode cX9_rounds 25 = .ok (.goto (-17), 3) := by decide +kernel
theorem dX9_rounds_28 : decode cX9_rounds 28 = .ok (.aload_n 0, 1) := by decide +kernel
theorem dX9_rounds_29 : decode cX9_rounds 29 = .ok (.iconst 0, 1) := by decide +kernel
theorem dX9_rounds_30 : decode cX9_rounds 30 = .ok (.putfield 272, 3) := by decide +kernel
theorem dX9_rounds_33 : decode cX9_rounds 33 = .ok (.iconst 0, 1) := by decide +kernel
theorem dX9_rounds_34 : decode cX9_rounds 34 = .ok (.istore_n 3, 1) := by decide +kernel
theorem dX9_rounds_35 : decode cX9_rounds 35 = .ok (.iconst 0, 1) := by decide +kernel
theorem dX9_rounds_36 : decode cX9_rounds 36 = .ok (.istore 4, 2) := by decide +kernel
theorem dX9_rounds_38 : decode cX9_rounds 38 = .ok (.iload 4, 2) := by decide +kernel
theorem dX9_rounds_40 : decode cX9_rounds 40 = .ok (.aload_n 0, 1) := by decide +kernel
theorem dX9_rounds_41 : decode cX9_rounds 41 = .ok (.getfield 13, 3) := by decide +kernel
theorem dX9_rounds_44 : decode cX9_rounds 44 = .ok (.iconst 1, 1) := by decide +kernel
theorem dX9_rounds_45 : decode cX9_rounds 45 = .ok (.iaload, 1) := by decide +kernel
theorem dX9_rounds_46 : decode cX9_rounds 46 = .ok (.if_icmp .ge 50, 3) := by decide +kernel
theorem dX9_rounds_49 : decode cX9_rounds 49 = .ok (.aload_n 0, 1) := by decide +kernel
theorem dX9_rounds_50 : decode cX9_rounds 50 = .ok (.iload_n 1, 1) := by decide +kernel
theorem dX9_rounds_51 : decode cX9_rounds 51 = .ok (.invokevirtual 275, 3) := by decide +kernel
theorem dX9_rounds_54 : decode cX9_rounds 54 = .ok (.iload 4, 2) := by decide +kernel
theorem dX9_rounds_56 : decode cX9_rounds 56 = .ok (.invokestatic 84, 3) := by decide +kernel
theorem dX9_rounds_59 : decode cX9_rounds 59 = .ok (.ifCond .eq 31, 3) := by decide +kernel
theorem dX9_rounds_62 : decode cX9_rounds 62 = .ok (.aload_n 0, 1) := by decide +kernel
theorem dX9_rounds_63 : decode cX9_rounds 63 = .ok (.aload_n 0, 1) := by decide +kernel
theorem dX9_rounds_64 : decode cX9_rounds 64 = .ok (.getfield 13, 3) := by decide +kernel
theorem dX9_rounds_67 : decode cX9_rounds 67 = .ok (.bipush 22, 2) := by decide +kernel
theorem dX9_rounds_69 : decode cX9_rounds 69 = .ok (.iload 4, 2) := by decide +kernel
theorem dX9_rounds_71 : decode cX9_rounds 71 = .ok (.iadd, 1) := by decide +kernel
theorem dX9_rounds_72 : decode cX9_rounds 72 = .ok (.iaload, 1) := by decide +kernel
theorem dX9_rounds_73 : decode cX9_rounds 73 = .ok (.aload_n 0, 1) := by decide +kernel
theorem dX9_rounds_74 : decode cX9_rounds 74 = .ok (.getfield 13, 3) := by decide +kernel
theorem dX9_rounds_77 : decode cX9_rounds 77 = .ok (.bipush 36, 2) := by decide +kernel
theorem dX9_rounds_79 : decode cX9_rounds 79 = .ok (.iload 4, 2) := by decide +kernel
theorem dX9_rounds_81 : decode cX9_rounds 81 = .ok (.iadd, 1) := by decide +kernel
theorem dX9_rounds_82 : decode cX9_rounds 82 = .ok (.iaload, 1) := by decide +kernel
theorem dX9_rounds_83 : decode cX9_rounds 83 = .ok (.iconst 0, 1) := by decide +kernel
theorem dX9_rounds_84 : decode cX9_rounds 84 = .ok (.invokevirtual 269, 3) := by decide +kernel
theorem dX9_rounds_87 : decode cX9_rounds 87 = .ok (.iinc 3 1, 3) := by decide +kernel
theorem dX9_rounds_90 : decode cX9_rounds 90 = .ok (.iinc 4 1, 3) := by decide +kernel
theorem dX9_rounds_93 : decode cX9_rounds 93 = .ok (.goto (-55), 3) := by decide +kernel
theorem dX9_rounds_96 : decode cX9_rounds 96 = .ok (.iconst 0, 1) := by decide +kernel
theorem dX9_rounds_97 : decode cX9_rounds 97 = .ok (.istore 4, 2) := by decide +kernel
theorem dX9_rounds_99 : decode cX9_rounds 99 = .ok (.iload 4, 2) := by decide +kernel
theorem dX9_rounds_101 : decode cX9_rounds 101 = .ok (.bipush 9, 2) := by decide +kernel
theorem dX9_rounds_103 : decode cX9_rounds 103 = .ok (.if_icmp .ge 38, 3) := by decide +kernel
theorem dX9_rounds_106 : decode cX9_rounds 106 = .ok (.aload_n 0, 1) := by decide +kernel
theorem dX9_rounds_107 : decode cX9_rounds 107 = .ok (.getfield 50, 3) := by decide +kernel
theorem dX9_rounds_110 : decode cX9_rounds 110 = .ok (.iload 4, 2) := by decide +kernel
theorem dX9_rounds_112 : decode cX9_rounds 112 = .ok (.iaload, 1) := by decide +kernel
theorem dX9_rounds_113 : decode cX9_rounds 113 = .ok (.iload 4, 2) := by decide +kernel
theorem dX9_rounds_115 : decode cX9_rounds 115 = .ok (.if_icmp .le 20, 3) := by decide +kernel
theorem dX9_rounds_118 : decode cX9_rounds 118 = .ok (.aload_n 0, 1) := by decide +kernel
theorem dX9_rounds_119 : decode cX9_rounds 119 = .ok (.iload 4, 2) := by decide +kernel
theorem dX9_rounds_121 : decode cX9_rounds 121 = .ok (.aload_n 0, 1) := by decide +kernel
theorem dX9_rounds_122 : decode cX9_rounds 122 = .ok (.getfield 50, 3) := by decide +kernel
theorem dX9_rounds_125 : decode cX9_rounds 125 = .ok (.iload 4, 2) := by decide +kernel
theorem dX9_rounds_127 : decode cX9_rounds 127 = .ok (.iaload, 1) := by decide +kernel
theorem dX9_rounds_128 : decode cX9_rounds 128 = .ok (.iconst 1, 1) := by decide +kernel
theorem dX9_rounds_129 : decode cX9_rounds 129 = .ok (.invokevirtual 269, 3) := by decide +kernel
theorem dX9_rounds_132 : decode cX9_rounds 132 = .ok (.iinc 3 1, 3) := by decide +kernel
theorem dX9_rounds_135 : decode cX9_rounds 135 = .ok (.iinc 4 1, 3) := by decide +kernel
theorem dX9_rounds_138 : decode cX9_rounds 138 = .ok (.goto (-39), 3) := by decide +kernel
theorem dX9_rounds_141 : decode cX9_rounds 141 = .ok (.aload_n 0, 1) := by decide +kernel
theorem dX9_rounds_142 : decode cX9_rounds 142 = .ok (.iload_n 1, 1) := by decide +kernel
theorem dX9_rounds_143 : decode cX9_rounds 143 = .ok (.invokevirtual 240, 3) := by decide +kernel
theorem dX9_rounds_146 : decode cX9_rounds 146 = .ok (.istore 4, 2) := by decide +kernel
theorem dX9_rounds_148 : decode cX9_rounds 148 = .ok (.aload_n 0, 1) := by decide +kernel
theorem dX9_rounds_149 : decode cX9_rounds 149 = .ok (.getfield 272, 3) := by decide +kernel
theorem dX9_rounds_152 : decode cX9_rounds 152 = .ok (.iload_n 3, 1) := by decide +kernel
theorem dX9_rounds_153 : decode cX9_rounds 153 = .ok (.if_icmp .ge 97, 3) := by decide +kernel
theorem dX9_rounds_156 : decode cX9_rounds 156 = .ok (.iconst 0, 1) := by decide +kernel
theorem dX9_rounds_157 : decode cX9_rounds 157 = .ok (.istore 5, 2) := by decide +kernel
theorem dX9_rounds_159 : decode cX9_rounds 159 = .ok (.aload_n 0, 1) := by decide +kernel
theorem dX9_rounds_160 : decode cX9_rounds 160 = .ok (.iload 4, 2) := by decide +kernel
theorem dX9_rounds_162 : decode cX9_rounds 162 = .ok (.iload 5, 2) := by decide +kernel
theorem dX9_rounds_164 : decode cX9_rounds 164 = .ok (.iconst 0, 1) := by decide +kernel
theorem dX9_rounds_165 : decode cX9_rounds 165 = .ok (.invokevirtual 278, 3) := by decide +kernel
theorem dX9_rounds_168 : decode cX9_rounds 168 = .ok (.istore 6, 2) := by decide +kernel
theorem dX9_rounds_170 : decode cX9_rounds 170 = .ok (.iload 6, 2) := by decide +kernel
theorem dX9_rounds_172 : decode cX9_rounds 172 = .ok (.ifCond .ne 39, 3) := by decide +kernel
theorem dX9_rounds_175 : decode cX9_rounds 175 = .ok (.aload_n 0, 1) := by decide +kernel
theorem dX9_rounds_176 : decode cX9_rounds 176 = .ok (.getfield 272, 3) := by decide +kernel
theorem dX9_rounds_179 : decode cX9_rounds 179 = .ok (.ifCond .eq 15, 3) := by decide +kernel
theorem dX9_rounds_182 : decode cX9_rounds 182 = .ok (.aload_n 0, 1) := by decide +kernel
theorem dX9_rounds_183 : decode cX9_rounds 183 = .ok (.iload 4, 2) := by decide +kernel
theorem dX9_rounds_185 : decode cX9_rounds 185 = .ok (.iload 5, 2) := by decide +kernel
theorem dX9_rounds_187 : decode cX9_rounds 187 = .ok (.iconst 1, 1) := by decide +kernel
theorem dX9_rounds_188 : decode cX9_rounds 188 = .ok (.invokevirtual 278, 3) := by decide +kernel
theorem dX9_rounds_191 : decode cX9_rounds 191 = .ok (.ifCond .ne 20, 3) := by decide +kernel
theorem dX9_rounds_194 : decode cX9_rounds 194 = .ok (.iinc 5 1, 3) := by decide +kernel
theorem dX9_rounds_197 : decode cX9_rounds 197 = .ok (.aload_n 0, 1) := by decide +kernel
theorem dX9_rounds_198 : decode cX9_rounds 198 = .ok (.iload 4, 2) := by decide +kernel
theorem dX9_rounds_200 : decode cX9_rounds 200 = .ok (.iload 5, 2) := by decide +kernel
theorem dX9_rounds_202 : decode cX9_rounds 202 = .ok (.iconst 0, 1) := by decide +kernel
theorem dX9_rounds_203 : decode cX9_rounds 203 = .ok (.invokevirtual 278, 3) := by decide +kernel
theorem dX9_rounds_206 : decode cX9_rounds 206 = .ok (.istore 6, 2) := by decide +kernel
theorem dX9_rounds_208 : decode cX9_rounds 208 = .ok (.goto (-38), 3) := by decide +kernel
theorem dX9_rounds_211 : decode cX9_rounds 211 = .ok (.aload_n 0, 1) := by decide +kernel
theorem dX9_rounds_212 : decode cX9_rounds 212 = .ok (.getfield 56, 3) := by decide +kernel
theorem dX9_rounds_215 : decode cX9_rounds 215 = .ok (.aload_n 0, 1) := by decide +kernel
theorem dX9_rounds_216 : decode cX9_rounds 216 = .ok (.getfield 272, 3) := by decide +kernel
theorem dX9_rounds_219 : decode cX9_rounds 219 = .ok (.iload 5, 2) := by decide +kernel
theorem dX9_rounds_221 : decode cX9_rounds 221 = .ok (.iastore, 1) := by decide +kernel
theorem dX9_rounds_222 : decode cX9_rounds 222 = .ok (.aload_n 0, 1) := by decide +kernel
theorem dX9_rounds_223 : decode cX9_rounds 223 = .ok (.getfield 59, 3) := by decide +kernel
theorem dX9_rounds_226 : decode cX9_rounds 226 = .ok (.aload_n 0, 1) := by decide +kernel
theorem dX9_rounds_227 : decode cX9_rounds 227 = .ok (.getfield 272, 3) := by decide +kernel
theorem dX9_rounds_230 : decode cX9_rounds 230 = .ok (.iload 6, 2) := by decide +kernel
theorem dX9_rounds_232 : decode cX9_rounds 232 = .ok (.bastore, 1) := by decide +kernel
theorem dX9_rounds_233 : decode cX9_rounds 233 = .ok (.aload_n 0, 1) := by decide +kernel
theorem dX9_rounds_234 : decode cX9_rounds 234 = .ok (.dup, 1) := by decide +kernel
theorem dX9_rounds_235 : decode cX9_rounds 235 = .ok (.getfield 272, 3) := by decide +kernel
theorem dX9_rounds_238 : decode cX9_rounds 238 = .ok (.iconst 1, 1) := by decide +kernel
theorem dX9_rounds_239 : decode cX9_rounds 239 = .ok (.iadd, 1) := by decide +kernel
theorem dX9_rounds_240 : decode cX9_rounds 240 = .ok (.putfield 272, 3) := by decide +kernel
theorem dX9_rounds_243 : decode cX9_rounds 243 = .ok (.iload 5, 2) := by decide +kernel
theorem dX9_rounds_245 : decode cX9_rounds 245 = .ok (.istore 4, 2) := by decide +kernel
theorem dX9_rounds_247 : decode cX9_rounds 247 = .ok (.goto (-99), 3) := by decide +kernel
theorem dX9_rounds_250 : decode cX9_rounds 250 = .ok (.iload_n 2, 1) := by decide +kernel
theorem dX9_rounds_251 : decode cX9_rounds 251 = .ok (.ireturn, 1) := by decide +kernel
theorem dX9_aheadOf_0 : decode cX9_aheadOf 0 = .ok (.iconst 0, 1) := by decide +kernel
theorem dX9_aheadOf_1 : decode cX9_aheadOf 1 = .ok (.istore_n 2, 1) := by decide +kernel
theorem dX9_aheadOf_2 : decode cX9_aheadOf 2 = .ok (.iconst 0, 1) := by decide +kernel
theorem dX9_aheadOf_3 : decode cX9_aheadOf 3 = .ok (.istore_n 3, 1) := by decide +kernel
theorem dX9_aheadOf_4 : decode cX9_aheadOf 4 = .ok (.iload_n 3, 1) := by decide +kernel
theorem dX9_aheadOf_5 : decode cX9_aheadOf 5 = .ok (.aload_n 0, 1) := by decide +kernel
theorem dX9_aheadOf_6 : decode cX9_aheadOf 6 = .ok (.getfield 13, 3) := by decide +kernel
theorem dX9_aheadOf_9 : decode cX9_aheadOf 9 = .ok (.iconst 2, 1) := by decide +kernel
theorem dX9_aheadOf_10 : decode cX9_aheadOf 10 = .ok (.iaload, 1) := by decide +kernel
theorem dX9_aheadOf_11 : decode cX9_aheadOf 11 = .ok (.if_icmp .ge 108, 3) := by decide +kernel
theorem dX9_aheadOf_14 : decode cX9_aheadOf 14 = .ok (.iconst 0, 1) := by decide +kernel
theorem dX9_aheadOf_15 : decode cX9_aheadOf 15 = .ok (.istore 4, 2) := by decide +kernel
theorem dX9_aheadOf_17 : decode cX9_aheadOf 17 = .ok (.iload 4, 2) := by decide +kernel
theorem dX9_aheadOf_19 : decode cX9_aheadOf 19 = .ok (.aload_n 0, 1) := by decide +kernel
theorem dX9_aheadOf_20 : decode cX9_aheadOf 20 = .ok (.getfield 13, 3) := by decide +kernel
theorem dX9_aheadOf_23 : decode cX9_aheadOf 23 = .ok (.iconst 2, 1) := by decide +kernel
theorem dX9_aheadOf_24 : decode cX9_aheadOf 24 = .ok (.iaload, 1) := by decide +kernel
theorem dX9_aheadOf_25 : decode cX9_aheadOf 25 = .ok (.if_icmp .ge 88, 3) := by decide +kernel
theorem dX9_aheadOf_28 : decode cX9_aheadOf 28 = .ok (.aload_n 0, 1) := by decide +kernel
theorem dX9_aheadOf_29 : decode cX9_aheadOf 29 = .ok (.getfield 41, 3) := by decide +kernel
theorem dX9_aheadOf_32 : decode cX9_aheadOf 32 = .ok (.iload 4, 2) := by decide +kernel
theorem dX9_aheadOf_34 : decode cX9_aheadOf 34 = .ok (.iaload, 1) := by decide +kernel
theorem dX9_aheadOf_35 : decode cX9_aheadOf 35 = .ok (.iload_n 3, 1) := by decide +kernel
theorem dX9_aheadOf_36 : decode cX9_aheadOf 36 = .ok (.invokestatic 84, 3) := by decide +kernel
theorem dX9_aheadOf_39 : decode cX9_aheadOf 39 = .ok (.ifCond .eq 68, 3) := by decide +kernel
theorem dX9_aheadOf_42 : decode cX9_aheadOf 42 = .ok (.aload_n 0, 1) := by decide +kernel
theorem dX9_aheadOf_43 : decode cX9_aheadOf 43 = .ok (.iload_n 3, 1) := by decide +kernel
theorem dX9_aheadOf_44 : decode cX9_aheadOf 44 = .ok (.invokevirtual 210, 3) := by decide +kernel
theorem dX9_aheadOf_47 : decode cX9_aheadOf 47 = .ok (.aload_n 0, 1) := by decide +kernel
theorem dX9_aheadOf_48 : decode cX9_aheadOf 48 = .ok (.iload_n 1, 1) := by decide +kernel
theorem dX9_aheadOf_49 : decode cX9_aheadOf 49 = .ok (.invokevirtual 275, 3) := by decide +kernel
theorem dX9_aheadOf_52 : decode cX9_aheadOf 52 = .ok (.iand, 1) := by decide +kernel
theorem dX9_aheadOf_53 : decode cX9_aheadOf 53 = .ok (.ifCond .eq 54, 3) := by decide +kernel
theorem dX9_aheadOf_56 : decode cX9_aheadOf 56 = .ok (.iconst 0, 1) := by decide +kernel
theorem dX9_aheadOf_57 : decode cX9_aheadOf 57 = .ok (.istore 5, 2) := by decide +kernel
theorem dX9_aheadOf_59 : decode cX9_aheadOf 59 = .ok (.iload 5, 2) := by decide +kernel
theorem dX9_aheadOf_61 : decode cX9_aheadOf 61 = .ok (.aload_n 0, 1) := by decide +kernel
theorem dX9_aheadOf_62 : decode cX9_aheadOf 62 = .ok (.getfield 198, 3) := by decide +kernel
theorem dX9_aheadOf_65 : decode cX9_aheadOf 65 = .ok (.if_icmp .ge 42, 3) := by decide +kernel
theorem dX9_aheadOf_68 : decode cX9_aheadOf 68 = .ok (.iload_n 2, 1) := by decide +kernel
theorem dX9_aheadOf_69 : decode cX9_aheadOf 69 = .ok (.iload 5, 2) := by decide +kernel
theorem dX9_aheadOf_71 : decode cX9_aheadOf 71 = .ok (.iload_n 1, 1) := by decide +kernel
theorem dX9_aheadOf_72 : decode cX9_aheadOf 72 = .ok (.if_icmp .eq 26, 3) := by decide +kernel
theorem dX9_aheadOf_75 : decode cX9_aheadOf 75 = .ok (.aload_n 0, 1) := by decide +kernel
theorem dX9_aheadOf_76 : decode cX9_aheadOf 76 = .ok (.iload 4, 2) := by decide +kernel
theorem dX9_aheadOf_78 : decode cX9_aheadOf 78 = .ok (.invokevirtual 210, 3) := by decide +kernel
theorem dX9_aheadOf_81 : decode cX9_aheadOf 81 = .ok (.aload_n 0, 1) := by decide +kernel
theorem dX9_aheadOf_82 : decode cX9_aheadOf 82 = .ok (.iload 5, 2) := by decide +kernel
theorem dX9_aheadOf_84 : decode cX9_aheadOf 84 = .ok (.invokevirtual 275, 3) := by decide +kernel
theorem dX9_aheadOf_87 : decode cX9_aheadOf 87 = .ok (.iand, 1) := by decide +kernel
theorem dX9_aheadOf_88 : decode cX9_aheadOf 88 = .ok (.ifCond .eq 10, 3) := by decide +kernel
theorem dX9_aheadOf_91 : decode cX9_aheadOf 91 = .ok (.iconst 1, 1) := by decide +kernel
theorem dX9_aheadOf_92 : decode cX9_aheadOf 92 = .ok (.iload 5, 2) := by decide +kernel
theorem dX9_aheadOf_94 : decode cX9_aheadOf 94 = .ok (.ishl, 1) := by decide +kernel
theorem dX9_aheadOf_95 : decode cX9_aheadOf 95 = .ok (.goto 4, 3) := by decide +kernel
theorem dX9_aheadOf_98 : decode cX9_aheadOf 98 = .ok (.iconst 0, 1) := by decide +kernel
theorem dX9_aheadOf_99 : decode cX9_aheadOf 99 = .ok (.ior, 1) := by decide +kernel
theorem dX9_aheadOf_100 : decode cX9_aheadOf 100 = .ok (.istore_n 2, 1) := by decide +kernel
theorem dX9_aheadOf_101 : decode cX9_aheadOf 101 = .ok (.iinc 5 1, 3) := by decide +kernel
theorem dX9_aheadOf_104 : decode cX9_aheadOf 104 = .ok (.goto (-45), 3) := by decide +kernel
theorem dX9_aheadOf_107 : decode cX9_aheadOf 107 = .ok (.iinc 4 1, 3) := by decide +kernel
theorem dX9_aheadOf_110 : decode cX9_aheadOf 110 = .ok (.goto (-93), 3) := by decide +kernel
theorem dX9_aheadOf_113 : decode cX9_aheadOf 113 = .ok (.iinc 3 1, 3) := by decide +kernel
theorem dX9_aheadOf_116 : decode cX9_aheadOf 116 = .ok (.goto (-112), 3) := by decide +kernel
theorem dX9_aheadOf_119 : decode cX9_aheadOf 119 = .ok (.iload_n 2, 1) := by decide +kernel
theorem dX9_aheadOf_120 : decode cX9_aheadOf 120 = .ok (.ireturn, 1) := by decide +kernel
theorem dX9_tours_0 : decode cX9_tours 0 = .ok (.aload_n 0, 1) := by decide +kernel
theorem dX9_tours_1 : decode cX9_tours 1 = .ok (.invokevirtual 201, 3) := by decide +kernel
theorem dX9_tours_4 : decode cX9_tours 4 = .ok (.iconst 1, 1) := by decide +kernel
theorem dX9_tours_5 : decode cX9_tours 5 = .ok (.istore_n 1, 1) := by decide +kernel
theorem dX9_tours_6 : decode cX9_tours 6 = .ok (.iconst 0, 1) := by decide +kernel
theorem dX9_tours_7 : decode cX9_tours 7 = .ok (.istore_n 2, 1) := by decide +kernel
theorem dX9_tours_8 : decode cX9_tours 8 = .ok (.iload_n 2, 1) := by decide +kernel
theorem dX9_tours_9 : decode cX9_tours 9 = .ok (.aload_n 0, 1) := by decide +kernel
theorem dX9_tours_10 : decode cX9_tours 10 = .ok (.getfield 198, 3) := by decide +kernel
theorem dX9_tours_13 : decode cX9_tours 13 = .ok (.if_icmp .ge 16, 3) := by decide +kernel
theorem dX9_tours_16 : decode cX9_tours 16 = .ok (.iload_n 1, 1) := by decide +kernel
theorem dX9_tours_17 : decode cX9_tours 17 = .ok (.aload_n 0, 1) := by decide +kernel
theorem dX9_tours_18 : decode cX9_tours 18 = .ok (.getfield 198, 3) := by decide +kernel
theorem dX9_tours_21 : decode cX9_tours 21 = .ok (.imul, 1) := by decide +kernel
theorem dX9_tours_22 : decode cX9_tours 22 = .ok (.istore_n 1, 1) := by decide +kernel
theorem dX9_tours_23 : decode cX9_tours 23 = .ok (.iinc 2 1, 3) := by decide +kernel
theorem dX9_tours_26 : decode cX9_tours 26 = .ok (.goto (-18), 3) := by decide +kernel
theorem dX9_tours_29 : decode cX9_tours 29 = .ok (.aload_n 0, 1) := by decide +kernel
theorem dX9_tours_30 : decode cX9_tours 30 = .ok (.ldc 246, 2) := by decide +kernel
theorem dX9_tours_32 : decode cX9_tours 32 = .ok (.putfield 281, 3) := by decide +kernel
theorem dX9_tours_35 : decode cX9_tours 35 = .ok (.iconst 0, 1) := by decide +kernel
theorem dX9_tours_36 : decode cX9_tours 36 = .ok (.istore_n 2, 1) := by decide +kernel
theorem dX9_tours_37 : decode cX9_tours 37 = .ok (.iload_n 2, 1) := by decide +kernel
theorem dX9_tours_38 : decode cX9_tours 38 = .ok (.iload_n 1, 1) := by decide +kernel
theorem dX9_tours_39 : decode cX9_tours 39 = .ok (.if_icmp .ge 200, 3) := by decide +kernel
theorem dX9_tours_42 : decode cX9_tours 42 = .ok (.iload_n 2, 1) := by decide +kernel
theorem dX9_tours_43 : decode cX9_tours 43 = .ok (.istore_n 3, 1) := by decide +kernel
theorem dX9_tours_44 : decode cX9_tours 44 = .ok (.iload_n 1, 1) := by decide +kernel
theorem dX9_tours_45 : decode cX9_tours 45 = .ok (.istore 4, 2) := by decide +kernel
theorem dX9_tours_47 : decode cX9_tours 47 = .ok (.iconst 0, 1) := by decide +kernel
theorem dX9_tours_48 : decode cX9_tours 48 = .ok (.istore 5, 2) := by decide +kernel
theorem dX9_tours_50 : decode cX9_tours 50 = .ok (.aload_n 0, 1) := by decide +kernel
theorem dX9_tours_51 : decode cX9_tours 51 = .ok (.getfield 19, 3) := by decide +kernel
theorem dX9_tours_54 : decode cX9_tours 54 = .ok (.iconst 1, 1) := by decide +kernel
theorem dX9_tours_55 : decode cX9_tours 55 = .ok (.iaload, 1) := by decide +kernel
theorem dX9_tours_56 : decode cX9_tours 56 = .ok (.istore 6, 2) := by decide +kernel
theorem dX9_tours_58 : decode cX9_tours 58 = .ok (.iconst 0, 1) := by decide +kernel
theorem dX9_tours_59 : decode cX9_tours 59 = .ok (.istore 7, 2) := by decide +kernel
theorem dX9_tours_61 : decode cX9_tours 61 = .ok (.iconst 1, 1) := by decide +kernel
theorem dX9_tours_62 : decode cX9_tours 62 = .ok (.istore 8, 2) := by decide +kernel
theorem dX9_tours_64 : decode cX9_tours 64 = .ok (.iconst 0, 1) := by decide +kernel
theorem dX9_tours_65 : decode cX9_tours 65 = .ok (.istore 9, 2) := by decide +kernel
theorem dX9_tours_67 : decode cX9_tours 67 = .ok (.iload 9, 2) := by decide +kernel
theorem dX9_tours_69 : decode cX9_tours 69 = .ok (.aload_n 0, 1) := by decide +kernel
theorem dX9_tours_70 : decode cX9_tours 70 = .ok (.getfield 198, 3) := by decide +kernel
theorem dX9_tours_73 : decode cX9_tours 73 = .ok (.if_icmp .ge 108, 3) := by decide +kernel
theorem dX9_tours_76 : decode cX9_tours 76 = .ok (.iload 4, 2) := by decide +kernel
theorem dX9_tours_78 : decode cX9_tours 78 = .ok (.aload_n 0, 1) := by decide +kernel
theorem dX9_tours_79 : decode cX9_tours 79 = .ok (.getfield 198, 3) := by decide +kernel
theorem dX9_tours_82 : decode cX9_tours 82 = .ok (.idiv, 1) := by decide +kernel
theorem dX9_tours_83 : decode cX9_tours 83 = .ok (.istore 4, 2) := by decide +kernel
theorem dX9_tours_85 : decode cX9_tours 85 = .ok (.iload_n 3, 1) := by decide +kernel
theorem dX9_tours_86 : decode cX9_tours 86 = .ok (.iload 4, 2) := by decide +kernel
theorem dX9_tours_88 : decode cX9_tours 88 = .ok (.idiv, 1) := by decide +kernel
theorem dX9_tours_89 : decode cX9_tours 89 = .ok (.istore 10, 2) := by decide +kernel
theorem dX9_tours_91 : decode cX9_tours 91 = .ok (.iload_n 3, 1) := by decide +kernel
theorem dX9_tours_92 : decode cX9_tours 92 = .ok (.iload 4, 2) := by decide +kernel
theorem dX9_tours_94 : decode cX9_tours 94 = .ok (.irem, 1) := by decide +kernel
theorem dX9_tours_95 : decode cX9_tours 95 = .ok (.istore_n 3, 1) := by decide +kernel
theorem dX9_tours_96 : decode cX9_tours 96 = .ok (.iload 8, 2) := by decide +kernel
theorem dX9_tours_98 : decode cX9_tours 98 = .ok (.ifCond .eq 31, 3) := by decide +kernel
theorem dX9_tours_101 : decode cX9_tours 101 = .ok (.iload 5, 2) := by decide +kernel
theorem dX9_tours_103 : decode cX9_tours 103 = .ok (.iload 10, 2) := by decide +kernel
theorem dX9_tours_105 : decode cX9_tours 105 = .ok (.invokestatic 84, 3) := by decide +kernel
theorem dX9_tours_108 : decode cX9_tours 108 = .ok (.ifCond .ne 21, 3) := by decide +kernel
theorem dX9_tours_111 : decode cX9_tours 111 = .ok (.aload_n 0, 1) := by decide +kernel
theorem dX9_tours_112 : decode cX9_tours 112 = .ok (.iload 10, 2) := by decide +kernel
theorem dX9_tours_114 : decode cX9_tours 114 = .ok (.invokevirtual 284, 3) := by decide +kernel
theorem dX9_tours_117 : decode cX9_tours 117 = .ok (.iload 5, 2) := by decide +kernel
theorem dX9_tours_119 : decode cX9_tours 119 = .ok (.iconst (-1), 1) := by decide +kernel
theorem dX9_tours_120 : decode cX9_tours 120 = .ok (.ixor, 1) := by decide +kernel
theorem dX9_tours_121 : decode cX9_tours 121 = .ok (.iand, 1) := by decide +kernel
theorem dX9_tours_122 : decode cX9_tours 122 = .ok (.ifCond .ne 7, 3) := by decide +kernel
theorem dX9_tours_125 : decode cX9_tours 125 = .ok (.iconst 1, 1) := by decide +kernel
theorem dX9_tours_126 : decode cX9_tours 126 = .ok (.goto 4, 3) := by decide +kernel
theorem dX9_tours_129 : decode cX9_tours 129 = .ok (.iconst 0, 1) := by decide +kernel
theorem dX9_tours_130 : decode cX9_tours 130 = .ok (.istore 8, 2) := by decide +kernel
theorem dX9_tours_132 : decode cX9_tours 132 = .ok (.iload 5, 2) := by decide +kernel
theorem dX9_tours_134 : decode cX9_tours 134 = .ok (.iconst 1, 1) := by decide +kernel
theorem dX9_tours_135 : decode cX9_tours 135 = .ok (.iload 10, 2) := by decide +kernel
theorem dX9_tours_137 : decode cX9_tours 137 = .ok (.ishl, 1) := by decide +kernel
theorem dX9_tours_138 : decode cX9_tours 138 = .ok (.ior, 1) := by decide +kernel
theorem dX9_tours_139 : decode cX9_tours 139 = .ok (.istore 5, 2) := by decide +kernel
theorem dX9_tours_141 : decode cX9_tours 141 = .ok (.aload_n 0, 1) := by decide +kernel
theorem dX9_tours_142 : decode cX9_tours 142 = .ok (.getfield 65, 3) := by decide +kernel
theorem dX9_tours_145 : decode cX9_tours 145 = .ok (.iload 9, 2) := by decide +kernel
theorem dX9_tours_147 : decode cX9_tours 147 = .ok (.iload 10, 2) := by decide +kernel
theorem dX9_tours_149 : decode cX9_tours 149 = .ok (.iastore, 1) := by decide +kernel
theorem dX9_tours_150 : decode cX9_tours 150 = .ok (.iload 7, 2) := by decide +kernel
theorem dX9_tours_152 : decode cX9_tours 152 = .ok (.aload_n 0, 1) := by decide +kernel
theorem dX9_tours_153 : decode cX9_tours 153 = .ok (.iload 6, 2) := by decide +kernel
theorem dX9_tours_155 : decode cX9_tours 155 = .ok (.aload_n 0, 1) := by decide +kernel
theorem dX9_tours_156 : decode cX9_tours 156 = .ok (.iload 10, 2) := by decide +kernel
theorem dX9_tours_158 : decode cX9_tours 158 = .ok (.invokevirtual 240, 3) := by decide +kernel
theorem dX9_tours_161 : decode cX9_tours 161 = .ok (.invokevirtual 204, 3) := by decide +kernel
theorem dX9_tours_164 : decode cX9_tours 164 = .ok (.iadd, 1) := by decide +kernel
theorem dX9_tours_165 : decode cX9_tours 165 = .ok (.istore 7, 2) := by decide +kernel
theorem dX9_tours_167 : decode cX9_tours 167 = .ok (.aload_n 0, 1) := by decide +kernel
theorem dX9_tours_168 : decode cX9_tours 168 = .ok (.iload 10, 2) := by decide +kernel
theorem dX9_tours_170 : decode cX9_tours 170 = .ok (.invokevirtual 240, 3) := by decide +kernel
theorem dX9_tours_173 : decode cX9_tours 173 = .ok (.istore 6, 2) := by decide +kernel
theorem dX9_tours_175 : decode cX9_tours 175 = .ok (.iinc 9 1, 3) := by decide +kernel
theorem dX9_tours_178 : decode cX9_tours 178 = .ok (.goto (-111), 3) := by decide +kernel
theorem dX9_tours_181 : decode cX9_tours 181 = .ok (.iload 8, 2) := by decide +kernel
theorem dX9_tours_183 : decode cX9_tours 183 = .ok (.ifCond .eq 50, 3) := by decide +kernel
theorem dX9_tours_186 : decode cX9_tours 186 = .ok (.iload 7, 2) := by decide +kernel
theorem dX9_tours_188 : decode cX9_tours 188 = .ok (.aload_n 0, 1) := by decide +kernel
theorem dX9_tours_189 : decode cX9_tours 189 = .ok (.getfield 281, 3) := by decide +kernel
theorem dX9_tours_192 : decode cX9_tours 192 = .ok (.if_icmp .ge 41, 3) := by decide +kernel
theorem dX9_tours_195 : decode cX9_tours 195 = .ok (.aload_n 0, 1) := by decide +kernel
theorem dX9_tours_196 : decode cX9_tours 196 = .ok (.iload 7, 2) := by decide +kernel
theorem dX9_tours_198 : decode cX9_tours 198 = .ok (.putfield 281, 3) := by decide +kernel
theorem dX9_tours_201 : decode cX9_tours 201 = .ok (.iconst 0, 1) := by decide +kernel
theorem dX9_tours_202 : decode cX9_tours 202 = .ok (.istore 9, 2) := by decide +kernel
theorem dX9_tours_204 : decode cX9_tours 204 = .ok (.iload 9, 2) := by decide +kernel
theorem dX9_tours_206 : decode cX9_tours 206 = .ok (.aload_n 0, 1) := by decide +kernel
theorem dX9_tours_207 : decode cX9_tours 207 = .ok (.getfield 198, 3) := by decide +kernel
theorem dX9_tours_210 : decode cX9_tours 210 = .ok (.if_icmp .ge 23, 3) := by decide +kernel
theorem dX9_tours_213 : decode cX9_tours 213 = .ok (.aload_n 0, 1) := by decide +kernel
theorem dX9_tours_214 : decode cX9_tours 214 = .ok (.getfield 68, 3) := by decide +kernel
theorem dX9_tours_217 : decode cX9_tours 217 = .ok (.iload 9, 2) := by decide +kernel
theorem dX9_tours_219 : decode cX9_tours 219 = .ok (.aload_n 0, 1) := by decide +kernel
theorem dX9_tours_220 : decode cX9_tours 220 = .ok (.getfield 65, 3) := by decide +kernel
theorem dX9_tours_223 : decode cX9_tours 223 = .ok (.iload 9, 2) := by decide +kernel
theorem dX9_tours_225 : decode cX9_tours 225 = .ok (.iaload, 1) := by decide +kernel
theorem dX9_tours_226 : decode cX9_tours 226 = .ok (.iastore, 1) := by decide +kernel
theorem dX9_tours_227 : decode cX9_tours 227 = .ok (.iinc 9 1, 3) := by decide +kernel
theorem dX9_tours_230 : decode cX9_tours 230 = .ok (.goto (-26), 3) := by decide +kernel
theorem dX9_tours_233 : decode cX9_tours 233 = .ok (.iinc 2 1, 3) := by decide +kernel
theorem dX9_tours_236 : decode cX9_tours 236 = .ok (.goto (-199), 3) := by decide +kernel
theorem dX9_tours_239 : decode cX9_tours 239 = .ok (.aload_n 0, 1) := by decide +kernel
theorem dX9_tours_240 : decode cX9_tours 240 = .ok (.getfield 281, 3) := by decide +kernel
theorem dX9_tours_243 : decode cX9_tours 243 = .ok (.ldc 246, 2) := by decide +kernel
theorem dX9_tours_245 : decode cX9_tours 245 = .ok (.if_icmp .ge 7, 3) := by decide +kernel
theorem dX9_tours_248 : decode cX9_tours 248 = .ok (.iconst 1, 1) := by decide +kernel
theorem dX9_tours_249 : decode cX9_tours 249 = .ok (.goto 4, 3) := by decide +kernel
theorem dX9_tours_252 : decode cX9_tours 252 = .ok (.iconst 0, 1) := by decide +kernel
theorem dX9_tours_253 : decode cX9_tours 253 = .ok (.ireturn, 1) := by decide +kernel
theorem dX9_piece_0 : decode cX9_piece 0 = .ok (.aload_n 0, 1) := by decide +kernel
theorem dX9_piece_1 : decode cX9_piece 1 = .ok (.iconst 0, 1) := by decide +kernel
theorem dX9_piece_2 : decode cX9_piece 2 = .ok (.putfield 80, 3) := by decide +kernel
theorem dX9_piece_5 : decode cX9_piece 5 = .ok (.aload_n 0, 1) := by decide +kernel
theorem dX9_piece_6 : decode cX9_piece 6 = .ok (.invokevirtual 201, 3) := by decide +kernel
theorem dX9_piece_9 : decode cX9_piece 9 = .ok (.iload_n 1, 1) := by decide +kernel
theorem dX9_piece_10 : decode cX9_piece 10 = .ok (.iconst 0, 1) := by decide +kernel
theorem dX9_piece_11 : decode cX9_piece 11 = .ok (.aload_n 0, 1) := by decide +kernel
theorem dX9_piece_12 : decode cX9_piece 12 = .ok (.getfield 198, 3) := by decide +kernel
theorem dX9_piece_15 : decode cX9_piece 15 = .ok (.iconst 1, 1) := by decide +kernel
theorem dX9_piece_16 : decode cX9_piece 16 = .ok (.isub, 1) := by decide +kernel
theorem dX9_piece_17 : decode cX9_piece 17 = .ok (.invokestatic 88, 3) := by decide +kernel
theorem dX9_piece_20 : decode cX9_piece 20 = .ok (.ifCond .eq 12, 3) := by decide +kernel
theorem dX9_piece_23 : decode cX9_piece 23 = .ok (.iload_n 2, 1) := by decide +kernel
theorem dX9_piece_24 : decode cX9_piece 24 = .ok (.iconst 0, 1) := by decide +kernel
theorem dX9_piece_25 : decode cX9_piece 25 = .ok (.iconst 4, 1) := by decide +kernel
theorem dX9_piece_26 : decode cX9_piece 26 = .ok (.invokestatic 88, 3) := by decide +kernel
theorem dX9_piece_29 : decode cX9_piece 29 = .ok (.ifCond .ne 5, 3) := by decide +kernel
theorem dX9_piece_32 : decode cX9_piece 32 = .ok (.iconst (-1), 1) := by decide +kernel
theorem dX9_piece_33 : decode cX9_piece 33 = .ok (.ireturn, 1) := by decide +kernel
theorem dX9_piece_34 : decode cX9_piece 34 = .ok (.iload_n 2, 1) := by decide +kernel
theorem dX9_piece_35 : decode cX9_piece 35 = .ok (.iconst 2, 1) := by decide +kernel
theorem dX9_piece_36 : decode cX9_piece 36 = .ok (.if_icmp .ge 21, 3) := by decide +kernel
theorem dX9_piece_39 : decode cX9_piece 39 = .ok (.iload_n 2, 1) := by decide +kernel
theorem dX9_piece_40 : decode cX9_piece 40 = .ok (.ifCond .ne 11, 3) := by decide +kernel
theorem dX9_piece_43 : decode cX9_piece 43 = .ok (.aload_n 0, 1) := by decide +kernel
theorem dX9_piece_44 : decode cX9_piece 44 = .ok (.iload_n 1, 1) := by decide +kernel
theorem dX9_piece_45 : decode cX9_piece 45 = .ok (.invokevirtual 275, 3) := by decide +kernel
theorem dX9_piece_48 : decode cX9_piece 48 = .ok (.goto 8, 3) := by decide +kernel
theorem dX9_piece_51 : decode cX9_piece 51 = .ok (.aload_n 0, 1) := by decide +kernel
theorem dX9_piece_52 : decode cX9_piece 52 = .ok (.iload_n 1, 1) := by decide +kernel
theorem dX9_piece_53 : decode cX9_piece 53 = .ok (.invokevirtual 250, 3) := by decide +kernel
theorem dX9_piece_56 : decode cX9_piece 56 = .ok (.ireturn, 1) := by decide +kernel
theorem dX9_piece_57 : decode cX9_piece 57 = .ok (.iload_n 2, 1) := by decide +kernel
theorem dX9_piece_58 : decode cX9_piece 58 = .ok (.iconst 2, 1) := by decide +kernel
theorem dX9_piece_59 : decode cX9_piece 59 = .ok (.if_icmp .ne 11, 3) := by decide +kernel
theorem dX9_piece_62 : decode cX9_piece 62 = .ok (.aload_n 0, 1) := by decide +kernel
theorem dX9_piece_63 : decode cX9_piece 63 = .ok (.iload_n 1, 1) := by decide +kernel
theorem dX9_piece_64 : decode cX9_piece 64 = .ok (.invokevirtual 256, 3) := by decide +kernel
theorem dX9_piece_67 : decode cX9_piece 67 = .ok (.goto 35, 3) := by decide +kernel
theorem dX9_piece_70 : decode cX9_piece 70 = .ok (.iload_n 2, 1) := by decide +kernel
theorem dX9_piece_71 : decode cX9_piece 71 = .ok (.iconst 3, 1) := by decide +kernel
theorem dX9_piece_72 : decode cX9_piece 72 = .ok (.if_icmp .ne 25, 3) := by decide +kernel
theorem dX9_piece_75 : decode cX9_piece 75 = .ok (.aload_n 0, 1) := by decide +kernel
theorem dX9_piece_76 : decode cX9_piece 76 = .ok (.iload_n 1, 1) := by decide +kernel
theorem dX9_piece_77 : decode cX9_piece 77 = .ok (.invokevirtual 275, 3) := by decide +kernel
theorem dX9_piece_80 : decode cX9_piece 80 = .ok (.invokestatic 213, 3) := by decide +kernel
theorem dX9_piece_83 : decode cX9_piece 83 = .ok (.aload_n 0, 1) := by decide +kernel
theorem dX9_piece_84 : decode cX9_piece 84 = .ok (.iload_n 1, 1) := by decide +kernel
theorem dX9_piece_85 : decode cX9_piece 85 = .ok (.invokevirtual 250, 3) := by decide +kernel
theorem dX9_piece_88 : decode cX9_piece 88 = .ok (.invokestatic 213, 3) := by decide +kernel
theorem dX9_piece_91 : decode cX9_piece 91 = .ok (.iconst 2, 1) := by decide +kernel
theorem dX9_piece_92 : decode cX9_piece 92 = .ok (.idiv, 1) := by decide +kernel
theorem dX9_piece_93 : decode cX9_piece 93 = .ok (.iadd, 1) := by decide +kernel
theorem dX9_piece_94 : decode cX9_piece 94 = .ok (.goto 8, 3) := by decide +kernel
theorem dX9_piece_97 : decode cX9_piece 97 = .ok (.aload_n 0, 1) := by decide +kernel
theorem dX9_piece_98 : decode cX9_piece 98 = .ok (.iload_n 1, 1) := by decide +kernel
theorem dX9_piece_99 : decode cX9_piece 99 = .ok (.invokevirtual 284, 3) := by decide +kernel
theorem dX9_piece_102 : decode cX9_piece 102 = .ok (.ireturn, 1) := by decide +kernel
theorem dX9_round_0 : decode cX9_round 0 = .ok (.aload_n 0, 1) := by decide +kernel
theorem dX9_round_1 : decode cX9_round 1 = .ok (.iconst 0, 1) := by decide +kernel
theorem dX9_round_2 : decode cX9_round 2 = .ok (.putfield 80, 3) := by decide +kernel
theorem dX9_round_5 : decode cX9_round 5 = .ok (.aload_n 0, 1) := by decide +kernel
theorem dX9_round_6 : decode cX9_round 6 = .ok (.invokevirtual 201, 3) := by decide +kernel
theorem dX9_round_9 : decode cX9_round 9 = .ok (.iload_n 1, 1) := by decide +kernel
theorem dX9_round_10 : decode cX9_round 10 = .ok (.iconst 0, 1) := by decide +kernel
theorem dX9_round_11 : decode cX9_round 11 = .ok (.aload_n 0, 1) := by decide +kernel
theorem dX9_round_12 : decode cX9_round 12 = .ok (.getfield 198, 3) := by decide +kernel
theorem dX9_round_15 : decode cX9_round 15 = .ok (.iconst 1, 1) := by decide +kernel
theorem dX9_round_16 : decode cX9_round 16 = .ok (.isub, 1) := by decide +kernel
theorem dX9_round_17 : decode cX9_round 17 = .ok (.invokestatic 88, 3) := by decide +kernel
theorem dX9_round_20 : decode cX9_round 20 = .ok (.ifCond .eq 16, 3) := by decide +kernel
theorem dX9_round_23 : decode cX9_round 23 = .ok (.iload_n 2, 1) := by decide +kernel
theorem dX9_round_24 : decode cX9_round 24 = .ok (.ifCond .lt 12, 3) := by decide +kernel
theorem dX9_round_27 : decode cX9_round 27 = .ok (.iload_n 3, 1) := by decide +kernel
theorem dX9_round_28 : decode cX9_round 28 = .ok (.iconst 0, 1) := by decide +kernel
theorem dX9_round_29 : decode cX9_round 29 = .ok (.iconst 1, 1) := by decide +kernel
theorem dX9_round_30 : decode cX9_round 30 = .ok (.invokestatic 88, 3) := by decide +kernel
theorem dX9_round_33 : decode cX9_round 33 = .ok (.ifCond .ne 5, 3) := by decide +kernel
theorem dX9_round_36 : decode cX9_round 36 = .ok (.iconst (-1), 1) := by decide +kernel
theorem dX9_round_37 : decode cX9_round 37 = .ok (.ireturn, 1) := by decide +kernel
theorem dX9_round_38 : decode cX9_round 38 = .ok (.aload_n 0, 1) := by decide +kernel
theorem dX9_round_39 : decode cX9_round 39 = .ok (.iload_n 1, 1) := by decide +kernel
theorem dX9_round_40 : decode cX9_round 40 = .ok (.invokevirtual 243, 3) := by decide +kernel
theorem dX9_round_43 : decode cX9_round 43 = .ok (.pop, 1) := by decide +kernel
theorem dX9_round_44 : decode cX9_round 44 = .ok (.iload_n 2, 1) := by decide +kernel
theorem dX9_round_45 : decode cX9_round 45 = .ok (.aload_n 0, 1) := by decide +kernel
theorem dX9_round_46 : decode cX9_round 46 = .ok (.getfield 272, 3) := by decide +kernel
theorem dX9_round_49 : decode cX9_round 49 = .ok (.if_icmp .lt 6, 3) := by decide +kernel
theorem dX9_round_52 : decode cX9_round 52 = .ok (.bipush (-9), 2) := by decide +kernel
theorem dX9_round_54 : decode cX9_round 54 = .ok (.ireturn, 1) := by decide +kernel
theorem dX9_round_55 : decode cX9_round 55 = .ok (.iload_n 3, 1) := by decide +kernel
theorem dX9_round_56 : decode cX9_round 56 = .ok (.ifCond .ne 12, 3) := by decide +kernel
theorem dX9_round_59 : decode cX9_round 59 = .ok (.aload_n 0, 1) := by decide +kernel
theorem dX9_round_60 : decode cX9_round 60 = .ok (.getfield 56, 3) := by decide +kernel
theorem dX9_round_63 : decode cX9_round 63 = .ok (.iload_n 2, 1) := by decide +kernel
theorem dX9_round_64 : decode cX9_round 64 = .ok (.iaload, 1) := by decide +kernel
theorem dX9_round_65 : decode cX9_round 65 = .ok (.goto 17, 3) := by decide +kernel
theorem dX9_round_68 : decode cX9_round 68 = .ok (.aload_n 0, 1) := by decide +kernel
theorem dX9_round_69 : decode cX9_round 69 = .ok (.getfield 59, 3) := by decide +kernel
theorem dX9_round_72 : decode cX9_round 72 = .ok (.iload_n 2, 1) := by decide +kernel
theorem dX9_round_73 : decode cX9_round 73 = .ok (.baload, 1) := by decide +kernel
theorem dX9_round_74 : decode cX9_round 74 = .ok (.ifCond .eq 7, 3) := by decide +kernel
theorem dX9_round_77 : decode cX9_round 77 = .ok (.iconst 1, 1) := by decide +kernel
theorem dX9_round_78 : decode cX9_round 78 = .ok (.goto 4, 3) := by decide +kernel
theorem dX9_round_81 : decode cX9_round 81 = .ok (.iconst 0, 1) := by decide +kernel
theorem dX9_round_82 : decode cX9_round 82 = .ok (.ireturn, 1) := by decide +kernel
theorem dX9_tour_0 : decode cX9_tour 0 = .ok (.aload_n 0, 1) := by decide +kernel
theorem dX9_tour_1 : decode cX9_tour 1 = .ok (.iconst 0, 1) := by decide +kernel
theorem dX9_tour_2 : decode cX9_tour 2 = .ok (.putfield 80, 3) := by decide +kernel
theorem dX9_tour_5 : decode cX9_tour 5 = .ok (.iload_n 1, 1) := by decide +kernel
theorem dX9_tour_6 : decode cX9_tour 6 = .ok (.iconst (-1), 1) := by decide +kernel
theorem dX9_tour_7 : decode cX9_tour 7 = .ok (.if_icmp .ge 5, 3) := by decide +kernel
theorem dX9_tour_10 : decode cX9_tour 10 = .ok (.iconst (-1), 1) := by decide +kernel
theorem dX9_tour_11 : decode cX9_tour 11 = .ok (.ireturn, 1) := by decide +kernel
theorem dX9_tour_12 : decode cX9_tour 12 = .ok (.aload_n 0, 1) := by decide +kernel
theorem dX9_tour_13 : decode cX9_tour 13 = .ok (.getfield 13, 3) := by decide +kernel
theorem dX9_tour_16 : decode cX9_tour 16 = .ok (.iconst 0, 1) := by decide +kernel
theorem dX9_tour_17 : decode cX9_tour 17 = .ok (.iaload, 1) := by decide +kernel
theorem dX9_tour_18 : decode cX9_tour 18 = .ok (.ifCond .ne 14, 3) := by decide +kernel
theorem dX9_tour_21 : decode cX9_tour 21 = .ok (.iload_n 1, 1) := by decide +kernel
theorem dX9_tour_22 : decode cX9_tour 22 = .ok (.ifCond .ge 7, 3) := by decide +kernel
theorem dX9_tour_25 : decode cX9_tour 25 = .ok (.iconst 0, 1) := by decide +kernel
theorem dX9_tour_26 : decode cX9_tour 26 = .ok (.goto 5, 3) := by decide +kernel
theorem dX9_tour_29 : decode cX9_tour 29 = .ok (.bipush (-9), 2) := by decide +kernel
theorem dX9_tour_31 : decode cX9_tour 31 = .ok (.ireturn, 1) := by decide +kernel
theorem dX9_tour_32 : decode cX9_tour 32 = .ok (.aload_n 0, 1) := by decide +kernel
theorem dX9_tour_33 : decode cX9_tour 33 = .ok (.invokevirtual 237, 3) := by decide +kernel
theorem dX9_tour_36 : decode cX9_tour 36 = .ok (.ifCond .ne 6, 3) := by decide +kernel
theorem dX9_tour_39 : decode cX9_tour 39 = .ok (.bipush (-9), 2) := by decide +kernel
theorem dX9_tour_41 : decode cX9_tour 41 = .ok (.ireturn, 1) := by decide +kernel
theorem dX9_tour_42 : decode cX9_tour 42 = .ok (.aload_n 0, 1) := by decide +kernel
theorem dX9_tour_43 : decode cX9_tour 43 = .ok (.getfield 281, 3) := by decide +kernel
theorem dX9_tour_46 : decode cX9_tour 46 = .ok (.istore_n 2, 1) := by decide +kernel
theorem dX9_tour_47 : decode cX9_tour 47 = .ok (.iconst 0, 1) := by decide +kernel
theorem dX9_tour_48 : decode cX9_tour 48 = .ok (.istore_n 3, 1) := by decide +kernel
theorem dX9_tour_49 : decode cX9_tour 49 = .ok (.iload_n 3, 1) := by decide +kernel
theorem dX9_tour_50 : decode cX9_tour 50 = .ok (.aload_n 0, 1) := by decide +kernel
theorem dX9_tour_51 : decode cX9_tour 51 = .ok (.getfield 198, 3) := by decide +kernel
theorem dX9_tour_54 : decode cX9_tour 54 = .ok (.if_icmp .ge 17, 3) := by decide +kernel
theorem dX9_tour_57 : decode cX9_tour 57 = .ok (.iload_n 2, 1) := by decide +kernel
theorem dX9_tour_58 : decode cX9_tour 58 = .ok (.aload_n 0, 1) := by decide +kernel
theorem dX9_tour_59 : decode cX9_tour 59 = .ok (.iload_n 3, 1) := by decide +kernel
theorem dX9_tour_60 : decode cX9_tour 60 = .ok (.invokevirtual 256, 3) := by decide +kernel
theorem dX9_tour_63 : decode cX9_tour 63 = .ok (.iadd, 1) := by decide +kernel
theorem dX9_tour_64 : decode cX9_tour 64 = .ok (.istore_n 2, 1) := by decide +kernel
theorem dX9_tour_65 : decode cX9_tour 65 = .ok (.iinc 3 1, 3) := by decide +kernel
theorem dX9_tour_68 : decode cX9_tour 68 = .ok (.goto (-19), 3) := by decide +kernel
theorem dX9_tour_71 : decode cX9_tour 71 = .ok (.iload_n 1, 1) := by decide +kernel
theorem dX9_tour_72 : decode cX9_tour 72 = .ok (.ifCond .ge 7, 3) := by decide +kernel
theorem dX9_tour_75 : decode cX9_tour 75 = .ok (.iload_n 2, 1) := by decide +kernel
theorem dX9_tour_76 : decode cX9_tour 76 = .ok (.goto 22, 3) := by decide +kernel
theorem dX9_tour_79 : decode cX9_tour 79 = .ok (.iload_n 1, 1) := by decide +kernel
theorem dX9_tour_80 : decode cX9_tour 80 = .ok (.aload_n 0, 1) := by decide +kernel
theorem dX9_tour_81 : decode cX9_tour 81 = .ok (.getfield 198, 3) := by decide +kernel
theorem dX9_tour_84 : decode cX9_tour 84 = .ok (.if_icmp .ge 12, 3) := by decide +kernel
theorem dX9_tour_87 : decode cX9_tour 87 = .ok (.aload_n 0, 1) := by decide +kernel
theorem dX9_tour_88 : decode cX9_tour 88 = .ok (.getfield 68, 3) := by decide +kernel
theorem dX9_tour_91 : decode cX9_tour 91 = .ok (.iload_n 1, 1) := by decide +kernel
theorem dX9_tour_92 : decode cX9_tour 92 = .ok (.iaload, 1) := by decide +kernel
theorem dX9_tour_93 : decode cX9_tour 93 = .ok (.goto 5, 3) := by decide +kernel
theorem dX9_tour_96 : decode cX9_tour 96 = .ok (.bipush (-9), 2) := by decide +kernel
theorem dX9_tour_98 : decode cX9_tour 98 = .ok (.ireturn, 1) := by decide +kernel
theorem dX9_sees_0 : decode cX9_sees 0 = .ok (.aload_n 0, 1) := by decide +kernel
theorem dX9_sees_1 : decode cX9_sees 1 = .ok (.iconst 0, 1) := by decide +kernel
theorem dX9_sees_2 : decode cX9_sees 2 = .ok (.putfield 80, 3) := by decide +kernel
theorem dX9_sees_5 : decode cX9_sees 5 = .ok (.aload_n 0, 1) := by decide +kernel
theorem dX9_sees_6 : decode cX9_sees 6 = .ok (.iload_n 1, 1) := by decide +kernel
theorem dX9_sees_7 : decode cX9_sees 7 = .ok (.invokevirtual 188, 3) := by decide +kernel
theorem dX9_sees_10 : decode cX9_sees 10 = .ok (.ifCond .eq 20, 3) := by decide +kernel
theorem dX9_sees_13 : decode cX9_sees 13 = .ok (.aload_n 0, 1) := by decide +kernel
theorem dX9_sees_14 : decode cX9_sees 14 = .ok (.iload_n 2, 1) := by decide +kernel
theorem dX9_sees_15 : decode cX9_sees 15 = .ok (.invokevirtual 188, 3) := by decide +kernel
theorem dX9_sees_18 : decode cX9_sees 18 = .ok (.ifCond .eq 12, 3) := by decide +kernel
theorem dX9_sees_21 : decode cX9_sees 21 = .ok (.iload_n 3, 1) := by decide +kernel
theorem dX9_sees_22 : decode cX9_sees 22 = .ok (.iconst 0, 1) := by decide +kernel
theorem dX9_sees_23 : decode cX9_sees 23 = .ok (.iconst 1, 1) := by decide +kernel
theorem dX9_sees_24 : decode cX9_sees 24 = .ok (.invokestatic 88, 3) := by decide +kernel
theorem dX9_sees_27 : decode cX9_sees 27 = .ok (.ifCond .ne 5, 3) := by decide +kernel
theorem dX9_sees_30 : decode cX9_sees 30 = .ok (.iconst (-1), 1) := by decide +kernel
theorem dX9_sees_31 : decode cX9_sees 31 = .ok (.ireturn, 1) := by decide +kernel
theorem dX9_sees_32 : decode cX9_sees 32 = .ok (.aload_n 0, 1) := by decide +kernel
theorem dX9_sees_33 : decode cX9_sees 33 = .ok (.getfield 171, 3) := by decide +kernel
theorem dX9_sees_36 : decode cX9_sees 36 = .ok (.bipush 6, 2) := by decide +kernel
theorem dX9_sees_38 : decode cX9_sees 38 = .ok (.if_icmp .ne 6, 3) := by decide +kernel
theorem dX9_sees_41 : decode cX9_sees 41 = .ok (.bipush (-3), 2) := by decide +kernel
theorem dX9_sees_43 : decode cX9_sees 43 = .ok (.ireturn, 1) := by decide +kernel
theorem dX9_sees_44 : decode cX9_sees 44 = .ok (.aload_n 0, 1) := by decide +kernel
theorem dX9_sees_45 : decode cX9_sees 45 = .ok (.getfield 32, 3) := by decide +kernel
theorem dX9_sees_48 : decode cX9_sees 48 = .ok (.aload_n 0, 1) := by decide +kernel
theorem dX9_sees_49 : decode cX9_sees 49 = .ok (.getfield 171, 3) := by decide +kernel
theorem dX9_sees_52 : decode cX9_sees 52 = .ok (.iload_n 1, 1) := by decide +kernel
theorem dX9_sees_53 : decode cX9_sees 53 = .ok (.iastore, 1) := by decide +kernel
theorem dX9_sees_54 : decode cX9_sees 54 = .ok (.aload_n 0, 1) := by decide +kernel
theorem dX9_sees_55 : decode cX9_sees 55 = .ok (.getfield 35, 3) := by decide +kernel
theorem dX9_sees_58 : decode cX9_sees 58 = .ok (.aload_n 0, 1) := by decide +kernel
theorem dX9_sees_59 : decode cX9_sees 59 = .ok (.getfield 171, 3) := by decide +kernel
theorem dX9_sees_62 : decode cX9_sees 62 = .ok (.iload_n 2, 1) := by decide +kernel
theorem dX9_sees_63 : decode cX9_sees 63 = .ok (.iastore, 1) := by decide +kernel
theorem dX9_sees_64 : decode cX9_sees 64 = .ok (.aload_n 0, 1) := by decide +kernel
theorem dX9_sees_65 : decode cX9_sees 65 = .ok (.getfield 38, 3) := by decide +kernel
theorem dX9_sees_68 : decode cX9_sees 68 = .ok (.aload_n 0, 1) := by decide +kernel
theorem dX9_sees_69 : decode cX9_sees 69 = .ok (.getfield 171, 3) := by decide +kernel
theorem dX9_sees_72 : decode cX9_sees 72 = .ok (.iload_n 3, 1) := by decide +kernel
theorem dX9_sees_73 : decode cX9_sees 73 = .ok (.iastore, 1) := by decide +kernel
theorem dX9_sees_74 : decode cX9_sees 74 = .ok (.aload_n 0, 1) := by decide +kernel
theorem dX9_sees_75 : decode cX9_sees 75 = .ok (.dup, 1) := by decide +kernel
theorem dX9_sees_76 : decode cX9_sees 76 = .ok (.getfield 171, 3) := by decide +kernel
theorem dX9_sees_79 : decode cX9_sees 79 = .ok (.iconst 1, 1) := by decide +kernel
theorem dX9_sees_80 : decode cX9_sees 80 = .ok (.iadd, 1) := by decide +kernel
theorem dX9_sees_81 : decode cX9_sees 81 = .ok (.putfield 171, 3) := by decide +kernel
theorem dX9_sees_84 : decode cX9_sees 84 = .ok (.aload_n 0, 1) := by decide +kernel
theorem dX9_sees_85 : decode cX9_sees 85 = .ok (.getfield 171, 3) := by decide +kernel
theorem dX9_sees_88 : decode cX9_sees 88 = .ok (.ireturn, 1) := by decide +kernel
theorem dX9_forget_0 : decode cX9_forget 0 = .ok (.aload_n 0, 1) := by decide +kernel
theorem dX9_forget_1 : decode cX9_forget 1 = .ok (.iconst 0, 1) := by decide +kernel
theorem dX9_forget_2 : decode cX9_forget 2 = .ok (.putfield 80, 3) := by decide +kernel
theorem dX9_forget_5 : decode cX9_forget 5 = .ok (.aload_n 0, 1) := by decide +kernel
theorem dX9_forget_6 : decode cX9_forget 6 = .ok (.getfield 171, 3) := by decide +kernel
theorem dX9_forget_9 : decode cX9_forget 9 = .ok (.istore_n 1, 1) := by decide +kernel
theorem dX9_forget_10 : decode cX9_forget 10 = .ok (.aload_n 0, 1) := by decide +kernel
theorem dX9_forget_11 : decode cX9_forget 11 = .ok (.iconst 0, 1) := by decide +kernel
theorem dX9_forget_12 : decode cX9_forget 12 = .ok (.putfield 171, 3) := by decide +kernel
theorem dX9_forget_15 : decode cX9_forget 15 = .ok (.iload_n 1, 1) := by decide +kernel
theorem dX9_forget_16 : decode cX9_forget 16 = .ok (.ireturn, 1) := by decide +kernel
theorem dX9_unseenSet_0 : decode cX9_unseenSet 0 = .ok (.iconst 0, 1) := by decide +kernel
theorem dX9_unseenSet_1 : decode cX9_unseenSet 1 = .ok (.istore_n 1, 1) := by decide +kernel
theorem dX9_unseenSet_2 : decode cX9_unseenSet 2 = .ok (.iconst 0, 1) := by decide +kernel
theorem dX9_unseenSet_3 : decode cX9_unseenSet 3 = .ok (.istore_n 2, 1) := by decide +kernel
theorem dX9_unseenSet_4 : decode cX9_unseenSet 4 = .ok (.iload_n 2, 1) := by decide +kernel
theorem dX9_unseenSet_5 : decode cX9_unseenSet 5 = .ok (.aload_n 0, 1) := by decide +kernel
theorem dX9_unseenSet_6 : decode cX9_unseenSet 6 = .ok (.getfield 13, 3) := by decide +kernel
theorem dX9_unseenSet_9 : decode cX9_unseenSet 9 = .ok (.iconst 1, 1) := by decide +kernel
theorem dX9_unseenSet_10 : decode cX9_unseenSet 10 = .ok (.iaload, 1) := by decide +kernel
theorem dX9_unseenSet_11 : decode cX9_unseenSet 11 = .ok (.if_icmp .ge 133, 3) := by decide +kernel
theorem dX9_unseenSet_14 : decode cX9_unseenSet 14 = .ok (.aload_n 0, 1) := by decide +kernel
theorem dX9_unseenSet_15 : decode cX9_unseenSet 15 = .ok (.getfield 19, 3) := by decide +kernel
theorem dX9_unseenSet_18 : decode cX9_unseenSet 18 = .ok (.iconst 0, 1) := by decide +kernel
theorem dX9_unseenSet_19 : decode cX9_unseenSet 19 = .ok (.iaload, 1) := by decide +kernel
theorem dX9_unseenSet_20 : decode cX9_unseenSet 20 = .ok (.iload_n 2, 1) := by decide +kernel
theorem dX9_unseenSet_21 : decode cX9_unseenSet 21 = .ok (.invokestatic 84, 3) := by decide +kernel
theorem dX9_unseenSet_24 : decode cX9_unseenSet 24 = .ok (.ifCond .eq 114, 3) := by decide +kernel
theorem dX9_unseenSet_27 : decode cX9_unseenSet 27 = .ok (.aload_n 0, 1) := by decide +kernel
theorem dX9_unseenSet_28 : decode cX9_unseenSet 28 = .ok (.aload_n 0, 1) := by decide +kernel
theorem dX9_unseenSet_29 : decode cX9_unseenSet 29 = .ok (.getfield 19, 3) := by decide +kernel
theorem dX9_unseenSet_32 : decode cX9_unseenSet 32 = .ok (.iconst 0, 1) := by decide +kernel
theorem dX9_unseenSet_33 : decode cX9_unseenSet 33 = .ok (.iaload, 1) := by decide +kernel
theorem dX9_unseenSet_34 : decode cX9_unseenSet 34 = .ok (.iconst 1, 1) := by decide +kernel
theorem dX9_unseenSet_35 : decode cX9_unseenSet 35 = .ok (.iload_n 2, 1) := by decide +kernel
theorem dX9_unseenSet_36 : decode cX9_unseenSet 36 = .ok (.ishl, 1) := by decide +kernel
theorem dX9_unseenSet_37 : decode cX9_unseenSet 37 = .ok (.iconst (-1), 1) := by decide +kernel
theorem dX9_unseenSet_38 : decode cX9_unseenSet 38 = .ok (.ixor, 1) := by decide +kernel
theorem dX9_unseenSet_39 : decode cX9_unseenSet 39 = .ok (.iand, 1) := by decide +kernel
theorem dX9_unseenSet_40 : decode cX9_unseenSet 40 = .ok (.invokevirtual 195, 3) := by decide +kernel
theorem dX9_unseenSet_43 : decode cX9_unseenSet 43 = .ok (.iconst 1, 1) := by decide +kernel
theorem dX9_unseenSet_44 : decode cX9_unseenSet 44 = .ok (.istore_n 3, 1) := by decide +kernel
theorem dX9_unseenSet_45 : decode cX9_unseenSet 45 = .ok (.iconst 0, 1) := by decide +kernel
theorem dX9_unseenSet_46 : decode cX9_unseenSet 46 = .ok (.istore 4, 2) := by decide +kernel
theorem dX9_unseenSet_48 : decode cX9_unseenSet 48 = .ok (.iload 4, 2) := by decide +kernel
theorem dX9_unseenSet_50 : decode cX9_unseenSet 50 = .ok (.aload_n 0, 1) := by decide +kernel
theorem dX9_unseenSet_51 : decode cX9_unseenSet 51 = .ok (.getfield 171, 3) := by decide +kernel
theorem dX9_unseenSet_54 : decode cX9_unseenSet 54 = .ok (.if_icmp .ge 70, 3) := by decide +kernel
theorem dX9_unseenSet_57 : decode cX9_unseenSet 57 = .ok (.iload_n 3, 1) := by decide +kernel
theorem dX9_unseenSet_58 : decode cX9_unseenSet 58 = .ok (.ifCond .eq 58, 3) := by decide +kernel
theorem dX9_unseenSet_61 : decode cX9_unseenSet 61 = .ok (.aload_n 0, 1) := by decide +kernel
theorem dX9_unseenSet_62 : decode cX9_unseenSet 62 = .ok (.getfield 44, 3) := by decide +kernel
theorem dX9_unseenSet_65 : decode cX9_unseenSet 65 = .ok (.aload_n 0, 1) := by decide +kernel
theorem dX9_unseenSet_66 : decode cX9_unseenSet 66 = .ok (.getfield 32, 3) := by decide +kernel
theorem dX9_unseenSet_69 : decode cX9_unseenSet 69 = .ok (.iload 4, 2) := by decide +kernel
theorem dX9_unseenSet_71 : decode cX9_unseenSet 71 = .ok (.iaload, 1) := by decide +kernel
theorem dX9_unseenSet_72 : decode cX9_unseenSet 72 = .ok (.iaload, 1) := by decide +kernel
theorem dX9_unseenSet_73 : decode cX9_unseenSet 73 = .ok (.aload_n 0, 1) := by decide +kernel
theorem dX9_unseenSet_74 : decode cX9_unseenSet 74 = .ok (.getfield 44, 3) := by decide +kernel
theorem dX9_unseenSet_77 : decode cX9_unseenSet 77 = .ok (.aload_n 0, 1) := by decide +kernel
theorem dX9_unseenSet_78 : decode cX9_unseenSet 78 = .ok (.getfield 35, 3) := by decide +kernel
theorem dX9_unseenSet_81 : decode cX9_unseenSet 81 = .ok (.iload 4, 2) := by decide +kernel
theorem dX9_unseenSet_83 : decode cX9_unseenSet 83 = .ok (.iaload, 1) := by decide +kernel
theorem dX9_unseenSet_84 : decode cX9_unseenSet 84 = .ok (.iaload, 1) := by decide +kernel
theorem dX9_unseenSet_85 : decode cX9_unseenSet 85 = .ok (.if_icmp .ne 7, 3) := by decide +kernel
theorem dX9_unseenSet_88 : decode cX9_unseenSet 88 = .ok (.iconst 1, 1) := by decide +kernel
theorem dX9_unseenSet_89 : decode cX9_unseenSet 89 = .ok (.goto 4, 3) := by decide +kernel
theorem dX9_unseenSet_92 : decode cX9_unseenSet 92 = .ok (.iconst 0, 1) := by decide +kernel
theorem dX9_unseenSet_93 : decode cX9_unseenSet 93 = .ok (.aload_n 0, 1) := by decide +kernel
theorem dX9_unseenSet_94 : decode cX9_unseenSet 94 = .ok (.getfield 38, 3) := by decide +kernel
theorem dX9_unseenSet_97 : decode cX9_unseenSet 97 = .ok (.iload 4, 2) := by decide +kernel
theorem dX9_unseenSet_99 : decode cX9_unseenSet 99 = .ok (.iaload, 1) := by decide +kernel
theorem dX9_unseenSet_100 : decode cX9_unseenSet 100 = .ok (.iconst 1, 1) := by decide +kernel
theorem dX9_unseenSet_101 : decode cX9_unseenSet 101 = .ok (.if_icmp .ne 7, 3) := by decide +kernel
theorem dX9_unseenSet_104 : decode cX9_unseenSet 104 = .ok (.iconst 1, 1) := by decide +kernel
theorem dX9_unseenSet_105 : decode cX9_unseenSet 105 = .ok (.goto 4, 3) := by decide +kernel
theorem dX9_unseenSet_108 : decode cX9_unseenSet 108 = .ok (.iconst 0, 1) := by decide +kernel
theorem dX9_unseenSet_109 : decode cX9_unseenSet 109 = .ok (.if_icmp .ne 7, 3) := by decide +kernel
theorem dX9_unseenSet_112 : decode cX9_unseenSet 112 = .ok (.iconst 1, 1) := by decide +kernel
theorem dX9_unseenSet_113 : decode cX9_unseenSet 113 = .ok (.goto 4, 3) := by decide +kernel
theorem dX9_unseenSet_116 : decode cX9_unseenSet 116 = .ok (.iconst 0, 1) := by decide +kernel
theorem dX9_unseenSet_117 : decode cX9_unseenSet 117 = .ok (.istore_n 3, 1) := by decide +kernel
theorem dX9_unseenSet_118 : decode cX9_unseenSet 118 = .ok (.iinc 4 1, 3) := by decide +kernel
theorem dX9_unseenSet_121 : decode cX9_unseenSet 121 = .ok (.goto (-73), 3) := by decide +kernel
theorem dX9_unseenSet_124 : decode cX9_unseenSet 124 = .ok (.iload_n 1, 1) := by decide +kernel
theorem dX9_unseenSet_125 : decode cX9_unseenSet 125 = .ok (.iload_n 3, 1) := by decide +kernel
theorem dX9_unseenSet_126 : decode cX9_unseenSet 126 = .ok (.ifCond .eq 9, 3) := by decide +kernel
theorem dX9_unseenSet_129 : decode cX9_unseenSet 129 = .ok (.iconst 1, 1) := by decide +kernel
theorem dX9_unseenSet_130 : decode cX9_unseenSet 130 = .ok (.iload_n 2, 1) := by decide +kernel
theorem dX9_unseenSet_131 : decode cX9_unseenSet 131 = .ok (.ishl, 1) := by decide +kernel
theorem dX9_unseenSet_132 : decode cX9_unseenSet 132 = .ok (.goto 4, 3) := by decide +kernel
theorem dX9_unseenSet_135 : decode cX9_unseenSet 135 = .ok (.iconst 0, 1) := by decide +kernel
theorem dX9_unseenSet_136 : decode cX9_unseenSet 136 = .ok (.ior, 1) := by decide +kernel
theorem dX9_unseenSet_137 : decode cX9_unseenSet 137 = .ok (.istore_n 1, 1) := by decide +kernel
theorem dX9_unseenSet_138 : decode cX9_unseenSet 138 = .ok (.iinc 2 1, 3) := by decide +kernel
theorem dX9_unseenSet_141 : decode cX9_unseenSet 141 = .ok (.goto (-137), 3) := by decide +kernel
theorem dX9_unseenSet_144 : decode cX9_unseenSet 144 = .ok (.iload_n 1, 1) := by decide +kernel
theorem dX9_unseenSet_145 : decode cX9_unseenSet 145 = .ok (.ireturn, 1) := by decide +kernel
theorem dX9_unseen_0 : decode cX9_unseen 0 = .ok (.aload_n 0, 1) := by decide +kernel
theorem dX9_unseen_1 : decode cX9_unseen 1 = .ok (.iconst 0, 1) := by decide +kernel
theorem dX9_unseen_2 : decode cX9_unseen 2 = .ok (.putfield 80, 3) := by decide +kernel
theorem dX9_unseen_5 : decode cX9_unseen 5 = .ok (.aload_n 0, 1) := by decide +kernel
theorem dX9_unseen_6 : decode cX9_unseen 6 = .ok (.invokevirtual 287, 3) := by decide +kernel
theorem dX9_unseen_9 : decode cX9_unseen 9 = .ok (.ireturn, 1) := by decide +kernel
theorem dX9_ask_0 : decode cX9_ask 0 = .ok (.aload_n 0, 1) := by decide +kernel
theorem dX9_ask_1 : decode cX9_ask 1 = .ok (.iconst 0, 1) := by decide +kernel
theorem dX9_ask_2 : decode cX9_ask 2 = .ok (.putfield 80, 3) := by decide +kernel
theorem dX9_ask_5 : decode cX9_ask 5 = .ok (.aload_n 0, 1) := by decide +kernel
theorem dX9_ask_6 : decode cX9_ask 6 = .ok (.invokevirtual 287, 3) := by decide +kernel
theorem dX9_ask_9 : decode cX9_ask 9 = .ok (.istore_n 1, 1) := by decide +kernel
theorem dX9_ask_10 : decode cX9_ask 10 = .ok (.iload_n 1, 1) := by decide +kernel
theorem dX9_ask_11 : decode cX9_ask 11 = .ok (.invokestatic 213, 3) := by decide +kernel
theorem dX9_ask_14 : decode cX9_ask 14 = .ok (.istore_n 2, 1) := by decide +kernel
theorem dX9_ask_15 : decode cX9_ask 15 = .ok (.iconst 0, 1) := by decide +kernel
theorem dX9_ask_16 : decode cX9_ask 16 = .ok (.istore_n 3, 1) := by decide +kernel
theorem dX9_ask_17 : decode cX9_ask 17 = .ok (.iload_n 3, 1) := by decide +kernel
theorem dX9_ask_18 : decode cX9_ask 18 = .ok (.bipush 81, 2) := by decide +kernel
theorem dX9_ask_20 : decode cX9_ask 20 = .ok (.if_icmp .ge 16, 3) := by decide +kernel
theorem dX9_ask_23 : decode cX9_ask 23 = .ok (.aload_n 0, 1) := by decide +kernel
theorem dX9_ask_24 : decode cX9_ask 24 = .ok (.getfield 71, 3) := by decide +kernel
theorem dX9_ask_27 : decode cX9_ask 27 = .ok (.iload_n 3, 1) := by decide +kernel
theorem dX9_ask_28 : decode cX9_ask 28 = .ok (.iconst 0, 1) := by decide +kernel
theorem dX9_ask_29 : decode cX9_ask 29 = .ok (.iastore, 1) := by decide +kernel
theorem dX9_ask_30 : decode cX9_ask 30 = .ok (.iinc 3 1, 3) := by decide +kernel
theorem dX9_ask_33 : decode cX9_ask 33 = .ok (.goto (-16), 3) := by decide +kernel
theorem dX9_ask_36 : decode cX9_ask 36 = .ok (.iconst 0, 1) := by decide +kernel
theorem dX9_ask_37 : decode cX9_ask 37 = .ok (.istore_n 3, 1) := by decide +kernel
theorem dX9_ask_38 : decode cX9_ask 38 = .ok (.iload_n 3, 1) := by decide +kernel
theorem dX9_ask_39 : decode cX9_ask 39 = .ok (.aload_n 0, 1) := by decide +kernel
theorem dX9_ask_40 : decode cX9_ask 40 = .ok (.getfield 13, 3) := by decide +kernel
theorem dX9_ask_43 : decode cX9_ask 43 = .ok (.iconst 1, 1) := by decide +kernel
theorem dX9_ask_44 : decode cX9_ask 44 = .ok (.iaload, 1) := by decide +kernel
theorem dX9_ask_45 : decode cX9_ask 45 = .ok (.if_icmp .ge 87, 3) := by decide +kernel
theorem dX9_ask_48 : decode cX9_ask 48 = .ok (.iload_n 1, 1) := by decide +kernel
theorem dX9_ask_49 : decode cX9_ask 49 = .ok (.iload_n 3, 1) := by decide +kernel
theorem dX9_ask_50 : decode cX9_ask 50 = .ok (.invokestatic 84, 3) := by decide +kernel
theorem dX9_ask_53 : decode cX9_ask 53 = .ok (.ifCond .eq 73, 3) := by decide +kernel
theorem dX9_ask_56 : decode cX9_ask 56 = .ok (.aload_n 0, 1) := by decide +kernel
theorem dX9_ask_57 : decode cX9_ask 57 = .ok (.aload_n 0, 1) := by decide +kernel
theorem dX9_ask_58 : decode cX9_ask 58 = .ok (.getfield 19, 3) := by decide +kernel
theorem dX9_ask_61 : decode cX9_ask 61 = .ok (.iconst 0, 1) := by decide +kernel
theorem dX9_ask_62 : decode cX9_ask 62 = .ok (.iaload, 1) := by decide +kernel
theorem dX9_ask_63 : decode cX9_ask 63 = .ok (.iconst 1, 1) := by decide +kernel
theorem dX9_ask_64 : decode cX9_ask 64 = .ok (.iload_n 3, 1) := by decide +kernel
theorem dX9_ask_65 : decode cX9_ask 65 = .ok (.ishl, 1) := by decide +kernel
theorem dX9_ask_66 : decode cX9_ask 66 = .ok (.iconst (-1), 1) := by decide +kernel
theorem dX9_ask_67 : decode cX9_ask 67 = .ok (.ixor, 1) := by decide +kernel
theorem dX9_ask_68 : decode cX9_ask 68 = .ok (.iand, 1) := by decide +kernel
theorem dX9_ask_69 : decode cX9_ask 69 = .ok (.invokevirtual 195, 3) := by decide +kernel
theorem dX9_ask_72 : decode cX9_ask 72 = .ok (.iconst 0, 1) := by decide +kernel
theorem dX9_ask_73 : decode cX9_ask 73 = .ok (.istore 4, 2) := by decide +kernel
theorem dX9_ask_75 : decode cX9_ask 75 = .ok (.iload 4, 2) := by decide +kernel
theorem dX9_ask_77 : decode cX9_ask 77 = .ok (.bipush 81, 2) := by decide +kernel
theorem dX9_ask_79 : decode cX9_ask 79 = .ok (.if_icmp .ge 47, 3) := by decide +kernel
theorem dX9_ask_82 : decode cX9_ask 82 = .ok (.aload_n 0, 1) := by decide +kernel
theorem dX9_ask_83 : decode cX9_ask 83 = .ok (.getfield 71, 3) := by decide +kernel
theorem dX9_ask_86 : decode cX9_ask 86 = .ok (.iload 4, 2) := by decide +kernel
theorem dX9_ask_88 : decode cX9_ask 88 = .ok (.dup2, 1) := by decide +kernel
theorem dX9_ask_89 : decode cX9_ask 89 = .ok (.iaload, 1) := by decide +kernel
theorem dX9_ask_90 : decode cX9_ask 90 = .ok (.aload_n 0, 1) := by decide +kernel
theorem dX9_ask_91 : decode cX9_ask 91 = .ok (.getfield 44, 3) := by decide +kernel
theorem dX9_ask_94 : decode cX9_ask 94 = .ok (.iload 4, 2) := by decide +kernel
theorem dX9_ask_96 : decode cX9_ask 96 = .ok (.bipush 9, 2) := by decide +kernel
theorem dX9_ask_98 : decode cX9_ask 98 = .ok (.idiv, 1) := by decide +kernel
theorem dX9_ask_99 : decode cX9_ask 99 = .ok (.iaload, 1) := by decide +kernel
theorem dX9_ask_100 : decode cX9_ask 100 = .ok (.aload_n 0, 1) := by decide +kernel
theorem dX9_ask_101 : decode cX9_ask 101 = .ok (.getfield 44, 3) := by decide +kernel
theorem dX9_ask_104 : decode cX9_ask 104 = .ok (.iload 4, 2) := by decide +kernel
theorem dX9_ask_106 : decode cX9_ask 106 = .ok (.bipush 9, 2) := by decide +kernel
theorem dX9_ask_108 : decode cX9_ask 108 = .ok (.irem, 1) := by decide +kernel
theorem dX9_ask_109 : decode cX9_ask 109 = .ok (.iaload, 1) := by decide +kernel
theorem dX9_ask_110 : decode cX9_ask 110 = .ok (.if_icmp .ne 7, 3) := by decide +kernel
theorem dX9_ask_113 : decode cX9_ask 113 = .ok (.iconst 1, 1) := by decide +kernel
theorem dX9_ask_114 : decode cX9_ask 114 = .ok (.goto 4, 3) := by decide +kernel
theorem dX9_ask_117 : decode cX9_ask 117 = .ok (.iconst 0, 1) := by decide +kernel
theorem dX9_ask_118 : decode cX9_ask 118 = .ok (.iadd, 1) := by decide +kernel
theorem dX9_ask_119 : decode cX9_ask 119 = .ok (.iastore, 1) := by decide +kernel
theorem dX9_ask_120 : decode cX9_ask 120 = .ok (.iinc 4 1, 3) := by decide +kernel
theorem dX9_ask_123 : decode cX9_ask 123 = .ok (.goto (-48), 3) := by decide +kernel
theorem dX9_ask_126 : decode cX9_ask 126 = .ok (.iinc 3 1, 3) := by decide +kernel
theorem dX9_ask_129 : decode cX9_ask 129 = .ok (.goto (-91), 3) := by decide +kernel
theorem dX9_ask_132 : decode cX9_ask 132 = .ok (.bipush (-9), 2) := by decide +kernel
theorem dX9_ask_134 : decode cX9_ask 134 = .ok (.istore_n 3, 1) := by decide +kernel
theorem dX9_ask_135 : decode cX9_ask 135 = .ok (.bipush 99, 2) := by decide +kernel
theorem dX9_ask_137 : decode cX9_ask 137 = .ok (.istore 4, 2) := by decide +kernel
theorem dX9_ask_139 : decode cX9_ask 139 = .ok (.iconst 0, 1) := by decide +kernel
theorem dX9_ask_140 : decode cX9_ask 140 = .ok (.istore 5, 2) := by decide +kernel
theorem dX9_ask_142 : decode cX9_ask 142 = .ok (.iload 5, 2) := by decide +kernel
theorem dX9_ask_144 : decode cX9_ask 144 = .ok (.aload_n 0, 1) := by decide +kernel
theorem dX9_ask_145 : decode cX9_ask 145 = .ok (.getfield 13, 3) := by decide +kernel
theorem dX9_ask_148 : decode cX9_ask 148 = .ok (.iconst 0, 1) := by decide +kernel
theorem dX9_ask_149 : decode cX9_ask 149 = .ok (.iaload, 1) := by decide +kernel
theorem dX9_ask_150 : decode cX9_ask 150 = .ok (.if_icmp .ge 108, 3) := by decide +kernel
theorem dX9_ask_153 : decode cX9_ask 153 = .ok (.iload_n 2, 1) := by decide +kernel
theorem dX9_ask_154 : decode cX9_ask 154 = .ok (.iconst 1, 1) := by decide +kernel
theorem dX9_ask_155 : decode cX9_ask 155 = .ok (.if_icmp .le 103, 3) := by decide +kernel
theorem dX9_ask_158 : decode cX9_ask 158 = .ok (.iload 5, 2) := by decide +kernel
theorem dX9_ask_160 : decode cX9_ask 160 = .ok (.iconst 1, 1) := by decide +kernel
theorem dX9_ask_161 : decode cX9_ask 161 = .ok (.iadd, 1) := by decide +kernel
theorem dX9_ask_162 : decode cX9_ask 162 = .ok (.istore 6, 2) := by decide +kernel
theorem dX9_ask_164 : decode cX9_ask 164 = .ok (.iload 6, 2) := by decide +kernel
theorem dX9_ask_166 : decode cX9_ask 166 = .ok (.aload_n 0, 1) := by decide +kernel
theorem dX9_ask_167 : decode cX9_ask 167 = .ok (.getfield 13, 3) := by decide +kernel
theorem dX9_ask_170 : decode cX9_ask 170 = .ok (.iconst 0, 1) := by decide +kernel
theorem dX9_ask_171 : decode cX9_ask 171 = .ok (.iaload, 1) := by decide +kernel
theorem dX9_ask_172 : decode cX9_ask 172 = .ok (.if_icmp .ge 80, 3) := by decide +kernel
theorem dX9_ask_175 : decode cX9_ask 175 = .ok (.aload_n 0, 1) := by decide +kernel
theorem dX9_ask_176 : decode cX9_ask 176 = .ok (.getfield 71, 3) := by decide +kernel
theorem dX9_ask_179 : decode cX9_ask 179 = .ok (.bipush 9, 2) := by decide +kernel
theorem dX9_ask_181 : decode cX9_ask 181 = .ok (.iload 5, 2) := by decide +kernel
theorem dX9_ask_183 : decode cX9_ask 183 = .ok (.imul, 1) := by decide +kernel
theorem dX9_ask_184 : decode cX9_ask 184 = .ok (.iload 6, 2) := by decide +kernel
theorem dX9_ask_186 : decode cX9_ask 186 = .ok (.iadd, 1) := by decide +kernel
theorem dX9_ask_187 : decode cX9_ask 187 = .ok (.iaload, 1) := by decide +kernel
theorem dX9_ask_188 : decode cX9_ask 188 = .ok (.istore 7, 2) := by decide +kernel
theorem dX9_ask_190 : decode cX9_ask 190 = .ok (.iload 7, 2) := by decide +kernel
theorem dX9_ask_192 : decode cX9_ask 192 = .ok (.iload_n 2, 1) := by decide +kernel
theorem dX9_ask_193 : decode cX9_ask 193 = .ok (.iload 7, 2) := by decide +kernel
theorem dX9_ask_195 : decode cX9_ask 195 = .ok (.isub, 1) := by decide +kernel
theorem dX9_ask_196 : decode cX9_ask 196 = .ok (.if_icmp .le 8, 3) := by decide +kernel
theorem dX9_ask_199 : decode cX9_ask 199 = .ok (.iload 7, 2) := by decide +kernel
theorem dX9_ask_201 : decode cX9_ask 201 = .ok (.goto 7, 3) := by decide +kernel
theorem dX9_ask_204 : decode cX9_ask 204 = .ok (.iload_n 2, 1) := by decide +kernel
theorem dX9_ask_205 : decode cX9_ask 205 = .ok (.iload 7, 2) := by decide +kernel
theorem dX9_ask_207 : decode cX9_ask 207 = .ok (.isub, 1) := by decide +kernel
theorem dX9_ask_208 : decode cX9_ask 208 = .ok (.istore 8, 2) := by decide +kernel
theorem dX9_ask_210 : decode cX9_ask 210 = .ok (.iload 8, 2) := by decide +kernel
theorem dX9_ask_212 : decode cX9_ask 212 = .ok (.iload 4, 2) := by decide +kernel
theorem dX9_ask_214 : decode cX9_ask 214 = .ok (.if_icmp .ge 14, 3) := by decide +kernel
theorem dX9_ask_217 : decode cX9_ask 217 = .ok (.bipush 16, 2) := by decide +kernel
theorem dX9_ask_219 : decode cX9_ask 219 = .ok (.iload 5, 2) := by decide +kernel
theorem dX9_ask_221 : decode cX9_ask 221 = .ok (.imul, 1) := by decide +kernel
theorem dX9_ask_222 : decode cX9_ask 222 = .ok (.iload 6, 2) := by decide +kernel
theorem dX9_ask_224 : decode cX9_ask 224 = .ok (.iadd, 1) := by decide +kernel
theorem dX9_ask_225 : decode cX9_ask 225 = .ok (.goto 4, 3) := by decide +kernel
theorem dX9_ask_228 : decode cX9_ask 228 = .ok (.iload_n 3, 1) := by decide +kernel
theorem dX9_ask_229 : decode cX9_ask 229 = .ok (.istore_n 3, 1) := by decide +kernel
theorem dX9_ask_230 : decode cX9_ask 230 = .ok (.iload 8, 2) := by decide +kernel
theorem dX9_ask_232 : decode cX9_ask 232 = .ok (.iload 4, 2) := by decide +kernel
theorem dX9_ask_234 : decode cX9_ask 234 = .ok (.if_icmp .ge 8, 3) := by decide +kernel
theorem dX9_ask_237 : decode cX9_ask 237 = .ok (.iload 8, 2) := by decide +kernel
theorem dX9_ask_239 : decode cX9_ask 239 = .ok (.goto 5, 3) := by decide +kernel
theorem dX9_ask_242 : decode cX9_ask 242 = .ok (.iload 4, 2) := by decide +kernel
theorem dX9_ask_244 : decode cX9_ask 244 = .ok (.istore 4, 2) := by decide +kernel
theorem dX9_ask_246 : decode cX9_ask 246 = .ok (.iinc 6 1, 3) := by decide +kernel
theorem dX9_ask_249 : decode cX9_ask 249 = .ok (.goto (-85), 3) := by decide +kernel
theorem dX9_ask_252 : decode cX9_ask 252 = .ok (.iinc 5 1, 3) := by decide +kernel
theorem dX9_ask_255 : decode cX9_ask 255 = .ok (.goto (-113), 3) := by decide +kernel
theorem dX9_ask_258 : decode cX9_ask 258 = .ok (.iload_n 3, 1) := by decide +kernel
theorem dX9_ask_259 : decode cX9_ask 259 = .ok (.ireturn, 1) := by decide +kernel
theorem dX9_keep_0 : decode cX9_keep 0 = .ok (.aload_n 0, 1) := by decide +kernel
theorem dX9_keep_1 : decode cX9_keep 1 = .ok (.iconst 0, 1) := by decide +kernel
theorem dX9_keep_2 : decode cX9_keep 2 = .ok (.putfield 80, 3) := by decide +kernel
theorem dX9_keep_5 : decode cX9_keep 5 = .ok (.iload_n 1, 1) := by decide +kernel
theorem dX9_keep_6 : decode cX9_keep 6 = .ok (.iconst 0, 1) := by decide +kernel
theorem dX9_keep_7 : decode cX9_keep 7 = .ok (.iconst 1, 1) := by decide +kernel
theorem dX9_keep_8 : decode cX9_keep 8 = .ok (.invokestatic 88, 3) := by decide +kernel
theorem dX9_keep_11 : decode cX9_keep 11 = .ok (.ifCond .ne 5, 3) := by decide +kernel
theorem dX9_keep_14 : decode cX9_keep 14 = .ok (.iconst (-1), 1) := by decide +kernel
theorem dX9_keep_15 : decode cX9_keep 15 = .ok (.ireturn, 1) := by decide +kernel
theorem dX9_keep_16 : decode cX9_keep 16 = .ok (.iconst 0, 1) := by decide +kernel
theorem dX9_keep_17 : decode cX9_keep 17 = .ok (.istore_n 2, 1) := by decide +kernel
theorem dX9_keep_18 : decode cX9_keep 18 = .ok (.iload_n 2, 1) := by decide +kernel
theorem dX9_keep_19 : decode cX9_keep 19 = .ok (.bipush 13, 2) := by decide +kernel
theorem dX9_keep_21 : decode cX9_keep 21 = .ok (.if_icmp .ge 26, 3) := by decide +kernel
theorem dX9_keep_24 : decode cX9_keep 24 = .ok (.aload_n 0, 1) := by decide +kernel
theorem dX9_keep_25 : decode cX9_keep 25 = .ok (.getfield 25, 3) := by decide +kernel
theorem dX9_keep_28 : decode cX9_keep 28 = .ok (.bipush 13, 2) := by decide +kernel
theorem dX9_keep_30 : decode cX9_keep 30 = .ok (.iload_n 1, 1) := by decide +kernel
theorem dX9_keep_31 : decode cX9_keep 31 = .ok (.imul, 1) := by decide +kernel
theorem dX9_keep_32 : decode cX9_keep 32 = .ok (.iload_n 2, 1) := by decide +kernel
theorem dX9_keep_33 : decode cX9_keep 33 = .ok (.iadd, 1) := by decide +kernel
theorem dX9_keep_34 : decode cX9_keep 34 = .ok (.aload_n 0, 1) := by decide +kernel
theorem dX9_keep_35 : decode cX9_keep 35 = .ok (.getfield 19, 3) := by decide +kernel
theorem dX9_keep_38 : decode cX9_keep 38 = .ok (.iload_n 2, 1) := by decide +kernel
theorem dX9_keep_39 : decode cX9_keep 39 = .ok (.iaload, 1) := by decide +kernel
theorem dX9_keep_40 : decode cX9_keep 40 = .ok (.iastore, 1) := by decide +kernel
theorem dX9_keep_41 : decode cX9_keep 41 = .ok (.iinc 2 1, 3) := by decide +kernel
theorem dX9_keep_44 : decode cX9_keep 44 = .ok (.goto (-26), 3) := by decide +kernel
theorem dX9_keep_47 : decode cX9_keep 47 = .ok (.aload_n 0, 1) := by decide +kernel
theorem dX9_keep_48 : decode cX9_keep 48 = .ok (.getfield 28, 3) := by decide +kernel
theorem dX9_keep_51 : decode cX9_keep 51 = .ok (.iload_n 1, 1) := by decide +kernel
theorem dX9_keep_52 : decode cX9_keep 52 = .ok (.iconst 1, 1) := by decide +kernel
theorem dX9_keep_53 : decode cX9_keep 53 = .ok (.bastore, 1) := by decide +kernel
theorem dX9_keep_54 : decode cX9_keep 54 = .ok (.aload_n 0, 1) := by decide +kernel
theorem dX9_keep_55 : decode cX9_keep 55 = .ok (.getfield 19, 3) := by decide +kernel
theorem dX9_keep_58 : decode cX9_keep 58 = .ok (.iconst 2, 1) := by decide +kernel
theorem dX9_keep_59 : decode cX9_keep 59 = .ok (.iaload, 1) := by decide +kernel
theorem dX9_keep_60 : decode cX9_keep 60 = .ok (.ireturn, 1) := by decide +kernel
theorem dX9_back_0 : decode cX9_back 0 = .ok (.aload_n 0, 1) := by decide +kernel
theorem dX9_back_1 : decode cX9_back 1 = .ok (.iconst 0, 1) := by decide +kernel
theorem dX9_back_2 : decode cX9_back 2 = .ok (.putfield 80, 3) := by decide +kernel
theorem dX9_back_5 : decode cX9_back 5 = .ok (.iload_n 1, 1) := by decide +kernel
theorem dX9_back_6 : decode cX9_back 6 = .ok (.iconst 0, 1) := by decide +kernel
theorem dX9_back_7 : decode cX9_back 7 = .ok (.iconst 1, 1) := by decide +kernel
theorem dX9_back_8 : decode cX9_back 8 = .ok (.invokestatic 88, 3) := by decide +kernel
theorem dX9_back_11 : decode cX9_back 11 = .ok (.ifCond .ne 5, 3) := by decide +kernel
theorem dX9_back_14 : decode cX9_back 14 = .ok (.iconst (-1), 1) := by decide +kernel
theorem dX9_back_15 : decode cX9_back 15 = .ok (.ireturn, 1) := by decide +kernel
theorem dX9_back_16 : decode cX9_back 16 = .ok (.aload_n 0, 1) := by decide +kernel
theorem dX9_back_17 : decode cX9_back 17 = .ok (.getfield 28, 3) := by decide +kernel
theorem dX9_back_20 : decode cX9_back 20 = .ok (.iload_n 1, 1) := by decide +kernel
theorem dX9_back_21 : decode cX9_back 21 = .ok (.baload, 1) := by decide +kernel
theorem dX9_back_22 : decode cX9_back 22 = .ok (.ifCond .ne 6, 3) := by decide +kernel
theorem dX9_back_25 : decode cX9_back 25 = .ok (.bipush (-2), 2) := by decide +kernel
theorem dX9_back_27 : decode cX9_back 27 = .ok (.ireturn, 1) := by decide +kernel
theorem dX9_back_28 : decode cX9_back 28 = .ok (.iconst 0, 1) := by decide +kernel
theorem dX9_back_29 : decode cX9_back 29 = .ok (.istore_n 2, 1) := by decide +kernel
theorem dX9_back_30 : decode cX9_back 30 = .ok (.iload_n 2, 1) := by decide +kernel
theorem dX9_back_31 : decode cX9_back 31 = .ok (.bipush 13, 2) := by decide +kernel
theorem dX9_back_33 : decode cX9_back 33 = .ok (.if_icmp .ge 26, 3) := by decide +kernel
theorem dX9_back_36 : decode cX9_back 36 = .ok (.aload_n 0, 1) := by decide +kernel
theorem dX9_back_37 : decode cX9_back 37 = .ok (.getfield 19, 3) := by decide +kernel
theorem dX9_back_40 : decode cX9_back 40 = .ok (.iload_n 2, 1) := by decide +kernel
theorem dX9_back_41 : decode cX9_back 41 = .ok (.aload_n 0, 1) := by decide +kernel
theorem dX9_back_42 : decode cX9_back 42 = .ok (.getfield 25, 3) := by decide +kernel
theorem dX9_back_45 : decode cX9_back 45 = .ok (.bipush 13, 2) := by decide +kernel
theorem dX9_back_47 : decode cX9_back 47 = .ok (.iload_n 1, 1) := by decide +kernel
theorem dX9_back_48 : decode cX9_back 48 = .ok (.imul, 1) := by decide +kernel
theorem dX9_back_49 : decode cX9_back 49 = .ok (.iload_n 2, 1) := by decide +kernel
theorem dX9_back_50 : decode cX9_back 50 = .ok (.iadd, 1) := by decide +kernel
theorem dX9_back_51 : decode cX9_back 51 = .ok (.iaload, 1) := by decide +kernel
theorem dX9_back_52 : decode cX9_back 52 = .ok (.iastore, 1) := by decide +kernel
theorem dX9_back_53 : decode cX9_back 53 = .ok (.iinc 2 1, 3) := by decide +kernel
theorem dX9_back_56 : decode cX9_back 56 = .ok (.goto (-26), 3) := by decide +kernel
theorem dX9_back_59 : decode cX9_back 59 = .ok (.aload_n 0, 1) := by decide +kernel
theorem dX9_back_60 : decode cX9_back 60 = .ok (.iconst 0, 1) := by decide +kernel
theorem dX9_back_61 : decode cX9_back 61 = .ok (.putfield 174, 3) := by decide +kernel
theorem dX9_back_64 : decode cX9_back 64 = .ok (.aload_n 0, 1) := by decide +kernel
theorem dX9_back_65 : decode cX9_back 65 = .ok (.getfield 19, 3) := by decide +kernel
theorem dX9_back_68 : decode cX9_back 68 = .ok (.iconst 2, 1) := by decide +kernel
theorem dX9_back_69 : decode cX9_back 69 = .ok (.iaload, 1) := by decide +kernel
theorem dX9_back_70 : decode cX9_back 70 = .ok (.ireturn, 1) := by decide +kernel
theorem dX9_count_0 : decode cX9_count 0 = .ok (.aload_n 0, 1) := by decide +kernel
theorem dX9_count_1 : decode cX9_count 1 = .ok (.iconst 0, 1) := by decide +kernel
theorem dX9_count_2 : decode cX9_count 2 = .ok (.putfield 80, 3) := by decide +kernel
theorem dX9_count_5 : decode cX9_count 5 = .ok (.iload_n 1, 1) := by decide +kernel
theorem dX9_count_6 : decode cX9_count 6 = .ok (.iconst 0, 1) := by decide +kernel
theorem dX9_count_7 : decode cX9_count 7 = .ok (.bipush 10, 2) := by decide +kernel
theorem dX9_count_9 : decode cX9_count 9 = .ok (.invokestatic 88, 3) := by decide +kernel
theorem dX9_count_12 : decode cX9_count 12 = .ok (.ifCond .ne 5, 3) := by decide +kernel
theorem dX9_count_15 : decode cX9_count 15 = .ok (.iconst (-1), 1) := by decide +kernel
theorem dX9_count_16 : decode cX9_count 16 = .ok (.ireturn, 1) := by decide +kernel
theorem dX9_count_17 : decode cX9_count 17 = .ok (.iload_n 1, 1) := by decide +kernel
theorem dX9_count_18 : decode cX9_count 18 = .ok (.iconst 4, 1) := by decide +kernel
theorem dX9_count_19 : decode cX9_count 19 = .ok (.if_icmp .ge 10, 3) := by decide +kernel
theorem dX9_count_22 : decode cX9_count 22 = .ok (.aload_n 0, 1) := by decide +kernel
theorem dX9_count_23 : decode cX9_count 23 = .ok (.getfield 13, 3) := by decide +kernel
theorem dX9_count_26 : decode cX9_count 26 = .ok (.iload_n 1, 1) := by decide +kernel
theorem dX9_count_27 : decode cX9_count 27 = .ok (.iaload, 1) := by decide +kernel
theorem dX9_count_28 : decode cX9_count 28 = .ok (.ireturn, 1) := by decide +kernel
theorem dX9_count_29 : decode cX9_count 29 = .ok (.iload_n 1, 1) := by decide +kernel
theorem dX9_count_30 : decode cX9_count 30 = .ok (.bipush 7, 2) := by decide +kernel
theorem dX9_count_32 : decode cX9_count 32 = .ok (.if_icmp .ge 41, 3) := by decide +kernel
theorem dX9_count_35 : decode cX9_count 35 = .ok (.iload_n 1, 1) := by decide +kernel
theorem dX9_count_36 : decode cX9_count 36 = .ok (.iconst 4, 1) := by decide +kernel
theorem dX9_count_37 : decode cX9_count 37 = .ok (.if_icmp .ne 15, 3) := by decide +kernel
theorem dX9_count_40 : decode cX9_count 40 = .ok (.aload_n 0, 1) := by decide +kernel
theorem dX9_count_41 : decode cX9_count 41 = .ok (.getfield 19, 3) := by decide +kernel
theorem dX9_count_44 : decode cX9_count 44 = .ok (.iconst 0, 1) := by decide +kernel
theorem dX9_count_45 : decode cX9_count 45 = .ok (.iaload, 1) := by decide +kernel
theorem dX9_count_46 : decode cX9_count 46 = .ok (.invokestatic 213, 3) := by decide +kernel
theorem dX9_count_49 : decode cX9_count 49 = .ok (.goto 23, 3) := by decide +kernel
theorem dX9_count_52 : decode cX9_count 52 = .ok (.iload_n 1, 1) := by decide +kernel
theorem dX9_count_53 : decode cX9_count 53 = .ok (.iconst 5, 1) := by decide +kernel
theorem dX9_count_54 : decode cX9_count 54 = .ok (.if_icmp .ne 12, 3) := by decide +kernel
theorem dX9_count_57 : decode cX9_count 57 = .ok (.aload_n 0, 1) := by decide +kernel
theorem dX9_count_58 : decode cX9_count 58 = .ok (.getfield 19, 3) := by decide +kernel
theorem dX9_count_61 : decode cX9_count 61 = .ok (.iconst 1, 1) := by decide +kernel
theorem dX9_count_62 : decode cX9_count 62 = .ok (.iaload, 1) := by decide +kernel
theorem dX9_count_63 : decode cX9_count 63 = .ok (.goto 9, 3) := by decide +kernel
theorem dX9_count_66 : decode cX9_count 66 = .ok (.aload_n 0, 1) := by decide +kernel
theorem dX9_count_67 : decode cX9_count 67 = .ok (.getfield 19, 3) := by decide +kernel
theorem dX9_count_70 : decode cX9_count 70 = .ok (.iconst 2, 1) := by decide +kernel
theorem dX9_count_71 : decode cX9_count 71 = .ok (.iaload, 1) := by decide +kernel
theorem dX9_count_72 : decode cX9_count 72 = .ok (.ireturn, 1) := by decide +kernel
theorem dX9_count_73 : decode cX9_count 73 = .ok (.aload_n 0, 1) := by decide +kernel
theorem dX9_count_74 : decode cX9_count 74 = .ok (.invokevirtual 201, 3) := by decide +kernel
theorem dX9_count_77 : decode cX9_count 77 = .ok (.iload_n 1, 1) := by decide +kernel
theorem dX9_count_78 : decode cX9_count 78 = .ok (.bipush 7, 2) := by decide +kernel
theorem dX9_count_80 : decode cX9_count 80 = .ok (.if_icmp .ne 10, 3) := by decide +kernel
theorem dX9_count_83 : decode cX9_count 83 = .ok (.aload_n 0, 1) := by decide +kernel
theorem dX9_count_84 : decode cX9_count 84 = .ok (.getfield 198, 3) := by decide +kernel
theorem dX9_count_87 : decode cX9_count 87 = .ok (.goto 33, 3) := by decide +kernel
theorem dX9_count_90 : decode cX9_count 90 = .ok (.iload_n 1, 1) := by decide +kernel
theorem dX9_count_91 : decode cX9_count 91 = .ok (.bipush 8, 2) := by decide +kernel
theorem dX9_count_93 : decode cX9_count 93 = .ok (.if_icmp .ne 10, 3) := by decide +kernel
theorem dX9_count_96 : decode cX9_count 96 = .ok (.aload_n 0, 1) := by decide +kernel
theorem dX9_count_97 : decode cX9_count 97 = .ok (.getfield 171, 3) := by decide +kernel
theorem dX9_count_100 : decode cX9_count 100 = .ok (.goto 20, 3) := by decide +kernel
theorem dX9_count_103 : decode cX9_count 103 = .ok (.iload_n 1, 1) := by decide +kernel
theorem dX9_count_104 : decode cX9_count 104 = .ok (.bipush 9, 2) := by decide +kernel
theorem dX9_count_106 : decode cX9_count 106 = .ok (.if_icmp .ne 10, 3) := by decide +kernel
theorem dX9_count_109 : decode cX9_count 109 = .ok (.aload_n 0, 1) := by decide +kernel
theorem dX9_count_110 : decode cX9_count 110 = .ok (.getfield 92, 3) := by decide +kernel
theorem dX9_count_113 : decode cX9_count 113 = .ok (.goto 7, 3) := by decide +kernel
theorem dX9_count_116 : decode cX9_count 116 = .ok (.aload_n 0, 1) := by decide +kernel
theorem dX9_count_117 : decode cX9_count 117 = .ok (.getfield 174, 3) := by decide +kernel
theorem dX9_count_120 : decode cX9_count 120 = .ok (.ireturn, 1) := by decide +kernel
