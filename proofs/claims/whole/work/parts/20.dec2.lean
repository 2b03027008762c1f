theorem dX4_init_0 : decode cX4_init 0 = .ok (.aload_n 0, 1) := by decide +kernel
theorem dX4_init_1 : decode cX4_init 1 = .ok (.invokespecial 3, 3) := by decide +kernel
theorem dX4_init_4 : decode cX4_init 4 = .ok (.aload_n 0, 1) := by decide +kernel
theorem dX4_init_5 : decode cX4_init 5 = .ok (.iconst 0, 1) := by decide +kernel
theorem dX4_init_6 : decode cX4_init 6 = .ok (.putfield 9, 3) := by decide +kernel
theorem dX4_init_9 : decode cX4_init 9 = .ok (.aload_n 0, 1) := by decide +kernel
theorem dX4_init_10 : decode cX4_init 10 = .ok (.iconst 0, 1) := by decide +kernel
theorem dX4_init_11 : decode cX4_init 11 = .ok (.putfield 15, 3) := by decide +kernel
theorem dX4_init_14 : decode cX4_init 14 = .ok (.aload_n 0, 1) := by decide +kernel
theorem dX4_init_15 : decode cX4_init 15 = .ok (.iconst 4, 1) := by decide +kernel
theorem dX4_init_16 : decode cX4_init 16 = .ok (.newarray .int, 2) := by decide +kernel
theorem dX4_init_18 : decode cX4_init 18 = .ok (.putfield 19, 3) := by decide +kernel
theorem dX4_init_21 : decode cX4_init 21 = .ok (.aload_n 0, 1) := by decide +kernel
theorem dX4_init_22 : decode cX4_init 22 = .ok (.iconst 4, 1) := by decide +kernel
theorem dX4_init_23 : decode cX4_init 23 = .ok (.newarray .int, 2) := by decide +kernel
theorem dX4_init_25 : decode cX4_init 25 = .ok (.putfield 23, 3) := by decide +kernel
theorem dX4_init_28 : decode cX4_init 28 = .ok (.aload_n 0, 1) := by decide +kernel
theorem dX4_init_29 : decode cX4_init 29 = .ok (.iconst 4, 1) := by decide +kernel
theorem dX4_init_30 : decode cX4_init 30 = .ok (.newarray .int, 2) := by decide +kernel
theorem dX4_init_32 : decode cX4_init 32 = .ok (.putfield 26, 3) := by decide +kernel
theorem dX4_init_35 : decode cX4_init 35 = .ok (.aload_n 0, 1) := by decide +kernel
theorem dX4_init_36 : decode cX4_init 36 = .ok (.iconst 4, 1) := by decide +kernel
theorem dX4_init_37 : decode cX4_init 37 = .ok (.newarray .int, 2) := by decide +kernel
theorem dX4_init_39 : decode cX4_init 39 = .ok (.putfield 29, 3) := by decide +kernel
theorem dX4_init_42 : decode cX4_init 42 = .ok (.aload_n 0, 1) := by decide +kernel
theorem dX4_init_43 : decode cX4_init 43 = .ok (.iconst 4, 1) := by decide +kernel
theorem dX4_init_44 : decode cX4_init 44 = .ok (.newarray .int, 2) := by decide +kernel
theorem dX4_init_46 : decode cX4_init 46 = .ok (.putfield 32, 3) := by decide +kernel
theorem dX4_init_49 : decode cX4_init 49 = .ok (.aload_n 0, 1) := by decide +kernel
theorem dX4_init_50 : decode cX4_init 50 = .ok (.iconst 4, 1) := by decide +kernel
theorem dX4_init_51 : decode cX4_init 51 = .ok (.newarray .int, 2) := by decide +kernel
theorem dX4_init_53 : decode cX4_init 53 = .ok (.putfield 35, 3) := by decide +kernel
theorem dX4_init_56 : decode cX4_init 56 = .ok (.aload_n 0, 1) := by decide +kernel
theorem dX4_init_57 : decode cX4_init 57 = .ok (.bipush 9, 2) := by decide +kernel
theorem dX4_init_59 : decode cX4_init 59 = .ok (.newarray .int, 2) := by decide +kernel
theorem dX4_init_61 : decode cX4_init 61 = .ok (.putfield 38, 3) := by decide +kernel
theorem dX4_init_64 : decode cX4_init 64 = .ok (.aload_n 0, 1) := by decide +kernel
theorem dX4_init_65 : decode cX4_init 65 = .ok (.iconst 4, 1) := by decide +kernel
theorem dX4_init_66 : decode cX4_init 66 = .ok (.newarray .int, 2) := by decide +kernel
theorem dX4_init_68 : decode cX4_init 68 = .ok (.putfield 41, 3) := by decide +kernel
theorem dX4_init_71 : decode cX4_init 71 = .ok (.aload_n 0, 1) := by decide +kernel
theorem dX4_init_72 : decode cX4_init 72 = .ok (.iconst 0, 1) := by decide +kernel
theorem dX4_init_73 : decode cX4_init 73 = .ok (.putfield 44, 3) := by decide +kernel
theorem dX4_init_76 : decode cX4_init 76 = .ok (.aload_n 0, 1) := by decide +kernel
theorem dX4_init_77 : decode cX4_init 77 = .ok (.new 47, 3) := by decide +kernel
theorem dX4_init_80 : decode cX4_init 80 = .ok (.dup, 1) := by decide +kernel
theorem dX4_init_81 : decode cX4_init 81 = .ok (.invokespecial 49, 3) := by decide +kernel
theorem dX4_init_84 : decode cX4_init 84 = .ok (.putfield 50, 3) := by decide +kernel
theorem dX4_init_87 : decode cX4_init 87 = .ok (.return_, 1) := by decide +kernel
theorem dX4_look_0 : decode cX4_look 0 = .ok (.aload_n 0, 1) := by decide +kernel
theorem dX4_look_1 : decode cX4_look 1 = .ok (.getfield 9, 3) := by decide +kernel
theorem dX4_look_4 : decode cX4_look 4 = .ok (.ifCond .eq 4, 3) := by decide +kernel
theorem dX4_look_7 : decode cX4_look 7 = .ok (.return_, 1) := by decide +kernel
theorem dX4_look_8 : decode cX4_look 8 = .ok (.aload_n 0, 1) := by decide +kernel
theorem dX4_look_9 : decode cX4_look 9 = .ok (.aload_n 1, 1) := by decide +kernel
theorem dX4_look_10 : decode cX4_look 10 = .ok (.aload_n 2, 1) := by decide +kernel
theorem dX4_look_11 : decode cX4_look 11 = .ok (.invokevirtual 54, 3) := by decide +kernel
theorem dX4_look_14 : decode cX4_look 14 = .ok (.aload_n 0, 1) := by decide +kernel
theorem dX4_look_15 : decode cX4_look 15 = .ok (.getfield 38, 3) := by decide +kernel
theorem dX4_look_18 : decode cX4_look 18 = .ok (.bipush (-9), 2) := by decide +kernel
theorem dX4_look_20 : decode cX4_look 20 = .ok (.invokestatic 58, 3) := by decide +kernel
theorem dX4_look_23 : decode cX4_look 23 = .ok (.iconst 0, 1) := by decide +kernel
theorem dX4_look_24 : decode cX4_look 24 = .ok (.istore_n 3, 1) := by decide +kernel
theorem dX4_look_25 : decode cX4_look 25 = .ok (.iload_n 3, 1) := by decide +kernel
theorem dX4_look_26 : decode cX4_look 26 = .ok (.aload_n 0, 1) := by decide +kernel
theorem dX4_look_27 : decode cX4_look 27 = .ok (.getfield 15, 3) := by decide +kernel
theorem dX4_look_30 : decode cX4_look 30 = .ok (.if_icmp .ge 55, 3) := by decide +kernel
theorem dX4_look_33 : decode cX4_look 33 = .ok (.aload_n 0, 1) := by decide +kernel
theorem dX4_look_34 : decode cX4_look 34 = .ok (.getfield 32, 3) := by decide +kernel
theorem dX4_look_37 : decode cX4_look 37 = .ok (.iload_n 3, 1) := by decide +kernel
theorem dX4_look_38 : decode cX4_look 38 = .ok (.aload_n 1, 1) := by decide +kernel
theorem dX4_look_39 : decode cX4_look 39 = .ok (.aload_n 0, 1) := by decide +kernel
theorem dX4_look_40 : decode cX4_look 40 = .ok (.getfield 26, 3) := by decide +kernel
theorem dX4_look_43 : decode cX4_look 43 = .ok (.iload_n 3, 1) := by decide +kernel
theorem dX4_look_44 : decode cX4_look 44 = .ok (.iaload, 1) := by decide +kernel
theorem dX4_look_45 : decode cX4_look 45 = .ok (.iconst 0, 1) := by decide +kernel
theorem dX4_look_46 : decode cX4_look 46 = .ok (.invokestatic 64, 3) := by decide +kernel
theorem dX4_look_49 : decode cX4_look 49 = .ok (.iastore, 1) := by decide +kernel
theorem dX4_look_50 : decode cX4_look 50 = .ok (.aload_n 0, 1) := by decide +kernel
theorem dX4_look_51 : decode cX4_look 51 = .ok (.aload_n 1, 1) := by decide +kernel
theorem dX4_look_52 : decode cX4_look 52 = .ok (.aload_n 0, 1) := by decide +kernel
theorem dX4_look_53 : decode cX4_look 53 = .ok (.getfield 26, 3) := by decide +kernel
theorem dX4_look_56 : decode cX4_look 56 = .ok (.iload_n 3, 1) := by decide +kernel
theorem dX4_look_57 : decode cX4_look 57 = .ok (.iaload, 1) := by decide +kernel
theorem dX4_look_58 : decode cX4_look 58 = .ok (.aload_n 0, 1) := by decide +kernel
theorem dX4_look_59 : decode cX4_look 59 = .ok (.getfield 32, 3) := by decide +kernel
theorem dX4_look_62 : decode cX4_look 62 = .ok (.iload_n 3, 1) := by decide +kernel
theorem dX4_look_63 : decode cX4_look 63 = .ok (.iaload, 1) := by decide +kernel
theorem dX4_look_64 : decode cX4_look 64 = .ok (.invokevirtual 68, 3) := by decide +kernel
theorem dX4_look_67 : decode cX4_look 67 = .ok (.aload_n 0, 1) := by decide +kernel
theorem dX4_look_68 : decode cX4_look 68 = .ok (.getfield 35, 3) := by decide +kernel
theorem dX4_look_71 : decode cX4_look 71 = .ok (.iload_n 3, 1) := by decide +kernel
theorem dX4_look_72 : decode cX4_look 72 = .ok (.aload_n 0, 1) := by decide +kernel
theorem dX4_look_73 : decode cX4_look 73 = .ok (.aload_n 1, 1) := by decide +kernel
theorem dX4_look_74 : decode cX4_look 74 = .ok (.iload_n 3, 1) := by decide +kernel
theorem dX4_look_75 : decode cX4_look 75 = .ok (.invokevirtual 72, 3) := by decide +kernel
theorem dX4_look_78 : decode cX4_look 78 = .ok (.iastore, 1) := by decide +kernel
theorem dX4_look_79 : decode cX4_look 79 = .ok (.iinc 3 1, 3) := by decide +kernel
theorem dX4_look_82 : decode cX4_look 82 = .ok (.goto (-57), 3) := by decide +kernel
theorem dX4_look_85 : decode cX4_look 85 = .ok (.aload_n 0, 1) := by decide +kernel
theorem dX4_look_86 : decode cX4_look 86 = .ok (.aload_n 1, 1) := by decide +kernel
theorem dX4_look_87 : decode cX4_look 87 = .ok (.aload_n 2, 1) := by decide +kernel
theorem dX4_look_88 : decode cX4_look 88 = .ok (.getfield 76, 3) := by decide +kernel
theorem dX4_look_91 : decode cX4_look 91 = .ok (.invokevirtual 81, 3) := by decide +kernel
theorem dX4_look_94 : decode cX4_look 94 = .ok (.aload_n 0, 1) := by decide +kernel
theorem dX4_look_95 : decode cX4_look 95 = .ok (.iconst 1, 1) := by decide +kernel
theorem dX4_look_96 : decode cX4_look 96 = .ok (.putfield 9, 3) := by decide +kernel
theorem dX4_look_99 : decode cX4_look 99 = .ok (.return_, 1) := by decide +kernel
theorem dX4_hasPiece_0 : decode cX4_hasPiece 0 = .ok (.iload_n 1, 1) := by decide +kernel
theorem dX4_hasPiece_1 : decode cX4_hasPiece 1 = .ok (.ifCond .lt 20, 3) := by decide +kernel
theorem dX4_hasPiece_4 : decode cX4_hasPiece 4 = .ok (.iload_n 1, 1) := by decide +kernel
theorem dX4_hasPiece_5 : decode cX4_hasPiece 5 = .ok (.aload_n 0, 1) := by decide +kernel
theorem dX4_hasPiece_6 : decode cX4_hasPiece 6 = .ok (.getfield 15, 3) := by decide +kernel
theorem dX4_hasPiece_9 : decode cX4_hasPiece 9 = .ok (.if_icmp .ge 12, 3) := by decide +kernel
theorem dX4_hasPiece_12 : decode cX4_hasPiece 12 = .ok (.iload_n 1, 1) := by decide +kernel
theorem dX4_hasPiece_13 : decode cX4_hasPiece 13 = .ok (.iconst 4, 1) := by decide +kernel
theorem dX4_hasPiece_14 : decode cX4_hasPiece 14 = .ok (.if_icmp .ge 7, 3) := by decide +kernel
theorem dX4_hasPiece_17 : decode cX4_hasPiece 17 = .ok (.iconst 1, 1) := by decide +kernel
theorem dX4_hasPiece_18 : decode cX4_hasPiece 18 = .ok (.goto 4, 3) := by decide +kernel
theorem dX4_hasPiece_21 : decode cX4_hasPiece 21 = .ok (.iconst 0, 1) := by decide +kernel
theorem dX4_hasPiece_22 : decode cX4_hasPiece 22 = .ok (.ireturn, 1) := by decide +kernel
theorem dX4_startOf_0 : decode cX4_startOf 0 = .ok (.aload_n 0, 1) := by decide +kernel
theorem dX4_startOf_1 : decode cX4_startOf 1 = .ok (.iload_n 1, 1) := by decide +kernel
theorem dX4_startOf_2 : decode cX4_startOf 2 = .ok (.invokevirtual 85, 3) := by decide +kernel
theorem dX4_startOf_5 : decode cX4_startOf 5 = .ok (.ifCond .eq 12, 3) := by decide +kernel
theorem dX4_startOf_8 : decode cX4_startOf 8 = .ok (.aload_n 0, 1) := by decide +kernel
theorem dX4_startOf_9 : decode cX4_startOf 9 = .ok (.getfield 29, 3) := by decide +kernel
theorem dX4_startOf_12 : decode cX4_startOf 12 = .ok (.iload_n 1, 1) := by decide +kernel
theorem dX4_startOf_13 : decode cX4_startOf 13 = .ok (.iaload, 1) := by decide +kernel
theorem dX4_startOf_14 : decode cX4_startOf 14 = .ok (.goto 5, 3) := by decide +kernel
theorem dX4_startOf_17 : decode cX4_startOf 17 = .ok (.bipush (-9), 2) := by decide +kernel
theorem dX4_startOf_19 : decode cX4_startOf 19 = .ok (.ireturn, 1) := by decide +kernel
theorem dX4_stepsOf_0 : decode cX4_stepsOf 0 = .ok (.aload_n 0, 1) := by decide +kernel
theorem dX4_stepsOf_1 : decode cX4_stepsOf 1 = .ok (.iload_n 1, 1) := by decide +kernel
theorem dX4_stepsOf_2 : decode cX4_stepsOf 2 = .ok (.invokevirtual 85, 3) := by decide +kernel
theorem dX4_stepsOf_5 : decode cX4_stepsOf 5 = .ok (.ifCond .eq 27, 3) := by decide +kernel
theorem dX4_stepsOf_8 : decode cX4_stepsOf 8 = .ok (.aload_n 0, 1) := by decide +kernel
theorem dX4_stepsOf_9 : decode cX4_stepsOf 9 = .ok (.getfield 19, 3) := by decide +kernel
theorem dX4_stepsOf_12 : decode cX4_stepsOf 12 = .ok (.iload_n 1, 1) := by decide +kernel
theorem dX4_stepsOf_13 : decode cX4_stepsOf 13 = .ok (.iaload, 1) := by decide +kernel
theorem dX4_stepsOf_14 : decode cX4_stepsOf 14 = .ok (.invokestatic 89, 3) := by decide +kernel
theorem dX4_stepsOf_17 : decode cX4_stepsOf 17 = .ok (.aload_n 0, 1) := by decide +kernel
theorem dX4_stepsOf_18 : decode cX4_stepsOf 18 = .ok (.getfield 26, 3) := by decide +kernel
theorem dX4_stepsOf_21 : decode cX4_stepsOf 21 = .ok (.iload_n 1, 1) := by decide +kernel
theorem dX4_stepsOf_22 : decode cX4_stepsOf 22 = .ok (.iaload, 1) := by decide +kernel
theorem dX4_stepsOf_23 : decode cX4_stepsOf 23 = .ok (.invokestatic 89, 3) := by decide +kernel
theorem dX4_stepsOf_26 : decode cX4_stepsOf 26 = .ok (.iconst 2, 1) := by decide +kernel
theorem dX4_stepsOf_27 : decode cX4_stepsOf 27 = .ok (.idiv, 1) := by decide +kernel
theorem dX4_stepsOf_28 : decode cX4_stepsOf 28 = .ok (.iadd, 1) := by decide +kernel
theorem dX4_stepsOf_29 : decode cX4_stepsOf 29 = .ok (.goto 4, 3) := by decide +kernel
theorem dX4_stepsOf_32 : decode cX4_stepsOf 32 = .ok (.iconst 0, 1) := by decide +kernel
theorem dX4_stepsOf_33 : decode cX4_stepsOf 33 = .ok (.ireturn, 1) := by decide +kernel
theorem dX4_pieceOf_0 : decode cX4_pieceOf 0 = .ok (.iconst 0, 1) := by decide +kernel
theorem dX4_pieceOf_1 : decode cX4_pieceOf 1 = .ok (.istore_n 2, 1) := by decide +kernel
theorem dX4_pieceOf_2 : decode cX4_pieceOf 2 = .ok (.iload_n 2, 1) := by decide +kernel
theorem dX4_pieceOf_3 : decode cX4_pieceOf 3 = .ok (.aload_n 0, 1) := by decide +kernel
theorem dX4_pieceOf_4 : decode cX4_pieceOf 4 = .ok (.getfield 15, 3) := by decide +kernel
theorem dX4_pieceOf_7 : decode cX4_pieceOf 7 = .ok (.if_icmp .ge 24, 3) := by decide +kernel
theorem dX4_pieceOf_10 : decode cX4_pieceOf 10 = .ok (.aload_n 0, 1) := by decide +kernel
theorem dX4_pieceOf_11 : decode cX4_pieceOf 11 = .ok (.getfield 19, 3) := by decide +kernel
theorem dX4_pieceOf_14 : decode cX4_pieceOf 14 = .ok (.iload_n 2, 1) := by decide +kernel
theorem dX4_pieceOf_15 : decode cX4_pieceOf 15 = .ok (.iaload, 1) := by decide +kernel
theorem dX4_pieceOf_16 : decode cX4_pieceOf 16 = .ok (.iload_n 1, 1) := by decide +kernel
theorem dX4_pieceOf_17 : decode cX4_pieceOf 17 = .ok (.invokestatic 95, 3) := by decide +kernel
theorem dX4_pieceOf_20 : decode cX4_pieceOf 20 = .ok (.ifCond .eq 5, 3) := by decide +kernel
theorem dX4_pieceOf_23 : decode cX4_pieceOf 23 = .ok (.iload_n 2, 1) := by decide +kernel
theorem dX4_pieceOf_24 : decode cX4_pieceOf 24 = .ok (.ireturn, 1) := by decide +kernel
theorem dX4_pieceOf_25 : decode cX4_pieceOf 25 = .ok (.iinc 2 1, 3) := by decide +kernel
theorem dX4_pieceOf_28 : decode cX4_pieceOf 28 = .ok (.goto (-26), 3) := by decide +kernel
theorem dX4_pieceOf_31 : decode cX4_pieceOf 31 = .ok (.bipush (-9), 2) := by decide +kernel
theorem dX4_pieceOf_33 : decode cX4_pieceOf 33 = .ok (.ireturn, 1) := by decide +kernel
theorem dX4_idle_0 : decode cX4_idle 0 = .ok (.aload_n 0, 1) := by decide +kernel
theorem dX4_idle_1 : decode cX4_idle 1 = .ok (.getfield 44, 3) := by decide +kernel
theorem dX4_idle_4 : decode cX4_idle 4 = .ok (.istore_n 1, 1) := by decide +kernel
theorem dX4_idle_5 : decode cX4_idle 5 = .ok (.iconst 0, 1) := by decide +kernel
theorem dX4_idle_6 : decode cX4_idle 6 = .ok (.istore_n 2, 1) := by decide +kernel
theorem dX4_idle_7 : decode cX4_idle 7 = .ok (.iload_n 2, 1) := by decide +kernel
theorem dX4_idle_8 : decode cX4_idle 8 = .ok (.aload_n 0, 1) := by decide +kernel
theorem dX4_idle_9 : decode cX4_idle 9 = .ok (.getfield 15, 3) := by decide +kernel
theorem dX4_idle_12 : decode cX4_idle 12 = .ok (.if_icmp .ge 18, 3) := by decide +kernel
theorem dX4_idle_15 : decode cX4_idle 15 = .ok (.iload_n 1, 1) := by decide +kernel
theorem dX4_idle_16 : decode cX4_idle 16 = .ok (.aload_n 0, 1) := by decide +kernel
theorem dX4_idle_17 : decode cX4_idle 17 = .ok (.getfield 32, 3) := by decide +kernel
theorem dX4_idle_20 : decode cX4_idle 20 = .ok (.iload_n 2, 1) := by decide +kernel
theorem dX4_idle_21 : decode cX4_idle 21 = .ok (.iaload, 1) := by decide +kernel
theorem dX4_idle_22 : decode cX4_idle 22 = .ok (.iadd, 1) := by decide +kernel
theorem dX4_idle_23 : decode cX4_idle 23 = .ok (.istore_n 1, 1) := by decide +kernel
theorem dX4_idle_24 : decode cX4_idle 24 = .ok (.iinc 2 1, 3) := by decide +kernel
theorem dX4_idle_27 : decode cX4_idle 27 = .ok (.goto (-20), 3) := by decide +kernel
theorem dX4_idle_30 : decode cX4_idle 30 = .ok (.iload_n 1, 1) := by decide +kernel
theorem dX4_idle_31 : decode cX4_idle 31 = .ok (.ireturn, 1) := by decide +kernel
theorem dX4_findPieces_0 : decode cX4_findPieces 0 = .ok (.aload_n 0, 1) := by decide +kernel
theorem dX4_findPieces_1 : decode cX4_findPieces 1 = .ok (.iconst 0, 1) := by decide +kernel
theorem dX4_findPieces_2 : decode cX4_findPieces 2 = .ok (.putfield 15, 3) := by decide +kernel
theorem dX4_findPieces_5 : decode cX4_findPieces 5 = .ok (.aload_n 0, 1) := by decide +kernel
theorem dX4_findPieces_6 : decode cX4_findPieces 6 = .ok (.getfield 50, 3) := by decide +kernel
theorem dX4_findPieces_9 : decode cX4_findPieces 9 = .ok (.aload_n 1, 1) := by decide +kernel
theorem dX4_findPieces_10 : decode cX4_findPieces 10 = .ok (.aload_n 2, 1) := by decide +kernel
theorem dX4_findPieces_11 : decode cX4_findPieces 11 = .ok (.getfield 99, 3) := by decide +kernel
theorem dX4_findPieces_14 : decode cX4_findPieces 14 = .ok (.invokevirtual 102, 3) := by decide +kernel
theorem dX4_findPieces_17 : decode cX4_findPieces 17 = .ok (.iconst 0, 1) := by decide +kernel
theorem dX4_findPieces_18 : decode cX4_findPieces 18 = .ok (.istore_n 3, 1) := by decide +kernel
theorem dX4_findPieces_19 : decode cX4_findPieces 19 = .ok (.iconst 0, 1) := by decide +kernel
theorem dX4_findPieces_20 : decode cX4_findPieces 20 = .ok (.istore 4, 2) := by decide +kernel
theorem dX4_findPieces_22 : decode cX4_findPieces 22 = .ok (.iload 4, 2) := by decide +kernel
theorem dX4_findPieces_24 : decode cX4_findPieces 24 = .ok (.aload_n 1, 1) := by decide +kernel
theorem dX4_findPieces_25 : decode cX4_findPieces 25 = .ok (.getfield 105, 3) := by decide +kernel
theorem dX4_findPieces_28 : decode cX4_findPieces 28 = .ok (.if_icmp .ge 183, 3) := by decide +kernel
theorem dX4_findPieces_31 : decode cX4_findPieces 31 = .ok (.aload_n 0, 1) := by decide +kernel
theorem dX4_findPieces_32 : decode cX4_findPieces 32 = .ok (.getfield 50, 3) := by decide +kernel
theorem dX4_findPieces_35 : decode cX4_findPieces 35 = .ok (.getfield 109, 3) := by decide +kernel
theorem dX4_findPieces_38 : decode cX4_findPieces 38 = .ok (.iload 4, 2) := by decide +kernel
theorem dX4_findPieces_40 : decode cX4_findPieces 40 = .ok (.iaload, 1) := by decide +kernel
theorem dX4_findPieces_41 : decode cX4_findPieces 41 = .ok (.ifCond .eq 164, 3) := by decide +kernel
theorem dX4_findPieces_44 : decode cX4_findPieces 44 = .ok (.iload_n 3, 1) := by decide +kernel
theorem dX4_findPieces_45 : decode cX4_findPieces 45 = .ok (.iload 4, 2) := by decide +kernel
theorem dX4_findPieces_47 : decode cX4_findPieces 47 = .ok (.invokestatic 95, 3) := by decide +kernel
theorem dX4_findPieces_50 : decode cX4_findPieces 50 = .ok (.ifCond .ne 155, 3) := by decide +kernel
theorem dX4_findPieces_53 : decode cX4_findPieces 53 = .ok (.aload_n 0, 1) := by decide +kernel
theorem dX4_findPieces_54 : decode cX4_findPieces 54 = .ok (.getfield 15, 3) := by decide +kernel
theorem dX4_findPieces_57 : decode cX4_findPieces 57 = .ok (.iconst 4, 1) := by decide +kernel
theorem dX4_findPieces_58 : decode cX4_findPieces 58 = .ok (.if_icmp .ge 147, 3) := by decide +kernel
theorem dX4_findPieces_61 : decode cX4_findPieces 61 = .ok (.aload_n 0, 1) := by decide +kernel
theorem dX4_findPieces_62 : decode cX4_findPieces 62 = .ok (.getfield 23, 3) := by decide +kernel
theorem dX4_findPieces_65 : decode cX4_findPieces 65 = .ok (.aload_n 0, 1) := by decide +kernel
theorem dX4_findPieces_66 : decode cX4_findPieces 66 = .ok (.getfield 15, 3) := by decide +kernel
theorem dX4_findPieces_69 : decode cX4_findPieces 69 = .ok (.aload_n 0, 1) := by decide +kernel
theorem dX4_findPieces_70 : decode cX4_findPieces 70 = .ok (.getfield 50, 3) := by decide +kernel
theorem dX4_findPieces_73 : decode cX4_findPieces 73 = .ok (.iload 4, 2) := by decide +kernel
theorem dX4_findPieces_75 : decode cX4_findPieces 75 = .ok (.invokevirtual 110, 3) := by decide +kernel
theorem dX4_findPieces_78 : decode cX4_findPieces 78 = .ok (.iastore, 1) := by decide +kernel
theorem dX4_findPieces_79 : decode cX4_findPieces 79 = .ok (.iload_n 3, 1) := by decide +kernel
theorem dX4_findPieces_80 : decode cX4_findPieces 80 = .ok (.aload_n 0, 1) := by decide +kernel
theorem dX4_findPieces_81 : decode cX4_findPieces 81 = .ok (.getfield 23, 3) := by decide +kernel
theorem dX4_findPieces_84 : decode cX4_findPieces 84 = .ok (.aload_n 0, 1) := by decide +kernel
theorem dX4_findPieces_85 : decode cX4_findPieces 85 = .ok (.getfield 15, 3) := by decide +kernel
theorem dX4_findPieces_88 : decode cX4_findPieces 88 = .ok (.iaload, 1) := by decide +kernel
theorem dX4_findPieces_89 : decode cX4_findPieces 89 = .ok (.ior, 1) := by decide +kernel
theorem dX4_findPieces_90 : decode cX4_findPieces 90 = .ok (.istore_n 3, 1) := by decide +kernel
theorem dX4_findPieces_91 : decode cX4_findPieces 91 = .ok (.aload_n 0, 1) := by decide +kernel
theorem dX4_findPieces_92 : decode cX4_findPieces 92 = .ok (.getfield 19, 3) := by decide +kernel
theorem dX4_findPieces_95 : decode cX4_findPieces 95 = .ok (.aload_n 0, 1) := by decide +kernel
theorem dX4_findPieces_96 : decode cX4_findPieces 96 = .ok (.getfield 15, 3) := by decide +kernel
theorem dX4_findPieces_99 : decode cX4_findPieces 99 = .ok (.aload_n 1, 1) := by decide +kernel
theorem dX4_findPieces_100 : decode cX4_findPieces 100 = .ok (.aload_n 2, 1) := by decide +kernel
theorem dX4_findPieces_101 : decode cX4_findPieces 101 = .ok (.getfield 99, 3) := by decide +kernel
theorem dX4_findPieces_104 : decode cX4_findPieces 104 = .ok (.aload_n 0, 1) := by decide +kernel
theorem dX4_findPieces_105 : decode cX4_findPieces 105 = .ok (.getfield 23, 3) := by decide +kernel
theorem dX4_findPieces_108 : decode cX4_findPieces 108 = .ok (.aload_n 0, 1) := by decide +kernel
theorem dX4_findPieces_109 : decode cX4_findPieces 109 = .ok (.getfield 15, 3) := by decide +kernel
theorem dX4_findPieces_112 : decode cX4_findPieces 112 = .ok (.iaload, 1) := by decide +kernel
theorem dX4_findPieces_113 : decode cX4_findPieces 113 = .ok (.invokestatic 113, 3) := by decide +kernel
theorem dX4_findPieces_116 : decode cX4_findPieces 116 = .ok (.iastore, 1) := by decide +kernel
theorem dX4_findPieces_117 : decode cX4_findPieces 117 = .ok (.aload_n 0, 1) := by decide +kernel
theorem dX4_findPieces_118 : decode cX4_findPieces 118 = .ok (.getfield 26, 3) := by decide +kernel
theorem dX4_findPieces_121 : decode cX4_findPieces 121 = .ok (.aload_n 0, 1) := by decide +kernel
theorem dX4_findPieces_122 : decode cX4_findPieces 122 = .ok (.getfield 15, 3) := by decide +kernel
theorem dX4_findPieces_125 : decode cX4_findPieces 125 = .ok (.aload_n 0, 1) := by decide +kernel
theorem dX4_findPieces_126 : decode cX4_findPieces 126 = .ok (.aload_n 0, 1) := by decide +kernel
theorem dX4_findPieces_127 : decode cX4_findPieces 127 = .ok (.getfield 23, 3) := by decide +kernel
theorem dX4_findPieces_130 : decode cX4_findPieces 130 = .ok (.aload_n 0, 1) := by decide +kernel
theorem dX4_findPieces_131 : decode cX4_findPieces 131 = .ok (.getfield 15, 3) := by decide +kernel
theorem dX4_findPieces_134 : decode cX4_findPieces 134 = .ok (.iaload, 1) := by decide +kernel
theorem dX4_findPieces_135 : decode cX4_findPieces 135 = .ok (.invokevirtual 116, 3) := by decide +kernel
theorem dX4_findPieces_138 : decode cX4_findPieces 138 = .ok (.iastore, 1) := by decide +kernel
theorem dX4_findPieces_139 : decode cX4_findPieces 139 = .ok (.aload_n 2, 1) := by decide +kernel
theorem dX4_findPieces_140 : decode cX4_findPieces 140 = .ok (.getfield 76, 3) := by decide +kernel
theorem dX4_findPieces_143 : decode cX4_findPieces 143 = .ok (.ifCond .lt 26, 3) := by decide +kernel
theorem dX4_findPieces_146 : decode cX4_findPieces 146 = .ok (.aload_n 0, 1) := by decide +kernel
theorem dX4_findPieces_147 : decode cX4_findPieces 147 = .ok (.getfield 23, 3) := by decide +kernel
theorem dX4_findPieces_150 : decode cX4_findPieces 150 = .ok (.aload_n 0, 1) := by decide +kernel
theorem dX4_findPieces_151 : decode cX4_findPieces 151 = .ok (.getfield 15, 3) := by decide +kernel
theorem dX4_findPieces_154 : decode cX4_findPieces 154 = .ok (.iaload, 1) := by decide +kernel
theorem dX4_findPieces_155 : decode cX4_findPieces 155 = .ok (.aload_n 2, 1) := by decide +kernel
theorem dX4_findPieces_156 : decode cX4_findPieces 156 = .ok (.getfield 76, 3) := by decide +kernel
theorem dX4_findPieces_159 : decode cX4_findPieces 159 = .ok (.invokestatic 95, 3) := by decide +kernel
theorem dX4_findPieces_162 : decode cX4_findPieces 162 = .ok (.ifCond .eq 7, 3) := by decide +kernel
theorem dX4_findPieces_165 : decode cX4_findPieces 165 = .ok (.iconst 1, 1) := by decide +kernel
theorem dX4_findPieces_166 : decode cX4_findPieces 166 = .ok (.goto 4, 3) := by decide +kernel
theorem dX4_findPieces_169 : decode cX4_findPieces 169 = .ok (.iconst 0, 1) := by decide +kernel
theorem dX4_findPieces_170 : decode cX4_findPieces 170 = .ok (.istore 5, 2) := by decide +kernel
theorem dX4_findPieces_172 : decode cX4_findPieces 172 = .ok (.aload_n 0, 1) := by decide +kernel
theorem dX4_findPieces_173 : decode cX4_findPieces 173 = .ok (.getfield 29, 3) := by decide +kernel
theorem dX4_findPieces_176 : decode cX4_findPieces 176 = .ok (.aload_n 0, 1) := by decide +kernel
theorem dX4_findPieces_177 : decode cX4_findPieces 177 = .ok (.getfield 15, 3) := by decide +kernel
theorem dX4_findPieces_180 : decode cX4_findPieces 180 = .ok (.iload 5, 2) := by decide +kernel
theorem dX4_findPieces_182 : decode cX4_findPieces 182 = .ok (.ifCond .eq 10, 3) := by decide +kernel
theorem dX4_findPieces_185 : decode cX4_findPieces 185 = .ok (.aload_n 2, 1) := by decide +kernel
theorem dX4_findPieces_186 : decode cX4_findPieces 186 = .ok (.getfield 76, 3) := by decide +kernel
theorem dX4_findPieces_189 : decode cX4_findPieces 189 = .ok (.goto 5, 3) := by decide +kernel
theorem dX4_findPieces_192 : decode cX4_findPieces 192 = .ok (.iload 4, 2) := by decide +kernel
theorem dX4_findPieces_194 : decode cX4_findPieces 194 = .ok (.iastore, 1) := by decide +kernel
theorem dX4_findPieces_195 : decode cX4_findPieces 195 = .ok (.aload_n 0, 1) := by decide +kernel
theorem dX4_findPieces_196 : decode cX4_findPieces 196 = .ok (.dup, 1) := by decide +kernel
theorem dX4_findPieces_197 : decode cX4_findPieces 197 = .ok (.getfield 15, 3) := by decide +kernel
theorem dX4_findPieces_200 : decode cX4_findPieces 200 = .ok (.iconst 1, 1) := by decide +kernel
theorem dX4_findPieces_201 : decode cX4_findPieces 201 = .ok (.iadd, 1) := by decide +kernel
theorem dX4_findPieces_202 : decode cX4_findPieces 202 = .ok (.putfield 15, 3) := by decide +kernel
theorem dX4_findPieces_205 : decode cX4_findPieces 205 = .ok (.iinc 4 1, 3) := by decide +kernel
theorem dX4_findPieces_208 : decode cX4_findPieces 208 = .ok (.goto (-186), 3) := by decide +kernel
theorem dX4_findPieces_211 : decode cX4_findPieces 211 = .ok (.return_, 1) := by decide +kernel
theorem dX4_cutsAmong_0 : decode cX4_cutsAmong 0 = .ok (.iconst 0, 1) := by decide +kernel
theorem dX4_cutsAmong_1 : decode cX4_cutsAmong 1 = .ok (.istore_n 3, 1) := by decide +kernel
theorem dX4_cutsAmong_2 : decode cX4_cutsAmong 2 = .ok (.iconst 0, 1) := by decide +kernel
theorem dX4_cutsAmong_3 : decode cX4_cutsAmong 3 = .ok (.istore 4, 2) := by decide +kernel
theorem dX4_cutsAmong_5 : decode cX4_cutsAmong 5 = .ok (.iload 4, 2) := by decide +kernel
theorem dX4_cutsAmong_7 : decode cX4_cutsAmong 7 = .ok (.aload_n 0, 1) := by decide +kernel
theorem dX4_cutsAmong_8 : decode cX4_cutsAmong 8 = .ok (.getfield 119, 3) := by decide +kernel
theorem dX4_cutsAmong_11 : decode cX4_cutsAmong 11 = .ok (.if_icmp .ge 39, 3) := by decide +kernel
theorem dX4_cutsAmong_14 : decode cX4_cutsAmong 14 = .ok (.iload_n 1, 1) := by decide +kernel
theorem dX4_cutsAmong_15 : decode cX4_cutsAmong 15 = .ok (.iload 4, 2) := by decide +kernel
theorem dX4_cutsAmong_17 : decode cX4_cutsAmong 17 = .ok (.invokestatic 95, 3) := by decide +kernel
theorem dX4_cutsAmong_20 : decode cX4_cutsAmong 20 = .ok (.ifCond .eq 24, 3) := by decide +kernel
theorem dX4_cutsAmong_23 : decode cX4_cutsAmong 23 = .ok (.iload_n 2, 1) := by decide +kernel
theorem dX4_cutsAmong_24 : decode cX4_cutsAmong 24 = .ok (.aload_n 0, 1) := by decide +kernel
theorem dX4_cutsAmong_25 : decode cX4_cutsAmong 25 = .ok (.getfield 121, 3) := by decide +kernel
theorem dX4_cutsAmong_28 : decode cX4_cutsAmong 28 = .ok (.iload 4, 2) := by decide +kernel
theorem dX4_cutsAmong_30 : decode cX4_cutsAmong 30 = .ok (.iaload, 1) := by decide +kernel
theorem dX4_cutsAmong_31 : decode cX4_cutsAmong 31 = .ok (.invokestatic 95, 3) := by decide +kernel
theorem dX4_cutsAmong_34 : decode cX4_cutsAmong 34 = .ok (.ifCond .eq 10, 3) := by decide +kernel
theorem dX4_cutsAmong_37 : decode cX4_cutsAmong 37 = .ok (.iload_n 3, 1) := by decide +kernel
theorem dX4_cutsAmong_38 : decode cX4_cutsAmong 38 = .ok (.iconst 1, 1) := by decide +kernel
theorem dX4_cutsAmong_39 : decode cX4_cutsAmong 39 = .ok (.iload 4, 2) := by decide +kernel
theorem dX4_cutsAmong_41 : decode cX4_cutsAmong 41 = .ok (.ishl, 1) := by decide +kernel
theorem dX4_cutsAmong_42 : decode cX4_cutsAmong 42 = .ok (.ior, 1) := by decide +kernel
theorem dX4_cutsAmong_43 : decode cX4_cutsAmong 43 = .ok (.istore_n 3, 1) := by decide +kernel
theorem dX4_cutsAmong_44 : decode cX4_cutsAmong 44 = .ok (.iinc 4 1, 3) := by decide +kernel
theorem dX4_cutsAmong_47 : decode cX4_cutsAmong 47 = .ok (.goto (-42), 3) := by decide +kernel
theorem dX4_cutsAmong_50 : decode cX4_cutsAmong 50 = .ok (.iload_n 3, 1) := by decide +kernel
theorem dX4_cutsAmong_51 : decode cX4_cutsAmong 51 = .ok (.ireturn, 1) := by decide +kernel
theorem dX4_oddAmong_0 : decode cX4_oddAmong 0 = .ok (.iconst 0, 1) := by decide +kernel
theorem dX4_oddAmong_1 : decode cX4_oddAmong 1 = .ok (.istore_n 2, 1) := by decide +kernel
theorem dX4_oddAmong_2 : decode cX4_oddAmong 2 = .ok (.iconst 0, 1) := by decide +kernel
theorem dX4_oddAmong_3 : decode cX4_oddAmong 3 = .ok (.istore_n 3, 1) := by decide +kernel
theorem dX4_oddAmong_4 : decode cX4_oddAmong 4 = .ok (.iload_n 3, 1) := by decide +kernel
theorem dX4_oddAmong_5 : decode cX4_oddAmong 5 = .ok (.bipush 9, 2) := by decide +kernel
theorem dX4_oddAmong_7 : decode cX4_oddAmong 7 = .ok (.if_icmp .ge 41, 3) := by decide +kernel
theorem dX4_oddAmong_10 : decode cX4_oddAmong 10 = .ok (.iload_n 1, 1) := by decide +kernel
theorem dX4_oddAmong_11 : decode cX4_oddAmong 11 = .ok (.iload_n 3, 1) := by decide +kernel
theorem dX4_oddAmong_12 : decode cX4_oddAmong 12 = .ok (.invokestatic 95, 3) := by decide +kernel
theorem dX4_oddAmong_15 : decode cX4_oddAmong 15 = .ok (.ifCond .eq 27, 3) := by decide +kernel
theorem dX4_oddAmong_18 : decode cX4_oddAmong 18 = .ok (.aload_n 0, 1) := by decide +kernel
theorem dX4_oddAmong_19 : decode cX4_oddAmong 19 = .ok (.getfield 50, 3) := by decide +kernel
theorem dX4_oddAmong_22 : decode cX4_oddAmong 22 = .ok (.getfield 109, 3) := by decide +kernel
theorem dX4_oddAmong_25 : decode cX4_oddAmong 25 = .ok (.iload_n 3, 1) := by decide +kernel
theorem dX4_oddAmong_26 : decode cX4_oddAmong 26 = .ok (.iaload, 1) := by decide +kernel
theorem dX4_oddAmong_27 : decode cX4_oddAmong 27 = .ok (.invokestatic 89, 3) := by decide +kernel
theorem dX4_oddAmong_30 : decode cX4_oddAmong 30 = .ok (.iconst 1, 1) := by decide +kernel
theorem dX4_oddAmong_31 : decode cX4_oddAmong 31 = .ok (.iand, 1) := by decide +kernel
theorem dX4_oddAmong_32 : decode cX4_oddAmong 32 = .ok (.iconst 1, 1) := by decide +kernel
theorem dX4_oddAmong_33 : decode cX4_oddAmong 33 = .ok (.if_icmp .ne 9, 3) := by decide +kernel
theorem dX4_oddAmong_36 : decode cX4_oddAmong 36 = .ok (.iload_n 2, 1) := by decide +kernel
theorem dX4_oddAmong_37 : decode cX4_oddAmong 37 = .ok (.iconst 1, 1) := by decide +kernel
theorem dX4_oddAmong_38 : decode cX4_oddAmong 38 = .ok (.iload_n 3, 1) := by decide +kernel
theorem dX4_oddAmong_39 : decode cX4_oddAmong 39 = .ok (.ishl, 1) := by decide +kernel
theorem dX4_oddAmong_40 : decode cX4_oddAmong 40 = .ok (.ior, 1) := by decide +kernel
theorem dX4_oddAmong_41 : decode cX4_oddAmong 41 = .ok (.istore_n 2, 1) := by decide +kernel
theorem dX4_oddAmong_42 : decode cX4_oddAmong 42 = .ok (.iinc 3 1, 3) := by decide +kernel
theorem dX4_oddAmong_45 : decode cX4_oddAmong 45 = .ok (.goto (-41), 3) := by decide +kernel
theorem dX4_oddAmong_48 : decode cX4_oddAmong 48 = .ok (.iload_n 2, 1) := by decide +kernel
theorem dX4_oddAmong_49 : decode cX4_oddAmong 49 = .ok (.ireturn, 1) := by decide +kernel
theorem dX4_leastPairs_0 : decode cX4_leastPairs 0 = .ok (.iload_n 1, 1) := by decide +kernel
theorem dX4_leastPairs_1 : decode cX4_leastPairs 1 = .ok (.ifCond .eq 8, 3) := by decide +kernel
theorem dX4_leastPairs_4 : decode cX4_leastPairs 4 = .ok (.iload_n 2, 1) := by decide +kernel
theorem dX4_leastPairs_5 : decode cX4_leastPairs 5 = .ok (.iconst 4, 1) := by decide +kernel
theorem dX4_leastPairs_6 : decode cX4_leastPairs 6 = .ok (.if_icmp .lt 5, 3) := by decide +kernel
theorem dX4_leastPairs_9 : decode cX4_leastPairs 9 = .ok (.iconst 0, 1) := by decide +kernel
theorem dX4_leastPairs_10 : decode cX4_leastPairs 10 = .ok (.ireturn, 1) := by decide +kernel
theorem dX4_leastPairs_11 : decode cX4_leastPairs 11 = .ok (.iload_n 1, 1) := by decide +kernel
theorem dX4_leastPairs_12 : decode cX4_leastPairs 12 = .ok (.invokestatic 124, 3) := by decide +kernel
theorem dX4_leastPairs_15 : decode cX4_leastPairs 15 = .ok (.istore_n 3, 1) := by decide +kernel
theorem dX4_leastPairs_16 : decode cX4_leastPairs 16 = .ok (.iload_n 1, 1) := by decide +kernel
theorem dX4_leastPairs_17 : decode cX4_leastPairs 17 = .ok (.iconst 1, 1) := by decide +kernel
theorem dX4_leastPairs_18 : decode cX4_leastPairs 18 = .ok (.iload_n 3, 1) := by decide +kernel
theorem dX4_leastPairs_19 : decode cX4_leastPairs 19 = .ok (.ishl, 1) := by decide +kernel
theorem dX4_leastPairs_20 : decode cX4_leastPairs 20 = .ok (.iconst (-1), 1) := by decide +kernel
theorem dX4_leastPairs_21 : decode cX4_leastPairs 21 = .ok (.ixor, 1) := by decide +kernel
theorem dX4_leastPairs_22 : decode cX4_leastPairs 22 = .ok (.iand, 1) := by decide +kernel
theorem dX4_leastPairs_23 : decode cX4_leastPairs 23 = .ok (.istore 4, 2) := by decide +kernel
theorem dX4_leastPairs_25 : decode cX4_leastPairs 25 = .ok (.ldc 127, 2) := by decide +kernel
theorem dX4_leastPairs_27 : decode cX4_leastPairs 27 = .ok (.istore 5, 2) := by decide +kernel
theorem dX4_leastPairs_29 : decode cX4_leastPairs 29 = .ok (.iconst 0, 1) := by decide +kernel
theorem dX4_leastPairs_30 : decode cX4_leastPairs 30 = .ok (.istore 6, 2) := by decide +kernel
theorem dX4_leastPairs_32 : decode cX4_leastPairs 32 = .ok (.iload 6, 2) := by decide +kernel
theorem dX4_leastPairs_34 : decode cX4_leastPairs 34 = .ok (.bipush 9, 2) := by decide +kernel
theorem dX4_leastPairs_36 : decode cX4_leastPairs 36 = .ok (.if_icmp .ge 54, 3) := by decide +kernel
theorem dX4_leastPairs_39 : decode cX4_leastPairs 39 = .ok (.iload 4, 2) := by decide +kernel
theorem dX4_leastPairs_41 : decode cX4_leastPairs 41 = .ok (.iload 6, 2) := by decide +kernel
theorem dX4_leastPairs_43 : decode cX4_leastPairs 43 = .ok (.invokestatic 95, 3) := by decide +kernel
theorem dX4_leastPairs_46 : decode cX4_leastPairs 46 = .ok (.ifCond .eq 38, 3) := by decide +kernel
theorem dX4_leastPairs_49 : decode cX4_leastPairs 49 = .ok (.aload_n 0, 1) := by decide +kernel
theorem dX4_leastPairs_50 : decode cX4_leastPairs 50 = .ok (.iload_n 3, 1) := by decide +kernel
theorem dX4_leastPairs_51 : decode cX4_leastPairs 51 = .ok (.iload 6, 2) := by decide +kernel
theorem dX4_leastPairs_53 : decode cX4_leastPairs 53 = .ok (.invokevirtual 128, 3) := by decide +kernel
theorem dX4_leastPairs_56 : decode cX4_leastPairs 56 = .ok (.aload_n 0, 1) := by decide +kernel
theorem dX4_leastPairs_57 : decode cX4_leastPairs 57 = .ok (.iload 4, 2) := by decide +kernel
theorem dX4_leastPairs_59 : decode cX4_leastPairs 59 = .ok (.iconst 1, 1) := by decide +kernel
theorem dX4_leastPairs_60 : decode cX4_leastPairs 60 = .ok (.iload 6, 2) := by decide +kernel
theorem dX4_leastPairs_62 : decode cX4_leastPairs 62 = .ok (.ishl, 1) := by decide +kernel
theorem dX4_leastPairs_63 : decode cX4_leastPairs 63 = .ok (.iconst (-1), 1) := by decide +kernel
theorem dX4_leastPairs_64 : decode cX4_leastPairs 64 = .ok (.ixor, 1) := by decide +kernel
theorem dX4_leastPairs_65 : decode cX4_leastPairs 65 = .ok (.iand, 1) := by decide +kernel
theorem dX4_leastPairs_66 : decode cX4_leastPairs 66 = .ok (.iload_n 2, 1) := by decide +kernel
theorem dX4_leastPairs_67 : decode cX4_leastPairs 67 = .ok (.iconst 1, 1) := by decide +kernel
theorem dX4_leastPairs_68 : decode cX4_leastPairs 68 = .ok (.iadd, 1) := by decide +kernel
theorem dX4_leastPairs_69 : decode cX4_leastPairs 69 = .ok (.invokestatic 64, 3) := by decide +kernel
theorem dX4_leastPairs_72 : decode cX4_leastPairs 72 = .ok (.iadd, 1) := by decide +kernel
theorem dX4_leastPairs_73 : decode cX4_leastPairs 73 = .ok (.istore 7, 2) := by decide +kernel
theorem dX4_leastPairs_75 : decode cX4_leastPairs 75 = .ok (.iload 5, 2) := by decide +kernel
theorem dX4_leastPairs_77 : decode cX4_leastPairs 77 = .ok (.iload 7, 2) := by decide +kernel
theorem dX4_leastPairs_79 : decode cX4_leastPairs 79 = .ok (.invokestatic 132, 3) := by decide +kernel
theorem dX4_leastPairs_82 : decode cX4_leastPairs 82 = .ok (.istore 5, 2) := by decide +kernel
theorem dX4_leastPairs_84 : decode cX4_leastPairs 84 = .ok (.iinc 6 1, 3) := by decide +kernel
theorem dX4_leastPairs_87 : decode cX4_leastPairs 87 = .ok (.goto (-55), 3) := by decide +kernel
theorem dX4_leastPairs_90 : decode cX4_leastPairs 90 = .ok (.iload 5, 2) := by decide +kernel
theorem dX4_leastPairs_92 : decode cX4_leastPairs 92 = .ok (.ireturn, 1) := by decide +kernel
theorem dX4_pairUp_0 : decode cX4_pairUp 0 = .ok (.iload_n 2, 1) := by decide +kernel
theorem dX4_pairUp_1 : decode cX4_pairUp 1 = .ok (.istore 4, 2) := by decide +kernel
theorem dX4_pairUp_3 : decode cX4_pairUp 3 = .ok (.iload_n 3, 1) := by decide +kernel
theorem dX4_pairUp_4 : decode cX4_pairUp 4 = .ok (.istore 5, 2) := by decide +kernel
theorem dX4_pairUp_6 : decode cX4_pairUp 6 = .ok (.iconst 0, 1) := by decide +kernel
theorem dX4_pairUp_7 : decode cX4_pairUp 7 = .ok (.istore 6, 2) := by decide +kernel
theorem dX4_pairUp_9 : decode cX4_pairUp 9 = .ok (.iload 6, 2) := by decide +kernel
theorem dX4_pairUp_11 : decode cX4_pairUp 11 = .ok (.iconst 4, 1) := by decide +kernel
theorem dX4_pairUp_12 : decode cX4_pairUp 12 = .ok (.if_icmp .ge 138, 3) := by decide +kernel
theorem dX4_pairUp_15 : decode cX4_pairUp 15 = .ok (.iload 4, 2) := by decide +kernel
theorem dX4_pairUp_17 : decode cX4_pairUp 17 = .ok (.ifCond .eq 133, 3) := by decide +kernel
theorem dX4_pairUp_20 : decode cX4_pairUp 20 = .ok (.iload 4, 2) := by decide +kernel
theorem dX4_pairUp_22 : decode cX4_pairUp 22 = .ok (.invokestatic 124, 3) := by decide +kernel
theorem dX4_pairUp_25 : decode cX4_pairUp 25 = .ok (.istore 7, 2) := by decide +kernel
theorem dX4_pairUp_27 : decode cX4_pairUp 27 = .ok (.iload 4, 2) := by decide +kernel
theorem dX4_pairUp_29 : decode cX4_pairUp 29 = .ok (.iconst 1, 1) := by decide +kernel
theorem dX4_pairUp_30 : decode cX4_pairUp 30 = .ok (.iload 7, 2) := by decide +kernel
theorem dX4_pairUp_32 : decode cX4_pairUp 32 = .ok (.ishl, 1) := by decide +kernel
theorem dX4_pairUp_33 : decode cX4_pairUp 33 = .ok (.iconst (-1), 1) := by decide +kernel
theorem dX4_pairUp_34 : decode cX4_pairUp 34 = .ok (.ixor, 1) := by decide +kernel
theorem dX4_pairUp_35 : decode cX4_pairUp 35 = .ok (.iand, 1) := by decide +kernel
theorem dX4_pairUp_36 : decode cX4_pairUp 36 = .ok (.istore 8, 2) := by decide +kernel
theorem dX4_pairUp_38 : decode cX4_pairUp 38 = .ok (.iconst 0, 1) := by decide +kernel
theorem dX4_pairUp_39 : decode cX4_pairUp 39 = .ok (.istore 9, 2) := by decide +kernel
theorem dX4_pairUp_41 : decode cX4_pairUp 41 = .ok (.iload 9, 2) := by decide +kernel
theorem dX4_pairUp_43 : decode cX4_pairUp 43 = .ok (.bipush 9, 2) := by decide +kernel
theorem dX4_pairUp_45 : decode cX4_pairUp 45 = .ok (.if_icmp .ge 99, 3) := by decide +kernel
theorem dX4_pairUp_48 : decode cX4_pairUp 48 = .ok (.iload 8, 2) := by decide +kernel
theorem dX4_pairUp_50 : decode cX4_pairUp 50 = .ok (.iconst 1, 1) := by decide +kernel
theorem dX4_pairUp_51 : decode cX4_pairUp 51 = .ok (.iload 9, 2) := by decide +kernel
theorem dX4_pairUp_53 : decode cX4_pairUp 53 = .ok (.ishl, 1) := by decide +kernel
theorem dX4_pairUp_54 : decode cX4_pairUp 54 = .ok (.iconst (-1), 1) := by decide +kernel
theorem dX4_pairUp_55 : decode cX4_pairUp 55 = .ok (.ixor, 1) := by decide +kernel
theorem dX4_pairUp_56 : decode cX4_pairUp 56 = .ok (.iand, 1) := by decide +kernel
theorem dX4_pairUp_57 : decode cX4_pairUp 57 = .ok (.istore 10, 2) := by decide +kernel
theorem dX4_pairUp_59 : decode cX4_pairUp 59 = .ok (.iload 8, 2) := by decide +kernel
theorem dX4_pairUp_61 : decode cX4_pairUp 61 = .ok (.iload 9, 2) := by decide +kernel
theorem dX4_pairUp_63 : decode cX4_pairUp 63 = .ok (.invokestatic 95, 3) := by decide +kernel
theorem dX4_pairUp_66 : decode cX4_pairUp 66 = .ok (.ifCond .eq 72, 3) := by decide +kernel
theorem dX4_pairUp_69 : decode cX4_pairUp 69 = .ok (.iload 7, 2) := by decide +kernel
theorem dX4_pairUp_71 : decode cX4_pairUp 71 = .ok (.bipush 9, 2) := by decide +kernel
theorem dX4_pairUp_73 : decode cX4_pairUp 73 = .ok (.if_icmp .ge 65, 3) := by decide +kernel
theorem dX4_pairUp_76 : decode cX4_pairUp 76 = .ok (.aload_n 1, 1) := by decide +kernel
theorem dX4_pairUp_77 : decode cX4_pairUp 77 = .ok (.iload 7, 2) := by decide +kernel
theorem dX4_pairUp_79 : decode cX4_pairUp 79 = .ok (.iload 9, 2) := by decide +kernel
theorem dX4_pairUp_81 : decode cX4_pairUp 81 = .ok (.invokevirtual 128, 3) := by decide +kernel
theorem dX4_pairUp_84 : decode cX4_pairUp 84 = .ok (.aload_n 1, 1) := by decide +kernel
theorem dX4_pairUp_85 : decode cX4_pairUp 85 = .ok (.iload 10, 2) := by decide +kernel
theorem dX4_pairUp_87 : decode cX4_pairUp 87 = .ok (.iload 6, 2) := by decide +kernel
theorem dX4_pairUp_89 : decode cX4_pairUp 89 = .ok (.iconst 1, 1) := by decide +kernel
theorem dX4_pairUp_90 : decode cX4_pairUp 90 = .ok (.iadd, 1) := by decide +kernel
theorem dX4_pairUp_91 : decode cX4_pairUp 91 = .ok (.invokestatic 64, 3) := by decide +kernel
theorem dX4_pairUp_94 : decode cX4_pairUp 94 = .ok (.iadd, 1) := by decide +kernel
theorem dX4_pairUp_95 : decode cX4_pairUp 95 = .ok (.iload 5, 2) := by decide +kernel
theorem dX4_pairUp_97 : decode cX4_pairUp 97 = .ok (.if_icmp .ne 41, 3) := by decide +kernel
theorem dX4_pairUp_100 : decode cX4_pairUp 100 = .ok (.aload_n 0, 1) := by decide +kernel
theorem dX4_pairUp_101 : decode cX4_pairUp 101 = .ok (.getfield 38, 3) := by decide +kernel
theorem dX4_pairUp_104 : decode cX4_pairUp 104 = .ok (.iload 7, 2) := by decide +kernel
theorem dX4_pairUp_106 : decode cX4_pairUp 106 = .ok (.iload 9, 2) := by decide +kernel
theorem dX4_pairUp_108 : decode cX4_pairUp 108 = .ok (.iastore, 1) := by decide +kernel
theorem dX4_pairUp_109 : decode cX4_pairUp 109 = .ok (.aload_n 0, 1) := by decide +kernel
theorem dX4_pairUp_110 : decode cX4_pairUp 110 = .ok (.getfield 38, 3) := by decide +kernel
theorem dX4_pairUp_113 : decode cX4_pairUp 113 = .ok (.iload 9, 2) := by decide +kernel
theorem dX4_pairUp_115 : decode cX4_pairUp 115 = .ok (.iload 7, 2) := by decide +kernel
theorem dX4_pairUp_117 : decode cX4_pairUp 117 = .ok (.iastore, 1) := by decide +kernel
theorem dX4_pairUp_118 : decode cX4_pairUp 118 = .ok (.iload 5, 2) := by decide +kernel
theorem dX4_pairUp_120 : decode cX4_pairUp 120 = .ok (.aload_n 1, 1) := by decide +kernel
theorem dX4_pairUp_121 : decode cX4_pairUp 121 = .ok (.iload 7, 2) := by decide +kernel
theorem dX4_pairUp_123 : decode cX4_pairUp 123 = .ok (.iload 9, 2) := by decide +kernel
theorem dX4_pairUp_125 : decode cX4_pairUp 125 = .ok (.invokevirtual 128, 3) := by decide +kernel
theorem dX4_pairUp_128 : decode cX4_pairUp 128 = .ok (.isub, 1) := by decide +kernel
theorem dX4_pairUp_129 : decode cX4_pairUp 129 = .ok (.istore 5, 2) := by decide +kernel
theorem dX4_pairUp_131 : decode cX4_pairUp 131 = .ok (.iload 10, 2) := by decide +kernel
theorem dX4_pairUp_133 : decode cX4_pairUp 133 = .ok (.istore 4, 2) := by decide +kernel
theorem dX4_pairUp_135 : decode cX4_pairUp 135 = .ok (.goto 9, 3) := by decide +kernel
theorem dX4_pairUp_138 : decode cX4_pairUp 138 = .ok (.iinc 9 1, 3) := by decide +kernel
theorem dX4_pairUp_141 : decode cX4_pairUp 141 = .ok (.goto (-100), 3) := by decide +kernel
theorem dX4_pairUp_144 : decode cX4_pairUp 144 = .ok (.iinc 6 1, 3) := by decide +kernel
theorem dX4_pairUp_147 : decode cX4_pairUp 147 = .ok (.goto (-138), 3) := by decide +kernel
theorem dX4_pairUp_150 : decode cX4_pairUp 150 = .ok (.return_, 1) := by decide +kernel
theorem dX4_piecesAhead_0 : decode cX4_piecesAhead 0 = .ok (.aload_n 0, 1) := by decide +kernel
theorem dX4_piecesAhead_1 : decode cX4_piecesAhead 1 = .ok (.aload_n 1, 1) := by decide +kernel
theorem dX4_piecesAhead_2 : decode cX4_piecesAhead 2 = .ok (.iload_n 2, 1) := by decide +kernel
theorem dX4_piecesAhead_3 : decode cX4_piecesAhead 3 = .ok (.invokevirtual 137, 3) := by decide +kernel
theorem dX4_piecesAhead_6 : decode cX4_piecesAhead 6 = .ok (.istore_n 3, 1) := by decide +kernel
theorem dX4_piecesAhead_7 : decode cX4_piecesAhead 7 = .ok (.iconst 0, 1) := by decide +kernel
theorem dX4_piecesAhead_8 : decode cX4_piecesAhead 8 = .ok (.istore 4, 2) := by decide +kernel
theorem dX4_piecesAhead_10 : decode cX4_piecesAhead 10 = .ok (.iconst 0, 1) := by decide +kernel
theorem dX4_piecesAhead_11 : decode cX4_piecesAhead 11 = .ok (.istore 5, 2) := by decide +kernel
theorem dX4_piecesAhead_13 : decode cX4_piecesAhead 13 = .ok (.iload 5, 2) := by decide +kernel
theorem dX4_piecesAhead_15 : decode cX4_piecesAhead 15 = .ok (.aload_n 0, 1) := by decide +kernel
theorem dX4_piecesAhead_16 : decode cX4_piecesAhead 16 = .ok (.getfield 15, 3) := by decide +kernel
theorem dX4_piecesAhead_19 : decode cX4_piecesAhead 19 = .ok (.if_icmp .ge 39, 3) := by decide +kernel
theorem dX4_piecesAhead_22 : decode cX4_piecesAhead 22 = .ok (.iload 5, 2) := by decide +kernel
theorem dX4_piecesAhead_24 : decode cX4_piecesAhead 24 = .ok (.iload_n 2, 1) := by decide +kernel
theorem dX4_piecesAhead_25 : decode cX4_piecesAhead 25 = .ok (.if_icmp .eq 27, 3) := by decide +kernel
theorem dX4_piecesAhead_28 : decode cX4_piecesAhead 28 = .ok (.aload_n 1, 1) := by decide +kernel
theorem dX4_piecesAhead_29 : decode cX4_piecesAhead 29 = .ok (.aload_n 0, 1) := by decide +kernel
theorem dX4_piecesAhead_30 : decode cX4_piecesAhead 30 = .ok (.aload_n 1, 1) := by decide +kernel
theorem dX4_piecesAhead_31 : decode cX4_piecesAhead 31 = .ok (.iload 5, 2) := by decide +kernel
theorem dX4_piecesAhead_33 : decode cX4_piecesAhead 33 = .ok (.invokevirtual 137, 3) := by decide +kernel
theorem dX4_piecesAhead_36 : decode cX4_piecesAhead 36 = .ok (.iload_n 3, 1) := by decide +kernel
theorem dX4_piecesAhead_37 : decode cX4_piecesAhead 37 = .ok (.invokestatic 140, 3) := by decide +kernel
theorem dX4_piecesAhead_40 : decode cX4_piecesAhead 40 = .ok (.ifCond .eq 12, 3) := by decide +kernel
theorem dX4_piecesAhead_43 : decode cX4_piecesAhead 43 = .ok (.iload 4, 2) := by decide +kernel
theorem dX4_piecesAhead_45 : decode cX4_piecesAhead 45 = .ok (.iconst 1, 1) := by decide +kernel
theorem dX4_piecesAhead_46 : decode cX4_piecesAhead 46 = .ok (.iload 5, 2) := by decide +kernel
theorem dX4_piecesAhead_48 : decode cX4_piecesAhead 48 = .ok (.ishl, 1) := by decide +kernel
theorem dX4_piecesAhead_49 : decode cX4_piecesAhead 49 = .ok (.ior, 1) := by decide +kernel
theorem dX4_piecesAhead_50 : decode cX4_piecesAhead 50 = .ok (.istore 4, 2) := by decide +kernel
theorem dX4_piecesAhead_52 : decode cX4_piecesAhead 52 = .ok (.iinc 5 1, 3) := by decide +kernel
theorem dX4_piecesAhead_55 : decode cX4_piecesAhead 55 = .ok (.goto (-42), 3) := by decide +kernel
theorem dX4_piecesAhead_58 : decode cX4_piecesAhead 58 = .ok (.iload 4, 2) := by decide +kernel
theorem dX4_piecesAhead_60 : decode cX4_piecesAhead 60 = .ok (.ireturn, 1) := by decide +kernel
theorem dX4_partsIn_0 : decode cX4_partsIn 0 = .ok (.iconst 0, 1) := by decide +kernel
theorem dX4_partsIn_1 : decode cX4_partsIn 1 = .ok (.istore_n 3, 1) := by decide +kernel
theorem dX4_partsIn_2 : decode cX4_partsIn 2 = .ok (.iconst 0, 1) := by decide +kernel
theorem dX4_partsIn_3 : decode cX4_partsIn 3 = .ok (.istore 4, 2) := by decide +kernel
theorem dX4_partsIn_5 : decode cX4_partsIn 5 = .ok (.iload 4, 2) := by decide +kernel
theorem dX4_partsIn_7 : decode cX4_partsIn 7 = .ok (.aload_n 1, 1) := by decide +kernel
theorem dX4_partsIn_8 : decode cX4_partsIn 8 = .ok (.getfield 144, 3) := by decide +kernel
theorem dX4_partsIn_11 : decode cX4_partsIn 11 = .ok (.if_icmp .ge 33, 3) := by decide +kernel
theorem dX4_partsIn_14 : decode cX4_partsIn 14 = .ok (.aload_n 1, 1) := by decide +kernel
theorem dX4_partsIn_15 : decode cX4_partsIn 15 = .ok (.getfield 147, 3) := by decide +kernel
theorem dX4_partsIn_18 : decode cX4_partsIn 18 = .ok (.iload 4, 2) := by decide +kernel
theorem dX4_partsIn_20 : decode cX4_partsIn 20 = .ok (.iaload, 1) := by decide +kernel
theorem dX4_partsIn_21 : decode cX4_partsIn 21 = .ok (.aload_n 0, 1) := by decide +kernel
theorem dX4_partsIn_22 : decode cX4_partsIn 22 = .ok (.getfield 19, 3) := by decide +kernel
theorem dX4_partsIn_25 : decode cX4_partsIn 25 = .ok (.iload_n 2, 1) := by decide +kernel
theorem dX4_partsIn_26 : decode cX4_partsIn 26 = .ok (.iaload, 1) := by decide +kernel
theorem dX4_partsIn_27 : decode cX4_partsIn 27 = .ok (.iand, 1) := by decide +kernel
theorem dX4_partsIn_28 : decode cX4_partsIn 28 = .ok (.ifCond .eq 10, 3) := by decide +kernel
theorem dX4_partsIn_31 : decode cX4_partsIn 31 = .ok (.iload_n 3, 1) := by decide +kernel
theorem dX4_partsIn_32 : decode cX4_partsIn 32 = .ok (.iconst 1, 1) := by decide +kernel
theorem dX4_partsIn_33 : decode cX4_partsIn 33 = .ok (.iload 4, 2) := by decide +kernel
theorem dX4_partsIn_35 : decode cX4_partsIn 35 = .ok (.ishl, 1) := by decide +kernel
theorem dX4_partsIn_36 : decode cX4_partsIn 36 = .ok (.ior, 1) := by decide +kernel
theorem dX4_partsIn_37 : decode cX4_partsIn 37 = .ok (.istore_n 3, 1) := by decide +kernel
theorem dX4_partsIn_38 : decode cX4_partsIn 38 = .ok (.iinc 4 1, 3) := by decide +kernel
theorem dX4_partsIn_41 : decode cX4_partsIn 41 = .ok (.goto (-36), 3) := by decide +kernel
theorem dX4_partsIn_44 : decode cX4_partsIn 44 = .ok (.iload_n 3, 1) := by decide +kernel
theorem dX4_partsIn_45 : decode cX4_partsIn 45 = .ok (.ireturn, 1) := by decide +kernel
theorem dX4_isAnyWithin_0 : decode cX4_isAnyWithin 0 = .ok (.iconst 0, 1) := by decide +kernel
theorem dX4_isAnyWithin_1 : decode cX4_isAnyWithin 1 = .ok (.istore_n 3, 1) := by decide +kernel
theorem dX4_isAnyWithin_2 : decode cX4_isAnyWithin 2 = .ok (.iload_n 3, 1) := by decide +kernel
theorem dX4_isAnyWithin_3 : decode cX4_isAnyWithin 3 = .ok (.aload_n 0, 1) := by decide +kernel
theorem dX4_isAnyWithin_4 : decode cX4_isAnyWithin 4 = .ok (.getfield 144, 3) := by decide +kernel
theorem dX4_isAnyWithin_7 : decode cX4_isAnyWithin 7 = .ok (.if_icmp .ge 30, 3) := by decide +kernel
theorem dX4_isAnyWithin_10 : decode cX4_isAnyWithin 10 = .ok (.iload_n 1, 1) := by decide +kernel
theorem dX4_isAnyWithin_11 : decode cX4_isAnyWithin 11 = .ok (.iload_n 3, 1) := by decide +kernel
theorem dX4_isAnyWithin_12 : decode cX4_isAnyWithin 12 = .ok (.invokestatic 95, 3) := by decide +kernel
theorem dX4_isAnyWithin_15 : decode cX4_isAnyWithin 15 = .ok (.ifCond .eq 16, 3) := by decide +kernel
theorem dX4_isAnyWithin_18 : decode cX4_isAnyWithin 18 = .ok (.aload_n 0, 1) := by decide +kernel
theorem dX4_isAnyWithin_19 : decode cX4_isAnyWithin 19 = .ok (.getfield 150, 3) := by decide +kernel
theorem dX4_isAnyWithin_22 : decode cX4_isAnyWithin 22 = .ok (.iload_n 3, 1) := by decide +kernel
theorem dX4_isAnyWithin_23 : decode cX4_isAnyWithin 23 = .ok (.iaload, 1) := by decide +kernel
theorem dX4_isAnyWithin_24 : decode cX4_isAnyWithin 24 = .ok (.iload_n 2, 1) := by decide +kernel
theorem dX4_isAnyWithin_25 : decode cX4_isAnyWithin 25 = .ok (.iand, 1) := by decide +kernel
theorem dX4_isAnyWithin_26 : decode cX4_isAnyWithin 26 = .ok (.ifCond .eq 5, 3) := by decide +kernel
theorem dX4_isAnyWithin_29 : decode cX4_isAnyWithin 29 = .ok (.iconst 1, 1) := by decide +kernel
theorem dX4_isAnyWithin_30 : decode cX4_isAnyWithin 30 = .ok (.ireturn, 1) := by decide +kernel
theorem dX4_isAnyWithin_31 : decode cX4_isAnyWithin 31 = .ok (.iinc 3 1, 3) := by decide +kernel
theorem dX4_isAnyWithin_34 : decode cX4_isAnyWithin 34 = .ok (.goto (-32), 3) := by decide +kernel
theorem dX4_isAnyWithin_37 : decode cX4_isAnyWithin 37 = .ok (.iconst 0, 1) := by decide +kernel
theorem dX4_isAnyWithin_38 : decode cX4_isAnyWithin 38 = .ok (.ireturn, 1) := by decide +kernel
theorem dX4_findTour_0 : decode cX4_findTour 0 = .ok (.iconst 1, 1) := by decide +kernel
theorem dX4_findTour_1 : decode cX4_findTour 1 = .ok (.aload_n 0, 1) := by decide +kernel
theorem dX4_findTour_2 : decode cX4_findTour 2 = .ok (.getfield 15, 3) := by decide +kernel
theorem dX4_findTour_5 : decode cX4_findTour 5 = .ok (.ishl, 1) := by decide +kernel
theorem dX4_findTour_6 : decode cX4_findTour 6 = .ok (.iconst 1, 1) := by decide +kernel
theorem dX4_findTour_7 : decode cX4_findTour 7 = .ok (.isub, 1) := by decide +kernel
theorem dX4_findTour_8 : decode cX4_findTour 8 = .ok (.istore_n 3, 1) := by decide +kernel
theorem dX4_findTour_9 : decode cX4_findTour 9 = .ok (.aload_n 0, 1) := by decide +kernel
theorem dX4_findTour_10 : decode cX4_findTour 10 = .ok (.aload_n 1, 1) := by decide +kernel
theorem dX4_findTour_11 : decode cX4_findTour 11 = .ok (.aload_n 0, 1) := by decide +kernel
theorem dX4_findTour_12 : decode cX4_findTour 12 = .ok (.iload_n 2, 1) := by decide +kernel
theorem dX4_findTour_13 : decode cX4_findTour 13 = .ok (.iload_n 3, 1) := by decide +kernel
theorem dX4_findTour_14 : decode cX4_findTour 14 = .ok (.iconst 0, 1) := by decide +kernel
theorem dX4_findTour_15 : decode cX4_findTour 15 = .ok (.invokestatic 153, 3) := by decide +kernel
theorem dX4_findTour_18 : decode cX4_findTour 18 = .ok (.putfield 44, 3) := by decide +kernel
theorem dX4_findTour_21 : decode cX4_findTour 21 = .ok (.aload_n 0, 1) := by decide +kernel
theorem dX4_findTour_22 : decode cX4_findTour 22 = .ok (.getfield 44, 3) := by decide +kernel
theorem dX4_findTour_25 : decode cX4_findTour 25 = .ok (.istore 4, 2) := by decide +kernel
theorem dX4_findTour_27 : decode cX4_findTour 27 = .ok (.iload_n 2, 1) := by decide +kernel
theorem dX4_findTour_28 : decode cX4_findTour 28 = .ok (.istore 5, 2) := by decide +kernel
theorem dX4_findTour_30 : decode cX4_findTour 30 = .ok (.iconst 0, 1) := by decide +kernel
theorem dX4_findTour_31 : decode cX4_findTour 31 = .ok (.istore 6, 2) := by decide +kernel
theorem dX4_findTour_33 : decode cX4_findTour 33 = .ok (.iload 6, 2) := by decide +kernel
theorem dX4_findTour_35 : decode cX4_findTour 35 = .ok (.aload_n 0, 1) := by decide +kernel
theorem dX4_findTour_36 : decode cX4_findTour 36 = .ok (.getfield 15, 3) := by decide +kernel
theorem dX4_findTour_39 : decode cX4_findTour 39 = .ok (.if_icmp .ge 133, 3) := by decide +kernel
theorem dX4_findTour_42 : decode cX4_findTour 42 = .ok (.iload 4, 2) := by decide +kernel
theorem dX4_findTour_44 : decode cX4_findTour 44 = .ok (.ldc 127, 2) := by decide +kernel
theorem dX4_findTour_46 : decode cX4_findTour 46 = .ok (.if_icmp .ge 126, 3) := by decide +kernel
theorem dX4_findTour_49 : decode cX4_findTour 49 = .ok (.iconst 0, 1) := by decide +kernel
theorem dX4_findTour_50 : decode cX4_findTour 50 = .ok (.istore 7, 2) := by decide +kernel
theorem dX4_findTour_52 : decode cX4_findTour 52 = .ok (.iload 7, 2) := by decide +kernel
theorem dX4_findTour_54 : decode cX4_findTour 54 = .ok (.aload_n 0, 1) := by decide +kernel
theorem dX4_findTour_55 : decode cX4_findTour 55 = .ok (.getfield 15, 3) := by decide +kernel
theorem dX4_findTour_58 : decode cX4_findTour 58 = .ok (.if_icmp .ge 108, 3) := by decide +kernel
theorem dX4_findTour_61 : decode cX4_findTour 61 = .ok (.iload_n 3, 1) := by decide +kernel
theorem dX4_findTour_62 : decode cX4_findTour 62 = .ok (.iconst 1, 1) := by decide +kernel
theorem dX4_findTour_63 : decode cX4_findTour 63 = .ok (.iload 7, 2) := by decide +kernel
theorem dX4_findTour_65 : decode cX4_findTour 65 = .ok (.ishl, 1) := by decide +kernel
theorem dX4_findTour_66 : decode cX4_findTour 66 = .ok (.iconst (-1), 1) := by decide +kernel
theorem dX4_findTour_67 : decode cX4_findTour 67 = .ok (.ixor, 1) := by decide +kernel
theorem dX4_findTour_68 : decode cX4_findTour 68 = .ok (.iand, 1) := by decide +kernel
theorem dX4_findTour_69 : decode cX4_findTour 69 = .ok (.istore 8, 2) := by decide +kernel
theorem dX4_findTour_71 : decode cX4_findTour 71 = .ok (.aload_n 0, 1) := by decide +kernel
theorem dX4_findTour_72 : decode cX4_findTour 72 = .ok (.iload 7, 2) := by decide +kernel
theorem dX4_findTour_74 : decode cX4_findTour 74 = .ok (.iload_n 3, 1) := by decide +kernel
theorem dX4_findTour_75 : decode cX4_findTour 75 = .ok (.invokevirtual 157, 3) := by decide +kernel
theorem dX4_findTour_78 : decode cX4_findTour 78 = .ok (.ifCond .eq 82, 3) := by decide +kernel
theorem dX4_findTour_81 : decode cX4_findTour 81 = .ok (.aload_n 1, 1) := by decide +kernel
theorem dX4_findTour_82 : decode cX4_findTour 82 = .ok (.iload 5, 2) := by decide +kernel
theorem dX4_findTour_84 : decode cX4_findTour 84 = .ok (.aload_n 0, 1) := by decide +kernel
theorem dX4_findTour_85 : decode cX4_findTour 85 = .ok (.getfield 29, 3) := by decide +kernel
theorem dX4_findTour_88 : decode cX4_findTour 88 = .ok (.iload 7, 2) := by decide +kernel
theorem dX4_findTour_90 : decode cX4_findTour 90 = .ok (.iaload, 1) := by decide +kernel
theorem dX4_findTour_91 : decode cX4_findTour 91 = .ok (.invokevirtual 128, 3) := by decide +kernel
theorem dX4_findTour_94 : decode cX4_findTour 94 = .ok (.aload_n 1, 1) := by decide +kernel
theorem dX4_findTour_95 : decode cX4_findTour 95 = .ok (.aload_n 0, 1) := by decide +kernel
theorem dX4_findTour_96 : decode cX4_findTour 96 = .ok (.aload_n 0, 1) := by decide +kernel
theorem dX4_findTour_97 : decode cX4_findTour 97 = .ok (.getfield 29, 3) := by decide +kernel
theorem dX4_findTour_100 : decode cX4_findTour 100 = .ok (.iload 7, 2) := by decide +kernel
theorem dX4_findTour_102 : decode cX4_findTour 102 = .ok (.iaload, 1) := by decide +kernel
theorem dX4_findTour_103 : decode cX4_findTour 103 = .ok (.iload 8, 2) := by decide +kernel
theorem dX4_findTour_105 : decode cX4_findTour 105 = .ok (.iload 6, 2) := by decide +kernel
theorem dX4_findTour_107 : decode cX4_findTour 107 = .ok (.iconst 1, 1) := by decide +kernel
theorem dX4_findTour_108 : decode cX4_findTour 108 = .ok (.iadd, 1) := by decide +kernel
theorem dX4_findTour_109 : decode cX4_findTour 109 = .ok (.invokestatic 153, 3) := by decide +kernel
theorem dX4_findTour_112 : decode cX4_findTour 112 = .ok (.iadd, 1) := by decide +kernel
theorem dX4_findTour_113 : decode cX4_findTour 113 = .ok (.iload 4, 2) := by decide +kernel
theorem dX4_findTour_115 : decode cX4_findTour 115 = .ok (.if_icmp .ne 45, 3) := by decide +kernel
theorem dX4_findTour_118 : decode cX4_findTour 118 = .ok (.aload_n 0, 1) := by decide +kernel
theorem dX4_findTour_119 : decode cX4_findTour 119 = .ok (.getfield 41, 3) := by decide +kernel
theorem dX4_findTour_122 : decode cX4_findTour 122 = .ok (.iload 6, 2) := by decide +kernel
theorem dX4_findTour_124 : decode cX4_findTour 124 = .ok (.iload 7, 2) := by decide +kernel
theorem dX4_findTour_126 : decode cX4_findTour 126 = .ok (.iastore, 1) := by decide +kernel
theorem dX4_findTour_127 : decode cX4_findTour 127 = .ok (.iload 4, 2) := by decide +kernel
theorem dX4_findTour_129 : decode cX4_findTour 129 = .ok (.aload_n 1, 1) := by decide +kernel
theorem dX4_findTour_130 : decode cX4_findTour 130 = .ok (.iload 5, 2) := by decide +kernel
theorem dX4_findTour_132 : decode cX4_findTour 132 = .ok (.aload_n 0, 1) := by decide +kernel
theorem dX4_findTour_133 : decode cX4_findTour 133 = .ok (.getfield 29, 3) := by decide +kernel
theorem dX4_findTour_136 : decode cX4_findTour 136 = .ok (.iload 7, 2) := by decide +kernel
theorem dX4_findTour_138 : decode cX4_findTour 138 = .ok (.iaload, 1) := by decide +kernel
theorem dX4_findTour_139 : decode cX4_findTour 139 = .ok (.invokevirtual 128, 3) := by decide +kernel
theorem dX4_findTour_142 : decode cX4_findTour 142 = .ok (.isub, 1) := by decide +kernel
theorem dX4_findTour_143 : decode cX4_findTour 143 = .ok (.istore 4, 2) := by decide +kernel
theorem dX4_findTour_145 : decode cX4_findTour 145 = .ok (.aload_n 0, 1) := by decide +kernel
theorem dX4_findTour_146 : decode cX4_findTour 146 = .ok (.getfield 29, 3) := by decide +kernel
theorem dX4_findTour_149 : decode cX4_findTour 149 = .ok (.iload 7, 2) := by decide +kernel
theorem dX4_findTour_151 : decode cX4_findTour 151 = .ok (.iaload, 1) := by decide +kernel
theorem dX4_findTour_152 : decode cX4_findTour 152 = .ok (.istore 5, 2) := by decide +kernel
theorem dX4_findTour_154 : decode cX4_findTour 154 = .ok (.iload 8, 2) := by decide +kernel
theorem dX4_findTour_156 : decode cX4_findTour 156 = .ok (.istore_n 3, 1) := by decide +kernel
theorem dX4_findTour_157 : decode cX4_findTour 157 = .ok (.goto 9, 3) := by decide +kernel
theorem dX4_findTour_160 : decode cX4_findTour 160 = .ok (.iinc 7 1, 3) := by decide +kernel
theorem dX4_findTour_163 : decode cX4_findTour 163 = .ok (.goto (-111), 3) := by decide +kernel
theorem dX4_findTour_166 : decode cX4_findTour 166 = .ok (.iinc 6 1, 3) := by decide +kernel
theorem dX4_findTour_169 : decode cX4_findTour 169 = .ok (.goto (-136), 3) := by decide +kernel
theorem dX4_findTour_172 : decode cX4_findTour 172 = .ok (.return_, 1) := by decide +kernel
theorem dX4_mayBeNext_0 : decode cX4_mayBeNext 0 = .ok (.iload_n 2, 1) := by decide +kernel
theorem dX4_mayBeNext_1 : decode cX4_mayBeNext 1 = .ok (.iload_n 1, 1) := by decide +kernel
theorem dX4_mayBeNext_2 : decode cX4_mayBeNext 2 = .ok (.invokestatic 95, 3) := by decide +kernel
theorem dX4_mayBeNext_5 : decode cX4_mayBeNext 5 = .ok (.ifCond .eq 18, 3) := by decide +kernel
theorem dX4_mayBeNext_8 : decode cX4_mayBeNext 8 = .ok (.aload_n 0, 1) := by decide +kernel
theorem dX4_mayBeNext_9 : decode cX4_mayBeNext 9 = .ok (.getfield 35, 3) := by decide +kernel
theorem dX4_mayBeNext_12 : decode cX4_mayBeNext 12 = .ok (.iload_n 1, 1) := by decide +kernel
theorem dX4_mayBeNext_13 : decode cX4_mayBeNext 13 = .ok (.iaload, 1) := by decide +kernel
theorem dX4_mayBeNext_14 : decode cX4_mayBeNext 14 = .ok (.iload_n 2, 1) := by decide +kernel
theorem dX4_mayBeNext_15 : decode cX4_mayBeNext 15 = .ok (.iand, 1) := by decide +kernel
theorem dX4_mayBeNext_16 : decode cX4_mayBeNext 16 = .ok (.ifCond .ne 7, 3) := by decide +kernel
theorem dX4_mayBeNext_19 : decode cX4_mayBeNext 19 = .ok (.iconst 1, 1) := by decide +kernel
theorem dX4_mayBeNext_20 : decode cX4_mayBeNext 20 = .ok (.goto 4, 3) := by decide +kernel
theorem dX4_mayBeNext_23 : decode cX4_mayBeNext 23 = .ok (.iconst 0, 1) := by decide +kernel
theorem dX4_mayBeNext_24 : decode cX4_mayBeNext 24 = .ok (.ireturn, 1) := by decide +kernel
theorem dX4_leastTour_0 : decode cX4_leastTour 0 = .ok (.iload_n 3, 1) := by decide +kernel
theorem dX4_leastTour_1 : decode cX4_leastTour 1 = .ok (.ifCond .eq 9, 3) := by decide +kernel
theorem dX4_leastTour_4 : decode cX4_leastTour 4 = .ok (.iload 4, 2) := by decide +kernel
theorem dX4_leastTour_6 : decode cX4_leastTour 6 = .ok (.iconst 4, 1) := by decide +kernel
theorem dX4_leastTour_7 : decode cX4_leastTour 7 = .ok (.if_icmp .lt 5, 3) := by decide +kernel
theorem dX4_leastTour_10 : decode cX4_leastTour 10 = .ok (.iconst 0, 1) := by decide +kernel
theorem dX4_leastTour_11 : decode cX4_leastTour 11 = .ok (.ireturn, 1) := by decide +kernel
theorem dX4_leastTour_12 : decode cX4_leastTour 12 = .ok (.ldc 127, 2) := by decide +kernel
theorem dX4_leastTour_14 : decode cX4_leastTour 14 = .ok (.istore 5, 2) := by decide +kernel
theorem dX4_leastTour_16 : decode cX4_leastTour 16 = .ok (.iconst 0, 1) := by decide +kernel
theorem dX4_leastTour_17 : decode cX4_leastTour 17 = .ok (.istore 6, 2) := by decide +kernel
theorem dX4_leastTour_19 : decode cX4_leastTour 19 = .ok (.iload 6, 2) := by decide +kernel
theorem dX4_leastTour_21 : decode cX4_leastTour 21 = .ok (.aload_n 1, 1) := by decide +kernel
theorem dX4_leastTour_22 : decode cX4_leastTour 22 = .ok (.getfield 15, 3) := by decide +kernel
theorem dX4_leastTour_25 : decode cX4_leastTour 25 = .ok (.if_icmp .ge 71, 3) := by decide +kernel
theorem dX4_leastTour_28 : decode cX4_leastTour 28 = .ok (.aload_n 1, 1) := by decide +kernel
theorem dX4_leastTour_29 : decode cX4_leastTour 29 = .ok (.iload 6, 2) := by decide +kernel
theorem dX4_leastTour_31 : decode cX4_leastTour 31 = .ok (.iload_n 3, 1) := by decide +kernel
theorem dX4_leastTour_32 : decode cX4_leastTour 32 = .ok (.invokevirtual 157, 3) := by decide +kernel
theorem dX4_leastTour_35 : decode cX4_leastTour 35 = .ok (.ifCond .eq 55, 3) := by decide +kernel
theorem dX4_leastTour_38 : decode cX4_leastTour 38 = .ok (.iload_n 3, 1) := by decide +kernel
theorem dX4_leastTour_39 : decode cX4_leastTour 39 = .ok (.iconst 1, 1) := by decide +kernel
theorem dX4_leastTour_40 : decode cX4_leastTour 40 = .ok (.iload 6, 2) := by decide +kernel
theorem dX4_leastTour_42 : decode cX4_leastTour 42 = .ok (.ishl, 1) := by decide +kernel
theorem dX4_leastTour_43 : decode cX4_leastTour 43 = .ok (.iconst (-1), 1) := by decide +kernel
theorem dX4_leastTour_44 : decode cX4_leastTour 44 = .ok (.ixor, 1) := by decide +kernel
theorem dX4_leastTour_45 : decode cX4_leastTour 45 = .ok (.iand, 1) := by decide +kernel
theorem dX4_leastTour_46 : decode cX4_leastTour 46 = .ok (.istore 7, 2) := by decide +kernel
theorem dX4_leastTour_48 : decode cX4_leastTour 48 = .ok (.aload_n 0, 1) := by decide +kernel
theorem dX4_leastTour_49 : decode cX4_leastTour 49 = .ok (.iload_n 2, 1) := by decide +kernel
theorem dX4_leastTour_50 : decode cX4_leastTour 50 = .ok (.aload_n 1, 1) := by decide +kernel
theorem dX4_leastTour_51 : decode cX4_leastTour 51 = .ok (.getfield 29, 3) := by decide +kernel
theorem dX4_leastTour_54 : decode cX4_leastTour 54 = .ok (.iload 6, 2) := by decide +kernel
theorem dX4_leastTour_56 : decode cX4_leastTour 56 = .ok (.iaload, 1) := by decide +kernel
theorem dX4_leastTour_57 : decode cX4_leastTour 57 = .ok (.invokevirtual 128, 3) := by decide +kernel
theorem dX4_leastTour_60 : decode cX4_leastTour 60 = .ok (.aload_n 0, 1) := by decide +kernel
theorem dX4_leastTour_61 : decode cX4_leastTour 61 = .ok (.aload_n 1, 1) := by decide +kernel
theorem dX4_leastTour_62 : decode cX4_leastTour 62 = .ok (.aload_n 1, 1) := by decide +kernel
theorem dX4_leastTour_63 : decode cX4_leastTour 63 = .ok (.getfield 29, 3) := by decide +kernel
theorem dX4_leastTour_66 : decode cX4_leastTour 66 = .ok (.iload 6, 2) := by decide +kernel
theorem dX4_leastTour_68 : decode cX4_leastTour 68 = .ok (.iaload, 1) := by decide +kernel
theorem dX4_leastTour_69 : decode cX4_leastTour 69 = .ok (.iload 7, 2) := by decide +kernel
theorem dX4_leastTour_71 : decode cX4_leastTour 71 = .ok (.iload 4, 2) := by decide +kernel
theorem dX4_leastTour_73 : decode cX4_leastTour 73 = .ok (.iconst 1, 1) := by decide +kernel
theorem dX4_leastTour_74 : decode cX4_leastTour 74 = .ok (.iadd, 1) := by decide +kernel
theorem dX4_leastTour_75 : decode cX4_leastTour 75 = .ok (.invokestatic 153, 3) := by decide +kernel
theorem dX4_leastTour_78 : decode cX4_leastTour 78 = .ok (.iadd, 1) := by decide +kernel
theorem dX4_leastTour_79 : decode cX4_leastTour 79 = .ok (.istore 8, 2) := by decide +kernel
theorem dX4_leastTour_81 : decode cX4_leastTour 81 = .ok (.iload 5, 2) := by decide +kernel
theorem dX4_leastTour_83 : decode cX4_leastTour 83 = .ok (.iload 8, 2) := by decide +kernel
theorem dX4_leastTour_85 : decode cX4_leastTour 85 = .ok (.invokestatic 132, 3) := by decide +kernel
theorem dX4_leastTour_88 : decode cX4_leastTour 88 = .ok (.istore 5, 2) := by decide +kernel
theorem dX4_leastTour_90 : decode cX4_leastTour 90 = .ok (.iinc 6 1, 3) := by decide +kernel
theorem dX4_leastTour_93 : decode cX4_leastTour 93 = .ok (.goto (-74), 3) := by decide +kernel
theorem dX4_leastTour_96 : decode cX4_leastTour 96 = .ok (.iload 5, 2) := by decide +kernel
theorem dX4_leastTour_98 : decode cX4_leastTour 98 = .ok (.ireturn, 1) := by decide +kernel
theorem dX5_init_0 : decode cX5_init 0 = .ok (.aload_n 0, 1) := by decide +kernel
theorem dX5_init_1 : decode cX5_init 1 = .ok (.invokespecial 3, 3) := by decide +kernel
theorem dX5_init_4 : decode cX5_init 4 = .ok (.aload_n 0, 1) := by decide +kernel
theorem dX5_init_5 : decode cX5_init 5 = .ok (.bipush (-9), 2) := by decide +kernel
theorem dX5_init_7 : decode cX5_init 7 = .ok (.putfield 9, 3) := by decide +kernel
theorem dX5_init_10 : decode cX5_init 10 = .ok (.aload_n 0, 1) := by decide +kernel
theorem dX5_init_11 : decode cX5_init 11 = .ok (.iconst 0, 1) := by decide +kernel
theorem dX5_init_12 : decode cX5_init 12 = .ok (.putfield 15, 3) := by decide +kernel
theorem dX5_init_15 : decode cX5_init 15 = .ok (.aload_n 0, 1) := by decide +kernel
theorem dX5_init_16 : decode cX5_init 16 = .ok (.bipush 18, 2) := by decide +kernel
theorem dX5_init_18 : decode cX5_init 18 = .ok (.newarray .int, 2) := by decide +kernel
theorem dX5_init_20 : decode cX5_init 20 = .ok (.putfield 18, 3) := by decide +kernel
theorem dX5_init_23 : decode cX5_init 23 = .ok (.aload_n 0, 1) := by decide +kernel
theorem dX5_init_24 : decode cX5_init 24 = .ok (.bipush 18, 2) := by decide +kernel
theorem dX5_init_26 : decode cX5_init 26 = .ok (.newarray .int, 2) := by decide +kernel
theorem dX5_init_28 : decode cX5_init 28 = .ok (.putfield 22, 3) := by decide +kernel
theorem dX5_init_31 : decode cX5_init 31 = .ok (.aload_n 0, 1) := by decide +kernel
theorem dX5_init_32 : decode cX5_init 32 = .ok (.new 25, 3) := by decide +kernel
theorem dX5_init_35 : decode cX5_init 35 = .ok (.dup, 1) := by decide +kernel
theorem dX5_init_36 : decode cX5_init 36 = .ok (.invokespecial 27, 3) := by decide +kernel
theorem dX5_init_39 : decode cX5_init 39 = .ok (.putfield 28, 3) := by decide +kernel
theorem dX5_init_42 : decode cX5_init 42 = .ok (.return_, 1) := by decide +kernel
theorem dX5_go_0 : decode cX5_go 0 = .ok (.aload_n 0, 1) := by decide +kernel
theorem dX5_go_1 : decode cX5_go 1 = .ok (.getfield 9, 3) := by decide +kernel
theorem dX5_go_4 : decode cX5_go 4 = .ok (.iload_n 3, 1) := by decide +kernel
theorem dX5_go_5 : decode cX5_go 5 = .ok (.if_icmp .eq 11, 3) := by decide +kernel
theorem dX5_go_8 : decode cX5_go 8 = .ok (.aload_n 2, 1) := by decide +kernel
theorem dX5_go_9 : decode cX5_go 9 = .ok (.iload_n 3, 1) := by decide +kernel
theorem dX5_go_10 : decode cX5_go 10 = .ok (.invokevirtual 32, 3) := by decide +kernel
theorem dX5_go_13 : decode cX5_go 13 = .ok (.ifCond .ne 4, 3) := by decide +kernel
theorem dX5_go_16 : decode cX5_go 16 = .ok (.return_, 1) := by decide +kernel
theorem dX5_go_17 : decode cX5_go 17 = .ok (.aload_n 0, 1) := by decide +kernel
theorem dX5_go_18 : decode cX5_go 18 = .ok (.aload_n 1, 1) := by decide +kernel
theorem dX5_go_19 : decode cX5_go 19 = .ok (.aload_n 2, 1) := by decide +kernel
theorem dX5_go_20 : decode cX5_go 20 = .ok (.iload_n 3, 1) := by decide +kernel
theorem dX5_go_21 : decode cX5_go 21 = .ok (.invokevirtual 38, 3) := by decide +kernel
theorem dX5_go_24 : decode cX5_go 24 = .ok (.aload_n 2, 1) := by decide +kernel
theorem dX5_go_25 : decode cX5_go 25 = .ok (.iload_n 3, 1) := by decide +kernel
theorem dX5_go_26 : decode cX5_go 26 = .ok (.invokevirtual 42, 3) := by decide +kernel
theorem dX5_go_29 : decode cX5_go 29 = .ok (.bipush 18, 2) := by decide +kernel
theorem dX5_go_31 : decode cX5_go 31 = .ok (.invokestatic 46, 3) := by decide +kernel
theorem dX5_go_34 : decode cX5_go 34 = .ok (.istore 4, 2) := by decide +kernel
theorem dX5_go_36 : decode cX5_go 36 = .ok (.aload_n 2, 1) := by decide +kernel
theorem dX5_go_37 : decode cX5_go 37 = .ok (.iload_n 3, 1) := by decide +kernel
theorem dX5_go_38 : decode cX5_go 38 = .ok (.invokevirtual 52, 3) := by decide +kernel
theorem dX5_go_41 : decode cX5_go 41 = .ok (.istore 5, 2) := by decide +kernel
theorem dX5_go_43 : decode cX5_go 43 = .ok (.aload_n 0, 1) := by decide +kernel
theorem dX5_go_44 : decode cX5_go 44 = .ok (.iconst 0, 1) := by decide +kernel
theorem dX5_go_45 : decode cX5_go 45 = .ok (.putfield 15, 3) := by decide +kernel
theorem dX5_go_48 : decode cX5_go 48 = .ok (.aload_n 0, 1) := by decide +kernel
theorem dX5_go_49 : decode cX5_go 49 = .ok (.getfield 15, 3) := by decide +kernel
theorem dX5_go_52 : decode cX5_go 52 = .ok (.iload 4, 2) := by decide +kernel
theorem dX5_go_54 : decode cX5_go 54 = .ok (.if_icmp .ge 36, 3) := by decide +kernel
theorem dX5_go_57 : decode cX5_go 57 = .ok (.aload_n 0, 1) := by decide +kernel
theorem dX5_go_58 : decode cX5_go 58 = .ok (.iload 5, 2) := by decide +kernel
theorem dX5_go_60 : decode cX5_go 60 = .ok (.invokevirtual 55, 3) := by decide +kernel
theorem dX5_go_63 : decode cX5_go 63 = .ok (.ifCond .eq 27, 3) := by decide +kernel
theorem dX5_go_66 : decode cX5_go 66 = .ok (.aload_n 0, 1) := by decide +kernel
theorem dX5_go_67 : decode cX5_go 67 = .ok (.getfield 18, 3) := by decide +kernel
theorem dX5_go_70 : decode cX5_go 70 = .ok (.aload_n 0, 1) := by decide +kernel
theorem dX5_go_71 : decode cX5_go 71 = .ok (.getfield 15, 3) := by decide +kernel
theorem dX5_go_74 : decode cX5_go 74 = .ok (.iaload, 1) := by decide +kernel
theorem dX5_go_75 : decode cX5_go 75 = .ok (.istore 5, 2) := by decide +kernel
theorem dX5_go_77 : decode cX5_go 77 = .ok (.aload_n 0, 1) := by decide +kernel
theorem dX5_go_78 : decode cX5_go 78 = .ok (.dup, 1) := by decide +kernel
theorem dX5_go_79 : decode cX5_go 79 = .ok (.getfield 15, 3) := by decide +kernel
theorem dX5_go_82 : decode cX5_go 82 = .ok (.iconst 1, 1) := by decide +kernel
theorem dX5_go_83 : decode cX5_go 83 = .ok (.iadd, 1) := by decide +kernel
theorem dX5_go_84 : decode cX5_go 84 = .ok (.putfield 15, 3) := by decide +kernel
theorem dX5_go_87 : decode cX5_go 87 = .ok (.goto (-39), 3) := by decide +kernel
theorem dX5_go_90 : decode cX5_go 90 = .ok (.aload_n 0, 1) := by decide +kernel
theorem dX5_go_91 : decode cX5_go 91 = .ok (.iload_n 3, 1) := by decide +kernel
theorem dX5_go_92 : decode cX5_go 92 = .ok (.putfield 9, 3) := by decide +kernel
theorem dX5_go_95 : decode cX5_go 95 = .ok (.return_, 1) := by decide +kernel
theorem dX5_layOut_0 : decode cX5_layOut 0 = .ok (.aload_n 0, 1) := by decide +kernel
theorem dX5_layOut_1 : decode cX5_layOut 1 = .ok (.getfield 28, 3) := by decide +kernel
theorem dX5_layOut_4 : decode cX5_layOut 4 = .ok (.aload_n 1, 1) := by decide +kernel
theorem dX5_layOut_5 : decode cX5_layOut 5 = .ok (.aload_n 2, 1) := by decide +kernel
theorem dX5_layOut_6 : decode cX5_layOut 6 = .ok (.getfield 58, 3) := by decide +kernel
theorem dX5_layOut_9 : decode cX5_layOut 9 = .ok (.iload_n 3, 1) := by decide +kernel
theorem dX5_layOut_10 : decode cX5_layOut 10 = .ok (.iaload, 1) := by decide +kernel
theorem dX5_layOut_11 : decode cX5_layOut 11 = .ok (.invokevirtual 61, 3) := by decide +kernel
theorem dX5_layOut_14 : decode cX5_layOut 14 = .ok (.iconst 0, 1) := by decide +kernel
theorem dX5_layOut_15 : decode cX5_layOut 15 = .ok (.istore 4, 2) := by decide +kernel
theorem dX5_layOut_17 : decode cX5_layOut 17 = .ok (.iload 4, 2) := by decide +kernel
theorem dX5_layOut_19 : decode cX5_layOut 19 = .ok (.bipush 9, 2) := by decide +kernel
theorem dX5_layOut_21 : decode cX5_layOut 21 = .ok (.if_icmp .ge 54, 3) := by decide +kernel
theorem dX5_layOut_24 : decode cX5_layOut 24 = .ok (.aload_n 2, 1) := by decide +kernel
theorem dX5_layOut_25 : decode cX5_layOut 25 = .ok (.getfield 65, 3) := by decide +kernel
theorem dX5_layOut_28 : decode cX5_layOut 28 = .ok (.iload_n 3, 1) := by decide +kernel
theorem dX5_layOut_29 : decode cX5_layOut 29 = .ok (.iaload, 1) := by decide +kernel
theorem dX5_layOut_30 : decode cX5_layOut 30 = .ok (.iload 4, 2) := by decide +kernel
theorem dX5_layOut_32 : decode cX5_layOut 32 = .ok (.invokestatic 68, 3) := by decide +kernel
theorem dX5_layOut_35 : decode cX5_layOut 35 = .ok (.ifCond .eq 34, 3) := by decide +kernel
theorem dX5_layOut_38 : decode cX5_layOut 38 = .ok (.aload_n 2, 1) := by decide +kernel
theorem dX5_layOut_39 : decode cX5_layOut 39 = .ok (.getfield 72, 3) := by decide +kernel
theorem dX5_layOut_42 : decode cX5_layOut 42 = .ok (.iload 4, 2) := by decide +kernel
theorem dX5_layOut_44 : decode cX5_layOut 44 = .ok (.iaload, 1) := by decide +kernel
theorem dX5_layOut_45 : decode cX5_layOut 45 = .ok (.iload 4, 2) := by decide +kernel
theorem dX5_layOut_47 : decode cX5_layOut 47 = .ok (.if_icmp .le 22, 3) := by decide +kernel
theorem dX5_layOut_50 : decode cX5_layOut 50 = .ok (.aload_n 0, 1) := by decide +kernel
theorem dX5_layOut_51 : decode cX5_layOut 51 = .ok (.getfield 28, 3) := by decide +kernel
theorem dX5_layOut_54 : decode cX5_layOut 54 = .ok (.getfield 75, 3) := by decide +kernel
theorem dX5_layOut_57 : decode cX5_layOut 57 = .ok (.iload 4, 2) := by decide +kernel
theorem dX5_layOut_59 : decode cX5_layOut 59 = .ok (.aload_n 2, 1) := by decide +kernel
theorem dX5_layOut_60 : decode cX5_layOut 60 = .ok (.getfield 72, 3) := by decide +kernel
theorem dX5_layOut_63 : decode cX5_layOut 63 = .ok (.iload 4, 2) := by decide +kernel
theorem dX5_layOut_65 : decode cX5_layOut 65 = .ok (.iaload, 1) := by decide +kernel
theorem dX5_layOut_66 : decode cX5_layOut 66 = .ok (.invokestatic 78, 3) := by decide +kernel
theorem dX5_layOut_69 : decode cX5_layOut 69 = .ok (.iinc 4 1, 3) := by decide +kernel
theorem dX5_layOut_72 : decode cX5_layOut 72 = .ok (.goto (-55), 3) := by decide +kernel
theorem dX5_layOut_75 : decode cX5_layOut 75 = .ok (.return_, 1) := by decide +kernel
theorem dX5_takesStep_0 : decode cX5_takesStep 0 = .ok (.iload_n 1, 1) := by decide +kernel
theorem dX5_takesStep_1 : decode cX5_takesStep 1 = .ok (.ifCond .lt 18, 3) := by decide +kernel
theorem dX5_takesStep_4 : decode cX5_takesStep 4 = .ok (.iload_n 1, 1) := by decide +kernel
theorem dX5_takesStep_5 : decode cX5_takesStep 5 = .ok (.bipush 9, 2) := by decide +kernel
theorem dX5_takesStep_7 : decode cX5_takesStep 7 = .ok (.if_icmp .ge 12, 3) := by decide +kernel
theorem dX5_takesStep_10 : decode cX5_takesStep 10 = .ok (.aload_n 0, 1) := by decide +kernel
theorem dX5_takesStep_11 : decode cX5_takesStep 11 = .ok (.getfield 15, 3) := by decide +kernel
theorem dX5_takesStep_14 : decode cX5_takesStep 14 = .ok (.bipush 18, 2) := by decide +kernel
theorem dX5_takesStep_16 : decode cX5_takesStep 16 = .ok (.if_icmp .lt 5, 3) := by decide +kernel
theorem dX5_takesStep_19 : decode cX5_takesStep 19 = .ok (.iconst 0, 1) := by decide +kernel
theorem dX5_takesStep_20 : decode cX5_takesStep 20 = .ok (.ireturn, 1) := by decide +kernel
theorem dX5_takesStep_21 : decode cX5_takesStep 21 = .ok (.iconst 0, 1) := by decide +kernel
theorem dX5_takesStep_22 : decode cX5_takesStep 22 = .ok (.istore_n 2, 1) := by decide +kernel
theorem dX5_takesStep_23 : decode cX5_takesStep 23 = .ok (.iload_n 2, 1) := by decide +kernel
theorem dX5_takesStep_24 : decode cX5_takesStep 24 = .ok (.bipush 9, 2) := by decide +kernel
theorem dX5_takesStep_26 : decode cX5_takesStep 26 = .ok (.if_icmp .ge 62, 3) := by decide +kernel
theorem dX5_takesStep_29 : decode cX5_takesStep 29 = .ok (.aload_n 0, 1) := by decide +kernel
theorem dX5_takesStep_30 : decode cX5_takesStep 30 = .ok (.aload_n 0, 1) := by decide +kernel
theorem dX5_takesStep_31 : decode cX5_takesStep 31 = .ok (.getfield 28, 3) := by decide +kernel
theorem dX5_takesStep_34 : decode cX5_takesStep 34 = .ok (.getfield 82, 3) := by decide +kernel
theorem dX5_takesStep_37 : decode cX5_takesStep 37 = .ok (.iload_n 1, 1) := by decide +kernel
theorem dX5_takesStep_38 : decode cX5_takesStep 38 = .ok (.iload_n 2, 1) := by decide +kernel
theorem dX5_takesStep_39 : decode cX5_takesStep 39 = .ok (.invokevirtual 83, 3) := by decide +kernel
theorem dX5_takesStep_42 : decode cX5_takesStep 42 = .ok (.ifCond .eq 10, 3) := by decide +kernel
theorem dX5_takesStep_45 : decode cX5_takesStep 45 = .ok (.aload_n 0, 1) := by decide +kernel
theorem dX5_takesStep_46 : decode cX5_takesStep 46 = .ok (.iload_n 2, 1) := by decide +kernel
theorem dX5_takesStep_47 : decode cX5_takesStep 47 = .ok (.iconst 1, 1) := by decide +kernel
theorem dX5_takesStep_48 : decode cX5_takesStep 48 = .ok (.invokevirtual 87, 3) := by decide +kernel
theorem dX5_takesStep_51 : decode cX5_takesStep 51 = .ok (.ireturn, 1) := by decide +kernel
theorem dX5_takesStep_52 : decode cX5_takesStep 52 = .ok (.aload_n 0, 1) := by decide +kernel
theorem dX5_takesStep_53 : decode cX5_takesStep 53 = .ok (.getfield 15, 3) := by decide +kernel
theorem dX5_takesStep_56 : decode cX5_takesStep 56 = .ok (.ifCond .le 26, 3) := by decide +kernel
theorem dX5_takesStep_59 : decode cX5_takesStep 59 = .ok (.aload_n 0, 1) := by decide +kernel
theorem dX5_takesStep_60 : decode cX5_takesStep 60 = .ok (.aload_n 0, 1) := by decide +kernel
theorem dX5_takesStep_61 : decode cX5_takesStep 61 = .ok (.getfield 28, 3) := by decide +kernel
theorem dX5_takesStep_64 : decode cX5_takesStep 64 = .ok (.getfield 75, 3) := by decide +kernel
theorem dX5_takesStep_67 : decode cX5_takesStep 67 = .ok (.iload_n 1, 1) := by decide +kernel
theorem dX5_takesStep_68 : decode cX5_takesStep 68 = .ok (.iload_n 2, 1) := by decide +kernel
theorem dX5_takesStep_69 : decode cX5_takesStep 69 = .ok (.invokevirtual 83, 3) := by decide +kernel
theorem dX5_takesStep_72 : decode cX5_takesStep 72 = .ok (.ifCond .eq 10, 3) := by decide +kernel
theorem dX5_takesStep_75 : decode cX5_takesStep 75 = .ok (.aload_n 0, 1) := by decide +kernel
theorem dX5_takesStep_76 : decode cX5_takesStep 76 = .ok (.iload_n 2, 1) := by decide +kernel
theorem dX5_takesStep_77 : decode cX5_takesStep 77 = .ok (.iconst 0, 1) := by decide +kernel
theorem dX5_takesStep_78 : decode cX5_takesStep 78 = .ok (.invokevirtual 87, 3) := by decide +kernel
theorem dX5_takesStep_81 : decode cX5_takesStep 81 = .ok (.ireturn, 1) := by decide +kernel
theorem dX5_takesStep_82 : decode cX5_takesStep 82 = .ok (.iinc 2 1, 3) := by decide +kernel
theorem dX5_takesStep_85 : decode cX5_takesStep 85 = .ok (.goto (-62), 3) := by decide +kernel
theorem dX5_takesStep_88 : decode cX5_takesStep 88 = .ok (.iconst 0, 1) := by decide +kernel
theorem dX5_takesStep_89 : decode cX5_takesStep 89 = .ok (.ireturn, 1) := by decide +kernel
theorem dX5_takesTie_0 : decode cX5_takesTie 0 = .ok (.aload_n 1, 1) := by decide +kernel
theorem dX5_takesTie_1 : decode cX5_takesTie 1 = .ok (.iload_n 2, 1) := by decide +kernel
theorem dX5_takesTie_2 : decode cX5_takesTie 2 = .ok (.iaload, 1) := by decide +kernel
theorem dX5_takesTie_3 : decode cX5_takesTie 3 = .ok (.iload_n 3, 1) := by decide +kernel
theorem dX5_takesTie_4 : decode cX5_takesTie 4 = .ok (.invokestatic 68, 3) := by decide +kernel
theorem dX5_takesTie_7 : decode cX5_takesTie 7 = .ok (.ifCond .ne 5, 3) := by decide +kernel
theorem dX5_takesTie_10 : decode cX5_takesTie 10 = .ok (.iconst 0, 1) := by decide +kernel
theorem dX5_takesTie_11 : decode cX5_takesTie 11 = .ok (.ireturn, 1) := by decide +kernel
theorem dX5_takesTie_12 : decode cX5_takesTie 12 = .ok (.aload_n 1, 1) := by decide +kernel
theorem dX5_takesTie_13 : decode cX5_takesTie 13 = .ok (.iload_n 2, 1) := by decide +kernel
theorem dX5_takesTie_14 : decode cX5_takesTie 14 = .ok (.iload_n 3, 1) := by decide +kernel
theorem dX5_takesTie_15 : decode cX5_takesTie 15 = .ok (.invokestatic 78, 3) := by decide +kernel
theorem dX5_takesTie_18 : decode cX5_takesTie 18 = .ok (.aload_n 0, 1) := by decide +kernel
theorem dX5_takesTie_19 : decode cX5_takesTie 19 = .ok (.getfield 28, 3) := by decide +kernel
theorem dX5_takesTie_22 : decode cX5_takesTie 22 = .ok (.iload_n 3, 1) := by decide +kernel
theorem dX5_takesTie_23 : decode cX5_takesTie 23 = .ok (.invokevirtual 90, 3) := by decide +kernel
theorem dX5_takesTie_26 : decode cX5_takesTie 26 = .ok (.ifCond .eq 5, 3) := by decide +kernel
theorem dX5_takesTie_29 : decode cX5_takesTie 29 = .ok (.iconst 1, 1) := by decide +kernel
theorem dX5_takesTie_30 : decode cX5_takesTie 30 = .ok (.ireturn, 1) := by decide +kernel
theorem dX5_takesTie_31 : decode cX5_takesTie 31 = .ok (.aload_n 1, 1) := by decide +kernel
theorem dX5_takesTie_32 : decode cX5_takesTie 32 = .ok (.iload_n 2, 1) := by decide +kernel
theorem dX5_takesTie_33 : decode cX5_takesTie 33 = .ok (.iload_n 3, 1) := by decide +kernel
theorem dX5_takesTie_34 : decode cX5_takesTie 34 = .ok (.invokestatic 78, 3) := by decide +kernel
theorem dX5_takesTie_37 : decode cX5_takesTie 37 = .ok (.iconst 0, 1) := by decide +kernel
theorem dX5_takesTie_38 : decode cX5_takesTie 38 = .ok (.ireturn, 1) := by decide +kernel
theorem dX5_notes_0 : decode cX5_notes 0 = .ok (.aload_n 0, 1) := by decide +kernel
theorem dX5_notes_1 : decode cX5_notes 1 = .ok (.getfield 18, 3) := by decide +kernel
theorem dX5_notes_4 : decode cX5_notes 4 = .ok (.aload_n 0, 1) := by decide +kernel
theorem dX5_notes_5 : decode cX5_notes 5 = .ok (.getfield 15, 3) := by decide +kernel
theorem dX5_notes_8 : decode cX5_notes 8 = .ok (.iload_n 1, 1) := by decide +kernel
theorem dX5_notes_9 : decode cX5_notes 9 = .ok (.iastore, 1) := by decide +kernel
theorem dX5_notes_10 : decode cX5_notes 10 = .ok (.aload_n 0, 1) := by decide +kernel
theorem dX5_notes_11 : decode cX5_notes 11 = .ok (.getfield 22, 3) := by decide +kernel
theorem dX5_notes_14 : decode cX5_notes 14 = .ok (.aload_n 0, 1) := by decide +kernel
theorem dX5_notes_15 : decode cX5_notes 15 = .ok (.getfield 15, 3) := by decide +kernel
theorem dX5_notes_18 : decode cX5_notes 18 = .ok (.iload_n 2, 1) := by decide +kernel
theorem dX5_notes_19 : decode cX5_notes 19 = .ok (.iastore, 1) := by decide +kernel
theorem dX5_notes_20 : decode cX5_notes 20 = .ok (.iconst 1, 1) := by decide +kernel
theorem dX5_notes_21 : decode cX5_notes 21 = .ok (.ireturn, 1) := by decide +kernel
theorem dX6_init_0 : decode cX6_init 0 = .ok (.aload_n 0, 1) := by decide +kernel
theorem dX6_init_1 : decode cX6_init 1 = .ok (.invokespecial 3, 3) := by decide +kernel
theorem dX6_init_4 : decode cX6_init 4 = .ok (.aload_n 0, 1) := by decide +kernel
theorem dX6_init_5 : decode cX6_init 5 = .ok (.bipush 9, 2) := by decide +kernel
theorem dX6_init_7 : decode cX6_init 7 = .ok (.newarray .int, 2) := by decide +kernel
theorem dX6_init_9 : decode cX6_init 9 = .ok (.putfield 9, 3) := by decide +kernel
theorem dX6_init_12 : decode cX6_init 12 = .ok (.aload_n 0, 1) := by decide +kernel
theorem dX6_init_13 : decode cX6_init 13 = .ok (.bipush 9, 2) := by decide +kernel
theorem dX6_init_15 : decode cX6_init 15 = .ok (.newarray .int, 2) := by decide +kernel
theorem dX6_init_17 : decode cX6_init 17 = .ok (.putfield 15, 3) := by decide +kernel
theorem dX6_init_20 : decode cX6_init 20 = .ok (.return_, 1) := by decide +kernel
theorem dX6_lay_0 : decode cX6_lay 0 = .ok (.aload_n 0, 1) := by decide +kernel
theorem dX6_lay_1 : decode cX6_lay 1 = .ok (.getfield 9, 3) := by decide +kernel
theorem dX6_lay_4 : decode cX6_lay 4 = .ok (.iconst 0, 1) := by decide +kernel
theorem dX6_lay_5 : decode cX6_lay 5 = .ok (.invokestatic 18, 3) := by decide +kernel
theorem dX6_lay_8 : decode cX6_lay 8 = .ok (.aload_n 0, 1) := by decide +kernel
theorem dX6_lay_9 : decode cX6_lay 9 = .ok (.getfield 15, 3) := by decide +kernel
theorem dX6_lay_12 : decode cX6_lay 12 = .ok (.iconst 0, 1) := by decide +kernel
theorem dX6_lay_13 : decode cX6_lay 13 = .ok (.invokestatic 18, 3) := by decide +kernel
theorem dX6_lay_16 : decode cX6_lay 16 = .ok (.iconst 0, 1) := by decide +kernel
theorem dX6_lay_17 : decode cX6_lay 17 = .ok (.istore_n 3, 1) := by decide +kernel
theorem dX6_lay_18 : decode cX6_lay 18 = .ok (.iload_n 3, 1) := by decide +kernel
theorem dX6_lay_19 : decode cX6_lay 19 = .ok (.aload_n 1, 1) := by decide +kernel
theorem dX6_lay_20 : decode cX6_lay 20 = .ok (.getfield 24, 3) := by decide +kernel
theorem dX6_lay_23 : decode cX6_lay 23 = .ok (.if_icmp .ge 36, 3) := by decide +kernel
theorem dX6_lay_26 : decode cX6_lay 26 = .ok (.iload_n 2, 1) := by decide +kernel
theorem dX6_lay_27 : decode cX6_lay 27 = .ok (.iload_n 3, 1) := by decide +kernel
theorem dX6_lay_28 : decode cX6_lay 28 = .ok (.invokestatic 29, 3) := by decide +kernel
theorem dX6_lay_31 : decode cX6_lay 31 = .ok (.ifCond .eq 22, 3) := by decide +kernel
theorem dX6_lay_34 : decode cX6_lay 34 = .ok (.aload_n 0, 1) := by decide +kernel
theorem dX6_lay_35 : decode cX6_lay 35 = .ok (.getfield 9, 3) := by decide +kernel
theorem dX6_lay_38 : decode cX6_lay 38 = .ok (.aload_n 1, 1) := by decide +kernel
theorem dX6_lay_39 : decode cX6_lay 39 = .ok (.getfield 33, 3) := by decide +kernel
theorem dX6_lay_42 : decode cX6_lay 42 = .ok (.iload_n 3, 1) := by decide +kernel
theorem dX6_lay_43 : decode cX6_lay 43 = .ok (.iaload, 1) := by decide +kernel
theorem dX6_lay_44 : decode cX6_lay 44 = .ok (.aload_n 1, 1) := by decide +kernel
theorem dX6_lay_45 : decode cX6_lay 45 = .ok (.getfield 36, 3) := by decide +kernel
theorem dX6_lay_48 : decode cX6_lay 48 = .ok (.iload_n 3, 1) := by decide +kernel
theorem dX6_lay_49 : decode cX6_lay 49 = .ok (.iaload, 1) := by decide +kernel
theorem dX6_lay_50 : decode cX6_lay 50 = .ok (.invokestatic 39, 3) := by decide +kernel
theorem dX6_lay_53 : decode cX6_lay 53 = .ok (.iinc 3 1, 3) := by decide +kernel
theorem dX6_lay_56 : decode cX6_lay 56 = .ok (.goto (-38), 3) := by decide +kernel
theorem dX6_lay_59 : decode cX6_lay 59 = .ok (.return_, 1) := by decide +kernel
theorem dX6_turn_0 : decode cX6_turn 0 = .ok (.iload_n 1, 1) := by decide +kernel
theorem dX6_turn_1 : decode cX6_turn 1 = .ok (.ifCond .lt 37, 3) := by decide +kernel
theorem dX6_turn_4 : decode cX6_turn 4 = .ok (.iload_n 1, 1) := by decide +kernel
theorem dX6_turn_5 : decode cX6_turn 5 = .ok (.aload_n 0, 1) := by decide +kernel
theorem dX6_turn_6 : decode cX6_turn 6 = .ok (.arraylength, 1) := by decide +kernel
theorem dX6_turn_7 : decode cX6_turn 7 = .ok (.if_icmp .ge 31, 3) := by decide +kernel
theorem dX6_turn_10 : decode cX6_turn 10 = .ok (.iload_n 2, 1) := by decide +kernel
theorem dX6_turn_11 : decode cX6_turn 11 = .ok (.ifCond .lt 27, 3) := by decide +kernel
theorem dX6_turn_14 : decode cX6_turn 14 = .ok (.iload_n 2, 1) := by decide +kernel
theorem dX6_turn_15 : decode cX6_turn 15 = .ok (.aload_n 0, 1) := by decide +kernel
theorem dX6_turn_16 : decode cX6_turn 16 = .ok (.arraylength, 1) := by decide +kernel
theorem dX6_turn_17 : decode cX6_turn 17 = .ok (.if_icmp .ge 21, 3) := by decide +kernel
theorem dX6_turn_20 : decode cX6_turn 20 = .ok (.aload_n 0, 1) := by decide +kernel
theorem dX6_turn_21 : decode cX6_turn 21 = .ok (.iload_n 1, 1) := by decide +kernel
theorem dX6_turn_22 : decode cX6_turn 22 = .ok (.dup2, 1) := by decide +kernel
theorem dX6_turn_23 : decode cX6_turn 23 = .ok (.iaload, 1) := by decide +kernel
theorem dX6_turn_24 : decode cX6_turn 24 = .ok (.iconst 1, 1) := by decide +kernel
theorem dX6_turn_25 : decode cX6_turn 25 = .ok (.iload_n 2, 1) := by decide +kernel
theorem dX6_turn_26 : decode cX6_turn 26 = .ok (.ishl, 1) := by decide +kernel
theorem dX6_turn_27 : decode cX6_turn 27 = .ok (.ixor, 1) := by decide +kernel
theorem dX6_turn_28 : decode cX6_turn 28 = .ok (.iastore, 1) := by decide +kernel
theorem dX6_turn_29 : decode cX6_turn 29 = .ok (.aload_n 0, 1) := by decide +kernel
theorem dX6_turn_30 : decode cX6_turn 30 = .ok (.iload_n 2, 1) := by decide +kernel
theorem dX6_turn_31 : decode cX6_turn 31 = .ok (.dup2, 1) := by decide +kernel
theorem dX6_turn_32 : decode cX6_turn 32 = .ok (.iaload, 1) := by decide +kernel
theorem dX6_turn_33 : decode cX6_turn 33 = .ok (.iconst 1, 1) := by decide +kernel
theorem dX6_turn_34 : decode cX6_turn 34 = .ok (.iload_n 1, 1) := by decide +kernel
theorem dX6_turn_35 : decode cX6_turn 35 = .ok (.ishl, 1) := by decide +kernel
theorem dX6_turn_36 : decode cX6_turn 36 = .ok (.ixor, 1) := by decide +kernel
theorem dX6_turn_37 : decode cX6_turn 37 = .ok (.iastore, 1) := by decide +kernel
theorem dX6_turn_38 : decode cX6_turn 38 = .ok (.return_, 1) := by decide +kernel
theorem dX6_reach_0 : decode cX6_reach 0 = .ok (.iconst 1, 1) := by decide +kernel
theorem dX6_reach_1 : decode cX6_reach 1 = .ok (.iload_n 1, 1) := by decide +kernel
theorem dX6_reach_2 : decode cX6_reach 2 = .ok (.ishl, 1) := by decide +kernel
theorem dX6_reach_3 : decode cX6_reach 3 = .ok (.istore_n 2, 1) := by decide +kernel
theorem dX6_reach_4 : decode cX6_reach 4 = .ok (.iload_n 2, 1) := by decide +kernel
theorem dX6_reach_5 : decode cX6_reach 5 = .ok (.istore_n 3, 1) := by decide +kernel
theorem dX6_reach_6 : decode cX6_reach 6 = .ok (.iconst 0, 1) := by decide +kernel
theorem dX6_reach_7 : decode cX6_reach 7 = .ok (.istore 4, 2) := by decide +kernel
theorem dX6_reach_9 : decode cX6_reach 9 = .ok (.iload 4, 2) := by decide +kernel
theorem dX6_reach_11 : decode cX6_reach 11 = .ok (.bipush 9, 2) := by decide +kernel
theorem dX6_reach_13 : decode cX6_reach 13 = .ok (.if_icmp .ge 73, 3) := by decide +kernel
theorem dX6_reach_16 : decode cX6_reach 16 = .ok (.iload_n 3, 1) := by decide +kernel
theorem dX6_reach_17 : decode cX6_reach 17 = .ok (.ifCond .eq 69, 3) := by decide +kernel
theorem dX6_reach_20 : decode cX6_reach 20 = .ok (.iconst 0, 1) := by decide +kernel
theorem dX6_reach_21 : decode cX6_reach 21 = .ok (.istore 5, 2) := by decide +kernel
theorem dX6_reach_23 : decode cX6_reach 23 = .ok (.iconst 0, 1) := by decide +kernel
theorem dX6_reach_24 : decode cX6_reach 24 = .ok (.istore 6, 2) := by decide +kernel
theorem dX6_reach_26 : decode cX6_reach 26 = .ok (.iload 6, 2) := by decide +kernel
theorem dX6_reach_28 : decode cX6_reach 28 = .ok (.bipush 9, 2) := by decide +kernel
theorem dX6_reach_30 : decode cX6_reach 30 = .ok (.if_icmp .ge 38, 3) := by decide +kernel
theorem dX6_reach_33 : decode cX6_reach 33 = .ok (.iload_n 3, 1) := by decide +kernel
theorem dX6_reach_34 : decode cX6_reach 34 = .ok (.iload 6, 2) := by decide +kernel
theorem dX6_reach_36 : decode cX6_reach 36 = .ok (.invokestatic 29, 3) := by decide +kernel
theorem dX6_reach_39 : decode cX6_reach 39 = .ok (.ifCond .eq 23, 3) := by decide +kernel
theorem dX6_reach_42 : decode cX6_reach 42 = .ok (.iload 5, 2) := by decide +kernel
theorem dX6_reach_44 : decode cX6_reach 44 = .ok (.aload_n 0, 1) := by decide +kernel
theorem dX6_reach_45 : decode cX6_reach 45 = .ok (.getfield 9, 3) := by decide +kernel
theorem dX6_reach_48 : decode cX6_reach 48 = .ok (.iload 6, 2) := by decide +kernel
theorem dX6_reach_50 : decode cX6_reach 50 = .ok (.iaload, 1) := by decide +kernel
theorem dX6_reach_51 : decode cX6_reach 51 = .ok (.aload_n 0, 1) := by decide +kernel
theorem dX6_reach_52 : decode cX6_reach 52 = .ok (.getfield 15, 3) := by decide +kernel
theorem dX6_reach_55 : decode cX6_reach 55 = .ok (.iload 6, 2) := by decide +kernel
theorem dX6_reach_57 : decode cX6_reach 57 = .ok (.iaload, 1) := by decide +kernel
theorem dX6_reach_58 : decode cX6_reach 58 = .ok (.ior, 1) := by decide +kernel
theorem dX6_reach_59 : decode cX6_reach 59 = .ok (.ior, 1) := by decide +kernel
theorem dX6_reach_60 : decode cX6_reach 60 = .ok (.istore 5, 2) := by decide +kernel
theorem dX6_reach_62 : decode cX6_reach 62 = .ok (.iinc 6 1, 3) := by decide +kernel
theorem dX6_reach_65 : decode cX6_reach 65 = .ok (.goto (-39), 3) := by decide +kernel
theorem dX6_reach_68 : decode cX6_reach 68 = .ok (.iload 5, 2) := by decide +kernel
theorem dX6_reach_70 : decode cX6_reach 70 = .ok (.iload_n 2, 1) := by decide +kernel
theorem dX6_reach_71 : decode cX6_reach 71 = .ok (.iconst (-1), 1) := by decide +kernel
theorem dX6_reach_72 : decode cX6_reach 72 = .ok (.ixor, 1) := by decide +kernel
theorem dX6_reach_73 : decode cX6_reach 73 = .ok (.iand, 1) := by decide +kernel
theorem dX6_reach_74 : decode cX6_reach 74 = .ok (.istore_n 3, 1) := by decide +kernel
theorem dX6_reach_75 : decode cX6_reach 75 = .ok (.iload_n 2, 1) := by decide +kernel
theorem dX6_reach_76 : decode cX6_reach 76 = .ok (.iload 5, 2) := by decide +kernel
theorem dX6_reach_78 : decode cX6_reach 78 = .ok (.ior, 1) := by decide +kernel
theorem dX6_reach_79 : decode cX6_reach 79 = .ok (.istore_n 2, 1) := by decide +kernel
theorem dX6_reach_80 : decode cX6_reach 80 = .ok (.iinc 4 1, 3) := by decide +kernel
theorem dX6_reach_83 : decode cX6_reach 83 = .ok (.goto (-74), 3) := by decide +kernel
theorem dX6_reach_86 : decode cX6_reach 86 = .ok (.iload_n 2, 1) := by decide +kernel
theorem dX6_reach_87 : decode cX6_reach 87 = .ok (.ireturn, 1) := by decide +kernel
theorem dX6_allReachedFrom_0 : decode cX6_allReachedFrom 0 = .ok (.aload_n 0, 1) := by decide +kernel
theorem dX6_allReachedFrom_1 : decode cX6_allReachedFrom 1 = .ok (.iload_n 1, 1) := by decide +kernel
theorem dX6_allReachedFrom_2 : decode cX6_allReachedFrom 2 = .ok (.invokevirtual 43, 3) := by decide +kernel
theorem dX6_allReachedFrom_5 : decode cX6_allReachedFrom 5 = .ok (.istore_n 2, 1) := by decide +kernel
theorem dX6_allReachedFrom_6 : decode cX6_allReachedFrom 6 = .ok (.iconst 0, 1) := by decide +kernel
theorem dX6_allReachedFrom_7 : decode cX6_allReachedFrom 7 = .ok (.istore_n 3, 1) := by decide +kernel
theorem dX6_allReachedFrom_8 : decode cX6_allReachedFrom 8 = .ok (.iload_n 3, 1) := by decide +kernel
theorem dX6_allReachedFrom_9 : decode cX6_allReachedFrom 9 = .ok (.bipush 9, 2) := by decide +kernel
theorem dX6_allReachedFrom_11 : decode cX6_allReachedFrom 11 = .ok (.if_icmp .ge 35, 3) := by decide +kernel
theorem dX6_allReachedFrom_14 : decode cX6_allReachedFrom 14 = .ok (.aload_n 0, 1) := by decide +kernel
theorem dX6_allReachedFrom_15 : decode cX6_allReachedFrom 15 = .ok (.getfield 9, 3) := by decide +kernel
theorem dX6_allReachedFrom_18 : decode cX6_allReachedFrom 18 = .ok (.iload_n 3, 1) := by decide +kernel
theorem dX6_allReachedFrom_19 : decode cX6_allReachedFrom 19 = .ok (.iaload, 1) := by decide +kernel
theorem dX6_allReachedFrom_20 : decode cX6_allReachedFrom 20 = .ok (.aload_n 0, 1) := by decide +kernel
theorem dX6_allReachedFrom_21 : decode cX6_allReachedFrom 21 = .ok (.getfield 15, 3) := by decide +kernel
theorem dX6_allReachedFrom_24 : decode cX6_allReachedFrom 24 = .ok (.iload_n 3, 1) := by decide +kernel
theorem dX6_allReachedFrom_25 : decode cX6_allReachedFrom 25 = .ok (.iaload, 1) := by decide +kernel
theorem dX6_allReachedFrom_26 : decode cX6_allReachedFrom 26 = .ok (.ior, 1) := by decide +kernel
theorem dX6_allReachedFrom_27 : decode cX6_allReachedFrom 27 = .ok (.ifCond .eq 13, 3) := by decide +kernel
theorem dX6_allReachedFrom_30 : decode cX6_allReachedFrom 30 = .ok (.iload_n 2, 1) := by decide +kernel
theorem dX6_allReachedFrom_31 : decode cX6_allReachedFrom 31 = .ok (.iload_n 3, 1) := by decide +kernel
theorem dX6_allReachedFrom_32 : decode cX6_allReachedFrom 32 = .ok (.invokestatic 29, 3) := by decide +kernel
theorem dX6_allReachedFrom_35 : decode cX6_allReachedFrom 35 = .ok (.ifCond .ne 5, 3) := by decide +kernel
theorem dX6_allReachedFrom_38 : decode cX6_allReachedFrom 38 = .ok (.iconst 0, 1) := by decide +kernel
theorem dX6_allReachedFrom_39 : decode cX6_allReachedFrom 39 = .ok (.ireturn, 1) := by decide +kernel
theorem dX6_allReachedFrom_40 : decode cX6_allReachedFrom 40 = .ok (.iinc 3 1, 3) := by decide +kernel
theorem dX6_allReachedFrom_43 : decode cX6_allReachedFrom 43 = .ok (.goto (-35), 3) := by decide +kernel
theorem dX6_allReachedFrom_46 : decode cX6_allReachedFrom 46 = .ok (.iconst 1, 1) := by decide +kernel
theorem dX6_allReachedFrom_47 : decode cX6_allReachedFrom 47 = .ok (.ireturn, 1) := by decide +kernel
theorem dX7_init_0 : decode cX7_init 0 = .ok (.aload_n 0, 1) := by decide +kernel
theorem dX7_init_1 : decode cX7_init 1 = .ok (.invokespecial 3, 3) := by decide +kernel
theorem dX7_init_4 : decode cX7_init 4 = .ok (.aload_n 0, 1) := by decide +kernel
theorem dX7_init_5 : decode cX7_init 5 = .ok (.iconst 0, 1) := by decide +kernel
theorem dX7_init_6 : decode cX7_init 6 = .ok (.putfield 9, 3) := by decide +kernel
theorem dX7_init_9 : decode cX7_init 9 = .ok (.aload_n 0, 1) := by decide +kernel
theorem dX7_init_10 : decode cX7_init 10 = .ok (.bipush 6, 2) := by decide +kernel
theorem dX7_init_12 : decode cX7_init 12 = .ok (.newarray .int, 2) := by decide +kernel
theorem dX7_init_14 : decode cX7_init 14 = .ok (.putfield 15, 3) := by decide +kernel
theorem dX7_init_17 : decode cX7_init 17 = .ok (.aload_n 0, 1) := by decide +kernel
theorem dX7_init_18 : decode cX7_init 18 = .ok (.bipush 6, 2) := by decide +kernel
theorem dX7_init_20 : decode cX7_init 20 = .ok (.newarray .int, 2) := by decide +kernel
theorem dX7_init_22 : decode cX7_init 22 = .ok (.putfield 19, 3) := by decide +kernel
theorem dX7_init_25 : decode cX7_init 25 = .ok (.aload_n 0, 1) := by decide +kernel
theorem dX7_init_26 : decode cX7_init 26 = .ok (.bipush 6, 2) := by decide +kernel
theorem dX7_init_28 : decode cX7_init 28 = .ok (.newarray .int, 2) := by decide +kernel
theorem dX7_init_30 : decode cX7_init 30 = .ok (.putfield 22, 3) := by decide +kernel
theorem dX7_init_33 : decode cX7_init 33 = .ok (.aload_n 0, 1) := by decide +kernel
theorem dX7_init_34 : decode cX7_init 34 = .ok (.bipush 81, 2) := by decide +kernel
theorem dX7_init_36 : decode cX7_init 36 = .ok (.newarray .int, 2) := by decide +kernel
theorem dX7_init_38 : decode cX7_init 38 = .ok (.putfield 25, 3) := by decide +kernel
theorem dX7_init_41 : decode cX7_init 41 = .ok (.aload_n 0, 1) := by decide +kernel
theorem dX7_init_42 : decode cX7_init 42 = .ok (.new 28, 3) := by decide +kernel
theorem dX7_init_45 : decode cX7_init 45 = .ok (.dup, 1) := by decide +kernel
theorem dX7_init_46 : decode cX7_init 46 = .ok (.invokespecial 30, 3) := by decide +kernel
theorem dX7_init_49 : decode cX7_init 49 = .ok (.putfield 31, 3) := by decide +kernel
theorem dX7_init_52 : decode cX7_init 52 = .ok (.return_, 1) := by decide +kernel
theorem dX7_lose_0 : decode cX7_lose 0 = .ok (.aload_n 0, 1) := by decide +kernel
theorem dX7_lose_1 : decode cX7_lose 1 = .ok (.iconst 0, 1) := by decide +kernel
theorem dX7_lose_2 : decode cX7_lose 2 = .ok (.putfield 9, 3) := by decide +kernel
theorem dX7_lose_5 : decode cX7_lose 5 = .ok (.return_, 1) := by decide +kernel
theorem dX7_add_0 : decode cX7_add 0 = .ok (.aload_n 0, 1) := by decide +kernel
theorem dX7_add_1 : decode cX7_add 1 = .ok (.getfield 9, 3) := by decide +kernel
theorem dX7_add_4 : decode cX7_add 4 = .ok (.ifCond .lt 12, 3) := by decide +kernel
theorem dX7_add_7 : decode cX7_add 7 = .ok (.aload_n 0, 1) := by decide +kernel
theorem dX7_add_8 : decode cX7_add 8 = .ok (.getfield 9, 3) := by decide +kernel
theorem dX7_add_11 : decode cX7_add 11 = .ok (.bipush 6, 2) := by decide +kernel
theorem dX7_add_13 : decode cX7_add 13 = .ok (.if_icmp .lt 5, 3) := by decide +kernel
theorem dX7_add_16 : decode cX7_add 16 = .ok (.iconst 0, 1) := by decide +kernel
theorem dX7_add_17 : decode cX7_add 17 = .ok (.ireturn, 1) := by decide +kernel
theorem dX7_add_18 : decode cX7_add 18 = .ok (.aload_n 0, 1) := by decide +kernel
theorem dX7_add_19 : decode cX7_add 19 = .ok (.getfield 15, 3) := by decide +kernel
theorem dX7_add_22 : decode cX7_add 22 = .ok (.aload_n 0, 1) := by decide +kernel
theorem dX7_add_23 : decode cX7_add 23 = .ok (.getfield 9, 3) := by decide +kernel
theorem dX7_add_26 : decode cX7_add 26 = .ok (.iload_n 1, 1) := by decide +kernel
theorem dX7_add_27 : decode cX7_add 27 = .ok (.iastore, 1) := by decide +kernel
theorem dX7_add_28 : decode cX7_add 28 = .ok (.aload_n 0, 1) := by decide +kernel
theorem dX7_add_29 : decode cX7_add 29 = .ok (.getfield 19, 3) := by decide +kernel
theorem dX7_add_32 : decode cX7_add 32 = .ok (.aload_n 0, 1) := by decide +kernel
theorem dX7_add_33 : decode cX7_add 33 = .ok (.getfield 9, 3) := by decide +kernel
theorem dX7_add_36 : decode cX7_add 36 = .ok (.iload_n 2, 1) := by decide +kernel
theorem dX7_add_37 : decode cX7_add 37 = .ok (.iastore, 1) := by decide +kernel
theorem dX7_add_38 : decode cX7_add 38 = .ok (.aload_n 0, 1) := by decide +kernel
theorem dX7_add_39 : decode cX7_add 39 = .ok (.getfield 22, 3) := by decide +kernel
theorem dX7_add_42 : decode cX7_add 42 = .ok (.aload_n 0, 1) := by decide +kernel
theorem dX7_add_43 : decode cX7_add 43 = .ok (.getfield 9, 3) := by decide +kernel
theorem dX7_add_46 : decode cX7_add 46 = .ok (.iload_n 3, 1) := by decide +kernel
theorem dX7_add_47 : decode cX7_add 47 = .ok (.iastore, 1) := by decide +kernel
theorem dX7_add_48 : decode cX7_add 48 = .ok (.aload_n 0, 1) := by decide +kernel
theorem dX7_add_49 : decode cX7_add 49 = .ok (.dup, 1) := by decide +kernel
theorem dX7_add_50 : decode cX7_add 50 = .ok (.getfield 9, 3) := by decide +kernel
theorem dX7_add_53 : decode cX7_add 53 = .ok (.iconst 1, 1) := by decide +kernel
theorem dX7_add_54 : decode cX7_add 54 = .ok (.iadd, 1) := by decide +kernel
theorem dX7_add_55 : decode cX7_add 55 = .ok (.putfield 9, 3) := by decide +kernel
theorem dX7_add_58 : decode cX7_add 58 = .ok (.iconst 1, 1) := by decide +kernel
theorem dX7_add_59 : decode cX7_add 59 = .ok (.ireturn, 1) := by decide +kernel
theorem dX7_suspects_0 : decode cX7_suspects 0 = .ok (.iconst 0, 1) := by decide +kernel
theorem dX7_suspects_1 : decode cX7_suspects 1 = .ok (.istore_n 3, 1) := by decide +kernel
theorem dX7_suspects_2 : decode cX7_suspects 2 = .ok (.iconst 0, 1) := by decide +kernel
theorem dX7_suspects_3 : decode cX7_suspects 3 = .ok (.istore 4, 2) := by decide +kernel
theorem dX7_suspects_5 : decode cX7_suspects 5 = .ok (.iload 4, 2) := by decide +kernel
theorem dX7_suspects_7 : decode cX7_suspects 7 = .ok (.aload_n 1, 1) := by decide +kernel
theorem dX7_suspects_8 : decode cX7_suspects 8 = .ok (.getfield 35, 3) := by decide +kernel
theorem dX7_suspects_11 : decode cX7_suspects 11 = .ok (.if_icmp .ge 48, 3) := by decide +kernel
theorem dX7_suspects_14 : decode cX7_suspects 14 = .ok (.iload_n 2, 1) := by decide +kernel
theorem dX7_suspects_15 : decode cX7_suspects 15 = .ok (.iload 4, 2) := by decide +kernel
theorem dX7_suspects_17 : decode cX7_suspects 17 = .ok (.invokestatic 40, 3) := by decide +kernel
theorem dX7_suspects_20 : decode cX7_suspects 20 = .ok (.ifCond .eq 33, 3) := by decide +kernel
theorem dX7_suspects_23 : decode cX7_suspects 23 = .ok (.aload_n 0, 1) := by decide +kernel
theorem dX7_suspects_24 : decode cX7_suspects 24 = .ok (.getfield 31, 3) := by decide +kernel
theorem dX7_suspects_27 : decode cX7_suspects 27 = .ok (.aload_n 1, 1) := by decide +kernel
theorem dX7_suspects_28 : decode cX7_suspects 28 = .ok (.iload_n 2, 1) := by decide +kernel
theorem dX7_suspects_29 : decode cX7_suspects 29 = .ok (.iconst 1, 1) := by decide +kernel
theorem dX7_suspects_30 : decode cX7_suspects 30 = .ok (.iload 4, 2) := by decide +kernel
theorem dX7_suspects_32 : decode cX7_suspects 32 = .ok (.ishl, 1) := by decide +kernel
theorem dX7_suspects_33 : decode cX7_suspects 33 = .ok (.iconst (-1), 1) := by decide +kernel
theorem dX7_suspects_34 : decode cX7_suspects 34 = .ok (.ixor, 1) := by decide +kernel
theorem dX7_suspects_35 : decode cX7_suspects 35 = .ok (.iand, 1) := by decide +kernel
theorem dX7_suspects_36 : decode cX7_suspects 36 = .ok (.invokevirtual 44, 3) := by decide +kernel
theorem dX7_suspects_39 : decode cX7_suspects 39 = .ok (.aload_n 0, 1) := by decide +kernel
theorem dX7_suspects_40 : decode cX7_suspects 40 = .ok (.invokevirtual 48, 3) := by decide +kernel
theorem dX7_suspects_43 : decode cX7_suspects 43 = .ok (.ifCond .eq 10, 3) := by decide +kernel
theorem dX7_suspects_46 : decode cX7_suspects 46 = .ok (.iload_n 3, 1) := by decide +kernel
theorem dX7_suspects_47 : decode cX7_suspects 47 = .ok (.iconst 1, 1) := by decide +kernel
theorem dX7_suspects_48 : decode cX7_suspects 48 = .ok (.iload 4, 2) := by decide +kernel
theorem dX7_suspects_50 : decode cX7_suspects 50 = .ok (.ishl, 1) := by decide +kernel
theorem dX7_suspects_51 : decode cX7_suspects 51 = .ok (.ior, 1) := by decide +kernel
theorem dX7_suspects_52 : decode cX7_suspects 52 = .ok (.istore_n 3, 1) := by decide +kernel
theorem dX7_suspects_53 : decode cX7_suspects 53 = .ok (.iinc 4 1, 3) := by decide +kernel
theorem dX7_suspects_56 : decode cX7_suspects 56 = .ok (.goto (-51), 3) := by decide +kernel
theorem dX7_suspects_59 : decode cX7_suspects 59 = .ok (.iload_n 3, 1) := by decide +kernel
theorem dX7_suspects_60 : decode cX7_suspects 60 = .ok (.ireturn, 1) := by decide +kernel
theorem dX7_allIsAsSeen_0 : decode cX7_allIsAsSeen 0 = .ok (.iconst 0, 1) := by decide +kernel
theorem dX7_allIsAsSeen_1 : decode cX7_allIsAsSeen 1 = .ok (.istore_n 1, 1) := by decide +kernel
theorem dX7_allIsAsSeen_2 : decode cX7_allIsAsSeen 2 = .ok (.iload_n 1, 1) := by decide +kernel
theorem dX7_allIsAsSeen_3 : decode cX7_allIsAsSeen 3 = .ok (.aload_n 0, 1) := by decide +kernel
theorem dX7_allIsAsSeen_4 : decode cX7_allIsAsSeen 4 = .ok (.getfield 9, 3) := by decide +kernel
theorem dX7_allIsAsSeen_7 : decode cX7_allIsAsSeen 7 = .ok (.if_icmp .ge 52, 3) := by decide +kernel
theorem dX7_allIsAsSeen_10 : decode cX7_allIsAsSeen 10 = .ok (.aload_n 0, 1) := by decide +kernel
theorem dX7_allIsAsSeen_11 : decode cX7_allIsAsSeen 11 = .ok (.getfield 31, 3) := by decide +kernel
theorem dX7_allIsAsSeen_14 : decode cX7_allIsAsSeen 14 = .ok (.aload_n 0, 1) := by decide +kernel
theorem dX7_allIsAsSeen_15 : decode cX7_allIsAsSeen 15 = .ok (.getfield 15, 3) := by decide +kernel
theorem dX7_allIsAsSeen_18 : decode cX7_allIsAsSeen 18 = .ok (.iload_n 1, 1) := by decide +kernel
theorem dX7_allIsAsSeen_19 : decode cX7_allIsAsSeen 19 = .ok (.iaload, 1) := by decide +kernel
theorem dX7_allIsAsSeen_20 : decode cX7_allIsAsSeen 20 = .ok (.invokevirtual 52, 3) := by decide +kernel
theorem dX7_allIsAsSeen_23 : decode cX7_allIsAsSeen 23 = .ok (.aload_n 0, 1) := by decide +kernel
theorem dX7_allIsAsSeen_24 : decode cX7_allIsAsSeen 24 = .ok (.getfield 19, 3) := by decide +kernel
theorem dX7_allIsAsSeen_27 : decode cX7_allIsAsSeen 27 = .ok (.iload_n 1, 1) := by decide +kernel
theorem dX7_allIsAsSeen_28 : decode cX7_allIsAsSeen 28 = .ok (.iaload, 1) := by decide +kernel
theorem dX7_allIsAsSeen_29 : decode cX7_allIsAsSeen 29 = .ok (.invokestatic 40, 3) := by decide +kernel
theorem dX7_allIsAsSeen_32 : decode cX7_allIsAsSeen 32 = .ok (.ifCond .eq 7, 3) := by decide +kernel
theorem dX7_allIsAsSeen_35 : decode cX7_allIsAsSeen 35 = .ok (.iconst 1, 1) := by decide +kernel
theorem dX7_allIsAsSeen_36 : decode cX7_allIsAsSeen 36 = .ok (.goto 4, 3) := by decide +kernel
theorem dX7_allIsAsSeen_39 : decode cX7_allIsAsSeen 39 = .ok (.iconst 0, 1) := by decide +kernel
theorem dX7_allIsAsSeen_40 : decode cX7_allIsAsSeen 40 = .ok (.istore_n 2, 1) := by decide +kernel
theorem dX7_allIsAsSeen_41 : decode cX7_allIsAsSeen 41 = .ok (.iload_n 2, 1) := by decide +kernel
theorem dX7_allIsAsSeen_42 : decode cX7_allIsAsSeen 42 = .ok (.aload_n 0, 1) := by decide +kernel
theorem dX7_allIsAsSeen_43 : decode cX7_allIsAsSeen 43 = .ok (.getfield 22, 3) := by decide +kernel
theorem dX7_allIsAsSeen_46 : decode cX7_allIsAsSeen 46 = .ok (.iload_n 1, 1) := by decide +kernel
theorem dX7_allIsAsSeen_47 : decode cX7_allIsAsSeen 47 = .ok (.iaload, 1) := by decide +kernel
theorem dX7_allIsAsSeen_48 : decode cX7_allIsAsSeen 48 = .ok (.if_icmp .eq 5, 3) := by decide +kernel
theorem dX7_allIsAsSeen_51 : decode cX7_allIsAsSeen 51 = .ok (.iconst 0, 1) := by decide +kernel
theorem dX7_allIsAsSeen_52 : decode cX7_allIsAsSeen 52 = .ok (.ireturn, 1) := by decide +kernel
theorem dX7_allIsAsSeen_53 : decode cX7_allIsAsSeen 53 = .ok (.iinc 1 1, 3) := by decide +kernel
theorem dX7_allIsAsSeen_56 : decode cX7_allIsAsSeen 56 = .ok (.goto (-54), 3) := by decide +kernel
theorem dX7_allIsAsSeen_59 : decode cX7_allIsAsSeen 59 = .ok (.iconst 1, 1) := by decide +kernel
theorem dX7_allIsAsSeen_60 : decode cX7_allIsAsSeen 60 = .ok (.ireturn, 1) := by decide +kernel
theorem dX7_bestQuestion_0 : decode cX7_bestQuestion 0 = .ok (.aload_n 0, 1) := by decide +kernel
theorem dX7_bestQuestion_1 : decode cX7_bestQuestion 1 = .ok (.aload_n 1, 1) := by decide +kernel
theorem dX7_bestQuestion_2 : decode cX7_bestQuestion 2 = .ok (.iload_n 2, 1) := by decide +kernel
theorem dX7_bestQuestion_3 : decode cX7_bestQuestion 3 = .ok (.invokevirtual 56, 3) := by decide +kernel
theorem dX7_bestQuestion_6 : decode cX7_bestQuestion 6 = .ok (.istore_n 3, 1) := by decide +kernel
theorem dX7_bestQuestion_7 : decode cX7_bestQuestion 7 = .ok (.iload_n 3, 1) := by decide +kernel
theorem dX7_bestQuestion_8 : decode cX7_bestQuestion 8 = .ok (.invokestatic 60, 3) := by decide +kernel
theorem dX7_bestQuestion_11 : decode cX7_bestQuestion 11 = .ok (.istore 4, 2) := by decide +kernel
theorem dX7_bestQuestion_13 : decode cX7_bestQuestion 13 = .ok (.iload 4, 2) := by decide +kernel
theorem dX7_bestQuestion_15 : decode cX7_bestQuestion 15 = .ok (.iconst 1, 1) := by decide +kernel
theorem dX7_bestQuestion_16 : decode cX7_bestQuestion 16 = .ok (.if_icmp .gt 6, 3) := by decide +kernel
theorem dX7_bestQuestion_19 : decode cX7_bestQuestion 19 = .ok (.bipush (-9), 2) := by decide +kernel
theorem dX7_bestQuestion_21 : decode cX7_bestQuestion 21 = .ok (.ireturn, 1) := by decide +kernel
theorem dX7_bestQuestion_22 : decode cX7_bestQuestion 22 = .ok (.aload_n 0, 1) := by decide +kernel
theorem dX7_bestQuestion_23 : decode cX7_bestQuestion 23 = .ok (.aload_n 1, 1) := by decide +kernel
theorem dX7_bestQuestion_24 : decode cX7_bestQuestion 24 = .ok (.iload_n 2, 1) := by decide +kernel
theorem dX7_bestQuestion_25 : decode cX7_bestQuestion 25 = .ok (.iload_n 3, 1) := by decide +kernel
theorem dX7_bestQuestion_26 : decode cX7_bestQuestion 26 = .ok (.invokevirtual 65, 3) := by decide +kernel
theorem dX7_bestQuestion_29 : decode cX7_bestQuestion 29 = .ok (.bipush (-9), 2) := by decide +kernel
theorem dX7_bestQuestion_31 : decode cX7_bestQuestion 31 = .ok (.istore 5, 2) := by decide +kernel
theorem dX7_bestQuestion_33 : decode cX7_bestQuestion 33 = .ok (.ldc 69, 2) := by decide +kernel
theorem dX7_bestQuestion_35 : decode cX7_bestQuestion 35 = .ok (.istore 6, 2) := by decide +kernel
theorem dX7_bestQuestion_37 : decode cX7_bestQuestion 37 = .ok (.iconst 0, 1) := by decide +kernel
theorem dX7_bestQuestion_38 : decode cX7_bestQuestion 38 = .ok (.istore 7, 2) := by decide +kernel
theorem dX7_bestQuestion_40 : decode cX7_bestQuestion 40 = .ok (.iload 7, 2) := by decide +kernel
theorem dX7_bestQuestion_42 : decode cX7_bestQuestion 42 = .ok (.aload_n 1, 1) := by decide +kernel
theorem dX7_bestQuestion_43 : decode cX7_bestQuestion 43 = .ok (.getfield 70, 3) := by decide +kernel
theorem dX7_bestQuestion_46 : decode cX7_bestQuestion 46 = .ok (.if_icmp .ge 78, 3) := by decide +kernel
theorem dX7_bestQuestion_49 : decode cX7_bestQuestion 49 = .ok (.iload 7, 2) := by decide +kernel
theorem dX7_bestQuestion_51 : decode cX7_bestQuestion 51 = .ok (.iconst 1, 1) := by decide +kernel
theorem dX7_bestQuestion_52 : decode cX7_bestQuestion 52 = .ok (.iadd, 1) := by decide +kernel
theorem dX7_bestQuestion_53 : decode cX7_bestQuestion 53 = .ok (.istore 8, 2) := by decide +kernel
theorem dX7_bestQuestion_55 : decode cX7_bestQuestion 55 = .ok (.iload 8, 2) := by decide +kernel
theorem dX7_bestQuestion_57 : decode cX7_bestQuestion 57 = .ok (.aload_n 1, 1) := by decide +kernel
theorem dX7_bestQuestion_58 : decode cX7_bestQuestion 58 = .ok (.getfield 70, 3) := by decide +kernel
theorem dX7_bestQuestion_61 : decode cX7_bestQuestion 61 = .ok (.if_icmp .ge 57, 3) := by decide +kernel
theorem dX7_bestQuestion_64 : decode cX7_bestQuestion 64 = .ok (.aload_n 0, 1) := by decide +kernel
theorem dX7_bestQuestion_65 : decode cX7_bestQuestion 65 = .ok (.getfield 25, 3) := by decide +kernel
theorem dX7_bestQuestion_68 : decode cX7_bestQuestion 68 = .ok (.iload 7, 2) := by decide +kernel
theorem dX7_bestQuestion_70 : decode cX7_bestQuestion 70 = .ok (.bipush 9, 2) := by decide +kernel
theorem dX7_bestQuestion_72 : decode cX7_bestQuestion 72 = .ok (.imul, 1) := by decide +kernel
theorem dX7_bestQuestion_73 : decode cX7_bestQuestion 73 = .ok (.iload 8, 2) := by decide +kernel
theorem dX7_bestQuestion_75 : decode cX7_bestQuestion 75 = .ok (.iadd, 1) := by decide +kernel
theorem dX7_bestQuestion_76 : decode cX7_bestQuestion 76 = .ok (.iaload, 1) := by decide +kernel
theorem dX7_bestQuestion_77 : decode cX7_bestQuestion 77 = .ok (.istore 9, 2) := by decide +kernel
theorem dX7_bestQuestion_79 : decode cX7_bestQuestion 79 = .ok (.iload 9, 2) := by decide +kernel
theorem dX7_bestQuestion_81 : decode cX7_bestQuestion 81 = .ok (.iload 4, 2) := by decide +kernel
theorem dX7_bestQuestion_83 : decode cX7_bestQuestion 83 = .ok (.iload 9, 2) := by decide +kernel
theorem dX7_bestQuestion_85 : decode cX7_bestQuestion 85 = .ok (.isub, 1) := by decide +kernel
theorem dX7_bestQuestion_86 : decode cX7_bestQuestion 86 = .ok (.invokestatic 73, 3) := by decide +kernel
theorem dX7_bestQuestion_89 : decode cX7_bestQuestion 89 = .ok (.istore 10, 2) := by decide +kernel
theorem dX7_bestQuestion_91 : decode cX7_bestQuestion 91 = .ok (.iload 10, 2) := by decide +kernel
theorem dX7_bestQuestion_93 : decode cX7_bestQuestion 93 = .ok (.iload 6, 2) := by decide +kernel
theorem dX7_bestQuestion_95 : decode cX7_bestQuestion 95 = .ok (.if_icmp .ge 17, 3) := by decide +kernel
theorem dX7_bestQuestion_98 : decode cX7_bestQuestion 98 = .ok (.iload 10, 2) := by decide +kernel
theorem dX7_bestQuestion_100 : decode cX7_bestQuestion 100 = .ok (.istore 6, 2) := by decide +kernel
theorem dX7_bestQuestion_102 : decode cX7_bestQuestion 102 = .ok (.bipush 16, 2) := by decide +kernel
theorem dX7_bestQuestion_104 : decode cX7_bestQuestion 104 = .ok (.iload 7, 2) := by decide +kernel
theorem dX7_bestQuestion_106 : decode cX7_bestQuestion 106 = .ok (.imul, 1) := by decide +kernel
theorem dX7_bestQuestion_107 : decode cX7_bestQuestion 107 = .ok (.iload 8, 2) := by decide +kernel
theorem dX7_bestQuestion_109 : decode cX7_bestQuestion 109 = .ok (.iadd, 1) := by decide +kernel
theorem dX7_bestQuestion_110 : decode cX7_bestQuestion 110 = .ok (.istore 5, 2) := by decide +kernel
theorem dX7_bestQuestion_112 : decode cX7_bestQuestion 112 = .ok (.iinc 8 1, 3) := by decide +kernel
theorem dX7_bestQuestion_115 : decode cX7_bestQuestion 115 = .ok (.goto (-60), 3) := by decide +kernel
theorem dX7_bestQuestion_118 : decode cX7_bestQuestion 118 = .ok (.iinc 7 1, 3) := by decide +kernel
theorem dX7_bestQuestion_121 : decode cX7_bestQuestion 121 = .ok (.goto (-81), 3) := by decide +kernel
theorem dX7_bestQuestion_124 : decode cX7_bestQuestion 124 = .ok (.iload 5, 2) := by decide +kernel
theorem dX7_bestQuestion_126 : decode cX7_bestQuestion 126 = .ok (.ireturn, 1) := by decide +kernel
theorem dX7_tallyPairs_0 : decode cX7_tallyPairs 0 = .ok (.aload_n 0, 1) := by decide +kernel
theorem dX7_tallyPairs_1 : decode cX7_tallyPairs 1 = .ok (.getfield 25, 3) := by decide +kernel
theorem dX7_tallyPairs_4 : decode cX7_tallyPairs 4 = .ok (.iconst 0, 1) := by decide +kernel
theorem dX7_tallyPairs_5 : decode cX7_tallyPairs 5 = .ok (.invokestatic 79, 3) := by decide +kernel
theorem dX7_tallyPairs_8 : decode cX7_tallyPairs 8 = .ok (.iconst 0, 1) := by decide +kernel
theorem dX7_tallyPairs_9 : decode cX7_tallyPairs 9 = .ok (.istore 4, 2) := by decide +kernel
theorem dX7_tallyPairs_11 : decode cX7_tallyPairs 11 = .ok (.iload 4, 2) := by decide +kernel
theorem dX7_tallyPairs_13 : decode cX7_tallyPairs 13 = .ok (.aload_n 1, 1) := by decide +kernel
theorem dX7_tallyPairs_14 : decode cX7_tallyPairs 14 = .ok (.getfield 35, 3) := by decide +kernel
theorem dX7_tallyPairs_17 : decode cX7_tallyPairs 17 = .ok (.if_icmp .ge 62, 3) := by decide +kernel
theorem dX7_tallyPairs_20 : decode cX7_tallyPairs 20 = .ok (.iload_n 3, 1) := by decide +kernel
theorem dX7_tallyPairs_21 : decode cX7_tallyPairs 21 = .ok (.iload 4, 2) := by decide +kernel
theorem dX7_tallyPairs_23 : decode cX7_tallyPairs 23 = .ok (.invokestatic 40, 3) := by decide +kernel
theorem dX7_tallyPairs_26 : decode cX7_tallyPairs 26 = .ok (.ifCond .eq 47, 3) := by decide +kernel
theorem dX7_tallyPairs_29 : decode cX7_tallyPairs 29 = .ok (.aload_n 0, 1) := by decide +kernel
theorem dX7_tallyPairs_30 : decode cX7_tallyPairs 30 = .ok (.getfield 31, 3) := by decide +kernel
theorem dX7_tallyPairs_33 : decode cX7_tallyPairs 33 = .ok (.aload_n 1, 1) := by decide +kernel
theorem dX7_tallyPairs_34 : decode cX7_tallyPairs 34 = .ok (.iload_n 2, 1) := by decide +kernel
theorem dX7_tallyPairs_35 : decode cX7_tallyPairs 35 = .ok (.iconst 1, 1) := by decide +kernel
theorem dX7_tallyPairs_36 : decode cX7_tallyPairs 36 = .ok (.iload 4, 2) := by decide +kernel
theorem dX7_tallyPairs_38 : decode cX7_tallyPairs 38 = .ok (.ishl, 1) := by decide +kernel
theorem dX7_tallyPairs_39 : decode cX7_tallyPairs 39 = .ok (.iconst (-1), 1) := by decide +kernel
theorem dX7_tallyPairs_40 : decode cX7_tallyPairs 40 = .ok (.ixor, 1) := by decide +kernel
theorem dX7_tallyPairs_41 : decode cX7_tallyPairs 41 = .ok (.iand, 1) := by decide +kernel
theorem dX7_tallyPairs_42 : decode cX7_tallyPairs 42 = .ok (.invokevirtual 44, 3) := by decide +kernel
theorem dX7_tallyPairs_45 : decode cX7_tallyPairs 45 = .ok (.iconst 0, 1) := by decide +kernel
theorem dX7_tallyPairs_46 : decode cX7_tallyPairs 46 = .ok (.istore 5, 2) := by decide +kernel
theorem dX7_tallyPairs_48 : decode cX7_tallyPairs 48 = .ok (.iload 5, 2) := by decide +kernel
theorem dX7_tallyPairs_50 : decode cX7_tallyPairs 50 = .ok (.aload_n 1, 1) := by decide +kernel
theorem dX7_tallyPairs_51 : decode cX7_tallyPairs 51 = .ok (.getfield 70, 3) := by decide +kernel
theorem dX7_tallyPairs_54 : decode cX7_tallyPairs 54 = .ok (.if_icmp .ge 19, 3) := by decide +kernel
theorem dX7_tallyPairs_57 : decode cX7_tallyPairs 57 = .ok (.aload_n 0, 1) := by decide +kernel
theorem dX7_tallyPairs_58 : decode cX7_tallyPairs 58 = .ok (.iload 5, 2) := by decide +kernel
theorem dX7_tallyPairs_60 : decode cX7_tallyPairs 60 = .ok (.aload_n 1, 1) := by decide +kernel
theorem dX7_tallyPairs_61 : decode cX7_tallyPairs 61 = .ok (.getfield 70, 3) := by decide +kernel
theorem dX7_tallyPairs_64 : decode cX7_tallyPairs 64 = .ok (.invokevirtual 85, 3) := by decide +kernel
theorem dX7_tallyPairs_67 : decode cX7_tallyPairs 67 = .ok (.iinc 5 1, 3) := by decide +kernel
theorem dX7_tallyPairs_70 : decode cX7_tallyPairs 70 = .ok (.goto (-22), 3) := by decide +kernel
theorem dX7_tallyPairs_73 : decode cX7_tallyPairs 73 = .ok (.iinc 4 1, 3) := by decide +kernel
theorem dX7_tallyPairs_76 : decode cX7_tallyPairs 76 = .ok (.goto (-65), 3) := by decide +kernel
theorem dX7_tallyPairs_79 : decode cX7_tallyPairs 79 = .ok (.return_, 1) := by decide +kernel
theorem dX7_countReached_0 : decode cX7_countReached 0 = .ok (.aload_n 0, 1) := by decide +kernel
theorem dX7_countReached_1 : decode cX7_countReached 1 = .ok (.getfield 31, 3) := by decide +kernel
theorem dX7_countReached_4 : decode cX7_countReached 4 = .ok (.iload_n 1, 1) := by decide +kernel
theorem dX7_countReached_5 : decode cX7_countReached 5 = .ok (.invokevirtual 52, 3) := by decide +kernel
theorem dX7_countReached_8 : decode cX7_countReached 8 = .ok (.istore_n 3, 1) := by decide +kernel
theorem dX7_countReached_9 : decode cX7_countReached 9 = .ok (.iload_n 1, 1) := by decide +kernel
theorem dX7_countReached_10 : decode cX7_countReached 10 = .ok (.iconst 1, 1) := by decide +kernel
theorem dX7_countReached_11 : decode cX7_countReached 11 = .ok (.iadd, 1) := by decide +kernel
theorem dX7_countReached_12 : decode cX7_countReached 12 = .ok (.istore 4, 2) := by decide +kernel
theorem dX7_countReached_14 : decode cX7_countReached 14 = .ok (.iload 4, 2) := by decide +kernel
theorem dX7_countReached_16 : decode cX7_countReached 16 = .ok (.iload_n 2, 1) := by decide +kernel
theorem dX7_countReached_17 : decode cX7_countReached 17 = .ok (.if_icmp .ge 34, 3) := by decide +kernel
theorem dX7_countReached_20 : decode cX7_countReached 20 = .ok (.iload_n 3, 1) := by decide +kernel
theorem dX7_countReached_21 : decode cX7_countReached 21 = .ok (.iload 4, 2) := by decide +kernel
theorem dX7_countReached_23 : decode cX7_countReached 23 = .ok (.invokestatic 40, 3) := by decide +kernel
theorem dX7_countReached_26 : decode cX7_countReached 26 = .ok (.ifCond .eq 19, 3) := by decide +kernel
theorem dX7_countReached_29 : decode cX7_countReached 29 = .ok (.aload_n 0, 1) := by decide +kernel
theorem dX7_countReached_30 : decode cX7_countReached 30 = .ok (.getfield 25, 3) := by decide +kernel
theorem dX7_countReached_33 : decode cX7_countReached 33 = .ok (.iload_n 1, 1) := by decide +kernel
theorem dX7_countReached_34 : decode cX7_countReached 34 = .ok (.bipush 9, 2) := by decide +kernel
theorem dX7_countReached_36 : decode cX7_countReached 36 = .ok (.imul, 1) := by decide +kernel
theorem dX7_countReached_37 : decode cX7_countReached 37 = .ok (.iload 4, 2) := by decide +kernel
theorem dX7_countReached_39 : decode cX7_countReached 39 = .ok (.iadd, 1) := by decide +kernel
theorem dX7_countReached_40 : decode cX7_countReached 40 = .ok (.dup2, 1) := by decide +kernel
theorem dX7_countReached_41 : decode cX7_countReached 41 = .ok (.iaload, 1) := by decide +kernel
theorem dX7_countReached_42 : decode cX7_countReached 42 = .ok (.iconst 1, 1) := by decide +kernel
theorem dX7_countReached_43 : decode cX7_countReached 43 = .ok (.iadd, 1) := by decide +kernel
theorem dX7_countReached_44 : decode cX7_countReached 44 = .ok (.iastore, 1) := by decide +kernel
theorem dX7_countReached_45 : decode cX7_countReached 45 = .ok (.iinc 4 1, 3) := by decide +kernel
theorem dX7_countReached_48 : decode cX7_countReached 48 = .ok (.goto (-34), 3) := by decide +kernel
theorem dX7_countReached_51 : decode cX7_countReached 51 = .ok (.return_, 1) := by decide +kernel
theorem dX8_init_0 : decode cX8_init 0 = .ok (.aload_n 0, 1) := by decide +kernel
theorem dX8_init_1 : decode cX8_init 1 = .ok (.invokespecial 3, 3) := by decide +kernel
theorem dX8_init_4 : decode cX8_init 4 = .ok (.aload_n 0, 1) := by decide +kernel
theorem dX8_init_5 : decode cX8_init 5 = .ok (.bipush 110, 2) := by decide +kernel
theorem dX8_init_7 : decode cX8_init 7 = .ok (.newarray .int, 2) := by decide +kernel
theorem dX8_init_9 : decode cX8_init 9 = .ok (.putfield 9, 3) := by decide +kernel
theorem dX8_init_12 : decode cX8_init 12 = .ok (.aload_n 0, 1) := by decide +kernel
theorem dX8_init_13 : decode cX8_init 13 = .ok (.iconst 0, 1) := by decide +kernel
theorem dX8_init_14 : decode cX8_init 14 = .ok (.putfield 13, 3) := by decide +kernel
theorem dX8_init_17 : decode cX8_init 17 = .ok (.aload_n 0, 1) := by decide +kernel
theorem dX8_init_18 : decode cX8_init 18 = .ok (.new 17, 3) := by decide +kernel
theorem dX8_init_21 : decode cX8_init 21 = .ok (.dup, 1) := by decide +kernel
theorem dX8_init_22 : decode cX8_init 22 = .ok (.invokespecial 19, 3) := by decide +kernel
theorem dX8_init_25 : decode cX8_init 25 = .ok (.putfield 20, 3) := by decide +kernel
theorem dX8_init_28 : decode cX8_init 28 = .ok (.aload_n 0, 1) := by decide +kernel
theorem dX8_init_29 : decode cX8_init 29 = .ok (.new 17, 3) := by decide +kernel
theorem dX8_init_32 : decode cX8_init 32 = .ok (.dup, 1) := by decide +kernel
theorem dX8_init_33 : decode cX8_init 33 = .ok (.invokespecial 19, 3) := by decide +kernel
theorem dX8_init_36 : decode cX8_init 36 = .ok (.putfield 24, 3) := by decide +kernel
theorem dX8_init_39 : decode cX8_init 39 = .ok (.aload_n 0, 1) := by decide +kernel
theorem dX8_init_40 : decode cX8_init 40 = .ok (.new 27, 3) := by decide +kernel
theorem dX8_init_43 : decode cX8_init 43 = .ok (.dup, 1) := by decide +kernel
theorem dX8_init_44 : decode cX8_init 44 = .ok (.invokespecial 29, 3) := by decide +kernel
theorem dX8_init_47 : decode cX8_init 47 = .ok (.putfield 30, 3) := by decide +kernel
theorem dX8_init_50 : decode cX8_init 50 = .ok (.aload_n 0, 1) := by decide +kernel
theorem dX8_init_51 : decode cX8_init 51 = .ok (.new 34, 3) := by decide +kernel
theorem dX8_init_54 : decode cX8_init 54 = .ok (.dup, 1) := by decide +kernel
theorem dX8_init_55 : decode cX8_init 55 = .ok (.invokespecial 36, 3) := by decide +kernel
theorem dX8_init_58 : decode cX8_init 58 = .ok (.putfield 37, 3) := by decide +kernel
theorem dX8_init_61 : decode cX8_init 61 = .ok (.aload_n 0, 1) := by decide +kernel
theorem dX8_init_62 : decode cX8_init 62 = .ok (.new 41, 3) := by decide +kernel
theorem dX8_init_65 : decode cX8_init 65 = .ok (.dup, 1) := by decide +kernel
theorem dX8_init_66 : decode cX8_init 66 = .ok (.invokespecial 43, 3) := by decide +kernel
theorem dX8_init_69 : decode cX8_init 69 = .ok (.putfield 44, 3) := by decide +kernel
theorem dX8_init_72 : decode cX8_init 72 = .ok (.aload_n 0, 1) := by decide +kernel
theorem dX8_init_73 : decode cX8_init 73 = .ok (.iconst 2, 1) := by decide +kernel
theorem dX8_init_74 : decode cX8_init 74 = .ok (.anewarray 34, 3) := by decide +kernel
theorem dX8_init_77 : decode cX8_init 77 = .ok (.putfield 48, 3) := by decide +kernel
theorem dX8_init_80 : decode cX8_init 80 = .ok (.aload_n 0, 1) := by decide +kernel
theorem dX8_init_81 : decode cX8_init 81 = .ok (.iconst 0, 1) := by decide +kernel
theorem dX8_init_82 : decode cX8_init 82 = .ok (.putfield 52, 3) := by decide +kernel
theorem dX8_init_85 : decode cX8_init 85 = .ok (.aload_n 0, 1) := by decide +kernel
theorem dX8_init_86 : decode cX8_init 86 = .ok (.new 55, 3) := by decide +kernel
theorem dX8_init_89 : decode cX8_init 89 = .ok (.dup, 1) := by decide +kernel
theorem dX8_init_90 : decode cX8_init 90 = .ok (.invokespecial 57, 3) := by decide +kernel
theorem dX8_init_93 : decode cX8_init 93 = .ok (.putfield 58, 3) := by decide +kernel
theorem dX8_init_96 : decode cX8_init 96 = .ok (.aload_n 0, 1) := by decide +kernel
theorem dX8_init_97 : decode cX8_init 97 = .ok (.new 62, 3) := by decide +kernel
theorem dX8_init_100 : decode cX8_init 100 = .ok (.dup, 1) := by decide +kernel
theorem dX8_init_101 : decode cX8_init 101 = .ok (.invokespecial 64, 3) := by decide +kernel
theorem dX8_init_104 : decode cX8_init 104 = .ok (.putfield 65, 3) := by decide +kernel
theorem dX8_init_107 : decode cX8_init 107 = .ok (.aload_n 0, 1) := by decide +kernel
theorem dX8_init_108 : decode cX8_init 108 = .ok (.new 69, 3) := by decide +kernel
theorem dX8_init_111 : decode cX8_init 111 = .ok (.dup, 1) := by decide +kernel
theorem dX8_init_112 : decode cX8_init 112 = .ok (.invokespecial 71, 3) := by decide +kernel
theorem dX8_init_115 : decode cX8_init 115 = .ok (.putfield 72, 3) := by decide +kernel
theorem dX8_init_118 : decode cX8_init 118 = .ok (.iconst 0, 1) := by decide +kernel
theorem dX8_init_119 : decode cX8_init 119 = .ok (.istore_n 1, 1) := by decide +kernel
theorem dX8_init_120 : decode cX8_init 120 = .ok (.iload_n 1, 1) := by decide +kernel
theorem dX8_init_121 : decode cX8_init 121 = .ok (.iconst 2, 1) := by decide +kernel
theorem dX8_init_122 : decode cX8_init 122 = .ok (.if_icmp .ge 22, 3) := by decide +kernel
theorem dX8_init_125 : decode cX8_init 125 = .ok (.aload_n 0, 1) := by decide +kernel
theorem dX8_init_126 : decode cX8_init 126 = .ok (.getfield 48, 3) := by decide +kernel
theorem dX8_init_129 : decode cX8_init 129 = .ok (.iload_n 1, 1) := by decide +kernel
theorem dX8_init_130 : decode cX8_init 130 = .ok (.new 34, 3) := by decide +kernel
theorem dX8_init_133 : decode cX8_init 133 = .ok (.dup, 1) := by decide +kernel
theorem dX8_init_134 : decode cX8_init 134 = .ok (.invokespecial 36, 3) := by decide +kernel
theorem dX8_init_137 : decode cX8_init 137 = .ok (.aastore, 1) := by decide +kernel
theorem dX8_init_138 : decode cX8_init 138 = .ok (.iinc 1 1, 3) := by decide +kernel
theorem dX8_init_141 : decode cX8_init 141 = .ok (.goto (-21), 3) := by decide +kernel
theorem dX8_init_144 : decode cX8_init 144 = .ok (.aload_n 0, 1) := by decide +kernel
theorem dX8_init_145 : decode cX8_init 145 = .ok (.getfield 37, 3) := by decide +kernel
theorem dX8_init_148 : decode cX8_init 148 = .ok (.aload_n 0, 1) := by decide +kernel
theorem dX8_init_149 : decode cX8_init 149 = .ok (.getfield 20, 3) := by decide +kernel
theorem dX8_init_152 : decode cX8_init 152 = .ok (.invokevirtual 76, 3) := by decide +kernel
theorem dX8_init_155 : decode cX8_init 155 = .ok (.return_, 1) := by decide +kernel
theorem dX8_type_0 : decode cX8_type 0 = .ok (.iload_n 1, 1) := by decide +kernel
theorem dX8_type_1 : decode cX8_type 1 = .ok (.ifCond .lt 10, 3) := by decide +kernel
theorem dX8_type_4 : decode cX8_type 4 = .ok (.iload_n 1, 1) := by decide +kernel
theorem dX8_type_5 : decode cX8_type 5 = .ok (.sipush 255, 3) := by decide +kernel
theorem dX8_type_8 : decode cX8_type 8 = .ok (.if_icmp .le 5, 3) := by decide +kernel
theorem dX8_type_11 : decode cX8_type 11 = .ok (.iconst (-1), 1) := by decide +kernel
theorem dX8_type_12 : decode cX8_type 12 = .ok (.ireturn, 1) := by decide +kernel
theorem dX8_type_13 : decode cX8_type 13 = .ok (.aload_n 0, 1) := by decide +kernel
theorem dX8_type_14 : decode cX8_type 14 = .ok (.getfield 13, 3) := by decide +kernel
theorem dX8_type_17 : decode cX8_type 17 = .ok (.ifCond .lt 12, 3) := by decide +kernel
theorem dX8_type_20 : decode cX8_type 20 = .ok (.aload_n 0, 1) := by decide +kernel
theorem dX8_type_21 : decode cX8_type 21 = .ok (.getfield 13, 3) := by decide +kernel
theorem dX8_type_24 : decode cX8_type 24 = .ok (.bipush 110, 2) := by decide +kernel
theorem dX8_type_26 : decode cX8_type 26 = .ok (.if_icmp .lt 6, 3) := by decide +kernel
theorem dX8_type_29 : decode cX8_type 29 = .ok (.bipush (-3), 2) := by decide +kernel
theorem dX8_type_31 : decode cX8_type 31 = .ok (.ireturn, 1) := by decide +kernel
theorem dX8_type_32 : decode cX8_type 32 = .ok (.aload_n 0, 1) := by decide +kernel
theorem dX8_type_33 : decode cX8_type 33 = .ok (.getfield 9, 3) := by decide +kernel
theorem dX8_type_36 : decode cX8_type 36 = .ok (.aload_n 0, 1) := by decide +kernel
theorem dX8_type_37 : decode cX8_type 37 = .ok (.getfield 13, 3) := by decide +kernel
theorem dX8_type_40 : decode cX8_type 40 = .ok (.iload_n 1, 1) := by decide +kernel
theorem dX8_type_41 : decode cX8_type 41 = .ok (.iastore, 1) := by decide +kernel
theorem dX8_type_42 : decode cX8_type 42 = .ok (.aload_n 0, 1) := by decide +kernel
theorem dX8_type_43 : decode cX8_type 43 = .ok (.dup, 1) := by decide +kernel
theorem dX8_type_44 : decode cX8_type 44 = .ok (.getfield 13, 3) := by decide +kernel
theorem dX8_type_47 : decode cX8_type 47 = .ok (.iconst 1, 1) := by decide +kernel
theorem dX8_type_48 : decode cX8_type 48 = .ok (.iadd, 1) := by decide +kernel
theorem dX8_type_49 : decode cX8_type 49 = .ok (.putfield 13, 3) := by decide +kernel
theorem dX8_type_52 : decode cX8_type 52 = .ok (.aload_n 0, 1) := by decide +kernel
theorem dX8_type_53 : decode cX8_type 53 = .ok (.getfield 13, 3) := by decide +kernel
theorem dX8_type_56 : decode cX8_type 56 = .ok (.ireturn, 1) := by decide +kernel
theorem dX8_clear_0 : decode cX8_clear 0 = .ok (.aload_n 0, 1) := by decide +kernel
theorem dX8_clear_1 : decode cX8_clear 1 = .ok (.getfield 13, 3) := by decide +kernel
theorem dX8_clear_4 : decode cX8_clear 4 = .ok (.istore_n 1, 1) := by decide +kernel
theorem dX8_clear_5 : decode cX8_clear 5 = .ok (.aload_n 0, 1) := by decide +kernel
theorem dX8_clear_6 : decode cX8_clear 6 = .ok (.iconst 0, 1) := by decide +kernel
theorem dX8_clear_7 : decode cX8_clear 7 = .ok (.putfield 13, 3) := by decide +kernel
theorem dX8_clear_10 : decode cX8_clear 10 = .ok (.iload_n 1, 1) := by decide +kernel
theorem dX8_clear_11 : decode cX8_clear 11 = .ok (.ireturn, 1) := by decide +kernel
theorem dX8_plate_0 : decode cX8_plate 0 = .ok (.aload_n 0, 1) := by decide +kernel
theorem dX8_plate_1 : decode cX8_plate 1 = .ok (.getfield 30, 3) := by decide +kernel
theorem dX8_plate_4 : decode cX8_plate 4 = .ok (.aload_n 0, 1) := by decide +kernel
theorem dX8_plate_5 : decode cX8_plate 5 = .ok (.getfield 9, 3) := by decide +kernel
theorem dX8_plate_8 : decode cX8_plate 8 = .ok (.aload_n 0, 1) := by decide +kernel
theorem dX8_plate_9 : decode cX8_plate 9 = .ok (.getfield 13, 3) := by decide +kernel
theorem dX8_plate_12 : decode cX8_plate 12 = .ok (.aload_n 0, 1) := by decide +kernel
theorem dX8_plate_13 : decode cX8_plate 13 = .ok (.getfield 24, 3) := by decide +kernel
theorem dX8_plate_16 : decode cX8_plate 16 = .ok (.invokevirtual 80, 3) := by decide +kernel
theorem dX8_plate_19 : decode cX8_plate 19 = .ok (.istore_n 1, 1) := by decide +kernel
theorem dX8_plate_20 : decode cX8_plate 20 = .ok (.iload_n 1, 1) := by decide +kernel
theorem dX8_plate_21 : decode cX8_plate 21 = .ok (.iconst (-1), 1) := by decide +kernel
theorem dX8_plate_22 : decode cX8_plate 22 = .ok (.if_icmp .eq 8, 3) := by decide +kernel
theorem dX8_plate_25 : decode cX8_plate 25 = .ok (.bipush (-10), 2) := by decide +kernel
theorem dX8_plate_27 : decode cX8_plate 27 = .ok (.iload_n 1, 1) := by decide +kernel
theorem dX8_plate_28 : decode cX8_plate 28 = .ok (.isub, 1) := by decide +kernel
theorem dX8_plate_29 : decode cX8_plate 29 = .ok (.ireturn, 1) := by decide +kernel
theorem dX8_plate_30 : decode cX8_plate 30 = .ok (.aload_n 0, 1) := by decide +kernel
theorem dX8_plate_31 : decode cX8_plate 31 = .ok (.getfield 20, 3) := by decide +kernel
theorem dX8_plate_34 : decode cX8_plate 34 = .ok (.astore_n 2, 1) := by decide +kernel
theorem dX8_plate_35 : decode cX8_plate 35 = .ok (.aload_n 0, 1) := by decide +kernel
theorem dX8_plate_36 : decode cX8_plate 36 = .ok (.aload_n 0, 1) := by decide +kernel
theorem dX8_plate_37 : decode cX8_plate 37 = .ok (.getfield 24, 3) := by decide +kernel
theorem dX8_plate_40 : decode cX8_plate 40 = .ok (.putfield 20, 3) := by decide +kernel
theorem dX8_plate_43 : decode cX8_plate 43 = .ok (.aload_n 0, 1) := by decide +kernel
theorem dX8_plate_44 : decode cX8_plate 44 = .ok (.aload_n 2, 1) := by decide +kernel
theorem dX8_plate_45 : decode cX8_plate 45 = .ok (.putfield 24, 3) := by decide +kernel
theorem dX8_plate_48 : decode cX8_plate 48 = .ok (.aload_n 0, 1) := by decide +kernel
theorem dX8_plate_49 : decode cX8_plate 49 = .ok (.iconst 0, 1) := by decide +kernel
theorem dX8_plate_50 : decode cX8_plate 50 = .ok (.putfield 13, 3) := by decide +kernel
theorem dX8_plate_53 : decode cX8_plate 53 = .ok (.aload_n 0, 1) := by decide +kernel
theorem dX8_plate_54 : decode cX8_plate 54 = .ok (.getfield 37, 3) := by decide +kernel
theorem dX8_plate_57 : decode cX8_plate 57 = .ok (.aload_n 0, 1) := by decide +kernel
theorem dX8_plate_58 : decode cX8_plate 58 = .ok (.getfield 20, 3) := by decide +kernel
theorem dX8_plate_61 : decode cX8_plate 61 = .ok (.invokevirtual 76, 3) := by decide +kernel
theorem dX8_plate_64 : decode cX8_plate 64 = .ok (.aload_n 0, 1) := by decide +kernel
theorem dX8_plate_65 : decode cX8_plate 65 = .ok (.getfield 44, 3) := by decide +kernel
theorem dX8_plate_68 : decode cX8_plate 68 = .ok (.invokevirtual 84, 3) := by decide +kernel
theorem dX8_plate_71 : decode cX8_plate 71 = .ok (.aload_n 0, 1) := by decide +kernel
theorem dX8_plate_72 : decode cX8_plate 72 = .ok (.getfield 72, 3) := by decide +kernel
theorem dX8_plate_75 : decode cX8_plate 75 = .ok (.invokevirtual 87, 3) := by decide +kernel
theorem dX8_plate_78 : decode cX8_plate 78 = .ok (.aload_n 0, 1) := by decide +kernel
theorem dX8_plate_79 : decode cX8_plate 79 = .ok (.iconst 0, 1) := by decide +kernel
theorem dX8_plate_80 : decode cX8_plate 80 = .ok (.putfield 52, 3) := by decide +kernel
theorem dX8_plate_83 : decode cX8_plate 83 = .ok (.aload_n 0, 1) := by decide +kernel
theorem dX8_plate_84 : decode cX8_plate 84 = .ok (.invokevirtual 88, 3) := by decide +kernel
theorem dX8_plate_87 : decode cX8_plate 87 = .ok (.aload_n 0, 1) := by decide +kernel
theorem dX8_plate_88 : decode cX8_plate 88 = .ok (.getfield 20, 3) := by decide +kernel
theorem dX8_plate_91 : decode cX8_plate 91 = .ok (.getfield 91, 3) := by decide +kernel
theorem dX8_plate_94 : decode cX8_plate 94 = .ok (.ireturn, 1) := by decide +kernel
theorem dX8_corner_0 : decode cX8_corner 0 = .ok (.aload_n 0, 1) := by decide +kernel
theorem dX8_corner_1 : decode cX8_corner 1 = .ok (.getfield 20, 3) := by decide +kernel
theorem dX8_corner_4 : decode cX8_corner 4 = .ok (.iload_n 1, 1) := by decide +kernel
theorem dX8_corner_5 : decode cX8_corner 5 = .ok (.invokevirtual 94, 3) := by decide +kernel
theorem dX8_corner_8 : decode cX8_corner 8 = .ok (.ifCond .ne 5, 3) := by decide +kernel
theorem dX8_corner_11 : decode cX8_corner 11 = .ok (.iconst (-1), 1) := by decide +kernel
theorem dX8_corner_12 : decode cX8_corner 12 = .ok (.ireturn, 1) := by decide +kernel
theorem dX8_corner_13 : decode cX8_corner 13 = .ok (.iload_n 2, 1) := by decide +kernel
theorem dX8_corner_14 : decode cX8_corner 14 = .ok (.tableswitch 76 0 3 #[30, 40, 50, 66], 30) := by decide +kernel
theorem dX8_corner_44 : decode cX8_corner 44 = .ok (.aload_n 0, 1) := by decide +kernel
theorem dX8_corner_45 : decode cX8_corner 45 = .ok (.getfield 20, 3) := by decide +kernel
theorem dX8_corner_48 : decode cX8_corner 48 = .ok (.getfield 98, 3) := by decide +kernel
theorem dX8_corner_51 : decode cX8_corner 51 = .ok (.iload_n 1, 1) := by decide +kernel
theorem dX8_corner_52 : decode cX8_corner 52 = .ok (.iaload, 1) := by decide +kernel
theorem dX8_corner_53 : decode cX8_corner 53 = .ok (.ireturn, 1) := by decide +kernel
theorem dX8_corner_54 : decode cX8_corner 54 = .ok (.aload_n 0, 1) := by decide +kernel
theorem dX8_corner_55 : decode cX8_corner 55 = .ok (.getfield 20, 3) := by decide +kernel
theorem dX8_corner_58 : decode cX8_corner 58 = .ok (.getfield 101, 3) := by decide +kernel
theorem dX8_corner_61 : decode cX8_corner 61 = .ok (.iload_n 1, 1) := by decide +kernel
theorem dX8_corner_62 : decode cX8_corner 62 = .ok (.iaload, 1) := by decide +kernel
theorem dX8_corner_63 : decode cX8_corner 63 = .ok (.ireturn, 1) := by decide +kernel
theorem dX8_corner_64 : decode cX8_corner 64 = .ok (.aload_n 0, 1) := by decide +kernel
theorem dX8_corner_65 : decode cX8_corner 65 = .ok (.getfield 20, 3) := by decide +kernel
theorem dX8_corner_68 : decode cX8_corner 68 = .ok (.iload_n 1, 1) := by decide +kernel
theorem dX8_corner_69 : decode cX8_corner 69 = .ok (.aload_n 0, 1) := by decide +kernel
theorem dX8_corner_70 : decode cX8_corner 70 = .ok (.getfield 37, 3) := by decide +kernel
theorem dX8_corner_73 : decode cX8_corner 73 = .ok (.getfield 104, 3) := by decide +kernel
theorem dX8_corner_76 : decode cX8_corner 76 = .ok (.invokevirtual 107, 3) := by decide +kernel
theorem dX8_corner_79 : decode cX8_corner 79 = .ok (.ireturn, 1) := by decide +kernel
theorem dX8_corner_80 : decode cX8_corner 80 = .ok (.aload_n 0, 1) := by decide +kernel
theorem dX8_corner_81 : decode cX8_corner 81 = .ok (.getfield 37, 3) := by decide +kernel
theorem dX8_corner_84 : decode cX8_corner 84 = .ok (.getfield 111, 3) := by decide +kernel
theorem dX8_corner_87 : decode cX8_corner 87 = .ok (.iload_n 1, 1) := by decide +kernel
theorem dX8_corner_88 : decode cX8_corner 88 = .ok (.iaload, 1) := by decide +kernel
theorem dX8_corner_89 : decode cX8_corner 89 = .ok (.ireturn, 1) := by decide +kernel
theorem dX8_corner_90 : decode cX8_corner 90 = .ok (.iconst (-1), 1) := by decide +kernel
theorem dX8_corner_91 : decode cX8_corner 91 = .ok (.ireturn, 1) := by decide +kernel
theorem dX8_cut_0 : decode cX8_cut 0 = .ok (.iload_n 1, 1) := by decide +kernel
theorem dX8_cut_1 : decode cX8_cut 1 = .ok (.ifCond .lt 14, 3) := by decide +kernel
theorem dX8_cut_4 : decode cX8_cut 4 = .ok (.iload_n 1, 1) := by decide +kernel
theorem dX8_cut_5 : decode cX8_cut 5 = .ok (.aload_n 0, 1) := by decide +kernel
theorem dX8_cut_6 : decode cX8_cut 6 = .ok (.getfield 20, 3) := by decide +kernel
theorem dX8_cut_9 : decode cX8_cut 9 = .ok (.getfield 114, 3) := by decide +kernel
theorem dX8_cut_12 : decode cX8_cut 12 = .ok (.if_icmp .lt 5, 3) := by decide +kernel
theorem dX8_cut_15 : decode cX8_cut 15 = .ok (.iconst (-1), 1) := by decide +kernel
theorem dX8_cut_16 : decode cX8_cut 16 = .ok (.ireturn, 1) := by decide +kernel
theorem dX8_cut_17 : decode cX8_cut 17 = .ok (.iload_n 2, 1) := by decide +kernel
theorem dX8_cut_18 : decode cX8_cut 18 = .ok (.tableswitch 109 0 4 #[34, 44, 54, 74, 83], 34) := by decide +kernel
theorem dX8_cut_52 : decode cX8_cut 52 = .ok (.aload_n 0, 1) := by decide +kernel
theorem dX8_cut_53 : decode cX8_cut 53 = .ok (.getfield 20, 3) := by decide +kernel
theorem dX8_cut_56 : decode cX8_cut 56 = .ok (.getfield 117, 3) := by decide +kernel
theorem dX8_cut_59 : decode cX8_cut 59 = .ok (.iload_n 1, 1) := by decide +kernel
theorem dX8_cut_60 : decode cX8_cut 60 = .ok (.iaload, 1) := by decide +kernel
theorem dX8_cut_61 : decode cX8_cut 61 = .ok (.ireturn, 1) := by decide +kernel
theorem dX8_cut_62 : decode cX8_cut 62 = .ok (.aload_n 0, 1) := by decide +kernel
theorem dX8_cut_63 : decode cX8_cut 63 = .ok (.getfield 20, 3) := by decide +kernel
theorem dX8_cut_66 : decode cX8_cut 66 = .ok (.getfield 120, 3) := by decide +kernel
theorem dX8_cut_69 : decode cX8_cut 69 = .ok (.iload_n 1, 1) := by decide +kernel
theorem dX8_cut_70 : decode cX8_cut 70 = .ok (.iaload, 1) := by decide +kernel
theorem dX8_cut_71 : decode cX8_cut 71 = .ok (.ireturn, 1) := by decide +kernel
theorem dX8_cut_72 : decode cX8_cut 72 = .ok (.aload_n 0, 1) := by decide +kernel
theorem dX8_cut_73 : decode cX8_cut 73 = .ok (.getfield 37, 3) := by decide +kernel
theorem dX8_cut_76 : decode cX8_cut 76 = .ok (.getfield 104, 3) := by decide +kernel
theorem dX8_cut_79 : decode cX8_cut 79 = .ok (.iload_n 1, 1) := by decide +kernel
theorem dX8_cut_80 : decode cX8_cut 80 = .ok (.invokestatic 123, 3) := by decide +kernel
theorem dX8_cut_83 : decode cX8_cut 83 = .ok (.ifCond .eq 7, 3) := by decide +kernel
theorem dX8_cut_86 : decode cX8_cut 86 = .ok (.iconst 1, 1) := by decide +kernel
theorem dX8_cut_87 : decode cX8_cut 87 = .ok (.goto 4, 3) := by decide +kernel
theorem dX8_cut_90 : decode cX8_cut 90 = .ok (.iconst 0, 1) := by decide +kernel
theorem dX8_cut_91 : decode cX8_cut 91 = .ok (.ireturn, 1) := by decide +kernel
theorem dX8_cut_92 : decode cX8_cut 92 = .ok (.aload_n 0, 1) := by decide +kernel
theorem dX8_cut_93 : decode cX8_cut 93 = .ok (.invokevirtual 127, 3) := by decide +kernel
theorem dX8_cut_96 : decode cX8_cut 96 = .ok (.iload_n 1, 1) := by decide +kernel
theorem dX8_cut_97 : decode cX8_cut 97 = .ok (.invokevirtual 131, 3) := by decide +kernel
theorem dX8_cut_100 : decode cX8_cut 100 = .ok (.ireturn, 1) := by decide +kernel
theorem dX8_cut_101 : decode cX8_cut 101 = .ok (.aload_n 0, 1) := by decide +kernel
theorem dX8_cut_102 : decode cX8_cut 102 = .ok (.getfield 20, 3) := by decide +kernel
theorem dX8_cut_105 : decode cX8_cut 105 = .ok (.aload_n 0, 1) := by decide +kernel
theorem dX8_cut_106 : decode cX8_cut 106 = .ok (.getfield 20, 3) := by decide +kernel
theorem dX8_cut_109 : decode cX8_cut 109 = .ok (.getfield 117, 3) := by decide +kernel
theorem dX8_cut_112 : decode cX8_cut 112 = .ok (.iload_n 1, 1) := by decide +kernel
theorem dX8_cut_113 : decode cX8_cut 113 = .ok (.iaload, 1) := by decide +kernel
theorem dX8_cut_114 : decode cX8_cut 114 = .ok (.aload_n 0, 1) := by decide +kernel
theorem dX8_cut_115 : decode cX8_cut 115 = .ok (.getfield 20, 3) := by decide +kernel
theorem dX8_cut_118 : decode cX8_cut 118 = .ok (.getfield 120, 3) := by decide +kernel
theorem dX8_cut_121 : decode cX8_cut 121 = .ok (.iload_n 1, 1) := by decide +kernel
theorem dX8_cut_122 : decode cX8_cut 122 = .ok (.iaload, 1) := by decide +kernel
theorem dX8_cut_123 : decode cX8_cut 123 = .ok (.invokevirtual 135, 3) := by decide +kernel
theorem dX8_cut_126 : decode cX8_cut 126 = .ok (.ireturn, 1) := by decide +kernel
theorem dX8_cut_127 : decode cX8_cut 127 = .ok (.iconst (-1), 1) := by decide +kernel
theorem dX8_cut_128 : decode cX8_cut 128 = .ok (.ireturn, 1) := by decide +kernel
theorem dX8_part_0 : decode cX8_part 0 = .ok (.iload_n 1, 1) := by decide +kernel
theorem dX8_part_1 : decode cX8_part 1 = .ok (.ifCond .lt 14, 3) := by decide +kernel
theorem dX8_part_4 : decode cX8_part 4 = .ok (.iload_n 1, 1) := by decide +kernel
theorem dX8_part_5 : decode cX8_part 5 = .ok (.aload_n 0, 1) := by decide +kernel
theorem dX8_part_6 : decode cX8_part 6 = .ok (.getfield 20, 3) := by decide +kernel
theorem dX8_part_9 : decode cX8_part 9 = .ok (.getfield 138, 3) := by decide +kernel
theorem dX8_part_12 : decode cX8_part 12 = .ok (.if_icmp .lt 5, 3) := by decide +kernel
theorem dX8_part_15 : decode cX8_part 15 = .ok (.iconst (-1), 1) := by decide +kernel
theorem dX8_part_16 : decode cX8_part 16 = .ok (.ireturn, 1) := by decide +kernel
theorem dX8_part_17 : decode cX8_part 17 = .ok (.iload_n 2, 1) := by decide +kernel
theorem dX8_part_18 : decode cX8_part 18 = .ok (.tableswitch 67 0 2 #[26, 36, 57], 26) := by decide +kernel
theorem dX8_part_44 : decode cX8_part 44 = .ok (.aload_n 0, 1) := by decide +kernel
theorem dX8_part_45 : decode cX8_part 45 = .ok (.getfield 20, 3) := by decide +kernel
theorem dX8_part_48 : decode cX8_part 48 = .ok (.getfield 141, 3) := by decide +kernel
theorem dX8_part_51 : decode cX8_part 51 = .ok (.iload_n 1, 1) := by decide +kernel
theorem dX8_part_52 : decode cX8_part 52 = .ok (.iaload, 1) := by decide +kernel
theorem dX8_part_53 : decode cX8_part 53 = .ok (.ireturn, 1) := by decide +kernel
theorem dX8_part_54 : decode cX8_part 54 = .ok (.aload_n 0, 1) := by decide +kernel
theorem dX8_part_55 : decode cX8_part 55 = .ok (.getfield 20, 3) := by decide +kernel
theorem dX8_part_58 : decode cX8_part 58 = .ok (.getfield 144, 3) := by decide +kernel
theorem dX8_part_61 : decode cX8_part 61 = .ok (.iload_n 1, 1) := by decide +kernel
theorem dX8_part_62 : decode cX8_part 62 = .ok (.iaload, 1) := by decide +kernel
theorem dX8_part_63 : decode cX8_part 63 = .ok (.aload_n 0, 1) := by decide +kernel
theorem dX8_part_64 : decode cX8_part 64 = .ok (.getfield 37, 3) := by decide +kernel
theorem dX8_part_67 : decode cX8_part 67 = .ok (.getfield 104, 3) := by decide +kernel
theorem dX8_part_70 : decode cX8_part 70 = .ok (.iand, 1) := by decide +kernel
theorem dX8_part_71 : decode cX8_part 71 = .ok (.invokestatic 147, 3) := by decide +kernel
theorem dX8_part_74 : decode cX8_part 74 = .ok (.ireturn, 1) := by decide +kernel
theorem dX8_part_75 : decode cX8_part 75 = .ok (.aload_n 0, 1) := by decide +kernel
theorem dX8_part_76 : decode cX8_part 76 = .ok (.getfield 20, 3) := by decide +kernel
theorem dX8_part_79 : decode cX8_part 79 = .ok (.getfield 152, 3) := by decide +kernel
theorem dX8_part_82 : decode cX8_part 82 = .ok (.iload_n 1, 1) := by decide +kernel
theorem dX8_part_83 : decode cX8_part 83 = .ok (.iaload, 1) := by decide +kernel
theorem dX8_part_84 : decode cX8_part 84 = .ok (.ireturn, 1) := by decide +kernel
theorem dX8_part_85 : decode cX8_part 85 = .ok (.iconst (-1), 1) := by decide +kernel
theorem dX8_part_86 : decode cX8_part 86 = .ok (.ireturn, 1) := by decide +kernel
theorem dX8_burns_0 : decode cX8_burns 0 = .ok (.aload_n 0, 1) := by decide +kernel
theorem dX8_burns_1 : decode cX8_burns 1 = .ok (.getfield 20, 3) := by decide +kernel
theorem dX8_burns_4 : decode cX8_burns 4 = .ok (.iload_n 1, 1) := by decide +kernel
theorem dX8_burns_5 : decode cX8_burns 5 = .ok (.invokevirtual 94, 3) := by decide +kernel
theorem dX8_burns_8 : decode cX8_burns 8 = .ok (.ifCond .eq 14, 3) := by decide +kernel
theorem dX8_burns_11 : decode cX8_burns 11 = .ok (.iload_n 1, 1) := by decide +kernel
theorem dX8_burns_12 : decode cX8_burns 12 = .ok (.aload_n 0, 1) := by decide +kernel
theorem dX8_burns_13 : decode cX8_burns 13 = .ok (.getfield 37, 3) := by decide +kernel
theorem dX8_burns_16 : decode cX8_burns 16 = .ok (.getfield 155, 3) := by decide +kernel
theorem dX8_burns_19 : decode cX8_burns 19 = .ok (.if_icmp .ne 5, 3) := by decide +kernel
theorem dX8_burns_22 : decode cX8_burns 22 = .ok (.iconst (-1), 1) := by decide +kernel
theorem dX8_burns_23 : decode cX8_burns 23 = .ok (.ireturn, 1) := by decide +kernel
theorem dX8_burns_24 : decode cX8_burns 24 = .ok (.aload_n 0, 1) := by decide +kernel
theorem dX8_burns_25 : decode cX8_burns 25 = .ok (.iload_n 1, 1) := by decide +kernel
theorem dX8_burns_26 : decode cX8_burns 26 = .ok (.invokevirtual 158, 3) := by decide +kernel
theorem dX8_burns_29 : decode cX8_burns 29 = .ok (.ifCond .eq 13, 3) := by decide +kernel
theorem dX8_burns_32 : decode cX8_burns 32 = .ok (.aload_n 0, 1) := by decide +kernel
theorem dX8_burns_33 : decode cX8_burns 33 = .ok (.getfield 37, 3) := by decide +kernel
theorem dX8_burns_36 : decode cX8_burns 36 = .ok (.getfield 161, 3) := by decide +kernel
theorem dX8_burns_39 : decode cX8_burns 39 = .ok (.goto 5, 3) := by decide +kernel
theorem dX8_burns_42 : decode cX8_burns 42 = .ok (.bipush (-2), 2) := by decide +kernel
theorem dX8_burns_44 : decode cX8_burns 44 = .ok (.ireturn, 1) := by decide +kernel
theorem dX8_moves_0 : decode cX8_moves 0 = .ok (.aload_n 0, 1) := by decide +kernel
theorem dX8_moves_1 : decode cX8_moves 1 = .ok (.getfield 20, 3) := by decide +kernel
theorem dX8_moves_4 : decode cX8_moves 4 = .ok (.iload_n 1, 1) := by decide +kernel
theorem dX8_moves_5 : decode cX8_moves 5 = .ok (.invokevirtual 94, 3) := by decide +kernel
theorem dX8_moves_8 : decode cX8_moves 8 = .ok (.ifCond .eq 14, 3) := by decide +kernel
theorem dX8_moves_11 : decode cX8_moves 11 = .ok (.iload_n 1, 1) := by decide +kernel
theorem dX8_moves_12 : decode cX8_moves 12 = .ok (.aload_n 0, 1) := by decide +kernel
theorem dX8_moves_13 : decode cX8_moves 13 = .ok (.getfield 37, 3) := by decide +kernel
theorem dX8_moves_16 : decode cX8_moves 16 = .ok (.getfield 155, 3) := by decide +kernel
theorem dX8_moves_19 : decode cX8_moves 19 = .ok (.if_icmp .ne 5, 3) := by decide +kernel
theorem dX8_moves_22 : decode cX8_moves 22 = .ok (.iconst (-1), 1) := by decide +kernel
theorem dX8_moves_23 : decode cX8_moves 23 = .ok (.ireturn, 1) := by decide +kernel
theorem dX8_moves_24 : decode cX8_moves 24 = .ok (.aload_n 0, 1) := by decide +kernel
theorem dX8_moves_25 : decode cX8_moves 25 = .ok (.iload_n 1, 1) := by decide +kernel
theorem dX8_moves_26 : decode cX8_moves 26 = .ok (.invokevirtual 164, 3) := by decide +kernel
theorem dX8_moves_29 : decode cX8_moves 29 = .ok (.aload_n 0, 1) := by decide +kernel
theorem dX8_moves_30 : decode cX8_moves 30 = .ok (.getfield 37, 3) := by decide +kernel
theorem dX8_moves_33 : decode cX8_moves 33 = .ok (.getfield 161, 3) := by decide +kernel
theorem dX8_moves_36 : decode cX8_moves 36 = .ok (.ireturn, 1) := by decide +kernel
theorem dX8_follows_0 : decode cX8_follows 0 = .ok (.aload_n 0, 1) := by decide +kernel
theorem dX8_follows_1 : decode cX8_follows 1 = .ok (.getfield 37, 3) := by decide +kernel
theorem dX8_follows_4 : decode cX8_follows 4 = .ok (.getfield 104, 3) := by decide +kernel
theorem dX8_follows_7 : decode cX8_follows 7 = .ok (.ifCond .ne 6, 3) := by decide +kernel
theorem dX8_follows_10 : decode cX8_follows 10 = .ok (.bipush (-2), 2) := by decide +kernel
theorem dX8_follows_12 : decode cX8_follows 12 = .ok (.ireturn, 1) := by decide +kernel
theorem dX8_follows_13 : decode cX8_follows 13 = .ok (.aload_n 0, 1) := by decide +kernel
theorem dX8_follows_14 : decode cX8_follows 14 = .ok (.invokevirtual 127, 3) := by decide +kernel
theorem dX8_follows_17 : decode cX8_follows 17 = .ok (.astore_n 1, 1) := by decide +kernel
theorem dX8_follows_18 : decode cX8_follows 18 = .ok (.aload_n 1, 1) := by decide +kernel
theorem dX8_follows_19 : decode cX8_follows 19 = .ok (.getfield 168, 3) := by decide +kernel
theorem dX8_follows_22 : decode cX8_follows 22 = .ok (.ldc 171, 2) := by decide +kernel
theorem dX8_follows_24 : decode cX8_follows 24 = .ok (.if_icmp .lt 6, 3) := by decide +kernel
theorem dX8_follows_27 : decode cX8_follows 27 = .ok (.bipush (-2), 2) := by decide +kernel
theorem dX8_follows_29 : decode cX8_follows 29 = .ok (.ireturn, 1) := by decide +kernel
theorem dX8_follows_30 : decode cX8_follows 30 = .ok (.aload_n 1, 1) := by decide +kernel
theorem dX8_follows_31 : decode cX8_follows 31 = .ok (.getfield 172, 3) := by decide +kernel
theorem dX8_follows_34 : decode cX8_follows 34 = .ok (.iconst 0, 1) := by decide +kernel
theorem dX8_follows_35 : decode cX8_follows 35 = .ok (.iaload, 1) := by decide +kernel
theorem dX8_follows_36 : decode cX8_follows 36 = .ok (.istore_n 2, 1) := by decide +kernel
theorem dX8_follows_37 : decode cX8_follows 37 = .ok (.aload_n 1, 1) := by decide +kernel
theorem dX8_follows_38 : decode cX8_follows 38 = .ok (.iload_n 2, 1) := by decide +kernel
theorem dX8_follows_39 : decode cX8_follows 39 = .ok (.invokevirtual 175, 3) := by decide +kernel
theorem dX8_follows_42 : decode cX8_follows 42 = .ok (.istore_n 3, 1) := by decide +kernel
theorem dX8_follows_43 : decode cX8_follows 43 = .ok (.iload_n 3, 1) := by decide +kernel
theorem dX8_follows_44 : decode cX8_follows 44 = .ok (.aload_n 0, 1) := by decide +kernel
theorem dX8_follows_45 : decode cX8_follows 45 = .ok (.getfield 37, 3) := by decide +kernel
theorem dX8_follows_48 : decode cX8_follows 48 = .ok (.getfield 155, 3) := by decide +kernel
theorem dX8_follows_51 : decode cX8_follows 51 = .ok (.if_icmp .eq 16, 3) := by decide +kernel
theorem dX8_follows_54 : decode cX8_follows 54 = .ok (.aload_n 0, 1) := by decide +kernel
theorem dX8_follows_55 : decode cX8_follows 55 = .ok (.iload_n 3, 1) := by decide +kernel
theorem dX8_follows_56 : decode cX8_follows 56 = .ok (.invokevirtual 164, 3) := by decide +kernel
theorem dX8_follows_59 : decode cX8_follows 59 = .ok (.aload_n 0, 1) := by decide +kernel
theorem dX8_follows_60 : decode cX8_follows 60 = .ok (.getfield 37, 3) := by decide +kernel
theorem dX8_follows_63 : decode cX8_follows 63 = .ok (.getfield 155, 3) := by decide +kernel
theorem dX8_follows_66 : decode cX8_follows 66 = .ok (.ireturn, 1) := by decide +kernel
theorem dX8_follows_67 : decode cX8_follows 67 = .ok (.aload_n 0, 1) := by decide +kernel
theorem dX8_follows_68 : decode cX8_follows 68 = .ok (.getfield 65, 3) := by decide +kernel
theorem dX8_follows_71 : decode cX8_follows 71 = .ok (.aload_n 0, 1) := by decide +kernel
theorem dX8_follows_72 : decode cX8_follows 72 = .ok (.getfield 20, 3) := by decide +kernel
theorem dX8_follows_75 : decode cX8_follows 75 = .ok (.aload_n 1, 1) := by decide +kernel
theorem dX8_follows_76 : decode cX8_follows 76 = .ok (.iload_n 2, 1) := by decide +kernel
theorem dX8_follows_77 : decode cX8_follows 77 = .ok (.invokevirtual 178, 3) := by decide +kernel
theorem dX8_follows_80 : decode cX8_follows 80 = .ok (.aload_n 0, 1) := by decide +kernel
theorem dX8_follows_81 : decode cX8_follows 81 = .ok (.aload_n 0, 1) := by decide +kernel
theorem dX8_follows_82 : decode cX8_follows 82 = .ok (.getfield 65, 3) := by decide +kernel
theorem dX8_follows_85 : decode cX8_follows 85 = .ok (.getfield 182, 3) := by decide +kernel
theorem dX8_follows_88 : decode cX8_follows 88 = .ok (.iconst 0, 1) := by decide +kernel
theorem dX8_follows_89 : decode cX8_follows 89 = .ok (.iaload, 1) := by decide +kernel
theorem dX8_follows_90 : decode cX8_follows 90 = .ok (.invokevirtual 158, 3) := by decide +kernel
theorem dX8_follows_93 : decode cX8_follows 93 = .ok (.ifCond .eq 13, 3) := by decide +kernel
theorem dX8_follows_96 : decode cX8_follows 96 = .ok (.aload_n 0, 1) := by decide +kernel
theorem dX8_follows_97 : decode cX8_follows 97 = .ok (.getfield 37, 3) := by decide +kernel
theorem dX8_follows_100 : decode cX8_follows 100 = .ok (.getfield 155, 3) := by decide +kernel
theorem dX8_follows_103 : decode cX8_follows 103 = .ok (.goto 5, 3) := by decide +kernel
theorem dX8_follows_106 : decode cX8_follows 106 = .ok (.bipush (-2), 2) := by decide +kernel
theorem dX8_follows_108 : decode cX8_follows 108 = .ok (.ireturn, 1) := by decide +kernel
theorem dX8_undo_0 : decode cX8_undo 0 = .ok (.aload_n 0, 1) := by decide +kernel
theorem dX8_undo_1 : decode cX8_undo 1 = .ok (.getfield 44, 3) := by decide +kernel
theorem dX8_undo_4 : decode cX8_undo 4 = .ok (.aload_n 0, 1) := by decide +kernel
theorem dX8_undo_5 : decode cX8_undo 5 = .ok (.getfield 37, 3) := by decide +kernel
theorem dX8_undo_8 : decode cX8_undo 8 = .ok (.invokevirtual 185, 3) := by decide +kernel
theorem dX8_undo_11 : decode cX8_undo 11 = .ok (.ifCond .ne 6, 3) := by decide +kernel
theorem dX8_undo_14 : decode cX8_undo 14 = .ok (.bipush (-2), 2) := by decide +kernel
theorem dX8_undo_16 : decode cX8_undo 16 = .ok (.ireturn, 1) := by decide +kernel
theorem dX8_undo_17 : decode cX8_undo 17 = .ok (.aload_n 0, 1) := by decide +kernel
theorem dX8_undo_18 : decode cX8_undo 18 = .ok (.invokevirtual 88, 3) := by decide +kernel
theorem dX8_undo_21 : decode cX8_undo 21 = .ok (.aload_n 0, 1) := by decide +kernel
theorem dX8_undo_22 : decode cX8_undo 22 = .ok (.getfield 44, 3) := by decide +kernel
theorem dX8_undo_25 : decode cX8_undo 25 = .ok (.getfield 189, 3) := by decide +kernel
theorem dX8_undo_28 : decode cX8_undo 28 = .ok (.ireturn, 1) := by decide +kernel
theorem dX8_piece_0 : decode cX8_piece 0 = .ok (.aload_n 0, 1) := by decide +kernel
theorem dX8_piece_1 : decode cX8_piece 1 = .ok (.invokevirtual 127, 3) := by decide +kernel
theorem dX8_piece_4 : decode cX8_piece 4 = .ok (.astore_n 3, 1) := by decide +kernel
theorem dX8_piece_5 : decode cX8_piece 5 = .ok (.aload_n 3, 1) := by decide +kernel
theorem dX8_piece_6 : decode cX8_piece 6 = .ok (.iload_n 1, 1) := by decide +kernel
theorem dX8_piece_7 : decode cX8_piece 7 = .ok (.invokevirtual 192, 3) := by decide +kernel
theorem dX8_piece_10 : decode cX8_piece 10 = .ok (.ifCond .ne 5, 3) := by decide +kernel
theorem dX8_piece_13 : decode cX8_piece 13 = .ok (.iconst (-1), 1) := by decide +kernel
theorem dX8_piece_14 : decode cX8_piece 14 = .ok (.ireturn, 1) := by decide +kernel
theorem dX8_piece_15 : decode cX8_piece 15 = .ok (.iload_n 2, 1) := by decide +kernel
theorem dX8_piece_16 : decode cX8_piece 16 = .ok (.tableswitch 70 0 4 #[36, 43, 50, 57, 63], 36) := by decide +kernel
theorem dX8_piece_52 : decode cX8_piece 52 = .ok (.aload_n 3, 1) := by decide +kernel
theorem dX8_piece_53 : decode cX8_piece 53 = .ok (.getfield 195, 3) := by decide +kernel
theorem dX8_piece_56 : decode cX8_piece 56 = .ok (.iload_n 1, 1) := by decide +kernel
theorem dX8_piece_57 : decode cX8_piece 57 = .ok (.iaload, 1) := by decide +kernel
theorem dX8_piece_58 : decode cX8_piece 58 = .ok (.ireturn, 1) := by decide +kernel
theorem dX8_piece_59 : decode cX8_piece 59 = .ok (.aload_n 3, 1) := by decide +kernel
theorem dX8_piece_60 : decode cX8_piece 60 = .ok (.getfield 197, 3) := by decide +kernel
theorem dX8_piece_63 : decode cX8_piece 63 = .ok (.iload_n 1, 1) := by decide +kernel
theorem dX8_piece_64 : decode cX8_piece 64 = .ok (.iaload, 1) := by decide +kernel
theorem dX8_piece_65 : decode cX8_piece 65 = .ok (.ireturn, 1) := by decide +kernel
theorem dX8_piece_66 : decode cX8_piece 66 = .ok (.aload_n 3, 1) := by decide +kernel
theorem dX8_piece_67 : decode cX8_piece 67 = .ok (.getfield 200, 3) := by decide +kernel
theorem dX8_piece_70 : decode cX8_piece 70 = .ok (.iload_n 1, 1) := by decide +kernel
theorem dX8_piece_71 : decode cX8_piece 71 = .ok (.iaload, 1) := by decide +kernel
theorem dX8_piece_72 : decode cX8_piece 72 = .ok (.ireturn, 1) := by decide +kernel
theorem dX8_piece_73 : decode cX8_piece 73 = .ok (.aload_n 3, 1) := by decide +kernel
theorem dX8_piece_74 : decode cX8_piece 74 = .ok (.iload_n 1, 1) := by decide +kernel
theorem dX8_piece_75 : decode cX8_piece 75 = .ok (.invokevirtual 203, 3) := by decide +kernel
theorem dX8_piece_78 : decode cX8_piece 78 = .ok (.ireturn, 1) := by decide +kernel
theorem dX8_piece_79 : decode cX8_piece 79 = .ok (.aload_n 3, 1) := by decide +kernel
theorem dX8_piece_80 : decode cX8_piece 80 = .ok (.getfield 206, 3) := by decide +kernel
theorem dX8_piece_83 : decode cX8_piece 83 = .ok (.iload_n 1, 1) := by decide +kernel
theorem dX8_piece_84 : decode cX8_piece 84 = .ok (.iaload, 1) := by decide +kernel
theorem dX8_piece_85 : decode cX8_piece 85 = .ok (.ireturn, 1) := by decide +kernel
theorem dX8_piece_86 : decode cX8_piece 86 = .ok (.iconst (-1), 1) := by decide +kernel
theorem dX8_piece_87 : decode cX8_piece 87 = .ok (.ireturn, 1) := by decide +kernel
theorem dX8_link_0 : decode cX8_link 0 = .ok (.aload_n 0, 1) := by decide +kernel
theorem dX8_link_1 : decode cX8_link 1 = .ok (.getfield 20, 3) := by decide +kernel
theorem dX8_link_4 : decode cX8_link 4 = .ok (.iload_n 1, 1) := by decide +kernel
theorem dX8_link_5 : decode cX8_link 5 = .ok (.invokevirtual 94, 3) := by decide +kernel
theorem dX8_link_8 : decode cX8_link 8 = .ok (.ifCond .eq 15, 3) := by decide +kernel
theorem dX8_link_11 : decode cX8_link 11 = .ok (.aload_n 0, 1) := by decide +kernel
theorem dX8_link_12 : decode cX8_link 12 = .ok (.invokevirtual 127, 3) := by decide +kernel
theorem dX8_link_15 : decode cX8_link 15 = .ok (.getfield 209, 3) := by decide +kernel
theorem dX8_link_18 : decode cX8_link 18 = .ok (.iload_n 1, 1) := by decide +kernel
theorem dX8_link_19 : decode cX8_link 19 = .ok (.iaload, 1) := by decide +kernel
theorem dX8_link_20 : decode cX8_link 20 = .ok (.goto 4, 3) := by decide +kernel
theorem dX8_link_23 : decode cX8_link 23 = .ok (.iconst (-1), 1) := by decide +kernel
theorem dX8_link_24 : decode cX8_link 24 = .ok (.ireturn, 1) := by decide +kernel
theorem dX8_round_0 : decode cX8_round 0 = .ok (.aload_n 0, 1) := by decide +kernel
theorem dX8_round_1 : decode cX8_round 1 = .ok (.invokevirtual 127, 3) := by decide +kernel
theorem dX8_round_4 : decode cX8_round 4 = .ok (.astore 4, 2) := by decide +kernel
theorem dX8_round_6 : decode cX8_round 6 = .ok (.aload 4, 2) := by decide +kernel
theorem dX8_round_8 : decode cX8_round 8 = .ok (.iload_n 1, 1) := by decide +kernel
theorem dX8_round_9 : decode cX8_round 9 = .ok (.invokevirtual 192, 3) := by decide +kernel
theorem dX8_round_12 : decode cX8_round 12 = .ok (.ifCond .eq 16, 3) := by decide +kernel
theorem dX8_round_15 : decode cX8_round 15 = .ok (.iload_n 2, 1) := by decide +kernel
theorem dX8_round_16 : decode cX8_round 16 = .ok (.ifCond .lt 12, 3) := by decide +kernel
theorem dX8_round_19 : decode cX8_round 19 = .ok (.iload_n 3, 1) := by decide +kernel
theorem dX8_round_20 : decode cX8_round 20 = .ok (.ifCond .lt 8, 3) := by decide +kernel
theorem dX8_round_23 : decode cX8_round 23 = .ok (.iload_n 3, 1) := by decide +kernel
theorem dX8_round_24 : decode cX8_round 24 = .ok (.iconst 1, 1) := by decide +kernel
theorem dX8_round_25 : decode cX8_round 25 = .ok (.if_icmp .le 5, 3) := by decide +kernel
theorem dX8_round_28 : decode cX8_round 28 = .ok (.iconst (-1), 1) := by decide +kernel
theorem dX8_round_29 : decode cX8_round 29 = .ok (.ireturn, 1) := by decide +kernel
theorem dX8_round_30 : decode cX8_round 30 = .ok (.aload_n 0, 1) := by decide +kernel
theorem dX8_round_31 : decode cX8_round 31 = .ok (.getfield 65, 3) := by decide +kernel
theorem dX8_round_34 : decode cX8_round 34 = .ok (.aload_n 0, 1) := by decide +kernel
theorem dX8_round_35 : decode cX8_round 35 = .ok (.getfield 20, 3) := by decide +kernel
theorem dX8_round_38 : decode cX8_round 38 = .ok (.aload 4, 2) := by decide +kernel
theorem dX8_round_40 : decode cX8_round 40 = .ok (.iload_n 1, 1) := by decide +kernel
theorem dX8_round_41 : decode cX8_round 41 = .ok (.invokevirtual 178, 3) := by decide +kernel
theorem dX8_round_44 : decode cX8_round 44 = .ok (.iload_n 2, 1) := by decide +kernel
theorem dX8_round_45 : decode cX8_round 45 = .ok (.aload_n 0, 1) := by decide +kernel
theorem dX8_round_46 : decode cX8_round 46 = .ok (.getfield 65, 3) := by decide +kernel
theorem dX8_round_49 : decode cX8_round 49 = .ok (.getfield 212, 3) := by decide +kernel
theorem dX8_round_52 : decode cX8_round 52 = .ok (.if_icmp .lt 6, 3) := by decide +kernel
theorem dX8_round_55 : decode cX8_round 55 = .ok (.bipush (-9), 2) := by decide +kernel
theorem dX8_round_57 : decode cX8_round 57 = .ok (.ireturn, 1) := by decide +kernel
theorem dX8_round_58 : decode cX8_round 58 = .ok (.iload_n 3, 1) := by decide +kernel
theorem dX8_round_59 : decode cX8_round 59 = .ok (.ifCond .ne 15, 3) := by decide +kernel
theorem dX8_round_62 : decode cX8_round 62 = .ok (.aload_n 0, 1) := by decide +kernel
theorem dX8_round_63 : decode cX8_round 63 = .ok (.getfield 65, 3) := by decide +kernel
theorem dX8_round_66 : decode cX8_round 66 = .ok (.getfield 182, 3) := by decide +kernel
theorem dX8_round_69 : decode cX8_round 69 = .ok (.iload_n 2, 1) := by decide +kernel
theorem dX8_round_70 : decode cX8_round 70 = .ok (.iaload, 1) := by decide +kernel
theorem dX8_round_71 : decode cX8_round 71 = .ok (.goto 12, 3) := by decide +kernel
theorem dX8_round_74 : decode cX8_round 74 = .ok (.aload_n 0, 1) := by decide +kernel
theorem dX8_round_75 : decode cX8_round 75 = .ok (.getfield 65, 3) := by decide +kernel
theorem dX8_round_78 : decode cX8_round 78 = .ok (.getfield 215, 3) := by decide +kernel
theorem dX8_round_81 : decode cX8_round 81 = .ok (.iload_n 2, 1) := by decide +kernel
theorem dX8_round_82 : decode cX8_round 82 = .ok (.iaload, 1) := by decide +kernel
theorem dX8_round_83 : decode cX8_round 83 = .ok (.ireturn, 1) := by decide +kernel
theorem dX8_tour_0 : decode cX8_tour 0 = .ok (.iload_n 1, 1) := by decide +kernel
theorem dX8_tour_1 : decode cX8_tour 1 = .ok (.iconst (-1), 1) := by decide +kernel
theorem dX8_tour_2 : decode cX8_tour 2 = .ok (.if_icmp .ge 5, 3) := by decide +kernel
theorem dX8_tour_5 : decode cX8_tour 5 = .ok (.iconst (-1), 1) := by decide +kernel
theorem dX8_tour_6 : decode cX8_tour 6 = .ok (.ireturn, 1) := by decide +kernel
theorem dX8_tour_7 : decode cX8_tour 7 = .ok (.aload_n 0, 1) := by decide +kernel
theorem dX8_tour_8 : decode cX8_tour 8 = .ok (.invokevirtual 127, 3) := by decide +kernel
theorem dX8_tour_11 : decode cX8_tour 11 = .ok (.astore_n 2, 1) := by decide +kernel
theorem dX8_tour_12 : decode cX8_tour 12 = .ok (.aload_n 2, 1) := by decide +kernel
theorem dX8_tour_13 : decode cX8_tour 13 = .ok (.getfield 168, 3) := by decide +kernel
theorem dX8_tour_16 : decode cX8_tour 16 = .ok (.ldc 171, 2) := by decide +kernel
theorem dX8_tour_18 : decode cX8_tour 18 = .ok (.if_icmp .lt 6, 3) := by decide +kernel
theorem dX8_tour_21 : decode cX8_tour 21 = .ok (.bipush (-9), 2) := by decide +kernel
theorem dX8_tour_23 : decode cX8_tour 23 = .ok (.ireturn, 1) := by decide +kernel
theorem dX8_tour_24 : decode cX8_tour 24 = .ok (.iload_n 1, 1) := by decide +kernel
theorem dX8_tour_25 : decode cX8_tour 25 = .ok (.iconst (-1), 1) := by decide +kernel
theorem dX8_tour_26 : decode cX8_tour 26 = .ok (.if_icmp .ne 8, 3) := by decide +kernel
theorem dX8_tour_29 : decode cX8_tour 29 = .ok (.aload_n 2, 1) := by decide +kernel
theorem dX8_tour_30 : decode cX8_tour 30 = .ok (.invokevirtual 218, 3) := by decide +kernel
theorem dX8_tour_33 : decode cX8_tour 33 = .ok (.ireturn, 1) := by decide +kernel
theorem dX8_tour_34 : decode cX8_tour 34 = .ok (.aload_n 2, 1) := by decide +kernel
theorem dX8_tour_35 : decode cX8_tour 35 = .ok (.iload_n 1, 1) := by decide +kernel
theorem dX8_tour_36 : decode cX8_tour 36 = .ok (.invokevirtual 192, 3) := by decide +kernel
theorem dX8_tour_39 : decode cX8_tour 39 = .ok (.ifCond .eq 12, 3) := by decide +kernel
theorem dX8_tour_42 : decode cX8_tour 42 = .ok (.aload_n 2, 1) := by decide +kernel
theorem dX8_tour_43 : decode cX8_tour 43 = .ok (.getfield 172, 3) := by decide +kernel
theorem dX8_tour_46 : decode cX8_tour 46 = .ok (.iload_n 1, 1) := by decide +kernel
theorem dX8_tour_47 : decode cX8_tour 47 = .ok (.iaload, 1) := by decide +kernel
theorem dX8_tour_48 : decode cX8_tour 48 = .ok (.goto 5, 3) := by decide +kernel
theorem dX8_tour_51 : decode cX8_tour 51 = .ok (.bipush (-9), 2) := by decide +kernel
theorem dX8_tour_53 : decode cX8_tour 53 = .ok (.ireturn, 1) := by decide +kernel
theorem dX8_sees_0 : decode cX8_sees 0 = .ok (.aload_n 0, 1) := by decide +kernel
theorem dX8_sees_1 : decode cX8_sees 1 = .ok (.getfield 20, 3) := by decide +kernel
theorem dX8_sees_4 : decode cX8_sees 4 = .ok (.iload_n 1, 1) := by decide +kernel
theorem dX8_sees_5 : decode cX8_sees 5 = .ok (.invokevirtual 94, 3) := by decide +kernel
theorem dX8_sees_8 : decode cX8_sees 8 = .ok (.ifCond .eq 23, 3) := by decide +kernel
theorem dX8_sees_11 : decode cX8_sees 11 = .ok (.aload_n 0, 1) := by decide +kernel
theorem dX8_sees_12 : decode cX8_sees 12 = .ok (.getfield 20, 3) := by decide +kernel
theorem dX8_sees_15 : decode cX8_sees 15 = .ok (.iload_n 2, 1) := by decide +kernel
theorem dX8_sees_16 : decode cX8_sees 16 = .ok (.invokevirtual 94, 3) := by decide +kernel
theorem dX8_sees_19 : decode cX8_sees 19 = .ok (.ifCond .eq 12, 3) := by decide +kernel
theorem dX8_sees_22 : decode cX8_sees 22 = .ok (.iload_n 3, 1) := by decide +kernel
theorem dX8_sees_23 : decode cX8_sees 23 = .ok (.ifCond .lt 8, 3) := by decide +kernel
theorem dX8_sees_26 : decode cX8_sees 26 = .ok (.iload_n 3, 1) := by decide +kernel
theorem dX8_sees_27 : decode cX8_sees 27 = .ok (.iconst 1, 1) := by decide +kernel
theorem dX8_sees_28 : decode cX8_sees 28 = .ok (.if_icmp .le 5, 3) := by decide +kernel
theorem dX8_sees_31 : decode cX8_sees 31 = .ok (.iconst (-1), 1) := by decide +kernel
theorem dX8_sees_32 : decode cX8_sees 32 = .ok (.ireturn, 1) := by decide +kernel
theorem dX8_sees_33 : decode cX8_sees 33 = .ok (.aload_n 0, 1) := by decide +kernel
theorem dX8_sees_34 : decode cX8_sees 34 = .ok (.getfield 72, 3) := by decide +kernel
theorem dX8_sees_37 : decode cX8_sees 37 = .ok (.iload_n 1, 1) := by decide +kernel
theorem dX8_sees_38 : decode cX8_sees 38 = .ok (.iload_n 2, 1) := by decide +kernel
theorem dX8_sees_39 : decode cX8_sees 39 = .ok (.iload_n 3, 1) := by decide +kernel
theorem dX8_sees_40 : decode cX8_sees 40 = .ok (.invokevirtual 222, 3) := by decide +kernel
theorem dX8_sees_43 : decode cX8_sees 43 = .ok (.ifCond .eq 13, 3) := by decide +kernel
theorem dX8_sees_46 : decode cX8_sees 46 = .ok (.aload_n 0, 1) := by decide +kernel
theorem dX8_sees_47 : decode cX8_sees 47 = .ok (.getfield 72, 3) := by decide +kernel
theorem dX8_sees_50 : decode cX8_sees 50 = .ok (.getfield 226, 3) := by decide +kernel
theorem dX8_sees_53 : decode cX8_sees 53 = .ok (.goto 5, 3) := by decide +kernel
theorem dX8_sees_56 : decode cX8_sees 56 = .ok (.bipush (-3), 2) := by decide +kernel
theorem dX8_sees_58 : decode cX8_sees 58 = .ok (.ireturn, 1) := by decide +kernel
theorem dX8_forget_0 : decode cX8_forget 0 = .ok (.aload_n 0, 1) := by decide +kernel
theorem dX8_forget_1 : decode cX8_forget 1 = .ok (.getfield 72, 3) := by decide +kernel
theorem dX8_forget_4 : decode cX8_forget 4 = .ok (.getfield 226, 3) := by decide +kernel
theorem dX8_forget_7 : decode cX8_forget 7 = .ok (.istore_n 1, 1) := by decide +kernel
theorem dX8_forget_8 : decode cX8_forget 8 = .ok (.aload_n 0, 1) := by decide +kernel
theorem dX8_forget_9 : decode cX8_forget 9 = .ok (.getfield 72, 3) := by decide +kernel
theorem dX8_forget_12 : decode cX8_forget 12 = .ok (.invokevirtual 87, 3) := by decide +kernel
theorem dX8_forget_15 : decode cX8_forget 15 = .ok (.iload_n 1, 1) := by decide +kernel
theorem dX8_forget_16 : decode cX8_forget 16 = .ok (.ireturn, 1) := by decide +kernel
theorem dX8_unseen_0 : decode cX8_unseen 0 = .ok (.aload_n 0, 1) := by decide +kernel
theorem dX8_unseen_1 : decode cX8_unseen 1 = .ok (.getfield 72, 3) := by decide +kernel
theorem dX8_unseen_4 : decode cX8_unseen 4 = .ok (.aload_n 0, 1) := by decide +kernel
theorem dX8_unseen_5 : decode cX8_unseen 5 = .ok (.getfield 20, 3) := by decide +kernel
theorem dX8_unseen_8 : decode cX8_unseen 8 = .ok (.aload_n 0, 1) := by decide +kernel
theorem dX8_unseen_9 : decode cX8_unseen 9 = .ok (.getfield 37, 3) := by decide +kernel
theorem dX8_unseen_12 : decode cX8_unseen 12 = .ok (.getfield 104, 3) := by decide +kernel
theorem dX8_unseen_15 : decode cX8_unseen 15 = .ok (.invokevirtual 227, 3) := by decide +kernel
theorem dX8_unseen_18 : decode cX8_unseen 18 = .ok (.ireturn, 1) := by decide +kernel
theorem dX8_ask_0 : decode cX8_ask 0 = .ok (.aload_n 0, 1) := by decide +kernel
theorem dX8_ask_1 : decode cX8_ask 1 = .ok (.getfield 72, 3) := by decide +kernel
theorem dX8_ask_4 : decode cX8_ask 4 = .ok (.aload_n 0, 1) := by decide +kernel
theorem dX8_ask_5 : decode cX8_ask 5 = .ok (.getfield 20, 3) := by decide +kernel
theorem dX8_ask_8 : decode cX8_ask 8 = .ok (.aload_n 0, 1) := by decide +kernel
theorem dX8_ask_9 : decode cX8_ask 9 = .ok (.getfield 37, 3) := by decide +kernel
theorem dX8_ask_12 : decode cX8_ask 12 = .ok (.getfield 104, 3) := by decide +kernel
theorem dX8_ask_15 : decode cX8_ask 15 = .ok (.invokevirtual 231, 3) := by decide +kernel
theorem dX8_ask_18 : decode cX8_ask 18 = .ok (.ireturn, 1) := by decide +kernel
theorem dX8_keep_0 : decode cX8_keep 0 = .ok (.iload_n 1, 1) := by decide +kernel
theorem dX8_keep_1 : decode cX8_keep 1 = .ok (.ifCond .lt 8, 3) := by decide +kernel
theorem dX8_keep_4 : decode cX8_keep 4 = .ok (.iload_n 1, 1) := by decide +kernel
theorem dX8_keep_5 : decode cX8_keep 5 = .ok (.iconst 2, 1) := by decide +kernel
theorem dX8_keep_6 : decode cX8_keep 6 = .ok (.if_icmp .lt 5, 3) := by decide +kernel
theorem dX8_keep_9 : decode cX8_keep 9 = .ok (.iconst (-1), 1) := by decide +kernel
theorem dX8_keep_10 : decode cX8_keep 10 = .ok (.ireturn, 1) := by decide +kernel
theorem dX8_keep_11 : decode cX8_keep 11 = .ok (.aload_n 0, 1) := by decide +kernel
theorem dX8_keep_12 : decode cX8_keep 12 = .ok (.getfield 48, 3) := by decide +kernel
theorem dX8_keep_15 : decode cX8_keep 15 = .ok (.iload_n 1, 1) := by decide +kernel
theorem dX8_keep_16 : decode cX8_keep 16 = .ok (.aaload, 1) := by decide +kernel
theorem dX8_keep_17 : decode cX8_keep 17 = .ok (.aload_n 0, 1) := by decide +kernel
theorem dX8_keep_18 : decode cX8_keep 18 = .ok (.getfield 37, 3) := by decide +kernel
theorem dX8_keep_21 : decode cX8_keep 21 = .ok (.invokevirtual 234, 3) := by decide +kernel
theorem dX8_keep_24 : decode cX8_keep 24 = .ok (.aload_n 0, 1) := by decide +kernel
theorem dX8_keep_25 : decode cX8_keep 25 = .ok (.dup, 1) := by decide +kernel
theorem dX8_keep_26 : decode cX8_keep 26 = .ok (.getfield 52, 3) := by decide +kernel
theorem dX8_keep_29 : decode cX8_keep 29 = .ok (.iconst 1, 1) := by decide +kernel
theorem dX8_keep_30 : decode cX8_keep 30 = .ok (.iload_n 1, 1) := by decide +kernel
theorem dX8_keep_31 : decode cX8_keep 31 = .ok (.ishl, 1) := by decide +kernel
theorem dX8_keep_32 : decode cX8_keep 32 = .ok (.ior, 1) := by decide +kernel
theorem dX8_keep_33 : decode cX8_keep 33 = .ok (.putfield 52, 3) := by decide +kernel
theorem dX8_keep_36 : decode cX8_keep 36 = .ok (.aload_n 0, 1) := by decide +kernel
theorem dX8_keep_37 : decode cX8_keep 37 = .ok (.getfield 37, 3) := by decide +kernel
theorem dX8_keep_40 : decode cX8_keep 40 = .ok (.getfield 161, 3) := by decide +kernel
theorem dX8_keep_43 : decode cX8_keep 43 = .ok (.ireturn, 1) := by decide +kernel
theorem dX8_back_0 : decode cX8_back 0 = .ok (.iload_n 1, 1) := by decide +kernel
theorem dX8_back_1 : decode cX8_back 1 = .ok (.ifCond .lt 8, 3) := by decide +kernel
theorem dX8_back_4 : decode cX8_back 4 = .ok (.iload_n 1, 1) := by decide +kernel
theorem dX8_back_5 : decode cX8_back 5 = .ok (.iconst 2, 1) := by decide +kernel
theorem dX8_back_6 : decode cX8_back 6 = .ok (.if_icmp .lt 5, 3) := by decide +kernel
theorem dX8_back_9 : decode cX8_back 9 = .ok (.iconst (-1), 1) := by decide +kernel
theorem dX8_back_10 : decode cX8_back 10 = .ok (.ireturn, 1) := by decide +kernel
theorem dX8_back_11 : decode cX8_back 11 = .ok (.aload_n 0, 1) := by decide +kernel
theorem dX8_back_12 : decode cX8_back 12 = .ok (.getfield 52, 3) := by decide +kernel
theorem dX8_back_15 : decode cX8_back 15 = .ok (.iload_n 1, 1) := by decide +kernel
theorem dX8_back_16 : decode cX8_back 16 = .ok (.invokestatic 123, 3) := by decide +kernel
theorem dX8_back_19 : decode cX8_back 19 = .ok (.ifCond .ne 6, 3) := by decide +kernel
theorem dX8_back_22 : decode cX8_back 22 = .ok (.bipush (-2), 2) := by decide +kernel
theorem dX8_back_24 : decode cX8_back 24 = .ok (.ireturn, 1) := by decide +kernel
theorem dX8_back_25 : decode cX8_back 25 = .ok (.aload_n 0, 1) := by decide +kernel
theorem dX8_back_26 : decode cX8_back 26 = .ok (.getfield 37, 3) := by decide +kernel
theorem dX8_back_29 : decode cX8_back 29 = .ok (.aload_n 0, 1) := by decide +kernel
theorem dX8_back_30 : decode cX8_back 30 = .ok (.getfield 48, 3) := by decide +kernel
theorem dX8_back_33 : decode cX8_back 33 = .ok (.iload_n 1, 1) := by decide +kernel
theorem dX8_back_34 : decode cX8_back 34 = .ok (.aaload, 1) := by decide +kernel
theorem dX8_back_35 : decode cX8_back 35 = .ok (.invokevirtual 234, 3) := by decide +kernel
theorem dX8_back_38 : decode cX8_back 38 = .ok (.aload_n 0, 1) := by decide +kernel
theorem dX8_back_39 : decode cX8_back 39 = .ok (.getfield 44, 3) := by decide +kernel
theorem dX8_back_42 : decode cX8_back 42 = .ok (.invokevirtual 84, 3) := by decide +kernel
theorem dX8_back_45 : decode cX8_back 45 = .ok (.aload_n 0, 1) := by decide +kernel
theorem dX8_back_46 : decode cX8_back 46 = .ok (.invokevirtual 88, 3) := by decide +kernel
theorem dX8_back_49 : decode cX8_back 49 = .ok (.aload_n 0, 1) := by decide +kernel
theorem dX8_back_50 : decode cX8_back 50 = .ok (.getfield 37, 3) := by decide +kernel
theorem dX8_back_53 : decode cX8_back 53 = .ok (.getfield 161, 3) := by decide +kernel
theorem dX8_back_56 : decode cX8_back 56 = .ok (.ireturn, 1) := by decide +kernel
theorem dX8_count_0 : decode cX8_count 0 = .ok (.iload_n 1, 1) := by decide +kernel
theorem dX8_count_1 : decode cX8_count 1 = .ok (.tableswitch 147 0 10 #[59, 67, 75, 83, 91, 102, 110, 118, 126, 134, 139], 59) := by decide +kernel
theorem dX8_count_60 : decode cX8_count 60 = .ok (.aload_n 0, 1) := by decide +kernel
theorem dX8_count_61 : decode cX8_count 61 = .ok (.getfield 20, 3) := by decide +kernel
theorem dX8_count_64 : decode cX8_count 64 = .ok (.getfield 238, 3) := by decide +kernel
theorem dX8_count_67 : decode cX8_count 67 = .ok (.ireturn, 1) := by decide +kernel
theorem dX8_count_68 : decode cX8_count 68 = .ok (.aload_n 0, 1) := by decide +kernel
theorem dX8_count_69 : decode cX8_count 69 = .ok (.getfield 20, 3) := by decide +kernel
theorem dX8_count_72 : decode cX8_count 72 = .ok (.getfield 114, 3) := by decide +kernel
theorem dX8_count_75 : decode cX8_count 75 = .ok (.ireturn, 1) := by decide +kernel
theorem dX8_count_76 : decode cX8_count 76 = .ok (.aload_n 0, 1) := by decide +kernel
theorem dX8_count_77 : decode cX8_count 77 = .ok (.getfield 20, 3) := by decide +kernel
theorem dX8_count_80 : decode cX8_count 80 = .ok (.getfield 138, 3) := by decide +kernel
theorem dX8_count_83 : decode cX8_count 83 = .ok (.ireturn, 1) := by decide +kernel
theorem dX8_count_84 : decode cX8_count 84 = .ok (.aload_n 0, 1) := by decide +kernel
theorem dX8_count_85 : decode cX8_count 85 = .ok (.getfield 20, 3) := by decide +kernel
theorem dX8_count_88 : decode cX8_count 88 = .ok (.getfield 241, 3) := by decide +kernel
theorem dX8_count_91 : decode cX8_count 91 = .ok (.ireturn, 1) := by decide +kernel
theorem dX8_count_92 : decode cX8_count 92 = .ok (.aload_n 0, 1) := by decide +kernel
theorem dX8_count_93 : decode cX8_count 93 = .ok (.getfield 37, 3) := by decide +kernel
theorem dX8_count_96 : decode cX8_count 96 = .ok (.getfield 104, 3) := by decide +kernel
theorem dX8_count_99 : decode cX8_count 99 = .ok (.invokestatic 147, 3) := by decide +kernel
theorem dX8_count_102 : decode cX8_count 102 = .ok (.ireturn, 1) := by decide +kernel
theorem dX8_count_103 : decode cX8_count 103 = .ok (.aload_n 0, 1) := by decide +kernel
theorem dX8_count_104 : decode cX8_count 104 = .ok (.getfield 37, 3) := by decide +kernel
theorem dX8_count_107 : decode cX8_count 107 = .ok (.getfield 155, 3) := by decide +kernel
theorem dX8_count_110 : decode cX8_count 110 = .ok (.ireturn, 1) := by decide +kernel
theorem dX8_count_111 : decode cX8_count 111 = .ok (.aload_n 0, 1) := by decide +kernel
theorem dX8_count_112 : decode cX8_count 112 = .ok (.getfield 37, 3) := by decide +kernel
theorem dX8_count_115 : decode cX8_count 115 = .ok (.getfield 161, 3) := by decide +kernel
theorem dX8_count_118 : decode cX8_count 118 = .ok (.ireturn, 1) := by decide +kernel
theorem dX8_count_119 : decode cX8_count 119 = .ok (.aload_n 0, 1) := by decide +kernel
theorem dX8_count_120 : decode cX8_count 120 = .ok (.invokevirtual 127, 3) := by decide +kernel
theorem dX8_count_123 : decode cX8_count 123 = .ok (.getfield 244, 3) := by decide +kernel
theorem dX8_count_126 : decode cX8_count 126 = .ok (.ireturn, 1) := by decide +kernel
theorem dX8_count_127 : decode cX8_count 127 = .ok (.aload_n 0, 1) := by decide +kernel
theorem dX8_count_128 : decode cX8_count 128 = .ok (.getfield 72, 3) := by decide +kernel
theorem dX8_count_131 : decode cX8_count 131 = .ok (.getfield 226, 3) := by decide +kernel
theorem dX8_count_134 : decode cX8_count 134 = .ok (.ireturn, 1) := by decide +kernel
theorem dX8_count_135 : decode cX8_count 135 = .ok (.aload_n 0, 1) := by decide +kernel
theorem dX8_count_136 : decode cX8_count 136 = .ok (.getfield 13, 3) := by decide +kernel
theorem dX8_count_139 : decode cX8_count 139 = .ok (.ireturn, 1) := by decide +kernel
theorem dX8_count_140 : decode cX8_count 140 = .ok (.aload_n 0, 1) := by decide +kernel
theorem dX8_count_141 : decode cX8_count 141 = .ok (.getfield 44, 3) := by decide +kernel
theorem dX8_count_144 : decode cX8_count 144 = .ok (.getfield 189, 3) := by decide +kernel
theorem dX8_count_147 : decode cX8_count 147 = .ok (.ireturn, 1) := by decide +kernel
theorem dX8_count_148 : decode cX8_count 148 = .ok (.iconst (-1), 1) := by decide +kernel
theorem dX8_count_149 : decode cX8_count 149 = .ok (.ireturn, 1) := by decide +kernel
theorem dX8_burnTo_0 : decode cX8_burnTo 0 = .ok (.aload_n 0, 1) := by decide +kernel
theorem dX8_burnTo_1 : decode cX8_burnTo 1 = .ok (.getfield 20, 3) := by decide +kernel
theorem dX8_burnTo_4 : decode cX8_burnTo 4 = .ok (.aload_n 0, 1) := by decide +kernel
theorem dX8_burnTo_5 : decode cX8_burnTo 5 = .ok (.getfield 37, 3) := by decide +kernel
theorem dX8_burnTo_8 : decode cX8_burnTo 8 = .ok (.getfield 155, 3) := by decide +kernel
theorem dX8_burnTo_11 : decode cX8_burnTo 11 = .ok (.iload_n 1, 1) := by decide +kernel
theorem dX8_burnTo_12 : decode cX8_burnTo 12 = .ok (.invokevirtual 247, 3) := by decide +kernel
theorem dX8_burnTo_15 : decode cX8_burnTo 15 = .ok (.istore_n 2, 1) := by decide +kernel
theorem dX8_burnTo_16 : decode cX8_burnTo 16 = .ok (.iload_n 2, 1) := by decide +kernel
theorem dX8_burnTo_17 : decode cX8_burnTo 17 = .ok (.bipush (-9), 2) := by decide +kernel
theorem dX8_burnTo_19 : decode cX8_burnTo 19 = .ok (.if_icmp .eq 32, 3) := by decide +kernel
theorem dX8_burnTo_22 : decode cX8_burnTo 22 = .ok (.aload_n 0, 1) := by decide +kernel
theorem dX8_burnTo_23 : decode cX8_burnTo 23 = .ok (.getfield 37, 3) := by decide +kernel
theorem dX8_burnTo_26 : decode cX8_burnTo 26 = .ok (.getfield 104, 3) := by decide +kernel
theorem dX8_burnTo_29 : decode cX8_burnTo 29 = .ok (.iload_n 2, 1) := by decide +kernel
theorem dX8_burnTo_30 : decode cX8_burnTo 30 = .ok (.invokestatic 123, 3) := by decide +kernel
theorem dX8_burnTo_33 : decode cX8_burnTo 33 = .ok (.ifCond .eq 18, 3) := by decide +kernel
theorem dX8_burnTo_36 : decode cX8_burnTo 36 = .ok (.aload_n 0, 1) := by decide +kernel
theorem dX8_burnTo_37 : decode cX8_burnTo 37 = .ok (.getfield 37, 3) := by decide +kernel
theorem dX8_burnTo_40 : decode cX8_burnTo 40 = .ok (.iload_n 2, 1) := by decide +kernel
theorem dX8_burnTo_41 : decode cX8_burnTo 41 = .ok (.aload_n 0, 1) := by decide +kernel
theorem dX8_burnTo_42 : decode cX8_burnTo 42 = .ok (.getfield 20, 3) := by decide +kernel
theorem dX8_burnTo_45 : decode cX8_burnTo 45 = .ok (.invokevirtual 250, 3) := by decide +kernel
theorem dX8_burnTo_48 : decode cX8_burnTo 48 = .ok (.ifCond .ne 5, 3) := by decide +kernel
theorem dX8_burnTo_51 : decode cX8_burnTo 51 = .ok (.iconst 0, 1) := by decide +kernel
theorem dX8_burnTo_52 : decode cX8_burnTo 52 = .ok (.ireturn, 1) := by decide +kernel
theorem dX8_burnTo_53 : decode cX8_burnTo 53 = .ok (.aload_n 0, 1) := by decide +kernel
theorem dX8_burnTo_54 : decode cX8_burnTo 54 = .ok (.getfield 44, 3) := by decide +kernel
theorem dX8_burnTo_57 : decode cX8_burnTo 57 = .ok (.aload_n 0, 1) := by decide +kernel
theorem dX8_burnTo_58 : decode cX8_burnTo 58 = .ok (.getfield 37, 3) := by decide +kernel
theorem dX8_burnTo_61 : decode cX8_burnTo 61 = .ok (.invokevirtual 254, 3) := by decide +kernel
theorem dX8_burnTo_64 : decode cX8_burnTo 64 = .ok (.aload_n 0, 1) := by decide +kernel
theorem dX8_burnTo_65 : decode cX8_burnTo 65 = .ok (.getfield 37, 3) := by decide +kernel
theorem dX8_burnTo_68 : decode cX8_burnTo 68 = .ok (.iload_n 2, 1) := by decide +kernel
theorem dX8_burnTo_69 : decode cX8_burnTo 69 = .ok (.iload_n 1, 1) := by decide +kernel
theorem dX8_burnTo_70 : decode cX8_burnTo 70 = .ok (.aload_n 0, 1) := by decide +kernel
theorem dX8_burnTo_71 : decode cX8_burnTo 71 = .ok (.getfield 20, 3) := by decide +kernel
theorem dX8_burnTo_74 : decode cX8_burnTo 74 = .ok (.invokevirtual 257, 3) := by decide +kernel
theorem dX8_burnTo_77 : decode cX8_burnTo 77 = .ok (.aload_n 0, 1) := by decide +kernel
theorem dX8_burnTo_78 : decode cX8_burnTo 78 = .ok (.invokevirtual 88, 3) := by decide +kernel
theorem dX8_burnTo_81 : decode cX8_burnTo 81 = .ok (.iconst 1, 1) := by decide +kernel
theorem dX8_burnTo_82 : decode cX8_burnTo 82 = .ok (.ireturn, 1) := by decide +kernel
theorem dX8_moveTo_0 : decode cX8_moveTo 0 = .ok (.aload_n 0, 1) := by decide +kernel
theorem dX8_moveTo_1 : decode cX8_moveTo 1 = .ok (.getfield 44, 3) := by decide +kernel
theorem dX8_moveTo_4 : decode cX8_moveTo 4 = .ok (.aload_n 0, 1) := by decide +kernel
theorem dX8_moveTo_5 : decode cX8_moveTo 5 = .ok (.getfield 37, 3) := by decide +kernel
theorem dX8_moveTo_8 : decode cX8_moveTo 8 = .ok (.invokevirtual 254, 3) := by decide +kernel
theorem dX8_moveTo_11 : decode cX8_moveTo 11 = .ok (.aload_n 0, 1) := by decide +kernel
theorem dX8_moveTo_12 : decode cX8_moveTo 12 = .ok (.getfield 37, 3) := by decide +kernel
theorem dX8_moveTo_15 : decode cX8_moveTo 15 = .ok (.iload_n 1, 1) := by decide +kernel
theorem dX8_moveTo_16 : decode cX8_moveTo 16 = .ok (.aload_n 0, 1) := by decide +kernel
theorem dX8_moveTo_17 : decode cX8_moveTo 17 = .ok (.getfield 20, 3) := by decide +kernel
theorem dX8_moveTo_20 : decode cX8_moveTo 20 = .ok (.invokevirtual 261, 3) := by decide +kernel
theorem dX8_moveTo_23 : decode cX8_moveTo 23 = .ok (.aload_n 0, 1) := by decide +kernel
theorem dX8_moveTo_24 : decode cX8_moveTo 24 = .ok (.invokevirtual 88, 3) := by decide +kernel
theorem dX8_moveTo_27 : decode cX8_moveTo 27 = .ok (.return_, 1) := by decide +kernel
theorem dX8_surveyed_0 : decode cX8_surveyed 0 = .ok (.aload_n 0, 1) := by decide +kernel
theorem dX8_surveyed_1 : decode cX8_surveyed 1 = .ok (.getfield 58, 3) := by decide +kernel
theorem dX8_surveyed_4 : decode cX8_surveyed 4 = .ok (.aload_n 0, 1) := by decide +kernel
theorem dX8_surveyed_5 : decode cX8_surveyed 5 = .ok (.getfield 20, 3) := by decide +kernel
theorem dX8_surveyed_8 : decode cX8_surveyed 8 = .ok (.aload_n 0, 1) := by decide +kernel
theorem dX8_surveyed_9 : decode cX8_surveyed 9 = .ok (.getfield 37, 3) := by decide +kernel
theorem dX8_surveyed_12 : decode cX8_surveyed 12 = .ok (.invokevirtual 265, 3) := by decide +kernel
theorem dX8_surveyed_15 : decode cX8_surveyed 15 = .ok (.aload_n 0, 1) := by decide +kernel
theorem dX8_surveyed_16 : decode cX8_surveyed 16 = .ok (.getfield 58, 3) := by decide +kernel
theorem dX8_surveyed_19 : decode cX8_surveyed 19 = .ok (.areturn, 1) := by decide +kernel
theorem dX8_outdate_0 : decode cX8_outdate 0 = .ok (.aload_n 0, 1) := by decide +kernel
theorem dX8_outdate_1 : decode cX8_outdate 1 = .ok (.getfield 58, 3) := by decide +kernel
theorem dX8_outdate_4 : decode cX8_outdate 4 = .ok (.iconst 0, 1) := by decide +kernel
theorem dX8_outdate_5 : decode cX8_outdate 5 = .ok (.putfield 269, 3) := by decide +kernel
theorem dX8_outdate_8 : decode cX8_outdate 8 = .ok (.aload_n 0, 1) := by decide +kernel
theorem dX8_outdate_9 : decode cX8_outdate 9 = .ok (.getfield 65, 3) := by decide +kernel
theorem dX8_outdate_12 : decode cX8_outdate 12 = .ok (.bipush (-9), 2) := by decide +kernel
theorem dX8_outdate_14 : decode cX8_outdate 14 = .ok (.putfield 273, 3) := by decide +kernel
theorem dX8_outdate_17 : decode cX8_outdate 17 = .ok (.return_, 1) := by decide +kernel
theorem dX8_has_0 : decode cX8_has 0 = .ok (.iload_n 0, 1) := by decide +kernel
theorem dX8_has_1 : decode cX8_has 1 = .ok (.iload_n 1, 1) := by decide +kernel
theorem dX8_has_2 : decode cX8_has 2 = .ok (.ishr, 1) := by decide +kernel
theorem dX8_has_3 : decode cX8_has 3 = .ok (.iconst 1, 1) := by decide +kernel
theorem dX8_has_4 : decode cX8_has 4 = .ok (.iand, 1) := by decide +kernel
theorem dX8_has_5 : decode cX8_has 5 = .ok (.ifCond .eq 7, 3) := by decide +kernel
theorem dX8_has_8 : decode cX8_has 8 = .ok (.iconst 1, 1) := by decide +kernel
theorem dX8_has_9 : decode cX8_has 9 = .ok (.goto 4, 3) := by decide +kernel
theorem dX8_has_12 : decode cX8_has 12 = .ok (.iconst 0, 1) := by decide +kernel
theorem dX8_has_13 : decode cX8_has 13 = .ok (.ireturn, 1) := by decide +kernel
theorem dL_law_0 : decode cL_law 0 = .ok (.new 7, 3) := by decide +kernel
theorem dL_law_3 : decode cL_law 3 = .ok (.dup, 1) := by decide +kernel
theorem dL_law_4 : decode cL_law 4 = .ok (.invokespecial 9, 3) := by decide +kernel
theorem dL_law_7 : decode cL_law 7 = .ok (.astore_n 1, 1) := by decide +kernel
theorem dL_law_8 : decode cL_law 8 = .ok (.new 10, 3) := by decide +kernel
theorem dL_law_11 : decode cL_law 11 = .ok (.dup, 1) := by decide +kernel
theorem dL_law_12 : decode cL_law 12 = .ok (.invokespecial 12, 3) := by decide +kernel
theorem dL_law_15 : decode cL_law 15 = .ok (.astore_n 2, 1) := by decide +kernel
theorem dL_law_16 : decode cL_law 16 = .ok (.iconst 0, 1) := by decide +kernel
theorem dL_law_17 : decode cL_law 17 = .ok (.istore_n 3, 1) := by decide +kernel
theorem dL_law_18 : decode cL_law 18 = .ok (.iload_n 3, 1) := by decide +kernel
theorem dL_law_19 : decode cL_law 19 = .ok (.aload_n 0, 1) := by decide +kernel
theorem dL_law_20 : decode cL_law 20 = .ok (.arraylength, 1) := by decide +kernel
theorem dL_law_21 : decode cL_law 21 = .ok (.iconst 4, 1) := by decide +kernel
theorem dL_law_22 : decode cL_law 22 = .ok (.isub, 1) := by decide +kernel
theorem dL_law_23 : decode cL_law 23 = .ok (.if_icmp .gt 608, 3) := by decide +kernel
theorem dL_law_26 : decode cL_law 26 = .ok (.aload_n 0, 1) := by decide +kernel
theorem dL_law_27 : decode cL_law 27 = .ok (.iload_n 3, 1) := by decide +kernel
theorem dL_law_28 : decode cL_law 28 = .ok (.iaload, 1) := by decide +kernel
theorem dL_law_29 : decode cL_law 29 = .ok (.bipush 31, 2) := by decide +kernel
theorem dL_law_31 : decode cL_law 31 = .ok (.iand, 1) := by decide +kernel
theorem dL_law_32 : decode cL_law 32 = .ok (.tableswitch 593 0 20 #[100, 123, 136, 149, 182, 215, 248, 271, 294, 307, 320, 353, 376, 419, 442, 485, 498, 511, 524, 547, 570], 100) := by decide +kernel
theorem dL_law_132 : decode cL_law 132 = .ok (.aload_n 1, 1) := by decide +kernel
theorem dL_law_133 : decode cL_law 133 = .ok (.aload_n 0, 1) := by decide +kernel
theorem dL_law_134 : decode cL_law 134 = .ok (.iload_n 3, 1) := by decide +kernel
theorem dL_law_135 : decode cL_law 135 = .ok (.iconst 1, 1) := by decide +kernel
theorem dL_law_136 : decode cL_law 136 = .ok (.iadd, 1) := by decide +kernel
theorem dL_law_137 : decode cL_law 137 = .ok (.iaload, 1) := by decide +kernel
theorem dL_law_138 : decode cL_law 138 = .ok (.invokevirtual 13, 3) := by decide +kernel
theorem dL_law_141 : decode cL_law 141 = .ok (.aload_n 2, 1) := by decide +kernel
theorem dL_law_142 : decode cL_law 142 = .ok (.aload_n 0, 1) := by decide +kernel
theorem dL_law_143 : decode cL_law 143 = .ok (.iload_n 3, 1) := by decide +kernel
theorem dL_law_144 : decode cL_law 144 = .ok (.iconst 1, 1) := by decide +kernel
theorem dL_law_145 : decode cL_law 145 = .ok (.iadd, 1) := by decide +kernel
theorem dL_law_146 : decode cL_law 146 = .ok (.iaload, 1) := by decide +kernel
theorem dL_law_147 : decode cL_law 147 = .ok (.invokevirtual 17, 3) := by decide +kernel
theorem dL_law_150 : decode cL_law 150 = .ok (.if_icmp .eq 475, 3) := by decide +kernel
theorem dL_law_153 : decode cL_law 153 = .ok (.iconst 0, 1) := by decide +kernel
theorem dL_law_154 : decode cL_law 154 = .ok (.ireturn, 1) := by decide +kernel
theorem dL_law_155 : decode cL_law 155 = .ok (.aload_n 1, 1) := by decide +kernel
theorem dL_law_156 : decode cL_law 156 = .ok (.invokevirtual 18, 3) := by decide +kernel
theorem dL_law_159 : decode cL_law 159 = .ok (.aload_n 2, 1) := by decide +kernel
theorem dL_law_160 : decode cL_law 160 = .ok (.invokevirtual 22, 3) := by decide +kernel
theorem dL_law_163 : decode cL_law 163 = .ok (.if_icmp .eq 462, 3) := by decide +kernel
theorem dL_law_166 : decode cL_law 166 = .ok (.iconst 0, 1) := by decide +kernel
theorem dL_law_167 : decode cL_law 167 = .ok (.ireturn, 1) := by decide +kernel
theorem dL_law_168 : decode cL_law 168 = .ok (.aload_n 1, 1) := by decide +kernel
theorem dL_law_169 : decode cL_law 169 = .ok (.invokevirtual 23, 3) := by decide +kernel
theorem dL_law_172 : decode cL_law 172 = .ok (.aload_n 2, 1) := by decide +kernel
theorem dL_law_173 : decode cL_law 173 = .ok (.invokevirtual 26, 3) := by decide +kernel
theorem dL_law_176 : decode cL_law 176 = .ok (.if_icmp .eq 449, 3) := by decide +kernel
theorem dL_law_179 : decode cL_law 179 = .ok (.iconst 0, 1) := by decide +kernel
theorem dL_law_180 : decode cL_law 180 = .ok (.ireturn, 1) := by decide +kernel
theorem dL_law_181 : decode cL_law 181 = .ok (.aload_n 1, 1) := by decide +kernel
theorem dL_law_182 : decode cL_law 182 = .ok (.aload_n 0, 1) := by decide +kernel
theorem dL_law_183 : decode cL_law 183 = .ok (.iload_n 3, 1) := by decide +kernel
theorem dL_law_184 : decode cL_law 184 = .ok (.iconst 1, 1) := by decide +kernel
theorem dL_law_185 : decode cL_law 185 = .ok (.iadd, 1) := by decide +kernel
theorem dL_law_186 : decode cL_law 186 = .ok (.iaload, 1) := by decide +kernel
theorem dL_law_187 : decode cL_law 187 = .ok (.aload_n 0, 1) := by decide +kernel
theorem dL_law_188 : decode cL_law 188 = .ok (.iload_n 3, 1) := by decide +kernel
theorem dL_law_189 : decode cL_law 189 = .ok (.iconst 2, 1) := by decide +kernel
theorem dL_law_190 : decode cL_law 190 = .ok (.iadd, 1) := by decide +kernel
theorem dL_law_191 : decode cL_law 191 = .ok (.iaload, 1) := by decide +kernel
theorem dL_law_192 : decode cL_law 192 = .ok (.invokevirtual 27, 3) := by decide +kernel
theorem dL_law_195 : decode cL_law 195 = .ok (.aload_n 2, 1) := by decide +kernel
theorem dL_law_196 : decode cL_law 196 = .ok (.aload_n 0, 1) := by decide +kernel
theorem dL_law_197 : decode cL_law 197 = .ok (.iload_n 3, 1) := by decide +kernel
theorem dL_law_198 : decode cL_law 198 = .ok (.iconst 1, 1) := by decide +kernel
theorem dL_law_199 : decode cL_law 199 = .ok (.iadd, 1) := by decide +kernel
theorem dL_law_200 : decode cL_law 200 = .ok (.iaload, 1) := by decide +kernel
theorem dL_law_201 : decode cL_law 201 = .ok (.aload_n 0, 1) := by decide +kernel
theorem dL_law_202 : decode cL_law 202 = .ok (.iload_n 3, 1) := by decide +kernel
theorem dL_law_203 : decode cL_law 203 = .ok (.iconst 2, 1) := by decide +kernel
theorem dL_law_204 : decode cL_law 204 = .ok (.iadd, 1) := by decide +kernel
theorem dL_law_205 : decode cL_law 205 = .ok (.iaload, 1) := by decide +kernel
theorem dL_law_206 : decode cL_law 206 = .ok (.invokevirtual 31, 3) := by decide +kernel
theorem dL_law_209 : decode cL_law 209 = .ok (.if_icmp .eq 416, 3) := by decide +kernel
theorem dL_law_212 : decode cL_law 212 = .ok (.iconst 0, 1) := by decide +kernel
theorem dL_law_213 : decode cL_law 213 = .ok (.ireturn, 1) := by decide +kernel
theorem dL_law_214 : decode cL_law 214 = .ok (.aload_n 1, 1) := by decide +kernel
theorem dL_law_215 : decode cL_law 215 = .ok (.aload_n 0, 1) := by decide +kernel
theorem dL_law_216 : decode cL_law 216 = .ok (.iload_n 3, 1) := by decide +kernel
theorem dL_law_217 : decode cL_law 217 = .ok (.iconst 1, 1) := by decide +kernel
theorem dL_law_218 : decode cL_law 218 = .ok (.iadd, 1) := by decide +kernel
theorem dL_law_219 : decode cL_law 219 = .ok (.iaload, 1) := by decide +kernel
theorem dL_law_220 : decode cL_law 220 = .ok (.aload_n 0, 1) := by decide +kernel
theorem dL_law_221 : decode cL_law 221 = .ok (.iload_n 3, 1) := by decide +kernel
theorem dL_law_222 : decode cL_law 222 = .ok (.iconst 2, 1) := by decide +kernel
theorem dL_law_223 : decode cL_law 223 = .ok (.iadd, 1) := by decide +kernel
theorem dL_law_224 : decode cL_law 224 = .ok (.iaload, 1) := by decide +kernel
theorem dL_law_225 : decode cL_law 225 = .ok (.invokevirtual 32, 3) := by decide +kernel
theorem dL_law_228 : decode cL_law 228 = .ok (.aload_n 2, 1) := by decide +kernel
theorem dL_law_229 : decode cL_law 229 = .ok (.aload_n 0, 1) := by decide +kernel
theorem dL_law_230 : decode cL_law 230 = .ok (.iload_n 3, 1) := by decide +kernel
theorem dL_law_231 : decode cL_law 231 = .ok (.iconst 1, 1) := by decide +kernel
theorem dL_law_232 : decode cL_law 232 = .ok (.iadd, 1) := by decide +kernel
theorem dL_law_233 : decode cL_law 233 = .ok (.iaload, 1) := by decide +kernel
theorem dL_law_234 : decode cL_law 234 = .ok (.aload_n 0, 1) := by decide +kernel
theorem dL_law_235 : decode cL_law 235 = .ok (.iload_n 3, 1) := by decide +kernel
theorem dL_law_236 : decode cL_law 236 = .ok (.iconst 2, 1) := by decide +kernel
theorem dL_law_237 : decode cL_law 237 = .ok (.iadd, 1) := by decide +kernel
theorem dL_law_238 : decode cL_law 238 = .ok (.iaload, 1) := by decide +kernel
theorem dL_law_239 : decode cL_law 239 = .ok (.invokevirtual 35, 3) := by decide +kernel
theorem dL_law_242 : decode cL_law 242 = .ok (.if_icmp .eq 383, 3) := by decide +kernel
theorem dL_law_245 : decode cL_law 245 = .ok (.iconst 0, 1) := by decide +kernel
theorem dL_law_246 : decode cL_law 246 = .ok (.ireturn, 1) := by decide +kernel
theorem dL_law_247 : decode cL_law 247 = .ok (.aload_n 1, 1) := by decide +kernel
theorem dL_law_248 : decode cL_law 248 = .ok (.aload_n 0, 1) := by decide +kernel
theorem dL_law_249 : decode cL_law 249 = .ok (.iload_n 3, 1) := by decide +kernel
theorem dL_law_250 : decode cL_law 250 = .ok (.iconst 1, 1) := by decide +kernel
theorem dL_law_251 : decode cL_law 251 = .ok (.iadd, 1) := by decide +kernel
theorem dL_law_252 : decode cL_law 252 = .ok (.iaload, 1) := by decide +kernel
theorem dL_law_253 : decode cL_law 253 = .ok (.aload_n 0, 1) := by decide +kernel
theorem dL_law_254 : decode cL_law 254 = .ok (.iload_n 3, 1) := by decide +kernel
theorem dL_law_255 : decode cL_law 255 = .ok (.iconst 2, 1) := by decide +kernel
theorem dL_law_256 : decode cL_law 256 = .ok (.iadd, 1) := by decide +kernel
theorem dL_law_257 : decode cL_law 257 = .ok (.iaload, 1) := by decide +kernel
theorem dL_law_258 : decode cL_law 258 = .ok (.invokevirtual 36, 3) := by decide +kernel
theorem dL_law_261 : decode cL_law 261 = .ok (.aload_n 2, 1) := by decide +kernel
theorem dL_law_262 : decode cL_law 262 = .ok (.aload_n 0, 1) := by decide +kernel
theorem dL_law_263 : decode cL_law 263 = .ok (.iload_n 3, 1) := by decide +kernel
theorem dL_law_264 : decode cL_law 264 = .ok (.iconst 1, 1) := by decide +kernel
theorem dL_law_265 : decode cL_law 265 = .ok (.iadd, 1) := by decide +kernel
theorem dL_law_266 : decode cL_law 266 = .ok (.iaload, 1) := by decide +kernel
theorem dL_law_267 : decode cL_law 267 = .ok (.aload_n 0, 1) := by decide +kernel
theorem dL_law_268 : decode cL_law 268 = .ok (.iload_n 3, 1) := by decide +kernel
theorem dL_law_269 : decode cL_law 269 = .ok (.iconst 2, 1) := by decide +kernel
theorem dL_law_270 : decode cL_law 270 = .ok (.iadd, 1) := by decide +kernel
theorem dL_law_271 : decode cL_law 271 = .ok (.iaload, 1) := by decide +kernel
theorem dL_law_272 : decode cL_law 272 = .ok (.invokevirtual 39, 3) := by decide +kernel
theorem dL_law_275 : decode cL_law 275 = .ok (.if_icmp .eq 350, 3) := by decide +kernel
theorem dL_law_278 : decode cL_law 278 = .ok (.iconst 0, 1) := by decide +kernel
theorem dL_law_279 : decode cL_law 279 = .ok (.ireturn, 1) := by decide +kernel
theorem dL_law_280 : decode cL_law 280 = .ok (.aload_n 1, 1) := by decide +kernel
theorem dL_law_281 : decode cL_law 281 = .ok (.aload_n 0, 1) := by decide +kernel
theorem dL_law_282 : decode cL_law 282 = .ok (.iload_n 3, 1) := by decide +kernel
theorem dL_law_283 : decode cL_law 283 = .ok (.iconst 1, 1) := by decide +kernel
theorem dL_law_284 : decode cL_law 284 = .ok (.iadd, 1) := by decide +kernel
theorem dL_law_285 : decode cL_law 285 = .ok (.iaload, 1) := by decide +kernel
theorem dL_law_286 : decode cL_law 286 = .ok (.invokevirtual 40, 3) := by decide +kernel
theorem dL_law_289 : decode cL_law 289 = .ok (.aload_n 2, 1) := by decide +kernel
theorem dL_law_290 : decode cL_law 290 = .ok (.aload_n 0, 1) := by decide +kernel
theorem dL_law_291 : decode cL_law 291 = .ok (.iload_n 3, 1) := by decide +kernel
theorem dL_law_292 : decode cL_law 292 = .ok (.iconst 1, 1) := by decide +kernel
theorem dL_law_293 : decode cL_law 293 = .ok (.iadd, 1) := by decide +kernel
theorem dL_law_294 : decode cL_law 294 = .ok (.iaload, 1) := by decide +kernel
theorem dL_law_295 : decode cL_law 295 = .ok (.invokevirtual 43, 3) := by decide +kernel
theorem dL_law_298 : decode cL_law 298 = .ok (.if_icmp .eq 327, 3) := by decide +kernel
theorem dL_law_301 : decode cL_law 301 = .ok (.iconst 0, 1) := by decide +kernel
theorem dL_law_302 : decode cL_law 302 = .ok (.ireturn, 1) := by decide +kernel
theorem dL_law_303 : decode cL_law 303 = .ok (.aload_n 1, 1) := by decide +kernel
theorem dL_law_304 : decode cL_law 304 = .ok (.aload_n 0, 1) := by decide +kernel
theorem dL_law_305 : decode cL_law 305 = .ok (.iload_n 3, 1) := by decide +kernel
theorem dL_law_306 : decode cL_law 306 = .ok (.iconst 1, 1) := by decide +kernel
theorem dL_law_307 : decode cL_law 307 = .ok (.iadd, 1) := by decide +kernel
theorem dL_law_308 : decode cL_law 308 = .ok (.iaload, 1) := by decide +kernel
theorem dL_law_309 : decode cL_law 309 = .ok (.invokevirtual 44, 3) := by decide +kernel
theorem dL_law_312 : decode cL_law 312 = .ok (.aload_n 2, 1) := by decide +kernel
theorem dL_law_313 : decode cL_law 313 = .ok (.aload_n 0, 1) := by decide +kernel
theorem dL_law_314 : decode cL_law 314 = .ok (.iload_n 3, 1) := by decide +kernel
theorem dL_law_315 : decode cL_law 315 = .ok (.iconst 1, 1) := by decide +kernel
theorem dL_law_316 : decode cL_law 316 = .ok (.iadd, 1) := by decide +kernel
theorem dL_law_317 : decode cL_law 317 = .ok (.iaload, 1) := by decide +kernel
theorem dL_law_318 : decode cL_law 318 = .ok (.invokevirtual 47, 3) := by decide +kernel
theorem dL_law_321 : decode cL_law 321 = .ok (.if_icmp .eq 304, 3) := by decide +kernel
theorem dL_law_324 : decode cL_law 324 = .ok (.iconst 0, 1) := by decide +kernel
theorem dL_law_325 : decode cL_law 325 = .ok (.ireturn, 1) := by decide +kernel
theorem dL_law_326 : decode cL_law 326 = .ok (.aload_n 1, 1) := by decide +kernel
theorem dL_law_327 : decode cL_law 327 = .ok (.invokevirtual 48, 3) := by decide +kernel
theorem dL_law_330 : decode cL_law 330 = .ok (.aload_n 2, 1) := by decide +kernel
theorem dL_law_331 : decode cL_law 331 = .ok (.invokevirtual 51, 3) := by decide +kernel
theorem dL_law_334 : decode cL_law 334 = .ok (.if_icmp .eq 291, 3) := by decide +kernel
theorem dL_law_337 : decode cL_law 337 = .ok (.iconst 0, 1) := by decide +kernel
theorem dL_law_338 : decode cL_law 338 = .ok (.ireturn, 1) := by decide +kernel
theorem dL_law_339 : decode cL_law 339 = .ok (.aload_n 1, 1) := by decide +kernel
theorem dL_law_340 : decode cL_law 340 = .ok (.invokevirtual 52, 3) := by decide +kernel
theorem dL_law_343 : decode cL_law 343 = .ok (.aload_n 2, 1) := by decide +kernel
theorem dL_law_344 : decode cL_law 344 = .ok (.invokevirtual 55, 3) := by decide +kernel
theorem dL_law_347 : decode cL_law 347 = .ok (.if_icmp .eq 278, 3) := by decide +kernel
theorem dL_law_350 : decode cL_law 350 = .ok (.iconst 0, 1) := by decide +kernel
theorem dL_law_351 : decode cL_law 351 = .ok (.ireturn, 1) := by decide +kernel
theorem dL_law_352 : decode cL_law 352 = .ok (.aload_n 1, 1) := by decide +kernel
theorem dL_law_353 : decode cL_law 353 = .ok (.aload_n 0, 1) := by decide +kernel
theorem dL_law_354 : decode cL_law 354 = .ok (.iload_n 3, 1) := by decide +kernel
theorem dL_law_355 : decode cL_law 355 = .ok (.iconst 1, 1) := by decide +kernel
theorem dL_law_356 : decode cL_law 356 = .ok (.iadd, 1) := by decide +kernel
theorem dL_law_357 : decode cL_law 357 = .ok (.iaload, 1) := by decide +kernel
theorem dL_law_358 : decode cL_law 358 = .ok (.aload_n 0, 1) := by decide +kernel
theorem dL_law_359 : decode cL_law 359 = .ok (.iload_n 3, 1) := by decide +kernel
theorem dL_law_360 : decode cL_law 360 = .ok (.iconst 2, 1) := by decide +kernel
theorem dL_law_361 : decode cL_law 361 = .ok (.iadd, 1) := by decide +kernel
theorem dL_law_362 : decode cL_law 362 = .ok (.iaload, 1) := by decide +kernel
theorem dL_law_363 : decode cL_law 363 = .ok (.invokevirtual 56, 3) := by decide +kernel
theorem dL_law_366 : decode cL_law 366 = .ok (.aload_n 2, 1) := by decide +kernel
theorem dL_law_367 : decode cL_law 367 = .ok (.aload_n 0, 1) := by decide +kernel
theorem dL_law_368 : decode cL_law 368 = .ok (.iload_n 3, 1) := by decide +kernel
theorem dL_law_369 : decode cL_law 369 = .ok (.iconst 1, 1) := by decide +kernel
theorem dL_law_370 : decode cL_law 370 = .ok (.iadd, 1) := by decide +kernel
theorem dL_law_371 : decode cL_law 371 = .ok (.iaload, 1) := by decide +kernel
theorem dL_law_372 : decode cL_law 372 = .ok (.aload_n 0, 1) := by decide +kernel
theorem dL_law_373 : decode cL_law 373 = .ok (.iload_n 3, 1) := by decide +kernel
theorem dL_law_374 : decode cL_law 374 = .ok (.iconst 2, 1) := by decide +kernel
theorem dL_law_375 : decode cL_law 375 = .ok (.iadd, 1) := by decide +kernel
theorem dL_law_376 : decode cL_law 376 = .ok (.iaload, 1) := by decide +kernel
theorem dL_law_377 : decode cL_law 377 = .ok (.invokevirtual 59, 3) := by decide +kernel
theorem dL_law_380 : decode cL_law 380 = .ok (.if_icmp .eq 245, 3) := by decide +kernel
theorem dL_law_383 : decode cL_law 383 = .ok (.iconst 0, 1) := by decide +kernel
theorem dL_law_384 : decode cL_law 384 = .ok (.ireturn, 1) := by decide +kernel
theorem dL_law_385 : decode cL_law 385 = .ok (.aload_n 1, 1) := by decide +kernel
theorem dL_law_386 : decode cL_law 386 = .ok (.aload_n 0, 1) := by decide +kernel
theorem dL_law_387 : decode cL_law 387 = .ok (.iload_n 3, 1) := by decide +kernel
theorem dL_law_388 : decode cL_law 388 = .ok (.iconst 1, 1) := by decide +kernel
theorem dL_law_389 : decode cL_law 389 = .ok (.iadd, 1) := by decide +kernel
theorem dL_law_390 : decode cL_law 390 = .ok (.iaload, 1) := by decide +kernel
theorem dL_law_391 : decode cL_law 391 = .ok (.invokevirtual 60, 3) := by decide +kernel
theorem dL_law_394 : decode cL_law 394 = .ok (.aload_n 2, 1) := by decide +kernel
theorem dL_law_395 : decode cL_law 395 = .ok (.aload_n 0, 1) := by decide +kernel
theorem dL_law_396 : decode cL_law 396 = .ok (.iload_n 3, 1) := by decide +kernel
theorem dL_law_397 : decode cL_law 397 = .ok (.iconst 1, 1) := by decide +kernel
theorem dL_law_398 : decode cL_law 398 = .ok (.iadd, 1) := by decide +kernel
theorem dL_law_399 : decode cL_law 399 = .ok (.iaload, 1) := by decide +kernel
theorem dL_law_400 : decode cL_law 400 = .ok (.invokevirtual 63, 3) := by decide +kernel
theorem dL_law_403 : decode cL_law 403 = .ok (.if_icmp .eq 222, 3) := by decide +kernel
theorem dL_law_406 : decode cL_law 406 = .ok (.iconst 0, 1) := by decide +kernel
theorem dL_law_407 : decode cL_law 407 = .ok (.ireturn, 1) := by decide +kernel
theorem dL_law_408 : decode cL_law 408 = .ok (.aload_n 1, 1) := by decide +kernel
theorem dL_law_409 : decode cL_law 409 = .ok (.aload_n 0, 1) := by decide +kernel
theorem dL_law_410 : decode cL_law 410 = .ok (.iload_n 3, 1) := by decide +kernel
theorem dL_law_411 : decode cL_law 411 = .ok (.iconst 1, 1) := by decide +kernel
theorem dL_law_412 : decode cL_law 412 = .ok (.iadd, 1) := by decide +kernel
theorem dL_law_413 : decode cL_law 413 = .ok (.iaload, 1) := by decide +kernel
theorem dL_law_414 : decode cL_law 414 = .ok (.aload_n 0, 1) := by decide +kernel
theorem dL_law_415 : decode cL_law 415 = .ok (.iload_n 3, 1) := by decide +kernel
theorem dL_law_416 : decode cL_law 416 = .ok (.iconst 2, 1) := by decide +kernel
theorem dL_law_417 : decode cL_law 417 = .ok (.iadd, 1) := by decide +kernel
theorem dL_law_418 : decode cL_law 418 = .ok (.iaload, 1) := by decide +kernel
theorem dL_law_419 : decode cL_law 419 = .ok (.aload_n 0, 1) := by decide +kernel
theorem dL_law_420 : decode cL_law 420 = .ok (.iload_n 3, 1) := by decide +kernel
theorem dL_law_421 : decode cL_law 421 = .ok (.iconst 3, 1) := by decide +kernel
theorem dL_law_422 : decode cL_law 422 = .ok (.iadd, 1) := by decide +kernel
theorem dL_law_423 : decode cL_law 423 = .ok (.iaload, 1) := by decide +kernel
theorem dL_law_424 : decode cL_law 424 = .ok (.invokevirtual 64, 3) := by decide +kernel
theorem dL_law_427 : decode cL_law 427 = .ok (.aload_n 2, 1) := by decide +kernel
theorem dL_law_428 : decode cL_law 428 = .ok (.aload_n 0, 1) := by decide +kernel
theorem dL_law_429 : decode cL_law 429 = .ok (.iload_n 3, 1) := by decide +kernel
theorem dL_law_430 : decode cL_law 430 = .ok (.iconst 1, 1) := by decide +kernel
theorem dL_law_431 : decode cL_law 431 = .ok (.iadd, 1) := by decide +kernel
theorem dL_law_432 : decode cL_law 432 = .ok (.iaload, 1) := by decide +kernel
theorem dL_law_433 : decode cL_law 433 = .ok (.aload_n 0, 1) := by decide +kernel
theorem dL_law_434 : decode cL_law 434 = .ok (.iload_n 3, 1) := by decide +kernel
theorem dL_law_435 : decode cL_law 435 = .ok (.iconst 2, 1) := by decide +kernel
theorem dL_law_436 : decode cL_law 436 = .ok (.iadd, 1) := by decide +kernel
theorem dL_law_437 : decode cL_law 437 = .ok (.iaload, 1) := by decide +kernel
theorem dL_law_438 : decode cL_law 438 = .ok (.aload_n 0, 1) := by decide +kernel
theorem dL_law_439 : decode cL_law 439 = .ok (.iload_n 3, 1) := by decide +kernel
theorem dL_law_440 : decode cL_law 440 = .ok (.iconst 3, 1) := by decide +kernel
theorem dL_law_441 : decode cL_law 441 = .ok (.iadd, 1) := by decide +kernel
theorem dL_law_442 : decode cL_law 442 = .ok (.iaload, 1) := by decide +kernel
theorem dL_law_443 : decode cL_law 443 = .ok (.invokevirtual 68, 3) := by decide +kernel
theorem dL_law_446 : decode cL_law 446 = .ok (.if_icmp .eq 179, 3) := by decide +kernel
theorem dL_law_449 : decode cL_law 449 = .ok (.iconst 0, 1) := by decide +kernel
theorem dL_law_450 : decode cL_law 450 = .ok (.ireturn, 1) := by decide +kernel
theorem dL_law_451 : decode cL_law 451 = .ok (.aload_n 1, 1) := by decide +kernel
theorem dL_law_452 : decode cL_law 452 = .ok (.aload_n 0, 1) := by decide +kernel
theorem dL_law_453 : decode cL_law 453 = .ok (.iload_n 3, 1) := by decide +kernel
theorem dL_law_454 : decode cL_law 454 = .ok (.iconst 1, 1) := by decide +kernel
theorem dL_law_455 : decode cL_law 455 = .ok (.iadd, 1) := by decide +kernel
theorem dL_law_456 : decode cL_law 456 = .ok (.iaload, 1) := by decide +kernel
theorem dL_law_457 : decode cL_law 457 = .ok (.invokevirtual 69, 3) := by decide +kernel
theorem dL_law_460 : decode cL_law 460 = .ok (.aload_n 2, 1) := by decide +kernel
theorem dL_law_461 : decode cL_law 461 = .ok (.aload_n 0, 1) := by decide +kernel
theorem dL_law_462 : decode cL_law 462 = .ok (.iload_n 3, 1) := by decide +kernel
theorem dL_law_463 : decode cL_law 463 = .ok (.iconst 1, 1) := by decide +kernel
theorem dL_law_464 : decode cL_law 464 = .ok (.iadd, 1) := by decide +kernel
theorem dL_law_465 : decode cL_law 465 = .ok (.iaload, 1) := by decide +kernel
theorem dL_law_466 : decode cL_law 466 = .ok (.invokevirtual 72, 3) := by decide +kernel
theorem dL_law_469 : decode cL_law 469 = .ok (.if_icmp .eq 156, 3) := by decide +kernel
theorem dL_law_472 : decode cL_law 472 = .ok (.iconst 0, 1) := by decide +kernel
theorem dL_law_473 : decode cL_law 473 = .ok (.ireturn, 1) := by decide +kernel
theorem dL_law_474 : decode cL_law 474 = .ok (.aload_n 1, 1) := by decide +kernel
theorem dL_law_475 : decode cL_law 475 = .ok (.aload_n 0, 1) := by decide +kernel
theorem dL_law_476 : decode cL_law 476 = .ok (.iload_n 3, 1) := by decide +kernel
theorem dL_law_477 : decode cL_law 477 = .ok (.iconst 1, 1) := by decide +kernel
theorem dL_law_478 : decode cL_law 478 = .ok (.iadd, 1) := by decide +kernel
theorem dL_law_479 : decode cL_law 479 = .ok (.iaload, 1) := by decide +kernel
theorem dL_law_480 : decode cL_law 480 = .ok (.aload_n 0, 1) := by decide +kernel
theorem dL_law_481 : decode cL_law 481 = .ok (.iload_n 3, 1) := by decide +kernel
theorem dL_law_482 : decode cL_law 482 = .ok (.iconst 2, 1) := by decide +kernel
theorem dL_law_483 : decode cL_law 483 = .ok (.iadd, 1) := by decide +kernel
theorem dL_law_484 : decode cL_law 484 = .ok (.iaload, 1) := by decide +kernel
theorem dL_law_485 : decode cL_law 485 = .ok (.aload_n 0, 1) := by decide +kernel
theorem dL_law_486 : decode cL_law 486 = .ok (.iload_n 3, 1) := by decide +kernel
theorem dL_law_487 : decode cL_law 487 = .ok (.iconst 3, 1) := by decide +kernel
theorem dL_law_488 : decode cL_law 488 = .ok (.iadd, 1) := by decide +kernel
theorem dL_law_489 : decode cL_law 489 = .ok (.iaload, 1) := by decide +kernel
theorem dL_law_490 : decode cL_law 490 = .ok (.invokevirtual 73, 3) := by decide +kernel
theorem dL_law_493 : decode cL_law 493 = .ok (.aload_n 2, 1) := by decide +kernel
theorem dL_law_494 : decode cL_law 494 = .ok (.aload_n 0, 1) := by decide +kernel
theorem dL_law_495 : decode cL_law 495 = .ok (.iload_n 3, 1) := by decide +kernel
theorem dL_law_496 : decode cL_law 496 = .ok (.iconst 1, 1) := by decide +kernel
theorem dL_law_497 : decode cL_law 497 = .ok (.iadd, 1) := by decide +kernel
theorem dL_law_498 : decode cL_law 498 = .ok (.iaload, 1) := by decide +kernel
theorem dL_law_499 : decode cL_law 499 = .ok (.aload_n 0, 1) := by decide +kernel
theorem dL_law_500 : decode cL_law 500 = .ok (.iload_n 3, 1) := by decide +kernel
theorem dL_law_501 : decode cL_law 501 = .ok (.iconst 2, 1) := by decide +kernel
theorem dL_law_502 : decode cL_law 502 = .ok (.iadd, 1) := by decide +kernel
theorem dL_law_503 : decode cL_law 503 = .ok (.iaload, 1) := by decide +kernel
theorem dL_law_504 : decode cL_law 504 = .ok (.aload_n 0, 1) := by decide +kernel
theorem dL_law_505 : decode cL_law 505 = .ok (.iload_n 3, 1) := by decide +kernel
theorem dL_law_506 : decode cL_law 506 = .ok (.iconst 3, 1) := by decide +kernel
theorem dL_law_507 : decode cL_law 507 = .ok (.iadd, 1) := by decide +kernel
theorem dL_law_508 : decode cL_law 508 = .ok (.iaload, 1) := by decide +kernel
theorem dL_law_509 : decode cL_law 509 = .ok (.invokevirtual 76, 3) := by decide +kernel
theorem dL_law_512 : decode cL_law 512 = .ok (.if_icmp .eq 113, 3) := by decide +kernel
theorem dL_law_515 : decode cL_law 515 = .ok (.iconst 0, 1) := by decide +kernel
theorem dL_law_516 : decode cL_law 516 = .ok (.ireturn, 1) := by decide +kernel
theorem dL_law_517 : decode cL_law 517 = .ok (.aload_n 1, 1) := by decide +kernel
theorem dL_law_518 : decode cL_law 518 = .ok (.invokevirtual 77, 3) := by decide +kernel
theorem dL_law_521 : decode cL_law 521 = .ok (.aload_n 2, 1) := by decide +kernel
theorem dL_law_522 : decode cL_law 522 = .ok (.invokevirtual 80, 3) := by decide +kernel
theorem dL_law_525 : decode cL_law 525 = .ok (.if_icmp .eq 100, 3) := by decide +kernel
theorem dL_law_528 : decode cL_law 528 = .ok (.iconst 0, 1) := by decide +kernel
theorem dL_law_529 : decode cL_law 529 = .ok (.ireturn, 1) := by decide +kernel
theorem dL_law_530 : decode cL_law 530 = .ok (.aload_n 1, 1) := by decide +kernel
theorem dL_law_531 : decode cL_law 531 = .ok (.invokevirtual 81, 3) := by decide +kernel
theorem dL_law_534 : decode cL_law 534 = .ok (.aload_n 2, 1) := by decide +kernel
theorem dL_law_535 : decode cL_law 535 = .ok (.invokevirtual 84, 3) := by decide +kernel
theorem dL_law_538 : decode cL_law 538 = .ok (.if_icmp .eq 87, 3) := by decide +kernel
theorem dL_law_541 : decode cL_law 541 = .ok (.iconst 0, 1) := by decide +kernel
theorem dL_law_542 : decode cL_law 542 = .ok (.ireturn, 1) := by decide +kernel
theorem dL_law_543 : decode cL_law 543 = .ok (.aload_n 1, 1) := by decide +kernel
theorem dL_law_544 : decode cL_law 544 = .ok (.invokevirtual 85, 3) := by decide +kernel
theorem dL_law_547 : decode cL_law 547 = .ok (.aload_n 2, 1) := by decide +kernel
theorem dL_law_548 : decode cL_law 548 = .ok (.invokevirtual 88, 3) := by decide +kernel
theorem dL_law_551 : decode cL_law 551 = .ok (.if_icmp .eq 74, 3) := by decide +kernel
theorem dL_law_554 : decode cL_law 554 = .ok (.iconst 0, 1) := by decide +kernel
theorem dL_law_555 : decode cL_law 555 = .ok (.ireturn, 1) := by decide +kernel
theorem dL_law_556 : decode cL_law 556 = .ok (.aload_n 1, 1) := by decide +kernel
theorem dL_law_557 : decode cL_law 557 = .ok (.aload_n 0, 1) := by decide +kernel
theorem dL_law_558 : decode cL_law 558 = .ok (.iload_n 3, 1) := by decide +kernel
theorem dL_law_559 : decode cL_law 559 = .ok (.iconst 1, 1) := by decide +kernel
theorem dL_law_560 : decode cL_law 560 = .ok (.iadd, 1) := by decide +kernel
theorem dL_law_561 : decode cL_law 561 = .ok (.iaload, 1) := by decide +kernel
theorem dL_law_562 : decode cL_law 562 = .ok (.invokevirtual 89, 3) := by decide +kernel
theorem dL_law_565 : decode cL_law 565 = .ok (.aload_n 2, 1) := by decide +kernel
theorem dL_law_566 : decode cL_law 566 = .ok (.aload_n 0, 1) := by decide +kernel
theorem dL_law_567 : decode cL_law 567 = .ok (.iload_n 3, 1) := by decide +kernel
theorem dL_law_568 : decode cL_law 568 = .ok (.iconst 1, 1) := by decide +kernel
theorem dL_law_569 : decode cL_law 569 = .ok (.iadd, 1) := by decide +kernel
theorem dL_law_570 : decode cL_law 570 = .ok (.iaload, 1) := by decide +kernel
theorem dL_law_571 : decode cL_law 571 = .ok (.invokevirtual 92, 3) := by decide +kernel
theorem dL_law_574 : decode cL_law 574 = .ok (.if_icmp .eq 51, 3) := by decide +kernel
theorem dL_law_577 : decode cL_law 577 = .ok (.iconst 0, 1) := by decide +kernel
theorem dL_law_578 : decode cL_law 578 = .ok (.ireturn, 1) := by decide +kernel
theorem dL_law_579 : decode cL_law 579 = .ok (.aload_n 1, 1) := by decide +kernel
theorem dL_law_580 : decode cL_law 580 = .ok (.aload_n 0, 1) := by decide +kernel
theorem dL_law_581 : decode cL_law 581 = .ok (.iload_n 3, 1) := by decide +kernel
theorem dL_law_582 : decode cL_law 582 = .ok (.iconst 1, 1) := by decide +kernel
theorem dL_law_583 : decode cL_law 583 = .ok (.iadd, 1) := by decide +kernel
theorem dL_law_584 : decode cL_law 584 = .ok (.iaload, 1) := by decide +kernel
theorem dL_law_585 : decode cL_law 585 = .ok (.invokevirtual 93, 3) := by decide +kernel
theorem dL_law_588 : decode cL_law 588 = .ok (.aload_n 2, 1) := by decide +kernel
theorem dL_law_589 : decode cL_law 589 = .ok (.aload_n 0, 1) := by decide +kernel
theorem dL_law_590 : decode cL_law 590 = .ok (.iload_n 3, 1) := by decide +kernel
theorem dL_law_591 : decode cL_law 591 = .ok (.iconst 1, 1) := by decide +kernel
theorem dL_law_592 : decode cL_law 592 = .ok (.iadd, 1) := by decide +kernel
theorem dL_law_593 : decode cL_law 593 = .ok (.iaload, 1) := by decide +kernel
theorem dL_law_594 : decode cL_law 594 = .ok (.invokevirtual 96, 3) := by decide +kernel
theorem dL_law_597 : decode cL_law 597 = .ok (.if_icmp .eq 28, 3) := by decide +kernel
theorem dL_law_600 : decode cL_law 600 = .ok (.iconst 0, 1) := by decide +kernel
theorem dL_law_601 : decode cL_law 601 = .ok (.ireturn, 1) := by decide +kernel
theorem dL_law_602 : decode cL_law 602 = .ok (.aload_n 1, 1) := by decide +kernel
theorem dL_law_603 : decode cL_law 603 = .ok (.aload_n 0, 1) := by decide +kernel
theorem dL_law_604 : decode cL_law 604 = .ok (.iload_n 3, 1) := by decide +kernel
theorem dL_law_605 : decode cL_law 605 = .ok (.iconst 1, 1) := by decide +kernel
theorem dL_law_606 : decode cL_law 606 = .ok (.iadd, 1) := by decide +kernel
theorem dL_law_607 : decode cL_law 607 = .ok (.iaload, 1) := by decide +kernel
theorem dL_law_608 : decode cL_law 608 = .ok (.invokevirtual 97, 3) := by decide +kernel
theorem dL_law_611 : decode cL_law 611 = .ok (.aload_n 2, 1) := by decide +kernel
theorem dL_law_612 : decode cL_law 612 = .ok (.aload_n 0, 1) := by decide +kernel
theorem dL_law_613 : decode cL_law 613 = .ok (.iload_n 3, 1) := by decide +kernel
theorem dL_law_614 : decode cL_law 614 = .ok (.iconst 1, 1) := by decide +kernel
theorem dL_law_615 : decode cL_law 615 = .ok (.iadd, 1) := by decide +kernel
theorem dL_law_616 : decode cL_law 616 = .ok (.iaload, 1) := by decide +kernel
theorem dL_law_617 : decode cL_law 617 = .ok (.invokevirtual 100, 3) := by decide +kernel
theorem dL_law_620 : decode cL_law 620 = .ok (.if_icmp .eq 5, 3) := by decide +kernel
theorem dL_law_623 : decode cL_law 623 = .ok (.iconst 0, 1) := by decide +kernel
theorem dL_law_624 : decode cL_law 624 = .ok (.ireturn, 1) := by decide +kernel
theorem dL_law_625 : decode cL_law 625 = .ok (.iinc 3 4, 3) := by decide +kernel
theorem dL_law_628 : decode cL_law 628 = .ok (.goto (-610), 3) := by decide +kernel
theorem dL_law_631 : decode cL_law 631 = .ok (.iconst 1, 1) := by decide +kernel
theorem dL_law_632 : decode cL_law 632 = .ok (.ireturn, 1) := by decide +kernel
