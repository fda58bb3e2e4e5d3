theorem dX7_readOneTalk_36 : decode cX7_readOneTalk 36 = .ok (.iconst 0, 1) := by decide +kernel
theorem dX7_readOneTalk_37 : decode cX7_readOneTalk 37 = .ok (.ireturn, 1) := by decide +kernel
theorem dX7_readOneTalk_38 : decode cX7_readOneTalk 38 = .ok (.aload_n 0, 1) := by decide +kernel
theorem dX7_readOneTalk_39 : decode cX7_readOneTalk 39 = .ok (.getfield 52, 3) := by decide +kernel
theorem dX7_readOneTalk_42 : decode cX7_readOneTalk 42 = .ok (.iload_n 2, 1) := by decide +kernel
theorem dX7_readOneTalk_43 : decode cX7_readOneTalk 43 = .ok (.iconst 1, 1) := by decide +kernel
theorem dX7_readOneTalk_44 : decode cX7_readOneTalk 44 = .ok (.iadd, 1) := by decide +kernel
theorem dX7_readOneTalk_45 : decode cX7_readOneTalk 45 = .ok (.aload_n 0, 1) := by decide +kernel
theorem dX7_readOneTalk_46 : decode cX7_readOneTalk 46 = .ok (.iload_n 1, 1) := by decide +kernel
theorem dX7_readOneTalk_47 : decode cX7_readOneTalk 47 = .ok (.iconst 1, 1) := by decide +kernel
theorem dX7_readOneTalk_48 : decode cX7_readOneTalk 48 = .ok (.bipush 9, 2) := by decide +kernel
theorem dX7_readOneTalk_50 : decode cX7_readOneTalk 50 = .ok (.invokevirtual 135, 3) := by decide +kernel
theorem dX7_readOneTalk_53 : decode cX7_readOneTalk 53 = .ok (.iastore, 1) := by decide +kernel
theorem dX7_readOneTalk_54 : decode cX7_readOneTalk 54 = .ok (.aload_n 0, 1) := by decide +kernel
theorem dX7_readOneTalk_55 : decode cX7_readOneTalk 55 = .ok (.getfield 52, 3) := by decide +kernel
theorem dX7_readOneTalk_58 : decode cX7_readOneTalk 58 = .ok (.iload_n 2, 1) := by decide +kernel
theorem dX7_readOneTalk_59 : decode cX7_readOneTalk 59 = .ok (.iconst 1, 1) := by decide +kernel
theorem dX7_readOneTalk_60 : decode cX7_readOneTalk 60 = .ok (.iadd, 1) := by decide +kernel
theorem dX7_readOneTalk_61 : decode cX7_readOneTalk 61 = .ok (.iaload, 1) := by decide +kernel
theorem dX7_readOneTalk_62 : decode cX7_readOneTalk 62 = .ok (.bipush (-9), 2) := by decide +kernel
theorem dX7_readOneTalk_64 : decode cX7_readOneTalk 64 = .ok (.if_icmp .ne 5, 3) := by decide +kernel
theorem dX7_readOneTalk_67 : decode cX7_readOneTalk 67 = .ok (.iconst 0, 1) := by decide +kernel
theorem dX7_readOneTalk_68 : decode cX7_readOneTalk 68 = .ok (.ireturn, 1) := by decide +kernel
theorem dX7_readOneTalk_69 : decode cX7_readOneTalk 69 = .ok (.aload_n 0, 1) := by decide +kernel
theorem dX7_readOneTalk_70 : decode cX7_readOneTalk 70 = .ok (.getfield 52, 3) := by decide +kernel
theorem dX7_readOneTalk_73 : decode cX7_readOneTalk 73 = .ok (.iload_n 2, 1) := by decide +kernel
theorem dX7_readOneTalk_74 : decode cX7_readOneTalk 74 = .ok (.iconst 2, 1) := by decide +kernel
theorem dX7_readOneTalk_75 : decode cX7_readOneTalk 75 = .ok (.iadd, 1) := by decide +kernel
theorem dX7_readOneTalk_76 : decode cX7_readOneTalk 76 = .ok (.aload_n 0, 1) := by decide +kernel
theorem dX7_readOneTalk_77 : decode cX7_readOneTalk 77 = .ok (.iload_n 1, 1) := by decide +kernel
theorem dX7_readOneTalk_78 : decode cX7_readOneTalk 78 = .ok (.iconst 0, 1) := by decide +kernel
theorem dX7_readOneTalk_79 : decode cX7_readOneTalk 79 = .ok (.bipush 7, 2) := by decide +kernel
theorem dX7_readOneTalk_81 : decode cX7_readOneTalk 81 = .ok (.invokevirtual 135, 3) := by decide +kernel
theorem dX7_readOneTalk_84 : decode cX7_readOneTalk 84 = .ok (.iastore, 1) := by decide +kernel
theorem dX7_readOneTalk_85 : decode cX7_readOneTalk 85 = .ok (.aload_n 0, 1) := by decide +kernel
theorem dX7_readOneTalk_86 : decode cX7_readOneTalk 86 = .ok (.dup, 1) := by decide +kernel
theorem dX7_readOneTalk_87 : decode cX7_readOneTalk 87 = .ok (.getfield 122, 3) := by decide +kernel
theorem dX7_readOneTalk_90 : decode cX7_readOneTalk 90 = .ok (.iconst 1, 1) := by decide +kernel
theorem dX7_readOneTalk_91 : decode cX7_readOneTalk 91 = .ok (.iadd, 1) := by decide +kernel
theorem dX7_readOneTalk_92 : decode cX7_readOneTalk 92 = .ok (.putfield 122, 3) := by decide +kernel
theorem dX7_readOneTalk_95 : decode cX7_readOneTalk 95 = .ok (.aload_n 0, 1) := by decide +kernel
theorem dX7_readOneTalk_96 : decode cX7_readOneTalk 96 = .ok (.getfield 52, 3) := by decide +kernel
theorem dX7_readOneTalk_99 : decode cX7_readOneTalk 99 = .ok (.iload_n 2, 1) := by decide +kernel
theorem dX7_readOneTalk_100 : decode cX7_readOneTalk 100 = .ok (.iconst 2, 1) := by decide +kernel
theorem dX7_readOneTalk_101 : decode cX7_readOneTalk 101 = .ok (.iadd, 1) := by decide +kernel
theorem dX7_readOneTalk_102 : decode cX7_readOneTalk 102 = .ok (.iaload, 1) := by decide +kernel
theorem dX7_readOneTalk_103 : decode cX7_readOneTalk 103 = .ok (.bipush (-9), 2) := by decide +kernel
theorem dX7_readOneTalk_105 : decode cX7_readOneTalk 105 = .ok (.if_icmp .eq 7, 3) := by decide +kernel
theorem dX7_readOneTalk_108 : decode cX7_readOneTalk 108 = .ok (.iconst 1, 1) := by decide +kernel
theorem dX7_readOneTalk_109 : decode cX7_readOneTalk 109 = .ok (.goto 4, 3) := by decide +kernel
theorem dX7_readOneTalk_112 : decode cX7_readOneTalk 112 = .ok (.iconst 0, 1) := by decide +kernel
theorem dX7_readOneTalk_113 : decode cX7_readOneTalk 113 = .ok (.ireturn, 1) := by decide +kernel
theorem dX7_ofCheese_0 : decode cX7_ofCheese 0 = .ok (.aload_n 0, 1) := by decide +kernel
theorem dX7_ofCheese_1 : decode cX7_ofCheese 1 = .ok (.iload_n 1, 1) := by decide +kernel
theorem dX7_ofCheese_2 : decode cX7_ofCheese 2 = .ok (.invokevirtual 145, 3) := by decide +kernel
theorem dX7_ofCheese_5 : decode cX7_ofCheese 5 = .ok (.ifCond .ne 5, 3) := by decide +kernel
theorem dX7_ofCheese_8 : decode cX7_ofCheese 8 = .ok (.iconst (-1), 1) := by decide +kernel
theorem dX7_ofCheese_9 : decode cX7_ofCheese 9 = .ok (.ireturn, 1) := by decide +kernel
theorem dX7_ofCheese_10 : decode cX7_ofCheese 10 = .ok (.iload_n 2, 1) := by decide +kernel
theorem dX7_ofCheese_11 : decode cX7_ofCheese 11 = .ok (.tableswitch 57 0 3 #[29, 36, 43, 50], 29) := by decide +kernel
theorem dX7_ofCheese_40 : decode cX7_ofCheese 40 = .ok (.aload_n 0, 1) := by decide +kernel
theorem dX7_ofCheese_41 : decode cX7_ofCheese 41 = .ok (.getfield 19, 3) := by decide +kernel
theorem dX7_ofCheese_44 : decode cX7_ofCheese 44 = .ok (.iload_n 1, 1) := by decide +kernel
theorem dX7_ofCheese_45 : decode cX7_ofCheese 45 = .ok (.iaload, 1) := by decide +kernel
theorem dX7_ofCheese_46 : decode cX7_ofCheese 46 = .ok (.ireturn, 1) := by decide +kernel
theorem dX7_ofCheese_47 : decode cX7_ofCheese 47 = .ok (.aload_n 0, 1) := by decide +kernel
theorem dX7_ofCheese_48 : decode cX7_ofCheese 48 = .ok (.getfield 22, 3) := by decide +kernel
theorem dX7_ofCheese_51 : decode cX7_ofCheese 51 = .ok (.iload_n 1, 1) := by decide +kernel
theorem dX7_ofCheese_52 : decode cX7_ofCheese 52 = .ok (.iaload, 1) := by decide +kernel
theorem dX7_ofCheese_53 : decode cX7_ofCheese 53 = .ok (.ireturn, 1) := by decide +kernel
theorem dX7_ofCheese_54 : decode cX7_ofCheese 54 = .ok (.aload_n 0, 1) := by decide +kernel
theorem dX7_ofCheese_55 : decode cX7_ofCheese 55 = .ok (.getfield 25, 3) := by decide +kernel
theorem dX7_ofCheese_58 : decode cX7_ofCheese 58 = .ok (.iload_n 1, 1) := by decide +kernel
theorem dX7_ofCheese_59 : decode cX7_ofCheese 59 = .ok (.iaload, 1) := by decide +kernel
theorem dX7_ofCheese_60 : decode cX7_ofCheese 60 = .ok (.ireturn, 1) := by decide +kernel
theorem dX7_ofCheese_61 : decode cX7_ofCheese 61 = .ok (.aload_n 0, 1) := by decide +kernel
theorem dX7_ofCheese_62 : decode cX7_ofCheese 62 = .ok (.getfield 28, 3) := by decide +kernel
theorem dX7_ofCheese_65 : decode cX7_ofCheese 65 = .ok (.iload_n 1, 1) := by decide +kernel
theorem dX7_ofCheese_66 : decode cX7_ofCheese 66 = .ok (.iaload, 1) := by decide +kernel
theorem dX7_ofCheese_67 : decode cX7_ofCheese 67 = .ok (.ireturn, 1) := by decide +kernel
theorem dX7_ofCheese_68 : decode cX7_ofCheese 68 = .ok (.bipush (-2), 2) := by decide +kernel
theorem dX7_ofCheese_70 : decode cX7_ofCheese 70 = .ok (.ireturn, 1) := by decide +kernel
theorem dX7_ofTalk_0 : decode cX7_ofTalk 0 = .ok (.aload_n 0, 1) := by decide +kernel
theorem dX7_ofTalk_1 : decode cX7_ofTalk 1 = .ok (.iload_n 1, 1) := by decide +kernel
theorem dX7_ofTalk_2 : decode cX7_ofTalk 2 = .ok (.invokevirtual 148, 3) := by decide +kernel
theorem dX7_ofTalk_5 : decode cX7_ofTalk 5 = .ok (.ifCond .ne 5, 3) := by decide +kernel
theorem dX7_ofTalk_8 : decode cX7_ofTalk 8 = .ok (.iconst (-1), 1) := by decide +kernel
theorem dX7_ofTalk_9 : decode cX7_ofTalk 9 = .ok (.ireturn, 1) := by decide +kernel
theorem dX7_ofTalk_10 : decode cX7_ofTalk 10 = .ok (.iload_n 2, 1) := by decide +kernel
theorem dX7_ofTalk_11 : decode cX7_ofTalk 11 = .ok (.ifCond .ne 12, 3) := by decide +kernel
theorem dX7_ofTalk_14 : decode cX7_ofTalk 14 = .ok (.aload_n 0, 1) := by decide +kernel
theorem dX7_ofTalk_15 : decode cX7_ofTalk 15 = .ok (.getfield 31, 3) := by decide +kernel
theorem dX7_ofTalk_18 : decode cX7_ofTalk 18 = .ok (.iload_n 1, 1) := by decide +kernel
theorem dX7_ofTalk_19 : decode cX7_ofTalk 19 = .ok (.iaload, 1) := by decide +kernel
theorem dX7_ofTalk_20 : decode cX7_ofTalk 20 = .ok (.goto 33, 3) := by decide +kernel
theorem dX7_ofTalk_23 : decode cX7_ofTalk 23 = .ok (.iload_n 2, 1) := by decide +kernel
theorem dX7_ofTalk_24 : decode cX7_ofTalk 24 = .ok (.iconst 1, 1) := by decide +kernel
theorem dX7_ofTalk_25 : decode cX7_ofTalk 25 = .ok (.if_icmp .ne 12, 3) := by decide +kernel
theorem dX7_ofTalk_28 : decode cX7_ofTalk 28 = .ok (.aload_n 0, 1) := by decide +kernel
theorem dX7_ofTalk_29 : decode cX7_ofTalk 29 = .ok (.getfield 34, 3) := by decide +kernel
theorem dX7_ofTalk_32 : decode cX7_ofTalk 32 = .ok (.iload_n 1, 1) := by decide +kernel
theorem dX7_ofTalk_33 : decode cX7_ofTalk 33 = .ok (.iaload, 1) := by decide +kernel
theorem dX7_ofTalk_34 : decode cX7_ofTalk 34 = .ok (.goto 19, 3) := by decide +kernel
theorem dX7_ofTalk_37 : decode cX7_ofTalk 37 = .ok (.iload_n 2, 1) := by decide +kernel
theorem dX7_ofTalk_38 : decode cX7_ofTalk 38 = .ok (.iconst 2, 1) := by decide +kernel
theorem dX7_ofTalk_39 : decode cX7_ofTalk 39 = .ok (.if_icmp .ne 12, 3) := by decide +kernel
theorem dX7_ofTalk_42 : decode cX7_ofTalk 42 = .ok (.aload_n 0, 1) := by decide +kernel
theorem dX7_ofTalk_43 : decode cX7_ofTalk 43 = .ok (.getfield 37, 3) := by decide +kernel
theorem dX7_ofTalk_46 : decode cX7_ofTalk 46 = .ok (.iload_n 1, 1) := by decide +kernel
theorem dX7_ofTalk_47 : decode cX7_ofTalk 47 = .ok (.iaload, 1) := by decide +kernel
theorem dX7_ofTalk_48 : decode cX7_ofTalk 48 = .ok (.goto 5, 3) := by decide +kernel
theorem dX7_ofTalk_51 : decode cX7_ofTalk 51 = .ok (.bipush (-2), 2) := by decide +kernel
theorem dX7_ofTalk_53 : decode cX7_ofTalk 53 = .ok (.ireturn, 1) := by decide +kernel
theorem dX7_move_0 : decode cX7_move 0 = .ok (.aload_n 0, 1) := by decide +kernel
theorem dX7_move_1 : decode cX7_move 1 = .ok (.iload_n 1, 1) := by decide +kernel
theorem dX7_move_2 : decode cX7_move 2 = .ok (.invokevirtual 145, 3) := by decide +kernel
theorem dX7_move_5 : decode cX7_move 5 = .ok (.ifCond .eq 11, 3) := by decide +kernel
theorem dX7_move_8 : decode cX7_move 8 = .ok (.aload_n 0, 1) := by decide +kernel
theorem dX7_move_9 : decode cX7_move 9 = .ok (.iload_n 3, 1) := by decide +kernel
theorem dX7_move_10 : decode cX7_move 10 = .ok (.invokevirtual 151, 3) := by decide +kernel
theorem dX7_move_13 : decode cX7_move 13 = .ok (.ifCond .ne 5, 3) := by decide +kernel
theorem dX7_move_16 : decode cX7_move 16 = .ok (.iconst (-1), 1) := by decide +kernel
theorem dX7_move_17 : decode cX7_move 17 = .ok (.ireturn, 1) := by decide +kernel
theorem dX7_move_18 : decode cX7_move 18 = .ok (.iload_n 2, 1) := by decide +kernel
theorem dX7_move_19 : decode cX7_move 19 = .ok (.invokestatic 154, 3) := by decide +kernel
theorem dX7_move_22 : decode cX7_move 22 = .ok (.ifCond .ne 6, 3) := by decide +kernel
theorem dX7_move_25 : decode cX7_move 25 = .ok (.bipush (-2), 2) := by decide +kernel
theorem dX7_move_27 : decode cX7_move 27 = .ok (.ireturn, 1) := by decide +kernel
theorem dX7_move_28 : decode cX7_move 28 = .ok (.aload_n 0, 1) := by decide +kernel
theorem dX7_move_29 : decode cX7_move 29 = .ok (.getfield 125, 3) := by decide +kernel
theorem dX7_move_32 : decode cX7_move 32 = .ok (.bipush 8, 2) := by decide +kernel
theorem dX7_move_34 : decode cX7_move 34 = .ok (.if_icmp .ne 6, 3) := by decide +kernel
theorem dX7_move_37 : decode cX7_move 37 = .ok (.bipush (-4), 2) := by decide +kernel
theorem dX7_move_39 : decode cX7_move 39 = .ok (.ireturn, 1) := by decide +kernel
theorem dX7_move_40 : decode cX7_move 40 = .ok (.aload_n 0, 1) := by decide +kernel
theorem dX7_move_41 : decode cX7_move 41 = .ok (.getfield 40, 3) := by decide +kernel
theorem dX7_move_44 : decode cX7_move 44 = .ok (.aload_n 0, 1) := by decide +kernel
theorem dX7_move_45 : decode cX7_move 45 = .ok (.getfield 125, 3) := by decide +kernel
theorem dX7_move_48 : decode cX7_move 48 = .ok (.iload_n 1, 1) := by decide +kernel
theorem dX7_move_49 : decode cX7_move 49 = .ok (.iastore, 1) := by decide +kernel
theorem dX7_move_50 : decode cX7_move 50 = .ok (.aload_n 0, 1) := by decide +kernel
theorem dX7_move_51 : decode cX7_move 51 = .ok (.getfield 43, 3) := by decide +kernel
theorem dX7_move_54 : decode cX7_move 54 = .ok (.aload_n 0, 1) := by decide +kernel
theorem dX7_move_55 : decode cX7_move 55 = .ok (.getfield 125, 3) := by decide +kernel
theorem dX7_move_58 : decode cX7_move 58 = .ok (.iload_n 2, 1) := by decide +kernel
theorem dX7_move_59 : decode cX7_move 59 = .ok (.iastore, 1) := by decide +kernel
theorem dX7_move_60 : decode cX7_move 60 = .ok (.aload_n 0, 1) := by decide +kernel
theorem dX7_move_61 : decode cX7_move 61 = .ok (.getfield 46, 3) := by decide +kernel
theorem dX7_move_64 : decode cX7_move 64 = .ok (.aload_n 0, 1) := by decide +kernel
theorem dX7_move_65 : decode cX7_move 65 = .ok (.getfield 125, 3) := by decide +kernel
theorem dX7_move_68 : decode cX7_move 68 = .ok (.iload_n 3, 1) := by decide +kernel
theorem dX7_move_69 : decode cX7_move 69 = .ok (.iastore, 1) := by decide +kernel
theorem dX7_move_70 : decode cX7_move 70 = .ok (.aload_n 0, 1) := by decide +kernel
theorem dX7_move_71 : decode cX7_move 71 = .ok (.dup, 1) := by decide +kernel
theorem dX7_move_72 : decode cX7_move 72 = .ok (.getfield 125, 3) := by decide +kernel
theorem dX7_move_75 : decode cX7_move 75 = .ok (.iconst 1, 1) := by decide +kernel
theorem dX7_move_76 : decode cX7_move 76 = .ok (.iadd, 1) := by decide +kernel
theorem dX7_move_77 : decode cX7_move 77 = .ok (.putfield 125, 3) := by decide +kernel
theorem dX7_move_80 : decode cX7_move 80 = .ok (.aload_n 0, 1) := by decide +kernel
theorem dX7_move_81 : decode cX7_move 81 = .ok (.getfield 125, 3) := by decide +kernel
theorem dX7_move_84 : decode cX7_move 84 = .ok (.iconst 1, 1) := by decide +kernel
theorem dX7_move_85 : decode cX7_move 85 = .ok (.isub, 1) := by decide +kernel
theorem dX7_move_86 : decode cX7_move 86 = .ok (.ireturn, 1) := by decide +kernel
theorem dX7_undo_0 : decode cX7_undo 0 = .ok (.iload_n 1, 1) := by decide +kernel
theorem dX7_undo_1 : decode cX7_undo 1 = .ok (.iconst 0, 1) := by decide +kernel
theorem dX7_undo_2 : decode cX7_undo 2 = .ok (.aload_n 0, 1) := by decide +kernel
theorem dX7_undo_3 : decode cX7_undo 3 = .ok (.getfield 125, 3) := by decide +kernel
theorem dX7_undo_6 : decode cX7_undo 6 = .ok (.invokestatic 79, 3) := by decide +kernel
theorem dX7_undo_9 : decode cX7_undo 9 = .ok (.ifCond .ne 6, 3) := by decide +kernel
theorem dX7_undo_12 : decode cX7_undo 12 = .ok (.bipush (-2), 2) := by decide +kernel
theorem dX7_undo_14 : decode cX7_undo 14 = .ok (.ireturn, 1) := by decide +kernel
theorem dX7_undo_15 : decode cX7_undo 15 = .ok (.aload_n 0, 1) := by decide +kernel
theorem dX7_undo_16 : decode cX7_undo 16 = .ok (.dup, 1) := by decide +kernel
theorem dX7_undo_17 : decode cX7_undo 17 = .ok (.getfield 125, 3) := by decide +kernel
theorem dX7_undo_20 : decode cX7_undo 20 = .ok (.iload_n 1, 1) := by decide +kernel
theorem dX7_undo_21 : decode cX7_undo 21 = .ok (.isub, 1) := by decide +kernel
theorem dX7_undo_22 : decode cX7_undo 22 = .ok (.putfield 125, 3) := by decide +kernel
theorem dX7_undo_25 : decode cX7_undo 25 = .ok (.aload_n 0, 1) := by decide +kernel
theorem dX7_undo_26 : decode cX7_undo 26 = .ok (.getfield 125, 3) := by decide +kernel
theorem dX7_undo_29 : decode cX7_undo 29 = .ok (.ireturn, 1) := by decide +kernel
theorem dX7_wall_0 : decode cX7_wall 0 = .ok (.aload_n 0, 1) := by decide +kernel
theorem dX7_wall_1 : decode cX7_wall 1 = .ok (.iload_n 1, 1) := by decide +kernel
theorem dX7_wall_2 : decode cX7_wall 2 = .ok (.invokevirtual 145, 3) := by decide +kernel
theorem dX7_wall_5 : decode cX7_wall 5 = .ok (.ifCond .ne 5, 3) := by decide +kernel
theorem dX7_wall_8 : decode cX7_wall 8 = .ok (.iconst (-1), 1) := by decide +kernel
theorem dX7_wall_9 : decode cX7_wall 9 = .ok (.ireturn, 1) := by decide +kernel
theorem dX7_wall_10 : decode cX7_wall 10 = .ok (.iload_n 2, 1) := by decide +kernel
theorem dX7_wall_11 : decode cX7_wall 11 = .ok (.bipush (-9), 2) := by decide +kernel
theorem dX7_wall_13 : decode cX7_wall 13 = .ok (.if_icmp .eq 13, 3) := by decide +kernel
theorem dX7_wall_16 : decode cX7_wall 16 = .ok (.iload_n 2, 1) := by decide +kernel
theorem dX7_wall_17 : decode cX7_wall 17 = .ok (.invokestatic 154, 3) := by decide +kernel
theorem dX7_wall_20 : decode cX7_wall 20 = .ok (.ifCond .ne 6, 3) := by decide +kernel
theorem dX7_wall_23 : decode cX7_wall 23 = .ok (.bipush (-2), 2) := by decide +kernel
theorem dX7_wall_25 : decode cX7_wall 25 = .ok (.ireturn, 1) := by decide +kernel
theorem dX7_wall_26 : decode cX7_wall 26 = .ok (.aload_n 0, 1) := by decide +kernel
theorem dX7_wall_27 : decode cX7_wall 27 = .ok (.getfield 28, 3) := by decide +kernel
theorem dX7_wall_30 : decode cX7_wall 30 = .ok (.iload_n 1, 1) := by decide +kernel
theorem dX7_wall_31 : decode cX7_wall 31 = .ok (.iaload, 1) := by decide +kernel
theorem dX7_wall_32 : decode cX7_wall 32 = .ok (.istore_n 3, 1) := by decide +kernel
theorem dX7_wall_33 : decode cX7_wall 33 = .ok (.aload_n 0, 1) := by decide +kernel
theorem dX7_wall_34 : decode cX7_wall 34 = .ok (.getfield 28, 3) := by decide +kernel
theorem dX7_wall_37 : decode cX7_wall 37 = .ok (.iload_n 1, 1) := by decide +kernel
theorem dX7_wall_38 : decode cX7_wall 38 = .ok (.iload_n 2, 1) := by decide +kernel
theorem dX7_wall_39 : decode cX7_wall 39 = .ok (.iastore, 1) := by decide +kernel
theorem dX7_wall_40 : decode cX7_wall 40 = .ok (.iload_n 3, 1) := by decide +kernel
theorem dX7_wall_41 : decode cX7_wall 41 = .ok (.ireturn, 1) := by decide +kernel
theorem dX7_whereOf_0 : decode cX7_whereOf 0 = .ok (.aload_n 0, 1) := by decide +kernel
theorem dX7_whereOf_1 : decode cX7_whereOf 1 = .ok (.getfield 22, 3) := by decide +kernel
theorem dX7_whereOf_4 : decode cX7_whereOf 4 = .ok (.iload_n 1, 1) := by decide +kernel
theorem dX7_whereOf_5 : decode cX7_whereOf 5 = .ok (.iaload, 1) := by decide +kernel
theorem dX7_whereOf_6 : decode cX7_whereOf 6 = .ok (.istore_n 3, 1) := by decide +kernel
theorem dX7_whereOf_7 : decode cX7_whereOf 7 = .ok (.bipush (-9), 2) := by decide +kernel
theorem dX7_whereOf_9 : decode cX7_whereOf 9 = .ok (.istore 4, 2) := by decide +kernel
theorem dX7_whereOf_11 : decode cX7_whereOf 11 = .ok (.iconst 0, 1) := by decide +kernel
theorem dX7_whereOf_12 : decode cX7_whereOf 12 = .ok (.istore 5, 2) := by decide +kernel
theorem dX7_whereOf_14 : decode cX7_whereOf 14 = .ok (.iload 5, 2) := by decide +kernel
theorem dX7_whereOf_16 : decode cX7_whereOf 16 = .ok (.aload_n 0, 1) := by decide +kernel
theorem dX7_whereOf_17 : decode cX7_whereOf 17 = .ok (.getfield 125, 3) := by decide +kernel
theorem dX7_whereOf_20 : decode cX7_whereOf 20 = .ok (.if_icmp .ge 60, 3) := by decide +kernel
theorem dX7_whereOf_23 : decode cX7_whereOf 23 = .ok (.aload_n 0, 1) := by decide +kernel
theorem dX7_whereOf_24 : decode cX7_whereOf 24 = .ok (.getfield 40, 3) := by decide +kernel
theorem dX7_whereOf_27 : decode cX7_whereOf 27 = .ok (.iload 5, 2) := by decide +kernel
theorem dX7_whereOf_29 : decode cX7_whereOf 29 = .ok (.iaload, 1) := by decide +kernel
theorem dX7_whereOf_30 : decode cX7_whereOf 30 = .ok (.iload_n 1, 1) := by decide +kernel
theorem dX7_whereOf_31 : decode cX7_whereOf 31 = .ok (.if_icmp .ne 43, 3) := by decide +kernel
theorem dX7_whereOf_34 : decode cX7_whereOf 34 = .ok (.aload_n 0, 1) := by decide +kernel
theorem dX7_whereOf_35 : decode cX7_whereOf 35 = .ok (.getfield 43, 3) := by decide +kernel
theorem dX7_whereOf_38 : decode cX7_whereOf 38 = .ok (.iload 5, 2) := by decide +kernel
theorem dX7_whereOf_40 : decode cX7_whereOf 40 = .ok (.iaload, 1) := by decide +kernel
theorem dX7_whereOf_41 : decode cX7_whereOf 41 = .ok (.iload_n 2, 1) := by decide +kernel
theorem dX7_whereOf_42 : decode cX7_whereOf 42 = .ok (.if_icmp .gt 32, 3) := by decide +kernel
theorem dX7_whereOf_45 : decode cX7_whereOf 45 = .ok (.aload_n 0, 1) := by decide +kernel
theorem dX7_whereOf_46 : decode cX7_whereOf 46 = .ok (.getfield 43, 3) := by decide +kernel
theorem dX7_whereOf_49 : decode cX7_whereOf 49 = .ok (.iload 5, 2) := by decide +kernel
theorem dX7_whereOf_51 : decode cX7_whereOf 51 = .ok (.iaload, 1) := by decide +kernel
theorem dX7_whereOf_52 : decode cX7_whereOf 52 = .ok (.iload 4, 2) := by decide +kernel
theorem dX7_whereOf_54 : decode cX7_whereOf 54 = .ok (.if_icmp .lt 20, 3) := by decide +kernel
theorem dX7_whereOf_57 : decode cX7_whereOf 57 = .ok (.aload_n 0, 1) := by decide +kernel
theorem dX7_whereOf_58 : decode cX7_whereOf 58 = .ok (.getfield 43, 3) := by decide +kernel
theorem dX7_whereOf_61 : decode cX7_whereOf 61 = .ok (.iload 5, 2) := by decide +kernel
theorem dX7_whereOf_63 : decode cX7_whereOf 63 = .ok (.iaload, 1) := by decide +kernel
theorem dX7_whereOf_64 : decode cX7_whereOf 64 = .ok (.istore 4, 2) := by decide +kernel
theorem dX7_whereOf_66 : decode cX7_whereOf 66 = .ok (.aload_n 0, 1) := by decide +kernel
theorem dX7_whereOf_67 : decode cX7_whereOf 67 = .ok (.getfield 46, 3) := by decide +kernel
theorem dX7_whereOf_70 : decode cX7_whereOf 70 = .ok (.iload 5, 2) := by decide +kernel
theorem dX7_whereOf_72 : decode cX7_whereOf 72 = .ok (.iaload, 1) := by decide +kernel
theorem dX7_whereOf_73 : decode cX7_whereOf 73 = .ok (.istore_n 3, 1) := by decide +kernel
theorem dX7_whereOf_74 : decode cX7_whereOf 74 = .ok (.iinc 5 1, 3) := by decide +kernel
theorem dX7_whereOf_77 : decode cX7_whereOf 77 = .ok (.goto (-63), 3) := by decide +kernel
theorem dX7_whereOf_80 : decode cX7_whereOf 80 = .ok (.iload_n 3, 1) := by decide +kernel
theorem dX7_whereOf_81 : decode cX7_whereOf 81 = .ok (.ireturn, 1) := by decide +kernel
theorem dX7_where_0 : decode cX7_where 0 = .ok (.aload_n 0, 1) := by decide +kernel
theorem dX7_where_1 : decode cX7_where 1 = .ok (.iload_n 1, 1) := by decide +kernel
theorem dX7_where_2 : decode cX7_where 2 = .ok (.invokevirtual 145, 3) := by decide +kernel
theorem dX7_where_5 : decode cX7_where 5 = .ok (.ifCond .ne 5, 3) := by decide +kernel
theorem dX7_where_8 : decode cX7_where 8 = .ok (.iconst (-1), 1) := by decide +kernel
theorem dX7_where_9 : decode cX7_where 9 = .ok (.ireturn, 1) := by decide +kernel
theorem dX7_where_10 : decode cX7_where 10 = .ok (.iload_n 2, 1) := by decide +kernel
theorem dX7_where_11 : decode cX7_where 11 = .ok (.invokestatic 154, 3) := by decide +kernel
theorem dX7_where_14 : decode cX7_where 14 = .ok (.ifCond .eq 12, 3) := by decide +kernel
theorem dX7_where_17 : decode cX7_where 17 = .ok (.aload_n 0, 1) := by decide +kernel
theorem dX7_where_18 : decode cX7_where 18 = .ok (.iload_n 1, 1) := by decide +kernel
theorem dX7_where_19 : decode cX7_where 19 = .ok (.iload_n 2, 1) := by decide +kernel
theorem dX7_where_20 : decode cX7_where 20 = .ok (.invokevirtual 157, 3) := by decide +kernel
theorem dX7_where_23 : decode cX7_where 23 = .ok (.goto 5, 3) := by decide +kernel
theorem dX7_where_26 : decode cX7_where 26 = .ok (.bipush (-2), 2) := by decide +kernel
theorem dX7_where_28 : decode cX7_where 28 = .ok (.ireturn, 1) := by decide +kernel
theorem dX7_comes_0 : decode cX7_comes 0 = .ok (.aload_n 0, 1) := by decide +kernel
theorem dX7_comes_1 : decode cX7_comes 1 = .ok (.iload_n 1, 1) := by decide +kernel
theorem dX7_comes_2 : decode cX7_comes 2 = .ok (.iload_n 2, 1) := by decide +kernel
theorem dX7_comes_3 : decode cX7_comes 3 = .ok (.invokevirtual 157, 3) := by decide +kernel
theorem dX7_comes_6 : decode cX7_comes 6 = .ok (.aload_n 0, 1) := by decide +kernel
theorem dX7_comes_7 : decode cX7_comes 7 = .ok (.getfield 31, 3) := by decide +kernel
theorem dX7_comes_10 : decode cX7_comes 10 = .ok (.iload_n 2, 1) := by decide +kernel
theorem dX7_comes_11 : decode cX7_comes 11 = .ok (.iaload, 1) := by decide +kernel
theorem dX7_comes_12 : decode cX7_comes 12 = .ok (.isub, 1) := by decide +kernel
theorem dX7_comes_13 : decode cX7_comes 13 = .ok (.istore_n 3, 1) := by decide +kernel
theorem dX7_comes_14 : decode cX7_comes 14 = .ok (.aload_n 0, 1) := by decide +kernel
theorem dX7_comes_15 : decode cX7_comes 15 = .ok (.getfield 161, 3) := by decide +kernel
theorem dX7_comes_18 : decode cX7_comes 18 = .ok (.iload_n 2, 1) := by decide +kernel
theorem dX7_comes_19 : decode cX7_comes 19 = .ok (.ishr, 1) := by decide +kernel
theorem dX7_comes_20 : decode cX7_comes 20 = .ok (.iconst 1, 1) := by decide +kernel
theorem dX7_comes_21 : decode cX7_comes 21 = .ok (.iand, 1) := by decide +kernel
theorem dX7_comes_22 : decode cX7_comes 22 = .ok (.iconst 1, 1) := by decide +kernel
theorem dX7_comes_23 : decode cX7_comes 23 = .ok (.if_icmp .ne 7, 3) := by decide +kernel
theorem dX7_comes_26 : decode cX7_comes 26 = .ok (.iconst 1, 1) := by decide +kernel
theorem dX7_comes_27 : decode cX7_comes 27 = .ok (.goto 9, 3) := by decide +kernel
theorem dX7_comes_30 : decode cX7_comes 30 = .ok (.aload_n 0, 1) := by decide +kernel
theorem dX7_comes_31 : decode cX7_comes 31 = .ok (.getfield 34, 3) := by decide +kernel
theorem dX7_comes_34 : decode cX7_comes 34 = .ok (.iload_n 2, 1) := by decide +kernel
theorem dX7_comes_35 : decode cX7_comes 35 = .ok (.iaload, 1) := by decide +kernel
theorem dX7_comes_36 : decode cX7_comes 36 = .ok (.istore 4, 2) := by decide +kernel
theorem dX7_comes_38 : decode cX7_comes 38 = .ok (.iload 4, 2) := by decide +kernel
theorem dX7_comes_40 : decode cX7_comes 40 = .ok (.iconst 2, 1) := by decide +kernel
theorem dX7_comes_41 : decode cX7_comes 41 = .ok (.iload_n 3, 1) := by decide +kernel
theorem dX7_comes_42 : decode cX7_comes 42 = .ok (.ifCond .ge 8, 3) := by decide +kernel
theorem dX7_comes_45 : decode cX7_comes 45 = .ok (.iload_n 3, 1) := by decide +kernel
theorem dX7_comes_46 : decode cX7_comes 46 = .ok (.ineg, 1) := by decide +kernel
theorem dX7_comes_47 : decode cX7_comes 47 = .ok (.goto 4, 3) := by decide +kernel
theorem dX7_comes_50 : decode cX7_comes 50 = .ok (.iload_n 3, 1) := by decide +kernel
theorem dX7_comes_51 : decode cX7_comes 51 = .ok (.imul, 1) := by decide +kernel
theorem dX7_comes_52 : decode cX7_comes 52 = .ok (.isub, 1) := by decide +kernel
theorem dX7_comes_53 : decode cX7_comes 53 = .ok (.ireturn, 1) := by decide +kernel
theorem dX7_isTurned_0 : decode cX7_isTurned 0 = .ok (.aload_n 0, 1) := by decide +kernel
theorem dX7_isTurned_1 : decode cX7_isTurned 1 = .ok (.getfield 28, 3) := by decide +kernel
theorem dX7_isTurned_4 : decode cX7_isTurned 4 = .ok (.iload_n 1, 1) := by decide +kernel
theorem dX7_isTurned_5 : decode cX7_isTurned 5 = .ok (.iaload, 1) := by decide +kernel
theorem dX7_isTurned_6 : decode cX7_isTurned 6 = .ok (.bipush (-9), 2) := by decide +kernel
theorem dX7_isTurned_8 : decode cX7_isTurned 8 = .ok (.if_icmp .eq 17, 3) := by decide +kernel
theorem dX7_isTurned_11 : decode cX7_isTurned 11 = .ok (.iload_n 2, 1) := by decide +kernel
theorem dX7_isTurned_12 : decode cX7_isTurned 12 = .ok (.aload_n 0, 1) := by decide +kernel
theorem dX7_isTurned_13 : decode cX7_isTurned 13 = .ok (.getfield 28, 3) := by decide +kernel
theorem dX7_isTurned_16 : decode cX7_isTurned 16 = .ok (.iload_n 1, 1) := by decide +kernel
theorem dX7_isTurned_17 : decode cX7_isTurned 17 = .ok (.iaload, 1) := by decide +kernel
theorem dX7_isTurned_18 : decode cX7_isTurned 18 = .ok (.if_icmp .lt 7, 3) := by decide +kernel
theorem dX7_isTurned_21 : decode cX7_isTurned 21 = .ok (.iconst 1, 1) := by decide +kernel
theorem dX7_isTurned_22 : decode cX7_isTurned 22 = .ok (.goto 4, 3) := by decide +kernel
theorem dX7_isTurned_25 : decode cX7_isTurned 25 = .ok (.iconst 0, 1) := by decide +kernel
theorem dX7_isTurned_26 : decode cX7_isTurned 26 = .ok (.ireturn, 1) := by decide +kernel
theorem dX7_heardBy_0 : decode cX7_heardBy 0 = .ok (.aload_n 0, 1) := by decide +kernel
theorem dX7_heardBy_1 : decode cX7_heardBy 1 = .ok (.getfield 19, 3) := by decide +kernel
theorem dX7_heardBy_4 : decode cX7_heardBy 4 = .ok (.iload_n 1, 1) := by decide +kernel
theorem dX7_heardBy_5 : decode cX7_heardBy 5 = .ok (.iaload, 1) := by decide +kernel
theorem dX7_heardBy_6 : decode cX7_heardBy 6 = .ok (.iconst 1, 1) := by decide +kernel
theorem dX7_heardBy_7 : decode cX7_heardBy 7 = .ok (.if_icmp .ne 14, 3) := by decide +kernel
theorem dX7_heardBy_10 : decode cX7_heardBy 10 = .ok (.aload_n 0, 1) := by decide +kernel
theorem dX7_heardBy_11 : decode cX7_heardBy 11 = .ok (.getfield 25, 3) := by decide +kernel
theorem dX7_heardBy_14 : decode cX7_heardBy 14 = .ok (.iload_n 1, 1) := by decide +kernel
theorem dX7_heardBy_15 : decode cX7_heardBy 15 = .ok (.iaload, 1) := by decide +kernel
theorem dX7_heardBy_16 : decode cX7_heardBy 16 = .ok (.iconst 1, 1) := by decide +kernel
theorem dX7_heardBy_17 : decode cX7_heardBy 17 = .ok (.iadd, 1) := by decide +kernel
theorem dX7_heardBy_18 : decode cX7_heardBy 18 = .ok (.goto 9, 3) := by decide +kernel
theorem dX7_heardBy_21 : decode cX7_heardBy 21 = .ok (.aload_n 0, 1) := by decide +kernel
theorem dX7_heardBy_22 : decode cX7_heardBy 22 = .ok (.getfield 25, 3) := by decide +kernel
theorem dX7_heardBy_25 : decode cX7_heardBy 25 = .ok (.iload_n 1, 1) := by decide +kernel
theorem dX7_heardBy_26 : decode cX7_heardBy 26 = .ok (.iaload, 1) := by decide +kernel
theorem dX7_heardBy_27 : decode cX7_heardBy 27 = .ok (.istore_n 2, 1) := by decide +kernel
theorem dX7_heardBy_28 : decode cX7_heardBy 28 = .ok (.iload_n 2, 1) := by decide +kernel
theorem dX7_heardBy_29 : decode cX7_heardBy 29 = .ok (.iconst 1, 1) := by decide +kernel
theorem dX7_heardBy_30 : decode cX7_heardBy 30 = .ok (.if_icmp .ge 7, 3) := by decide +kernel
theorem dX7_heardBy_33 : decode cX7_heardBy 33 = .ok (.iconst 1, 1) := by decide +kernel
theorem dX7_heardBy_34 : decode cX7_heardBy 34 = .ok (.goto 4, 3) := by decide +kernel
theorem dX7_heardBy_37 : decode cX7_heardBy 37 = .ok (.iload_n 2, 1) := by decide +kernel
theorem dX7_heardBy_38 : decode cX7_heardBy 38 = .ok (.istore_n 2, 1) := by decide +kernel
theorem dX7_heardBy_39 : decode cX7_heardBy 39 = .ok (.iconst 0, 1) := by decide +kernel
theorem dX7_heardBy_40 : decode cX7_heardBy 40 = .ok (.istore_n 3, 1) := by decide +kernel
theorem dX7_heardBy_41 : decode cX7_heardBy 41 = .ok (.iconst 0, 1) := by decide +kernel
theorem dX7_heardBy_42 : decode cX7_heardBy 42 = .ok (.istore 4, 2) := by decide +kernel
theorem dX7_heardBy_44 : decode cX7_heardBy 44 = .ok (.iconst 0, 1) := by decide +kernel
theorem dX7_heardBy_45 : decode cX7_heardBy 45 = .ok (.istore 5, 2) := by decide +kernel
theorem dX7_heardBy_47 : decode cX7_heardBy 47 = .ok (.iload 5, 2) := by decide +kernel
theorem dX7_heardBy_49 : decode cX7_heardBy 49 = .ok (.aload_n 0, 1) := by decide +kernel
theorem dX7_heardBy_50 : decode cX7_heardBy 50 = .ok (.getfield 89, 3) := by decide +kernel
theorem dX7_heardBy_53 : decode cX7_heardBy 53 = .ok (.if_icmp .ge 68, 3) := by decide +kernel
theorem dX7_heardBy_56 : decode cX7_heardBy 56 = .ok (.aload_n 0, 1) := by decide +kernel
theorem dX7_heardBy_57 : decode cX7_heardBy 57 = .ok (.iload_n 1, 1) := by decide +kernel
theorem dX7_heardBy_58 : decode cX7_heardBy 58 = .ok (.iload 5, 2) := by decide +kernel
theorem dX7_heardBy_60 : decode cX7_heardBy 60 = .ok (.invokevirtual 164, 3) := by decide +kernel
theorem dX7_heardBy_63 : decode cX7_heardBy 63 = .ok (.ifCond .ne 52, 3) := by decide +kernel
theorem dX7_heardBy_66 : decode cX7_heardBy 66 = .ok (.aload_n 0, 1) := by decide +kernel
theorem dX7_heardBy_67 : decode cX7_heardBy 67 = .ok (.iload_n 1, 1) := by decide +kernel
theorem dX7_heardBy_68 : decode cX7_heardBy 68 = .ok (.iload 5, 2) := by decide +kernel
theorem dX7_heardBy_70 : decode cX7_heardBy 70 = .ok (.invokevirtual 167, 3) := by decide +kernel
theorem dX7_heardBy_73 : decode cX7_heardBy 73 = .ok (.iload_n 2, 1) := by decide +kernel
theorem dX7_heardBy_74 : decode cX7_heardBy 74 = .ok (.if_icmp .lt 41, 3) := by decide +kernel
theorem dX7_heardBy_77 : decode cX7_heardBy 77 = .ok (.iload_n 3, 1) := by decide +kernel
theorem dX7_heardBy_78 : decode cX7_heardBy 78 = .ok (.iload 4, 2) := by decide +kernel
theorem dX7_heardBy_80 : decode cX7_heardBy 80 = .ok (.ifCond .eq 7, 3) := by decide +kernel
theorem dX7_heardBy_83 : decode cX7_heardBy 83 = .ok (.iconst 0, 1) := by decide +kernel
theorem dX7_heardBy_84 : decode cX7_heardBy 84 = .ok (.goto 7, 3) := by decide +kernel
theorem dX7_heardBy_87 : decode cX7_heardBy 87 = .ok (.iconst 1, 1) := by decide +kernel
theorem dX7_heardBy_88 : decode cX7_heardBy 88 = .ok (.iload 5, 2) := by decide +kernel
theorem dX7_heardBy_90 : decode cX7_heardBy 90 = .ok (.ishl, 1) := by decide +kernel
theorem dX7_heardBy_91 : decode cX7_heardBy 91 = .ok (.ior, 1) := by decide +kernel
theorem dX7_heardBy_92 : decode cX7_heardBy 92 = .ok (.istore_n 3, 1) := by decide +kernel
theorem dX7_heardBy_93 : decode cX7_heardBy 93 = .ok (.aload_n 0, 1) := by decide +kernel
theorem dX7_heardBy_94 : decode cX7_heardBy 94 = .ok (.getfield 19, 3) := by decide +kernel
theorem dX7_heardBy_97 : decode cX7_heardBy 97 = .ok (.iload_n 1, 1) := by decide +kernel
theorem dX7_heardBy_98 : decode cX7_heardBy 98 = .ok (.iaload, 1) := by decide +kernel
theorem dX7_heardBy_99 : decode cX7_heardBy 99 = .ok (.iconst 2, 1) := by decide +kernel
theorem dX7_heardBy_100 : decode cX7_heardBy 100 = .ok (.if_icmp .ne 12, 3) := by decide +kernel
theorem dX7_heardBy_103 : decode cX7_heardBy 103 = .ok (.iload 4, 2) := by decide +kernel
theorem dX7_heardBy_105 : decode cX7_heardBy 105 = .ok (.ifCond .ne 7, 3) := by decide +kernel
theorem dX7_heardBy_108 : decode cX7_heardBy 108 = .ok (.iconst 1, 1) := by decide +kernel
theorem dX7_heardBy_109 : decode cX7_heardBy 109 = .ok (.goto 4, 3) := by decide +kernel
theorem dX7_heardBy_112 : decode cX7_heardBy 112 = .ok (.iconst 0, 1) := by decide +kernel
theorem dX7_heardBy_113 : decode cX7_heardBy 113 = .ok (.istore 4, 2) := by decide +kernel
theorem dX7_heardBy_115 : decode cX7_heardBy 115 = .ok (.iinc 5 1, 3) := by decide +kernel
theorem dX7_heardBy_118 : decode cX7_heardBy 118 = .ok (.goto (-71), 3) := by decide +kernel
theorem dX7_heardBy_121 : decode cX7_heardBy 121 = .ok (.iload_n 3, 1) := by decide +kernel
theorem dX7_heardBy_122 : decode cX7_heardBy 122 = .ok (.ireturn, 1) := by decide +kernel
theorem dX7_heard_0 : decode cX7_heard 0 = .ok (.aload_n 0, 1) := by decide +kernel
theorem dX7_heard_1 : decode cX7_heard 1 = .ok (.iload_n 1, 1) := by decide +kernel
theorem dX7_heard_2 : decode cX7_heard 2 = .ok (.invokevirtual 145, 3) := by decide +kernel
theorem dX7_heard_5 : decode cX7_heard 5 = .ok (.ifCond .eq 11, 3) := by decide +kernel
theorem dX7_heard_8 : decode cX7_heard 8 = .ok (.aload_n 0, 1) := by decide +kernel
theorem dX7_heard_9 : decode cX7_heard 9 = .ok (.iload_n 1, 1) := by decide +kernel
theorem dX7_heard_10 : decode cX7_heard 10 = .ok (.invokevirtual 170, 3) := by decide +kernel
theorem dX7_heard_13 : decode cX7_heard 13 = .ok (.goto 4, 3) := by decide +kernel
theorem dX7_heard_16 : decode cX7_heard 16 = .ok (.iconst (-1), 1) := by decide +kernel
theorem dX7_heard_17 : decode cX7_heard 17 = .ok (.ireturn, 1) := by decide +kernel
theorem dX7_size_0 : decode cX7_size 0 = .ok (.iconst 0, 1) := by decide +kernel
theorem dX7_size_1 : decode cX7_size 1 = .ok (.istore_n 1, 1) := by decide +kernel
theorem dX7_size_2 : decode cX7_size 2 = .ok (.iload_n 0, 1) := by decide +kernel
theorem dX7_size_3 : decode cX7_size 3 = .ok (.istore_n 2, 1) := by decide +kernel
theorem dX7_size_4 : decode cX7_size 4 = .ok (.iload_n 2, 1) := by decide +kernel
theorem dX7_size_5 : decode cX7_size 5 = .ok (.ifCond .le 16, 3) := by decide +kernel
theorem dX7_size_8 : decode cX7_size 8 = .ok (.iload_n 1, 1) := by decide +kernel
theorem dX7_size_9 : decode cX7_size 9 = .ok (.iload_n 2, 1) := by decide +kernel
theorem dX7_size_10 : decode cX7_size 10 = .ok (.iconst 1, 1) := by decide +kernel
theorem dX7_size_11 : decode cX7_size 11 = .ok (.iand, 1) := by decide +kernel
theorem dX7_size_12 : decode cX7_size 12 = .ok (.iadd, 1) := by decide +kernel
theorem dX7_size_13 : decode cX7_size 13 = .ok (.istore_n 1, 1) := by decide +kernel
theorem dX7_size_14 : decode cX7_size 14 = .ok (.iload_n 2, 1) := by decide +kernel
theorem dX7_size_15 : decode cX7_size 15 = .ok (.iconst 1, 1) := by decide +kernel
theorem dX7_size_16 : decode cX7_size 16 = .ok (.ishr, 1) := by decide +kernel
theorem dX7_size_17 : decode cX7_size 17 = .ok (.istore_n 2, 1) := by decide +kernel
theorem dX7_size_18 : decode cX7_size 18 = .ok (.goto (-14), 3) := by decide +kernel
theorem dX7_size_21 : decode cX7_size 21 = .ok (.iload_n 1, 1) := by decide +kernel
theorem dX7_size_22 : decode cX7_size 22 = .ok (.ireturn, 1) := by decide +kernel
theorem dX7_layerOf_0 : decode cX7_layerOf 0 = .ok (.iload_n 2, 1) := by decide +kernel
theorem dX7_layerOf_1 : decode cX7_layerOf 1 = .ok (.istore_n 3, 1) := by decide +kernel
theorem dX7_layerOf_2 : decode cX7_layerOf 2 = .ok (.aload_n 0, 1) := by decide +kernel
theorem dX7_layerOf_3 : decode cX7_layerOf 3 = .ok (.getfield 89, 3) := by decide +kernel
theorem dX7_layerOf_6 : decode cX7_layerOf 6 = .ok (.iconst 1, 1) := by decide +kernel
theorem dX7_layerOf_7 : decode cX7_layerOf 7 = .ok (.isub, 1) := by decide +kernel
theorem dX7_layerOf_8 : decode cX7_layerOf 8 = .ok (.istore 4, 2) := by decide +kernel
theorem dX7_layerOf_10 : decode cX7_layerOf 10 = .ok (.iload 4, 2) := by decide +kernel
theorem dX7_layerOf_12 : decode cX7_layerOf 12 = .ok (.ifCond .lt 29, 3) := by decide +kernel
theorem dX7_layerOf_15 : decode cX7_layerOf 15 = .ok (.iload_n 1, 1) := by decide +kernel
theorem dX7_layerOf_16 : decode cX7_layerOf 16 = .ok (.iload 4, 2) := by decide +kernel
theorem dX7_layerOf_18 : decode cX7_layerOf 18 = .ok (.ishr, 1) := by decide +kernel
theorem dX7_layerOf_19 : decode cX7_layerOf 19 = .ok (.iconst 1, 1) := by decide +kernel
theorem dX7_layerOf_20 : decode cX7_layerOf 20 = .ok (.iand, 1) := by decide +kernel
theorem dX7_layerOf_21 : decode cX7_layerOf 21 = .ok (.iconst 1, 1) := by decide +kernel
theorem dX7_layerOf_22 : decode cX7_layerOf 22 = .ok (.if_icmp .ne 13, 3) := by decide +kernel
theorem dX7_layerOf_25 : decode cX7_layerOf 25 = .ok (.iload_n 3, 1) := by decide +kernel
theorem dX7_layerOf_26 : decode cX7_layerOf 26 = .ok (.ifCond .ne 6, 3) := by decide +kernel
theorem dX7_layerOf_29 : decode cX7_layerOf 29 = .ok (.iload 4, 2) := by decide +kernel
theorem dX7_layerOf_31 : decode cX7_layerOf 31 = .ok (.ireturn, 1) := by decide +kernel
theorem dX7_layerOf_32 : decode cX7_layerOf 32 = .ok (.iinc 3 (-1), 3) := by decide +kernel
theorem dX7_layerOf_35 : decode cX7_layerOf 35 = .ok (.iinc 4 (-1), 3) := by decide +kernel
theorem dX7_layerOf_38 : decode cX7_layerOf 38 = .ok (.goto (-28), 3) := by decide +kernel
theorem dX7_layerOf_41 : decode cX7_layerOf 41 = .ok (.bipush (-9), 2) := by decide +kernel
theorem dX7_layerOf_43 : decode cX7_layerOf 43 = .ok (.ireturn, 1) := by decide +kernel
theorem dX7_layer_0 : decode cX7_layer 0 = .ok (.aload_n 0, 1) := by decide +kernel
theorem dX7_layer_1 : decode cX7_layer 1 = .ok (.iload_n 1, 1) := by decide +kernel
theorem dX7_layer_2 : decode cX7_layer 2 = .ok (.invokevirtual 145, 3) := by decide +kernel
theorem dX7_layer_5 : decode cX7_layer 5 = .ok (.ifCond .eq 20, 3) := by decide +kernel
theorem dX7_layer_8 : decode cX7_layer 8 = .ok (.iload_n 2, 1) := by decide +kernel
theorem dX7_layer_9 : decode cX7_layer 9 = .ok (.ifCond .lt 16, 3) := by decide +kernel
theorem dX7_layer_12 : decode cX7_layer 12 = .ok (.aload_n 0, 1) := by decide +kernel
theorem dX7_layer_13 : decode cX7_layer 13 = .ok (.aload_n 0, 1) := by decide +kernel
theorem dX7_layer_14 : decode cX7_layer 14 = .ok (.iload_n 1, 1) := by decide +kernel
theorem dX7_layer_15 : decode cX7_layer 15 = .ok (.invokevirtual 170, 3) := by decide +kernel
theorem dX7_layer_18 : decode cX7_layer 18 = .ok (.iload_n 2, 1) := by decide +kernel
theorem dX7_layer_19 : decode cX7_layer 19 = .ok (.invokevirtual 173, 3) := by decide +kernel
theorem dX7_layer_22 : decode cX7_layer 22 = .ok (.goto 4, 3) := by decide +kernel
theorem dX7_layer_25 : decode cX7_layer 25 = .ok (.iconst (-1), 1) := by decide +kernel
theorem dX7_layer_26 : decode cX7_layer 26 = .ok (.ireturn, 1) := by decide +kernel
theorem dX7_deep_0 : decode cX7_deep 0 = .ok (.aload_n 0, 1) := by decide +kernel
theorem dX7_deep_1 : decode cX7_deep 1 = .ok (.iload_n 1, 1) := by decide +kernel
theorem dX7_deep_2 : decode cX7_deep 2 = .ok (.invokevirtual 145, 3) := by decide +kernel
theorem dX7_deep_5 : decode cX7_deep 5 = .ok (.ifCond .eq 10, 3) := by decide +kernel
theorem dX7_deep_8 : decode cX7_deep 8 = .ok (.iload_n 2, 1) := by decide +kernel
theorem dX7_deep_9 : decode cX7_deep 9 = .ok (.invokestatic 176, 3) := by decide +kernel
theorem dX7_deep_12 : decode cX7_deep 12 = .ok (.ifCond .ne 5, 3) := by decide +kernel
theorem dX7_deep_15 : decode cX7_deep 15 = .ok (.iconst (-1), 1) := by decide +kernel
theorem dX7_deep_16 : decode cX7_deep 16 = .ok (.ireturn, 1) := by decide +kernel
theorem dX7_deep_17 : decode cX7_deep 17 = .ok (.aload_n 0, 1) := by decide +kernel
theorem dX7_deep_18 : decode cX7_deep 18 = .ok (.iload_n 1, 1) := by decide +kernel
theorem dX7_deep_19 : decode cX7_deep 19 = .ok (.invokevirtual 170, 3) := by decide +kernel
theorem dX7_deep_22 : decode cX7_deep 22 = .ok (.istore_n 3, 1) := by decide +kernel
theorem dX7_deep_23 : decode cX7_deep 23 = .ok (.iconst 0, 1) := by decide +kernel
theorem dX7_deep_24 : decode cX7_deep 24 = .ok (.istore 4, 2) := by decide +kernel
theorem dX7_deep_26 : decode cX7_deep 26 = .ok (.iload 4, 2) := by decide +kernel
theorem dX7_deep_28 : decode cX7_deep 28 = .ok (.iload_n 3, 1) := by decide +kernel
theorem dX7_deep_29 : decode cX7_deep 29 = .ok (.invokestatic 179, 3) := by decide +kernel
theorem dX7_deep_32 : decode cX7_deep 32 = .ok (.if_icmp .ge 30, 3) := by decide +kernel
theorem dX7_deep_35 : decode cX7_deep 35 = .ok (.aload_n 0, 1) := by decide +kernel
theorem dX7_deep_36 : decode cX7_deep 36 = .ok (.getfield 37, 3) := by decide +kernel
theorem dX7_deep_39 : decode cX7_deep 39 = .ok (.aload_n 0, 1) := by decide +kernel
theorem dX7_deep_40 : decode cX7_deep 40 = .ok (.iload_n 3, 1) := by decide +kernel
theorem dX7_deep_41 : decode cX7_deep 41 = .ok (.iload 4, 2) := by decide +kernel
theorem dX7_deep_43 : decode cX7_deep 43 = .ok (.invokevirtual 173, 3) := by decide +kernel
theorem dX7_deep_46 : decode cX7_deep 46 = .ok (.iaload, 1) := by decide +kernel
theorem dX7_deep_47 : decode cX7_deep 47 = .ok (.iload_n 2, 1) := by decide +kernel
theorem dX7_deep_48 : decode cX7_deep 48 = .ok (.if_icmp .ne 8, 3) := by decide +kernel
theorem dX7_deep_51 : decode cX7_deep 51 = .ok (.iload 4, 2) := by decide +kernel
theorem dX7_deep_53 : decode cX7_deep 53 = .ok (.iconst 1, 1) := by decide +kernel
theorem dX7_deep_54 : decode cX7_deep 54 = .ok (.iadd, 1) := by decide +kernel
theorem dX7_deep_55 : decode cX7_deep 55 = .ok (.ireturn, 1) := by decide +kernel
theorem dX7_deep_56 : decode cX7_deep 56 = .ok (.iinc 4 1, 3) := by decide +kernel
theorem dX7_deep_59 : decode cX7_deep 59 = .ok (.goto (-33), 3) := by decide +kernel
theorem dX7_deep_62 : decode cX7_deep 62 = .ok (.bipush (-9), 2) := by decide +kernel
theorem dX7_deep_64 : decode cX7_deep 64 = .ok (.ireturn, 1) := by decide +kernel
theorem dX7_wordsOf_0 : decode cX7_wordsOf 0 = .ok (.iconst 0, 1) := by decide +kernel
theorem dX7_wordsOf_1 : decode cX7_wordsOf 1 = .ok (.istore_n 3, 1) := by decide +kernel
theorem dX7_wordsOf_2 : decode cX7_wordsOf 2 = .ok (.iconst 0, 1) := by decide +kernel
theorem dX7_wordsOf_3 : decode cX7_wordsOf 3 = .ok (.istore 4, 2) := by decide +kernel
theorem dX7_wordsOf_5 : decode cX7_wordsOf 5 = .ok (.iload 4, 2) := by decide +kernel
theorem dX7_wordsOf_7 : decode cX7_wordsOf 7 = .ok (.iload_n 2, 1) := by decide +kernel
theorem dX7_wordsOf_8 : decode cX7_wordsOf 8 = .ok (.if_icmp .ge 35, 3) := by decide +kernel
theorem dX7_wordsOf_11 : decode cX7_wordsOf 11 = .ok (.iload 4, 2) := by decide +kernel
theorem dX7_wordsOf_13 : decode cX7_wordsOf 13 = .ok (.iload_n 1, 1) := by decide +kernel
theorem dX7_wordsOf_14 : decode cX7_wordsOf 14 = .ok (.invokestatic 179, 3) := by decide +kernel
theorem dX7_wordsOf_17 : decode cX7_wordsOf 17 = .ok (.if_icmp .ge 26, 3) := by decide +kernel
theorem dX7_wordsOf_20 : decode cX7_wordsOf 20 = .ok (.iload_n 3, 1) := by decide +kernel
theorem dX7_wordsOf_21 : decode cX7_wordsOf 21 = .ok (.iconst 1, 1) := by decide +kernel
theorem dX7_wordsOf_22 : decode cX7_wordsOf 22 = .ok (.aload_n 0, 1) := by decide +kernel
theorem dX7_wordsOf_23 : decode cX7_wordsOf 23 = .ok (.getfield 37, 3) := by decide +kernel
theorem dX7_wordsOf_26 : decode cX7_wordsOf 26 = .ok (.aload_n 0, 1) := by decide +kernel
theorem dX7_wordsOf_27 : decode cX7_wordsOf 27 = .ok (.iload_n 1, 1) := by decide +kernel
theorem dX7_wordsOf_28 : decode cX7_wordsOf 28 = .ok (.iload 4, 2) := by decide +kernel
theorem dX7_wordsOf_30 : decode cX7_wordsOf 30 = .ok (.invokevirtual 173, 3) := by decide +kernel
theorem dX7_wordsOf_33 : decode cX7_wordsOf 33 = .ok (.iaload, 1) := by decide +kernel
theorem dX7_wordsOf_34 : decode cX7_wordsOf 34 = .ok (.ishl, 1) := by decide +kernel
theorem dX7_wordsOf_35 : decode cX7_wordsOf 35 = .ok (.ior, 1) := by decide +kernel
theorem dX7_wordsOf_36 : decode cX7_wordsOf 36 = .ok (.istore_n 3, 1) := by decide +kernel
theorem dX7_wordsOf_37 : decode cX7_wordsOf 37 = .ok (.iinc 4 1, 3) := by decide +kernel
theorem dX7_wordsOf_40 : decode cX7_wordsOf 40 = .ok (.goto (-35), 3) := by decide +kernel
theorem dX7_wordsOf_43 : decode cX7_wordsOf 43 = .ok (.iload_n 3, 1) := by decide +kernel
theorem dX7_wordsOf_44 : decode cX7_wordsOf 44 = .ok (.ireturn, 1) := by decide +kernel
theorem dX7_cuts_0 : decode cX7_cuts 0 = .ok (.aload_n 0, 1) := by decide +kernel
theorem dX7_cuts_1 : decode cX7_cuts 1 = .ok (.iconst 0, 1) := by decide +kernel
theorem dX7_cuts_2 : decode cX7_cuts 2 = .ok (.putfield 73, 3) := by decide +kernel
theorem dX7_cuts_5 : decode cX7_cuts 5 = .ok (.iload_n 1, 1) := by decide +kernel
theorem dX7_cuts_6 : decode cX7_cuts 6 = .ok (.invokestatic 95, 3) := by decide +kernel
theorem dX7_cuts_9 : decode cX7_cuts 9 = .ok (.ifCond .ne 5, 3) := by decide +kernel
theorem dX7_cuts_12 : decode cX7_cuts 12 = .ok (.iconst (-1), 1) := by decide +kernel
theorem dX7_cuts_13 : decode cX7_cuts 13 = .ok (.ireturn, 1) := by decide +kernel
theorem dX7_cuts_14 : decode cX7_cuts 14 = .ok (.iload_n 2, 1) := by decide +kernel
theorem dX7_cuts_15 : decode cX7_cuts 15 = .ok (.invokestatic 99, 3) := by decide +kernel
theorem dX7_cuts_18 : decode cX7_cuts 18 = .ok (.ifCond .eq 24, 3) := by decide +kernel
theorem dX7_cuts_21 : decode cX7_cuts 21 = .ok (.iload 4, 2) := by decide +kernel
theorem dX7_cuts_23 : decode cX7_cuts 23 = .ok (.iconst 0, 1) := by decide +kernel
theorem dX7_cuts_24 : decode cX7_cuts 24 = .ok (.bipush 20, 2) := by decide +kernel
theorem dX7_cuts_26 : decode cX7_cuts 26 = .ok (.invokestatic 79, 3) := by decide +kernel
theorem dX7_cuts_29 : decode cX7_cuts 29 = .ok (.ifCond .eq 13, 3) := by decide +kernel
theorem dX7_cuts_32 : decode cX7_cuts 32 = .ok (.iload 5, 2) := by decide +kernel
theorem dX7_cuts_34 : decode cX7_cuts 34 = .ok (.iconst 0, 1) := by decide +kernel
theorem dX7_cuts_35 : decode cX7_cuts 35 = .ok (.iconst 1, 1) := by decide +kernel
theorem dX7_cuts_36 : decode cX7_cuts 36 = .ok (.invokestatic 79, 3) := by decide +kernel
theorem dX7_cuts_39 : decode cX7_cuts 39 = .ok (.ifCond .ne 6, 3) := by decide +kernel
theorem dX7_cuts_42 : decode cX7_cuts 42 = .ok (.bipush (-2), 2) := by decide +kernel
theorem dX7_cuts_44 : decode cX7_cuts 44 = .ok (.ireturn, 1) := by decide +kernel
theorem dX7_cuts_45 : decode cX7_cuts 45 = .ok (.aload_n 0, 1) := by decide +kernel
theorem dX7_cuts_46 : decode cX7_cuts 46 = .ok (.iload_n 1, 1) := by decide +kernel
theorem dX7_cuts_47 : decode cX7_cuts 47 = .ok (.iload_n 2, 1) := by decide +kernel
theorem dX7_cuts_48 : decode cX7_cuts 48 = .ok (.iload_n 3, 1) := by decide +kernel
theorem dX7_cuts_49 : decode cX7_cuts 49 = .ok (.iconst 2, 1) := by decide +kernel
theorem dX7_cuts_50 : decode cX7_cuts 50 = .ok (.iload 4, 2) := by decide +kernel
theorem dX7_cuts_52 : decode cX7_cuts 52 = .ok (.imul, 1) := by decide +kernel
theorem dX7_cuts_53 : decode cX7_cuts 53 = .ok (.invokevirtual 102, 3) := by decide +kernel
theorem dX7_cuts_56 : decode cX7_cuts 56 = .ok (.istore 6, 2) := by decide +kernel
theorem dX7_cuts_58 : decode cX7_cuts 58 = .ok (.iload 6, 2) := by decide +kernel
theorem dX7_cuts_60 : decode cX7_cuts 60 = .ok (.ifCond .eq 10, 3) := by decide +kernel
theorem dX7_cuts_63 : decode cX7_cuts 63 = .ok (.aload_n 0, 1) := by decide +kernel
theorem dX7_cuts_64 : decode cX7_cuts 64 = .ok (.iload 6, 2) := by decide +kernel
theorem dX7_cuts_66 : decode cX7_cuts 66 = .ok (.invokevirtual 106, 3) := by decide +kernel
theorem dX7_cuts_69 : decode cX7_cuts 69 = .ok (.ireturn, 1) := by decide +kernel
theorem dX7_cuts_70 : decode cX7_cuts 70 = .ok (.aload_n 0, 1) := by decide +kernel
theorem dX7_cuts_71 : decode cX7_cuts 71 = .ok (.getfield 89, 3) := by decide +kernel
theorem dX7_cuts_74 : decode cX7_cuts 74 = .ok (.ifCond .ne 6, 3) := by decide +kernel
theorem dX7_cuts_77 : decode cX7_cuts 77 = .ok (.bipush (-3), 2) := by decide +kernel
theorem dX7_cuts_79 : decode cX7_cuts 79 = .ok (.ireturn, 1) := by decide +kernel
theorem dX7_cuts_80 : decode cX7_cuts 80 = .ok (.bipush 60, 2) := by decide +kernel
theorem dX7_cuts_82 : decode cX7_cuts 82 = .ok (.iload_n 1, 1) := by decide +kernel
theorem dX7_cuts_83 : decode cX7_cuts 83 = .ok (.imul, 1) := by decide +kernel
theorem dX7_cuts_84 : decode cX7_cuts 84 = .ok (.iload_n 3, 1) := by decide +kernel
theorem dX7_cuts_85 : decode cX7_cuts 85 = .ok (.iadd, 1) := by decide +kernel
theorem dX7_cuts_86 : decode cX7_cuts 86 = .ok (.istore 7, 2) := by decide +kernel
theorem dX7_cuts_88 : decode cX7_cuts 88 = .ok (.iconst 0, 1) := by decide +kernel
theorem dX7_cuts_89 : decode cX7_cuts 89 = .ok (.istore 8, 2) := by decide +kernel
theorem dX7_cuts_91 : decode cX7_cuts 91 = .ok (.iload 8, 2) := by decide +kernel
theorem dX7_cuts_93 : decode cX7_cuts 93 = .ok (.iload 4, 2) := by decide +kernel
theorem dX7_cuts_95 : decode cX7_cuts 95 = .ok (.if_icmp .ge 56, 3) := by decide +kernel
theorem dX7_cuts_98 : decode cX7_cuts 98 = .ok (.aload_n 0, 1) := by decide +kernel
theorem dX7_cuts_99 : decode cX7_cuts 99 = .ok (.aload_n 0, 1) := by decide +kernel
theorem dX7_cuts_100 : decode cX7_cuts 100 = .ok (.getfield 16, 3) := by decide +kernel
theorem dX7_cuts_103 : decode cX7_cuts 103 = .ok (.iload 7, 2) := by decide +kernel
theorem dX7_cuts_105 : decode cX7_cuts 105 = .ok (.iconst 2, 1) := by decide +kernel
theorem dX7_cuts_106 : decode cX7_cuts 106 = .ok (.iload 8, 2) := by decide +kernel
theorem dX7_cuts_108 : decode cX7_cuts 108 = .ok (.imul, 1) := by decide +kernel
theorem dX7_cuts_109 : decode cX7_cuts 109 = .ok (.iadd, 1) := by decide +kernel
theorem dX7_cuts_110 : decode cX7_cuts 110 = .ok (.iaload, 1) := by decide +kernel
theorem dX7_cuts_111 : decode cX7_cuts 111 = .ok (.invokevirtual 145, 3) := by decide +kernel
theorem dX7_cuts_114 : decode cX7_cuts 114 = .ok (.ifCond .ne 5, 3) := by decide +kernel
theorem dX7_cuts_117 : decode cX7_cuts 117 = .ok (.iconst (-1), 1) := by decide +kernel
theorem dX7_cuts_118 : decode cX7_cuts 118 = .ok (.ireturn, 1) := by decide +kernel
theorem dX7_cuts_119 : decode cX7_cuts 119 = .ok (.aload_n 0, 1) := by decide +kernel
theorem dX7_cuts_120 : decode cX7_cuts 120 = .ok (.getfield 16, 3) := by decide +kernel
theorem dX7_cuts_123 : decode cX7_cuts 123 = .ok (.iload 7, 2) := by decide +kernel
theorem dX7_cuts_125 : decode cX7_cuts 125 = .ok (.iconst 2, 1) := by decide +kernel
theorem dX7_cuts_126 : decode cX7_cuts 126 = .ok (.iload 8, 2) := by decide +kernel
theorem dX7_cuts_128 : decode cX7_cuts 128 = .ok (.imul, 1) := by decide +kernel
theorem dX7_cuts_129 : decode cX7_cuts 129 = .ok (.iadd, 1) := by decide +kernel
theorem dX7_cuts_130 : decode cX7_cuts 130 = .ok (.iconst 1, 1) := by decide +kernel
theorem dX7_cuts_131 : decode cX7_cuts 131 = .ok (.iadd, 1) := by decide +kernel
theorem dX7_cuts_132 : decode cX7_cuts 132 = .ok (.iaload, 1) := by decide +kernel
theorem dX7_cuts_133 : decode cX7_cuts 133 = .ok (.iconst 0, 1) := by decide +kernel
theorem dX7_cuts_134 : decode cX7_cuts 134 = .ok (.bipush 8, 2) := by decide +kernel
theorem dX7_cuts_136 : decode cX7_cuts 136 = .ok (.invokestatic 79, 3) := by decide +kernel
theorem dX7_cuts_139 : decode cX7_cuts 139 = .ok (.ifCond .ne 6, 3) := by decide +kernel
theorem dX7_cuts_142 : decode cX7_cuts 142 = .ok (.bipush (-2), 2) := by decide +kernel
theorem dX7_cuts_144 : decode cX7_cuts 144 = .ok (.ireturn, 1) := by decide +kernel
theorem dX7_cuts_145 : decode cX7_cuts 145 = .ok (.iinc 8 1, 3) := by decide +kernel
theorem dX7_cuts_148 : decode cX7_cuts 148 = .ok (.goto (-57), 3) := by decide +kernel
theorem dX7_cuts_151 : decode cX7_cuts 151 = .ok (.iconst 0, 1) := by decide +kernel
theorem dX7_cuts_152 : decode cX7_cuts 152 = .ok (.istore 8, 2) := by decide +kernel
theorem dX7_cuts_154 : decode cX7_cuts 154 = .ok (.bipush (-9), 2) := by decide +kernel
theorem dX7_cuts_156 : decode cX7_cuts 156 = .ok (.istore 9, 2) := by decide +kernel
theorem dX7_cuts_158 : decode cX7_cuts 158 = .ok (.iconst 0, 1) := by decide +kernel
theorem dX7_cuts_159 : decode cX7_cuts 159 = .ok (.istore 10, 2) := by decide +kernel
theorem dX7_cuts_161 : decode cX7_cuts 161 = .ok (.iload 10, 2) := by decide +kernel
theorem dX7_cuts_163 : decode cX7_cuts 163 = .ok (.iload 4, 2) := by decide +kernel
theorem dX7_cuts_165 : decode cX7_cuts 165 = .ok (.if_icmp .ge 75, 3) := by decide +kernel
theorem dX7_cuts_168 : decode cX7_cuts 168 = .ok (.iload 8, 2) := by decide +kernel
theorem dX7_cuts_170 : decode cX7_cuts 170 = .ok (.aload_n 0, 1) := by decide +kernel
theorem dX7_cuts_171 : decode cX7_cuts 171 = .ok (.aload_n 0, 1) := by decide +kernel
theorem dX7_cuts_172 : decode cX7_cuts 172 = .ok (.aload_n 0, 1) := by decide +kernel
theorem dX7_cuts_173 : decode cX7_cuts 173 = .ok (.getfield 16, 3) := by decide +kernel
theorem dX7_cuts_176 : decode cX7_cuts 176 = .ok (.iload 7, 2) := by decide +kernel
theorem dX7_cuts_178 : decode cX7_cuts 178 = .ok (.iconst 2, 1) := by decide +kernel
theorem dX7_cuts_179 : decode cX7_cuts 179 = .ok (.iload 10, 2) := by decide +kernel
theorem dX7_cuts_181 : decode cX7_cuts 181 = .ok (.imul, 1) := by decide +kernel
theorem dX7_cuts_182 : decode cX7_cuts 182 = .ok (.iadd, 1) := by decide +kernel
theorem dX7_cuts_183 : decode cX7_cuts 183 = .ok (.iaload, 1) := by decide +kernel
theorem dX7_cuts_184 : decode cX7_cuts 184 = .ok (.invokevirtual 170, 3) := by decide +kernel
theorem dX7_cuts_187 : decode cX7_cuts 187 = .ok (.aload_n 0, 1) := by decide +kernel
theorem dX7_cuts_188 : decode cX7_cuts 188 = .ok (.getfield 16, 3) := by decide +kernel
theorem dX7_cuts_191 : decode cX7_cuts 191 = .ok (.iload 7, 2) := by decide +kernel
theorem dX7_cuts_193 : decode cX7_cuts 193 = .ok (.iconst 2, 1) := by decide +kernel
theorem dX7_cuts_194 : decode cX7_cuts 194 = .ok (.iload 10, 2) := by decide +kernel
theorem dX7_cuts_196 : decode cX7_cuts 196 = .ok (.imul, 1) := by decide +kernel
theorem dX7_cuts_197 : decode cX7_cuts 197 = .ok (.iadd, 1) := by decide +kernel
theorem dX7_cuts_198 : decode cX7_cuts 198 = .ok (.iconst 1, 1) := by decide +kernel
theorem dX7_cuts_199 : decode cX7_cuts 199 = .ok (.iadd, 1) := by decide +kernel
theorem dX7_cuts_200 : decode cX7_cuts 200 = .ok (.iaload, 1) := by decide +kernel
theorem dX7_cuts_201 : decode cX7_cuts 201 = .ok (.invokevirtual 182, 3) := by decide +kernel
theorem dX7_cuts_204 : decode cX7_cuts 204 = .ok (.ior, 1) := by decide +kernel
theorem dX7_cuts_205 : decode cX7_cuts 205 = .ok (.istore 11, 2) := by decide +kernel
theorem dX7_cuts_207 : decode cX7_cuts 207 = .ok (.iload 9, 2) := by decide +kernel
theorem dX7_cuts_209 : decode cX7_cuts 209 = .ok (.bipush (-9), 2) := by decide +kernel
theorem dX7_cuts_211 : decode cX7_cuts 211 = .ok (.if_icmp .ne 15, 3) := by decide +kernel
theorem dX7_cuts_214 : decode cX7_cuts 214 = .ok (.iload 11, 2) := by decide +kernel
theorem dX7_cuts_216 : decode cX7_cuts 216 = .ok (.iload 8, 2) := by decide +kernel
theorem dX7_cuts_218 : decode cX7_cuts 218 = .ok (.if_icmp .ne 8, 3) := by decide +kernel
theorem dX7_cuts_221 : decode cX7_cuts 221 = .ok (.iload 10, 2) := by decide +kernel
theorem dX7_cuts_223 : decode cX7_cuts 223 = .ok (.goto 5, 3) := by decide +kernel
theorem dX7_cuts_226 : decode cX7_cuts 226 = .ok (.iload 9, 2) := by decide +kernel
theorem dX7_cuts_228 : decode cX7_cuts 228 = .ok (.istore 9, 2) := by decide +kernel
theorem dX7_cuts_230 : decode cX7_cuts 230 = .ok (.iload 11, 2) := by decide +kernel
theorem dX7_cuts_232 : decode cX7_cuts 232 = .ok (.istore 8, 2) := by decide +kernel
theorem dX7_cuts_234 : decode cX7_cuts 234 = .ok (.iinc 10 1, 3) := by decide +kernel
theorem dX7_cuts_237 : decode cX7_cuts 237 = .ok (.goto (-76), 3) := by decide +kernel
theorem dX7_cuts_240 : decode cX7_cuts 240 = .ok (.iload 5, 2) := by decide +kernel
theorem dX7_cuts_242 : decode cX7_cuts 242 = .ok (.ifCond .ne 8, 3) := by decide +kernel
theorem dX7_cuts_245 : decode cX7_cuts 245 = .ok (.iload 8, 2) := by decide +kernel
theorem dX7_cuts_247 : decode cX7_cuts 247 = .ok (.goto 5, 3) := by decide +kernel
theorem dX7_cuts_250 : decode cX7_cuts 250 = .ok (.iload 9, 2) := by decide +kernel
theorem dX7_cuts_252 : decode cX7_cuts 252 = .ok (.ireturn, 1) := by decide +kernel
theorem dX7_layRow_0 : decode cX7_layRow 0 = .ok (.iload_n 1, 1) := by decide +kernel
theorem dX7_layRow_1 : decode cX7_layRow 1 = .ok (.istore_n 3, 1) := by decide +kernel
theorem dX7_layRow_2 : decode cX7_layRow 2 = .ok (.aload_n 0, 1) := by decide +kernel
theorem dX7_layRow_3 : decode cX7_layRow 3 = .ok (.getfield 83, 3) := by decide +kernel
theorem dX7_layRow_6 : decode cX7_layRow 6 = .ok (.iconst 1, 1) := by decide +kernel
theorem dX7_layRow_7 : decode cX7_layRow 7 = .ok (.isub, 1) := by decide +kernel
theorem dX7_layRow_8 : decode cX7_layRow 8 = .ok (.istore 4, 2) := by decide +kernel
theorem dX7_layRow_10 : decode cX7_layRow 10 = .ok (.iload 4, 2) := by decide +kernel
theorem dX7_layRow_12 : decode cX7_layRow 12 = .ok (.ifCond .lt 23, 3) := by decide +kernel
theorem dX7_layRow_15 : decode cX7_layRow 15 = .ok (.aload_n 0, 1) := by decide +kernel
theorem dX7_layRow_16 : decode cX7_layRow 16 = .ok (.getfield 55, 3) := by decide +kernel
theorem dX7_layRow_19 : decode cX7_layRow 19 = .ok (.iload 4, 2) := by decide +kernel
theorem dX7_layRow_21 : decode cX7_layRow 21 = .ok (.iload_n 3, 1) := by decide +kernel
theorem dX7_layRow_22 : decode cX7_layRow 22 = .ok (.iload_n 2, 1) := by decide +kernel
theorem dX7_layRow_23 : decode cX7_layRow 23 = .ok (.irem, 1) := by decide +kernel
theorem dX7_layRow_24 : decode cX7_layRow 24 = .ok (.iastore, 1) := by decide +kernel
theorem dX7_layRow_25 : decode cX7_layRow 25 = .ok (.iload_n 3, 1) := by decide +kernel
theorem dX7_layRow_26 : decode cX7_layRow 26 = .ok (.iload_n 2, 1) := by decide +kernel
theorem dX7_layRow_27 : decode cX7_layRow 27 = .ok (.idiv, 1) := by decide +kernel
theorem dX7_layRow_28 : decode cX7_layRow 28 = .ok (.istore_n 3, 1) := by decide +kernel
theorem dX7_layRow_29 : decode cX7_layRow 29 = .ok (.iinc 4 (-1), 3) := by decide +kernel
theorem dX7_layRow_32 : decode cX7_layRow 32 = .ok (.goto (-22), 3) := by decide +kernel
theorem dX7_layRow_35 : decode cX7_layRow 35 = .ok (.return_, 1) := by decide +kernel
theorem dX7_rowsOf_0 : decode cX7_rowsOf 0 = .ok (.iconst 1, 1) := by decide +kernel
theorem dX7_rowsOf_1 : decode cX7_rowsOf 1 = .ok (.istore_n 2, 1) := by decide +kernel
theorem dX7_rowsOf_2 : decode cX7_rowsOf 2 = .ok (.iconst 0, 1) := by decide +kernel
theorem dX7_rowsOf_3 : decode cX7_rowsOf 3 = .ok (.istore_n 3, 1) := by decide +kernel
theorem dX7_rowsOf_4 : decode cX7_rowsOf 4 = .ok (.iload_n 3, 1) := by decide +kernel
theorem dX7_rowsOf_5 : decode cX7_rowsOf 5 = .ok (.aload_n 0, 1) := by decide +kernel
theorem dX7_rowsOf_6 : decode cX7_rowsOf 6 = .ok (.getfield 83, 3) := by decide +kernel
theorem dX7_rowsOf_9 : decode cX7_rowsOf 9 = .ok (.if_icmp .ge 13, 3) := by decide +kernel
theorem dX7_rowsOf_12 : decode cX7_rowsOf 12 = .ok (.iload_n 2, 1) := by decide +kernel
theorem dX7_rowsOf_13 : decode cX7_rowsOf 13 = .ok (.iload_n 1, 1) := by decide +kernel
theorem dX7_rowsOf_14 : decode cX7_rowsOf 14 = .ok (.imul, 1) := by decide +kernel
theorem dX7_rowsOf_15 : decode cX7_rowsOf 15 = .ok (.istore_n 2, 1) := by decide +kernel
theorem dX7_rowsOf_16 : decode cX7_rowsOf 16 = .ok (.iinc 3 1, 3) := by decide +kernel
theorem dX7_rowsOf_19 : decode cX7_rowsOf 19 = .ok (.goto (-15), 3) := by decide +kernel
theorem dX7_rowsOf_22 : decode cX7_rowsOf 22 = .ok (.iload_n 2, 1) := by decide +kernel
theorem dX7_rowsOf_23 : decode cX7_rowsOf 23 = .ok (.ireturn, 1) := by decide +kernel
theorem dX7_keepRow_0 : decode cX7_keepRow 0 = .ok (.iconst 0, 1) := by decide +kernel
theorem dX7_keepRow_1 : decode cX7_keepRow 1 = .ok (.istore_n 1, 1) := by decide +kernel
theorem dX7_keepRow_2 : decode cX7_keepRow 2 = .ok (.iload_n 1, 1) := by decide +kernel
theorem dX7_keepRow_3 : decode cX7_keepRow 3 = .ok (.aload_n 0, 1) := by decide +kernel
theorem dX7_keepRow_4 : decode cX7_keepRow 4 = .ok (.getfield 83, 3) := by decide +kernel
theorem dX7_keepRow_7 : decode cX7_keepRow 7 = .ok (.if_icmp .ge 21, 3) := by decide +kernel
theorem dX7_keepRow_10 : decode cX7_keepRow 10 = .ok (.aload_n 0, 1) := by decide +kernel
theorem dX7_keepRow_11 : decode cX7_keepRow 11 = .ok (.getfield 58, 3) := by decide +kernel
theorem dX7_keepRow_14 : decode cX7_keepRow 14 = .ok (.iload_n 1, 1) := by decide +kernel
theorem dX7_keepRow_15 : decode cX7_keepRow 15 = .ok (.aload_n 0, 1) := by decide +kernel
theorem dX7_keepRow_16 : decode cX7_keepRow 16 = .ok (.getfield 55, 3) := by decide +kernel
theorem dX7_keepRow_19 : decode cX7_keepRow 19 = .ok (.iload_n 1, 1) := by decide +kernel
theorem dX7_keepRow_20 : decode cX7_keepRow 20 = .ok (.iaload, 1) := by decide +kernel
theorem dX7_keepRow_21 : decode cX7_keepRow 21 = .ok (.iastore, 1) := by decide +kernel
theorem dX7_keepRow_22 : decode cX7_keepRow 22 = .ok (.iinc 1 1, 3) := by decide +kernel
theorem dX7_keepRow_25 : decode cX7_keepRow 25 = .ok (.goto (-23), 3) := by decide +kernel
theorem dX7_keepRow_28 : decode cX7_keepRow 28 = .ok (.return_, 1) := by decide +kernel
theorem dX7_sparedBy_0 : decode cX7_sparedBy 0 = .ok (.iconst 0, 1) := by decide +kernel
theorem dX7_sparedBy_1 : decode cX7_sparedBy 1 = .ok (.istore_n 3, 1) := by decide +kernel
theorem dX7_sparedBy_2 : decode cX7_sparedBy 2 = .ok (.iconst 0, 1) := by decide +kernel
theorem dX7_sparedBy_3 : decode cX7_sparedBy 3 = .ok (.istore 4, 2) := by decide +kernel
theorem dX7_sparedBy_5 : decode cX7_sparedBy 5 = .ok (.iconst 0, 1) := by decide +kernel
theorem dX7_sparedBy_6 : decode cX7_sparedBy 6 = .ok (.istore 5, 2) := by decide +kernel
theorem dX7_sparedBy_8 : decode cX7_sparedBy 8 = .ok (.iload 5, 2) := by decide +kernel
theorem dX7_sparedBy_10 : decode cX7_sparedBy 10 = .ok (.aload_n 0, 1) := by decide +kernel
theorem dX7_sparedBy_11 : decode cX7_sparedBy 11 = .ok (.getfield 83, 3) := by decide +kernel
theorem dX7_sparedBy_14 : decode cX7_sparedBy 14 = .ok (.if_icmp .ge 63, 3) := by decide +kernel
theorem dX7_sparedBy_17 : decode cX7_sparedBy 17 = .ok (.aload_n 0, 1) := by decide +kernel
theorem dX7_sparedBy_18 : decode cX7_sparedBy 18 = .ok (.iload 5, 2) := by decide +kernel
theorem dX7_sparedBy_20 : decode cX7_sparedBy 20 = .ok (.invokevirtual 170, 3) := by decide +kernel
theorem dX7_sparedBy_23 : decode cX7_sparedBy 23 = .ok (.istore 6, 2) := by decide +kernel
theorem dX7_sparedBy_25 : decode cX7_sparedBy 25 = .ok (.aload_n 0, 1) := by decide +kernel
theorem dX7_sparedBy_26 : decode cX7_sparedBy 26 = .ok (.getfield 55, 3) := by decide +kernel
theorem dX7_sparedBy_29 : decode cX7_sparedBy 29 = .ok (.iload 5, 2) := by decide +kernel
theorem dX7_sparedBy_31 : decode cX7_sparedBy 31 = .ok (.iaload, 1) := by decide +kernel
theorem dX7_sparedBy_32 : decode cX7_sparedBy 32 = .ok (.iload 6, 2) := by decide +kernel
theorem dX7_sparedBy_34 : decode cX7_sparedBy 34 = .ok (.invokestatic 179, 3) := by decide +kernel
theorem dX7_sparedBy_37 : decode cX7_sparedBy 37 = .ok (.if_icmp .le 6, 3) := by decide +kernel
theorem dX7_sparedBy_40 : decode cX7_sparedBy 40 = .ok (.bipush (-9), 2) := by decide +kernel
theorem dX7_sparedBy_42 : decode cX7_sparedBy 42 = .ok (.ireturn, 1) := by decide +kernel
theorem dX7_sparedBy_43 : decode cX7_sparedBy 43 = .ok (.iload_n 3, 1) := by decide +kernel
theorem dX7_sparedBy_44 : decode cX7_sparedBy 44 = .ok (.aload_n 0, 1) := by decide +kernel
theorem dX7_sparedBy_45 : decode cX7_sparedBy 45 = .ok (.getfield 55, 3) := by decide +kernel
theorem dX7_sparedBy_48 : decode cX7_sparedBy 48 = .ok (.iload 5, 2) := by decide +kernel
theorem dX7_sparedBy_50 : decode cX7_sparedBy 50 = .ok (.iaload, 1) := by decide +kernel
theorem dX7_sparedBy_51 : decode cX7_sparedBy 51 = .ok (.iadd, 1) := by decide +kernel
theorem dX7_sparedBy_52 : decode cX7_sparedBy 52 = .ok (.istore_n 3, 1) := by decide +kernel
theorem dX7_sparedBy_53 : decode cX7_sparedBy 53 = .ok (.iload 4, 2) := by decide +kernel
theorem dX7_sparedBy_55 : decode cX7_sparedBy 55 = .ok (.aload_n 0, 1) := by decide +kernel
theorem dX7_sparedBy_56 : decode cX7_sparedBy 56 = .ok (.iload 6, 2) := by decide +kernel
theorem dX7_sparedBy_58 : decode cX7_sparedBy 58 = .ok (.aload_n 0, 1) := by decide +kernel
theorem dX7_sparedBy_59 : decode cX7_sparedBy 59 = .ok (.getfield 55, 3) := by decide +kernel
theorem dX7_sparedBy_62 : decode cX7_sparedBy 62 = .ok (.iload 5, 2) := by decide +kernel
theorem dX7_sparedBy_64 : decode cX7_sparedBy 64 = .ok (.iaload, 1) := by decide +kernel
theorem dX7_sparedBy_65 : decode cX7_sparedBy 65 = .ok (.invokevirtual 182, 3) := by decide +kernel
theorem dX7_sparedBy_68 : decode cX7_sparedBy 68 = .ok (.ior, 1) := by decide +kernel
theorem dX7_sparedBy_69 : decode cX7_sparedBy 69 = .ok (.istore 4, 2) := by decide +kernel
theorem dX7_sparedBy_71 : decode cX7_sparedBy 71 = .ok (.iinc 5 1, 3) := by decide +kernel
theorem dX7_sparedBy_74 : decode cX7_sparedBy 74 = .ok (.goto (-66), 3) := by decide +kernel
theorem dX7_sparedBy_77 : decode cX7_sparedBy 77 = .ok (.iload_n 1, 1) := by decide +kernel
theorem dX7_sparedBy_78 : decode cX7_sparedBy 78 = .ok (.iload 4, 2) := by decide +kernel
theorem dX7_sparedBy_80 : decode cX7_sparedBy 80 = .ok (.iconst (-1), 1) := by decide +kernel
theorem dX7_sparedBy_81 : decode cX7_sparedBy 81 = .ok (.ixor, 1) := by decide +kernel
theorem dX7_sparedBy_82 : decode cX7_sparedBy 82 = .ok (.iand, 1) := by decide +kernel
theorem dX7_sparedBy_83 : decode cX7_sparedBy 83 = .ok (.ifCond .ne 14, 3) := by decide +kernel
theorem dX7_sparedBy_86 : decode cX7_sparedBy 86 = .ok (.iload_n 2, 1) := by decide +kernel
theorem dX7_sparedBy_87 : decode cX7_sparedBy 87 = .ok (.iload 4, 2) := by decide +kernel
theorem dX7_sparedBy_89 : decode cX7_sparedBy 89 = .ok (.iand, 1) := by decide +kernel
theorem dX7_sparedBy_90 : decode cX7_sparedBy 90 = .ok (.ifCond .ne 7, 3) := by decide +kernel
theorem dX7_sparedBy_93 : decode cX7_sparedBy 93 = .ok (.iload_n 3, 1) := by decide +kernel
theorem dX7_sparedBy_94 : decode cX7_sparedBy 94 = .ok (.goto 5, 3) := by decide +kernel
theorem dX7_sparedBy_97 : decode cX7_sparedBy 97 = .ok (.bipush (-9), 2) := by decide +kernel
theorem dX7_sparedBy_99 : decode cX7_sparedBy 99 = .ok (.ireturn, 1) := by decide +kernel
theorem dX7_findSpare_0 : decode cX7_findSpare 0 = .ok (.bipush (-9), 2) := by decide +kernel
theorem dX7_findSpare_2 : decode cX7_findSpare 2 = .ok (.istore_n 3, 1) := by decide +kernel
theorem dX7_findSpare_3 : decode cX7_findSpare 3 = .ok (.iconst 0, 1) := by decide +kernel
theorem dX7_findSpare_4 : decode cX7_findSpare 4 = .ok (.istore 4, 2) := by decide +kernel
theorem dX7_findSpare_6 : decode cX7_findSpare 6 = .ok (.iload 4, 2) := by decide +kernel
theorem dX7_findSpare_8 : decode cX7_findSpare 8 = .ok (.aload_n 0, 1) := by decide +kernel
theorem dX7_findSpare_9 : decode cX7_findSpare 9 = .ok (.bipush 9, 2) := by decide +kernel
theorem dX7_findSpare_11 : decode cX7_findSpare 11 = .ok (.invokevirtual 185, 3) := by decide +kernel
theorem dX7_findSpare_14 : decode cX7_findSpare 14 = .ok (.if_icmp .ge 51, 3) := by decide +kernel
theorem dX7_findSpare_17 : decode cX7_findSpare 17 = .ok (.aload_n 0, 1) := by decide +kernel
theorem dX7_findSpare_18 : decode cX7_findSpare 18 = .ok (.iload 4, 2) := by decide +kernel
theorem dX7_findSpare_20 : decode cX7_findSpare 20 = .ok (.bipush 9, 2) := by decide +kernel
theorem dX7_findSpare_22 : decode cX7_findSpare 22 = .ok (.invokevirtual 188, 3) := by decide +kernel
theorem dX7_findSpare_25 : decode cX7_findSpare 25 = .ok (.aload_n 0, 1) := by decide +kernel
theorem dX7_findSpare_26 : decode cX7_findSpare 26 = .ok (.iload_n 1, 1) := by decide +kernel
theorem dX7_findSpare_27 : decode cX7_findSpare 27 = .ok (.iload_n 2, 1) := by decide +kernel
theorem dX7_findSpare_28 : decode cX7_findSpare 28 = .ok (.invokevirtual 192, 3) := by decide +kernel
theorem dX7_findSpare_31 : decode cX7_findSpare 31 = .ok (.istore 5, 2) := by decide +kernel
theorem dX7_findSpare_33 : decode cX7_findSpare 33 = .ok (.iload 5, 2) := by decide +kernel
theorem dX7_findSpare_35 : decode cX7_findSpare 35 = .ok (.bipush (-9), 2) := by decide +kernel
theorem dX7_findSpare_37 : decode cX7_findSpare 37 = .ok (.if_icmp .eq 22, 3) := by decide +kernel
theorem dX7_findSpare_40 : decode cX7_findSpare 40 = .ok (.iload_n 3, 1) := by decide +kernel
theorem dX7_findSpare_41 : decode cX7_findSpare 41 = .ok (.bipush (-9), 2) := by decide +kernel
theorem dX7_findSpare_43 : decode cX7_findSpare 43 = .ok (.if_icmp .eq 9, 3) := by decide +kernel
theorem dX7_findSpare_46 : decode cX7_findSpare 46 = .ok (.iload 5, 2) := by decide +kernel
theorem dX7_findSpare_48 : decode cX7_findSpare 48 = .ok (.iload_n 3, 1) := by decide +kernel
theorem dX7_findSpare_49 : decode cX7_findSpare 49 = .ok (.if_icmp .ge 10, 3) := by decide +kernel
theorem dX7_findSpare_52 : decode cX7_findSpare 52 = .ok (.iload 5, 2) := by decide +kernel
theorem dX7_findSpare_54 : decode cX7_findSpare 54 = .ok (.istore_n 3, 1) := by decide +kernel
theorem dX7_findSpare_55 : decode cX7_findSpare 55 = .ok (.aload_n 0, 1) := by decide +kernel
theorem dX7_findSpare_56 : decode cX7_findSpare 56 = .ok (.invokevirtual 195, 3) := by decide +kernel
theorem dX7_findSpare_59 : decode cX7_findSpare 59 = .ok (.iinc 4 1, 3) := by decide +kernel
theorem dX7_findSpare_62 : decode cX7_findSpare 62 = .ok (.goto (-56), 3) := by decide +kernel
theorem dX7_findSpare_65 : decode cX7_findSpare 65 = .ok (.iload_n 3, 1) := by decide +kernel
theorem dX7_findSpare_66 : decode cX7_findSpare 66 = .ok (.ireturn, 1) := by decide +kernel
theorem dX7_spare_0 : decode cX7_spare 0 = .ok (.iload_n 3, 1) := by decide +kernel
theorem dX7_spare_1 : decode cX7_spare 1 = .ok (.iconst (-1), 1) := by decide +kernel
theorem dX7_spare_2 : decode cX7_spare 2 = .ok (.if_icmp .ge 5, 3) := by decide +kernel
theorem dX7_spare_5 : decode cX7_spare 5 = .ok (.iconst (-1), 1) := by decide +kernel
theorem dX7_spare_6 : decode cX7_spare 6 = .ok (.ireturn, 1) := by decide +kernel
theorem dX7_spare_7 : decode cX7_spare 7 = .ok (.iload_n 1, 1) := by decide +kernel
theorem dX7_spare_8 : decode cX7_spare 8 = .ok (.iconst 0, 1) := by decide +kernel
theorem dX7_spare_9 : decode cX7_spare 9 = .ok (.sipush 255, 3) := by decide +kernel
theorem dX7_spare_12 : decode cX7_spare 12 = .ok (.invokestatic 79, 3) := by decide +kernel
theorem dX7_spare_15 : decode cX7_spare 15 = .ok (.ifCond .eq 14, 3) := by decide +kernel
theorem dX7_spare_18 : decode cX7_spare 18 = .ok (.iload_n 2, 1) := by decide +kernel
theorem dX7_spare_19 : decode cX7_spare 19 = .ok (.iconst 0, 1) := by decide +kernel
theorem dX7_spare_20 : decode cX7_spare 20 = .ok (.sipush 255, 3) := by decide +kernel
theorem dX7_spare_23 : decode cX7_spare 23 = .ok (.invokestatic 79, 3) := by decide +kernel
theorem dX7_spare_26 : decode cX7_spare 26 = .ok (.ifCond .ne 6, 3) := by decide +kernel
theorem dX7_spare_29 : decode cX7_spare 29 = .ok (.bipush (-2), 2) := by decide +kernel
theorem dX7_spare_31 : decode cX7_spare 31 = .ok (.ireturn, 1) := by decide +kernel
theorem dX7_spare_32 : decode cX7_spare 32 = .ok (.aload_n 0, 1) := by decide +kernel
theorem dX7_spare_33 : decode cX7_spare 33 = .ok (.getfield 89, 3) := by decide +kernel
theorem dX7_spare_36 : decode cX7_spare 36 = .ok (.ifCond .ne 6, 3) := by decide +kernel
theorem dX7_spare_39 : decode cX7_spare 39 = .ok (.bipush (-3), 2) := by decide +kernel
theorem dX7_spare_41 : decode cX7_spare 41 = .ok (.ireturn, 1) := by decide +kernel
theorem dX7_spare_42 : decode cX7_spare 42 = .ok (.aload_n 0, 1) := by decide +kernel
theorem dX7_spare_43 : decode cX7_spare 43 = .ok (.iload_n 1, 1) := by decide +kernel
theorem dX7_spare_44 : decode cX7_spare 44 = .ok (.iload_n 2, 1) := by decide +kernel
theorem dX7_spare_45 : decode cX7_spare 45 = .ok (.invokevirtual 198, 3) := by decide +kernel
theorem dX7_spare_48 : decode cX7_spare 48 = .ok (.istore 4, 2) := by decide +kernel
theorem dX7_spare_50 : decode cX7_spare 50 = .ok (.iload_n 3, 1) := by decide +kernel
theorem dX7_spare_51 : decode cX7_spare 51 = .ok (.iconst (-1), 1) := by decide +kernel
theorem dX7_spare_52 : decode cX7_spare 52 = .ok (.if_icmp .ne 8, 3) := by decide +kernel
theorem dX7_spare_55 : decode cX7_spare 55 = .ok (.iload 4, 2) := by decide +kernel
theorem dX7_spare_57 : decode cX7_spare 57 = .ok (.goto 29, 3) := by decide +kernel
theorem dX7_spare_60 : decode cX7_spare 60 = .ok (.iload 4, 2) := by decide +kernel
theorem dX7_spare_62 : decode cX7_spare 62 = .ok (.bipush (-9), 2) := by decide +kernel
theorem dX7_spare_64 : decode cX7_spare 64 = .ok (.if_icmp .eq 20, 3) := by decide +kernel
theorem dX7_spare_67 : decode cX7_spare 67 = .ok (.aload_n 0, 1) := by decide +kernel
theorem dX7_spare_68 : decode cX7_spare 68 = .ok (.iload_n 3, 1) := by decide +kernel
theorem dX7_spare_69 : decode cX7_spare 69 = .ok (.invokevirtual 145, 3) := by decide +kernel
theorem dX7_spare_72 : decode cX7_spare 72 = .ok (.ifCond .eq 12, 3) := by decide +kernel
theorem dX7_spare_75 : decode cX7_spare 75 = .ok (.aload_n 0, 1) := by decide +kernel
theorem dX7_spare_76 : decode cX7_spare 76 = .ok (.getfield 58, 3) := by decide +kernel
theorem dX7_spare_79 : decode cX7_spare 79 = .ok (.iload_n 3, 1) := by decide +kernel
theorem dX7_spare_80 : decode cX7_spare 80 = .ok (.iaload, 1) := by decide +kernel
theorem dX7_spare_81 : decode cX7_spare 81 = .ok (.goto 5, 3) := by decide +kernel
theorem dX7_spare_84 : decode cX7_spare 84 = .ok (.bipush (-9), 2) := by decide +kernel
theorem dX7_spare_86 : decode cX7_spare 86 = .ok (.ireturn, 1) := by decide +kernel
theorem dX7_wordsHeard_0 : decode cX7_wordsHeard 0 = .ok (.iconst 0, 1) := by decide +kernel
theorem dX7_wordsHeard_1 : decode cX7_wordsHeard 1 = .ok (.istore_n 1, 1) := by decide +kernel
theorem dX7_wordsHeard_2 : decode cX7_wordsHeard 2 = .ok (.iconst 0, 1) := by decide +kernel
theorem dX7_wordsHeard_3 : decode cX7_wordsHeard 3 = .ok (.istore_n 2, 1) := by decide +kernel
theorem dX7_wordsHeard_4 : decode cX7_wordsHeard 4 = .ok (.iload_n 2, 1) := by decide +kernel
theorem dX7_wordsHeard_5 : decode cX7_wordsHeard 5 = .ok (.aload_n 0, 1) := by decide +kernel
theorem dX7_wordsHeard_6 : decode cX7_wordsHeard 6 = .ok (.getfield 83, 3) := by decide +kernel
theorem dX7_wordsHeard_9 : decode cX7_wordsHeard 9 = .ok (.if_icmp .ge 23, 3) := by decide +kernel
theorem dX7_wordsHeard_12 : decode cX7_wordsHeard 12 = .ok (.iload_n 1, 1) := by decide +kernel
theorem dX7_wordsHeard_13 : decode cX7_wordsHeard 13 = .ok (.aload_n 0, 1) := by decide +kernel
theorem dX7_wordsHeard_14 : decode cX7_wordsHeard 14 = .ok (.aload_n 0, 1) := by decide +kernel
theorem dX7_wordsHeard_15 : decode cX7_wordsHeard 15 = .ok (.iload_n 2, 1) := by decide +kernel
theorem dX7_wordsHeard_16 : decode cX7_wordsHeard 16 = .ok (.invokevirtual 170, 3) := by decide +kernel
theorem dX7_wordsHeard_19 : decode cX7_wordsHeard 19 = .ok (.bipush 8, 2) := by decide +kernel
theorem dX7_wordsHeard_21 : decode cX7_wordsHeard 21 = .ok (.invokevirtual 182, 3) := by decide +kernel
theorem dX7_wordsHeard_24 : decode cX7_wordsHeard 24 = .ok (.ior, 1) := by decide +kernel
theorem dX7_wordsHeard_25 : decode cX7_wordsHeard 25 = .ok (.istore_n 1, 1) := by decide +kernel
theorem dX7_wordsHeard_26 : decode cX7_wordsHeard 26 = .ok (.iinc 2 1, 3) := by decide +kernel
theorem dX7_wordsHeard_29 : decode cX7_wordsHeard 29 = .ok (.goto (-25), 3) := by decide +kernel
theorem dX7_wordsHeard_32 : decode cX7_wordsHeard 32 = .ok (.iload_n 1, 1) := by decide +kernel
theorem dX7_wordsHeard_33 : decode cX7_wordsHeard 33 = .ok (.invokestatic 179, 3) := by decide +kernel
theorem dX7_wordsHeard_36 : decode cX7_wordsHeard 36 = .ok (.ireturn, 1) := by decide +kernel
theorem dX7_findShelves_0 : decode cX7_findShelves 0 = .ok (.aload_n 0, 1) := by decide +kernel
theorem dX7_findShelves_1 : decode cX7_findShelves 1 = .ok (.getfield 125, 3) := by decide +kernel
theorem dX7_findShelves_4 : decode cX7_findShelves 4 = .ok (.istore_n 1, 1) := by decide +kernel
theorem dX7_findShelves_5 : decode cX7_findShelves 5 = .ok (.aload_n 0, 1) := by decide +kernel
theorem dX7_findShelves_6 : decode cX7_findShelves 6 = .ok (.iconst 0, 1) := by decide +kernel
theorem dX7_findShelves_7 : decode cX7_findShelves 7 = .ok (.putfield 125, 3) := by decide +kernel
theorem dX7_findShelves_10 : decode cX7_findShelves 10 = .ok (.iconst 0, 1) := by decide +kernel
theorem dX7_findShelves_11 : decode cX7_findShelves 11 = .ok (.istore_n 2, 1) := by decide +kernel
theorem dX7_findShelves_12 : decode cX7_findShelves 12 = .ok (.iload_n 2, 1) := by decide +kernel
theorem dX7_findShelves_13 : decode cX7_findShelves 13 = .ok (.aload_n 0, 1) := by decide +kernel
theorem dX7_findShelves_14 : decode cX7_findShelves 14 = .ok (.getfield 83, 3) := by decide +kernel
theorem dX7_findShelves_17 : decode cX7_findShelves 17 = .ok (.if_icmp .ge 21, 3) := by decide +kernel
theorem dX7_findShelves_20 : decode cX7_findShelves 20 = .ok (.aload_n 0, 1) := by decide +kernel
theorem dX7_findShelves_21 : decode cX7_findShelves 21 = .ok (.getfield 61, 3) := by decide +kernel
theorem dX7_findShelves_24 : decode cX7_findShelves 24 = .ok (.iload_n 2, 1) := by decide +kernel
theorem dX7_findShelves_25 : decode cX7_findShelves 25 = .ok (.aload_n 0, 1) := by decide +kernel
theorem dX7_findShelves_26 : decode cX7_findShelves 26 = .ok (.getfield 22, 3) := by decide +kernel
theorem dX7_findShelves_29 : decode cX7_findShelves 29 = .ok (.iload_n 2, 1) := by decide +kernel
theorem dX7_findShelves_30 : decode cX7_findShelves 30 = .ok (.iaload, 1) := by decide +kernel
theorem dX7_findShelves_31 : decode cX7_findShelves 31 = .ok (.iastore, 1) := by decide +kernel
theorem dX7_findShelves_32 : decode cX7_findShelves 32 = .ok (.iinc 2 1, 3) := by decide +kernel
theorem dX7_findShelves_35 : decode cX7_findShelves 35 = .ok (.goto (-23), 3) := by decide +kernel
theorem dX7_findShelves_38 : decode cX7_findShelves 38 = .ok (.bipush (-9), 2) := by decide +kernel
theorem dX7_findShelves_40 : decode cX7_findShelves 40 = .ok (.istore_n 2, 1) := by decide +kernel
theorem dX7_findShelves_41 : decode cX7_findShelves 41 = .ok (.iconst 0, 1) := by decide +kernel
theorem dX7_findShelves_42 : decode cX7_findShelves 42 = .ok (.istore_n 3, 1) := by decide +kernel
theorem dX7_findShelves_43 : decode cX7_findShelves 43 = .ok (.iload_n 3, 1) := by decide +kernel
theorem dX7_findShelves_44 : decode cX7_findShelves 44 = .ok (.aload_n 0, 1) := by decide +kernel
theorem dX7_findShelves_45 : decode cX7_findShelves 45 = .ok (.aload_n 0, 1) := by decide +kernel
theorem dX7_findShelves_46 : decode cX7_findShelves 46 = .ok (.getfield 86, 3) := by decide +kernel
theorem dX7_findShelves_49 : decode cX7_findShelves 49 = .ok (.invokevirtual 185, 3) := by decide +kernel
theorem dX7_findShelves_52 : decode cX7_findShelves 52 = .ok (.if_icmp .ge 69, 3) := by decide +kernel
theorem dX7_findShelves_55 : decode cX7_findShelves 55 = .ok (.aload_n 0, 1) := by decide +kernel
theorem dX7_findShelves_56 : decode cX7_findShelves 56 = .ok (.iload_n 3, 1) := by decide +kernel
theorem dX7_findShelves_57 : decode cX7_findShelves 57 = .ok (.aload_n 0, 1) := by decide +kernel
theorem dX7_findShelves_58 : decode cX7_findShelves 58 = .ok (.getfield 86, 3) := by decide +kernel
theorem dX7_findShelves_61 : decode cX7_findShelves 61 = .ok (.invokevirtual 188, 3) := by decide +kernel
theorem dX7_findShelves_64 : decode cX7_findShelves 64 = .ok (.iconst 0, 1) := by decide +kernel
theorem dX7_findShelves_65 : decode cX7_findShelves 65 = .ok (.istore 4, 2) := by decide +kernel
theorem dX7_findShelves_67 : decode cX7_findShelves 67 = .ok (.iload 4, 2) := by decide +kernel
theorem dX7_findShelves_69 : decode cX7_findShelves 69 = .ok (.aload_n 0, 1) := by decide +kernel
theorem dX7_findShelves_70 : decode cX7_findShelves 70 = .ok (.getfield 83, 3) := by decide +kernel
theorem dX7_findShelves_73 : decode cX7_findShelves 73 = .ok (.if_icmp .ge 23, 3) := by decide +kernel
theorem dX7_findShelves_76 : decode cX7_findShelves 76 = .ok (.aload_n 0, 1) := by decide +kernel
theorem dX7_findShelves_77 : decode cX7_findShelves 77 = .ok (.getfield 22, 3) := by decide +kernel
theorem dX7_findShelves_80 : decode cX7_findShelves 80 = .ok (.iload 4, 2) := by decide +kernel
theorem dX7_findShelves_82 : decode cX7_findShelves 82 = .ok (.aload_n 0, 1) := by decide +kernel
theorem dX7_findShelves_83 : decode cX7_findShelves 83 = .ok (.getfield 55, 3) := by decide +kernel
theorem dX7_findShelves_86 : decode cX7_findShelves 86 = .ok (.iload 4, 2) := by decide +kernel
theorem dX7_findShelves_88 : decode cX7_findShelves 88 = .ok (.iaload, 1) := by decide +kernel
theorem dX7_findShelves_89 : decode cX7_findShelves 89 = .ok (.iastore, 1) := by decide +kernel
theorem dX7_findShelves_90 : decode cX7_findShelves 90 = .ok (.iinc 4 1, 3) := by decide +kernel
theorem dX7_findShelves_93 : decode cX7_findShelves 93 = .ok (.goto (-26), 3) := by decide +kernel
theorem dX7_findShelves_96 : decode cX7_findShelves 96 = .ok (.aload_n 0, 1) := by decide +kernel
theorem dX7_findShelves_97 : decode cX7_findShelves 97 = .ok (.invokevirtual 201, 3) := by decide +kernel
theorem dX7_findShelves_100 : decode cX7_findShelves 100 = .ok (.istore 4, 2) := by decide +kernel
theorem dX7_findShelves_102 : decode cX7_findShelves 102 = .ok (.iload 4, 2) := by decide +kernel
theorem dX7_findShelves_104 : decode cX7_findShelves 104 = .ok (.iload_n 2, 1) := by decide +kernel
theorem dX7_findShelves_105 : decode cX7_findShelves 105 = .ok (.if_icmp .le 10, 3) := by decide +kernel
theorem dX7_findShelves_108 : decode cX7_findShelves 108 = .ok (.iload 4, 2) := by decide +kernel
theorem dX7_findShelves_110 : decode cX7_findShelves 110 = .ok (.istore_n 2, 1) := by decide +kernel
theorem dX7_findShelves_111 : decode cX7_findShelves 111 = .ok (.aload_n 0, 1) := by decide +kernel
theorem dX7_findShelves_112 : decode cX7_findShelves 112 = .ok (.invokevirtual 195, 3) := by decide +kernel
theorem dX7_findShelves_115 : decode cX7_findShelves 115 = .ok (.iinc 3 1, 3) := by decide +kernel
theorem dX7_findShelves_118 : decode cX7_findShelves 118 = .ok (.goto (-75), 3) := by decide +kernel
theorem dX7_findShelves_121 : decode cX7_findShelves 121 = .ok (.iconst 0, 1) := by decide +kernel
theorem dX7_findShelves_122 : decode cX7_findShelves 122 = .ok (.istore_n 3, 1) := by decide +kernel
theorem dX7_findShelves_123 : decode cX7_findShelves 123 = .ok (.iload_n 3, 1) := by decide +kernel
theorem dX7_findShelves_124 : decode cX7_findShelves 124 = .ok (.aload_n 0, 1) := by decide +kernel
theorem dX7_findShelves_125 : decode cX7_findShelves 125 = .ok (.getfield 83, 3) := by decide +kernel
theorem dX7_findShelves_128 : decode cX7_findShelves 128 = .ok (.if_icmp .ge 21, 3) := by decide +kernel
theorem dX7_findShelves_131 : decode cX7_findShelves 131 = .ok (.aload_n 0, 1) := by decide +kernel
theorem dX7_findShelves_132 : decode cX7_findShelves 132 = .ok (.getfield 22, 3) := by decide +kernel
theorem dX7_findShelves_135 : decode cX7_findShelves 135 = .ok (.iload_n 3, 1) := by decide +kernel
theorem dX7_findShelves_136 : decode cX7_findShelves 136 = .ok (.aload_n 0, 1) := by decide +kernel
theorem dX7_findShelves_137 : decode cX7_findShelves 137 = .ok (.getfield 61, 3) := by decide +kernel
theorem dX7_findShelves_140 : decode cX7_findShelves 140 = .ok (.iload_n 3, 1) := by decide +kernel
theorem dX7_findShelves_141 : decode cX7_findShelves 141 = .ok (.iaload, 1) := by decide +kernel
theorem dX7_findShelves_142 : decode cX7_findShelves 142 = .ok (.iastore, 1) := by decide +kernel
theorem dX7_findShelves_143 : decode cX7_findShelves 143 = .ok (.iinc 3 1, 3) := by decide +kernel
theorem dX7_findShelves_146 : decode cX7_findShelves 146 = .ok (.goto (-23), 3) := by decide +kernel
theorem dX7_findShelves_149 : decode cX7_findShelves 149 = .ok (.aload_n 0, 1) := by decide +kernel
theorem dX7_findShelves_150 : decode cX7_findShelves 150 = .ok (.iload_n 1, 1) := by decide +kernel
theorem dX7_findShelves_151 : decode cX7_findShelves 151 = .ok (.putfield 125, 3) := by decide +kernel
theorem dX7_findShelves_154 : decode cX7_findShelves 154 = .ok (.iload_n 2, 1) := by decide +kernel
theorem dX7_findShelves_155 : decode cX7_findShelves 155 = .ok (.ireturn, 1) := by decide +kernel
theorem dX7_shelve_0 : decode cX7_shelve 0 = .ok (.iload_n 1, 1) := by decide +kernel
theorem dX7_shelve_1 : decode cX7_shelve 1 = .ok (.iconst (-1), 1) := by decide +kernel
theorem dX7_shelve_2 : decode cX7_shelve 2 = .ok (.if_icmp .ge 5, 3) := by decide +kernel
theorem dX7_shelve_5 : decode cX7_shelve 5 = .ok (.iconst (-1), 1) := by decide +kernel
theorem dX7_shelve_6 : decode cX7_shelve 6 = .ok (.ireturn, 1) := by decide +kernel
theorem dX7_shelve_7 : decode cX7_shelve 7 = .ok (.aload_n 0, 1) := by decide +kernel
theorem dX7_shelve_8 : decode cX7_shelve 8 = .ok (.getfield 89, 3) := by decide +kernel
theorem dX7_shelve_11 : decode cX7_shelve 11 = .ok (.ifCond .ne 6, 3) := by decide +kernel
theorem dX7_shelve_14 : decode cX7_shelve 14 = .ok (.bipush (-3), 2) := by decide +kernel
theorem dX7_shelve_16 : decode cX7_shelve 16 = .ok (.ireturn, 1) := by decide +kernel
theorem dX7_shelve_17 : decode cX7_shelve 17 = .ok (.aload_n 0, 1) := by decide +kernel
theorem dX7_shelve_18 : decode cX7_shelve 18 = .ok (.invokevirtual 205, 3) := by decide +kernel
theorem dX7_shelve_21 : decode cX7_shelve 21 = .ok (.istore_n 2, 1) := by decide +kernel
theorem dX7_shelve_22 : decode cX7_shelve 22 = .ok (.iload_n 1, 1) := by decide +kernel
theorem dX7_shelve_23 : decode cX7_shelve 23 = .ok (.iconst (-1), 1) := by decide +kernel
theorem dX7_shelve_24 : decode cX7_shelve 24 = .ok (.if_icmp .ne 7, 3) := by decide +kernel
theorem dX7_shelve_27 : decode cX7_shelve 27 = .ok (.iload_n 2, 1) := by decide +kernel
theorem dX7_shelve_28 : decode cX7_shelve 28 = .ok (.goto 22, 3) := by decide +kernel
theorem dX7_shelve_31 : decode cX7_shelve 31 = .ok (.aload_n 0, 1) := by decide +kernel
theorem dX7_shelve_32 : decode cX7_shelve 32 = .ok (.iload_n 1, 1) := by decide +kernel
theorem dX7_shelve_33 : decode cX7_shelve 33 = .ok (.invokevirtual 145, 3) := by decide +kernel
theorem dX7_shelve_36 : decode cX7_shelve 36 = .ok (.ifCond .eq 12, 3) := by decide +kernel
theorem dX7_shelve_39 : decode cX7_shelve 39 = .ok (.aload_n 0, 1) := by decide +kernel
theorem dX7_shelve_40 : decode cX7_shelve 40 = .ok (.getfield 58, 3) := by decide +kernel
theorem dX7_shelve_43 : decode cX7_shelve 43 = .ok (.iload_n 1, 1) := by decide +kernel
theorem dX7_shelve_44 : decode cX7_shelve 44 = .ok (.iaload, 1) := by decide +kernel
theorem dX7_shelve_45 : decode cX7_shelve 45 = .ok (.goto 5, 3) := by decide +kernel
theorem dX7_shelve_48 : decode cX7_shelve 48 = .ok (.bipush (-9), 2) := by decide +kernel
theorem dX7_shelve_50 : decode cX7_shelve 50 = .ok (.ireturn, 1) := by decide +kernel
theorem dX7_common_0 : decode cX7_common 0 = .ok (.aload_n 0, 1) := by decide +kernel
theorem dX7_common_1 : decode cX7_common 1 = .ok (.getfield 89, 3) := by decide +kernel
theorem dX7_common_4 : decode cX7_common 4 = .ok (.ifCond .ne 6, 3) := by decide +kernel
theorem dX7_common_7 : decode cX7_common 7 = .ok (.bipush (-3), 2) := by decide +kernel
theorem dX7_common_9 : decode cX7_common 9 = .ok (.ireturn, 1) := by decide +kernel
theorem dX7_common_10 : decode cX7_common 10 = .ok (.sipush 255, 3) := by decide +kernel
theorem dX7_common_13 : decode cX7_common 13 = .ok (.istore_n 1, 1) := by decide +kernel
theorem dX7_common_14 : decode cX7_common 14 = .ok (.iconst 0, 1) := by decide +kernel
theorem dX7_common_15 : decode cX7_common 15 = .ok (.istore_n 2, 1) := by decide +kernel
theorem dX7_common_16 : decode cX7_common 16 = .ok (.iload_n 2, 1) := by decide +kernel
theorem dX7_common_17 : decode cX7_common 17 = .ok (.aload_n 0, 1) := by decide +kernel
theorem dX7_common_18 : decode cX7_common 18 = .ok (.getfield 83, 3) := by decide +kernel
theorem dX7_common_21 : decode cX7_common 21 = .ok (.if_icmp .ge 23, 3) := by decide +kernel
theorem dX7_common_24 : decode cX7_common 24 = .ok (.iload_n 1, 1) := by decide +kernel
theorem dX7_common_25 : decode cX7_common 25 = .ok (.aload_n 0, 1) := by decide +kernel
theorem dX7_common_26 : decode cX7_common 26 = .ok (.aload_n 0, 1) := by decide +kernel
theorem dX7_common_27 : decode cX7_common 27 = .ok (.iload_n 2, 1) := by decide +kernel
theorem dX7_common_28 : decode cX7_common 28 = .ok (.invokevirtual 170, 3) := by decide +kernel
theorem dX7_common_31 : decode cX7_common 31 = .ok (.bipush 8, 2) := by decide +kernel
theorem dX7_common_33 : decode cX7_common 33 = .ok (.invokevirtual 182, 3) := by decide +kernel
theorem dX7_common_36 : decode cX7_common 36 = .ok (.iand, 1) := by decide +kernel
theorem dX7_common_37 : decode cX7_common 37 = .ok (.istore_n 1, 1) := by decide +kernel
theorem dX7_common_38 : decode cX7_common 38 = .ok (.iinc 2 1, 3) := by decide +kernel
theorem dX7_common_41 : decode cX7_common 41 = .ok (.goto (-25), 3) := by decide +kernel
theorem dX7_common_44 : decode cX7_common 44 = .ok (.iload_n 1, 1) := by decide +kernel
theorem dX7_common_45 : decode cX7_common 45 = .ok (.ireturn, 1) := by decide +kernel
theorem dX7_alone_0 : decode cX7_alone 0 = .ok (.aload_n 0, 1) := by decide +kernel
theorem dX7_alone_1 : decode cX7_alone 1 = .ok (.iload_n 1, 1) := by decide +kernel
theorem dX7_alone_2 : decode cX7_alone 2 = .ok (.invokevirtual 145, 3) := by decide +kernel
theorem dX7_alone_5 : decode cX7_alone 5 = .ok (.ifCond .ne 5, 3) := by decide +kernel
theorem dX7_alone_8 : decode cX7_alone 8 = .ok (.iconst (-1), 1) := by decide +kernel
theorem dX7_alone_9 : decode cX7_alone 9 = .ok (.ireturn, 1) := by decide +kernel
theorem dX7_alone_10 : decode cX7_alone 10 = .ok (.aload_n 0, 1) := by decide +kernel
theorem dX7_alone_11 : decode cX7_alone 11 = .ok (.aload_n 0, 1) := by decide +kernel
theorem dX7_alone_12 : decode cX7_alone 12 = .ok (.iload_n 1, 1) := by decide +kernel
theorem dX7_alone_13 : decode cX7_alone 13 = .ok (.invokevirtual 170, 3) := by decide +kernel
theorem dX7_alone_16 : decode cX7_alone 16 = .ok (.bipush 8, 2) := by decide +kernel
theorem dX7_alone_18 : decode cX7_alone 18 = .ok (.invokevirtual 182, 3) := by decide +kernel
theorem dX7_alone_21 : decode cX7_alone 21 = .ok (.istore_n 2, 1) := by decide +kernel
theorem dX7_alone_22 : decode cX7_alone 22 = .ok (.iconst 0, 1) := by decide +kernel
theorem dX7_alone_23 : decode cX7_alone 23 = .ok (.istore_n 3, 1) := by decide +kernel
theorem dX7_alone_24 : decode cX7_alone 24 = .ok (.iload_n 3, 1) := by decide +kernel
theorem dX7_alone_25 : decode cX7_alone 25 = .ok (.aload_n 0, 1) := by decide +kernel
theorem dX7_alone_26 : decode cX7_alone 26 = .ok (.getfield 83, 3) := by decide +kernel
theorem dX7_alone_29 : decode cX7_alone 29 = .ok (.if_icmp .ge 36, 3) := by decide +kernel
theorem dX7_alone_32 : decode cX7_alone 32 = .ok (.iload_n 2, 1) := by decide +kernel
theorem dX7_alone_33 : decode cX7_alone 33 = .ok (.iload_n 3, 1) := by decide +kernel
theorem dX7_alone_34 : decode cX7_alone 34 = .ok (.iload_n 1, 1) := by decide +kernel
theorem dX7_alone_35 : decode cX7_alone 35 = .ok (.if_icmp .ne 9, 3) := by decide +kernel
theorem dX7_alone_38 : decode cX7_alone 38 = .ok (.sipush 255, 3) := by decide +kernel
theorem dX7_alone_41 : decode cX7_alone 41 = .ok (.goto 16, 3) := by decide +kernel
theorem dX7_alone_44 : decode cX7_alone 44 = .ok (.aload_n 0, 1) := by decide +kernel
theorem dX7_alone_45 : decode cX7_alone 45 = .ok (.aload_n 0, 1) := by decide +kernel
theorem dX7_alone_46 : decode cX7_alone 46 = .ok (.iload_n 3, 1) := by decide +kernel
theorem dX7_alone_47 : decode cX7_alone 47 = .ok (.invokevirtual 170, 3) := by decide +kernel
theorem dX7_alone_50 : decode cX7_alone 50 = .ok (.bipush 8, 2) := by decide +kernel
theorem dX7_alone_52 : decode cX7_alone 52 = .ok (.invokevirtual 182, 3) := by decide +kernel
theorem dX7_alone_55 : decode cX7_alone 55 = .ok (.iconst (-1), 1) := by decide +kernel
theorem dX7_alone_56 : decode cX7_alone 56 = .ok (.ixor, 1) := by decide +kernel
theorem dX7_alone_57 : decode cX7_alone 57 = .ok (.iand, 1) := by decide +kernel
theorem dX7_alone_58 : decode cX7_alone 58 = .ok (.istore_n 2, 1) := by decide +kernel
theorem dX7_alone_59 : decode cX7_alone 59 = .ok (.iinc 3 1, 3) := by decide +kernel
theorem dX7_alone_62 : decode cX7_alone 62 = .ok (.goto (-38), 3) := by decide +kernel
theorem dX7_alone_65 : decode cX7_alone 65 = .ok (.iload_n 2, 1) := by decide +kernel
theorem dX7_alone_66 : decode cX7_alone 66 = .ok (.ireturn, 1) := by decide +kernel
theorem dX7_reading_0 : decode cX7_reading 0 = .ok (.aload_n 0, 1) := by decide +kernel
theorem dX7_reading_1 : decode cX7_reading 1 = .ok (.iload_n 1, 1) := by decide +kernel
theorem dX7_reading_2 : decode cX7_reading 2 = .ok (.invokevirtual 145, 3) := by decide +kernel
theorem dX7_reading_5 : decode cX7_reading 5 = .ok (.ifCond .eq 16, 3) := by decide +kernel
theorem dX7_reading_8 : decode cX7_reading 8 = .ok (.iload_n 3, 1) := by decide +kernel
theorem dX7_reading_9 : decode cX7_reading 9 = .ok (.bipush (-9), 2) := by decide +kernel
theorem dX7_reading_11 : decode cX7_reading 11 = .ok (.if_icmp .eq 12, 3) := by decide +kernel
theorem dX7_reading_14 : decode cX7_reading 14 = .ok (.iload_n 3, 1) := by decide +kernel
theorem dX7_reading_15 : decode cX7_reading 15 = .ok (.invokestatic 176, 3) := by decide +kernel
theorem dX7_reading_18 : decode cX7_reading 18 = .ok (.ifCond .ne 5, 3) := by decide +kernel
theorem dX7_reading_21 : decode cX7_reading 21 = .ok (.iconst (-1), 1) := by decide +kernel
theorem dX7_reading_22 : decode cX7_reading 22 = .ok (.ireturn, 1) := by decide +kernel
theorem dX7_reading_23 : decode cX7_reading 23 = .ok (.iload_n 2, 1) := by decide +kernel
theorem dX7_reading_24 : decode cX7_reading 24 = .ok (.iconst 0, 1) := by decide +kernel
theorem dX7_reading_25 : decode cX7_reading 25 = .ok (.bipush 7, 2) := by decide +kernel
theorem dX7_reading_27 : decode cX7_reading 27 = .ok (.invokestatic 79, 3) := by decide +kernel
theorem dX7_reading_30 : decode cX7_reading 30 = .ok (.ifCond .ne 6, 3) := by decide +kernel
theorem dX7_reading_33 : decode cX7_reading 33 = .ok (.bipush (-2), 2) := by decide +kernel
theorem dX7_reading_35 : decode cX7_reading 35 = .ok (.ireturn, 1) := by decide +kernel
theorem dX7_reading_36 : decode cX7_reading 36 = .ok (.aload_n 0, 1) := by decide +kernel
theorem dX7_reading_37 : decode cX7_reading 37 = .ok (.getfield 128, 3) := by decide +kernel
theorem dX7_reading_40 : decode cX7_reading 40 = .ok (.bipush 8, 2) := by decide +kernel
theorem dX7_reading_42 : decode cX7_reading 42 = .ok (.if_icmp .ne 6, 3) := by decide +kernel
theorem dX7_reading_45 : decode cX7_reading 45 = .ok (.bipush (-4), 2) := by decide +kernel
theorem dX7_reading_47 : decode cX7_reading 47 = .ok (.ireturn, 1) := by decide +kernel
theorem dX7_reading_48 : decode cX7_reading 48 = .ok (.aload_n 0, 1) := by decide +kernel
theorem dX7_reading_49 : decode cX7_reading 49 = .ok (.getfield 64, 3) := by decide +kernel
theorem dX7_reading_52 : decode cX7_reading 52 = .ok (.aload_n 0, 1) := by decide +kernel
theorem dX7_reading_53 : decode cX7_reading 53 = .ok (.getfield 128, 3) := by decide +kernel
theorem dX7_reading_56 : decode cX7_reading 56 = .ok (.iload_n 1, 1) := by decide +kernel
theorem dX7_reading_57 : decode cX7_reading 57 = .ok (.iastore, 1) := by decide +kernel
theorem dX7_reading_58 : decode cX7_reading 58 = .ok (.aload_n 0, 1) := by decide +kernel
theorem dX7_reading_59 : decode cX7_reading 59 = .ok (.getfield 67, 3) := by decide +kernel
theorem dX7_reading_62 : decode cX7_reading 62 = .ok (.aload_n 0, 1) := by decide +kernel
theorem dX7_reading_63 : decode cX7_reading 63 = .ok (.getfield 128, 3) := by decide +kernel
theorem dX7_reading_66 : decode cX7_reading 66 = .ok (.iload_n 2, 1) := by decide +kernel
theorem dX7_reading_67 : decode cX7_reading 67 = .ok (.iastore, 1) := by decide +kernel
theorem dX7_reading_68 : decode cX7_reading 68 = .ok (.aload_n 0, 1) := by decide +kernel
theorem dX7_reading_69 : decode cX7_reading 69 = .ok (.getfield 70, 3) := by decide +kernel
theorem dX7_reading_72 : decode cX7_reading 72 = .ok (.aload_n 0, 1) := by decide +kernel
theorem dX7_reading_73 : decode cX7_reading 73 = .ok (.getfield 128, 3) := by decide +kernel
theorem dX7_reading_76 : decode cX7_reading 76 = .ok (.iload_n 3, 1) := by decide +kernel
theorem dX7_reading_77 : decode cX7_reading 77 = .ok (.iastore, 1) := by decide +kernel
theorem dX7_reading_78 : decode cX7_reading 78 = .ok (.aload_n 0, 1) := by decide +kernel
theorem dX7_reading_79 : decode cX7_reading 79 = .ok (.dup, 1) := by decide +kernel
theorem dX7_reading_80 : decode cX7_reading 80 = .ok (.getfield 128, 3) := by decide +kernel
theorem dX7_reading_83 : decode cX7_reading 83 = .ok (.iconst 1, 1) := by decide +kernel
theorem dX7_reading_84 : decode cX7_reading 84 = .ok (.iadd, 1) := by decide +kernel
theorem dX7_reading_85 : decode cX7_reading 85 = .ok (.putfield 128, 3) := by decide +kernel
theorem dX7_reading_88 : decode cX7_reading 88 = .ok (.aload_n 0, 1) := by decide +kernel
theorem dX7_reading_89 : decode cX7_reading 89 = .ok (.getfield 128, 3) := by decide +kernel
theorem dX7_reading_92 : decode cX7_reading 92 = .ok (.iconst 1, 1) := by decide +kernel
theorem dX7_reading_93 : decode cX7_reading 93 = .ok (.isub, 1) := by decide +kernel
theorem dX7_reading_94 : decode cX7_reading 94 = .ok (.ireturn, 1) := by decide +kernel
theorem dX7_back_0 : decode cX7_back 0 = .ok (.iload_n 1, 1) := by decide +kernel
theorem dX7_back_1 : decode cX7_back 1 = .ok (.iconst 0, 1) := by decide +kernel
theorem dX7_back_2 : decode cX7_back 2 = .ok (.aload_n 0, 1) := by decide +kernel
theorem dX7_back_3 : decode cX7_back 3 = .ok (.getfield 128, 3) := by decide +kernel
theorem dX7_back_6 : decode cX7_back 6 = .ok (.invokestatic 79, 3) := by decide +kernel
theorem dX7_back_9 : decode cX7_back 9 = .ok (.ifCond .ne 6, 3) := by decide +kernel
theorem dX7_back_12 : decode cX7_back 12 = .ok (.bipush (-2), 2) := by decide +kernel
theorem dX7_back_14 : decode cX7_back 14 = .ok (.ireturn, 1) := by decide +kernel
theorem dX7_back_15 : decode cX7_back 15 = .ok (.aload_n 0, 1) := by decide +kernel
theorem dX7_back_16 : decode cX7_back 16 = .ok (.dup, 1) := by decide +kernel
theorem dX7_back_17 : decode cX7_back 17 = .ok (.getfield 128, 3) := by decide +kernel
theorem dX7_back_20 : decode cX7_back 20 = .ok (.iload_n 1, 1) := by decide +kernel
theorem dX7_back_21 : decode cX7_back 21 = .ok (.isub, 1) := by decide +kernel
theorem dX7_back_22 : decode cX7_back 22 = .ok (.putfield 128, 3) := by decide +kernel
theorem dX7_back_25 : decode cX7_back 25 = .ok (.aload_n 0, 1) := by decide +kernel
theorem dX7_back_26 : decode cX7_back 26 = .ok (.getfield 128, 3) := by decide +kernel
theorem dX7_back_29 : decode cX7_back 29 = .ok (.ireturn, 1) := by decide +kernel
theorem dX7_areSo_0 : decode cX7_areSo 0 = .ok (.iconst 0, 1) := by decide +kernel
theorem dX7_areSo_1 : decode cX7_areSo 1 = .ok (.istore_n 1, 1) := by decide +kernel
theorem dX7_areSo_2 : decode cX7_areSo 2 = .ok (.iload_n 1, 1) := by decide +kernel
theorem dX7_areSo_3 : decode cX7_areSo 3 = .ok (.aload_n 0, 1) := by decide +kernel
theorem dX7_areSo_4 : decode cX7_areSo 4 = .ok (.getfield 128, 3) := by decide +kernel
theorem dX7_areSo_7 : decode cX7_areSo 7 = .ok (.if_icmp .ge 58, 3) := by decide +kernel
theorem dX7_areSo_10 : decode cX7_areSo 10 = .ok (.aload_n 0, 1) := by decide +kernel
theorem dX7_areSo_11 : decode cX7_areSo 11 = .ok (.aload_n 0, 1) := by decide +kernel
theorem dX7_areSo_12 : decode cX7_areSo 12 = .ok (.aload_n 0, 1) := by decide +kernel
theorem dX7_areSo_13 : decode cX7_areSo 13 = .ok (.getfield 64, 3) := by decide +kernel
theorem dX7_areSo_16 : decode cX7_areSo 16 = .ok (.iload_n 1, 1) := by decide +kernel
theorem dX7_areSo_17 : decode cX7_areSo 17 = .ok (.iaload, 1) := by decide +kernel
theorem dX7_areSo_18 : decode cX7_areSo 18 = .ok (.invokevirtual 170, 3) := by decide +kernel
theorem dX7_areSo_21 : decode cX7_areSo 21 = .ok (.aload_n 0, 1) := by decide +kernel
theorem dX7_areSo_22 : decode cX7_areSo 22 = .ok (.getfield 67, 3) := by decide +kernel
theorem dX7_areSo_25 : decode cX7_areSo 25 = .ok (.iload_n 1, 1) := by decide +kernel
theorem dX7_areSo_26 : decode cX7_areSo 26 = .ok (.iaload, 1) := by decide +kernel
theorem dX7_areSo_27 : decode cX7_areSo 27 = .ok (.invokevirtual 173, 3) := by decide +kernel
theorem dX7_areSo_30 : decode cX7_areSo 30 = .ok (.istore_n 2, 1) := by decide +kernel
theorem dX7_areSo_31 : decode cX7_areSo 31 = .ok (.iload_n 2, 1) := by decide +kernel
theorem dX7_areSo_32 : decode cX7_areSo 32 = .ok (.bipush (-9), 2) := by decide +kernel
theorem dX7_areSo_34 : decode cX7_areSo 34 = .ok (.if_icmp .ne 8, 3) := by decide +kernel
theorem dX7_areSo_37 : decode cX7_areSo 37 = .ok (.bipush (-9), 2) := by decide +kernel
theorem dX7_areSo_39 : decode cX7_areSo 39 = .ok (.goto 9, 3) := by decide +kernel
theorem dX7_areSo_42 : decode cX7_areSo 42 = .ok (.aload_n 0, 1) := by decide +kernel
theorem dX7_areSo_43 : decode cX7_areSo 43 = .ok (.getfield 37, 3) := by decide +kernel
theorem dX7_areSo_46 : decode cX7_areSo 46 = .ok (.iload_n 2, 1) := by decide +kernel
theorem dX7_areSo_47 : decode cX7_areSo 47 = .ok (.iaload, 1) := by decide +kernel
theorem dX7_areSo_48 : decode cX7_areSo 48 = .ok (.aload_n 0, 1) := by decide +kernel
theorem dX7_areSo_49 : decode cX7_areSo 49 = .ok (.getfield 70, 3) := by decide +kernel
theorem dX7_areSo_52 : decode cX7_areSo 52 = .ok (.iload_n 1, 1) := by decide +kernel
theorem dX7_areSo_53 : decode cX7_areSo 53 = .ok (.iaload, 1) := by decide +kernel
theorem dX7_areSo_54 : decode cX7_areSo 54 = .ok (.if_icmp .eq 5, 3) := by decide +kernel
theorem dX7_areSo_57 : decode cX7_areSo 57 = .ok (.iconst 0, 1) := by decide +kernel
theorem dX7_areSo_58 : decode cX7_areSo 58 = .ok (.ireturn, 1) := by decide +kernel
theorem dX7_areSo_59 : decode cX7_areSo 59 = .ok (.iinc 1 1, 3) := by decide +kernel
theorem dX7_areSo_62 : decode cX7_areSo 62 = .ok (.goto (-60), 3) := by decide +kernel
theorem dX7_areSo_65 : decode cX7_areSo 65 = .ok (.iconst 1, 1) := by decide +kernel
theorem dX7_areSo_66 : decode cX7_areSo 66 = .ok (.ireturn, 1) := by decide +kernel
theorem dX7_louds_0 : decode cX7_louds 0 = .ok (.aload_n 0, 1) := by decide +kernel
theorem dX7_louds_1 : decode cX7_louds 1 = .ok (.iload_n 1, 1) := by decide +kernel
theorem dX7_louds_2 : decode cX7_louds 2 = .ok (.invokevirtual 148, 3) := by decide +kernel
theorem dX7_louds_5 : decode cX7_louds 5 = .ok (.ifCond .ne 5, 3) := by decide +kernel
theorem dX7_louds_8 : decode cX7_louds 8 = .ok (.iconst (-1), 1) := by decide +kernel
theorem dX7_louds_9 : decode cX7_louds 9 = .ok (.ireturn, 1) := by decide +kernel
theorem dX7_louds_10 : decode cX7_louds 10 = .ok (.aload_n 0, 1) := by decide +kernel
theorem dX7_louds_11 : decode cX7_louds 11 = .ok (.getfield 34, 3) := by decide +kernel
theorem dX7_louds_14 : decode cX7_louds 14 = .ok (.iload_n 1, 1) := by decide +kernel
theorem dX7_louds_15 : decode cX7_louds 15 = .ok (.iaload, 1) := by decide +kernel
theorem dX7_louds_16 : decode cX7_louds 16 = .ok (.istore_n 2, 1) := by decide +kernel
theorem dX7_louds_17 : decode cX7_louds 17 = .ok (.iconst 0, 1) := by decide +kernel
theorem dX7_louds_18 : decode cX7_louds 18 = .ok (.istore_n 3, 1) := by decide +kernel
theorem dX7_louds_19 : decode cX7_louds 19 = .ok (.iconst 1, 1) := by decide +kernel
theorem dX7_louds_20 : decode cX7_louds 20 = .ok (.istore 4, 2) := by decide +kernel
theorem dX7_louds_22 : decode cX7_louds 22 = .ok (.iload 4, 2) := by decide +kernel
theorem dX7_louds_24 : decode cX7_louds 24 = .ok (.bipush 9, 2) := by decide +kernel
theorem dX7_louds_26 : decode cX7_louds 26 = .ok (.if_icmp .gt 35, 3) := by decide +kernel
theorem dX7_louds_29 : decode cX7_louds 29 = .ok (.aload_n 0, 1) := by decide +kernel
theorem dX7_louds_30 : decode cX7_louds 30 = .ok (.getfield 34, 3) := by decide +kernel
theorem dX7_louds_33 : decode cX7_louds 33 = .ok (.iload_n 1, 1) := by decide +kernel
theorem dX7_louds_34 : decode cX7_louds 34 = .ok (.iload 4, 2) := by decide +kernel
theorem dX7_louds_36 : decode cX7_louds 36 = .ok (.iastore, 1) := by decide +kernel
theorem dX7_louds_37 : decode cX7_louds 37 = .ok (.iload_n 3, 1) := by decide +kernel
theorem dX7_louds_38 : decode cX7_louds 38 = .ok (.aload_n 0, 1) := by decide +kernel
theorem dX7_louds_39 : decode cX7_louds 39 = .ok (.invokevirtual 208, 3) := by decide +kernel
theorem dX7_louds_42 : decode cX7_louds 42 = .ok (.ifCond .eq 10, 3) := by decide +kernel
theorem dX7_louds_45 : decode cX7_louds 45 = .ok (.iconst 1, 1) := by decide +kernel
theorem dX7_louds_46 : decode cX7_louds 46 = .ok (.iload 4, 2) := by decide +kernel
theorem dX7_louds_48 : decode cX7_louds 48 = .ok (.ishl, 1) := by decide +kernel
theorem dX7_louds_49 : decode cX7_louds 49 = .ok (.goto 4, 3) := by decide +kernel
theorem dX7_louds_52 : decode cX7_louds 52 = .ok (.iconst 0, 1) := by decide +kernel
theorem dX7_louds_53 : decode cX7_louds 53 = .ok (.ior, 1) := by decide +kernel
theorem dX7_louds_54 : decode cX7_louds 54 = .ok (.istore_n 3, 1) := by decide +kernel
theorem dX7_louds_55 : decode cX7_louds 55 = .ok (.iinc 4 1, 3) := by decide +kernel
theorem dX7_louds_58 : decode cX7_louds 58 = .ok (.goto (-36), 3) := by decide +kernel
theorem dX7_louds_61 : decode cX7_louds 61 = .ok (.aload_n 0, 1) := by decide +kernel
theorem dX7_louds_62 : decode cX7_louds 62 = .ok (.getfield 34, 3) := by decide +kernel
theorem dX7_louds_65 : decode cX7_louds 65 = .ok (.iload_n 1, 1) := by decide +kernel
theorem dX7_louds_66 : decode cX7_louds 66 = .ok (.iload_n 2, 1) := by decide +kernel
theorem dX7_louds_67 : decode cX7_louds 67 = .ok (.iastore, 1) := by decide +kernel
theorem dX7_louds_68 : decode cX7_louds 68 = .ok (.iload_n 3, 1) := by decide +kernel
theorem dX7_louds_69 : decode cX7_louds 69 = .ok (.ireturn, 1) := by decide +kernel
theorem dX7_words_0 : decode cX7_words 0 = .ok (.aload_n 0, 1) := by decide +kernel
theorem dX7_words_1 : decode cX7_words 1 = .ok (.iload_n 1, 1) := by decide +kernel
theorem dX7_words_2 : decode cX7_words 2 = .ok (.invokevirtual 148, 3) := by decide +kernel
theorem dX7_words_5 : decode cX7_words 5 = .ok (.ifCond .ne 5, 3) := by decide +kernel
theorem dX7_words_8 : decode cX7_words 8 = .ok (.iconst (-1), 1) := by decide +kernel
theorem dX7_words_9 : decode cX7_words 9 = .ok (.ireturn, 1) := by decide +kernel
theorem dX7_words_10 : decode cX7_words 10 = .ok (.aload_n 0, 1) := by decide +kernel
theorem dX7_words_11 : decode cX7_words 11 = .ok (.getfield 37, 3) := by decide +kernel
theorem dX7_words_14 : decode cX7_words 14 = .ok (.iload_n 1, 1) := by decide +kernel
theorem dX7_words_15 : decode cX7_words 15 = .ok (.iaload, 1) := by decide +kernel
theorem dX7_words_16 : decode cX7_words 16 = .ok (.istore_n 2, 1) := by decide +kernel
theorem dX7_words_17 : decode cX7_words 17 = .ok (.iconst 0, 1) := by decide +kernel
theorem dX7_words_18 : decode cX7_words 18 = .ok (.istore_n 3, 1) := by decide +kernel
theorem dX7_words_19 : decode cX7_words 19 = .ok (.iconst 0, 1) := by decide +kernel
theorem dX7_words_20 : decode cX7_words 20 = .ok (.istore 4, 2) := by decide +kernel
theorem dX7_words_22 : decode cX7_words 22 = .ok (.iload 4, 2) := by decide +kernel
theorem dX7_words_24 : decode cX7_words 24 = .ok (.bipush 8, 2) := by decide +kernel
theorem dX7_words_26 : decode cX7_words 26 = .ok (.if_icmp .ge 35, 3) := by decide +kernel
theorem dX7_words_29 : decode cX7_words 29 = .ok (.aload_n 0, 1) := by decide +kernel
theorem dX7_words_30 : decode cX7_words 30 = .ok (.getfield 37, 3) := by decide +kernel
theorem dX7_words_33 : decode cX7_words 33 = .ok (.iload_n 1, 1) := by decide +kernel
theorem dX7_words_34 : decode cX7_words 34 = .ok (.iload 4, 2) := by decide +kernel
theorem dX7_words_36 : decode cX7_words 36 = .ok (.iastore, 1) := by decide +kernel
theorem dX7_words_37 : decode cX7_words 37 = .ok (.iload_n 3, 1) := by decide +kernel
theorem dX7_words_38 : decode cX7_words 38 = .ok (.aload_n 0, 1) := by decide +kernel
theorem dX7_words_39 : decode cX7_words 39 = .ok (.invokevirtual 208, 3) := by decide +kernel
theorem dX7_words_42 : decode cX7_words 42 = .ok (.ifCond .eq 10, 3) := by decide +kernel
theorem dX7_words_45 : decode cX7_words 45 = .ok (.iconst 1, 1) := by decide +kernel
theorem dX7_words_46 : decode cX7_words 46 = .ok (.iload 4, 2) := by decide +kernel
theorem dX7_words_48 : decode cX7_words 48 = .ok (.ishl, 1) := by decide +kernel
theorem dX7_words_49 : decode cX7_words 49 = .ok (.goto 4, 3) := by decide +kernel
theorem dX7_words_52 : decode cX7_words 52 = .ok (.iconst 0, 1) := by decide +kernel
theorem dX7_words_53 : decode cX7_words 53 = .ok (.ior, 1) := by decide +kernel
theorem dX7_words_54 : decode cX7_words 54 = .ok (.istore_n 3, 1) := by decide +kernel
theorem dX7_words_55 : decode cX7_words 55 = .ok (.iinc 4 1, 3) := by decide +kernel
theorem dX7_words_58 : decode cX7_words 58 = .ok (.goto (-36), 3) := by decide +kernel
theorem dX7_words_61 : decode cX7_words 61 = .ok (.aload_n 0, 1) := by decide +kernel
theorem dX7_words_62 : decode cX7_words 62 = .ok (.getfield 37, 3) := by decide +kernel
theorem dX7_words_65 : decode cX7_words 65 = .ok (.iload_n 1, 1) := by decide +kernel
theorem dX7_words_66 : decode cX7_words 66 = .ok (.iload_n 2, 1) := by decide +kernel
theorem dX7_words_67 : decode cX7_words 67 = .ok (.iastore, 1) := by decide +kernel
theorem dX7_words_68 : decode cX7_words 68 = .ok (.iload_n 3, 1) := by decide +kernel
theorem dX7_words_69 : decode cX7_words 69 = .ok (.ireturn, 1) := by decide +kernel
theorem dX7_kinds_0 : decode cX7_kinds 0 = .ok (.aload_n 0, 1) := by decide +kernel
theorem dX7_kinds_1 : decode cX7_kinds 1 = .ok (.iload_n 1, 1) := by decide +kernel
theorem dX7_kinds_2 : decode cX7_kinds 2 = .ok (.invokevirtual 145, 3) := by decide +kernel
theorem dX7_kinds_5 : decode cX7_kinds 5 = .ok (.ifCond .ne 5, 3) := by decide +kernel
theorem dX7_kinds_8 : decode cX7_kinds 8 = .ok (.iconst (-1), 1) := by decide +kernel
theorem dX7_kinds_9 : decode cX7_kinds 9 = .ok (.ireturn, 1) := by decide +kernel
theorem dX7_kinds_10 : decode cX7_kinds 10 = .ok (.aload_n 0, 1) := by decide +kernel
theorem dX7_kinds_11 : decode cX7_kinds 11 = .ok (.getfield 19, 3) := by decide +kernel
theorem dX7_kinds_14 : decode cX7_kinds 14 = .ok (.iload_n 1, 1) := by decide +kernel
theorem dX7_kinds_15 : decode cX7_kinds 15 = .ok (.iaload, 1) := by decide +kernel
theorem dX7_kinds_16 : decode cX7_kinds 16 = .ok (.istore_n 2, 1) := by decide +kernel
theorem dX7_kinds_17 : decode cX7_kinds 17 = .ok (.iconst 0, 1) := by decide +kernel
theorem dX7_kinds_18 : decode cX7_kinds 18 = .ok (.istore_n 3, 1) := by decide +kernel
theorem dX7_kinds_19 : decode cX7_kinds 19 = .ok (.iconst 0, 1) := by decide +kernel
theorem dX7_kinds_20 : decode cX7_kinds 20 = .ok (.istore 4, 2) := by decide +kernel
theorem dX7_kinds_22 : decode cX7_kinds 22 = .ok (.iload 4, 2) := by decide +kernel
theorem dX7_kinds_24 : decode cX7_kinds 24 = .ok (.iconst 3, 1) := by decide +kernel
theorem dX7_kinds_25 : decode cX7_kinds 25 = .ok (.if_icmp .ge 35, 3) := by decide +kernel
theorem dX7_kinds_28 : decode cX7_kinds 28 = .ok (.aload_n 0, 1) := by decide +kernel
theorem dX7_kinds_29 : decode cX7_kinds 29 = .ok (.getfield 19, 3) := by decide +kernel
theorem dX7_kinds_32 : decode cX7_kinds 32 = .ok (.iload_n 1, 1) := by decide +kernel
theorem dX7_kinds_33 : decode cX7_kinds 33 = .ok (.iload 4, 2) := by decide +kernel
theorem dX7_kinds_35 : decode cX7_kinds 35 = .ok (.iastore, 1) := by decide +kernel
theorem dX7_kinds_36 : decode cX7_kinds 36 = .ok (.iload_n 3, 1) := by decide +kernel
theorem dX7_kinds_37 : decode cX7_kinds 37 = .ok (.aload_n 0, 1) := by decide +kernel
theorem dX7_kinds_38 : decode cX7_kinds 38 = .ok (.invokevirtual 208, 3) := by decide +kernel
theorem dX7_kinds_41 : decode cX7_kinds 41 = .ok (.ifCond .eq 10, 3) := by decide +kernel
theorem dX7_kinds_44 : decode cX7_kinds 44 = .ok (.iconst 1, 1) := by decide +kernel
theorem dX7_kinds_45 : decode cX7_kinds 45 = .ok (.iload 4, 2) := by decide +kernel
theorem dX7_kinds_47 : decode cX7_kinds 47 = .ok (.ishl, 1) := by decide +kernel
theorem dX7_kinds_48 : decode cX7_kinds 48 = .ok (.goto 4, 3) := by decide +kernel
theorem dX7_kinds_51 : decode cX7_kinds 51 = .ok (.iconst 0, 1) := by decide +kernel
theorem dX7_kinds_52 : decode cX7_kinds 52 = .ok (.ior, 1) := by decide +kernel
theorem dX7_kinds_53 : decode cX7_kinds 53 = .ok (.istore_n 3, 1) := by decide +kernel
theorem dX7_kinds_54 : decode cX7_kinds 54 = .ok (.iinc 4 1, 3) := by decide +kernel
theorem dX7_kinds_57 : decode cX7_kinds 57 = .ok (.goto (-35), 3) := by decide +kernel
theorem dX7_kinds_60 : decode cX7_kinds 60 = .ok (.aload_n 0, 1) := by decide +kernel
theorem dX7_kinds_61 : decode cX7_kinds 61 = .ok (.getfield 19, 3) := by decide +kernel
theorem dX7_kinds_64 : decode cX7_kinds 64 = .ok (.iload_n 1, 1) := by decide +kernel
theorem dX7_kinds_65 : decode cX7_kinds 65 = .ok (.iload_n 2, 1) := by decide +kernel
theorem dX7_kinds_66 : decode cX7_kinds 66 = .ok (.iastore, 1) := by decide +kernel
theorem dX7_kinds_67 : decode cX7_kinds 67 = .ok (.iload_n 3, 1) := by decide +kernel
theorem dX7_kinds_68 : decode cX7_kinds 68 = .ok (.ireturn, 1) := by decide +kernel
theorem dX7_lay_0 : decode cX7_lay 0 = .ok (.aload_n 0, 1) := by decide +kernel
theorem dX7_lay_1 : decode cX7_lay 1 = .ok (.iload_n 1, 1) := by decide +kernel
theorem dX7_lay_2 : decode cX7_lay 2 = .ok (.invokevirtual 145, 3) := by decide +kernel
theorem dX7_lay_5 : decode cX7_lay 5 = .ok (.ifCond .ne 5, 3) := by decide +kernel
theorem dX7_lay_8 : decode cX7_lay 8 = .ok (.iconst (-1), 1) := by decide +kernel
theorem dX7_lay_9 : decode cX7_lay 9 = .ok (.ireturn, 1) := by decide +kernel
theorem dX7_lay_10 : decode cX7_lay 10 = .ok (.aload_n 0, 1) := by decide +kernel
theorem dX7_lay_11 : decode cX7_lay 11 = .ok (.getfield 22, 3) := by decide +kernel
theorem dX7_lay_14 : decode cX7_lay 14 = .ok (.iload_n 1, 1) := by decide +kernel
theorem dX7_lay_15 : decode cX7_lay 15 = .ok (.iaload, 1) := by decide +kernel
theorem dX7_lay_16 : decode cX7_lay 16 = .ok (.istore_n 2, 1) := by decide +kernel
theorem dX7_lay_17 : decode cX7_lay 17 = .ok (.iconst 0, 1) := by decide +kernel
theorem dX7_lay_18 : decode cX7_lay 18 = .ok (.istore_n 3, 1) := by decide +kernel
theorem dX7_lay_19 : decode cX7_lay 19 = .ok (.iconst 0, 1) := by decide +kernel
theorem dX7_lay_20 : decode cX7_lay 20 = .ok (.istore 4, 2) := by decide +kernel
theorem dX7_lay_22 : decode cX7_lay 22 = .ok (.iload 4, 2) := by decide +kernel
theorem dX7_lay_24 : decode cX7_lay 24 = .ok (.aload_n 0, 1) := by decide +kernel
theorem dX7_lay_25 : decode cX7_lay 25 = .ok (.getfield 86, 3) := by decide +kernel
theorem dX7_lay_28 : decode cX7_lay 28 = .ok (.if_icmp .ge 35, 3) := by decide +kernel
theorem dX7_lay_31 : decode cX7_lay 31 = .ok (.aload_n 0, 1) := by decide +kernel
theorem dX7_lay_32 : decode cX7_lay 32 = .ok (.getfield 22, 3) := by decide +kernel
theorem dX7_lay_35 : decode cX7_lay 35 = .ok (.iload_n 1, 1) := by decide +kernel
theorem dX7_lay_36 : decode cX7_lay 36 = .ok (.iload 4, 2) := by decide +kernel
theorem dX7_lay_38 : decode cX7_lay 38 = .ok (.iastore, 1) := by decide +kernel
theorem dX7_lay_39 : decode cX7_lay 39 = .ok (.iload_n 3, 1) := by decide +kernel
theorem dX7_lay_40 : decode cX7_lay 40 = .ok (.aload_n 0, 1) := by decide +kernel
theorem dX7_lay_41 : decode cX7_lay 41 = .ok (.invokevirtual 208, 3) := by decide +kernel
theorem dX7_lay_44 : decode cX7_lay 44 = .ok (.ifCond .eq 10, 3) := by decide +kernel
theorem dX7_lay_47 : decode cX7_lay 47 = .ok (.iconst 1, 1) := by decide +kernel
theorem dX7_lay_48 : decode cX7_lay 48 = .ok (.iload 4, 2) := by decide +kernel
theorem dX7_lay_50 : decode cX7_lay 50 = .ok (.ishl, 1) := by decide +kernel
theorem dX7_lay_51 : decode cX7_lay 51 = .ok (.goto 4, 3) := by decide +kernel
theorem dX7_lay_54 : decode cX7_lay 54 = .ok (.iconst 0, 1) := by decide +kernel
theorem dX7_lay_55 : decode cX7_lay 55 = .ok (.ior, 1) := by decide +kernel
theorem dX7_lay_56 : decode cX7_lay 56 = .ok (.istore_n 3, 1) := by decide +kernel
theorem dX7_lay_57 : decode cX7_lay 57 = .ok (.iinc 4 1, 3) := by decide +kernel
theorem dX7_lay_60 : decode cX7_lay 60 = .ok (.goto (-38), 3) := by decide +kernel
theorem dX7_lay_63 : decode cX7_lay 63 = .ok (.aload_n 0, 1) := by decide +kernel
theorem dX7_lay_64 : decode cX7_lay 64 = .ok (.getfield 22, 3) := by decide +kernel
theorem dX7_lay_67 : decode cX7_lay 67 = .ok (.iload_n 1, 1) := by decide +kernel
theorem dX7_lay_68 : decode cX7_lay 68 = .ok (.iload_n 2, 1) := by decide +kernel
theorem dX7_lay_69 : decode cX7_lay 69 = .ok (.iastore, 1) := by decide +kernel
theorem dX7_lay_70 : decode cX7_lay 70 = .ok (.iload_n 3, 1) := by decide +kernel
theorem dX7_lay_71 : decode cX7_lay 71 = .ok (.ireturn, 1) := by decide +kernel
theorem dX7_inLeastTerms_0 : decode cX7_inLeastTerms 0 = .ok (.lload_n 0, 1) := by decide +kernel
theorem dX7_inLeastTerms_1 : decode cX7_inLeastTerms 1 = .ok (.lstore 5, 2) := by decide +kernel
theorem dX7_inLeastTerms_3 : decode cX7_inLeastTerms 3 = .ok (.lload_n 2, 1) := by decide +kernel
theorem dX7_inLeastTerms_4 : decode cX7_inLeastTerms 4 = .ok (.lstore 7, 2) := by decide +kernel
theorem dX7_inLeastTerms_6 : decode cX7_inLeastTerms 6 = .ok (.lload 7, 2) := by decide +kernel
theorem dX7_inLeastTerms_8 : decode cX7_inLeastTerms 8 = .ok (.lconst 0, 1) := by decide +kernel
theorem dX7_inLeastTerms_9 : decode cX7_inLeastTerms 9 = .ok (.lcmp, 1) := by decide +kernel
theorem dX7_inLeastTerms_10 : decode cX7_inLeastTerms 10 = .ok (.ifCond .eq 21, 3) := by decide +kernel
theorem dX7_inLeastTerms_13 : decode cX7_inLeastTerms 13 = .ok (.lload 5, 2) := by decide +kernel
theorem dX7_inLeastTerms_15 : decode cX7_inLeastTerms 15 = .ok (.lload 7, 2) := by decide +kernel
theorem dX7_inLeastTerms_17 : decode cX7_inLeastTerms 17 = .ok (.lrem, 1) := by decide +kernel
theorem dX7_inLeastTerms_18 : decode cX7_inLeastTerms 18 = .ok (.lstore 9, 2) := by decide +kernel
theorem dX7_inLeastTerms_20 : decode cX7_inLeastTerms 20 = .ok (.lload 7, 2) := by decide +kernel
theorem dX7_inLeastTerms_22 : decode cX7_inLeastTerms 22 = .ok (.lstore 5, 2) := by decide +kernel
theorem dX7_inLeastTerms_24 : decode cX7_inLeastTerms 24 = .ok (.lload 9, 2) := by decide +kernel
theorem dX7_inLeastTerms_26 : decode cX7_inLeastTerms 26 = .ok (.lstore 7, 2) := by decide +kernel
theorem dX7_inLeastTerms_28 : decode cX7_inLeastTerms 28 = .ok (.goto (-22), 3) := by decide +kernel
theorem dX7_inLeastTerms_31 : decode cX7_inLeastTerms 31 = .ok (.iload 4, 2) := by decide +kernel
theorem dX7_inLeastTerms_33 : decode cX7_inLeastTerms 33 = .ok (.ifCond .ne 10, 3) := by decide +kernel
theorem dX7_inLeastTerms_36 : decode cX7_inLeastTerms 36 = .ok (.lload_n 0, 1) := by decide +kernel
theorem dX7_inLeastTerms_37 : decode cX7_inLeastTerms 37 = .ok (.lload 5, 2) := by decide +kernel
theorem dX7_inLeastTerms_39 : decode cX7_inLeastTerms 39 = .ok (.ldiv, 1) := by decide +kernel
theorem dX7_inLeastTerms_40 : decode cX7_inLeastTerms 40 = .ok (.goto 7, 3) := by decide +kernel
theorem dX7_inLeastTerms_43 : decode cX7_inLeastTerms 43 = .ok (.lload_n 2, 1) := by decide +kernel
theorem dX7_inLeastTerms_44 : decode cX7_inLeastTerms 44 = .ok (.lload 5, 2) := by decide +kernel
theorem dX7_inLeastTerms_46 : decode cX7_inLeastTerms 46 = .ok (.ldiv, 1) := by decide +kernel
theorem dX7_inLeastTerms_47 : decode cX7_inLeastTerms 47 = .ok (.lreturn, 1) := by decide +kernel
theorem dX7_odds_0 : decode cX7_odds 0 = .ok (.aload_n 0, 1) := by decide +kernel
theorem dX7_odds_1 : decode cX7_odds 1 = .ok (.iload_n 1, 1) := by decide +kernel
theorem dX7_odds_2 : decode cX7_odds 2 = .ok (.invokevirtual 145, 3) := by decide +kernel
theorem dX7_odds_5 : decode cX7_odds 5 = .ok (.ifCond .eq 19, 3) := by decide +kernel
theorem dX7_odds_8 : decode cX7_odds 8 = .ok (.iload_n 2, 1) := by decide +kernel
theorem dX7_odds_9 : decode cX7_odds 9 = .ok (.invokestatic 176, 3) := by decide +kernel
theorem dX7_odds_12 : decode cX7_odds 12 = .ok (.ifCond .eq 12, 3) := by decide +kernel
theorem dX7_odds_15 : decode cX7_odds 15 = .ok (.iload_n 3, 1) := by decide +kernel
theorem dX7_odds_16 : decode cX7_odds 16 = .ok (.iconst 0, 1) := by decide +kernel
theorem dX7_odds_17 : decode cX7_odds 17 = .ok (.iconst 1, 1) := by decide +kernel
theorem dX7_odds_18 : decode cX7_odds 18 = .ok (.invokestatic 79, 3) := by decide +kernel
theorem dX7_odds_21 : decode cX7_odds 21 = .ok (.ifCond .ne 7, 3) := by decide +kernel
theorem dX7_odds_24 : decode cX7_odds 24 = .ok (.ldc2_w 77, 3) := by decide +kernel
theorem dX7_odds_27 : decode cX7_odds 27 = .ok (.lreturn, 1) := by decide +kernel
theorem dX7_odds_28 : decode cX7_odds 28 = .ok (.iconst 0, 1) := by decide +kernel
theorem dX7_odds_29 : decode cX7_odds 29 = .ok (.istore 4, 2) := by decide +kernel
theorem dX7_odds_31 : decode cX7_odds 31 = .ok (.iconst 0, 1) := by decide +kernel
theorem dX7_odds_32 : decode cX7_odds 32 = .ok (.istore 5, 2) := by decide +kernel
theorem dX7_odds_34 : decode cX7_odds 34 = .ok (.iload 5, 2) := by decide +kernel
theorem dX7_odds_36 : decode cX7_odds 36 = .ok (.iconst 1, 1) := by decide +kernel
theorem dX7_odds_37 : decode cX7_odds 37 = .ok (.aload_n 0, 1) := by decide +kernel
theorem dX7_odds_38 : decode cX7_odds 38 = .ok (.getfield 89, 3) := by decide +kernel
theorem dX7_odds_41 : decode cX7_odds 41 = .ok (.ishl, 1) := by decide +kernel
theorem dX7_odds_42 : decode cX7_odds 42 = .ok (.if_icmp .ge 35, 3) := by decide +kernel
theorem dX7_odds_45 : decode cX7_odds 45 = .ok (.aload_n 0, 1) := by decide +kernel
theorem dX7_odds_46 : decode cX7_odds 46 = .ok (.iload 5, 2) := by decide +kernel
theorem dX7_odds_48 : decode cX7_odds 48 = .ok (.putfield 161, 3) := by decide +kernel
theorem dX7_odds_51 : decode cX7_odds 51 = .ok (.iload 4, 2) := by decide +kernel
theorem dX7_odds_53 : decode cX7_odds 53 = .ok (.aload_n 0, 1) := by decide +kernel
theorem dX7_odds_54 : decode cX7_odds 54 = .ok (.aload_n 0, 1) := by decide +kernel
theorem dX7_odds_55 : decode cX7_odds 55 = .ok (.iload_n 1, 1) := by decide +kernel
theorem dX7_odds_56 : decode cX7_odds 56 = .ok (.invokevirtual 170, 3) := by decide +kernel
theorem dX7_odds_59 : decode cX7_odds 59 = .ok (.bipush 8, 2) := by decide +kernel
theorem dX7_odds_61 : decode cX7_odds 61 = .ok (.invokevirtual 182, 3) := by decide +kernel
theorem dX7_odds_64 : decode cX7_odds 64 = .ok (.iload_n 2, 1) := by decide +kernel
theorem dX7_odds_65 : decode cX7_odds 65 = .ok (.ishr, 1) := by decide +kernel
theorem dX7_odds_66 : decode cX7_odds 66 = .ok (.iconst 1, 1) := by decide +kernel
theorem dX7_odds_67 : decode cX7_odds 67 = .ok (.iand, 1) := by decide +kernel
theorem dX7_odds_68 : decode cX7_odds 68 = .ok (.iadd, 1) := by decide +kernel
theorem dX7_odds_69 : decode cX7_odds 69 = .ok (.istore 4, 2) := by decide +kernel
theorem dX7_odds_71 : decode cX7_odds 71 = .ok (.iinc 5 1, 3) := by decide +kernel
theorem dX7_odds_74 : decode cX7_odds 74 = .ok (.goto (-40), 3) := by decide +kernel
theorem dX7_odds_77 : decode cX7_odds 77 = .ok (.aload_n 0, 1) := by decide +kernel
theorem dX7_odds_78 : decode cX7_odds 78 = .ok (.iconst 0, 1) := by decide +kernel
theorem dX7_odds_79 : decode cX7_odds 79 = .ok (.putfield 161, 3) := by decide +kernel
theorem dX7_odds_82 : decode cX7_odds 82 = .ok (.iload 4, 2) := by decide +kernel
theorem dX7_odds_84 : decode cX7_odds 84 = .ok (.i2l, 1) := by decide +kernel
theorem dX7_odds_85 : decode cX7_odds 85 = .ok (.lconst 1, 1) := by decide +kernel
theorem dX7_odds_86 : decode cX7_odds 86 = .ok (.aload_n 0, 1) := by decide +kernel
theorem dX7_odds_87 : decode cX7_odds 87 = .ok (.getfield 89, 3) := by decide +kernel
theorem dX7_odds_90 : decode cX7_odds 90 = .ok (.lshl, 1) := by decide +kernel
theorem dX7_odds_91 : decode cX7_odds 91 = .ok (.iload_n 3, 1) := by decide +kernel
theorem dX7_odds_92 : decode cX7_odds 92 = .ok (.invokestatic 212, 3) := by decide +kernel
theorem dX7_odds_95 : decode cX7_odds 95 = .ok (.lreturn, 1) := by decide +kernel
theorem dX7_sheet_0 : decode cX7_sheet 0 = .ok (.aload_n 0, 1) := by decide +kernel
theorem dX7_sheet_1 : decode cX7_sheet 1 = .ok (.iconst 0, 1) := by decide +kernel
theorem dX7_sheet_2 : decode cX7_sheet 2 = .ok (.putfield 73, 3) := by decide +kernel
theorem dX7_sheet_5 : decode cX7_sheet 5 = .ok (.iload_n 1, 1) := by decide +kernel
theorem dX7_sheet_6 : decode cX7_sheet 6 = .ok (.invokestatic 95, 3) := by decide +kernel
theorem dX7_sheet_9 : decode cX7_sheet 9 = .ok (.ifCond .ne 5, 3) := by decide +kernel
theorem dX7_sheet_12 : decode cX7_sheet 12 = .ok (.iconst (-1), 1) := by decide +kernel
theorem dX7_sheet_13 : decode cX7_sheet 13 = .ok (.ireturn, 1) := by decide +kernel
theorem dX7_sheet_14 : decode cX7_sheet 14 = .ok (.iload_n 2, 1) := by decide +kernel
theorem dX7_sheet_15 : decode cX7_sheet 15 = .ok (.invokestatic 99, 3) := by decide +kernel
theorem dX7_sheet_18 : decode cX7_sheet 18 = .ok (.ifCond .eq 9, 3) := by decide +kernel
theorem dX7_sheet_21 : decode cX7_sheet 21 = .ok (.iload_n 3, 1) := by decide +kernel
theorem dX7_sheet_22 : decode cX7_sheet 22 = .ok (.bipush 60, 2) := by decide +kernel
theorem dX7_sheet_24 : decode cX7_sheet 24 = .ok (.if_icmp .le 6, 3) := by decide +kernel
theorem dX7_sheet_27 : decode cX7_sheet 27 = .ok (.bipush (-2), 2) := by decide +kernel
theorem dX7_sheet_29 : decode cX7_sheet 29 = .ok (.ireturn, 1) := by decide +kernel
theorem dX7_sheet_30 : decode cX7_sheet 30 = .ok (.iload_n 3, 1) := by decide +kernel
theorem dX7_sheet_31 : decode cX7_sheet 31 = .ok (.ifCond .ge 9, 3) := by decide +kernel
theorem dX7_sheet_34 : decode cX7_sheet 34 = .ok (.aload_n 0, 1) := by decide +kernel
theorem dX7_sheet_35 : decode cX7_sheet 35 = .ok (.iconst 4, 1) := by decide +kernel
theorem dX7_sheet_36 : decode cX7_sheet 36 = .ok (.invokevirtual 106, 3) := by decide +kernel
theorem dX7_sheet_39 : decode cX7_sheet 39 = .ok (.ireturn, 1) := by decide +kernel
theorem dX7_sheet_40 : decode cX7_sheet 40 = .ok (.aload_n 0, 1) := by decide +kernel
theorem dX7_sheet_41 : decode cX7_sheet 41 = .ok (.getfield 9, 3) := by decide +kernel
theorem dX7_sheet_44 : decode cX7_sheet 44 = .ok (.iload_n 1, 1) := by decide +kernel
theorem dX7_sheet_45 : decode cX7_sheet 45 = .ok (.iload_n 2, 1) := by decide +kernel
theorem dX7_sheet_46 : decode cX7_sheet 46 = .ok (.iastore, 1) := by decide +kernel
theorem dX7_sheet_47 : decode cX7_sheet 47 = .ok (.aload_n 0, 1) := by decide +kernel
theorem dX7_sheet_48 : decode cX7_sheet 48 = .ok (.getfield 13, 3) := by decide +kernel
theorem dX7_sheet_51 : decode cX7_sheet 51 = .ok (.iload_n 1, 1) := by decide +kernel
theorem dX7_sheet_52 : decode cX7_sheet 52 = .ok (.iload_n 3, 1) := by decide +kernel
theorem dX7_sheet_53 : decode cX7_sheet 53 = .ok (.iastore, 1) := by decide +kernel
theorem dX7_sheet_54 : decode cX7_sheet 54 = .ok (.iconst 0, 1) := by decide +kernel
theorem dX7_sheet_55 : decode cX7_sheet 55 = .ok (.istore 4, 2) := by decide +kernel
theorem dX7_sheet_57 : decode cX7_sheet 57 = .ok (.iload 4, 2) := by decide +kernel
theorem dX7_sheet_59 : decode cX7_sheet 59 = .ok (.bipush 60, 2) := by decide +kernel
theorem dX7_sheet_61 : decode cX7_sheet 61 = .ok (.if_icmp .ge 22, 3) := by decide +kernel
theorem dX7_sheet_64 : decode cX7_sheet 64 = .ok (.aload_n 0, 1) := by decide +kernel
theorem dX7_sheet_65 : decode cX7_sheet 65 = .ok (.getfield 16, 3) := by decide +kernel
theorem dX7_sheet_68 : decode cX7_sheet 68 = .ok (.bipush 60, 2) := by decide +kernel
theorem dX7_sheet_70 : decode cX7_sheet 70 = .ok (.iload_n 1, 1) := by decide +kernel
theorem dX7_sheet_71 : decode cX7_sheet 71 = .ok (.imul, 1) := by decide +kernel
theorem dX7_sheet_72 : decode cX7_sheet 72 = .ok (.iload 4, 2) := by decide +kernel
theorem dX7_sheet_74 : decode cX7_sheet 74 = .ok (.iadd, 1) := by decide +kernel
theorem dX7_sheet_75 : decode cX7_sheet 75 = .ok (.iconst 0, 1) := by decide +kernel
theorem dX7_sheet_76 : decode cX7_sheet 76 = .ok (.iastore, 1) := by decide +kernel
theorem dX7_sheet_77 : decode cX7_sheet 77 = .ok (.iinc 4 1, 3) := by decide +kernel
theorem dX7_sheet_80 : decode cX7_sheet 80 = .ok (.goto (-23), 3) := by decide +kernel
theorem dX7_sheet_83 : decode cX7_sheet 83 = .ok (.iconst 1, 1) := by decide +kernel
theorem dX7_sheet_84 : decode cX7_sheet 84 = .ok (.ireturn, 1) := by decide +kernel
theorem dX7_lose_0 : decode cX7_lose 0 = .ok (.iload_n 1, 1) := by decide +kernel
theorem dX7_lose_1 : decode cX7_lose 1 = .ok (.invokestatic 95, 3) := by decide +kernel
theorem dX7_lose_4 : decode cX7_lose 4 = .ok (.ifCond .ne 5, 3) := by decide +kernel
theorem dX7_lose_7 : decode cX7_lose 7 = .ok (.iconst (-1), 1) := by decide +kernel
theorem dX7_lose_8 : decode cX7_lose 8 = .ok (.ireturn, 1) := by decide +kernel
theorem dX7_lose_9 : decode cX7_lose 9 = .ok (.aload_n 0, 1) := by decide +kernel
theorem dX7_lose_10 : decode cX7_lose 10 = .ok (.getfield 9, 3) := by decide +kernel
theorem dX7_lose_13 : decode cX7_lose 13 = .ok (.iload_n 1, 1) := by decide +kernel
theorem dX7_lose_14 : decode cX7_lose 14 = .ok (.iaload, 1) := by decide +kernel
theorem dX7_lose_15 : decode cX7_lose 15 = .ok (.bipush (-9), 2) := by decide +kernel
theorem dX7_lose_17 : decode cX7_lose 17 = .ok (.if_icmp .ne 7, 3) := by decide +kernel
theorem dX7_lose_20 : decode cX7_lose 20 = .ok (.iconst 0, 1) := by decide +kernel
theorem dX7_lose_21 : decode cX7_lose 21 = .ok (.goto 4, 3) := by decide +kernel
theorem dX7_lose_24 : decode cX7_lose 24 = .ok (.iconst 1, 1) := by decide +kernel
theorem dX7_lose_25 : decode cX7_lose 25 = .ok (.istore_n 2, 1) := by decide +kernel
theorem dX7_lose_26 : decode cX7_lose 26 = .ok (.aload_n 0, 1) := by decide +kernel
theorem dX7_lose_27 : decode cX7_lose 27 = .ok (.getfield 9, 3) := by decide +kernel
theorem dX7_lose_30 : decode cX7_lose 30 = .ok (.iload_n 1, 1) := by decide +kernel
theorem dX7_lose_31 : decode cX7_lose 31 = .ok (.bipush (-9), 2) := by decide +kernel
theorem dX7_lose_33 : decode cX7_lose 33 = .ok (.iastore, 1) := by decide +kernel
theorem dX7_lose_34 : decode cX7_lose 34 = .ok (.iload_n 2, 1) := by decide +kernel
theorem dX7_lose_35 : decode cX7_lose 35 = .ok (.ireturn, 1) := by decide +kernel
theorem dX7_put_0 : decode cX7_put 0 = .ok (.aload_n 0, 1) := by decide +kernel
theorem dX7_put_1 : decode cX7_put 1 = .ok (.iconst 0, 1) := by decide +kernel
theorem dX7_put_2 : decode cX7_put 2 = .ok (.putfield 73, 3) := by decide +kernel
theorem dX7_put_5 : decode cX7_put 5 = .ok (.iload_n 1, 1) := by decide +kernel
theorem dX7_put_6 : decode cX7_put 6 = .ok (.invokestatic 95, 3) := by decide +kernel
theorem dX7_put_9 : decode cX7_put 9 = .ok (.ifCond .ne 5, 3) := by decide +kernel
theorem dX7_put_12 : decode cX7_put 12 = .ok (.iconst (-1), 1) := by decide +kernel
theorem dX7_put_13 : decode cX7_put 13 = .ok (.ireturn, 1) := by decide +kernel
theorem dX7_put_14 : decode cX7_put 14 = .ok (.aload_n 0, 1) := by decide +kernel
theorem dX7_put_15 : decode cX7_put 15 = .ok (.getfield 9, 3) := by decide +kernel
theorem dX7_put_18 : decode cX7_put 18 = .ok (.iload_n 1, 1) := by decide +kernel
theorem dX7_put_19 : decode cX7_put 19 = .ok (.iaload, 1) := by decide +kernel
theorem dX7_put_20 : decode cX7_put 20 = .ok (.bipush (-9), 2) := by decide +kernel
theorem dX7_put_22 : decode cX7_put 22 = .ok (.if_icmp .ne 9, 3) := by decide +kernel
theorem dX7_put_25 : decode cX7_put 25 = .ok (.aload_n 0, 1) := by decide +kernel
theorem dX7_put_26 : decode cX7_put 26 = .ok (.iconst 1, 1) := by decide +kernel
theorem dX7_put_27 : decode cX7_put 27 = .ok (.invokevirtual 106, 3) := by decide +kernel
theorem dX7_put_30 : decode cX7_put 30 = .ok (.ireturn, 1) := by decide +kernel
theorem dX7_put_31 : decode cX7_put 31 = .ok (.iload_n 2, 1) := by decide +kernel
theorem dX7_put_32 : decode cX7_put 32 = .ok (.iconst 0, 1) := by decide +kernel
theorem dX7_put_33 : decode cX7_put 33 = .ok (.aload_n 0, 1) := by decide +kernel
theorem dX7_put_34 : decode cX7_put 34 = .ok (.getfield 13, 3) := by decide +kernel
theorem dX7_put_37 : decode cX7_put 37 = .ok (.iload_n 1, 1) := by decide +kernel
theorem dX7_put_38 : decode cX7_put 38 = .ok (.iaload, 1) := by decide +kernel
theorem dX7_put_39 : decode cX7_put 39 = .ok (.iconst 1, 1) := by decide +kernel
theorem dX7_put_40 : decode cX7_put 40 = .ok (.isub, 1) := by decide +kernel
theorem dX7_put_41 : decode cX7_put 41 = .ok (.invokestatic 79, 3) := by decide +kernel
theorem dX7_put_44 : decode cX7_put 44 = .ok (.ifCond .ne 9, 3) := by decide +kernel
theorem dX7_put_47 : decode cX7_put 47 = .ok (.aload_n 0, 1) := by decide +kernel
theorem dX7_put_48 : decode cX7_put 48 = .ok (.iconst 3, 1) := by decide +kernel
theorem dX7_put_49 : decode cX7_put 49 = .ok (.invokevirtual 106, 3) := by decide +kernel
theorem dX7_put_52 : decode cX7_put 52 = .ok (.ireturn, 1) := by decide +kernel
theorem dX7_put_53 : decode cX7_put 53 = .ok (.aload_n 0, 1) := by decide +kernel
theorem dX7_put_54 : decode cX7_put 54 = .ok (.getfield 16, 3) := by decide +kernel
theorem dX7_put_57 : decode cX7_put 57 = .ok (.bipush 60, 2) := by decide +kernel
theorem dX7_put_59 : decode cX7_put 59 = .ok (.iload_n 1, 1) := by decide +kernel
theorem dX7_put_60 : decode cX7_put 60 = .ok (.imul, 1) := by decide +kernel
theorem dX7_put_61 : decode cX7_put 61 = .ok (.iload_n 2, 1) := by decide +kernel
theorem dX7_put_62 : decode cX7_put 62 = .ok (.iadd, 1) := by decide +kernel
theorem dX7_put_63 : decode cX7_put 63 = .ok (.aload_n 0, 1) := by decide +kernel
theorem dX7_put_64 : decode cX7_put 64 = .ok (.getfield 9, 3) := by decide +kernel
theorem dX7_put_67 : decode cX7_put 67 = .ok (.iload_n 1, 1) := by decide +kernel
theorem dX7_put_68 : decode cX7_put 68 = .ok (.iaload, 1) := by decide +kernel
theorem dX7_put_69 : decode cX7_put 69 = .ok (.ifCond .ne 8, 3) := by decide +kernel
theorem dX7_put_72 : decode cX7_put 72 = .ok (.iload_n 3, 1) := by decide +kernel
theorem dX7_put_73 : decode cX7_put 73 = .ok (.i2b, 1) := by decide +kernel
theorem dX7_put_74 : decode cX7_put 74 = .ok (.goto 19, 3) := by decide +kernel
theorem dX7_put_77 : decode cX7_put 77 = .ok (.aload_n 0, 1) := by decide +kernel
theorem dX7_put_78 : decode cX7_put 78 = .ok (.getfield 9, 3) := by decide +kernel
theorem dX7_put_81 : decode cX7_put 81 = .ok (.iload_n 1, 1) := by decide +kernel
theorem dX7_put_82 : decode cX7_put 82 = .ok (.iaload, 1) := by decide +kernel
theorem dX7_put_83 : decode cX7_put 83 = .ok (.iconst 1, 1) := by decide +kernel
theorem dX7_put_84 : decode cX7_put 84 = .ok (.if_icmp .ne 8, 3) := by decide +kernel
theorem dX7_put_87 : decode cX7_put 87 = .ok (.iload_n 3, 1) := by decide +kernel
theorem dX7_put_88 : decode cX7_put 88 = .ok (.i2s, 1) := by decide +kernel
theorem dX7_put_89 : decode cX7_put 89 = .ok (.goto 4, 3) := by decide +kernel
theorem dX7_put_92 : decode cX7_put 92 = .ok (.iload_n 3, 1) := by decide +kernel
theorem dX7_put_93 : decode cX7_put 93 = .ok (.iastore, 1) := by decide +kernel
theorem dX7_put_94 : decode cX7_put 94 = .ok (.iconst 1, 1) := by decide +kernel
theorem dX7_put_95 : decode cX7_put 95 = .ok (.ireturn, 1) := by decide +kernel
theorem dX7_cell_0 : decode cX7_cell 0 = .ok (.aload_n 0, 1) := by decide +kernel
theorem dX7_cell_1 : decode cX7_cell 1 = .ok (.iconst 0, 1) := by decide +kernel
theorem dX7_cell_2 : decode cX7_cell 2 = .ok (.putfield 73, 3) := by decide +kernel
theorem dX7_cell_5 : decode cX7_cell 5 = .ok (.iload_n 1, 1) := by decide +kernel
theorem dX7_cell_6 : decode cX7_cell 6 = .ok (.invokestatic 95, 3) := by decide +kernel
theorem dX7_cell_9 : decode cX7_cell 9 = .ok (.ifCond .eq 10, 3) := by decide +kernel
theorem dX7_cell_12 : decode cX7_cell 12 = .ok (.iload_n 3, 1) := by decide +kernel
theorem dX7_cell_13 : decode cX7_cell 13 = .ok (.invokestatic 99, 3) := by decide +kernel
theorem dX7_cell_16 : decode cX7_cell 16 = .ok (.ifCond .ne 7, 3) := by decide +kernel
theorem dX7_cell_19 : decode cX7_cell 19 = .ok (.ldc2_w 77, 3) := by decide +kernel
theorem dX7_cell_22 : decode cX7_cell 22 = .ok (.lreturn, 1) := by decide +kernel
theorem dX7_cell_23 : decode cX7_cell 23 = .ok (.aload_n 0, 1) := by decide +kernel
theorem dX7_cell_24 : decode cX7_cell 24 = .ok (.getfield 9, 3) := by decide +kernel
theorem dX7_cell_27 : decode cX7_cell 27 = .ok (.iload_n 1, 1) := by decide +kernel
theorem dX7_cell_28 : decode cX7_cell 28 = .ok (.iaload, 1) := by decide +kernel
theorem dX7_cell_29 : decode cX7_cell 29 = .ok (.bipush (-9), 2) := by decide +kernel
theorem dX7_cell_31 : decode cX7_cell 31 = .ok (.if_icmp .eq 19, 3) := by decide +kernel
theorem dX7_cell_34 : decode cX7_cell 34 = .ok (.aload_n 0, 1) := by decide +kernel
theorem dX7_cell_35 : decode cX7_cell 35 = .ok (.getfield 9, 3) := by decide +kernel
theorem dX7_cell_38 : decode cX7_cell 38 = .ok (.iload_n 1, 1) := by decide +kernel
theorem dX7_cell_39 : decode cX7_cell 39 = .ok (.iaload, 1) := by decide +kernel
theorem dX7_cell_40 : decode cX7_cell 40 = .ok (.iload_n 3, 1) := by decide +kernel
theorem dX7_cell_41 : decode cX7_cell 41 = .ok (.if_icmp .eq 9, 3) := by decide +kernel
theorem dX7_cell_44 : decode cX7_cell 44 = .ok (.aload_n 0, 1) := by decide +kernel
theorem dX7_cell_45 : decode cX7_cell 45 = .ok (.iconst 2, 1) := by decide +kernel
theorem dX7_cell_46 : decode cX7_cell 46 = .ok (.invokevirtual 216, 3) := by decide +kernel
theorem dX7_cell_49 : decode cX7_cell 49 = .ok (.lreturn, 1) := by decide +kernel
theorem dX7_cell_50 : decode cX7_cell 50 = .ok (.aload_n 0, 1) := by decide +kernel
theorem dX7_cell_51 : decode cX7_cell 51 = .ok (.getfield 9, 3) := by decide +kernel
theorem dX7_cell_54 : decode cX7_cell 54 = .ok (.iload_n 1, 1) := by decide +kernel
theorem dX7_cell_55 : decode cX7_cell 55 = .ok (.iaload, 1) := by decide +kernel
theorem dX7_cell_56 : decode cX7_cell 56 = .ok (.bipush (-9), 2) := by decide +kernel
theorem dX7_cell_58 : decode cX7_cell 58 = .ok (.if_icmp .ne 9, 3) := by decide +kernel
theorem dX7_cell_61 : decode cX7_cell 61 = .ok (.aload_n 0, 1) := by decide +kernel
theorem dX7_cell_62 : decode cX7_cell 62 = .ok (.iconst 1, 1) := by decide +kernel
theorem dX7_cell_63 : decode cX7_cell 63 = .ok (.invokevirtual 216, 3) := by decide +kernel
theorem dX7_cell_66 : decode cX7_cell 66 = .ok (.lreturn, 1) := by decide +kernel
theorem dX7_cell_67 : decode cX7_cell 67 = .ok (.iload_n 2, 1) := by decide +kernel
theorem dX7_cell_68 : decode cX7_cell 68 = .ok (.iconst 0, 1) := by decide +kernel
theorem dX7_cell_69 : decode cX7_cell 69 = .ok (.aload_n 0, 1) := by decide +kernel
theorem dX7_cell_70 : decode cX7_cell 70 = .ok (.getfield 13, 3) := by decide +kernel
theorem dX7_cell_73 : decode cX7_cell 73 = .ok (.iload_n 1, 1) := by decide +kernel
theorem dX7_cell_74 : decode cX7_cell 74 = .ok (.iaload, 1) := by decide +kernel
theorem dX7_cell_75 : decode cX7_cell 75 = .ok (.iconst 1, 1) := by decide +kernel
theorem dX7_cell_76 : decode cX7_cell 76 = .ok (.isub, 1) := by decide +kernel
theorem dX7_cell_77 : decode cX7_cell 77 = .ok (.invokestatic 79, 3) := by decide +kernel
theorem dX7_cell_80 : decode cX7_cell 80 = .ok (.ifCond .ne 9, 3) := by decide +kernel
