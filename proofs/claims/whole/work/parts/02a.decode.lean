theorem dX0_init_0 : decode cX0_init 0 = .ok (.aload_n 0, 1) := by decide +kernel
theorem dX0_init_1 : decode cX0_init 1 = .ok (.invokespecial 3, 3) := by decide +kernel
theorem dX0_init_4 : decode cX0_init 4 = .ok (.aload_n 0, 1) := by decide +kernel
theorem dX0_init_5 : decode cX0_init 5 = .ok (.iconst 0, 1) := by decide +kernel
theorem dX0_init_6 : decode cX0_init 6 = .ok (.putfield 9, 3) := by decide +kernel
theorem dX0_init_9 : decode cX0_init 9 = .ok (.aload_n 0, 1) := by decide +kernel
theorem dX0_init_10 : decode cX0_init 10 = .ok (.iconst 0, 1) := by decide +kernel
theorem dX0_init_11 : decode cX0_init 11 = .ok (.putfield 15, 3) := by decide +kernel
theorem dX0_init_14 : decode cX0_init 14 = .ok (.aload_n 0, 1) := by decide +kernel
theorem dX0_init_15 : decode cX0_init 15 = .ok (.iconst 0, 1) := by decide +kernel
theorem dX0_init_16 : decode cX0_init 16 = .ok (.putfield 18, 3) := by decide +kernel
theorem dX0_init_19 : decode cX0_init 19 = .ok (.aload_n 0, 1) := by decide +kernel
theorem dX0_init_20 : decode cX0_init 20 = .ok (.iconst 4, 1) := by decide +kernel
theorem dX0_init_21 : decode cX0_init 21 = .ok (.newarray .int, 2) := by decide +kernel
theorem dX0_init_23 : decode cX0_init 23 = .ok (.putfield 21, 3) := by decide +kernel
theorem dX0_init_26 : decode cX0_init 26 = .ok (.aload_n 0, 1) := by decide +kernel
theorem dX0_init_27 : decode cX0_init 27 = .ok (.iconst 4, 1) := by decide +kernel
theorem dX0_init_28 : decode cX0_init 28 = .ok (.newarray .int, 2) := by decide +kernel
theorem dX0_init_30 : decode cX0_init 30 = .ok (.putfield 25, 3) := by decide +kernel
theorem dX0_init_33 : decode cX0_init 33 = .ok (.aload_n 0, 1) := by decide +kernel
theorem dX0_init_34 : decode cX0_init 34 = .ok (.iconst 4, 1) := by decide +kernel
theorem dX0_init_35 : decode cX0_init 35 = .ok (.newarray .int, 2) := by decide +kernel
theorem dX0_init_37 : decode cX0_init 37 = .ok (.putfield 28, 3) := by decide +kernel
theorem dX0_init_40 : decode cX0_init 40 = .ok (.aload_n 0, 1) := by decide +kernel
theorem dX0_init_41 : decode cX0_init 41 = .ok (.iconst 4, 1) := by decide +kernel
theorem dX0_init_42 : decode cX0_init 42 = .ok (.newarray .int, 2) := by decide +kernel
theorem dX0_init_44 : decode cX0_init 44 = .ok (.putfield 31, 3) := by decide +kernel
theorem dX0_init_47 : decode cX0_init 47 = .ok (.aload_n 0, 1) := by decide +kernel
theorem dX0_init_48 : decode cX0_init 48 = .ok (.bipush 8, 2) := by decide +kernel
theorem dX0_init_50 : decode cX0_init 50 = .ok (.newarray .int, 2) := by decide +kernel
theorem dX0_init_52 : decode cX0_init 52 = .ok (.putfield 34, 3) := by decide +kernel
theorem dX0_init_55 : decode cX0_init 55 = .ok (.aload_n 0, 1) := by decide +kernel
theorem dX0_init_56 : decode cX0_init 56 = .ok (.bipush 8, 2) := by decide +kernel
theorem dX0_init_58 : decode cX0_init 58 = .ok (.newarray .int, 2) := by decide +kernel
theorem dX0_init_60 : decode cX0_init 60 = .ok (.putfield 37, 3) := by decide +kernel
theorem dX0_init_63 : decode cX0_init 63 = .ok (.aload_n 0, 1) := by decide +kernel
theorem dX0_init_64 : decode cX0_init 64 = .ok (.bipush 8, 2) := by decide +kernel
theorem dX0_init_66 : decode cX0_init 66 = .ok (.newarray .int, 2) := by decide +kernel
theorem dX0_init_68 : decode cX0_init 68 = .ok (.putfield 40, 3) := by decide +kernel
theorem dX0_init_71 : decode cX0_init 71 = .ok (.aload_n 0, 1) := by decide +kernel
theorem dX0_init_72 : decode cX0_init 72 = .ok (.new 43, 3) := by decide +kernel
theorem dX0_init_75 : decode cX0_init 75 = .ok (.dup, 1) := by decide +kernel
theorem dX0_init_76 : decode cX0_init 76 = .ok (.invokespecial 45, 3) := by decide +kernel
theorem dX0_init_79 : decode cX0_init 79 = .ok (.putfield 46, 3) := by decide +kernel
theorem dX0_init_82 : decode cX0_init 82 = .ok (.aload_n 0, 1) := by decide +kernel
theorem dX0_init_83 : decode cX0_init 83 = .ok (.new 43, 3) := by decide +kernel
theorem dX0_init_86 : decode cX0_init 86 = .ok (.dup, 1) := by decide +kernel
theorem dX0_init_87 : decode cX0_init 87 = .ok (.invokespecial 45, 3) := by decide +kernel
theorem dX0_init_90 : decode cX0_init 90 = .ok (.putfield 50, 3) := by decide +kernel
theorem dX0_init_93 : decode cX0_init 93 = .ok (.aload_n 0, 1) := by decide +kernel
theorem dX0_init_94 : decode cX0_init 94 = .ok (.iconst 4, 1) := by decide +kernel
theorem dX0_init_95 : decode cX0_init 95 = .ok (.bipush 8, 2) := by decide +kernel
theorem dX0_init_97 : decode cX0_init 97 = .ok (.multianewarray 53 2, 4) := by decide +kernel
theorem dX0_init_101 : decode cX0_init 101 = .ok (.putfield 55, 3) := by decide +kernel
theorem dX0_init_104 : decode cX0_init 104 = .ok (.aload_n 0, 1) := by decide +kernel
theorem dX0_init_105 : decode cX0_init 105 = .ok (.iconst 4, 1) := by decide +kernel
theorem dX0_init_106 : decode cX0_init 106 = .ok (.newarray .int, 2) := by decide +kernel
theorem dX0_init_108 : decode cX0_init 108 = .ok (.putfield 58, 3) := by decide +kernel
theorem dX0_init_111 : decode cX0_init 111 = .ok (.return_, 1) := by decide +kernel
theorem dX0_takeText_0 : decode cX0_takeText 0 = .ok (.aload_n 0, 1) := by decide +kernel
theorem dX0_takeText_1 : decode cX0_takeText 1 = .ok (.iconst 0, 1) := by decide +kernel
theorem dX0_takeText_2 : decode cX0_takeText 2 = .ok (.putfield 9, 3) := by decide +kernel
theorem dX0_takeText_5 : decode cX0_takeText 5 = .ok (.aload_n 0, 1) := by decide +kernel
theorem dX0_takeText_6 : decode cX0_takeText 6 = .ok (.iconst 0, 1) := by decide +kernel
theorem dX0_takeText_7 : decode cX0_takeText 7 = .ok (.putfield 15, 3) := by decide +kernel
theorem dX0_takeText_10 : decode cX0_takeText 10 = .ok (.aload_n 0, 1) := by decide +kernel
theorem dX0_takeText_11 : decode cX0_takeText 11 = .ok (.iconst 0, 1) := by decide +kernel
theorem dX0_takeText_12 : decode cX0_takeText 12 = .ok (.putfield 18, 3) := by decide +kernel
theorem dX0_takeText_15 : decode cX0_takeText 15 = .ok (.aload_n 0, 1) := by decide +kernel
theorem dX0_takeText_16 : decode cX0_takeText 16 = .ok (.getfield 46, 3) := by decide +kernel
theorem dX0_takeText_19 : decode cX0_takeText 19 = .ok (.iconst 0, 1) := by decide +kernel
theorem dX0_takeText_20 : decode cX0_takeText 20 = .ok (.putfield 61, 3) := by decide +kernel
theorem dX0_takeText_23 : decode cX0_takeText 23 = .ok (.aload_n 0, 1) := by decide +kernel
theorem dX0_takeText_24 : decode cX0_takeText 24 = .ok (.getfield 50, 3) := by decide +kernel
theorem dX0_takeText_27 : decode cX0_takeText 27 = .ok (.iconst 0, 1) := by decide +kernel
theorem dX0_takeText_28 : decode cX0_takeText 28 = .ok (.putfield 61, 3) := by decide +kernel
theorem dX0_takeText_31 : decode cX0_takeText 31 = .ok (.iconst 0, 1) := by decide +kernel
theorem dX0_takeText_32 : decode cX0_takeText 32 = .ok (.istore 4, 2) := by decide +kernel
theorem dX0_takeText_34 : decode cX0_takeText 34 = .ok (.iload 4, 2) := by decide +kernel
theorem dX0_takeText_36 : decode cX0_takeText 36 = .ok (.iload_n 3, 1) := by decide +kernel
theorem dX0_takeText_37 : decode cX0_takeText 37 = .ok (.if_icmp .ge 27, 3) := by decide +kernel
theorem dX0_takeText_40 : decode cX0_takeText 40 = .ok (.aload_n 0, 1) := by decide +kernel
theorem dX0_takeText_41 : decode cX0_takeText 41 = .ok (.iload 4, 2) := by decide +kernel
theorem dX0_takeText_43 : decode cX0_takeText 43 = .ok (.aload_n 1, 1) := by decide +kernel
theorem dX0_takeText_44 : decode cX0_takeText 44 = .ok (.iload_n 2, 1) := by decide +kernel
theorem dX0_takeText_45 : decode cX0_takeText 45 = .ok (.iload 4, 2) := by decide +kernel
theorem dX0_takeText_47 : decode cX0_takeText 47 = .ok (.iadd, 1) := by decide +kernel
theorem dX0_takeText_48 : decode cX0_takeText 48 = .ok (.iaload, 1) := by decide +kernel
theorem dX0_takeText_49 : decode cX0_takeText 49 = .ok (.invokevirtual 64, 3) := by decide +kernel
theorem dX0_takeText_52 : decode cX0_takeText 52 = .ok (.ifCond .ne 6, 3) := by decide +kernel
theorem dX0_takeText_55 : decode cX0_takeText 55 = .ok (.iload 4, 2) := by decide +kernel
theorem dX0_takeText_57 : decode cX0_takeText 57 = .ok (.ireturn, 1) := by decide +kernel
theorem dX0_takeText_58 : decode cX0_takeText 58 = .ok (.iinc 4 1, 3) := by decide +kernel
theorem dX0_takeText_61 : decode cX0_takeText 61 = .ok (.goto (-27), 3) := by decide +kernel
theorem dX0_takeText_64 : decode cX0_takeText 64 = .ok (.aload_n 0, 1) := by decide +kernel
theorem dX0_takeText_65 : decode cX0_takeText 65 = .ok (.getfield 18, 3) := by decide +kernel
theorem dX0_takeText_68 : decode cX0_takeText 68 = .ok (.ifCond .eq 11, 3) := by decide +kernel
theorem dX0_takeText_71 : decode cX0_takeText 71 = .ok (.iload_n 3, 1) := by decide +kernel
theorem dX0_takeText_72 : decode cX0_takeText 72 = .ok (.iconst 2, 1) := by decide +kernel
theorem dX0_takeText_73 : decode cX0_takeText 73 = .ok (.isub, 1) := by decide +kernel
theorem dX0_takeText_74 : decode cX0_takeText 74 = .ok (.iconst 4, 1) := by decide +kernel
theorem dX0_takeText_75 : decode cX0_takeText 75 = .ok (.irem, 1) := by decide +kernel
theorem dX0_takeText_76 : decode cX0_takeText 76 = .ok (.ifCond .eq 5, 3) := by decide +kernel
theorem dX0_takeText_79 : decode cX0_takeText 79 = .ok (.iload_n 3, 1) := by decide +kernel
theorem dX0_takeText_80 : decode cX0_takeText 80 = .ok (.ireturn, 1) := by decide +kernel
theorem dX0_takeText_81 : decode cX0_takeText 81 = .ok (.aload_n 0, 1) := by decide +kernel
theorem dX0_takeText_82 : decode cX0_takeText 82 = .ok (.getfield 31, 3) := by decide +kernel
theorem dX0_takeText_85 : decode cX0_takeText 85 = .ok (.bipush (-9), 2) := by decide +kernel
theorem dX0_takeText_87 : decode cX0_takeText 87 = .ok (.invokestatic 68, 3) := by decide +kernel
theorem dX0_takeText_90 : decode cX0_takeText 90 = .ok (.aload_n 0, 1) := by decide +kernel
theorem dX0_takeText_91 : decode cX0_takeText 91 = .ok (.invokevirtual 74, 3) := by decide +kernel
theorem dX0_takeText_94 : decode cX0_takeText 94 = .ok (.bipush (-9), 2) := by decide +kernel
theorem dX0_takeText_96 : decode cX0_takeText 96 = .ok (.ireturn, 1) := by decide +kernel
theorem dX0_goesOn_0 : decode cX0_goesOn 0 = .ok (.iload_n 1, 1) := by decide +kernel
theorem dX0_goesOn_1 : decode cX0_goesOn 1 = .ok (.ifCond .ne 15, 3) := by decide +kernel
theorem dX0_goesOn_4 : decode cX0_goesOn 4 = .ok (.iload_n 2, 1) := by decide +kernel
theorem dX0_goesOn_5 : decode cX0_goesOn 5 = .ok (.bipush 113, 2) := by decide +kernel
theorem dX0_goesOn_7 : decode cX0_goesOn 7 = .ok (.if_icmp .ne 7, 3) := by decide +kernel
theorem dX0_goesOn_10 : decode cX0_goesOn 10 = .ok (.iconst 1, 1) := by decide +kernel
theorem dX0_goesOn_11 : decode cX0_goesOn 11 = .ok (.goto 4, 3) := by decide +kernel
theorem dX0_goesOn_14 : decode cX0_goesOn 14 = .ok (.iconst 0, 1) := by decide +kernel
theorem dX0_goesOn_15 : decode cX0_goesOn 15 = .ok (.ireturn, 1) := by decide +kernel
theorem dX0_goesOn_16 : decode cX0_goesOn 16 = .ok (.iload_n 1, 1) := by decide +kernel
theorem dX0_goesOn_17 : decode cX0_goesOn 17 = .ok (.iconst 1, 1) := by decide +kernel
theorem dX0_goesOn_18 : decode cX0_goesOn 18 = .ok (.if_icmp .ne 18, 3) := by decide +kernel
theorem dX0_goesOn_21 : decode cX0_goesOn 21 = .ok (.aload_n 0, 1) := by decide +kernel
theorem dX0_goesOn_22 : decode cX0_goesOn 22 = .ok (.iload_n 2, 1) := by decide +kernel
theorem dX0_goesOn_23 : decode cX0_goesOn 23 = .ok (.bipush 48, 2) := by decide +kernel
theorem dX0_goesOn_25 : decode cX0_goesOn 25 = .ok (.isub, 1) := by decide +kernel
theorem dX0_goesOn_26 : decode cX0_goesOn 26 = .ok (.putfield 9, 3) := by decide +kernel
theorem dX0_goesOn_29 : decode cX0_goesOn 29 = .ok (.iload_n 2, 1) := by decide +kernel
theorem dX0_goesOn_30 : decode cX0_goesOn 30 = .ok (.iconst 1, 1) := by decide +kernel
theorem dX0_goesOn_31 : decode cX0_goesOn 31 = .ok (.iconst 5, 1) := by decide +kernel
theorem dX0_goesOn_32 : decode cX0_goesOn 32 = .ok (.invokestatic 77, 3) := by decide +kernel
theorem dX0_goesOn_35 : decode cX0_goesOn 35 = .ok (.ireturn, 1) := by decide +kernel
theorem dX0_goesOn_36 : decode cX0_goesOn 36 = .ok (.iload_n 1, 1) := by decide +kernel
theorem dX0_goesOn_37 : decode cX0_goesOn 37 = .ok (.iconst 2, 1) := by decide +kernel
theorem dX0_goesOn_38 : decode cX0_goesOn 38 = .ok (.isub, 1) := by decide +kernel
theorem dX0_goesOn_39 : decode cX0_goesOn 39 = .ok (.iconst 4, 1) := by decide +kernel
theorem dX0_goesOn_40 : decode cX0_goesOn 40 = .ok (.irem, 1) := by decide +kernel
theorem dX0_goesOn_41 : decode cX0_goesOn 41 = .ok (.istore_n 3, 1) := by decide +kernel
theorem dX0_goesOn_42 : decode cX0_goesOn 42 = .ok (.iload_n 3, 1) := by decide +kernel
theorem dX0_goesOn_43 : decode cX0_goesOn 43 = .ok (.ifCond .ne 9, 3) := by decide +kernel
theorem dX0_goesOn_46 : decode cX0_goesOn 46 = .ok (.aload_n 0, 1) := by decide +kernel
theorem dX0_goesOn_47 : decode cX0_goesOn 47 = .ok (.iload_n 2, 1) := by decide +kernel
theorem dX0_goesOn_48 : decode cX0_goesOn 48 = .ok (.invokevirtual 81, 3) := by decide +kernel
theorem dX0_goesOn_51 : decode cX0_goesOn 51 = .ok (.ireturn, 1) := by decide +kernel
theorem dX0_goesOn_52 : decode cX0_goesOn 52 = .ok (.aload_n 0, 1) := by decide +kernel
theorem dX0_goesOn_53 : decode cX0_goesOn 53 = .ok (.getfield 18, 3) := by decide +kernel
theorem dX0_goesOn_56 : decode cX0_goesOn 56 = .ok (.ifCond .ne 12, 3) := by decide +kernel
theorem dX0_goesOn_59 : decode cX0_goesOn 59 = .ok (.aload_n 0, 1) := by decide +kernel
theorem dX0_goesOn_60 : decode cX0_goesOn 60 = .ok (.iload_n 3, 1) := by decide +kernel
theorem dX0_goesOn_61 : decode cX0_goesOn 61 = .ok (.iload_n 2, 1) := by decide +kernel
theorem dX0_goesOn_62 : decode cX0_goesOn 62 = .ok (.invokevirtual 85, 3) := by decide +kernel
theorem dX0_goesOn_65 : decode cX0_goesOn 65 = .ok (.goto 9, 3) := by decide +kernel
theorem dX0_goesOn_68 : decode cX0_goesOn 68 = .ok (.aload_n 0, 1) := by decide +kernel
theorem dX0_goesOn_69 : decode cX0_goesOn 69 = .ok (.iload_n 3, 1) := by decide +kernel
theorem dX0_goesOn_70 : decode cX0_goesOn 70 = .ok (.iload_n 2, 1) := by decide +kernel
theorem dX0_goesOn_71 : decode cX0_goesOn 71 = .ok (.invokevirtual 88, 3) := by decide +kernel
theorem dX0_goesOn_74 : decode cX0_goesOn 74 = .ok (.ireturn, 1) := by decide +kernel
theorem dX0_begins_0 : decode cX0_begins 0 = .ok (.iload_n 1, 1) := by decide +kernel
theorem dX0_begins_1 : decode cX0_begins 1 = .ok (.bipush 44, 2) := by decide +kernel
theorem dX0_begins_3 : decode cX0_begins 3 = .ok (.if_icmp .ne 30, 3) := by decide +kernel
theorem dX0_begins_6 : decode cX0_begins 6 = .ok (.aload_n 0, 1) := by decide +kernel
theorem dX0_begins_7 : decode cX0_begins 7 = .ok (.getfield 18, 3) := by decide +kernel
theorem dX0_begins_10 : decode cX0_begins 10 = .ok (.ifCond .ne 23, 3) := by decide +kernel
theorem dX0_begins_13 : decode cX0_begins 13 = .ok (.aload_n 0, 1) := by decide +kernel
theorem dX0_begins_14 : decode cX0_begins 14 = .ok (.getfield 15, 3) := by decide +kernel
theorem dX0_begins_17 : decode cX0_begins 17 = .ok (.iconst 4, 1) := by decide +kernel
theorem dX0_begins_18 : decode cX0_begins 18 = .ok (.if_icmp .ge 15, 3) := by decide +kernel
theorem dX0_begins_21 : decode cX0_begins 21 = .ok (.aload_n 0, 1) := by decide +kernel
theorem dX0_begins_22 : decode cX0_begins 22 = .ok (.dup, 1) := by decide +kernel
theorem dX0_begins_23 : decode cX0_begins 23 = .ok (.getfield 15, 3) := by decide +kernel
theorem dX0_begins_26 : decode cX0_begins 26 = .ok (.iconst 1, 1) := by decide +kernel
theorem dX0_begins_27 : decode cX0_begins 27 = .ok (.iadd, 1) := by decide +kernel
theorem dX0_begins_28 : decode cX0_begins 28 = .ok (.putfield 15, 3) := by decide +kernel
theorem dX0_begins_31 : decode cX0_begins 31 = .ok (.iconst 1, 1) := by decide +kernel
theorem dX0_begins_32 : decode cX0_begins 32 = .ok (.ireturn, 1) := by decide +kernel
theorem dX0_begins_33 : decode cX0_begins 33 = .ok (.iload_n 1, 1) := by decide +kernel
theorem dX0_begins_34 : decode cX0_begins 34 = .ok (.bipush 59, 2) := by decide +kernel
theorem dX0_begins_36 : decode cX0_begins 36 = .ok (.if_icmp .ne 31, 3) := by decide +kernel
theorem dX0_begins_39 : decode cX0_begins 39 = .ok (.aload_n 0, 1) := by decide +kernel
theorem dX0_begins_40 : decode cX0_begins 40 = .ok (.getfield 15, 3) := by decide +kernel
theorem dX0_begins_43 : decode cX0_begins 43 = .ok (.ifCond .le 24, 3) := by decide +kernel
theorem dX0_begins_46 : decode cX0_begins 46 = .ok (.aload_n 0, 1) := by decide +kernel
theorem dX0_begins_47 : decode cX0_begins 47 = .ok (.getfield 18, 3) := by decide +kernel
theorem dX0_begins_50 : decode cX0_begins 50 = .ok (.bipush 8, 2) := by decide +kernel
theorem dX0_begins_52 : decode cX0_begins 52 = .ok (.if_icmp .ge 15, 3) := by decide +kernel
theorem dX0_begins_55 : decode cX0_begins 55 = .ok (.aload_n 0, 1) := by decide +kernel
theorem dX0_begins_56 : decode cX0_begins 56 = .ok (.dup, 1) := by decide +kernel
theorem dX0_begins_57 : decode cX0_begins 57 = .ok (.getfield 18, 3) := by decide +kernel
theorem dX0_begins_60 : decode cX0_begins 60 = .ok (.iconst 1, 1) := by decide +kernel
theorem dX0_begins_61 : decode cX0_begins 61 = .ok (.iadd, 1) := by decide +kernel
theorem dX0_begins_62 : decode cX0_begins 62 = .ok (.putfield 18, 3) := by decide +kernel
theorem dX0_begins_65 : decode cX0_begins 65 = .ok (.iconst 1, 1) := by decide +kernel
theorem dX0_begins_66 : decode cX0_begins 66 = .ok (.ireturn, 1) := by decide +kernel
theorem dX0_begins_67 : decode cX0_begins 67 = .ok (.iconst 0, 1) := by decide +kernel
theorem dX0_begins_68 : decode cX0_begins 68 = .ok (.ireturn, 1) := by decide +kernel
theorem dX0_cheeseGoesOn_0 : decode cX0_cheeseGoesOn 0 = .ok (.aload_n 0, 1) := by decide +kernel
theorem dX0_cheeseGoesOn_1 : decode cX0_cheeseGoesOn 1 = .ok (.getfield 15, 3) := by decide +kernel
theorem dX0_cheeseGoesOn_4 : decode cX0_cheeseGoesOn 4 = .ok (.iconst 1, 1) := by decide +kernel
theorem dX0_cheeseGoesOn_5 : decode cX0_cheeseGoesOn 5 = .ok (.isub, 1) := by decide +kernel
theorem dX0_cheeseGoesOn_6 : decode cX0_cheeseGoesOn 6 = .ok (.istore_n 3, 1) := by decide +kernel
theorem dX0_cheeseGoesOn_7 : decode cX0_cheeseGoesOn 7 = .ok (.iload_n 1, 1) := by decide +kernel
theorem dX0_cheeseGoesOn_8 : decode cX0_cheeseGoesOn 8 = .ok (.iconst 1, 1) := by decide +kernel
theorem dX0_cheeseGoesOn_9 : decode cX0_cheeseGoesOn 9 = .ok (.if_icmp .ne 30, 3) := by decide +kernel
theorem dX0_cheeseGoesOn_12 : decode cX0_cheeseGoesOn 12 = .ok (.aload_n 0, 1) := by decide +kernel
theorem dX0_cheeseGoesOn_13 : decode cX0_cheeseGoesOn 13 = .ok (.getfield 21, 3) := by decide +kernel
theorem dX0_cheeseGoesOn_16 : decode cX0_cheeseGoesOn 16 = .ok (.iload_n 3, 1) := by decide +kernel
theorem dX0_cheeseGoesOn_17 : decode cX0_cheeseGoesOn 17 = .ok (.iload_n 2, 1) := by decide +kernel
theorem dX0_cheeseGoesOn_18 : decode cX0_cheeseGoesOn 18 = .ok (.invokestatic 91, 3) := by decide +kernel
theorem dX0_cheeseGoesOn_21 : decode cX0_cheeseGoesOn 21 = .ok (.iastore, 1) := by decide +kernel
theorem dX0_cheeseGoesOn_22 : decode cX0_cheeseGoesOn 22 = .ok (.aload_n 0, 1) := by decide +kernel
theorem dX0_cheeseGoesOn_23 : decode cX0_cheeseGoesOn 23 = .ok (.getfield 21, 3) := by decide +kernel
theorem dX0_cheeseGoesOn_26 : decode cX0_cheeseGoesOn 26 = .ok (.iload_n 3, 1) := by decide +kernel
theorem dX0_cheeseGoesOn_27 : decode cX0_cheeseGoesOn 27 = .ok (.iaload, 1) := by decide +kernel
theorem dX0_cheeseGoesOn_28 : decode cX0_cheeseGoesOn 28 = .ok (.bipush (-9), 2) := by decide +kernel
theorem dX0_cheeseGoesOn_30 : decode cX0_cheeseGoesOn 30 = .ok (.if_icmp .eq 7, 3) := by decide +kernel
theorem dX0_cheeseGoesOn_33 : decode cX0_cheeseGoesOn 33 = .ok (.iconst 1, 1) := by decide +kernel
theorem dX0_cheeseGoesOn_34 : decode cX0_cheeseGoesOn 34 = .ok (.goto 4, 3) := by decide +kernel
theorem dX0_cheeseGoesOn_37 : decode cX0_cheeseGoesOn 37 = .ok (.iconst 0, 1) := by decide +kernel
theorem dX0_cheeseGoesOn_38 : decode cX0_cheeseGoesOn 38 = .ok (.ireturn, 1) := by decide +kernel
theorem dX0_cheeseGoesOn_39 : decode cX0_cheeseGoesOn 39 = .ok (.iload_n 1, 1) := by decide +kernel
theorem dX0_cheeseGoesOn_40 : decode cX0_cheeseGoesOn 40 = .ok (.iconst 2, 1) := by decide +kernel
theorem dX0_cheeseGoesOn_41 : decode cX0_cheeseGoesOn 41 = .ok (.if_icmp .ne 25, 3) := by decide +kernel
theorem dX0_cheeseGoesOn_44 : decode cX0_cheeseGoesOn 44 = .ok (.aload_n 0, 1) := by decide +kernel
theorem dX0_cheeseGoesOn_45 : decode cX0_cheeseGoesOn 45 = .ok (.getfield 25, 3) := by decide +kernel
theorem dX0_cheeseGoesOn_48 : decode cX0_cheeseGoesOn 48 = .ok (.iload_n 3, 1) := by decide +kernel
theorem dX0_cheeseGoesOn_49 : decode cX0_cheeseGoesOn 49 = .ok (.iload_n 2, 1) := by decide +kernel
theorem dX0_cheeseGoesOn_50 : decode cX0_cheeseGoesOn 50 = .ok (.bipush 48, 2) := by decide +kernel
theorem dX0_cheeseGoesOn_52 : decode cX0_cheeseGoesOn 52 = .ok (.isub, 1) := by decide +kernel
theorem dX0_cheeseGoesOn_53 : decode cX0_cheeseGoesOn 53 = .ok (.iastore, 1) := by decide +kernel
theorem dX0_cheeseGoesOn_54 : decode cX0_cheeseGoesOn 54 = .ok (.iload_n 2, 1) := by decide +kernel
theorem dX0_cheeseGoesOn_55 : decode cX0_cheeseGoesOn 55 = .ok (.iconst 0, 1) := by decide +kernel
theorem dX0_cheeseGoesOn_56 : decode cX0_cheeseGoesOn 56 = .ok (.aload_n 0, 1) := by decide +kernel
theorem dX0_cheeseGoesOn_57 : decode cX0_cheeseGoesOn 57 = .ok (.getfield 9, 3) := by decide +kernel
theorem dX0_cheeseGoesOn_60 : decode cX0_cheeseGoesOn 60 = .ok (.iconst 1, 1) := by decide +kernel
theorem dX0_cheeseGoesOn_61 : decode cX0_cheeseGoesOn 61 = .ok (.isub, 1) := by decide +kernel
theorem dX0_cheeseGoesOn_62 : decode cX0_cheeseGoesOn 62 = .ok (.invokestatic 77, 3) := by decide +kernel
theorem dX0_cheeseGoesOn_65 : decode cX0_cheeseGoesOn 65 = .ok (.ireturn, 1) := by decide +kernel
theorem dX0_cheeseGoesOn_66 : decode cX0_cheeseGoesOn 66 = .ok (.aload_n 0, 1) := by decide +kernel
theorem dX0_cheeseGoesOn_67 : decode cX0_cheeseGoesOn 67 = .ok (.getfield 28, 3) := by decide +kernel
theorem dX0_cheeseGoesOn_70 : decode cX0_cheeseGoesOn 70 = .ok (.iload_n 3, 1) := by decide +kernel
theorem dX0_cheeseGoesOn_71 : decode cX0_cheeseGoesOn 71 = .ok (.iload_n 2, 1) := by decide +kernel
theorem dX0_cheeseGoesOn_72 : decode cX0_cheeseGoesOn 72 = .ok (.bipush 48, 2) := by decide +kernel
theorem dX0_cheeseGoesOn_74 : decode cX0_cheeseGoesOn 74 = .ok (.isub, 1) := by decide +kernel
theorem dX0_cheeseGoesOn_75 : decode cX0_cheeseGoesOn 75 = .ok (.iastore, 1) := by decide +kernel
theorem dX0_cheeseGoesOn_76 : decode cX0_cheeseGoesOn 76 = .ok (.iload_n 2, 1) := by decide +kernel
theorem dX0_cheeseGoesOn_77 : decode cX0_cheeseGoesOn 77 = .ok (.iconst 0, 1) := by decide +kernel
theorem dX0_cheeseGoesOn_78 : decode cX0_cheeseGoesOn 78 = .ok (.bipush 9, 2) := by decide +kernel
theorem dX0_cheeseGoesOn_80 : decode cX0_cheeseGoesOn 80 = .ok (.invokestatic 77, 3) := by decide +kernel
theorem dX0_cheeseGoesOn_83 : decode cX0_cheeseGoesOn 83 = .ok (.ireturn, 1) := by decide +kernel
theorem dX0_talkGoesOn_0 : decode cX0_talkGoesOn 0 = .ok (.aload_n 0, 1) := by decide +kernel
theorem dX0_talkGoesOn_1 : decode cX0_talkGoesOn 1 = .ok (.getfield 18, 3) := by decide +kernel
theorem dX0_talkGoesOn_4 : decode cX0_talkGoesOn 4 = .ok (.iconst 1, 1) := by decide +kernel
theorem dX0_talkGoesOn_5 : decode cX0_talkGoesOn 5 = .ok (.isub, 1) := by decide +kernel
theorem dX0_talkGoesOn_6 : decode cX0_talkGoesOn 6 = .ok (.istore_n 3, 1) := by decide +kernel
theorem dX0_talkGoesOn_7 : decode cX0_talkGoesOn 7 = .ok (.iload_n 1, 1) := by decide +kernel
theorem dX0_talkGoesOn_8 : decode cX0_talkGoesOn 8 = .ok (.iconst 1, 1) := by decide +kernel
theorem dX0_talkGoesOn_9 : decode cX0_talkGoesOn 9 = .ok (.if_icmp .ne 25, 3) := by decide +kernel
theorem dX0_talkGoesOn_12 : decode cX0_talkGoesOn 12 = .ok (.aload_n 0, 1) := by decide +kernel
theorem dX0_talkGoesOn_13 : decode cX0_talkGoesOn 13 = .ok (.getfield 34, 3) := by decide +kernel
theorem dX0_talkGoesOn_16 : decode cX0_talkGoesOn 16 = .ok (.iload_n 3, 1) := by decide +kernel
theorem dX0_talkGoesOn_17 : decode cX0_talkGoesOn 17 = .ok (.iload_n 2, 1) := by decide +kernel
theorem dX0_talkGoesOn_18 : decode cX0_talkGoesOn 18 = .ok (.bipush 48, 2) := by decide +kernel
theorem dX0_talkGoesOn_20 : decode cX0_talkGoesOn 20 = .ok (.isub, 1) := by decide +kernel
theorem dX0_talkGoesOn_21 : decode cX0_talkGoesOn 21 = .ok (.iastore, 1) := by decide +kernel
theorem dX0_talkGoesOn_22 : decode cX0_talkGoesOn 22 = .ok (.iload_n 2, 1) := by decide +kernel
theorem dX0_talkGoesOn_23 : decode cX0_talkGoesOn 23 = .ok (.iconst 0, 1) := by decide +kernel
theorem dX0_talkGoesOn_24 : decode cX0_talkGoesOn 24 = .ok (.aload_n 0, 1) := by decide +kernel
theorem dX0_talkGoesOn_25 : decode cX0_talkGoesOn 25 = .ok (.getfield 9, 3) := by decide +kernel
theorem dX0_talkGoesOn_28 : decode cX0_talkGoesOn 28 = .ok (.iconst 1, 1) := by decide +kernel
theorem dX0_talkGoesOn_29 : decode cX0_talkGoesOn 29 = .ok (.isub, 1) := by decide +kernel
theorem dX0_talkGoesOn_30 : decode cX0_talkGoesOn 30 = .ok (.invokestatic 77, 3) := by decide +kernel
theorem dX0_talkGoesOn_33 : decode cX0_talkGoesOn 33 = .ok (.ireturn, 1) := by decide +kernel
theorem dX0_talkGoesOn_34 : decode cX0_talkGoesOn 34 = .ok (.iload_n 1, 1) := by decide +kernel
theorem dX0_talkGoesOn_35 : decode cX0_talkGoesOn 35 = .ok (.iconst 2, 1) := by decide +kernel
theorem dX0_talkGoesOn_36 : decode cX0_talkGoesOn 36 = .ok (.if_icmp .ne 21, 3) := by decide +kernel
theorem dX0_talkGoesOn_39 : decode cX0_talkGoesOn 39 = .ok (.aload_n 0, 1) := by decide +kernel
theorem dX0_talkGoesOn_40 : decode cX0_talkGoesOn 40 = .ok (.getfield 37, 3) := by decide +kernel
theorem dX0_talkGoesOn_43 : decode cX0_talkGoesOn 43 = .ok (.iload_n 3, 1) := by decide +kernel
theorem dX0_talkGoesOn_44 : decode cX0_talkGoesOn 44 = .ok (.iload_n 2, 1) := by decide +kernel
theorem dX0_talkGoesOn_45 : decode cX0_talkGoesOn 45 = .ok (.bipush 48, 2) := by decide +kernel
theorem dX0_talkGoesOn_47 : decode cX0_talkGoesOn 47 = .ok (.isub, 1) := by decide +kernel
theorem dX0_talkGoesOn_48 : decode cX0_talkGoesOn 48 = .ok (.iastore, 1) := by decide +kernel
theorem dX0_talkGoesOn_49 : decode cX0_talkGoesOn 49 = .ok (.iload_n 2, 1) := by decide +kernel
theorem dX0_talkGoesOn_50 : decode cX0_talkGoesOn 50 = .ok (.iconst 1, 1) := by decide +kernel
theorem dX0_talkGoesOn_51 : decode cX0_talkGoesOn 51 = .ok (.bipush 9, 2) := by decide +kernel
theorem dX0_talkGoesOn_53 : decode cX0_talkGoesOn 53 = .ok (.invokestatic 77, 3) := by decide +kernel
theorem dX0_talkGoesOn_56 : decode cX0_talkGoesOn 56 = .ok (.ireturn, 1) := by decide +kernel
theorem dX0_talkGoesOn_57 : decode cX0_talkGoesOn 57 = .ok (.aload_n 0, 1) := by decide +kernel
theorem dX0_talkGoesOn_58 : decode cX0_talkGoesOn 58 = .ok (.getfield 40, 3) := by decide +kernel
theorem dX0_talkGoesOn_61 : decode cX0_talkGoesOn 61 = .ok (.iload_n 3, 1) := by decide +kernel
theorem dX0_talkGoesOn_62 : decode cX0_talkGoesOn 62 = .ok (.iload_n 2, 1) := by decide +kernel
theorem dX0_talkGoesOn_63 : decode cX0_talkGoesOn 63 = .ok (.bipush 48, 2) := by decide +kernel
theorem dX0_talkGoesOn_65 : decode cX0_talkGoesOn 65 = .ok (.isub, 1) := by decide +kernel
theorem dX0_talkGoesOn_66 : decode cX0_talkGoesOn 66 = .ok (.iastore, 1) := by decide +kernel
theorem dX0_talkGoesOn_67 : decode cX0_talkGoesOn 67 = .ok (.iload_n 2, 1) := by decide +kernel
theorem dX0_talkGoesOn_68 : decode cX0_talkGoesOn 68 = .ok (.iconst 0, 1) := by decide +kernel
theorem dX0_talkGoesOn_69 : decode cX0_talkGoesOn 69 = .ok (.bipush 7, 2) := by decide +kernel
theorem dX0_talkGoesOn_71 : decode cX0_talkGoesOn 71 = .ok (.invokestatic 77, 3) := by decide +kernel
theorem dX0_talkGoesOn_74 : decode cX0_talkGoesOn 74 = .ok (.ireturn, 1) := by decide +kernel
theorem dX0_isDigit_0 : decode cX0_isDigit 0 = .ok (.iload_n 0, 1) := by decide +kernel
theorem dX0_isDigit_1 : decode cX0_isDigit 1 = .ok (.bipush 48, 2) := by decide +kernel
theorem dX0_isDigit_3 : decode cX0_isDigit 3 = .ok (.iload_n 1, 1) := by decide +kernel
theorem dX0_isDigit_4 : decode cX0_isDigit 4 = .ok (.iadd, 1) := by decide +kernel
theorem dX0_isDigit_5 : decode cX0_isDigit 5 = .ok (.if_icmp .lt 15, 3) := by decide +kernel
theorem dX0_isDigit_8 : decode cX0_isDigit 8 = .ok (.iload_n 0, 1) := by decide +kernel
theorem dX0_isDigit_9 : decode cX0_isDigit 9 = .ok (.bipush 48, 2) := by decide +kernel
theorem dX0_isDigit_11 : decode cX0_isDigit 11 = .ok (.iload_n 2, 1) := by decide +kernel
theorem dX0_isDigit_12 : decode cX0_isDigit 12 = .ok (.iadd, 1) := by decide +kernel
theorem dX0_isDigit_13 : decode cX0_isDigit 13 = .ok (.if_icmp .gt 7, 3) := by decide +kernel
theorem dX0_isDigit_16 : decode cX0_isDigit 16 = .ok (.iconst 1, 1) := by decide +kernel
theorem dX0_isDigit_17 : decode cX0_isDigit 17 = .ok (.goto 4, 3) := by decide +kernel
theorem dX0_isDigit_20 : decode cX0_isDigit 20 = .ok (.iconst 0, 1) := by decide +kernel
theorem dX0_isDigit_21 : decode cX0_isDigit 21 = .ok (.ireturn, 1) := by decide +kernel
theorem dX0_kindOf_0 : decode cX0_kindOf 0 = .ok (.iload_n 0, 1) := by decide +kernel
theorem dX0_kindOf_1 : decode cX0_kindOf 1 = .ok (.lookupswitch 41 #[(99, 35), (109, 39), (119, 37)], 35) := by decide +kernel
theorem dX0_kindOf_36 : decode cX0_kindOf 36 = .ok (.iconst 0, 1) := by decide +kernel
theorem dX0_kindOf_37 : decode cX0_kindOf 37 = .ok (.ireturn, 1) := by decide +kernel
theorem dX0_kindOf_38 : decode cX0_kindOf 38 = .ok (.iconst 1, 1) := by decide +kernel
theorem dX0_kindOf_39 : decode cX0_kindOf 39 = .ok (.ireturn, 1) := by decide +kernel
theorem dX0_kindOf_40 : decode cX0_kindOf 40 = .ok (.iconst 2, 1) := by decide +kernel
theorem dX0_kindOf_41 : decode cX0_kindOf 41 = .ok (.ireturn, 1) := by decide +kernel
theorem dX0_kindOf_42 : decode cX0_kindOf 42 = .ok (.bipush (-9), 2) := by decide +kernel
theorem dX0_kindOf_44 : decode cX0_kindOf 44 = .ok (.ireturn, 1) := by decide +kernel
theorem dX0_carry_0 : decode cX0_carry 0 = .ok (.iconst 0, 1) := by decide +kernel
theorem dX0_carry_1 : decode cX0_carry 1 = .ok (.istore_n 1, 1) := by decide +kernel
theorem dX0_carry_2 : decode cX0_carry 2 = .ok (.iload_n 1, 1) := by decide +kernel
theorem dX0_carry_3 : decode cX0_carry 3 = .ok (.aload_n 0, 1) := by decide +kernel
theorem dX0_carry_4 : decode cX0_carry 4 = .ok (.getfield 15, 3) := by decide +kernel
theorem dX0_carry_7 : decode cX0_carry 7 = .ok (.if_icmp .ge 37, 3) := by decide +kernel
theorem dX0_carry_10 : decode cX0_carry 10 = .ok (.iconst 0, 1) := by decide +kernel
theorem dX0_carry_11 : decode cX0_carry 11 = .ok (.istore_n 2, 1) := by decide +kernel
theorem dX0_carry_12 : decode cX0_carry 12 = .ok (.iload_n 2, 1) := by decide +kernel
theorem dX0_carry_13 : decode cX0_carry 13 = .ok (.bipush 8, 2) := by decide +kernel
theorem dX0_carry_15 : decode cX0_carry 15 = .ok (.if_icmp .ge 23, 3) := by decide +kernel
theorem dX0_carry_18 : decode cX0_carry 18 = .ok (.aload_n 0, 1) := by decide +kernel
theorem dX0_carry_19 : decode cX0_carry 19 = .ok (.getfield 55, 3) := by decide +kernel
theorem dX0_carry_22 : decode cX0_carry 22 = .ok (.iload_n 1, 1) := by decide +kernel
theorem dX0_carry_23 : decode cX0_carry 23 = .ok (.aaload, 1) := by decide +kernel
theorem dX0_carry_24 : decode cX0_carry 24 = .ok (.iload_n 2, 1) := by decide +kernel
theorem dX0_carry_25 : decode cX0_carry 25 = .ok (.aload_n 0, 1) := by decide +kernel
theorem dX0_carry_26 : decode cX0_carry 26 = .ok (.iload_n 1, 1) := by decide +kernel
theorem dX0_carry_27 : decode cX0_carry 27 = .ok (.iload_n 2, 1) := by decide +kernel
theorem dX0_carry_28 : decode cX0_carry 28 = .ok (.invokevirtual 95, 3) := by decide +kernel
theorem dX0_carry_31 : decode cX0_carry 31 = .ok (.iastore, 1) := by decide +kernel
theorem dX0_carry_32 : decode cX0_carry 32 = .ok (.iinc 2 1, 3) := by decide +kernel
theorem dX0_carry_35 : decode cX0_carry 35 = .ok (.goto (-23), 3) := by decide +kernel
theorem dX0_carry_38 : decode cX0_carry 38 = .ok (.iinc 1 1, 3) := by decide +kernel
theorem dX0_carry_41 : decode cX0_carry 41 = .ok (.goto (-39), 3) := by decide +kernel
theorem dX0_carry_44 : decode cX0_carry 44 = .ok (.return_, 1) := by decide +kernel
theorem dX0_carriedTo_0 : decode cX0_carriedTo 0 = .ok (.iconst 0, 1) := by decide +kernel
theorem dX0_carriedTo_1 : decode cX0_carriedTo 1 = .ok (.istore_n 3, 1) := by decide +kernel
theorem dX0_carriedTo_2 : decode cX0_carriedTo 2 = .ok (.bipush (-9), 2) := by decide +kernel
theorem dX0_carriedTo_4 : decode cX0_carriedTo 4 = .ok (.istore 4, 2) := by decide +kernel
theorem dX0_carriedTo_6 : decode cX0_carriedTo 6 = .ok (.iconst 0, 1) := by decide +kernel
theorem dX0_carriedTo_7 : decode cX0_carriedTo 7 = .ok (.istore 5, 2) := by decide +kernel
theorem dX0_carriedTo_9 : decode cX0_carriedTo 9 = .ok (.iload 5, 2) := by decide +kernel
theorem dX0_carriedTo_11 : decode cX0_carriedTo 11 = .ok (.aload_n 0, 1) := by decide +kernel
theorem dX0_carriedTo_12 : decode cX0_carriedTo 12 = .ok (.getfield 46, 3) := by decide +kernel
theorem dX0_carriedTo_15 : decode cX0_carriedTo 15 = .ok (.getfield 61, 3) := by decide +kernel
theorem dX0_carriedTo_18 : decode cX0_carriedTo 18 = .ok (.if_icmp .ge 74, 3) := by decide +kernel
theorem dX0_carriedTo_21 : decode cX0_carriedTo 21 = .ok (.aload_n 0, 1) := by decide +kernel
theorem dX0_carriedTo_22 : decode cX0_carriedTo 22 = .ok (.getfield 46, 3) := by decide +kernel
theorem dX0_carriedTo_25 : decode cX0_carriedTo 25 = .ok (.getfield 99, 3) := by decide +kernel
theorem dX0_carriedTo_28 : decode cX0_carriedTo 28 = .ok (.iload 5, 2) := by decide +kernel
theorem dX0_carriedTo_30 : decode cX0_carriedTo 30 = .ok (.iaload, 1) := by decide +kernel
theorem dX0_carriedTo_31 : decode cX0_carriedTo 31 = .ok (.iload_n 1, 1) := by decide +kernel
theorem dX0_carriedTo_32 : decode cX0_carriedTo 32 = .ok (.if_icmp .ne 54, 3) := by decide +kernel
theorem dX0_carriedTo_35 : decode cX0_carriedTo 35 = .ok (.aload_n 0, 1) := by decide +kernel
theorem dX0_carriedTo_36 : decode cX0_carriedTo 36 = .ok (.getfield 46, 3) := by decide +kernel
theorem dX0_carriedTo_39 : decode cX0_carriedTo 39 = .ok (.getfield 102, 3) := by decide +kernel
theorem dX0_carriedTo_42 : decode cX0_carriedTo 42 = .ok (.iload 5, 2) := by decide +kernel
theorem dX0_carriedTo_44 : decode cX0_carriedTo 44 = .ok (.iaload, 1) := by decide +kernel
theorem dX0_carriedTo_45 : decode cX0_carriedTo 45 = .ok (.iload_n 2, 1) := by decide +kernel
theorem dX0_carriedTo_46 : decode cX0_carriedTo 46 = .ok (.if_icmp .gt 40, 3) := by decide +kernel
theorem dX0_carriedTo_49 : decode cX0_carriedTo 49 = .ok (.aload_n 0, 1) := by decide +kernel
theorem dX0_carriedTo_50 : decode cX0_carriedTo 50 = .ok (.getfield 46, 3) := by decide +kernel
theorem dX0_carriedTo_53 : decode cX0_carriedTo 53 = .ok (.getfield 102, 3) := by decide +kernel
theorem dX0_carriedTo_56 : decode cX0_carriedTo 56 = .ok (.iload 5, 2) := by decide +kernel
theorem dX0_carriedTo_58 : decode cX0_carriedTo 58 = .ok (.iaload, 1) := by decide +kernel
theorem dX0_carriedTo_59 : decode cX0_carriedTo 59 = .ok (.iload_n 3, 1) := by decide +kernel
theorem dX0_carriedTo_60 : decode cX0_carriedTo 60 = .ok (.if_icmp .lt 26, 3) := by decide +kernel
theorem dX0_carriedTo_63 : decode cX0_carriedTo 63 = .ok (.aload_n 0, 1) := by decide +kernel
theorem dX0_carriedTo_64 : decode cX0_carriedTo 64 = .ok (.getfield 46, 3) := by decide +kernel
theorem dX0_carriedTo_67 : decode cX0_carriedTo 67 = .ok (.getfield 102, 3) := by decide +kernel
theorem dX0_carriedTo_70 : decode cX0_carriedTo 70 = .ok (.iload 5, 2) := by decide +kernel
theorem dX0_carriedTo_72 : decode cX0_carriedTo 72 = .ok (.iaload, 1) := by decide +kernel
theorem dX0_carriedTo_73 : decode cX0_carriedTo 73 = .ok (.istore_n 3, 1) := by decide +kernel
theorem dX0_carriedTo_74 : decode cX0_carriedTo 74 = .ok (.aload_n 0, 1) := by decide +kernel
theorem dX0_carriedTo_75 : decode cX0_carriedTo 75 = .ok (.getfield 46, 3) := by decide +kernel
theorem dX0_carriedTo_78 : decode cX0_carriedTo 78 = .ok (.getfield 105, 3) := by decide +kernel
theorem dX0_carriedTo_81 : decode cX0_carriedTo 81 = .ok (.iload 5, 2) := by decide +kernel
theorem dX0_carriedTo_83 : decode cX0_carriedTo 83 = .ok (.iaload, 1) := by decide +kernel
theorem dX0_carriedTo_84 : decode cX0_carriedTo 84 = .ok (.istore 4, 2) := by decide +kernel
theorem dX0_carriedTo_86 : decode cX0_carriedTo 86 = .ok (.iinc 5 1, 3) := by decide +kernel
theorem dX0_carriedTo_89 : decode cX0_carriedTo 89 = .ok (.goto (-80), 3) := by decide +kernel
theorem dX0_carriedTo_92 : decode cX0_carriedTo 92 = .ok (.iload 4, 2) := by decide +kernel
theorem dX0_carriedTo_94 : decode cX0_carriedTo 94 = .ok (.ireturn, 1) := by decide +kernel
theorem dX0_cellarOn_0 : decode cX0_cellarOn 0 = .ok (.aload_n 0, 1) := by decide +kernel
theorem dX0_cellarOn_1 : decode cX0_cellarOn 1 = .ok (.getfield 55, 3) := by decide +kernel
theorem dX0_cellarOn_4 : decode cX0_cellarOn 4 = .ok (.iload_n 1, 1) := by decide +kernel
theorem dX0_cellarOn_5 : decode cX0_cellarOn 5 = .ok (.aaload, 1) := by decide +kernel
theorem dX0_cellarOn_6 : decode cX0_cellarOn 6 = .ok (.iload_n 2, 1) := by decide +kernel
theorem dX0_cellarOn_7 : decode cX0_cellarOn 7 = .ok (.iaload, 1) := by decide +kernel
theorem dX0_cellarOn_8 : decode cX0_cellarOn 8 = .ok (.bipush (-9), 2) := by decide +kernel
theorem dX0_cellarOn_10 : decode cX0_cellarOn 10 = .ok (.if_icmp .ne 12, 3) := by decide +kernel
theorem dX0_cellarOn_13 : decode cX0_cellarOn 13 = .ok (.aload_n 0, 1) := by decide +kernel
theorem dX0_cellarOn_14 : decode cX0_cellarOn 14 = .ok (.getfield 25, 3) := by decide +kernel
theorem dX0_cellarOn_17 : decode cX0_cellarOn 17 = .ok (.iload_n 1, 1) := by decide +kernel
theorem dX0_cellarOn_18 : decode cX0_cellarOn 18 = .ok (.iaload, 1) := by decide +kernel
theorem dX0_cellarOn_19 : decode cX0_cellarOn 19 = .ok (.goto 11, 3) := by decide +kernel
theorem dX0_cellarOn_22 : decode cX0_cellarOn 22 = .ok (.aload_n 0, 1) := by decide +kernel
theorem dX0_cellarOn_23 : decode cX0_cellarOn 23 = .ok (.getfield 55, 3) := by decide +kernel
theorem dX0_cellarOn_26 : decode cX0_cellarOn 26 = .ok (.iload_n 1, 1) := by decide +kernel
theorem dX0_cellarOn_27 : decode cX0_cellarOn 27 = .ok (.aaload, 1) := by decide +kernel
theorem dX0_cellarOn_28 : decode cX0_cellarOn 28 = .ok (.iload_n 2, 1) := by decide +kernel
theorem dX0_cellarOn_29 : decode cX0_cellarOn 29 = .ok (.iaload, 1) := by decide +kernel
theorem dX0_cellarOn_30 : decode cX0_cellarOn 30 = .ok (.ireturn, 1) := by decide +kernel
theorem dX0_catches_0 : decode cX0_catches 0 = .ok (.aload_n 0, 1) := by decide +kernel
theorem dX0_catches_1 : decode cX0_catches 1 = .ok (.getfield 31, 3) := by decide +kernel
theorem dX0_catches_4 : decode cX0_catches 4 = .ok (.iload_n 1, 1) := by decide +kernel
theorem dX0_catches_5 : decode cX0_catches 5 = .ok (.iaload, 1) := by decide +kernel
theorem dX0_catches_6 : decode cX0_catches 6 = .ok (.bipush (-9), 2) := by decide +kernel
theorem dX0_catches_8 : decode cX0_catches 8 = .ok (.if_icmp .eq 15, 3) := by decide +kernel
theorem dX0_catches_11 : decode cX0_catches 11 = .ok (.aload_n 0, 1) := by decide +kernel
theorem dX0_catches_12 : decode cX0_catches 12 = .ok (.getfield 31, 3) := by decide +kernel
theorem dX0_catches_15 : decode cX0_catches 15 = .ok (.iload_n 1, 1) := by decide +kernel
theorem dX0_catches_16 : decode cX0_catches 16 = .ok (.iaload, 1) := by decide +kernel
theorem dX0_catches_17 : decode cX0_catches 17 = .ok (.iload_n 3, 1) := by decide +kernel
theorem dX0_catches_18 : decode cX0_catches 18 = .ok (.if_icmp .gt 5, 3) := by decide +kernel
theorem dX0_catches_21 : decode cX0_catches 21 = .ok (.iconst 0, 1) := by decide +kernel
theorem dX0_catches_22 : decode cX0_catches 22 = .ok (.ireturn, 1) := by decide +kernel
theorem dX0_catches_23 : decode cX0_catches 23 = .ok (.iload 4, 2) := by decide +kernel
theorem dX0_catches_25 : decode cX0_catches 25 = .ok (.iconst 2, 1) := by decide +kernel
theorem dX0_catches_26 : decode cX0_catches 26 = .ok (.aload_n 0, 1) := by decide +kernel
theorem dX0_catches_27 : decode cX0_catches 27 = .ok (.getfield 34, 3) := by decide +kernel
theorem dX0_catches_30 : decode cX0_catches 30 = .ok (.iload_n 3, 1) := by decide +kernel
theorem dX0_catches_31 : decode cX0_catches 31 = .ok (.iaload, 1) := by decide +kernel
theorem dX0_catches_32 : decode cX0_catches 32 = .ok (.iload_n 2, 1) := by decide +kernel
theorem dX0_catches_33 : decode cX0_catches 33 = .ok (.isub, 1) := by decide +kernel
theorem dX0_catches_34 : decode cX0_catches 34 = .ok (.invokestatic 108, 3) := by decide +kernel
theorem dX0_catches_37 : decode cX0_catches 37 = .ok (.imul, 1) := by decide +kernel
theorem dX0_catches_38 : decode cX0_catches 38 = .ok (.isub, 1) := by decide +kernel
theorem dX0_catches_39 : decode cX0_catches 39 = .ok (.istore 5, 2) := by decide +kernel
theorem dX0_catches_41 : decode cX0_catches 41 = .ok (.aload_n 0, 1) := by decide +kernel
theorem dX0_catches_42 : decode cX0_catches 42 = .ok (.getfield 21, 3) := by decide +kernel
theorem dX0_catches_45 : decode cX0_catches 45 = .ok (.iload_n 1, 1) := by decide +kernel
theorem dX0_catches_46 : decode cX0_catches 46 = .ok (.iaload, 1) := by decide +kernel
theorem dX0_catches_47 : decode cX0_catches 47 = .ok (.iconst 1, 1) := by decide +kernel
theorem dX0_catches_48 : decode cX0_catches 48 = .ok (.if_icmp .ne 14, 3) := by decide +kernel
theorem dX0_catches_51 : decode cX0_catches 51 = .ok (.aload_n 0, 1) := by decide +kernel
theorem dX0_catches_52 : decode cX0_catches 52 = .ok (.getfield 28, 3) := by decide +kernel
theorem dX0_catches_55 : decode cX0_catches 55 = .ok (.iload_n 1, 1) := by decide +kernel
theorem dX0_catches_56 : decode cX0_catches 56 = .ok (.iaload, 1) := by decide +kernel
theorem dX0_catches_57 : decode cX0_catches 57 = .ok (.iconst 1, 1) := by decide +kernel
theorem dX0_catches_58 : decode cX0_catches 58 = .ok (.iadd, 1) := by decide +kernel
theorem dX0_catches_59 : decode cX0_catches 59 = .ok (.goto 13, 3) := by decide +kernel
theorem dX0_catches_62 : decode cX0_catches 62 = .ok (.aload_n 0, 1) := by decide +kernel
theorem dX0_catches_63 : decode cX0_catches 63 = .ok (.getfield 28, 3) := by decide +kernel
theorem dX0_catches_66 : decode cX0_catches 66 = .ok (.iload_n 1, 1) := by decide +kernel
theorem dX0_catches_67 : decode cX0_catches 67 = .ok (.iaload, 1) := by decide +kernel
theorem dX0_catches_68 : decode cX0_catches 68 = .ok (.iconst 1, 1) := by decide +kernel
theorem dX0_catches_69 : decode cX0_catches 69 = .ok (.invokestatic 113, 3) := by decide +kernel
theorem dX0_catches_72 : decode cX0_catches 72 = .ok (.istore 6, 2) := by decide +kernel
theorem dX0_catches_74 : decode cX0_catches 74 = .ok (.iload 5, 2) := by decide +kernel
theorem dX0_catches_76 : decode cX0_catches 76 = .ok (.iload 6, 2) := by decide +kernel
theorem dX0_catches_78 : decode cX0_catches 78 = .ok (.if_icmp .lt 7, 3) := by decide +kernel
theorem dX0_catches_81 : decode cX0_catches 81 = .ok (.iconst 1, 1) := by decide +kernel
theorem dX0_catches_82 : decode cX0_catches 82 = .ok (.goto 4, 3) := by decide +kernel
theorem dX0_catches_85 : decode cX0_catches 85 = .ok (.iconst 0, 1) := by decide +kernel
theorem dX0_catches_86 : decode cX0_catches 86 = .ok (.ireturn, 1) := by decide +kernel
theorem dX0_talksTo_0 : decode cX0_talksTo 0 = .ok (.iconst 0, 1) := by decide +kernel
theorem dX0_talksTo_1 : decode cX0_talksTo 1 = .ok (.istore_n 3, 1) := by decide +kernel
theorem dX0_talksTo_2 : decode cX0_talksTo 2 = .ok (.iconst 1, 1) := by decide +kernel
theorem dX0_talksTo_3 : decode cX0_talksTo 3 = .ok (.istore 4, 2) := by decide +kernel
theorem dX0_talksTo_5 : decode cX0_talksTo 5 = .ok (.iconst 0, 1) := by decide +kernel
theorem dX0_talksTo_6 : decode cX0_talksTo 6 = .ok (.istore 5, 2) := by decide +kernel
theorem dX0_talksTo_8 : decode cX0_talksTo 8 = .ok (.iload 5, 2) := by decide +kernel
theorem dX0_talksTo_10 : decode cX0_talksTo 10 = .ok (.aload_n 0, 1) := by decide +kernel
theorem dX0_talksTo_11 : decode cX0_talksTo 11 = .ok (.getfield 18, 3) := by decide +kernel
theorem dX0_talksTo_14 : decode cX0_talksTo 14 = .ok (.if_icmp .ge 81, 3) := by decide +kernel
theorem dX0_talksTo_17 : decode cX0_talksTo 17 = .ok (.iload_n 2, 1) := by decide +kernel
theorem dX0_talksTo_18 : decode cX0_talksTo 18 = .ok (.bipush (-9), 2) := by decide +kernel
theorem dX0_talksTo_20 : decode cX0_talksTo 20 = .ok (.if_icmp .ne 13, 3) := by decide +kernel
theorem dX0_talksTo_23 : decode cX0_talksTo 23 = .ok (.aload_n 0, 1) := by decide +kernel
theorem dX0_talksTo_24 : decode cX0_talksTo 24 = .ok (.iload_n 1, 1) := by decide +kernel
theorem dX0_talksTo_25 : decode cX0_talksTo 25 = .ok (.iload 5, 2) := by decide +kernel
theorem dX0_talksTo_27 : decode cX0_talksTo 27 = .ok (.invokevirtual 116, 3) := by decide +kernel
theorem dX0_talksTo_30 : decode cX0_talksTo 30 = .ok (.goto 4, 3) := by decide +kernel
theorem dX0_talksTo_33 : decode cX0_talksTo 33 = .ok (.iload_n 2, 1) := by decide +kernel
theorem dX0_talksTo_34 : decode cX0_talksTo 34 = .ok (.istore 6, 2) := by decide +kernel
theorem dX0_talksTo_36 : decode cX0_talksTo 36 = .ok (.aload_n 0, 1) := by decide +kernel
theorem dX0_talksTo_37 : decode cX0_talksTo 37 = .ok (.iload_n 1, 1) := by decide +kernel
theorem dX0_talksTo_38 : decode cX0_talksTo 38 = .ok (.iload 6, 2) := by decide +kernel
theorem dX0_talksTo_40 : decode cX0_talksTo 40 = .ok (.iload 5, 2) := by decide +kernel
theorem dX0_talksTo_42 : decode cX0_talksTo 42 = .ok (.aload_n 0, 1) := by decide +kernel
theorem dX0_talksTo_43 : decode cX0_talksTo 43 = .ok (.getfield 37, 3) := by decide +kernel
theorem dX0_talksTo_46 : decode cX0_talksTo 46 = .ok (.iload 5, 2) := by decide +kernel
theorem dX0_talksTo_48 : decode cX0_talksTo 48 = .ok (.iaload, 1) := by decide +kernel
theorem dX0_talksTo_49 : decode cX0_talksTo 49 = .ok (.invokevirtual 119, 3) := by decide +kernel
theorem dX0_talksTo_52 : decode cX0_talksTo 52 = .ok (.ifCond .eq 37, 3) := by decide +kernel
theorem dX0_talksTo_55 : decode cX0_talksTo 55 = .ok (.aload_n 0, 1) := by decide +kernel
theorem dX0_talksTo_56 : decode cX0_talksTo 56 = .ok (.getfield 21, 3) := by decide +kernel
theorem dX0_talksTo_59 : decode cX0_talksTo 59 = .ok (.iload_n 1, 1) := by decide +kernel
theorem dX0_talksTo_60 : decode cX0_talksTo 60 = .ok (.iaload, 1) := by decide +kernel
theorem dX0_talksTo_61 : decode cX0_talksTo 61 = .ok (.iconst 2, 1) := by decide +kernel
theorem dX0_talksTo_62 : decode cX0_talksTo 62 = .ok (.if_icmp .ne 8, 3) := by decide +kernel
theorem dX0_talksTo_65 : decode cX0_talksTo 65 = .ok (.iload 4, 2) := by decide +kernel
theorem dX0_talksTo_67 : decode cX0_talksTo 67 = .ok (.ifCond .eq 10, 3) := by decide +kernel
theorem dX0_talksTo_70 : decode cX0_talksTo 70 = .ok (.iload_n 3, 1) := by decide +kernel
theorem dX0_talksTo_71 : decode cX0_talksTo 71 = .ok (.iconst 1, 1) := by decide +kernel
theorem dX0_talksTo_72 : decode cX0_talksTo 72 = .ok (.iload 5, 2) := by decide +kernel
theorem dX0_talksTo_74 : decode cX0_talksTo 74 = .ok (.ishl, 1) := by decide +kernel
theorem dX0_talksTo_75 : decode cX0_talksTo 75 = .ok (.ior, 1) := by decide +kernel
theorem dX0_talksTo_76 : decode cX0_talksTo 76 = .ok (.istore_n 3, 1) := by decide +kernel
theorem dX0_talksTo_77 : decode cX0_talksTo 77 = .ok (.iload 4, 2) := by decide +kernel
theorem dX0_talksTo_79 : decode cX0_talksTo 79 = .ok (.ifCond .ne 7, 3) := by decide +kernel
theorem dX0_talksTo_82 : decode cX0_talksTo 82 = .ok (.iconst 1, 1) := by decide +kernel
theorem dX0_talksTo_83 : decode cX0_talksTo 83 = .ok (.goto 4, 3) := by decide +kernel
theorem dX0_talksTo_86 : decode cX0_talksTo 86 = .ok (.iconst 0, 1) := by decide +kernel
theorem dX0_talksTo_87 : decode cX0_talksTo 87 = .ok (.istore 4, 2) := by decide +kernel
theorem dX0_talksTo_89 : decode cX0_talksTo 89 = .ok (.iinc 5 1, 3) := by decide +kernel
theorem dX0_talksTo_92 : decode cX0_talksTo 92 = .ok (.goto (-84), 3) := by decide +kernel
theorem dX0_talksTo_95 : decode cX0_talksTo 95 = .ok (.iload_n 3, 1) := by decide +kernel
theorem dX0_talksTo_96 : decode cX0_talksTo 96 = .ok (.ireturn, 1) := by decide +kernel
theorem dX0_wordsTo_0 : decode cX0_wordsTo 0 = .ok (.aload_n 0, 1) := by decide +kernel
theorem dX0_wordsTo_1 : decode cX0_wordsTo 1 = .ok (.aload_n 0, 1) := by decide +kernel
theorem dX0_wordsTo_2 : decode cX0_wordsTo 2 = .ok (.iload_n 1, 1) := by decide +kernel
theorem dX0_wordsTo_3 : decode cX0_wordsTo 3 = .ok (.iload_n 2, 1) := by decide +kernel
theorem dX0_wordsTo_4 : decode cX0_wordsTo 4 = .ok (.invokevirtual 123, 3) := by decide +kernel
theorem dX0_wordsTo_7 : decode cX0_wordsTo 7 = .ok (.bipush 8, 2) := by decide +kernel
theorem dX0_wordsTo_9 : decode cX0_wordsTo 9 = .ok (.invokevirtual 126, 3) := by decide +kernel
theorem dX0_wordsTo_12 : decode cX0_wordsTo 12 = .ok (.ireturn, 1) := by decide +kernel
theorem dX0_wordsDown_0 : decode cX0_wordsDown 0 = .ok (.iconst 0, 1) := by decide +kernel
theorem dX0_wordsDown_1 : decode cX0_wordsDown 1 = .ok (.istore_n 3, 1) := by decide +kernel
theorem dX0_wordsDown_2 : decode cX0_wordsDown 2 = .ok (.iload_n 2, 1) := by decide +kernel
theorem dX0_wordsDown_3 : decode cX0_wordsDown 3 = .ok (.istore 4, 2) := by decide +kernel
theorem dX0_wordsDown_5 : decode cX0_wordsDown 5 = .ok (.aload_n 0, 1) := by decide +kernel
theorem dX0_wordsDown_6 : decode cX0_wordsDown 6 = .ok (.getfield 18, 3) := by decide +kernel
theorem dX0_wordsDown_9 : decode cX0_wordsDown 9 = .ok (.iconst 1, 1) := by decide +kernel
theorem dX0_wordsDown_10 : decode cX0_wordsDown 10 = .ok (.isub, 1) := by decide +kernel
theorem dX0_wordsDown_11 : decode cX0_wordsDown 11 = .ok (.istore 5, 2) := by decide +kernel
theorem dX0_wordsDown_13 : decode cX0_wordsDown 13 = .ok (.iload 5, 2) := by decide +kernel
theorem dX0_wordsDown_15 : decode cX0_wordsDown 15 = .ok (.ifCond .lt 38, 3) := by decide +kernel
theorem dX0_wordsDown_18 : decode cX0_wordsDown 18 = .ok (.iload 4, 2) := by decide +kernel
theorem dX0_wordsDown_20 : decode cX0_wordsDown 20 = .ok (.ifCond .le 33, 3) := by decide +kernel
theorem dX0_wordsDown_23 : decode cX0_wordsDown 23 = .ok (.iload_n 1, 1) := by decide +kernel
theorem dX0_wordsDown_24 : decode cX0_wordsDown 24 = .ok (.iload 5, 2) := by decide +kernel
theorem dX0_wordsDown_26 : decode cX0_wordsDown 26 = .ok (.ishr, 1) := by decide +kernel
theorem dX0_wordsDown_27 : decode cX0_wordsDown 27 = .ok (.iconst 1, 1) := by decide +kernel
theorem dX0_wordsDown_28 : decode cX0_wordsDown 28 = .ok (.iand, 1) := by decide +kernel
theorem dX0_wordsDown_29 : decode cX0_wordsDown 29 = .ok (.ifCond .eq 18, 3) := by decide +kernel
theorem dX0_wordsDown_32 : decode cX0_wordsDown 32 = .ok (.iload_n 3, 1) := by decide +kernel
theorem dX0_wordsDown_33 : decode cX0_wordsDown 33 = .ok (.iconst 1, 1) := by decide +kernel
theorem dX0_wordsDown_34 : decode cX0_wordsDown 34 = .ok (.aload_n 0, 1) := by decide +kernel
theorem dX0_wordsDown_35 : decode cX0_wordsDown 35 = .ok (.getfield 40, 3) := by decide +kernel
theorem dX0_wordsDown_38 : decode cX0_wordsDown 38 = .ok (.iload 5, 2) := by decide +kernel
theorem dX0_wordsDown_40 : decode cX0_wordsDown 40 = .ok (.iaload, 1) := by decide +kernel
theorem dX0_wordsDown_41 : decode cX0_wordsDown 41 = .ok (.ishl, 1) := by decide +kernel
theorem dX0_wordsDown_42 : decode cX0_wordsDown 42 = .ok (.ior, 1) := by decide +kernel
theorem dX0_wordsDown_43 : decode cX0_wordsDown 43 = .ok (.istore_n 3, 1) := by decide +kernel
theorem dX0_wordsDown_44 : decode cX0_wordsDown 44 = .ok (.iinc 4 (-1), 3) := by decide +kernel
theorem dX0_wordsDown_47 : decode cX0_wordsDown 47 = .ok (.iinc 5 (-1), 3) := by decide +kernel
theorem dX0_wordsDown_50 : decode cX0_wordsDown 50 = .ok (.goto (-37), 3) := by decide +kernel
theorem dX0_wordsDown_53 : decode cX0_wordsDown 53 = .ok (.iload_n 3, 1) := by decide +kernel
theorem dX0_wordsDown_54 : decode cX0_wordsDown 54 = .ok (.ireturn, 1) := by decide +kernel
theorem dX0_talkAt_0 : decode cX0_talkAt 0 = .ok (.iload_n 2, 1) := by decide +kernel
theorem dX0_talkAt_1 : decode cX0_talkAt 1 = .ok (.istore_n 3, 1) := by decide +kernel
theorem dX0_talkAt_2 : decode cX0_talkAt 2 = .ok (.aload_n 0, 1) := by decide +kernel
theorem dX0_talkAt_3 : decode cX0_talkAt 3 = .ok (.getfield 18, 3) := by decide +kernel
theorem dX0_talkAt_6 : decode cX0_talkAt 6 = .ok (.iconst 1, 1) := by decide +kernel
theorem dX0_talkAt_7 : decode cX0_talkAt 7 = .ok (.isub, 1) := by decide +kernel
theorem dX0_talkAt_8 : decode cX0_talkAt 8 = .ok (.istore 4, 2) := by decide +kernel
theorem dX0_talkAt_10 : decode cX0_talkAt 10 = .ok (.iload 4, 2) := by decide +kernel
theorem dX0_talkAt_12 : decode cX0_talkAt 12 = .ok (.ifCond .lt 28, 3) := by decide +kernel
theorem dX0_talkAt_15 : decode cX0_talkAt 15 = .ok (.iload_n 1, 1) := by decide +kernel
theorem dX0_talkAt_16 : decode cX0_talkAt 16 = .ok (.iload 4, 2) := by decide +kernel
theorem dX0_talkAt_18 : decode cX0_talkAt 18 = .ok (.ishr, 1) := by decide +kernel
theorem dX0_talkAt_19 : decode cX0_talkAt 19 = .ok (.iconst 1, 1) := by decide +kernel
theorem dX0_talkAt_20 : decode cX0_talkAt 20 = .ok (.iand, 1) := by decide +kernel
theorem dX0_talkAt_21 : decode cX0_talkAt 21 = .ok (.ifCond .eq 13, 3) := by decide +kernel
theorem dX0_talkAt_24 : decode cX0_talkAt 24 = .ok (.iload_n 3, 1) := by decide +kernel
theorem dX0_talkAt_25 : decode cX0_talkAt 25 = .ok (.ifCond .ne 6, 3) := by decide +kernel
theorem dX0_talkAt_28 : decode cX0_talkAt 28 = .ok (.iload 4, 2) := by decide +kernel
theorem dX0_talkAt_30 : decode cX0_talkAt 30 = .ok (.ireturn, 1) := by decide +kernel
theorem dX0_talkAt_31 : decode cX0_talkAt 31 = .ok (.iinc 3 (-1), 3) := by decide +kernel
theorem dX0_talkAt_34 : decode cX0_talkAt 34 = .ok (.iinc 4 (-1), 3) := by decide +kernel
theorem dX0_talkAt_37 : decode cX0_talkAt 37 = .ok (.goto (-27), 3) := by decide +kernel
theorem dX0_talkAt_40 : decode cX0_talkAt 40 = .ok (.bipush (-9), 2) := by decide +kernel
theorem dX0_talkAt_42 : decode cX0_talkAt 42 = .ok (.ireturn, 1) := by decide +kernel
theorem dX0_depthOf_0 : decode cX0_depthOf 0 = .ok (.iconst 0, 1) := by decide +kernel
theorem dX0_depthOf_1 : decode cX0_depthOf 1 = .ok (.istore_n 3, 1) := by decide +kernel
theorem dX0_depthOf_2 : decode cX0_depthOf 2 = .ok (.aload_n 0, 1) := by decide +kernel
theorem dX0_depthOf_3 : decode cX0_depthOf 3 = .ok (.getfield 18, 3) := by decide +kernel
theorem dX0_depthOf_6 : decode cX0_depthOf 6 = .ok (.iconst 1, 1) := by decide +kernel
theorem dX0_depthOf_7 : decode cX0_depthOf 7 = .ok (.isub, 1) := by decide +kernel
theorem dX0_depthOf_8 : decode cX0_depthOf 8 = .ok (.istore 4, 2) := by decide +kernel
theorem dX0_depthOf_10 : decode cX0_depthOf 10 = .ok (.iload 4, 2) := by decide +kernel
theorem dX0_depthOf_12 : decode cX0_depthOf 12 = .ok (.ifCond .lt 34, 3) := by decide +kernel
theorem dX0_depthOf_15 : decode cX0_depthOf 15 = .ok (.iload_n 1, 1) := by decide +kernel
theorem dX0_depthOf_16 : decode cX0_depthOf 16 = .ok (.iload 4, 2) := by decide +kernel
theorem dX0_depthOf_18 : decode cX0_depthOf 18 = .ok (.ishr, 1) := by decide +kernel
theorem dX0_depthOf_19 : decode cX0_depthOf 19 = .ok (.iconst 1, 1) := by decide +kernel
theorem dX0_depthOf_20 : decode cX0_depthOf 20 = .ok (.iand, 1) := by decide +kernel
theorem dX0_depthOf_21 : decode cX0_depthOf 21 = .ok (.ifCond .eq 19, 3) := by decide +kernel
theorem dX0_depthOf_24 : decode cX0_depthOf 24 = .ok (.iinc 3 1, 3) := by decide +kernel
theorem dX0_depthOf_27 : decode cX0_depthOf 27 = .ok (.aload_n 0, 1) := by decide +kernel
theorem dX0_depthOf_28 : decode cX0_depthOf 28 = .ok (.getfield 40, 3) := by decide +kernel
theorem dX0_depthOf_31 : decode cX0_depthOf 31 = .ok (.iload 4, 2) := by decide +kernel
theorem dX0_depthOf_33 : decode cX0_depthOf 33 = .ok (.iaload, 1) := by decide +kernel
theorem dX0_depthOf_34 : decode cX0_depthOf 34 = .ok (.iload_n 2, 1) := by decide +kernel
theorem dX0_depthOf_35 : decode cX0_depthOf 35 = .ok (.if_icmp .ne 5, 3) := by decide +kernel
theorem dX0_depthOf_38 : decode cX0_depthOf 38 = .ok (.iload_n 3, 1) := by decide +kernel
theorem dX0_depthOf_39 : decode cX0_depthOf 39 = .ok (.ireturn, 1) := by decide +kernel
theorem dX0_depthOf_40 : decode cX0_depthOf 40 = .ok (.iinc 4 (-1), 3) := by decide +kernel
theorem dX0_depthOf_43 : decode cX0_depthOf 43 = .ok (.goto (-33), 3) := by decide +kernel
theorem dX0_depthOf_46 : decode cX0_depthOf 46 = .ok (.bipush (-9), 2) := by decide +kernel
theorem dX0_depthOf_48 : decode cX0_depthOf 48 = .ok (.ireturn, 1) := by decide +kernel
theorem dX0_readingsAreSo_0 : decode cX0_readingsAreSo 0 = .ok (.iconst 0, 1) := by decide +kernel
theorem dX0_readingsAreSo_1 : decode cX0_readingsAreSo 1 = .ok (.istore_n 1, 1) := by decide +kernel
theorem dX0_readingsAreSo_2 : decode cX0_readingsAreSo 2 = .ok (.iload_n 1, 1) := by decide +kernel
theorem dX0_readingsAreSo_3 : decode cX0_readingsAreSo 3 = .ok (.aload_n 0, 1) := by decide +kernel
theorem dX0_readingsAreSo_4 : decode cX0_readingsAreSo 4 = .ok (.getfield 15, 3) := by decide +kernel
theorem dX0_readingsAreSo_7 : decode cX0_readingsAreSo 7 = .ok (.if_icmp .ge 22, 3) := by decide +kernel
theorem dX0_readingsAreSo_10 : decode cX0_readingsAreSo 10 = .ok (.aload_n 0, 1) := by decide +kernel
theorem dX0_readingsAreSo_11 : decode cX0_readingsAreSo 11 = .ok (.getfield 58, 3) := by decide +kernel
theorem dX0_readingsAreSo_14 : decode cX0_readingsAreSo 14 = .ok (.iload_n 1, 1) := by decide +kernel
theorem dX0_readingsAreSo_15 : decode cX0_readingsAreSo 15 = .ok (.aload_n 0, 1) := by decide +kernel
theorem dX0_readingsAreSo_16 : decode cX0_readingsAreSo 16 = .ok (.iload_n 1, 1) := by decide +kernel
theorem dX0_readingsAreSo_17 : decode cX0_readingsAreSo 17 = .ok (.bipush (-9), 2) := by decide +kernel
theorem dX0_readingsAreSo_19 : decode cX0_readingsAreSo 19 = .ok (.invokevirtual 123, 3) := by decide +kernel
theorem dX0_readingsAreSo_22 : decode cX0_readingsAreSo 22 = .ok (.iastore, 1) := by decide +kernel
theorem dX0_readingsAreSo_23 : decode cX0_readingsAreSo 23 = .ok (.iinc 1 1, 3) := by decide +kernel
theorem dX0_readingsAreSo_26 : decode cX0_readingsAreSo 26 = .ok (.goto (-24), 3) := by decide +kernel
theorem dX0_readingsAreSo_29 : decode cX0_readingsAreSo 29 = .ok (.iconst 0, 1) := by decide +kernel
theorem dX0_readingsAreSo_30 : decode cX0_readingsAreSo 30 = .ok (.istore_n 1, 1) := by decide +kernel
theorem dX0_readingsAreSo_31 : decode cX0_readingsAreSo 31 = .ok (.iload_n 1, 1) := by decide +kernel
theorem dX0_readingsAreSo_32 : decode cX0_readingsAreSo 32 = .ok (.aload_n 0, 1) := by decide +kernel
theorem dX0_readingsAreSo_33 : decode cX0_readingsAreSo 33 = .ok (.getfield 50, 3) := by decide +kernel
theorem dX0_readingsAreSo_36 : decode cX0_readingsAreSo 36 = .ok (.getfield 61, 3) := by decide +kernel
theorem dX0_readingsAreSo_39 : decode cX0_readingsAreSo 39 = .ok (.if_icmp .ge 70, 3) := by decide +kernel
theorem dX0_readingsAreSo_42 : decode cX0_readingsAreSo 42 = .ok (.aload_n 0, 1) := by decide +kernel
theorem dX0_readingsAreSo_43 : decode cX0_readingsAreSo 43 = .ok (.aload_n 0, 1) := by decide +kernel
theorem dX0_readingsAreSo_44 : decode cX0_readingsAreSo 44 = .ok (.getfield 58, 3) := by decide +kernel
theorem dX0_readingsAreSo_47 : decode cX0_readingsAreSo 47 = .ok (.aload_n 0, 1) := by decide +kernel
theorem dX0_readingsAreSo_48 : decode cX0_readingsAreSo 48 = .ok (.getfield 50, 3) := by decide +kernel
theorem dX0_readingsAreSo_51 : decode cX0_readingsAreSo 51 = .ok (.getfield 99, 3) := by decide +kernel
theorem dX0_readingsAreSo_54 : decode cX0_readingsAreSo 54 = .ok (.iload_n 1, 1) := by decide +kernel
theorem dX0_readingsAreSo_55 : decode cX0_readingsAreSo 55 = .ok (.iaload, 1) := by decide +kernel
theorem dX0_readingsAreSo_56 : decode cX0_readingsAreSo 56 = .ok (.iaload, 1) := by decide +kernel
theorem dX0_readingsAreSo_57 : decode cX0_readingsAreSo 57 = .ok (.aload_n 0, 1) := by decide +kernel
theorem dX0_readingsAreSo_58 : decode cX0_readingsAreSo 58 = .ok (.getfield 50, 3) := by decide +kernel
theorem dX0_readingsAreSo_61 : decode cX0_readingsAreSo 61 = .ok (.getfield 102, 3) := by decide +kernel
theorem dX0_readingsAreSo_64 : decode cX0_readingsAreSo 64 = .ok (.iload_n 1, 1) := by decide +kernel
theorem dX0_readingsAreSo_65 : decode cX0_readingsAreSo 65 = .ok (.iaload, 1) := by decide +kernel
theorem dX0_readingsAreSo_66 : decode cX0_readingsAreSo 66 = .ok (.invokevirtual 129, 3) := by decide +kernel
theorem dX0_readingsAreSo_69 : decode cX0_readingsAreSo 69 = .ok (.istore_n 2, 1) := by decide +kernel
theorem dX0_readingsAreSo_70 : decode cX0_readingsAreSo 70 = .ok (.iload_n 2, 1) := by decide +kernel
theorem dX0_readingsAreSo_71 : decode cX0_readingsAreSo 71 = .ok (.bipush (-9), 2) := by decide +kernel
theorem dX0_readingsAreSo_73 : decode cX0_readingsAreSo 73 = .ok (.if_icmp .ne 8, 3) := by decide +kernel
theorem dX0_readingsAreSo_76 : decode cX0_readingsAreSo 76 = .ok (.bipush (-9), 2) := by decide +kernel
theorem dX0_readingsAreSo_78 : decode cX0_readingsAreSo 78 = .ok (.goto 9, 3) := by decide +kernel
theorem dX0_readingsAreSo_81 : decode cX0_readingsAreSo 81 = .ok (.aload_n 0, 1) := by decide +kernel
theorem dX0_readingsAreSo_82 : decode cX0_readingsAreSo 82 = .ok (.getfield 40, 3) := by decide +kernel
theorem dX0_readingsAreSo_85 : decode cX0_readingsAreSo 85 = .ok (.iload_n 2, 1) := by decide +kernel
theorem dX0_readingsAreSo_86 : decode cX0_readingsAreSo 86 = .ok (.iaload, 1) := by decide +kernel
theorem dX0_readingsAreSo_87 : decode cX0_readingsAreSo 87 = .ok (.istore_n 3, 1) := by decide +kernel
theorem dX0_readingsAreSo_88 : decode cX0_readingsAreSo 88 = .ok (.iload_n 3, 1) := by decide +kernel
theorem dX0_readingsAreSo_89 : decode cX0_readingsAreSo 89 = .ok (.aload_n 0, 1) := by decide +kernel
theorem dX0_readingsAreSo_90 : decode cX0_readingsAreSo 90 = .ok (.getfield 50, 3) := by decide +kernel
theorem dX0_readingsAreSo_93 : decode cX0_readingsAreSo 93 = .ok (.getfield 105, 3) := by decide +kernel
theorem dX0_readingsAreSo_96 : decode cX0_readingsAreSo 96 = .ok (.iload_n 1, 1) := by decide +kernel
theorem dX0_readingsAreSo_97 : decode cX0_readingsAreSo 97 = .ok (.iaload, 1) := by decide +kernel
theorem dX0_readingsAreSo_98 : decode cX0_readingsAreSo 98 = .ok (.if_icmp .eq 5, 3) := by decide +kernel
theorem dX0_readingsAreSo_101 : decode cX0_readingsAreSo 101 = .ok (.iconst 0, 1) := by decide +kernel
theorem dX0_readingsAreSo_102 : decode cX0_readingsAreSo 102 = .ok (.ireturn, 1) := by decide +kernel
theorem dX0_readingsAreSo_103 : decode cX0_readingsAreSo 103 = .ok (.iinc 1 1, 3) := by decide +kernel
theorem dX0_readingsAreSo_106 : decode cX0_readingsAreSo 106 = .ok (.goto (-75), 3) := by decide +kernel
theorem dX0_readingsAreSo_109 : decode cX0_readingsAreSo 109 = .ok (.iconst 1, 1) := by decide +kernel
theorem dX0_readingsAreSo_110 : decode cX0_readingsAreSo 110 = .ok (.ireturn, 1) := by decide +kernel
theorem dX1_init_0 : decode cX1_init 0 = .ok (.aload_n 0, 1) := by decide +kernel
theorem dX1_init_1 : decode cX1_init 1 = .ok (.invokespecial 3, 3) := by decide +kernel
theorem dX1_init_4 : decode cX1_init 4 = .ok (.aload_n 0, 1) := by decide +kernel
theorem dX1_init_5 : decode cX1_init 5 = .ok (.bipush 60, 2) := by decide +kernel
theorem dX1_init_7 : decode cX1_init 7 = .ok (.newarray .int, 2) := by decide +kernel
theorem dX1_init_9 : decode cX1_init 9 = .ok (.putfield 9, 3) := by decide +kernel
theorem dX1_init_12 : decode cX1_init 12 = .ok (.aload_n 0, 1) := by decide +kernel
theorem dX1_init_13 : decode cX1_init 13 = .ok (.iconst 0, 1) := by decide +kernel
theorem dX1_init_14 : decode cX1_init 14 = .ok (.putfield 15, 3) := by decide +kernel
theorem dX1_init_17 : decode cX1_init 17 = .ok (.aload_n 0, 1) := by decide +kernel
theorem dX1_init_18 : decode cX1_init 18 = .ok (.bipush (-9), 2) := by decide +kernel
theorem dX1_init_20 : decode cX1_init 20 = .ok (.putfield 19, 3) := by decide +kernel
theorem dX1_init_23 : decode cX1_init 23 = .ok (.return_, 1) := by decide +kernel
theorem dX1_begin_0 : decode cX1_begin 0 = .ok (.aload_n 0, 1) := by decide +kernel
theorem dX1_begin_1 : decode cX1_begin 1 = .ok (.iload_n 1, 1) := by decide +kernel
theorem dX1_begin_2 : decode cX1_begin 2 = .ok (.putfield 15, 3) := by decide +kernel
theorem dX1_begin_5 : decode cX1_begin 5 = .ok (.aload_n 0, 1) := by decide +kernel
theorem dX1_begin_6 : decode cX1_begin 6 = .ok (.iload_n 2, 1) := by decide +kernel
theorem dX1_begin_7 : decode cX1_begin 7 = .ok (.putfield 19, 3) := by decide +kernel
theorem dX1_begin_10 : decode cX1_begin 10 = .ok (.aload_n 0, 1) := by decide +kernel
theorem dX1_begin_11 : decode cX1_begin 11 = .ok (.getfield 9, 3) := by decide +kernel
theorem dX1_begin_14 : decode cX1_begin 14 = .ok (.iconst 0, 1) := by decide +kernel
theorem dX1_begin_15 : decode cX1_begin 15 = .ok (.invokestatic 22, 3) := by decide +kernel
theorem dX1_begin_18 : decode cX1_begin 18 = .ok (.return_, 1) := by decide +kernel
theorem dX1_empty_0 : decode cX1_empty 0 = .ok (.aload_n 0, 1) := by decide +kernel
theorem dX1_empty_1 : decode cX1_empty 1 = .ok (.invokevirtual 28, 3) := by decide +kernel
theorem dX1_empty_4 : decode cX1_empty 4 = .ok (.ifCond .ne 7, 3) := by decide +kernel
theorem dX1_empty_7 : decode cX1_empty 7 = .ok (.iconst 1, 1) := by decide +kernel
theorem dX1_empty_8 : decode cX1_empty 8 = .ok (.goto 4, 3) := by decide +kernel
theorem dX1_empty_11 : decode cX1_empty 11 = .ok (.iconst 0, 1) := by decide +kernel
theorem dX1_empty_12 : decode cX1_empty 12 = .ok (.istore_n 1, 1) := by decide +kernel
theorem dX1_empty_13 : decode cX1_empty 13 = .ok (.aload_n 0, 1) := by decide +kernel
theorem dX1_empty_14 : decode cX1_empty 14 = .ok (.bipush (-9), 2) := by decide +kernel
theorem dX1_empty_16 : decode cX1_empty 16 = .ok (.putfield 19, 3) := by decide +kernel
theorem dX1_empty_19 : decode cX1_empty 19 = .ok (.iload_n 1, 1) := by decide +kernel
theorem dX1_empty_20 : decode cX1_empty 20 = .ok (.ireturn, 1) := by decide +kernel
theorem dX1_hasNothing_0 : decode cX1_hasNothing 0 = .ok (.aload_n 0, 1) := by decide +kernel
theorem dX1_hasNothing_1 : decode cX1_hasNothing 1 = .ok (.getfield 19, 3) := by decide +kernel
theorem dX1_hasNothing_4 : decode cX1_hasNothing 4 = .ok (.ifCond .ge 7, 3) := by decide +kernel
theorem dX1_hasNothing_7 : decode cX1_hasNothing 7 = .ok (.iconst 1, 1) := by decide +kernel
theorem dX1_hasNothing_8 : decode cX1_hasNothing 8 = .ok (.goto 4, 3) := by decide +kernel
theorem dX1_hasNothing_11 : decode cX1_hasNothing 11 = .ok (.iconst 0, 1) := by decide +kernel
theorem dX1_hasNothing_12 : decode cX1_hasNothing 12 = .ok (.ireturn, 1) := by decide +kernel
theorem dX1_hasCells_0 : decode cX1_hasCells 0 = .ok (.iload_n 1, 1) := by decide +kernel
theorem dX1_hasCells_1 : decode cX1_hasCells 1 = .ok (.ifCond .lt 29, 3) := by decide +kernel
theorem dX1_hasCells_4 : decode cX1_hasCells 4 = .ok (.iload_n 1, 1) := by decide +kernel
theorem dX1_hasCells_5 : decode cX1_hasCells 5 = .ok (.aload_n 0, 1) := by decide +kernel
theorem dX1_hasCells_6 : decode cX1_hasCells 6 = .ok (.getfield 19, 3) := by decide +kernel
theorem dX1_hasCells_9 : decode cX1_hasCells 9 = .ok (.if_icmp .gt 21, 3) := by decide +kernel
theorem dX1_hasCells_12 : decode cX1_hasCells 12 = .ok (.iload_n 2, 1) := by decide +kernel
theorem dX1_hasCells_13 : decode cX1_hasCells 13 = .ok (.ifCond .lt 17, 3) := by decide +kernel
theorem dX1_hasCells_16 : decode cX1_hasCells 16 = .ok (.iload_n 2, 1) := by decide +kernel
theorem dX1_hasCells_17 : decode cX1_hasCells 17 = .ok (.aload_n 0, 1) := by decide +kernel
theorem dX1_hasCells_18 : decode cX1_hasCells 18 = .ok (.getfield 19, 3) := by decide +kernel
theorem dX1_hasCells_21 : decode cX1_hasCells 21 = .ok (.iload_n 1, 1) := by decide +kernel
theorem dX1_hasCells_22 : decode cX1_hasCells 22 = .ok (.isub, 1) := by decide +kernel
theorem dX1_hasCells_23 : decode cX1_hasCells 23 = .ok (.if_icmp .gt 7, 3) := by decide +kernel
theorem dX1_hasCells_26 : decode cX1_hasCells 26 = .ok (.iconst 1, 1) := by decide +kernel
theorem dX1_hasCells_27 : decode cX1_hasCells 27 = .ok (.goto 4, 3) := by decide +kernel
theorem dX1_hasCells_30 : decode cX1_hasCells 30 = .ok (.iconst 0, 1) := by decide +kernel
theorem dX1_hasCells_31 : decode cX1_hasCells 31 = .ok (.ireturn, 1) := by decide +kernel
theorem dX1_faultAs_0 : decode cX1_faultAs 0 = .ok (.aload_n 0, 1) := by decide +kernel
theorem dX1_faultAs_1 : decode cX1_faultAs 1 = .ok (.invokevirtual 28, 3) := by decide +kernel
theorem dX1_faultAs_4 : decode cX1_faultAs 4 = .ok (.ifCond .eq 5, 3) := by decide +kernel
theorem dX1_faultAs_7 : decode cX1_faultAs 7 = .ok (.iconst 1, 1) := by decide +kernel
theorem dX1_faultAs_8 : decode cX1_faultAs 8 = .ok (.ireturn, 1) := by decide +kernel
theorem dX1_faultAs_9 : decode cX1_faultAs 9 = .ok (.aload_n 0, 1) := by decide +kernel
theorem dX1_faultAs_10 : decode cX1_faultAs 10 = .ok (.getfield 15, 3) := by decide +kernel
theorem dX1_faultAs_13 : decode cX1_faultAs 13 = .ok (.iload_n 1, 1) := by decide +kernel
theorem dX1_faultAs_14 : decode cX1_faultAs 14 = .ok (.if_icmp .ne 7, 3) := by decide +kernel
theorem dX1_faultAs_17 : decode cX1_faultAs 17 = .ok (.iconst 0, 1) := by decide +kernel
theorem dX1_faultAs_18 : decode cX1_faultAs 18 = .ok (.goto 4, 3) := by decide +kernel
theorem dX1_faultAs_21 : decode cX1_faultAs 21 = .ok (.iconst 2, 1) := by decide +kernel
theorem dX1_faultAs_22 : decode cX1_faultAs 22 = .ok (.ireturn, 1) := by decide +kernel
theorem dX1_cutToLane_0 : decode cX1_cutToLane 0 = .ok (.aload_n 0, 1) := by decide +kernel
theorem dX1_cutToLane_1 : decode cX1_cutToLane 1 = .ok (.getfield 15, 3) := by decide +kernel
theorem dX1_cutToLane_4 : decode cX1_cutToLane 4 = .ok (.lookupswitch 34 #[(0, 28), (1, 31)], 28) := by decide +kernel
theorem dX1_cutToLane_32 : decode cX1_cutToLane 32 = .ok (.iload_n 1, 1) := by decide +kernel
theorem dX1_cutToLane_33 : decode cX1_cutToLane 33 = .ok (.i2b, 1) := by decide +kernel
theorem dX1_cutToLane_34 : decode cX1_cutToLane 34 = .ok (.ireturn, 1) := by decide +kernel
theorem dX1_cutToLane_35 : decode cX1_cutToLane 35 = .ok (.iload_n 1, 1) := by decide +kernel
theorem dX1_cutToLane_36 : decode cX1_cutToLane 36 = .ok (.i2s, 1) := by decide +kernel
theorem dX1_cutToLane_37 : decode cX1_cutToLane 37 = .ok (.ireturn, 1) := by decide +kernel
theorem dX1_cutToLane_38 : decode cX1_cutToLane 38 = .ok (.iload_n 1, 1) := by decide +kernel
theorem dX1_cutToLane_39 : decode cX1_cutToLane 39 = .ok (.ireturn, 1) := by decide +kernel
theorem dX2_init_0 : decode cX2_init 0 = .ok (.aload_n 0, 1) := by decide +kernel
theorem dX2_init_1 : decode cX2_init 1 = .ok (.invokespecial 3, 3) := by decide +kernel
theorem dX2_init_4 : decode cX2_init 4 = .ok (.aload_n 0, 1) := by decide +kernel
theorem dX2_init_5 : decode cX2_init 5 = .ok (.iconst 4, 1) := by decide +kernel
theorem dX2_init_6 : decode cX2_init 6 = .ok (.newarray .int, 2) := by decide +kernel
theorem dX2_init_8 : decode cX2_init 8 = .ok (.putfield 9, 3) := by decide +kernel
theorem dX2_init_11 : decode cX2_init 11 = .ok (.aload_n 0, 1) := by decide +kernel
theorem dX2_init_12 : decode cX2_init 12 = .ok (.bipush (-9), 2) := by decide +kernel
theorem dX2_init_14 : decode cX2_init 14 = .ok (.putfield 15, 3) := by decide +kernel
theorem dX2_init_17 : decode cX2_init 17 = .ok (.aload_n 0, 1) := by decide +kernel
theorem dX2_init_18 : decode cX2_init 18 = .ok (.iconst 4, 1) := by decide +kernel
theorem dX2_init_19 : decode cX2_init 19 = .ok (.iconst 5, 1) := by decide +kernel
theorem dX2_init_20 : decode cX2_init 20 = .ok (.multianewarray 19 2, 4) := by decide +kernel
theorem dX2_init_24 : decode cX2_init 24 = .ok (.putfield 21, 3) := by decide +kernel
theorem dX2_init_27 : decode cX2_init 27 = .ok (.aload_n 0, 1) := by decide +kernel
theorem dX2_init_28 : decode cX2_init 28 = .ok (.iconst 4, 1) := by decide +kernel
theorem dX2_init_29 : decode cX2_init 29 = .ok (.newarray .int, 2) := by decide +kernel
theorem dX2_init_31 : decode cX2_init 31 = .ok (.putfield 24, 3) := by decide +kernel
theorem dX2_init_34 : decode cX2_init 34 = .ok (.aload_n 0, 1) := by decide +kernel
theorem dX2_init_35 : decode cX2_init 35 = .ok (.iconst 0, 1) := by decide +kernel
theorem dX2_init_36 : decode cX2_init 36 = .ok (.putfield 27, 3) := by decide +kernel
theorem dX2_init_39 : decode cX2_init 39 = .ok (.aload_n 0, 1) := by decide +kernel
theorem dX2_init_40 : decode cX2_init 40 = .ok (.iconst 0, 1) := by decide +kernel
theorem dX2_init_41 : decode cX2_init 41 = .ok (.putfield 30, 3) := by decide +kernel
theorem dX2_init_44 : decode cX2_init 44 = .ok (.return_, 1) := by decide +kernel
theorem dX2_find_0 : decode cX2_find 0 = .ok (.aload_n 0, 1) := by decide +kernel
theorem dX2_find_1 : decode cX2_find 1 = .ok (.aload_n 1, 1) := by decide +kernel
theorem dX2_find_2 : decode cX2_find 2 = .ok (.getfield 33, 3) := by decide +kernel
theorem dX2_find_5 : decode cX2_find 5 = .ok (.putfield 27, 3) := by decide +kernel
theorem dX2_find_8 : decode cX2_find 8 = .ok (.aload_n 0, 1) := by decide +kernel
theorem dX2_find_9 : decode cX2_find 9 = .ok (.aload_n 1, 1) := by decide +kernel
theorem dX2_find_10 : decode cX2_find 10 = .ok (.getfield 36, 3) := by decide +kernel
theorem dX2_find_13 : decode cX2_find 13 = .ok (.putfield 30, 3) := by decide +kernel
theorem dX2_find_16 : decode cX2_find 16 = .ok (.aload_n 0, 1) := by decide +kernel
theorem dX2_find_17 : decode cX2_find 17 = .ok (.bipush (-9), 2) := by decide +kernel
theorem dX2_find_19 : decode cX2_find 19 = .ok (.putfield 15, 3) := by decide +kernel
theorem dX2_find_22 : decode cX2_find 22 = .ok (.iconst 0, 1) := by decide +kernel
theorem dX2_find_23 : decode cX2_find 23 = .ok (.istore_n 2, 1) := by decide +kernel
theorem dX2_find_24 : decode cX2_find 24 = .ok (.iload_n 2, 1) := by decide +kernel
theorem dX2_find_25 : decode cX2_find 25 = .ok (.aload_n 0, 1) := by decide +kernel
theorem dX2_find_26 : decode cX2_find 26 = .ok (.getfield 27, 3) := by decide +kernel
theorem dX2_find_29 : decode cX2_find 29 = .ok (.if_icmp .ge 39, 3) := by decide +kernel
theorem dX2_find_32 : decode cX2_find 32 = .ok (.iconst 0, 1) := by decide +kernel
theorem dX2_find_33 : decode cX2_find 33 = .ok (.istore_n 3, 1) := by decide +kernel
theorem dX2_find_34 : decode cX2_find 34 = .ok (.iload_n 3, 1) := by decide +kernel
theorem dX2_find_35 : decode cX2_find 35 = .ok (.aload_n 0, 1) := by decide +kernel
theorem dX2_find_36 : decode cX2_find 36 = .ok (.getfield 30, 3) := by decide +kernel
theorem dX2_find_39 : decode cX2_find 39 = .ok (.if_icmp .ge 23, 3) := by decide +kernel
theorem dX2_find_42 : decode cX2_find 42 = .ok (.aload_n 0, 1) := by decide +kernel
theorem dX2_find_43 : decode cX2_find 43 = .ok (.getfield 21, 3) := by decide +kernel
theorem dX2_find_46 : decode cX2_find 46 = .ok (.iload_n 2, 1) := by decide +kernel
theorem dX2_find_47 : decode cX2_find 47 = .ok (.aaload, 1) := by decide +kernel
theorem dX2_find_48 : decode cX2_find 48 = .ok (.iload_n 3, 1) := by decide +kernel
theorem dX2_find_49 : decode cX2_find 49 = .ok (.aload_n 1, 1) := by decide +kernel
theorem dX2_find_50 : decode cX2_find 50 = .ok (.iload_n 2, 1) := by decide +kernel
theorem dX2_find_51 : decode cX2_find 51 = .ok (.iload_n 3, 1) := by decide +kernel
theorem dX2_find_52 : decode cX2_find 52 = .ok (.invokevirtual 37, 3) := by decide +kernel
theorem dX2_find_55 : decode cX2_find 55 = .ok (.iastore, 1) := by decide +kernel
theorem dX2_find_56 : decode cX2_find 56 = .ok (.iinc 3 1, 3) := by decide +kernel
theorem dX2_find_59 : decode cX2_find 59 = .ok (.goto (-25), 3) := by decide +kernel
theorem dX2_find_62 : decode cX2_find 62 = .ok (.iinc 2 1, 3) := by decide +kernel
theorem dX2_find_65 : decode cX2_find 65 = .ok (.goto (-41), 3) := by decide +kernel
theorem dX2_find_68 : decode cX2_find 68 = .ok (.aload_n 0, 1) := by decide +kernel
theorem dX2_find_69 : decode cX2_find 69 = .ok (.iconst 0, 1) := by decide +kernel
theorem dX2_find_70 : decode cX2_find 70 = .ok (.iconst 0, 1) := by decide +kernel
theorem dX2_find_71 : decode cX2_find 71 = .ok (.invokevirtual 41, 3) := by decide +kernel
theorem dX2_find_74 : decode cX2_find 74 = .ok (.return_, 1) := by decide +kernel
theorem dX2_shelveFrom_0 : decode cX2_shelveFrom 0 = .ok (.iload_n 1, 1) := by decide +kernel
theorem dX2_shelveFrom_1 : decode cX2_shelveFrom 1 = .ok (.aload_n 0, 1) := by decide +kernel
theorem dX2_shelveFrom_2 : decode cX2_shelveFrom 2 = .ok (.getfield 27, 3) := by decide +kernel
theorem dX2_shelveFrom_5 : decode cX2_shelveFrom 5 = .ok (.if_icmp .lt 36, 3) := by decide +kernel
theorem dX2_shelveFrom_8 : decode cX2_shelveFrom 8 = .ok (.iload_n 2, 1) := by decide +kernel
theorem dX2_shelveFrom_9 : decode cX2_shelveFrom 9 = .ok (.invokestatic 45, 3) := by decide +kernel
theorem dX2_shelveFrom_12 : decode cX2_shelveFrom 12 = .ok (.istore_n 3, 1) := by decide +kernel
theorem dX2_shelveFrom_13 : decode cX2_shelveFrom 13 = .ok (.iload_n 3, 1) := by decide +kernel
theorem dX2_shelveFrom_14 : decode cX2_shelveFrom 14 = .ok (.aload_n 0, 1) := by decide +kernel
theorem dX2_shelveFrom_15 : decode cX2_shelveFrom 15 = .ok (.getfield 15, 3) := by decide +kernel
theorem dX2_shelveFrom_18 : decode cX2_shelveFrom 18 = .ok (.if_icmp .le 22, 3) := by decide +kernel
theorem dX2_shelveFrom_21 : decode cX2_shelveFrom 21 = .ok (.aload_n 0, 1) := by decide +kernel
theorem dX2_shelveFrom_22 : decode cX2_shelveFrom 22 = .ok (.iload_n 3, 1) := by decide +kernel
theorem dX2_shelveFrom_23 : decode cX2_shelveFrom 23 = .ok (.putfield 15, 3) := by decide +kernel
theorem dX2_shelveFrom_26 : decode cX2_shelveFrom 26 = .ok (.aload_n 0, 1) := by decide +kernel
theorem dX2_shelveFrom_27 : decode cX2_shelveFrom 27 = .ok (.getfield 24, 3) := by decide +kernel
theorem dX2_shelveFrom_30 : decode cX2_shelveFrom 30 = .ok (.iconst 0, 1) := by decide +kernel
theorem dX2_shelveFrom_31 : decode cX2_shelveFrom 31 = .ok (.aload_n 0, 1) := by decide +kernel
theorem dX2_shelveFrom_32 : decode cX2_shelveFrom 32 = .ok (.getfield 9, 3) := by decide +kernel
theorem dX2_shelveFrom_35 : decode cX2_shelveFrom 35 = .ok (.iconst 0, 1) := by decide +kernel
theorem dX2_shelveFrom_36 : decode cX2_shelveFrom 36 = .ok (.iconst 4, 1) := by decide +kernel
theorem dX2_shelveFrom_37 : decode cX2_shelveFrom 37 = .ok (.invokestatic 51, 3) := by decide +kernel
theorem dX2_shelveFrom_40 : decode cX2_shelveFrom 40 = .ok (.return_, 1) := by decide +kernel
theorem dX2_shelveFrom_41 : decode cX2_shelveFrom 41 = .ok (.iconst 0, 1) := by decide +kernel
theorem dX2_shelveFrom_42 : decode cX2_shelveFrom 42 = .ok (.istore_n 3, 1) := by decide +kernel
theorem dX2_shelveFrom_43 : decode cX2_shelveFrom 43 = .ok (.iload_n 3, 1) := by decide +kernel
theorem dX2_shelveFrom_44 : decode cX2_shelveFrom 44 = .ok (.aload_n 0, 1) := by decide +kernel
theorem dX2_shelveFrom_45 : decode cX2_shelveFrom 45 = .ok (.getfield 30, 3) := by decide +kernel
theorem dX2_shelveFrom_48 : decode cX2_shelveFrom 48 = .ok (.if_icmp .ge 33, 3) := by decide +kernel
theorem dX2_shelveFrom_51 : decode cX2_shelveFrom 51 = .ok (.aload_n 0, 1) := by decide +kernel
theorem dX2_shelveFrom_52 : decode cX2_shelveFrom 52 = .ok (.getfield 24, 3) := by decide +kernel
theorem dX2_shelveFrom_55 : decode cX2_shelveFrom 55 = .ok (.iload_n 1, 1) := by decide +kernel
theorem dX2_shelveFrom_56 : decode cX2_shelveFrom 56 = .ok (.iload_n 3, 1) := by decide +kernel
theorem dX2_shelveFrom_57 : decode cX2_shelveFrom 57 = .ok (.iastore, 1) := by decide +kernel
theorem dX2_shelveFrom_58 : decode cX2_shelveFrom 58 = .ok (.aload_n 0, 1) := by decide +kernel
theorem dX2_shelveFrom_59 : decode cX2_shelveFrom 59 = .ok (.iload_n 1, 1) := by decide +kernel
theorem dX2_shelveFrom_60 : decode cX2_shelveFrom 60 = .ok (.iconst 1, 1) := by decide +kernel
theorem dX2_shelveFrom_61 : decode cX2_shelveFrom 61 = .ok (.iadd, 1) := by decide +kernel
theorem dX2_shelveFrom_62 : decode cX2_shelveFrom 62 = .ok (.iload_n 2, 1) := by decide +kernel
theorem dX2_shelveFrom_63 : decode cX2_shelveFrom 63 = .ok (.aload_n 0, 1) := by decide +kernel
theorem dX2_shelveFrom_64 : decode cX2_shelveFrom 64 = .ok (.getfield 21, 3) := by decide +kernel
theorem dX2_shelveFrom_67 : decode cX2_shelveFrom 67 = .ok (.iload_n 1, 1) := by decide +kernel
theorem dX2_shelveFrom_68 : decode cX2_shelveFrom 68 = .ok (.aaload, 1) := by decide +kernel
theorem dX2_shelveFrom_69 : decode cX2_shelveFrom 69 = .ok (.iload_n 3, 1) := by decide +kernel
theorem dX2_shelveFrom_70 : decode cX2_shelveFrom 70 = .ok (.iaload, 1) := by decide +kernel
theorem dX2_shelveFrom_71 : decode cX2_shelveFrom 71 = .ok (.ior, 1) := by decide +kernel
theorem dX2_shelveFrom_72 : decode cX2_shelveFrom 72 = .ok (.invokevirtual 41, 3) := by decide +kernel
theorem dX2_shelveFrom_75 : decode cX2_shelveFrom 75 = .ok (.iinc 3 1, 3) := by decide +kernel
theorem dX2_shelveFrom_78 : decode cX2_shelveFrom 78 = .ok (.goto (-35), 3) := by decide +kernel
theorem dX2_shelveFrom_81 : decode cX2_shelveFrom 81 = .ok (.return_, 1) := by decide +kernel
theorem dX3_init_0 : decode cX3_init 0 = .ok (.aload_n 0, 1) := by decide +kernel
theorem dX3_init_1 : decode cX3_init 1 = .ok (.invokespecial 3, 3) := by decide +kernel
theorem dX3_init_4 : decode cX3_init 4 = .ok (.aload_n 0, 1) := by decide +kernel
theorem dX3_init_5 : decode cX3_init 5 = .ok (.bipush 8, 2) := by decide +kernel
theorem dX3_init_7 : decode cX3_init 7 = .ok (.newarray .int, 2) := by decide +kernel
theorem dX3_init_9 : decode cX3_init 9 = .ok (.putfield 9, 3) := by decide +kernel
theorem dX3_init_12 : decode cX3_init 12 = .ok (.aload_n 0, 1) := by decide +kernel
theorem dX3_init_13 : decode cX3_init 13 = .ok (.bipush 8, 2) := by decide +kernel
theorem dX3_init_15 : decode cX3_init 15 = .ok (.newarray .int, 2) := by decide +kernel
theorem dX3_init_17 : decode cX3_init 17 = .ok (.putfield 15, 3) := by decide +kernel
theorem dX3_init_20 : decode cX3_init 20 = .ok (.aload_n 0, 1) := by decide +kernel
theorem dX3_init_21 : decode cX3_init 21 = .ok (.bipush 8, 2) := by decide +kernel
theorem dX3_init_23 : decode cX3_init 23 = .ok (.newarray .int, 2) := by decide +kernel
theorem dX3_init_25 : decode cX3_init 25 = .ok (.putfield 18, 3) := by decide +kernel
theorem dX3_init_28 : decode cX3_init 28 = .ok (.aload_n 0, 1) := by decide +kernel
theorem dX3_init_29 : decode cX3_init 29 = .ok (.iconst 0, 1) := by decide +kernel
theorem dX3_init_30 : decode cX3_init 30 = .ok (.putfield 21, 3) := by decide +kernel
theorem dX3_init_33 : decode cX3_init 33 = .ok (.return_, 1) := by decide +kernel
theorem dX3_add_0 : decode cX3_add 0 = .ok (.aload_n 0, 1) := by decide +kernel
theorem dX3_add_1 : decode cX3_add 1 = .ok (.getfield 21, 3) := by decide +kernel
theorem dX3_add_4 : decode cX3_add 4 = .ok (.bipush 8, 2) := by decide +kernel
theorem dX3_add_6 : decode cX3_add 6 = .ok (.if_icmp .lt 6, 3) := by decide +kernel
theorem dX3_add_9 : decode cX3_add 9 = .ok (.bipush (-4), 2) := by decide +kernel
theorem dX3_add_11 : decode cX3_add 11 = .ok (.ireturn, 1) := by decide +kernel
theorem dX3_add_12 : decode cX3_add 12 = .ok (.aload_n 0, 1) := by decide +kernel
theorem dX3_add_13 : decode cX3_add 13 = .ok (.getfield 9, 3) := by decide +kernel
theorem dX3_add_16 : decode cX3_add 16 = .ok (.aload_n 0, 1) := by decide +kernel
theorem dX3_add_17 : decode cX3_add 17 = .ok (.getfield 21, 3) := by decide +kernel
theorem dX3_add_20 : decode cX3_add 20 = .ok (.iload_n 1, 1) := by decide +kernel
theorem dX3_add_21 : decode cX3_add 21 = .ok (.iastore, 1) := by decide +kernel
theorem dX3_add_22 : decode cX3_add 22 = .ok (.aload_n 0, 1) := by decide +kernel
theorem dX3_add_23 : decode cX3_add 23 = .ok (.getfield 15, 3) := by decide +kernel
theorem dX3_add_26 : decode cX3_add 26 = .ok (.aload_n 0, 1) := by decide +kernel
theorem dX3_add_27 : decode cX3_add 27 = .ok (.getfield 21, 3) := by decide +kernel
theorem dX3_add_30 : decode cX3_add 30 = .ok (.iload_n 2, 1) := by decide +kernel
theorem dX3_add_31 : decode cX3_add 31 = .ok (.iastore, 1) := by decide +kernel
theorem dX3_add_32 : decode cX3_add 32 = .ok (.aload_n 0, 1) := by decide +kernel
theorem dX3_add_33 : decode cX3_add 33 = .ok (.getfield 18, 3) := by decide +kernel
theorem dX3_add_36 : decode cX3_add 36 = .ok (.aload_n 0, 1) := by decide +kernel
theorem dX3_add_37 : decode cX3_add 37 = .ok (.getfield 21, 3) := by decide +kernel
theorem dX3_add_40 : decode cX3_add 40 = .ok (.iload_n 3, 1) := by decide +kernel
theorem dX3_add_41 : decode cX3_add 41 = .ok (.iastore, 1) := by decide +kernel
theorem dX3_add_42 : decode cX3_add 42 = .ok (.aload_n 0, 1) := by decide +kernel
theorem dX3_add_43 : decode cX3_add 43 = .ok (.dup, 1) := by decide +kernel
theorem dX3_add_44 : decode cX3_add 44 = .ok (.getfield 21, 3) := by decide +kernel
theorem dX3_add_47 : decode cX3_add 47 = .ok (.iconst 1, 1) := by decide +kernel
theorem dX3_add_48 : decode cX3_add 48 = .ok (.iadd, 1) := by decide +kernel
theorem dX3_add_49 : decode cX3_add 49 = .ok (.putfield 21, 3) := by decide +kernel
theorem dX3_add_52 : decode cX3_add 52 = .ok (.aload_n 0, 1) := by decide +kernel
theorem dX3_add_53 : decode cX3_add 53 = .ok (.getfield 21, 3) := by decide +kernel
theorem dX3_add_56 : decode cX3_add 56 = .ok (.iconst 1, 1) := by decide +kernel
theorem dX3_add_57 : decode cX3_add 57 = .ok (.isub, 1) := by decide +kernel
theorem dX3_add_58 : decode cX3_add 58 = .ok (.ireturn, 1) := by decide +kernel
theorem dX3_takeBack_0 : decode cX3_takeBack 0 = .ok (.iload_n 1, 1) := by decide +kernel
theorem dX3_takeBack_1 : decode cX3_takeBack 1 = .ok (.ifCond .lt 11, 3) := by decide +kernel
theorem dX3_takeBack_4 : decode cX3_takeBack 4 = .ok (.iload_n 1, 1) := by decide +kernel
theorem dX3_takeBack_5 : decode cX3_takeBack 5 = .ok (.aload_n 0, 1) := by decide +kernel
theorem dX3_takeBack_6 : decode cX3_takeBack 6 = .ok (.getfield 21, 3) := by decide +kernel
theorem dX3_takeBack_9 : decode cX3_takeBack 9 = .ok (.if_icmp .le 6, 3) := by decide +kernel
theorem dX3_takeBack_12 : decode cX3_takeBack 12 = .ok (.bipush (-2), 2) := by decide +kernel
theorem dX3_takeBack_14 : decode cX3_takeBack 14 = .ok (.ireturn, 1) := by decide +kernel
theorem dX3_takeBack_15 : decode cX3_takeBack 15 = .ok (.aload_n 0, 1) := by decide +kernel
theorem dX3_takeBack_16 : decode cX3_takeBack 16 = .ok (.dup, 1) := by decide +kernel
theorem dX3_takeBack_17 : decode cX3_takeBack 17 = .ok (.getfield 21, 3) := by decide +kernel
theorem dX3_takeBack_20 : decode cX3_takeBack 20 = .ok (.iload_n 1, 1) := by decide +kernel
theorem dX3_takeBack_21 : decode cX3_takeBack 21 = .ok (.isub, 1) := by decide +kernel
theorem dX3_takeBack_22 : decode cX3_takeBack 22 = .ok (.putfield 21, 3) := by decide +kernel
theorem dX3_takeBack_25 : decode cX3_takeBack 25 = .ok (.aload_n 0, 1) := by decide +kernel
theorem dX3_takeBack_26 : decode cX3_takeBack 26 = .ok (.getfield 21, 3) := by decide +kernel
theorem dX3_takeBack_29 : decode cX3_takeBack 29 = .ok (.ireturn, 1) := by decide +kernel
theorem dX4_init_0 : decode cX4_init 0 = .ok (.aload_n 0, 1) := by decide +kernel
theorem dX4_init_1 : decode cX4_init 1 = .ok (.invokespecial 3, 3) := by decide +kernel
theorem dX4_init_4 : decode cX4_init 4 = .ok (.aload_n 0, 1) := by decide +kernel
theorem dX4_init_5 : decode cX4_init 5 = .ok (.iconst 4, 1) := by decide +kernel
theorem dX4_init_6 : decode cX4_init 6 = .ok (.newarray .int, 2) := by decide +kernel
theorem dX4_init_8 : decode cX4_init 8 = .ok (.putfield 9, 3) := by decide +kernel
theorem dX4_init_11 : decode cX4_init 11 = .ok (.aload_n 0, 1) := by decide +kernel
theorem dX4_init_12 : decode cX4_init 12 = .ok (.bipush (-9), 2) := by decide +kernel
theorem dX4_init_14 : decode cX4_init 14 = .ok (.putfield 15, 3) := by decide +kernel
theorem dX4_init_17 : decode cX4_init 17 = .ok (.aload_n 0, 1) := by decide +kernel
theorem dX4_init_18 : decode cX4_init 18 = .ok (.iconst 4, 1) := by decide +kernel
theorem dX4_init_19 : decode cX4_init 19 = .ok (.bipush 9, 2) := by decide +kernel
theorem dX4_init_21 : decode cX4_init 21 = .ok (.multianewarray 19 2, 4) := by decide +kernel
theorem dX4_init_25 : decode cX4_init 25 = .ok (.putfield 21, 3) := by decide +kernel
theorem dX4_init_28 : decode cX4_init 28 = .ok (.aload_n 0, 1) := by decide +kernel
theorem dX4_init_29 : decode cX4_init 29 = .ok (.iconst 4, 1) := by decide +kernel
theorem dX4_init_30 : decode cX4_init 30 = .ok (.newarray .int, 2) := by decide +kernel
theorem dX4_init_32 : decode cX4_init 32 = .ok (.putfield 24, 3) := by decide +kernel
theorem dX4_init_35 : decode cX4_init 35 = .ok (.aload_n 0, 1) := by decide +kernel
theorem dX4_init_36 : decode cX4_init 36 = .ok (.iconst 5, 1) := by decide +kernel
theorem dX4_init_37 : decode cX4_init 37 = .ok (.newarray .int, 2) := by decide +kernel
theorem dX4_init_39 : decode cX4_init 39 = .ok (.putfield 27, 3) := by decide +kernel
theorem dX4_init_42 : decode cX4_init 42 = .ok (.aload_n 0, 1) := by decide +kernel
theorem dX4_init_43 : decode cX4_init 43 = .ok (.iconst 4, 1) := by decide +kernel
theorem dX4_init_44 : decode cX4_init 44 = .ok (.newarray .int, 2) := by decide +kernel
theorem dX4_init_46 : decode cX4_init 46 = .ok (.putfield 30, 3) := by decide +kernel
theorem dX4_init_49 : decode cX4_init 49 = .ok (.aload_n 0, 1) := by decide +kernel
theorem dX4_init_50 : decode cX4_init 50 = .ok (.iconst 0, 1) := by decide +kernel
theorem dX4_init_51 : decode cX4_init 51 = .ok (.putfield 33, 3) := by decide +kernel
theorem dX4_init_54 : decode cX4_init 54 = .ok (.aload_n 0, 1) := by decide +kernel
theorem dX4_init_55 : decode cX4_init 55 = .ok (.iconst 0, 1) := by decide +kernel
theorem dX4_init_56 : decode cX4_init 56 = .ok (.putfield 36, 3) := by decide +kernel
theorem dX4_init_59 : decode cX4_init 59 = .ok (.return_, 1) := by decide +kernel
theorem dX4_find_0 : decode cX4_find 0 = .ok (.aload_n 0, 1) := by decide +kernel
theorem dX4_find_1 : decode cX4_find 1 = .ok (.aload_n 1, 1) := by decide +kernel
theorem dX4_find_2 : decode cX4_find 2 = .ok (.getfield 39, 3) := by decide +kernel
theorem dX4_find_5 : decode cX4_find 5 = .ok (.putfield 33, 3) := by decide +kernel
theorem dX4_find_8 : decode cX4_find 8 = .ok (.aload_n 0, 1) := by decide +kernel
theorem dX4_find_9 : decode cX4_find 9 = .ok (.iload_n 2, 1) := by decide +kernel
theorem dX4_find_10 : decode cX4_find 10 = .ok (.putfield 36, 3) := by decide +kernel
theorem dX4_find_13 : decode cX4_find 13 = .ok (.aload_n 0, 1) := by decide +kernel
theorem dX4_find_14 : decode cX4_find 14 = .ok (.bipush (-9), 2) := by decide +kernel
theorem dX4_find_16 : decode cX4_find 16 = .ok (.putfield 15, 3) := by decide +kernel
theorem dX4_find_19 : decode cX4_find 19 = .ok (.aload_n 0, 1) := by decide +kernel
theorem dX4_find_20 : decode cX4_find 20 = .ok (.getfield 27, 3) := by decide +kernel
theorem dX4_find_23 : decode cX4_find 23 = .ok (.aload_n 0, 1) := by decide +kernel
theorem dX4_find_24 : decode cX4_find 24 = .ok (.getfield 33, 3) := by decide +kernel
theorem dX4_find_27 : decode cX4_find 27 = .ok (.iconst 0, 1) := by decide +kernel
theorem dX4_find_28 : decode cX4_find 28 = .ok (.iastore, 1) := by decide +kernel
theorem dX4_find_29 : decode cX4_find 29 = .ok (.aload_n 0, 1) := by decide +kernel
theorem dX4_find_30 : decode cX4_find 30 = .ok (.getfield 33, 3) := by decide +kernel
theorem dX4_find_33 : decode cX4_find 33 = .ok (.iconst 1, 1) := by decide +kernel
theorem dX4_find_34 : decode cX4_find 34 = .ok (.isub, 1) := by decide +kernel
theorem dX4_find_35 : decode cX4_find 35 = .ok (.istore 4, 2) := by decide +kernel
theorem dX4_find_37 : decode cX4_find 37 = .ok (.iload 4, 2) := by decide +kernel
theorem dX4_find_39 : decode cX4_find 39 = .ok (.ifCond .lt 49, 3) := by decide +kernel
theorem dX4_find_42 : decode cX4_find 42 = .ok (.aload_n 0, 1) := by decide +kernel
theorem dX4_find_43 : decode cX4_find 43 = .ok (.aload_n 1, 1) := by decide +kernel
theorem dX4_find_44 : decode cX4_find 44 = .ok (.iload 4, 2) := by decide +kernel
theorem dX4_find_46 : decode cX4_find 46 = .ok (.iload_n 3, 1) := by decide +kernel
theorem dX4_find_47 : decode cX4_find 47 = .ok (.invokevirtual 42, 3) := by decide +kernel
theorem dX4_find_50 : decode cX4_find 50 = .ok (.aload_n 0, 1) := by decide +kernel
theorem dX4_find_51 : decode cX4_find 51 = .ok (.getfield 27, 3) := by decide +kernel
theorem dX4_find_54 : decode cX4_find 54 = .ok (.iload 4, 2) := by decide +kernel
theorem dX4_find_56 : decode cX4_find 56 = .ok (.aload_n 0, 1) := by decide +kernel
theorem dX4_find_57 : decode cX4_find 57 = .ok (.getfield 27, 3) := by decide +kernel
theorem dX4_find_60 : decode cX4_find 60 = .ok (.iload 4, 2) := by decide +kernel
theorem dX4_find_62 : decode cX4_find 62 = .ok (.iconst 1, 1) := by decide +kernel
theorem dX4_find_63 : decode cX4_find 63 = .ok (.iadd, 1) := by decide +kernel
theorem dX4_find_64 : decode cX4_find 64 = .ok (.iaload, 1) := by decide +kernel
theorem dX4_find_65 : decode cX4_find 65 = .ok (.aload_n 0, 1) := by decide +kernel
theorem dX4_find_66 : decode cX4_find 66 = .ok (.getfield 21, 3) := by decide +kernel
theorem dX4_find_69 : decode cX4_find 69 = .ok (.iload 4, 2) := by decide +kernel
theorem dX4_find_71 : decode cX4_find 71 = .ok (.aaload, 1) := by decide +kernel
theorem dX4_find_72 : decode cX4_find 72 = .ok (.aload_n 0, 1) := by decide +kernel
theorem dX4_find_73 : decode cX4_find 73 = .ok (.getfield 24, 3) := by decide +kernel
theorem dX4_find_76 : decode cX4_find 76 = .ok (.iload 4, 2) := by decide +kernel
theorem dX4_find_78 : decode cX4_find 78 = .ok (.iaload, 1) := by decide +kernel
theorem dX4_find_79 : decode cX4_find 79 = .ok (.iaload, 1) := by decide +kernel
theorem dX4_find_80 : decode cX4_find 80 = .ok (.ior, 1) := by decide +kernel
theorem dX4_find_81 : decode cX4_find 81 = .ok (.iastore, 1) := by decide +kernel
theorem dX4_find_82 : decode cX4_find 82 = .ok (.iinc 4 (-1), 3) := by decide +kernel
theorem dX4_find_85 : decode cX4_find 85 = .ok (.goto (-48), 3) := by decide +kernel
theorem dX4_find_88 : decode cX4_find 88 = .ok (.aload_n 0, 1) := by decide +kernel
theorem dX4_find_89 : decode cX4_find 89 = .ok (.iconst 0, 1) := by decide +kernel
theorem dX4_find_90 : decode cX4_find 90 = .ok (.iconst 0, 1) := by decide +kernel
theorem dX4_find_91 : decode cX4_find 91 = .ok (.iconst 0, 1) := by decide +kernel
theorem dX4_find_92 : decode cX4_find 92 = .ok (.invokevirtual 46, 3) := by decide +kernel
theorem dX4_find_95 : decode cX4_find 95 = .ok (.return_, 1) := by decide +kernel
theorem dX4_measure_0 : decode cX4_measure 0 = .ok (.aload_n 1, 1) := by decide +kernel
theorem dX4_measure_1 : decode cX4_measure 1 = .ok (.iload_n 2, 1) := by decide +kernel
theorem dX4_measure_2 : decode cX4_measure 2 = .ok (.bipush (-9), 2) := by decide +kernel
theorem dX4_measure_4 : decode cX4_measure 4 = .ok (.invokevirtual 50, 3) := by decide +kernel
theorem dX4_measure_7 : decode cX4_measure 7 = .ok (.istore 4, 2) := by decide +kernel
theorem dX4_measure_9 : decode cX4_measure 9 = .ok (.iload 4, 2) := by decide +kernel
theorem dX4_measure_11 : decode cX4_measure 11 = .ok (.invokestatic 54, 3) := by decide +kernel
theorem dX4_measure_14 : decode cX4_measure 14 = .ok (.istore 5, 2) := by decide +kernel
theorem dX4_measure_16 : decode cX4_measure 16 = .ok (.iconst 0, 1) := by decide +kernel
theorem dX4_measure_17 : decode cX4_measure 17 = .ok (.istore 6, 2) := by decide +kernel
theorem dX4_measure_19 : decode cX4_measure 19 = .ok (.iload 6, 2) := by decide +kernel
theorem dX4_measure_21 : decode cX4_measure 21 = .ok (.iload 5, 2) := by decide +kernel
theorem dX4_measure_23 : decode cX4_measure 23 = .ok (.if_icmp .gt 46, 3) := by decide +kernel
theorem dX4_measure_26 : decode cX4_measure 26 = .ok (.aload_n 1, 1) := by decide +kernel
theorem dX4_measure_27 : decode cX4_measure 27 = .ok (.iload 4, 2) := by decide +kernel
theorem dX4_measure_29 : decode cX4_measure 29 = .ok (.iload 6, 2) := by decide +kernel
theorem dX4_measure_31 : decode cX4_measure 31 = .ok (.invokevirtual 60, 3) := by decide +kernel
theorem dX4_measure_34 : decode cX4_measure 34 = .ok (.istore 7, 2) := by decide +kernel
theorem dX4_measure_36 : decode cX4_measure 36 = .ok (.iload 7, 2) := by decide +kernel
theorem dX4_measure_38 : decode cX4_measure 38 = .ok (.iload_n 3, 1) := by decide +kernel
theorem dX4_measure_39 : decode cX4_measure 39 = .ok (.iand, 1) := by decide +kernel
theorem dX4_measure_40 : decode cX4_measure 40 = .ok (.ifCond .eq 4, 3) := by decide +kernel
theorem dX4_measure_43 : decode cX4_measure 43 = .ok (.return_, 1) := by decide +kernel
theorem dX4_measure_44 : decode cX4_measure 44 = .ok (.aload_n 0, 1) := by decide +kernel
theorem dX4_measure_45 : decode cX4_measure 45 = .ok (.getfield 21, 3) := by decide +kernel
theorem dX4_measure_48 : decode cX4_measure 48 = .ok (.iload_n 2, 1) := by decide +kernel
theorem dX4_measure_49 : decode cX4_measure 49 = .ok (.aaload, 1) := by decide +kernel
theorem dX4_measure_50 : decode cX4_measure 50 = .ok (.iload 6, 2) := by decide +kernel
theorem dX4_measure_52 : decode cX4_measure 52 = .ok (.iload 7, 2) := by decide +kernel
theorem dX4_measure_54 : decode cX4_measure 54 = .ok (.iastore, 1) := by decide +kernel
theorem dX4_measure_55 : decode cX4_measure 55 = .ok (.aload_n 0, 1) := by decide +kernel
theorem dX4_measure_56 : decode cX4_measure 56 = .ok (.getfield 24, 3) := by decide +kernel
theorem dX4_measure_59 : decode cX4_measure 59 = .ok (.iload_n 2, 1) := by decide +kernel
theorem dX4_measure_60 : decode cX4_measure 60 = .ok (.iload 6, 2) := by decide +kernel
theorem dX4_measure_62 : decode cX4_measure 62 = .ok (.iastore, 1) := by decide +kernel
theorem dX4_measure_63 : decode cX4_measure 63 = .ok (.iinc 6 1, 3) := by decide +kernel
theorem dX4_measure_66 : decode cX4_measure 66 = .ok (.goto (-47), 3) := by decide +kernel
theorem dX4_measure_69 : decode cX4_measure 69 = .ok (.return_, 1) := by decide +kernel
theorem dX4_cutFrom_0 : decode cX4_cutFrom 0 = .ok (.aload_n 0, 1) := by decide +kernel
theorem dX4_cutFrom_1 : decode cX4_cutFrom 1 = .ok (.getfield 15, 3) := by decide +kernel
theorem dX4_cutFrom_4 : decode cX4_cutFrom 4 = .ok (.bipush (-9), 2) := by decide +kernel
theorem dX4_cutFrom_6 : decode cX4_cutFrom 6 = .ok (.if_icmp .eq 11, 3) := by decide +kernel
theorem dX4_cutFrom_9 : decode cX4_cutFrom 9 = .ok (.iload_n 3, 1) := by decide +kernel
theorem dX4_cutFrom_10 : decode cX4_cutFrom 10 = .ok (.aload_n 0, 1) := by decide +kernel
theorem dX4_cutFrom_11 : decode cX4_cutFrom 11 = .ok (.getfield 15, 3) := by decide +kernel
theorem dX4_cutFrom_14 : decode cX4_cutFrom 14 = .ok (.if_icmp .ge 7, 3) := by decide +kernel
theorem dX4_cutFrom_17 : decode cX4_cutFrom 17 = .ok (.iconst 1, 1) := by decide +kernel
theorem dX4_cutFrom_18 : decode cX4_cutFrom 18 = .ok (.goto 4, 3) := by decide +kernel
theorem dX4_cutFrom_21 : decode cX4_cutFrom 21 = .ok (.iconst 0, 1) := by decide +kernel
theorem dX4_cutFrom_22 : decode cX4_cutFrom 22 = .ok (.istore 4, 2) := by decide +kernel
theorem dX4_cutFrom_24 : decode cX4_cutFrom 24 = .ok (.iload 4, 2) := by decide +kernel
theorem dX4_cutFrom_26 : decode cX4_cutFrom 26 = .ok (.ifCond .eq 21, 3) := by decide +kernel
theorem dX4_cutFrom_29 : decode cX4_cutFrom 29 = .ok (.aload_n 0, 1) := by decide +kernel
theorem dX4_cutFrom_30 : decode cX4_cutFrom 30 = .ok (.getfield 36, 3) := by decide +kernel
theorem dX4_cutFrom_33 : decode cX4_cutFrom 33 = .ok (.iload_n 2, 1) := by decide +kernel
theorem dX4_cutFrom_34 : decode cX4_cutFrom 34 = .ok (.aload_n 0, 1) := by decide +kernel
theorem dX4_cutFrom_35 : decode cX4_cutFrom 35 = .ok (.getfield 27, 3) := by decide +kernel
theorem dX4_cutFrom_38 : decode cX4_cutFrom 38 = .ok (.iload_n 1, 1) := by decide +kernel
theorem dX4_cutFrom_39 : decode cX4_cutFrom 39 = .ok (.iaload, 1) := by decide +kernel
theorem dX4_cutFrom_40 : decode cX4_cutFrom 40 = .ok (.ior, 1) := by decide +kernel
theorem dX4_cutFrom_41 : decode cX4_cutFrom 41 = .ok (.iconst (-1), 1) := by decide +kernel
theorem dX4_cutFrom_42 : decode cX4_cutFrom 42 = .ok (.ixor, 1) := by decide +kernel
theorem dX4_cutFrom_43 : decode cX4_cutFrom 43 = .ok (.iand, 1) := by decide +kernel
theorem dX4_cutFrom_44 : decode cX4_cutFrom 44 = .ok (.ifCond .eq 4, 3) := by decide +kernel
theorem dX4_cutFrom_47 : decode cX4_cutFrom 47 = .ok (.return_, 1) := by decide +kernel
theorem dX4_cutFrom_48 : decode cX4_cutFrom 48 = .ok (.iload_n 1, 1) := by decide +kernel
theorem dX4_cutFrom_49 : decode cX4_cutFrom 49 = .ok (.aload_n 0, 1) := by decide +kernel
theorem dX4_cutFrom_50 : decode cX4_cutFrom 50 = .ok (.getfield 33, 3) := by decide +kernel
theorem dX4_cutFrom_53 : decode cX4_cutFrom 53 = .ok (.if_icmp .lt 23, 3) := by decide +kernel
theorem dX4_cutFrom_56 : decode cX4_cutFrom 56 = .ok (.aload_n 0, 1) := by decide +kernel
theorem dX4_cutFrom_57 : decode cX4_cutFrom 57 = .ok (.iload_n 3, 1) := by decide +kernel
theorem dX4_cutFrom_58 : decode cX4_cutFrom 58 = .ok (.putfield 15, 3) := by decide +kernel
theorem dX4_cutFrom_61 : decode cX4_cutFrom 61 = .ok (.aload_n 0, 1) := by decide +kernel
theorem dX4_cutFrom_62 : decode cX4_cutFrom 62 = .ok (.getfield 30, 3) := by decide +kernel
theorem dX4_cutFrom_65 : decode cX4_cutFrom 65 = .ok (.iconst 0, 1) := by decide +kernel
theorem dX4_cutFrom_66 : decode cX4_cutFrom 66 = .ok (.aload_n 0, 1) := by decide +kernel
theorem dX4_cutFrom_67 : decode cX4_cutFrom 67 = .ok (.getfield 9, 3) := by decide +kernel
theorem dX4_cutFrom_70 : decode cX4_cutFrom 70 = .ok (.iconst 0, 1) := by decide +kernel
theorem dX4_cutFrom_71 : decode cX4_cutFrom 71 = .ok (.iconst 4, 1) := by decide +kernel
theorem dX4_cutFrom_72 : decode cX4_cutFrom 72 = .ok (.invokestatic 63, 3) := by decide +kernel
theorem dX4_cutFrom_75 : decode cX4_cutFrom 75 = .ok (.return_, 1) := by decide +kernel
theorem dX4_cutFrom_76 : decode cX4_cutFrom 76 = .ok (.iconst 0, 1) := by decide +kernel
theorem dX4_cutFrom_77 : decode cX4_cutFrom 77 = .ok (.istore 5, 2) := by decide +kernel
theorem dX4_cutFrom_79 : decode cX4_cutFrom 79 = .ok (.iload 5, 2) := by decide +kernel
theorem dX4_cutFrom_81 : decode cX4_cutFrom 81 = .ok (.aload_n 0, 1) := by decide +kernel
theorem dX4_cutFrom_82 : decode cX4_cutFrom 82 = .ok (.getfield 24, 3) := by decide +kernel
theorem dX4_cutFrom_85 : decode cX4_cutFrom 85 = .ok (.iload_n 1, 1) := by decide +kernel
theorem dX4_cutFrom_86 : decode cX4_cutFrom 86 = .ok (.iaload, 1) := by decide +kernel
theorem dX4_cutFrom_87 : decode cX4_cutFrom 87 = .ok (.if_icmp .gt 67, 3) := by decide +kernel
theorem dX4_cutFrom_90 : decode cX4_cutFrom 90 = .ok (.iload 5, 2) := by decide +kernel
theorem dX4_cutFrom_92 : decode cX4_cutFrom 92 = .ok (.ifCond .eq 26, 3) := by decide +kernel
theorem dX4_cutFrom_95 : decode cX4_cutFrom 95 = .ok (.aload_n 0, 1) := by decide +kernel
theorem dX4_cutFrom_96 : decode cX4_cutFrom 96 = .ok (.getfield 21, 3) := by decide +kernel
theorem dX4_cutFrom_99 : decode cX4_cutFrom 99 = .ok (.iload_n 1, 1) := by decide +kernel
theorem dX4_cutFrom_100 : decode cX4_cutFrom 100 = .ok (.aaload, 1) := by decide +kernel
theorem dX4_cutFrom_101 : decode cX4_cutFrom 101 = .ok (.iload 5, 2) := by decide +kernel
theorem dX4_cutFrom_103 : decode cX4_cutFrom 103 = .ok (.iaload, 1) := by decide +kernel
theorem dX4_cutFrom_104 : decode cX4_cutFrom 104 = .ok (.aload_n 0, 1) := by decide +kernel
theorem dX4_cutFrom_105 : decode cX4_cutFrom 105 = .ok (.getfield 21, 3) := by decide +kernel
theorem dX4_cutFrom_108 : decode cX4_cutFrom 108 = .ok (.iload_n 1, 1) := by decide +kernel
theorem dX4_cutFrom_109 : decode cX4_cutFrom 109 = .ok (.aaload, 1) := by decide +kernel
theorem dX4_cutFrom_110 : decode cX4_cutFrom 110 = .ok (.iload 5, 2) := by decide +kernel
theorem dX4_cutFrom_112 : decode cX4_cutFrom 112 = .ok (.iconst 1, 1) := by decide +kernel
theorem dX4_cutFrom_113 : decode cX4_cutFrom 113 = .ok (.isub, 1) := by decide +kernel
theorem dX4_cutFrom_114 : decode cX4_cutFrom 114 = .ok (.iaload, 1) := by decide +kernel
theorem dX4_cutFrom_115 : decode cX4_cutFrom 115 = .ok (.if_icmp .eq 33, 3) := by decide +kernel
theorem dX4_cutFrom_118 : decode cX4_cutFrom 118 = .ok (.aload_n 0, 1) := by decide +kernel
theorem dX4_cutFrom_119 : decode cX4_cutFrom 119 = .ok (.getfield 30, 3) := by decide +kernel
theorem dX4_cutFrom_122 : decode cX4_cutFrom 122 = .ok (.iload_n 1, 1) := by decide +kernel
theorem dX4_cutFrom_123 : decode cX4_cutFrom 123 = .ok (.iload 5, 2) := by decide +kernel
theorem dX4_cutFrom_125 : decode cX4_cutFrom 125 = .ok (.iastore, 1) := by decide +kernel
theorem dX4_cutFrom_126 : decode cX4_cutFrom 126 = .ok (.aload_n 0, 1) := by decide +kernel
theorem dX4_cutFrom_127 : decode cX4_cutFrom 127 = .ok (.iload_n 1, 1) := by decide +kernel
theorem dX4_cutFrom_128 : decode cX4_cutFrom 128 = .ok (.iconst 1, 1) := by decide +kernel
theorem dX4_cutFrom_129 : decode cX4_cutFrom 129 = .ok (.iadd, 1) := by decide +kernel
theorem dX4_cutFrom_130 : decode cX4_cutFrom 130 = .ok (.iload_n 2, 1) := by decide +kernel
theorem dX4_cutFrom_131 : decode cX4_cutFrom 131 = .ok (.aload_n 0, 1) := by decide +kernel
theorem dX4_cutFrom_132 : decode cX4_cutFrom 132 = .ok (.getfield 21, 3) := by decide +kernel
theorem dX4_cutFrom_135 : decode cX4_cutFrom 135 = .ok (.iload_n 1, 1) := by decide +kernel
theorem dX4_cutFrom_136 : decode cX4_cutFrom 136 = .ok (.aaload, 1) := by decide +kernel
theorem dX4_cutFrom_137 : decode cX4_cutFrom 137 = .ok (.iload 5, 2) := by decide +kernel
theorem dX4_cutFrom_139 : decode cX4_cutFrom 139 = .ok (.iaload, 1) := by decide +kernel
theorem dX4_cutFrom_140 : decode cX4_cutFrom 140 = .ok (.ior, 1) := by decide +kernel
theorem dX4_cutFrom_141 : decode cX4_cutFrom 141 = .ok (.iload_n 3, 1) := by decide +kernel
theorem dX4_cutFrom_142 : decode cX4_cutFrom 142 = .ok (.iload 5, 2) := by decide +kernel
theorem dX4_cutFrom_144 : decode cX4_cutFrom 144 = .ok (.iadd, 1) := by decide +kernel
theorem dX4_cutFrom_145 : decode cX4_cutFrom 145 = .ok (.invokevirtual 46, 3) := by decide +kernel
theorem dX4_cutFrom_148 : decode cX4_cutFrom 148 = .ok (.iinc 5 1, 3) := by decide +kernel
theorem dX4_cutFrom_151 : decode cX4_cutFrom 151 = .ok (.goto (-72), 3) := by decide +kernel
theorem dX4_cutFrom_154 : decode cX4_cutFrom 154 = .ok (.return_, 1) := by decide +kernel
theorem dX5_init_0 : decode cX5_init 0 = .ok (.aload_n 0, 1) := by decide +kernel
theorem dX5_init_1 : decode cX5_init 1 = .ok (.invokespecial 3, 3) := by decide +kernel
theorem dX5_init_4 : decode cX5_init 4 = .ok (.aload_n 0, 1) := by decide +kernel
theorem dX5_init_5 : decode cX5_init 5 = .ok (.iconst 4, 1) := by decide +kernel
theorem dX5_init_6 : decode cX5_init 6 = .ok (.newarray .int, 2) := by decide +kernel
theorem dX5_init_8 : decode cX5_init 8 = .ok (.putfield 9, 3) := by decide +kernel
theorem dX5_init_11 : decode cX5_init 11 = .ok (.aload_n 0, 1) := by decide +kernel
theorem dX5_init_12 : decode cX5_init 12 = .ok (.iconst 4, 1) := by decide +kernel
theorem dX5_init_13 : decode cX5_init 13 = .ok (.newarray .int, 2) := by decide +kernel
theorem dX5_init_15 : decode cX5_init 15 = .ok (.putfield 15, 3) := by decide +kernel
theorem dX5_init_18 : decode cX5_init 18 = .ok (.aload_n 0, 1) := by decide +kernel
theorem dX5_init_19 : decode cX5_init 19 = .ok (.iconst 0, 1) := by decide +kernel
theorem dX5_init_20 : decode cX5_init 20 = .ok (.putfield 18, 3) := by decide +kernel
theorem dX5_init_23 : decode cX5_init 23 = .ok (.aload_n 0, 1) := by decide +kernel
theorem dX5_init_24 : decode cX5_init 24 = .ok (.iconst 1, 1) := by decide +kernel
theorem dX5_init_25 : decode cX5_init 25 = .ok (.putfield 22, 3) := by decide +kernel
theorem dX5_init_28 : decode cX5_init 28 = .ok (.return_, 1) := by decide +kernel
theorem dX5_weigh_0 : decode cX5_weigh 0 = .ok (.aload_n 0, 1) := by decide +kernel
theorem dX5_weigh_1 : decode cX5_weigh 1 = .ok (.getfield 9, 3) := by decide +kernel
theorem dX5_weigh_4 : decode cX5_weigh 4 = .ok (.iconst 0, 1) := by decide +kernel
theorem dX5_weigh_5 : decode cX5_weigh 5 = .ok (.invokestatic 25, 3) := by decide +kernel
theorem dX5_weigh_8 : decode cX5_weigh 8 = .ok (.aload_n 0, 1) := by decide +kernel
theorem dX5_weigh_9 : decode cX5_weigh 9 = .ok (.getfield 9, 3) := by decide +kernel
theorem dX5_weigh_12 : decode cX5_weigh 12 = .ok (.iconst 0, 1) := by decide +kernel
theorem dX5_weigh_13 : decode cX5_weigh 13 = .ok (.iconst 1, 1) := by decide +kernel
theorem dX5_weigh_14 : decode cX5_weigh 14 = .ok (.iastore, 1) := by decide +kernel
theorem dX5_weigh_15 : decode cX5_weigh 15 = .ok (.iconst 0, 1) := by decide +kernel
theorem dX5_weigh_16 : decode cX5_weigh 16 = .ok (.istore 4, 2) := by decide +kernel
theorem dX5_weigh_18 : decode cX5_weigh 18 = .ok (.iload 4, 2) := by decide +kernel
theorem dX5_weigh_20 : decode cX5_weigh 20 = .ok (.aload_n 1, 1) := by decide +kernel
theorem dX5_weigh_21 : decode cX5_weigh 21 = .ok (.getfield 31, 3) := by decide +kernel
theorem dX5_weigh_24 : decode cX5_weigh 24 = .ok (.if_icmp .ge 63, 3) := by decide +kernel
theorem dX5_weigh_27 : decode cX5_weigh 27 = .ok (.aload_n 0, 1) := by decide +kernel
theorem dX5_weigh_28 : decode cX5_weigh 28 = .ok (.getfield 15, 3) := by decide +kernel
theorem dX5_weigh_31 : decode cX5_weigh 31 = .ok (.iconst 0, 1) := by decide +kernel
theorem dX5_weigh_32 : decode cX5_weigh 32 = .ok (.invokestatic 25, 3) := by decide +kernel
theorem dX5_weigh_35 : decode cX5_weigh 35 = .ok (.aload_n 0, 1) := by decide +kernel
theorem dX5_weigh_36 : decode cX5_weigh 36 = .ok (.aload_n 1, 1) := by decide +kernel
theorem dX5_weigh_37 : decode cX5_weigh 37 = .ok (.iload_n 2, 1) := by decide +kernel
theorem dX5_weigh_38 : decode cX5_weigh 38 = .ok (.iload 4, 2) := by decide +kernel
theorem dX5_weigh_40 : decode cX5_weigh 40 = .ok (.iconst 1, 1) := by decide +kernel
theorem dX5_weigh_41 : decode cX5_weigh 41 = .ok (.iload_n 3, 1) := by decide +kernel
theorem dX5_weigh_42 : decode cX5_weigh 42 = .ok (.invokevirtual 36, 3) := by decide +kernel
theorem dX5_weigh_45 : decode cX5_weigh 45 = .ok (.aload_n 0, 1) := by decide +kernel
theorem dX5_weigh_46 : decode cX5_weigh 46 = .ok (.aload_n 1, 1) := by decide +kernel
theorem dX5_weigh_47 : decode cX5_weigh 47 = .ok (.iload_n 2, 1) := by decide +kernel
theorem dX5_weigh_48 : decode cX5_weigh 48 = .ok (.iload 4, 2) := by decide +kernel
theorem dX5_weigh_50 : decode cX5_weigh 50 = .ok (.aload_n 1, 1) := by decide +kernel
theorem dX5_weigh_51 : decode cX5_weigh 51 = .ok (.getfield 40, 3) := by decide +kernel
theorem dX5_weigh_54 : decode cX5_weigh 54 = .ok (.iload 4, 2) := by decide +kernel
theorem dX5_weigh_56 : decode cX5_weigh 56 = .ok (.iaload, 1) := by decide +kernel
theorem dX5_weigh_57 : decode cX5_weigh 57 = .ok (.iload_n 3, 1) := by decide +kernel
theorem dX5_weigh_58 : decode cX5_weigh 58 = .ok (.invokevirtual 36, 3) := by decide +kernel
theorem dX5_weigh_61 : decode cX5_weigh 61 = .ok (.aload_n 0, 1) := by decide +kernel
theorem dX5_weigh_62 : decode cX5_weigh 62 = .ok (.getfield 9, 3) := by decide +kernel
theorem dX5_weigh_65 : decode cX5_weigh 65 = .ok (.astore 5, 2) := by decide +kernel
theorem dX5_weigh_67 : decode cX5_weigh 67 = .ok (.aload_n 0, 1) := by decide +kernel
theorem dX5_weigh_68 : decode cX5_weigh 68 = .ok (.aload_n 0, 1) := by decide +kernel
theorem dX5_weigh_69 : decode cX5_weigh 69 = .ok (.getfield 15, 3) := by decide +kernel
theorem dX5_weigh_72 : decode cX5_weigh 72 = .ok (.putfield 9, 3) := by decide +kernel
theorem dX5_weigh_75 : decode cX5_weigh 75 = .ok (.aload_n 0, 1) := by decide +kernel
theorem dX5_weigh_76 : decode cX5_weigh 76 = .ok (.aload 5, 2) := by decide +kernel
theorem dX5_weigh_78 : decode cX5_weigh 78 = .ok (.putfield 15, 3) := by decide +kernel
theorem dX5_weigh_81 : decode cX5_weigh 81 = .ok (.iinc 4 1, 3) := by decide +kernel
theorem dX5_weigh_84 : decode cX5_weigh 84 = .ok (.goto (-66), 3) := by decide +kernel
theorem dX5_weigh_87 : decode cX5_weigh 87 = .ok (.aload_n 0, 1) := by decide +kernel
theorem dX5_weigh_88 : decode cX5_weigh 88 = .ok (.aload_n 0, 1) := by decide +kernel
theorem dX5_weigh_89 : decode cX5_weigh 89 = .ok (.getfield 9, 3) := by decide +kernel
theorem dX5_weigh_92 : decode cX5_weigh 92 = .ok (.iconst 1, 1) := by decide +kernel
theorem dX5_weigh_93 : decode cX5_weigh 93 = .ok (.iaload, 1) := by decide +kernel
theorem dX5_weigh_94 : decode cX5_weigh 94 = .ok (.aload_n 0, 1) := by decide +kernel
theorem dX5_weigh_95 : decode cX5_weigh 95 = .ok (.getfield 9, 3) := by decide +kernel
theorem dX5_weigh_98 : decode cX5_weigh 98 = .ok (.iconst 3, 1) := by decide +kernel
theorem dX5_weigh_99 : decode cX5_weigh 99 = .ok (.iaload, 1) := by decide +kernel
theorem dX5_weigh_100 : decode cX5_weigh 100 = .ok (.iadd, 1) := by decide +kernel
theorem dX5_weigh_101 : decode cX5_weigh 101 = .ok (.putfield 18, 3) := by decide +kernel
theorem dX5_weigh_104 : decode cX5_weigh 104 = .ok (.aload_n 0, 1) := by decide +kernel
theorem dX5_weigh_105 : decode cX5_weigh 105 = .ok (.iconst 1, 1) := by decide +kernel
theorem dX5_weigh_106 : decode cX5_weigh 106 = .ok (.aload_n 1, 1) := by decide +kernel
theorem dX5_weigh_107 : decode cX5_weigh 107 = .ok (.getfield 31, 3) := by decide +kernel
theorem dX5_weigh_110 : decode cX5_weigh 110 = .ok (.ishl, 1) := by decide +kernel
theorem dX5_weigh_111 : decode cX5_weigh 111 = .ok (.putfield 22, 3) := by decide +kernel
theorem dX5_weigh_114 : decode cX5_weigh 114 = .ok (.aload_n 0, 1) := by decide +kernel
theorem dX5_weigh_115 : decode cX5_weigh 115 = .ok (.invokevirtual 43, 3) := by decide +kernel
theorem dX5_weigh_118 : decode cX5_weigh 118 = .ok (.return_, 1) := by decide +kernel
theorem dX5_spread_0 : decode cX5_spread 0 = .ok (.aload_n 1, 1) := by decide +kernel
theorem dX5_spread_1 : decode cX5_spread 1 = .ok (.iload_n 2, 1) := by decide +kernel
theorem dX5_spread_2 : decode cX5_spread 2 = .ok (.aload_n 1, 1) := by decide +kernel
theorem dX5_spread_3 : decode cX5_spread 3 = .ok (.iload_n 2, 1) := by decide +kernel
theorem dX5_spread_4 : decode cX5_spread 4 = .ok (.iload_n 3, 1) := by decide +kernel
theorem dX5_spread_5 : decode cX5_spread 5 = .ok (.invokevirtual 46, 3) := by decide +kernel
theorem dX5_spread_8 : decode cX5_spread 8 = .ok (.iload_n 3, 1) := by decide +kernel
theorem dX5_spread_9 : decode cX5_spread 9 = .ok (.iload 4, 2) := by decide +kernel
theorem dX5_spread_11 : decode cX5_spread 11 = .ok (.invokevirtual 50, 3) := by decide +kernel
theorem dX5_spread_14 : decode cX5_spread 14 = .ok (.istore 6, 2) := by decide +kernel
theorem dX5_spread_16 : decode cX5_spread 16 = .ok (.aload_n 1, 1) := by decide +kernel
theorem dX5_spread_17 : decode cX5_spread 17 = .ok (.getfield 54, 3) := by decide +kernel
theorem dX5_spread_20 : decode cX5_spread 20 = .ok (.iload_n 2, 1) := by decide +kernel
theorem dX5_spread_21 : decode cX5_spread 21 = .ok (.iaload, 1) := by decide +kernel
theorem dX5_spread_22 : decode cX5_spread 22 = .ok (.iconst 2, 1) := by decide +kernel
theorem dX5_spread_23 : decode cX5_spread 23 = .ok (.if_icmp .ne 7, 3) := by decide +kernel
theorem dX5_spread_26 : decode cX5_spread 26 = .ok (.iconst 1, 1) := by decide +kernel
theorem dX5_spread_27 : decode cX5_spread 27 = .ok (.goto 4, 3) := by decide +kernel
theorem dX5_spread_30 : decode cX5_spread 30 = .ok (.iconst 0, 1) := by decide +kernel
theorem dX5_spread_31 : decode cX5_spread 31 = .ok (.istore 7, 2) := by decide +kernel
theorem dX5_spread_33 : decode cX5_spread 33 = .ok (.aload_n 1, 1) := by decide +kernel
theorem dX5_spread_34 : decode cX5_spread 34 = .ok (.getfield 57, 3) := by decide +kernel
theorem dX5_spread_37 : decode cX5_spread 37 = .ok (.iload_n 3, 1) := by decide +kernel
theorem dX5_spread_38 : decode cX5_spread 38 = .ok (.iaload, 1) := by decide +kernel
theorem dX5_spread_39 : decode cX5_spread 39 = .ok (.iload 5, 2) := by decide +kernel
theorem dX5_spread_41 : decode cX5_spread 41 = .ok (.if_icmp .ne 7, 3) := by decide +kernel
theorem dX5_spread_44 : decode cX5_spread 44 = .ok (.iconst 1, 1) := by decide +kernel
theorem dX5_spread_45 : decode cX5_spread 45 = .ok (.goto 4, 3) := by decide +kernel
theorem dX5_spread_48 : decode cX5_spread 48 = .ok (.iconst 0, 1) := by decide +kernel
theorem dX5_spread_49 : decode cX5_spread 49 = .ok (.istore 8, 2) := by decide +kernel
theorem dX5_spread_51 : decode cX5_spread 51 = .ok (.iconst 0, 1) := by decide +kernel
theorem dX5_spread_52 : decode cX5_spread 52 = .ok (.istore 9, 2) := by decide +kernel
theorem dX5_spread_54 : decode cX5_spread 54 = .ok (.iload 9, 2) := by decide +kernel
theorem dX5_spread_56 : decode cX5_spread 56 = .ok (.iconst 4, 1) := by decide +kernel
theorem dX5_spread_57 : decode cX5_spread 57 = .ok (.if_icmp .ge 86, 3) := by decide +kernel
theorem dX5_spread_60 : decode cX5_spread 60 = .ok (.iload 9, 2) := by decide +kernel
theorem dX5_spread_62 : decode cX5_spread 62 = .ok (.istore 10, 2) := by decide +kernel
theorem dX5_spread_64 : decode cX5_spread 64 = .ok (.iload 6, 2) := by decide +kernel
theorem dX5_spread_66 : decode cX5_spread 66 = .ok (.ifCond .eq 54, 3) := by decide +kernel
theorem dX5_spread_69 : decode cX5_spread 69 = .ok (.iload 9, 2) := by decide +kernel
theorem dX5_spread_71 : decode cX5_spread 71 = .ok (.iconst 2, 1) := by decide +kernel
theorem dX5_spread_72 : decode cX5_spread 72 = .ok (.iand, 1) := by decide +kernel
theorem dX5_spread_73 : decode cX5_spread 73 = .ok (.ifCond .eq 7, 3) := by decide +kernel
theorem dX5_spread_76 : decode cX5_spread 76 = .ok (.iconst 1, 1) := by decide +kernel
theorem dX5_spread_77 : decode cX5_spread 77 = .ok (.goto 4, 3) := by decide +kernel
theorem dX5_spread_80 : decode cX5_spread 80 = .ok (.iconst 0, 1) := by decide +kernel
theorem dX5_spread_81 : decode cX5_spread 81 = .ok (.istore 11, 2) := by decide +kernel
theorem dX5_spread_83 : decode cX5_spread 83 = .ok (.iload 8, 2) := by decide +kernel
theorem dX5_spread_85 : decode cX5_spread 85 = .ok (.ifCond .eq 15, 3) := by decide +kernel
theorem dX5_spread_88 : decode cX5_spread 88 = .ok (.iload 11, 2) := by decide +kernel
theorem dX5_spread_90 : decode cX5_spread 90 = .ok (.ifCond .ne 10, 3) := by decide +kernel
theorem dX5_spread_93 : decode cX5_spread 93 = .ok (.iload 9, 2) := by decide +kernel
theorem dX5_spread_95 : decode cX5_spread 95 = .ok (.iconst 1, 1) := by decide +kernel
theorem dX5_spread_96 : decode cX5_spread 96 = .ok (.ior, 1) := by decide +kernel
theorem dX5_spread_97 : decode cX5_spread 97 = .ok (.goto 5, 3) := by decide +kernel
theorem dX5_spread_100 : decode cX5_spread 100 = .ok (.iload 9, 2) := by decide +kernel
theorem dX5_spread_102 : decode cX5_spread 102 = .ok (.istore 10, 2) := by decide +kernel
theorem dX5_spread_104 : decode cX5_spread 104 = .ok (.iload 7, 2) := by decide +kernel
theorem dX5_spread_106 : decode cX5_spread 106 = .ok (.ifCond .eq 10, 3) := by decide +kernel
theorem dX5_spread_109 : decode cX5_spread 109 = .ok (.iload 10, 2) := by decide +kernel
theorem dX5_spread_111 : decode cX5_spread 111 = .ok (.iconst 2, 1) := by decide +kernel
theorem dX5_spread_112 : decode cX5_spread 112 = .ok (.ixor, 1) := by decide +kernel
theorem dX5_spread_113 : decode cX5_spread 113 = .ok (.goto 5, 3) := by decide +kernel
theorem dX5_spread_116 : decode cX5_spread 116 = .ok (.iload 10, 2) := by decide +kernel
theorem dX5_spread_118 : decode cX5_spread 118 = .ok (.istore 10, 2) := by decide +kernel
theorem dX5_spread_120 : decode cX5_spread 120 = .ok (.aload_n 0, 1) := by decide +kernel
theorem dX5_spread_121 : decode cX5_spread 121 = .ok (.getfield 15, 3) := by decide +kernel
theorem dX5_spread_124 : decode cX5_spread 124 = .ok (.iload 10, 2) := by decide +kernel
theorem dX5_spread_126 : decode cX5_spread 126 = .ok (.dup2, 1) := by decide +kernel
theorem dX5_spread_127 : decode cX5_spread 127 = .ok (.iaload, 1) := by decide +kernel
theorem dX5_spread_128 : decode cX5_spread 128 = .ok (.aload_n 0, 1) := by decide +kernel
theorem dX5_spread_129 : decode cX5_spread 129 = .ok (.getfield 9, 3) := by decide +kernel
theorem dX5_spread_132 : decode cX5_spread 132 = .ok (.iload 9, 2) := by decide +kernel
theorem dX5_spread_134 : decode cX5_spread 134 = .ok (.iaload, 1) := by decide +kernel
theorem dX5_spread_135 : decode cX5_spread 135 = .ok (.iadd, 1) := by decide +kernel
theorem dX5_spread_136 : decode cX5_spread 136 = .ok (.iastore, 1) := by decide +kernel
theorem dX5_spread_137 : decode cX5_spread 137 = .ok (.iinc 9 1, 3) := by decide +kernel
theorem dX5_spread_140 : decode cX5_spread 140 = .ok (.goto (-86), 3) := by decide +kernel
theorem dX5_spread_143 : decode cX5_spread 143 = .ok (.return_, 1) := by decide +kernel
theorem dX5_reduce_0 : decode cX5_reduce 0 = .ok (.iconst 0, 1) := by decide +kernel
theorem dX5_reduce_1 : decode cX5_reduce 1 = .ok (.istore_n 1, 1) := by decide +kernel
theorem dX5_reduce_2 : decode cX5_reduce 2 = .ok (.iload_n 1, 1) := by decide +kernel
theorem dX5_reduce_3 : decode cX5_reduce 3 = .ok (.bipush 8, 2) := by decide +kernel
theorem dX5_reduce_5 : decode cX5_reduce 5 = .ok (.if_icmp .ge 46, 3) := by decide +kernel
theorem dX5_reduce_8 : decode cX5_reduce 8 = .ok (.aload_n 0, 1) := by decide +kernel
theorem dX5_reduce_9 : decode cX5_reduce 9 = .ok (.getfield 22, 3) := by decide +kernel
theorem dX5_reduce_12 : decode cX5_reduce 12 = .ok (.iconst 1, 1) := by decide +kernel
theorem dX5_reduce_13 : decode cX5_reduce 13 = .ok (.if_icmp .le 38, 3) := by decide +kernel
theorem dX5_reduce_16 : decode cX5_reduce 16 = .ok (.aload_n 0, 1) := by decide +kernel
theorem dX5_reduce_17 : decode cX5_reduce 17 = .ok (.getfield 18, 3) := by decide +kernel
theorem dX5_reduce_20 : decode cX5_reduce 20 = .ok (.iconst 2, 1) := by decide +kernel
theorem dX5_reduce_21 : decode cX5_reduce 21 = .ok (.irem, 1) := by decide +kernel
theorem dX5_reduce_22 : decode cX5_reduce 22 = .ok (.ifCond .ne 29, 3) := by decide +kernel
theorem dX5_reduce_25 : decode cX5_reduce 25 = .ok (.aload_n 0, 1) := by decide +kernel
theorem dX5_reduce_26 : decode cX5_reduce 26 = .ok (.dup, 1) := by decide +kernel
theorem dX5_reduce_27 : decode cX5_reduce 27 = .ok (.getfield 18, 3) := by decide +kernel
theorem dX5_reduce_30 : decode cX5_reduce 30 = .ok (.iconst 2, 1) := by decide +kernel
theorem dX5_reduce_31 : decode cX5_reduce 31 = .ok (.idiv, 1) := by decide +kernel
theorem dX5_reduce_32 : decode cX5_reduce 32 = .ok (.putfield 18, 3) := by decide +kernel
theorem dX5_reduce_35 : decode cX5_reduce 35 = .ok (.aload_n 0, 1) := by decide +kernel
theorem dX5_reduce_36 : decode cX5_reduce 36 = .ok (.dup, 1) := by decide +kernel
theorem dX5_reduce_37 : decode cX5_reduce 37 = .ok (.getfield 22, 3) := by decide +kernel
theorem dX5_reduce_40 : decode cX5_reduce 40 = .ok (.iconst 2, 1) := by decide +kernel
theorem dX5_reduce_41 : decode cX5_reduce 41 = .ok (.idiv, 1) := by decide +kernel
theorem dX5_reduce_42 : decode cX5_reduce 42 = .ok (.putfield 22, 3) := by decide +kernel
theorem dX5_reduce_45 : decode cX5_reduce 45 = .ok (.iinc 1 1, 3) := by decide +kernel
theorem dX5_reduce_48 : decode cX5_reduce 48 = .ok (.goto (-46), 3) := by decide +kernel
theorem dX5_reduce_51 : decode cX5_reduce 51 = .ok (.return_, 1) := by decide +kernel
theorem dX6_init_0 : decode cX6_init 0 = .ok (.aload_n 0, 1) := by decide +kernel
theorem dX6_init_1 : decode cX6_init 1 = .ok (.invokespecial 3, 3) := by decide +kernel
theorem dX6_init_4 : decode cX6_init 4 = .ok (.aload_n 0, 1) := by decide +kernel
theorem dX6_init_5 : decode cX6_init 5 = .ok (.iconst 4, 1) := by decide +kernel
theorem dX6_init_6 : decode cX6_init 6 = .ok (.anewarray 11, 3) := by decide +kernel
theorem dX6_init_9 : decode cX6_init 9 = .ok (.putfield 13, 3) := by decide +kernel
theorem dX6_init_12 : decode cX6_init 12 = .ok (.aload_n 0, 1) := by decide +kernel
theorem dX6_init_13 : decode cX6_init 13 = .ok (.new 17, 3) := by decide +kernel
theorem dX6_init_16 : decode cX6_init 16 = .ok (.dup, 1) := by decide +kernel
theorem dX6_init_17 : decode cX6_init 17 = .ok (.invokespecial 19, 3) := by decide +kernel
theorem dX6_init_20 : decode cX6_init 20 = .ok (.putfield 20, 3) := by decide +kernel
theorem dX6_init_23 : decode cX6_init 23 = .ok (.aload_n 0, 1) := by decide +kernel
theorem dX6_init_24 : decode cX6_init 24 = .ok (.new 24, 3) := by decide +kernel
theorem dX6_init_27 : decode cX6_init 27 = .ok (.dup, 1) := by decide +kernel
theorem dX6_init_28 : decode cX6_init 28 = .ok (.invokespecial 26, 3) := by decide +kernel
theorem dX6_init_31 : decode cX6_init 31 = .ok (.putfield 27, 3) := by decide +kernel
theorem dX6_init_34 : decode cX6_init 34 = .ok (.aload_n 0, 1) := by decide +kernel
theorem dX6_init_35 : decode cX6_init 35 = .ok (.new 31, 3) := by decide +kernel
theorem dX6_init_38 : decode cX6_init 38 = .ok (.dup, 1) := by decide +kernel
theorem dX6_init_39 : decode cX6_init 39 = .ok (.invokespecial 33, 3) := by decide +kernel
theorem dX6_init_42 : decode cX6_init 42 = .ok (.putfield 34, 3) := by decide +kernel
theorem dX6_init_45 : decode cX6_init 45 = .ok (.aload_n 0, 1) := by decide +kernel
theorem dX6_init_46 : decode cX6_init 46 = .ok (.new 38, 3) := by decide +kernel
theorem dX6_init_49 : decode cX6_init 49 = .ok (.dup, 1) := by decide +kernel
theorem dX6_init_50 : decode cX6_init 50 = .ok (.invokespecial 40, 3) := by decide +kernel
theorem dX6_init_53 : decode cX6_init 53 = .ok (.putfield 41, 3) := by decide +kernel
theorem dX6_init_56 : decode cX6_init 56 = .ok (.aload_n 0, 1) := by decide +kernel
theorem dX6_init_57 : decode cX6_init 57 = .ok (.new 38, 3) := by decide +kernel
theorem dX6_init_60 : decode cX6_init 60 = .ok (.dup, 1) := by decide +kernel
theorem dX6_init_61 : decode cX6_init 61 = .ok (.invokespecial 40, 3) := by decide +kernel
theorem dX6_init_64 : decode cX6_init 64 = .ok (.putfield 45, 3) := by decide +kernel
theorem dX6_init_67 : decode cX6_init 67 = .ok (.aload_n 0, 1) := by decide +kernel
theorem dX6_init_68 : decode cX6_init 68 = .ok (.iconst 0, 1) := by decide +kernel
theorem dX6_init_69 : decode cX6_init 69 = .ok (.putfield 48, 3) := by decide +kernel
theorem dX6_init_72 : decode cX6_init 72 = .ok (.aload_n 0, 1) := by decide +kernel
theorem dX6_init_73 : decode cX6_init 73 = .ok (.iconst 0, 1) := by decide +kernel
theorem dX6_init_74 : decode cX6_init 74 = .ok (.putfield 52, 3) := by decide +kernel
theorem dX6_init_77 : decode cX6_init 77 = .ok (.iconst 0, 1) := by decide +kernel
theorem dX6_init_78 : decode cX6_init 78 = .ok (.istore_n 1, 1) := by decide +kernel
theorem dX6_init_79 : decode cX6_init 79 = .ok (.iload_n 1, 1) := by decide +kernel
theorem dX6_init_80 : decode cX6_init 80 = .ok (.iconst 4, 1) := by decide +kernel
theorem dX6_init_81 : decode cX6_init 81 = .ok (.if_icmp .ge 22, 3) := by decide +kernel
theorem dX6_init_84 : decode cX6_init 84 = .ok (.aload_n 0, 1) := by decide +kernel
theorem dX6_init_85 : decode cX6_init 85 = .ok (.getfield 13, 3) := by decide +kernel
theorem dX6_init_88 : decode cX6_init 88 = .ok (.iload_n 1, 1) := by decide +kernel
theorem dX6_init_89 : decode cX6_init 89 = .ok (.new 11, 3) := by decide +kernel
theorem dX6_init_92 : decode cX6_init 92 = .ok (.dup, 1) := by decide +kernel
theorem dX6_init_93 : decode cX6_init 93 = .ok (.invokespecial 55, 3) := by decide +kernel
theorem dX6_init_96 : decode cX6_init 96 = .ok (.aastore, 1) := by decide +kernel
theorem dX6_init_97 : decode cX6_init 97 = .ok (.iinc 1 1, 3) := by decide +kernel
theorem dX6_init_100 : decode cX6_init 100 = .ok (.goto (-21), 3) := by decide +kernel
theorem dX6_init_103 : decode cX6_init 103 = .ok (.return_, 1) := by decide +kernel
theorem dX6_dairy_0 : decode cX6_dairy 0 = .ok (.aload_n 0, 1) := by decide +kernel
theorem dX6_dairy_1 : decode cX6_dairy 1 = .ok (.iconst 0, 1) := by decide +kernel
theorem dX6_dairy_2 : decode cX6_dairy 2 = .ok (.putfield 52, 3) := by decide +kernel
theorem dX6_dairy_5 : decode cX6_dairy 5 = .ok (.iload_n 1, 1) := by decide +kernel
theorem dX6_dairy_6 : decode cX6_dairy 6 = .ok (.invokestatic 56, 3) := by decide +kernel
theorem dX6_dairy_9 : decode cX6_dairy 9 = .ok (.ifCond .ne 5, 3) := by decide +kernel
theorem dX6_dairy_12 : decode cX6_dairy 12 = .ok (.iconst (-1), 1) := by decide +kernel
theorem dX6_dairy_13 : decode cX6_dairy 13 = .ok (.ireturn, 1) := by decide +kernel
theorem dX6_dairy_14 : decode cX6_dairy 14 = .ok (.iload_n 2, 1) := by decide +kernel
theorem dX6_dairy_15 : decode cX6_dairy 15 = .ok (.invokestatic 60, 3) := by decide +kernel
theorem dX6_dairy_18 : decode cX6_dairy 18 = .ok (.ifCond .ne 6, 3) := by decide +kernel
theorem dX6_dairy_21 : decode cX6_dairy 21 = .ok (.bipush (-2), 2) := by decide +kernel
theorem dX6_dairy_23 : decode cX6_dairy 23 = .ok (.ireturn, 1) := by decide +kernel
theorem dX6_dairy_24 : decode cX6_dairy 24 = .ok (.aload_n 0, 1) := by decide +kernel
theorem dX6_dairy_25 : decode cX6_dairy 25 = .ok (.getfield 13, 3) := by decide +kernel
theorem dX6_dairy_28 : decode cX6_dairy 28 = .ok (.iload_n 1, 1) := by decide +kernel
theorem dX6_dairy_29 : decode cX6_dairy 29 = .ok (.aaload, 1) := by decide +kernel
theorem dX6_dairy_30 : decode cX6_dairy 30 = .ok (.astore 5, 2) := by decide +kernel
theorem dX6_dairy_32 : decode cX6_dairy 32 = .ok (.aload 5, 2) := by decide +kernel
theorem dX6_dairy_34 : decode cX6_dairy 34 = .ok (.iload_n 2, 1) := by decide +kernel
theorem dX6_dairy_35 : decode cX6_dairy 35 = .ok (.invokevirtual 63, 3) := by decide +kernel
theorem dX6_dairy_38 : decode cX6_dairy 38 = .ok (.istore 6, 2) := by decide +kernel
theorem dX6_dairy_40 : decode cX6_dairy 40 = .ok (.iload 6, 2) := by decide +kernel
theorem dX6_dairy_42 : decode cX6_dairy 42 = .ok (.ifCond .ne 11, 3) := by decide +kernel
theorem dX6_dairy_45 : decode cX6_dairy 45 = .ok (.iload 4, 2) := by decide +kernel
theorem dX6_dairy_47 : decode cX6_dairy 47 = .ok (.ifCond .ge 6, 3) := by decide +kernel
theorem dX6_dairy_50 : decode cX6_dairy 50 = .ok (.iconst 4, 1) := by decide +kernel
theorem dX6_dairy_51 : decode cX6_dairy 51 = .ok (.istore 6, 2) := by decide +kernel
theorem dX6_dairy_53 : decode cX6_dairy 53 = .ok (.iload 6, 2) := by decide +kernel
theorem dX6_dairy_55 : decode cX6_dairy 55 = .ok (.ifCond .ne 17, 3) := by decide +kernel
theorem dX6_dairy_58 : decode cX6_dairy 58 = .ok (.aload 5, 2) := by decide +kernel
theorem dX6_dairy_60 : decode cX6_dairy 60 = .ok (.iload_n 3, 1) := by decide +kernel
theorem dX6_dairy_61 : decode cX6_dairy 61 = .ok (.iload 4, 2) := by decide +kernel
theorem dX6_dairy_63 : decode cX6_dairy 63 = .ok (.invokevirtual 67, 3) := by decide +kernel
theorem dX6_dairy_66 : decode cX6_dairy 66 = .ok (.ifCond .ne 6, 3) := by decide +kernel
theorem dX6_dairy_69 : decode cX6_dairy 69 = .ok (.iconst 3, 1) := by decide +kernel
theorem dX6_dairy_70 : decode cX6_dairy 70 = .ok (.istore 6, 2) := by decide +kernel
theorem dX6_dairy_72 : decode cX6_dairy 72 = .ok (.iload 6, 2) := by decide +kernel
theorem dX6_dairy_74 : decode cX6_dairy 74 = .ok (.ifCond .eq 10, 3) := by decide +kernel
theorem dX6_dairy_77 : decode cX6_dairy 77 = .ok (.aload_n 0, 1) := by decide +kernel
theorem dX6_dairy_78 : decode cX6_dairy 78 = .ok (.iload 6, 2) := by decide +kernel
theorem dX6_dairy_80 : decode cX6_dairy 80 = .ok (.invokevirtual 71, 3) := by decide +kernel
theorem dX6_dairy_83 : decode cX6_dairy 83 = .ok (.ireturn, 1) := by decide +kernel
theorem dX6_dairy_84 : decode cX6_dairy 84 = .ok (.aload_n 0, 1) := by decide +kernel
theorem dX6_dairy_85 : decode cX6_dairy 85 = .ok (.getfield 45, 3) := by decide +kernel
theorem dX6_dairy_88 : decode cX6_dairy 88 = .ok (.aload 5, 2) := by decide +kernel
theorem dX6_dairy_90 : decode cX6_dairy 90 = .ok (.getfield 74, 3) := by decide +kernel
theorem dX6_dairy_93 : decode cX6_dairy 93 = .ok (.iload_n 3, 1) := by decide +kernel
theorem dX6_dairy_94 : decode cX6_dairy 94 = .ok (.iload 4, 2) := by decide +kernel
theorem dX6_dairy_96 : decode cX6_dairy 96 = .ok (.invokevirtual 78, 3) := by decide +kernel
theorem dX6_dairy_99 : decode cX6_dairy 99 = .ok (.istore 7, 2) := by decide +kernel
theorem dX6_dairy_101 : decode cX6_dairy 101 = .ok (.iload 7, 2) := by decide +kernel
theorem dX6_dairy_103 : decode cX6_dairy 103 = .ok (.bipush (-9), 2) := by decide +kernel
theorem dX6_dairy_105 : decode cX6_dairy 105 = .ok (.if_icmp .eq 9, 3) := by decide +kernel
theorem dX6_dairy_108 : decode cX6_dairy 108 = .ok (.bipush (-100), 2) := by decide +kernel
theorem dX6_dairy_110 : decode cX6_dairy 110 = .ok (.iload 7, 2) := by decide +kernel
theorem dX6_dairy_112 : decode cX6_dairy 112 = .ok (.isub, 1) := by decide +kernel
theorem dX6_dairy_113 : decode cX6_dairy 113 = .ok (.ireturn, 1) := by decide +kernel
theorem dX6_dairy_114 : decode cX6_dairy 114 = .ok (.aload_n 0, 1) := by decide +kernel
theorem dX6_dairy_115 : decode cX6_dairy 115 = .ok (.getfield 41, 3) := by decide +kernel
theorem dX6_dairy_118 : decode cX6_dairy 118 = .ok (.astore 8, 2) := by decide +kernel
theorem dX6_dairy_120 : decode cX6_dairy 120 = .ok (.aload_n 0, 1) := by decide +kernel
theorem dX6_dairy_121 : decode cX6_dairy 121 = .ok (.aload_n 0, 1) := by decide +kernel
theorem dX6_dairy_122 : decode cX6_dairy 122 = .ok (.getfield 45, 3) := by decide +kernel
theorem dX6_dairy_125 : decode cX6_dairy 125 = .ok (.putfield 41, 3) := by decide +kernel
theorem dX6_dairy_128 : decode cX6_dairy 128 = .ok (.aload_n 0, 1) := by decide +kernel
theorem dX6_dairy_129 : decode cX6_dairy 129 = .ok (.aload 8, 2) := by decide +kernel
theorem dX6_dairy_131 : decode cX6_dairy 131 = .ok (.putfield 45, 3) := by decide +kernel
theorem dX6_dairy_134 : decode cX6_dairy 134 = .ok (.aload_n 0, 1) := by decide +kernel
theorem dX6_dairy_135 : decode cX6_dairy 135 = .ok (.getfield 41, 3) := by decide +kernel
theorem dX6_dairy_138 : decode cX6_dairy 138 = .ok (.getfield 82, 3) := by decide +kernel
theorem dX6_dairy_141 : decode cX6_dairy 141 = .ok (.ireturn, 1) := by decide +kernel
theorem dX6_ofCheese_0 : decode cX6_ofCheese 0 = .ok (.aload_n 0, 1) := by decide +kernel
theorem dX6_ofCheese_1 : decode cX6_ofCheese 1 = .ok (.iload_n 1, 1) := by decide +kernel
theorem dX6_ofCheese_2 : decode cX6_ofCheese 2 = .ok (.invokevirtual 85, 3) := by decide +kernel
theorem dX6_ofCheese_5 : decode cX6_ofCheese 5 = .ok (.ifCond .ne 5, 3) := by decide +kernel
theorem dX6_ofCheese_8 : decode cX6_ofCheese 8 = .ok (.iconst (-1), 1) := by decide +kernel
theorem dX6_ofCheese_9 : decode cX6_ofCheese 9 = .ok (.ireturn, 1) := by decide +kernel
theorem dX6_ofCheese_10 : decode cX6_ofCheese 10 = .ok (.iload_n 2, 1) := by decide +kernel
theorem dX6_ofCheese_11 : decode cX6_ofCheese 11 = .ok (.tableswitch 69 0 3 #[29, 39, 49, 59], 29) := by decide +kernel
theorem dX6_ofCheese_40 : decode cX6_ofCheese 40 = .ok (.aload_n 0, 1) := by decide +kernel
theorem dX6_ofCheese_41 : decode cX6_ofCheese 41 = .ok (.getfield 41, 3) := by decide +kernel
theorem dX6_ofCheese_44 : decode cX6_ofCheese 44 = .ok (.getfield 88, 3) := by decide +kernel
theorem dX6_ofCheese_47 : decode cX6_ofCheese 47 = .ok (.iload_n 1, 1) := by decide +kernel
theorem dX6_ofCheese_48 : decode cX6_ofCheese 48 = .ok (.iaload, 1) := by decide +kernel
theorem dX6_ofCheese_49 : decode cX6_ofCheese 49 = .ok (.ireturn, 1) := by decide +kernel
theorem dX6_ofCheese_50 : decode cX6_ofCheese 50 = .ok (.aload_n 0, 1) := by decide +kernel
theorem dX6_ofCheese_51 : decode cX6_ofCheese 51 = .ok (.getfield 41, 3) := by decide +kernel
theorem dX6_ofCheese_54 : decode cX6_ofCheese 54 = .ok (.getfield 91, 3) := by decide +kernel
theorem dX6_ofCheese_57 : decode cX6_ofCheese 57 = .ok (.iload_n 1, 1) := by decide +kernel
theorem dX6_ofCheese_58 : decode cX6_ofCheese 58 = .ok (.iaload, 1) := by decide +kernel
theorem dX6_ofCheese_59 : decode cX6_ofCheese 59 = .ok (.ireturn, 1) := by decide +kernel
theorem dX6_ofCheese_60 : decode cX6_ofCheese 60 = .ok (.aload_n 0, 1) := by decide +kernel
theorem dX6_ofCheese_61 : decode cX6_ofCheese 61 = .ok (.getfield 41, 3) := by decide +kernel
theorem dX6_ofCheese_64 : decode cX6_ofCheese 64 = .ok (.getfield 94, 3) := by decide +kernel
theorem dX6_ofCheese_67 : decode cX6_ofCheese 67 = .ok (.iload_n 1, 1) := by decide +kernel
theorem dX6_ofCheese_68 : decode cX6_ofCheese 68 = .ok (.iaload, 1) := by decide +kernel
theorem dX6_ofCheese_69 : decode cX6_ofCheese 69 = .ok (.ireturn, 1) := by decide +kernel
theorem dX6_ofCheese_70 : decode cX6_ofCheese 70 = .ok (.aload_n 0, 1) := by decide +kernel
theorem dX6_ofCheese_71 : decode cX6_ofCheese 71 = .ok (.getfield 41, 3) := by decide +kernel
theorem dX6_ofCheese_74 : decode cX6_ofCheese 74 = .ok (.getfield 97, 3) := by decide +kernel
theorem dX6_ofCheese_77 : decode cX6_ofCheese 77 = .ok (.iload_n 1, 1) := by decide +kernel
theorem dX6_ofCheese_78 : decode cX6_ofCheese 78 = .ok (.iaload, 1) := by decide +kernel
theorem dX6_ofCheese_79 : decode cX6_ofCheese 79 = .ok (.ireturn, 1) := by decide +kernel
theorem dX6_ofCheese_80 : decode cX6_ofCheese 80 = .ok (.bipush (-2), 2) := by decide +kernel
theorem dX6_ofCheese_82 : decode cX6_ofCheese 82 = .ok (.ireturn, 1) := by decide +kernel
theorem dX6_ofTalk_0 : decode cX6_ofTalk 0 = .ok (.aload_n 0, 1) := by decide +kernel
theorem dX6_ofTalk_1 : decode cX6_ofTalk 1 = .ok (.iload_n 1, 1) := by decide +kernel
theorem dX6_ofTalk_2 : decode cX6_ofTalk 2 = .ok (.invokevirtual 100, 3) := by decide +kernel
theorem dX6_ofTalk_5 : decode cX6_ofTalk 5 = .ok (.ifCond .ne 5, 3) := by decide +kernel
theorem dX6_ofTalk_8 : decode cX6_ofTalk 8 = .ok (.iconst (-1), 1) := by decide +kernel
theorem dX6_ofTalk_9 : decode cX6_ofTalk 9 = .ok (.ireturn, 1) := by decide +kernel
theorem dX6_ofTalk_10 : decode cX6_ofTalk 10 = .ok (.iload_n 2, 1) := by decide +kernel
theorem dX6_ofTalk_11 : decode cX6_ofTalk 11 = .ok (.tableswitch 55 0 2 #[25, 35, 45], 25) := by decide +kernel
theorem dX6_ofTalk_36 : decode cX6_ofTalk 36 = .ok (.aload_n 0, 1) := by decide +kernel
theorem dX6_ofTalk_37 : decode cX6_ofTalk 37 = .ok (.getfield 41, 3) := by decide +kernel
theorem dX6_ofTalk_40 : decode cX6_ofTalk 40 = .ok (.getfield 103, 3) := by decide +kernel
theorem dX6_ofTalk_43 : decode cX6_ofTalk 43 = .ok (.iload_n 1, 1) := by decide +kernel
theorem dX6_ofTalk_44 : decode cX6_ofTalk 44 = .ok (.iaload, 1) := by decide +kernel
theorem dX6_ofTalk_45 : decode cX6_ofTalk 45 = .ok (.ireturn, 1) := by decide +kernel
theorem dX6_ofTalk_46 : decode cX6_ofTalk 46 = .ok (.aload_n 0, 1) := by decide +kernel
theorem dX6_ofTalk_47 : decode cX6_ofTalk 47 = .ok (.getfield 41, 3) := by decide +kernel
theorem dX6_ofTalk_50 : decode cX6_ofTalk 50 = .ok (.getfield 106, 3) := by decide +kernel
theorem dX6_ofTalk_53 : decode cX6_ofTalk 53 = .ok (.iload_n 1, 1) := by decide +kernel
theorem dX6_ofTalk_54 : decode cX6_ofTalk 54 = .ok (.iaload, 1) := by decide +kernel
theorem dX6_ofTalk_55 : decode cX6_ofTalk 55 = .ok (.ireturn, 1) := by decide +kernel
theorem dX6_ofTalk_56 : decode cX6_ofTalk 56 = .ok (.aload_n 0, 1) := by decide +kernel
theorem dX6_ofTalk_57 : decode cX6_ofTalk 57 = .ok (.getfield 41, 3) := by decide +kernel
theorem dX6_ofTalk_60 : decode cX6_ofTalk 60 = .ok (.getfield 109, 3) := by decide +kernel
theorem dX6_ofTalk_63 : decode cX6_ofTalk 63 = .ok (.iload_n 1, 1) := by decide +kernel
theorem dX6_ofTalk_64 : decode cX6_ofTalk 64 = .ok (.iaload, 1) := by decide +kernel
theorem dX6_ofTalk_65 : decode cX6_ofTalk 65 = .ok (.ireturn, 1) := by decide +kernel
theorem dX6_ofTalk_66 : decode cX6_ofTalk 66 = .ok (.bipush (-2), 2) := by decide +kernel
theorem dX6_ofTalk_68 : decode cX6_ofTalk 68 = .ok (.ireturn, 1) := by decide +kernel
theorem dX6_move_0 : decode cX6_move 0 = .ok (.aload_n 0, 1) := by decide +kernel
theorem dX6_move_1 : decode cX6_move 1 = .ok (.iload_n 1, 1) := by decide +kernel
theorem dX6_move_2 : decode cX6_move 2 = .ok (.invokevirtual 85, 3) := by decide +kernel
theorem dX6_move_5 : decode cX6_move 5 = .ok (.ifCond .eq 18, 3) := by decide +kernel
theorem dX6_move_8 : decode cX6_move 8 = .ok (.iload_n 3, 1) := by decide +kernel
theorem dX6_move_9 : decode cX6_move 9 = .ok (.ifCond .lt 14, 3) := by decide +kernel
theorem dX6_move_12 : decode cX6_move 12 = .ok (.iload_n 3, 1) := by decide +kernel
theorem dX6_move_13 : decode cX6_move 13 = .ok (.aload_n 0, 1) := by decide +kernel
theorem dX6_move_14 : decode cX6_move 14 = .ok (.getfield 41, 3) := by decide +kernel
theorem dX6_move_17 : decode cX6_move 17 = .ok (.getfield 112, 3) := by decide +kernel
theorem dX6_move_20 : decode cX6_move 20 = .ok (.if_icmp .lt 5, 3) := by decide +kernel
theorem dX6_move_23 : decode cX6_move 23 = .ok (.iconst (-1), 1) := by decide +kernel
theorem dX6_move_24 : decode cX6_move 24 = .ok (.ireturn, 1) := by decide +kernel
theorem dX6_move_25 : decode cX6_move 25 = .ok (.iload_n 2, 1) := by decide +kernel
theorem dX6_move_26 : decode cX6_move 26 = .ok (.invokestatic 115, 3) := by decide +kernel
theorem dX6_move_29 : decode cX6_move 29 = .ok (.ifCond .ne 6, 3) := by decide +kernel
theorem dX6_move_32 : decode cX6_move 32 = .ok (.bipush (-2), 2) := by decide +kernel
theorem dX6_move_34 : decode cX6_move 34 = .ok (.ireturn, 1) := by decide +kernel
theorem dX6_move_35 : decode cX6_move 35 = .ok (.aload_n 0, 1) := by decide +kernel
theorem dX6_move_36 : decode cX6_move 36 = .ok (.getfield 41, 3) := by decide +kernel
theorem dX6_move_39 : decode cX6_move 39 = .ok (.getfield 118, 3) := by decide +kernel
theorem dX6_move_42 : decode cX6_move 42 = .ok (.iload_n 1, 1) := by decide +kernel
theorem dX6_move_43 : decode cX6_move 43 = .ok (.iload_n 2, 1) := by decide +kernel
theorem dX6_move_44 : decode cX6_move 44 = .ok (.iload_n 3, 1) := by decide +kernel
theorem dX6_move_45 : decode cX6_move 45 = .ok (.invokevirtual 122, 3) := by decide +kernel
theorem dX6_move_48 : decode cX6_move 48 = .ok (.istore 4, 2) := by decide +kernel
theorem dX6_move_50 : decode cX6_move 50 = .ok (.aload_n 0, 1) := by decide +kernel
theorem dX6_move_51 : decode cX6_move 51 = .ok (.getfield 41, 3) := by decide +kernel
theorem dX6_move_54 : decode cX6_move 54 = .ok (.invokevirtual 128, 3) := by decide +kernel
theorem dX6_move_57 : decode cX6_move 57 = .ok (.iload 4, 2) := by decide +kernel
theorem dX6_move_59 : decode cX6_move 59 = .ok (.ireturn, 1) := by decide +kernel
theorem dX6_undo_0 : decode cX6_undo 0 = .ok (.aload_n 0, 1) := by decide +kernel
theorem dX6_undo_1 : decode cX6_undo 1 = .ok (.getfield 41, 3) := by decide +kernel
theorem dX6_undo_4 : decode cX6_undo 4 = .ok (.getfield 118, 3) := by decide +kernel
theorem dX6_undo_7 : decode cX6_undo 7 = .ok (.iload_n 1, 1) := by decide +kernel
theorem dX6_undo_8 : decode cX6_undo 8 = .ok (.invokevirtual 131, 3) := by decide +kernel
theorem dX6_undo_11 : decode cX6_undo 11 = .ok (.istore_n 2, 1) := by decide +kernel
theorem dX6_undo_12 : decode cX6_undo 12 = .ok (.aload_n 0, 1) := by decide +kernel
theorem dX6_undo_13 : decode cX6_undo 13 = .ok (.getfield 41, 3) := by decide +kernel
theorem dX6_undo_16 : decode cX6_undo 16 = .ok (.invokevirtual 128, 3) := by decide +kernel
theorem dX6_undo_19 : decode cX6_undo 19 = .ok (.iload_n 2, 1) := by decide +kernel
theorem dX6_undo_20 : decode cX6_undo 20 = .ok (.ireturn, 1) := by decide +kernel
theorem dX6_wall_0 : decode cX6_wall 0 = .ok (.aload_n 0, 1) := by decide +kernel
theorem dX6_wall_1 : decode cX6_wall 1 = .ok (.iload_n 1, 1) := by decide +kernel
theorem dX6_wall_2 : decode cX6_wall 2 = .ok (.invokevirtual 85, 3) := by decide +kernel
theorem dX6_wall_5 : decode cX6_wall 5 = .ok (.ifCond .ne 5, 3) := by decide +kernel
theorem dX6_wall_8 : decode cX6_wall 8 = .ok (.iconst (-1), 1) := by decide +kernel
theorem dX6_wall_9 : decode cX6_wall 9 = .ok (.ireturn, 1) := by decide +kernel
