theorem dX6_wall_10 : decode cX6_wall 10 = .ok (.iload_n 2, 1) := by decide +kernel
theorem dX6_wall_11 : decode cX6_wall 11 = .ok (.invokestatic 115, 3) := by decide +kernel
theorem dX6_wall_14 : decode cX6_wall 14 = .ok (.ifCond .ne 12, 3) := by decide +kernel
theorem dX6_wall_17 : decode cX6_wall 17 = .ok (.iload_n 2, 1) := by decide +kernel
theorem dX6_wall_18 : decode cX6_wall 18 = .ok (.bipush (-9), 2) := by decide +kernel
theorem dX6_wall_20 : decode cX6_wall 20 = .ok (.if_icmp .eq 6, 3) := by decide +kernel
theorem dX6_wall_23 : decode cX6_wall 23 = .ok (.bipush (-2), 2) := by decide +kernel
theorem dX6_wall_25 : decode cX6_wall 25 = .ok (.ireturn, 1) := by decide +kernel
theorem dX6_wall_26 : decode cX6_wall 26 = .ok (.aload_n 0, 1) := by decide +kernel
theorem dX6_wall_27 : decode cX6_wall 27 = .ok (.getfield 41, 3) := by decide +kernel
theorem dX6_wall_30 : decode cX6_wall 30 = .ok (.getfield 97, 3) := by decide +kernel
theorem dX6_wall_33 : decode cX6_wall 33 = .ok (.iload_n 1, 1) := by decide +kernel
theorem dX6_wall_34 : decode cX6_wall 34 = .ok (.iaload, 1) := by decide +kernel
theorem dX6_wall_35 : decode cX6_wall 35 = .ok (.istore_n 3, 1) := by decide +kernel
theorem dX6_wall_36 : decode cX6_wall 36 = .ok (.aload_n 0, 1) := by decide +kernel
theorem dX6_wall_37 : decode cX6_wall 37 = .ok (.getfield 41, 3) := by decide +kernel
theorem dX6_wall_40 : decode cX6_wall 40 = .ok (.getfield 97, 3) := by decide +kernel
theorem dX6_wall_43 : decode cX6_wall 43 = .ok (.iload_n 1, 1) := by decide +kernel
theorem dX6_wall_44 : decode cX6_wall 44 = .ok (.iload_n 2, 1) := by decide +kernel
theorem dX6_wall_45 : decode cX6_wall 45 = .ok (.iastore, 1) := by decide +kernel
theorem dX6_wall_46 : decode cX6_wall 46 = .ok (.iload_n 3, 1) := by decide +kernel
theorem dX6_wall_47 : decode cX6_wall 47 = .ok (.ireturn, 1) := by decide +kernel
theorem dX6_where_0 : decode cX6_where 0 = .ok (.aload_n 0, 1) := by decide +kernel
theorem dX6_where_1 : decode cX6_where 1 = .ok (.iload_n 1, 1) := by decide +kernel
theorem dX6_where_2 : decode cX6_where 2 = .ok (.invokevirtual 85, 3) := by decide +kernel
theorem dX6_where_5 : decode cX6_where 5 = .ok (.ifCond .ne 5, 3) := by decide +kernel
theorem dX6_where_8 : decode cX6_where 8 = .ok (.iconst (-1), 1) := by decide +kernel
theorem dX6_where_9 : decode cX6_where 9 = .ok (.ireturn, 1) := by decide +kernel
theorem dX6_where_10 : decode cX6_where 10 = .ok (.iload_n 2, 1) := by decide +kernel
theorem dX6_where_11 : decode cX6_where 11 = .ok (.invokestatic 115, 3) := by decide +kernel
theorem dX6_where_14 : decode cX6_where 14 = .ok (.ifCond .eq 15, 3) := by decide +kernel
theorem dX6_where_17 : decode cX6_where 17 = .ok (.aload_n 0, 1) := by decide +kernel
theorem dX6_where_18 : decode cX6_where 18 = .ok (.getfield 41, 3) := by decide +kernel
theorem dX6_where_21 : decode cX6_where 21 = .ok (.iload_n 1, 1) := by decide +kernel
theorem dX6_where_22 : decode cX6_where 22 = .ok (.iload_n 2, 1) := by decide +kernel
theorem dX6_where_23 : decode cX6_where 23 = .ok (.invokevirtual 134, 3) := by decide +kernel
theorem dX6_where_26 : decode cX6_where 26 = .ok (.goto 5, 3) := by decide +kernel
theorem dX6_where_29 : decode cX6_where 29 = .ok (.bipush (-2), 2) := by decide +kernel
theorem dX6_where_31 : decode cX6_where 31 = .ok (.ireturn, 1) := by decide +kernel
theorem dX6_heard_0 : decode cX6_heard 0 = .ok (.aload_n 0, 1) := by decide +kernel
theorem dX6_heard_1 : decode cX6_heard 1 = .ok (.iload_n 1, 1) := by decide +kernel
theorem dX6_heard_2 : decode cX6_heard 2 = .ok (.invokevirtual 85, 3) := by decide +kernel
theorem dX6_heard_5 : decode cX6_heard 5 = .ok (.ifCond .eq 16, 3) := by decide +kernel
theorem dX6_heard_8 : decode cX6_heard 8 = .ok (.aload_n 0, 1) := by decide +kernel
theorem dX6_heard_9 : decode cX6_heard 9 = .ok (.getfield 41, 3) := by decide +kernel
theorem dX6_heard_12 : decode cX6_heard 12 = .ok (.iload_n 1, 1) := by decide +kernel
theorem dX6_heard_13 : decode cX6_heard 13 = .ok (.bipush (-9), 2) := by decide +kernel
theorem dX6_heard_15 : decode cX6_heard 15 = .ok (.invokevirtual 138, 3) := by decide +kernel
theorem dX6_heard_18 : decode cX6_heard 18 = .ok (.goto 4, 3) := by decide +kernel
theorem dX6_heard_21 : decode cX6_heard 21 = .ok (.iconst (-1), 1) := by decide +kernel
theorem dX6_heard_22 : decode cX6_heard 22 = .ok (.ireturn, 1) := by decide +kernel
theorem dX6_layer_0 : decode cX6_layer 0 = .ok (.aload_n 0, 1) := by decide +kernel
theorem dX6_layer_1 : decode cX6_layer 1 = .ok (.iload_n 1, 1) := by decide +kernel
theorem dX6_layer_2 : decode cX6_layer 2 = .ok (.invokevirtual 85, 3) := by decide +kernel
theorem dX6_layer_5 : decode cX6_layer 5 = .ok (.ifCond .eq 7, 3) := by decide +kernel
theorem dX6_layer_8 : decode cX6_layer 8 = .ok (.iload_n 2, 1) := by decide +kernel
theorem dX6_layer_9 : decode cX6_layer 9 = .ok (.ifCond .ge 5, 3) := by decide +kernel
theorem dX6_layer_12 : decode cX6_layer 12 = .ok (.iconst (-1), 1) := by decide +kernel
theorem dX6_layer_13 : decode cX6_layer 13 = .ok (.ireturn, 1) := by decide +kernel
theorem dX6_layer_14 : decode cX6_layer 14 = .ok (.aload_n 0, 1) := by decide +kernel
theorem dX6_layer_15 : decode cX6_layer 15 = .ok (.getfield 41, 3) := by decide +kernel
theorem dX6_layer_18 : decode cX6_layer 18 = .ok (.aload_n 0, 1) := by decide +kernel
theorem dX6_layer_19 : decode cX6_layer 19 = .ok (.getfield 41, 3) := by decide +kernel
theorem dX6_layer_22 : decode cX6_layer 22 = .ok (.iload_n 1, 1) := by decide +kernel
theorem dX6_layer_23 : decode cX6_layer 23 = .ok (.bipush (-9), 2) := by decide +kernel
theorem dX6_layer_25 : decode cX6_layer 25 = .ok (.invokevirtual 138, 3) := by decide +kernel
theorem dX6_layer_28 : decode cX6_layer 28 = .ok (.iload_n 2, 1) := by decide +kernel
theorem dX6_layer_29 : decode cX6_layer 29 = .ok (.invokevirtual 141, 3) := by decide +kernel
theorem dX6_layer_32 : decode cX6_layer 32 = .ok (.ireturn, 1) := by decide +kernel
theorem dX6_deep_0 : decode cX6_deep 0 = .ok (.aload_n 0, 1) := by decide +kernel
theorem dX6_deep_1 : decode cX6_deep 1 = .ok (.iload_n 1, 1) := by decide +kernel
theorem dX6_deep_2 : decode cX6_deep 2 = .ok (.invokevirtual 85, 3) := by decide +kernel
theorem dX6_deep_5 : decode cX6_deep 5 = .ok (.ifCond .eq 10, 3) := by decide +kernel
theorem dX6_deep_8 : decode cX6_deep 8 = .ok (.iload_n 2, 1) := by decide +kernel
theorem dX6_deep_9 : decode cX6_deep 9 = .ok (.invokestatic 144, 3) := by decide +kernel
theorem dX6_deep_12 : decode cX6_deep 12 = .ok (.ifCond .ne 5, 3) := by decide +kernel
theorem dX6_deep_15 : decode cX6_deep 15 = .ok (.iconst (-1), 1) := by decide +kernel
theorem dX6_deep_16 : decode cX6_deep 16 = .ok (.ireturn, 1) := by decide +kernel
theorem dX6_deep_17 : decode cX6_deep 17 = .ok (.aload_n 0, 1) := by decide +kernel
theorem dX6_deep_18 : decode cX6_deep 18 = .ok (.getfield 41, 3) := by decide +kernel
theorem dX6_deep_21 : decode cX6_deep 21 = .ok (.aload_n 0, 1) := by decide +kernel
theorem dX6_deep_22 : decode cX6_deep 22 = .ok (.getfield 41, 3) := by decide +kernel
theorem dX6_deep_25 : decode cX6_deep 25 = .ok (.iload_n 1, 1) := by decide +kernel
theorem dX6_deep_26 : decode cX6_deep 26 = .ok (.bipush (-9), 2) := by decide +kernel
theorem dX6_deep_28 : decode cX6_deep 28 = .ok (.invokevirtual 138, 3) := by decide +kernel
theorem dX6_deep_31 : decode cX6_deep 31 = .ok (.iload_n 2, 1) := by decide +kernel
theorem dX6_deep_32 : decode cX6_deep 32 = .ok (.invokevirtual 147, 3) := by decide +kernel
theorem dX6_deep_35 : decode cX6_deep 35 = .ok (.ireturn, 1) := by decide +kernel
theorem dX6_cuts_0 : decode cX6_cuts 0 = .ok (.aload_n 0, 1) := by decide +kernel
theorem dX6_cuts_1 : decode cX6_cuts 1 = .ok (.iconst 0, 1) := by decide +kernel
theorem dX6_cuts_2 : decode cX6_cuts 2 = .ok (.putfield 52, 3) := by decide +kernel
theorem dX6_cuts_5 : decode cX6_cuts 5 = .ok (.iload_n 1, 1) := by decide +kernel
theorem dX6_cuts_6 : decode cX6_cuts 6 = .ok (.invokestatic 56, 3) := by decide +kernel
theorem dX6_cuts_9 : decode cX6_cuts 9 = .ok (.ifCond .ne 5, 3) := by decide +kernel
theorem dX6_cuts_12 : decode cX6_cuts 12 = .ok (.iconst (-1), 1) := by decide +kernel
theorem dX6_cuts_13 : decode cX6_cuts 13 = .ok (.ireturn, 1) := by decide +kernel
theorem dX6_cuts_14 : decode cX6_cuts 14 = .ok (.iload_n 2, 1) := by decide +kernel
theorem dX6_cuts_15 : decode cX6_cuts 15 = .ok (.invokestatic 60, 3) := by decide +kernel
theorem dX6_cuts_18 : decode cX6_cuts 18 = .ok (.ifCond .eq 26, 3) := by decide +kernel
theorem dX6_cuts_21 : decode cX6_cuts 21 = .ok (.iload 4, 2) := by decide +kernel
theorem dX6_cuts_23 : decode cX6_cuts 23 = .ok (.ifCond .lt 21, 3) := by decide +kernel
theorem dX6_cuts_26 : decode cX6_cuts 26 = .ok (.iload 4, 2) := by decide +kernel
theorem dX6_cuts_28 : decode cX6_cuts 28 = .ok (.bipush 20, 2) := by decide +kernel
theorem dX6_cuts_30 : decode cX6_cuts 30 = .ok (.if_icmp .gt 14, 3) := by decide +kernel
theorem dX6_cuts_33 : decode cX6_cuts 33 = .ok (.iload 5, 2) := by decide +kernel
theorem dX6_cuts_35 : decode cX6_cuts 35 = .ok (.ifCond .lt 9, 3) := by decide +kernel
theorem dX6_cuts_38 : decode cX6_cuts 38 = .ok (.iload 5, 2) := by decide +kernel
theorem dX6_cuts_40 : decode cX6_cuts 40 = .ok (.iconst 1, 1) := by decide +kernel
theorem dX6_cuts_41 : decode cX6_cuts 41 = .ok (.if_icmp .le 6, 3) := by decide +kernel
theorem dX6_cuts_44 : decode cX6_cuts 44 = .ok (.bipush (-2), 2) := by decide +kernel
theorem dX6_cuts_46 : decode cX6_cuts 46 = .ok (.ireturn, 1) := by decide +kernel
theorem dX6_cuts_47 : decode cX6_cuts 47 = .ok (.aload_n 0, 1) := by decide +kernel
theorem dX6_cuts_48 : decode cX6_cuts 48 = .ok (.getfield 13, 3) := by decide +kernel
theorem dX6_cuts_51 : decode cX6_cuts 51 = .ok (.iload_n 1, 1) := by decide +kernel
theorem dX6_cuts_52 : decode cX6_cuts 52 = .ok (.aaload, 1) := by decide +kernel
theorem dX6_cuts_53 : decode cX6_cuts 53 = .ok (.astore 6, 2) := by decide +kernel
theorem dX6_cuts_55 : decode cX6_cuts 55 = .ok (.aload 6, 2) := by decide +kernel
theorem dX6_cuts_57 : decode cX6_cuts 57 = .ok (.iload_n 2, 1) := by decide +kernel
theorem dX6_cuts_58 : decode cX6_cuts 58 = .ok (.invokevirtual 63, 3) := by decide +kernel
theorem dX6_cuts_61 : decode cX6_cuts 61 = .ok (.istore 7, 2) := by decide +kernel
theorem dX6_cuts_63 : decode cX6_cuts 63 = .ok (.iload 7, 2) := by decide +kernel
theorem dX6_cuts_65 : decode cX6_cuts 65 = .ok (.ifCond .ne 19, 3) := by decide +kernel
theorem dX6_cuts_68 : decode cX6_cuts 68 = .ok (.aload 6, 2) := by decide +kernel
theorem dX6_cuts_70 : decode cX6_cuts 70 = .ok (.iload_n 3, 1) := by decide +kernel
theorem dX6_cuts_71 : decode cX6_cuts 71 = .ok (.iconst 2, 1) := by decide +kernel
theorem dX6_cuts_72 : decode cX6_cuts 72 = .ok (.iload 4, 2) := by decide +kernel
theorem dX6_cuts_74 : decode cX6_cuts 74 = .ok (.imul, 1) := by decide +kernel
theorem dX6_cuts_75 : decode cX6_cuts 75 = .ok (.invokevirtual 67, 3) := by decide +kernel
theorem dX6_cuts_78 : decode cX6_cuts 78 = .ok (.ifCond .ne 6, 3) := by decide +kernel
theorem dX6_cuts_81 : decode cX6_cuts 81 = .ok (.iconst 3, 1) := by decide +kernel
theorem dX6_cuts_82 : decode cX6_cuts 82 = .ok (.istore 7, 2) := by decide +kernel
theorem dX6_cuts_84 : decode cX6_cuts 84 = .ok (.iload 7, 2) := by decide +kernel
theorem dX6_cuts_86 : decode cX6_cuts 86 = .ok (.ifCond .eq 10, 3) := by decide +kernel
theorem dX6_cuts_89 : decode cX6_cuts 89 = .ok (.aload_n 0, 1) := by decide +kernel
theorem dX6_cuts_90 : decode cX6_cuts 90 = .ok (.iload 7, 2) := by decide +kernel
theorem dX6_cuts_92 : decode cX6_cuts 92 = .ok (.invokevirtual 71, 3) := by decide +kernel
theorem dX6_cuts_95 : decode cX6_cuts 95 = .ok (.ireturn, 1) := by decide +kernel
theorem dX6_cuts_96 : decode cX6_cuts 96 = .ok (.aload_n 0, 1) := by decide +kernel
theorem dX6_cuts_97 : decode cX6_cuts 97 = .ok (.invokevirtual 150, 3) := by decide +kernel
theorem dX6_cuts_100 : decode cX6_cuts 100 = .ok (.ifCond .eq 8, 3) := by decide +kernel
theorem dX6_cuts_103 : decode cX6_cuts 103 = .ok (.bipush (-3), 2) := by decide +kernel
theorem dX6_cuts_105 : decode cX6_cuts 105 = .ok (.goto 17, 3) := by decide +kernel
theorem dX6_cuts_108 : decode cX6_cuts 108 = .ok (.aload_n 0, 1) := by decide +kernel
theorem dX6_cuts_109 : decode cX6_cuts 109 = .ok (.aload 6, 2) := by decide +kernel
theorem dX6_cuts_111 : decode cX6_cuts 111 = .ok (.getfield 74, 3) := by decide +kernel
theorem dX6_cuts_114 : decode cX6_cuts 114 = .ok (.iload_n 3, 1) := by decide +kernel
theorem dX6_cuts_115 : decode cX6_cuts 115 = .ok (.iload 4, 2) := by decide +kernel
theorem dX6_cuts_117 : decode cX6_cuts 117 = .ok (.iload 5, 2) := by decide +kernel
theorem dX6_cuts_119 : decode cX6_cuts 119 = .ok (.invokevirtual 154, 3) := by decide +kernel
theorem dX6_cuts_122 : decode cX6_cuts 122 = .ok (.ireturn, 1) := by decide +kernel
theorem dX6_cutPairs_0 : decode cX6_cutPairs 0 = .ok (.iconst 0, 1) := by decide +kernel
theorem dX6_cutPairs_1 : decode cX6_cutPairs 1 = .ok (.istore 5, 2) := by decide +kernel
theorem dX6_cutPairs_3 : decode cX6_cutPairs 3 = .ok (.bipush (-9), 2) := by decide +kernel
theorem dX6_cutPairs_5 : decode cX6_cutPairs 5 = .ok (.istore 6, 2) := by decide +kernel
theorem dX6_cutPairs_7 : decode cX6_cutPairs 7 = .ok (.iconst 0, 1) := by decide +kernel
theorem dX6_cutPairs_8 : decode cX6_cutPairs 8 = .ok (.istore 7, 2) := by decide +kernel
theorem dX6_cutPairs_10 : decode cX6_cutPairs 10 = .ok (.iload 7, 2) := by decide +kernel
theorem dX6_cutPairs_12 : decode cX6_cutPairs 12 = .ok (.iload_n 3, 1) := by decide +kernel
theorem dX6_cutPairs_13 : decode cX6_cutPairs 13 = .ok (.if_icmp .ge 104, 3) := by decide +kernel
theorem dX6_cutPairs_16 : decode cX6_cutPairs 16 = .ok (.aload_n 1, 1) := by decide +kernel
theorem dX6_cutPairs_17 : decode cX6_cutPairs 17 = .ok (.iload_n 2, 1) := by decide +kernel
theorem dX6_cutPairs_18 : decode cX6_cutPairs 18 = .ok (.iconst 2, 1) := by decide +kernel
theorem dX6_cutPairs_19 : decode cX6_cutPairs 19 = .ok (.iload 7, 2) := by decide +kernel
theorem dX6_cutPairs_21 : decode cX6_cutPairs 21 = .ok (.imul, 1) := by decide +kernel
theorem dX6_cutPairs_22 : decode cX6_cutPairs 22 = .ok (.iadd, 1) := by decide +kernel
theorem dX6_cutPairs_23 : decode cX6_cutPairs 23 = .ok (.iaload, 1) := by decide +kernel
theorem dX6_cutPairs_24 : decode cX6_cutPairs 24 = .ok (.istore 8, 2) := by decide +kernel
theorem dX6_cutPairs_26 : decode cX6_cutPairs 26 = .ok (.aload_n 1, 1) := by decide +kernel
theorem dX6_cutPairs_27 : decode cX6_cutPairs 27 = .ok (.iload_n 2, 1) := by decide +kernel
theorem dX6_cutPairs_28 : decode cX6_cutPairs 28 = .ok (.iconst 2, 1) := by decide +kernel
theorem dX6_cutPairs_29 : decode cX6_cutPairs 29 = .ok (.iload 7, 2) := by decide +kernel
theorem dX6_cutPairs_31 : decode cX6_cutPairs 31 = .ok (.imul, 1) := by decide +kernel
theorem dX6_cutPairs_32 : decode cX6_cutPairs 32 = .ok (.iadd, 1) := by decide +kernel
theorem dX6_cutPairs_33 : decode cX6_cutPairs 33 = .ok (.iconst 1, 1) := by decide +kernel
theorem dX6_cutPairs_34 : decode cX6_cutPairs 34 = .ok (.iadd, 1) := by decide +kernel
theorem dX6_cutPairs_35 : decode cX6_cutPairs 35 = .ok (.iaload, 1) := by decide +kernel
theorem dX6_cutPairs_36 : decode cX6_cutPairs 36 = .ok (.istore 9, 2) := by decide +kernel
theorem dX6_cutPairs_38 : decode cX6_cutPairs 38 = .ok (.aload_n 0, 1) := by decide +kernel
theorem dX6_cutPairs_39 : decode cX6_cutPairs 39 = .ok (.iload 8, 2) := by decide +kernel
theorem dX6_cutPairs_41 : decode cX6_cutPairs 41 = .ok (.invokevirtual 85, 3) := by decide +kernel
theorem dX6_cutPairs_44 : decode cX6_cutPairs 44 = .ok (.ifCond .ne 5, 3) := by decide +kernel
theorem dX6_cutPairs_47 : decode cX6_cutPairs 47 = .ok (.iconst (-1), 1) := by decide +kernel
theorem dX6_cutPairs_48 : decode cX6_cutPairs 48 = .ok (.ireturn, 1) := by decide +kernel
theorem dX6_cutPairs_49 : decode cX6_cutPairs 49 = .ok (.iload 9, 2) := by decide +kernel
theorem dX6_cutPairs_51 : decode cX6_cutPairs 51 = .ok (.ifCond .lt 10, 3) := by decide +kernel
theorem dX6_cutPairs_54 : decode cX6_cutPairs 54 = .ok (.iload 9, 2) := by decide +kernel
theorem dX6_cutPairs_56 : decode cX6_cutPairs 56 = .ok (.bipush 8, 2) := by decide +kernel
theorem dX6_cutPairs_58 : decode cX6_cutPairs 58 = .ok (.if_icmp .le 6, 3) := by decide +kernel
theorem dX6_cutPairs_61 : decode cX6_cutPairs 61 = .ok (.bipush (-2), 2) := by decide +kernel
theorem dX6_cutPairs_63 : decode cX6_cutPairs 63 = .ok (.ireturn, 1) := by decide +kernel
theorem dX6_cutPairs_64 : decode cX6_cutPairs 64 = .ok (.iload 5, 2) := by decide +kernel
theorem dX6_cutPairs_66 : decode cX6_cutPairs 66 = .ok (.aload_n 0, 1) := by decide +kernel
theorem dX6_cutPairs_67 : decode cX6_cutPairs 67 = .ok (.getfield 41, 3) := by decide +kernel
theorem dX6_cutPairs_70 : decode cX6_cutPairs 70 = .ok (.aload_n 0, 1) := by decide +kernel
theorem dX6_cutPairs_71 : decode cX6_cutPairs 71 = .ok (.getfield 41, 3) := by decide +kernel
theorem dX6_cutPairs_74 : decode cX6_cutPairs 74 = .ok (.iload 8, 2) := by decide +kernel
theorem dX6_cutPairs_76 : decode cX6_cutPairs 76 = .ok (.bipush (-9), 2) := by decide +kernel
theorem dX6_cutPairs_78 : decode cX6_cutPairs 78 = .ok (.invokevirtual 138, 3) := by decide +kernel
theorem dX6_cutPairs_81 : decode cX6_cutPairs 81 = .ok (.iload 9, 2) := by decide +kernel
theorem dX6_cutPairs_83 : decode cX6_cutPairs 83 = .ok (.invokevirtual 158, 3) := by decide +kernel
theorem dX6_cutPairs_86 : decode cX6_cutPairs 86 = .ok (.ior, 1) := by decide +kernel
theorem dX6_cutPairs_87 : decode cX6_cutPairs 87 = .ok (.istore 10, 2) := by decide +kernel
theorem dX6_cutPairs_89 : decode cX6_cutPairs 89 = .ok (.iload 10, 2) := by decide +kernel
theorem dX6_cutPairs_91 : decode cX6_cutPairs 91 = .ok (.iload 5, 2) := by decide +kernel
theorem dX6_cutPairs_93 : decode cX6_cutPairs 93 = .ok (.if_icmp .ne 14, 3) := by decide +kernel
theorem dX6_cutPairs_96 : decode cX6_cutPairs 96 = .ok (.iload 6, 2) := by decide +kernel
theorem dX6_cutPairs_98 : decode cX6_cutPairs 98 = .ok (.bipush (-9), 2) := by decide +kernel
theorem dX6_cutPairs_100 : decode cX6_cutPairs 100 = .ok (.if_icmp .ne 7, 3) := by decide +kernel
theorem dX6_cutPairs_103 : decode cX6_cutPairs 103 = .ok (.iload 7, 2) := by decide +kernel
theorem dX6_cutPairs_105 : decode cX6_cutPairs 105 = .ok (.istore 6, 2) := by decide +kernel
theorem dX6_cutPairs_107 : decode cX6_cutPairs 107 = .ok (.iload 10, 2) := by decide +kernel
theorem dX6_cutPairs_109 : decode cX6_cutPairs 109 = .ok (.istore 5, 2) := by decide +kernel
theorem dX6_cutPairs_111 : decode cX6_cutPairs 111 = .ok (.iinc 7 1, 3) := by decide +kernel
theorem dX6_cutPairs_114 : decode cX6_cutPairs 114 = .ok (.goto (-104), 3) := by decide +kernel
theorem dX6_cutPairs_117 : decode cX6_cutPairs 117 = .ok (.iload 4, 2) := by decide +kernel
theorem dX6_cutPairs_119 : decode cX6_cutPairs 119 = .ok (.ifCond .ne 8, 3) := by decide +kernel
theorem dX6_cutPairs_122 : decode cX6_cutPairs 122 = .ok (.iload 5, 2) := by decide +kernel
theorem dX6_cutPairs_124 : decode cX6_cutPairs 124 = .ok (.goto 5, 3) := by decide +kernel
theorem dX6_cutPairs_127 : decode cX6_cutPairs 127 = .ok (.iload 6, 2) := by decide +kernel
theorem dX6_cutPairs_129 : decode cX6_cutPairs 129 = .ok (.ireturn, 1) := by decide +kernel
theorem dX6_spare_0 : decode cX6_spare 0 = .ok (.iload_n 3, 1) := by decide +kernel
theorem dX6_spare_1 : decode cX6_spare 1 = .ok (.iconst (-1), 1) := by decide +kernel
theorem dX6_spare_2 : decode cX6_spare 2 = .ok (.if_icmp .ge 5, 3) := by decide +kernel
theorem dX6_spare_5 : decode cX6_spare 5 = .ok (.iconst (-1), 1) := by decide +kernel
theorem dX6_spare_6 : decode cX6_spare 6 = .ok (.ireturn, 1) := by decide +kernel
theorem dX6_spare_7 : decode cX6_spare 7 = .ok (.iload_n 1, 1) := by decide +kernel
theorem dX6_spare_8 : decode cX6_spare 8 = .ok (.invokestatic 161, 3) := by decide +kernel
theorem dX6_spare_11 : decode cX6_spare 11 = .ok (.ifCond .eq 10, 3) := by decide +kernel
theorem dX6_spare_14 : decode cX6_spare 14 = .ok (.iload_n 2, 1) := by decide +kernel
theorem dX6_spare_15 : decode cX6_spare 15 = .ok (.invokestatic 161, 3) := by decide +kernel
theorem dX6_spare_18 : decode cX6_spare 18 = .ok (.ifCond .ne 6, 3) := by decide +kernel
theorem dX6_spare_21 : decode cX6_spare 21 = .ok (.bipush (-2), 2) := by decide +kernel
theorem dX6_spare_23 : decode cX6_spare 23 = .ok (.ireturn, 1) := by decide +kernel
theorem dX6_spare_24 : decode cX6_spare 24 = .ok (.aload_n 0, 1) := by decide +kernel
theorem dX6_spare_25 : decode cX6_spare 25 = .ok (.invokevirtual 150, 3) := by decide +kernel
theorem dX6_spare_28 : decode cX6_spare 28 = .ok (.ifCond .eq 6, 3) := by decide +kernel
theorem dX6_spare_31 : decode cX6_spare 31 = .ok (.bipush (-3), 2) := by decide +kernel
theorem dX6_spare_33 : decode cX6_spare 33 = .ok (.ireturn, 1) := by decide +kernel
theorem dX6_spare_34 : decode cX6_spare 34 = .ok (.aload_n 0, 1) := by decide +kernel
theorem dX6_spare_35 : decode cX6_spare 35 = .ok (.getfield 20, 3) := by decide +kernel
theorem dX6_spare_38 : decode cX6_spare 38 = .ok (.aload_n 0, 1) := by decide +kernel
theorem dX6_spare_39 : decode cX6_spare 39 = .ok (.getfield 41, 3) := by decide +kernel
theorem dX6_spare_42 : decode cX6_spare 42 = .ok (.iload_n 1, 1) := by decide +kernel
theorem dX6_spare_43 : decode cX6_spare 43 = .ok (.iload_n 2, 1) := by decide +kernel
theorem dX6_spare_44 : decode cX6_spare 44 = .ok (.invokevirtual 164, 3) := by decide +kernel
theorem dX6_spare_47 : decode cX6_spare 47 = .ok (.iload_n 3, 1) := by decide +kernel
theorem dX6_spare_48 : decode cX6_spare 48 = .ok (.iconst (-1), 1) := by decide +kernel
theorem dX6_spare_49 : decode cX6_spare 49 = .ok (.if_icmp .ne 11, 3) := by decide +kernel
theorem dX6_spare_52 : decode cX6_spare 52 = .ok (.aload_n 0, 1) := by decide +kernel
theorem dX6_spare_53 : decode cX6_spare 53 = .ok (.getfield 20, 3) := by decide +kernel
theorem dX6_spare_56 : decode cX6_spare 56 = .ok (.getfield 168, 3) := by decide +kernel
theorem dX6_spare_59 : decode cX6_spare 59 = .ok (.ireturn, 1) := by decide +kernel
theorem dX6_spare_60 : decode cX6_spare 60 = .ok (.aload_n 0, 1) := by decide +kernel
theorem dX6_spare_61 : decode cX6_spare 61 = .ok (.iload_n 3, 1) := by decide +kernel
theorem dX6_spare_62 : decode cX6_spare 62 = .ok (.invokevirtual 85, 3) := by decide +kernel
theorem dX6_spare_65 : decode cX6_spare 65 = .ok (.ifCond .eq 27, 3) := by decide +kernel
theorem dX6_spare_68 : decode cX6_spare 68 = .ok (.aload_n 0, 1) := by decide +kernel
theorem dX6_spare_69 : decode cX6_spare 69 = .ok (.getfield 20, 3) := by decide +kernel
theorem dX6_spare_72 : decode cX6_spare 72 = .ok (.getfield 168, 3) := by decide +kernel
theorem dX6_spare_75 : decode cX6_spare 75 = .ok (.bipush (-9), 2) := by decide +kernel
theorem dX6_spare_77 : decode cX6_spare 77 = .ok (.if_icmp .eq 15, 3) := by decide +kernel
theorem dX6_spare_80 : decode cX6_spare 80 = .ok (.aload_n 0, 1) := by decide +kernel
theorem dX6_spare_81 : decode cX6_spare 81 = .ok (.getfield 20, 3) := by decide +kernel
theorem dX6_spare_84 : decode cX6_spare 84 = .ok (.getfield 171, 3) := by decide +kernel
theorem dX6_spare_87 : decode cX6_spare 87 = .ok (.iload_n 3, 1) := by decide +kernel
theorem dX6_spare_88 : decode cX6_spare 88 = .ok (.iaload, 1) := by decide +kernel
theorem dX6_spare_89 : decode cX6_spare 89 = .ok (.goto 5, 3) := by decide +kernel
theorem dX6_spare_92 : decode cX6_spare 92 = .ok (.bipush (-9), 2) := by decide +kernel
theorem dX6_spare_94 : decode cX6_spare 94 = .ok (.ireturn, 1) := by decide +kernel
theorem dX6_shelve_0 : decode cX6_shelve 0 = .ok (.iload_n 1, 1) := by decide +kernel
theorem dX6_shelve_1 : decode cX6_shelve 1 = .ok (.iconst (-1), 1) := by decide +kernel
theorem dX6_shelve_2 : decode cX6_shelve 2 = .ok (.if_icmp .ge 5, 3) := by decide +kernel
theorem dX6_shelve_5 : decode cX6_shelve 5 = .ok (.iconst (-1), 1) := by decide +kernel
theorem dX6_shelve_6 : decode cX6_shelve 6 = .ok (.ireturn, 1) := by decide +kernel
theorem dX6_shelve_7 : decode cX6_shelve 7 = .ok (.aload_n 0, 1) := by decide +kernel
theorem dX6_shelve_8 : decode cX6_shelve 8 = .ok (.invokevirtual 150, 3) := by decide +kernel
theorem dX6_shelve_11 : decode cX6_shelve 11 = .ok (.ifCond .eq 6, 3) := by decide +kernel
theorem dX6_shelve_14 : decode cX6_shelve 14 = .ok (.bipush (-3), 2) := by decide +kernel
theorem dX6_shelve_16 : decode cX6_shelve 16 = .ok (.ireturn, 1) := by decide +kernel
theorem dX6_shelve_17 : decode cX6_shelve 17 = .ok (.aload_n 0, 1) := by decide +kernel
theorem dX6_shelve_18 : decode cX6_shelve 18 = .ok (.getfield 27, 3) := by decide +kernel
theorem dX6_shelve_21 : decode cX6_shelve 21 = .ok (.aload_n 0, 1) := by decide +kernel
theorem dX6_shelve_22 : decode cX6_shelve 22 = .ok (.getfield 41, 3) := by decide +kernel
theorem dX6_shelve_25 : decode cX6_shelve 25 = .ok (.invokevirtual 174, 3) := by decide +kernel
theorem dX6_shelve_28 : decode cX6_shelve 28 = .ok (.iload_n 1, 1) := by decide +kernel
theorem dX6_shelve_29 : decode cX6_shelve 29 = .ok (.iconst (-1), 1) := by decide +kernel
theorem dX6_shelve_30 : decode cX6_shelve 30 = .ok (.if_icmp .ne 11, 3) := by decide +kernel
theorem dX6_shelve_33 : decode cX6_shelve 33 = .ok (.aload_n 0, 1) := by decide +kernel
theorem dX6_shelve_34 : decode cX6_shelve 34 = .ok (.getfield 27, 3) := by decide +kernel
theorem dX6_shelve_37 : decode cX6_shelve 37 = .ok (.getfield 177, 3) := by decide +kernel
theorem dX6_shelve_40 : decode cX6_shelve 40 = .ok (.ireturn, 1) := by decide +kernel
theorem dX6_shelve_41 : decode cX6_shelve 41 = .ok (.aload_n 0, 1) := by decide +kernel
theorem dX6_shelve_42 : decode cX6_shelve 42 = .ok (.iload_n 1, 1) := by decide +kernel
theorem dX6_shelve_43 : decode cX6_shelve 43 = .ok (.invokevirtual 85, 3) := by decide +kernel
theorem dX6_shelve_46 : decode cX6_shelve 46 = .ok (.ifCond .eq 15, 3) := by decide +kernel
theorem dX6_shelve_49 : decode cX6_shelve 49 = .ok (.aload_n 0, 1) := by decide +kernel
theorem dX6_shelve_50 : decode cX6_shelve 50 = .ok (.getfield 27, 3) := by decide +kernel
theorem dX6_shelve_53 : decode cX6_shelve 53 = .ok (.getfield 180, 3) := by decide +kernel
theorem dX6_shelve_56 : decode cX6_shelve 56 = .ok (.iload_n 1, 1) := by decide +kernel
theorem dX6_shelve_57 : decode cX6_shelve 57 = .ok (.iaload, 1) := by decide +kernel
theorem dX6_shelve_58 : decode cX6_shelve 58 = .ok (.goto 5, 3) := by decide +kernel
theorem dX6_shelve_61 : decode cX6_shelve 61 = .ok (.bipush (-9), 2) := by decide +kernel
theorem dX6_shelve_63 : decode cX6_shelve 63 = .ok (.ireturn, 1) := by decide +kernel
theorem dX6_common_0 : decode cX6_common 0 = .ok (.aload_n 0, 1) := by decide +kernel
theorem dX6_common_1 : decode cX6_common 1 = .ok (.invokevirtual 150, 3) := by decide +kernel
theorem dX6_common_4 : decode cX6_common 4 = .ok (.ifCond .eq 6, 3) := by decide +kernel
theorem dX6_common_7 : decode cX6_common 7 = .ok (.bipush (-3), 2) := by decide +kernel
theorem dX6_common_9 : decode cX6_common 9 = .ok (.ireturn, 1) := by decide +kernel
theorem dX6_common_10 : decode cX6_common 10 = .ok (.sipush 255, 3) := by decide +kernel
theorem dX6_common_13 : decode cX6_common 13 = .ok (.istore_n 1, 1) := by decide +kernel
theorem dX6_common_14 : decode cX6_common 14 = .ok (.iconst 0, 1) := by decide +kernel
theorem dX6_common_15 : decode cX6_common 15 = .ok (.istore_n 2, 1) := by decide +kernel
theorem dX6_common_16 : decode cX6_common 16 = .ok (.iload_n 2, 1) := by decide +kernel
theorem dX6_common_17 : decode cX6_common 17 = .ok (.aload_n 0, 1) := by decide +kernel
theorem dX6_common_18 : decode cX6_common 18 = .ok (.getfield 41, 3) := by decide +kernel
theorem dX6_common_21 : decode cX6_common 21 = .ok (.getfield 181, 3) := by decide +kernel
theorem dX6_common_24 : decode cX6_common 24 = .ok (.if_icmp .ge 22, 3) := by decide +kernel
theorem dX6_common_27 : decode cX6_common 27 = .ok (.iload_n 1, 1) := by decide +kernel
theorem dX6_common_28 : decode cX6_common 28 = .ok (.aload_n 0, 1) := by decide +kernel
theorem dX6_common_29 : decode cX6_common 29 = .ok (.getfield 41, 3) := by decide +kernel
theorem dX6_common_32 : decode cX6_common 32 = .ok (.iload_n 2, 1) := by decide +kernel
theorem dX6_common_33 : decode cX6_common 33 = .ok (.bipush (-9), 2) := by decide +kernel
theorem dX6_common_35 : decode cX6_common 35 = .ok (.invokevirtual 184, 3) := by decide +kernel
theorem dX6_common_38 : decode cX6_common 38 = .ok (.iand, 1) := by decide +kernel
theorem dX6_common_39 : decode cX6_common 39 = .ok (.istore_n 1, 1) := by decide +kernel
theorem dX6_common_40 : decode cX6_common 40 = .ok (.iinc 2 1, 3) := by decide +kernel
theorem dX6_common_43 : decode cX6_common 43 = .ok (.goto (-27), 3) := by decide +kernel
theorem dX6_common_46 : decode cX6_common 46 = .ok (.iload_n 1, 1) := by decide +kernel
theorem dX6_common_47 : decode cX6_common 47 = .ok (.ireturn, 1) := by decide +kernel
theorem dX6_alone_0 : decode cX6_alone 0 = .ok (.aload_n 0, 1) := by decide +kernel
theorem dX6_alone_1 : decode cX6_alone 1 = .ok (.iload_n 1, 1) := by decide +kernel
theorem dX6_alone_2 : decode cX6_alone 2 = .ok (.invokevirtual 85, 3) := by decide +kernel
theorem dX6_alone_5 : decode cX6_alone 5 = .ok (.ifCond .ne 5, 3) := by decide +kernel
theorem dX6_alone_8 : decode cX6_alone 8 = .ok (.iconst (-1), 1) := by decide +kernel
theorem dX6_alone_9 : decode cX6_alone 9 = .ok (.ireturn, 1) := by decide +kernel
theorem dX6_alone_10 : decode cX6_alone 10 = .ok (.aload_n 0, 1) := by decide +kernel
theorem dX6_alone_11 : decode cX6_alone 11 = .ok (.getfield 41, 3) := by decide +kernel
theorem dX6_alone_14 : decode cX6_alone 14 = .ok (.iload_n 1, 1) := by decide +kernel
theorem dX6_alone_15 : decode cX6_alone 15 = .ok (.bipush (-9), 2) := by decide +kernel
theorem dX6_alone_17 : decode cX6_alone 17 = .ok (.invokevirtual 184, 3) := by decide +kernel
theorem dX6_alone_20 : decode cX6_alone 20 = .ok (.istore_n 2, 1) := by decide +kernel
theorem dX6_alone_21 : decode cX6_alone 21 = .ok (.iconst 0, 1) := by decide +kernel
theorem dX6_alone_22 : decode cX6_alone 22 = .ok (.istore_n 3, 1) := by decide +kernel
theorem dX6_alone_23 : decode cX6_alone 23 = .ok (.iload_n 3, 1) := by decide +kernel
theorem dX6_alone_24 : decode cX6_alone 24 = .ok (.aload_n 0, 1) := by decide +kernel
theorem dX6_alone_25 : decode cX6_alone 25 = .ok (.getfield 41, 3) := by decide +kernel
theorem dX6_alone_28 : decode cX6_alone 28 = .ok (.getfield 181, 3) := by decide +kernel
theorem dX6_alone_31 : decode cX6_alone 31 = .ok (.if_icmp .ge 29, 3) := by decide +kernel
theorem dX6_alone_34 : decode cX6_alone 34 = .ok (.iload_n 3, 1) := by decide +kernel
theorem dX6_alone_35 : decode cX6_alone 35 = .ok (.iload_n 1, 1) := by decide +kernel
theorem dX6_alone_36 : decode cX6_alone 36 = .ok (.if_icmp .eq 18, 3) := by decide +kernel
theorem dX6_alone_39 : decode cX6_alone 39 = .ok (.iload_n 2, 1) := by decide +kernel
theorem dX6_alone_40 : decode cX6_alone 40 = .ok (.aload_n 0, 1) := by decide +kernel
theorem dX6_alone_41 : decode cX6_alone 41 = .ok (.getfield 41, 3) := by decide +kernel
theorem dX6_alone_44 : decode cX6_alone 44 = .ok (.iload_n 3, 1) := by decide +kernel
theorem dX6_alone_45 : decode cX6_alone 45 = .ok (.bipush (-9), 2) := by decide +kernel
theorem dX6_alone_47 : decode cX6_alone 47 = .ok (.invokevirtual 184, 3) := by decide +kernel
theorem dX6_alone_50 : decode cX6_alone 50 = .ok (.iconst (-1), 1) := by decide +kernel
theorem dX6_alone_51 : decode cX6_alone 51 = .ok (.ixor, 1) := by decide +kernel
theorem dX6_alone_52 : decode cX6_alone 52 = .ok (.iand, 1) := by decide +kernel
theorem dX6_alone_53 : decode cX6_alone 53 = .ok (.istore_n 2, 1) := by decide +kernel
theorem dX6_alone_54 : decode cX6_alone 54 = .ok (.iinc 3 1, 3) := by decide +kernel
theorem dX6_alone_57 : decode cX6_alone 57 = .ok (.goto (-34), 3) := by decide +kernel
theorem dX6_alone_60 : decode cX6_alone 60 = .ok (.iload_n 2, 1) := by decide +kernel
theorem dX6_alone_61 : decode cX6_alone 61 = .ok (.ireturn, 1) := by decide +kernel
theorem dX6_reading_0 : decode cX6_reading 0 = .ok (.aload_n 0, 1) := by decide +kernel
theorem dX6_reading_1 : decode cX6_reading 1 = .ok (.iload_n 1, 1) := by decide +kernel
theorem dX6_reading_2 : decode cX6_reading 2 = .ok (.invokevirtual 85, 3) := by decide +kernel
theorem dX6_reading_5 : decode cX6_reading 5 = .ok (.ifCond .eq 16, 3) := by decide +kernel
theorem dX6_reading_8 : decode cX6_reading 8 = .ok (.iload_n 3, 1) := by decide +kernel
theorem dX6_reading_9 : decode cX6_reading 9 = .ok (.invokestatic 144, 3) := by decide +kernel
theorem dX6_reading_12 : decode cX6_reading 12 = .ok (.ifCond .ne 11, 3) := by decide +kernel
theorem dX6_reading_15 : decode cX6_reading 15 = .ok (.iload_n 3, 1) := by decide +kernel
theorem dX6_reading_16 : decode cX6_reading 16 = .ok (.bipush (-9), 2) := by decide +kernel
theorem dX6_reading_18 : decode cX6_reading 18 = .ok (.if_icmp .eq 5, 3) := by decide +kernel
theorem dX6_reading_21 : decode cX6_reading 21 = .ok (.iconst (-1), 1) := by decide +kernel
theorem dX6_reading_22 : decode cX6_reading 22 = .ok (.ireturn, 1) := by decide +kernel
theorem dX6_reading_23 : decode cX6_reading 23 = .ok (.iload_n 2, 1) := by decide +kernel
theorem dX6_reading_24 : decode cX6_reading 24 = .ok (.ifCond .lt 9, 3) := by decide +kernel
theorem dX6_reading_27 : decode cX6_reading 27 = .ok (.iload_n 2, 1) := by decide +kernel
theorem dX6_reading_28 : decode cX6_reading 28 = .ok (.bipush 8, 2) := by decide +kernel
theorem dX6_reading_30 : decode cX6_reading 30 = .ok (.if_icmp .lt 6, 3) := by decide +kernel
theorem dX6_reading_33 : decode cX6_reading 33 = .ok (.bipush (-2), 2) := by decide +kernel
theorem dX6_reading_35 : decode cX6_reading 35 = .ok (.ireturn, 1) := by decide +kernel
theorem dX6_reading_36 : decode cX6_reading 36 = .ok (.aload_n 0, 1) := by decide +kernel
theorem dX6_reading_37 : decode cX6_reading 37 = .ok (.getfield 41, 3) := by decide +kernel
theorem dX6_reading_40 : decode cX6_reading 40 = .ok (.getfield 187, 3) := by decide +kernel
theorem dX6_reading_43 : decode cX6_reading 43 = .ok (.iload_n 1, 1) := by decide +kernel
theorem dX6_reading_44 : decode cX6_reading 44 = .ok (.iload_n 2, 1) := by decide +kernel
theorem dX6_reading_45 : decode cX6_reading 45 = .ok (.iload_n 3, 1) := by decide +kernel
theorem dX6_reading_46 : decode cX6_reading 46 = .ok (.invokevirtual 122, 3) := by decide +kernel
theorem dX6_reading_49 : decode cX6_reading 49 = .ok (.ireturn, 1) := by decide +kernel
theorem dX6_back_0 : decode cX6_back 0 = .ok (.aload_n 0, 1) := by decide +kernel
theorem dX6_back_1 : decode cX6_back 1 = .ok (.getfield 41, 3) := by decide +kernel
theorem dX6_back_4 : decode cX6_back 4 = .ok (.getfield 187, 3) := by decide +kernel
theorem dX6_back_7 : decode cX6_back 7 = .ok (.iload_n 1, 1) := by decide +kernel
theorem dX6_back_8 : decode cX6_back 8 = .ok (.invokevirtual 131, 3) := by decide +kernel
theorem dX6_back_11 : decode cX6_back 11 = .ok (.ireturn, 1) := by decide +kernel
theorem dX6_louds_0 : decode cX6_louds 0 = .ok (.aload_n 0, 1) := by decide +kernel
theorem dX6_louds_1 : decode cX6_louds 1 = .ok (.iload_n 1, 1) := by decide +kernel
theorem dX6_louds_2 : decode cX6_louds 2 = .ok (.invokevirtual 100, 3) := by decide +kernel
theorem dX6_louds_5 : decode cX6_louds 5 = .ok (.ifCond .eq 21, 3) := by decide +kernel
theorem dX6_louds_8 : decode cX6_louds 8 = .ok (.aload_n 0, 1) := by decide +kernel
theorem dX6_louds_9 : decode cX6_louds 9 = .ok (.aload_n 0, 1) := by decide +kernel
theorem dX6_louds_10 : decode cX6_louds 10 = .ok (.getfield 41, 3) := by decide +kernel
theorem dX6_louds_13 : decode cX6_louds 13 = .ok (.getfield 106, 3) := by decide +kernel
theorem dX6_louds_16 : decode cX6_louds 16 = .ok (.iload_n 1, 1) := by decide +kernel
theorem dX6_louds_17 : decode cX6_louds 17 = .ok (.iconst 1, 1) := by decide +kernel
theorem dX6_louds_18 : decode cX6_louds 18 = .ok (.bipush 9, 2) := by decide +kernel
theorem dX6_louds_20 : decode cX6_louds 20 = .ok (.invokevirtual 190, 3) := by decide +kernel
theorem dX6_louds_23 : decode cX6_louds 23 = .ok (.goto 4, 3) := by decide +kernel
theorem dX6_louds_26 : decode cX6_louds 26 = .ok (.iconst (-1), 1) := by decide +kernel
theorem dX6_louds_27 : decode cX6_louds 27 = .ok (.ireturn, 1) := by decide +kernel
theorem dX6_words_0 : decode cX6_words 0 = .ok (.aload_n 0, 1) := by decide +kernel
theorem dX6_words_1 : decode cX6_words 1 = .ok (.iload_n 1, 1) := by decide +kernel
theorem dX6_words_2 : decode cX6_words 2 = .ok (.invokevirtual 100, 3) := by decide +kernel
theorem dX6_words_5 : decode cX6_words 5 = .ok (.ifCond .eq 21, 3) := by decide +kernel
theorem dX6_words_8 : decode cX6_words 8 = .ok (.aload_n 0, 1) := by decide +kernel
theorem dX6_words_9 : decode cX6_words 9 = .ok (.aload_n 0, 1) := by decide +kernel
theorem dX6_words_10 : decode cX6_words 10 = .ok (.getfield 41, 3) := by decide +kernel
theorem dX6_words_13 : decode cX6_words 13 = .ok (.getfield 109, 3) := by decide +kernel
theorem dX6_words_16 : decode cX6_words 16 = .ok (.iload_n 1, 1) := by decide +kernel
theorem dX6_words_17 : decode cX6_words 17 = .ok (.iconst 0, 1) := by decide +kernel
theorem dX6_words_18 : decode cX6_words 18 = .ok (.bipush 7, 2) := by decide +kernel
theorem dX6_words_20 : decode cX6_words 20 = .ok (.invokevirtual 190, 3) := by decide +kernel
theorem dX6_words_23 : decode cX6_words 23 = .ok (.goto 4, 3) := by decide +kernel
theorem dX6_words_26 : decode cX6_words 26 = .ok (.iconst (-1), 1) := by decide +kernel
theorem dX6_words_27 : decode cX6_words 27 = .ok (.ireturn, 1) := by decide +kernel
theorem dX6_kinds_0 : decode cX6_kinds 0 = .ok (.aload_n 0, 1) := by decide +kernel
theorem dX6_kinds_1 : decode cX6_kinds 1 = .ok (.iload_n 1, 1) := by decide +kernel
theorem dX6_kinds_2 : decode cX6_kinds 2 = .ok (.invokevirtual 85, 3) := by decide +kernel
theorem dX6_kinds_5 : decode cX6_kinds 5 = .ok (.ifCond .eq 20, 3) := by decide +kernel
theorem dX6_kinds_8 : decode cX6_kinds 8 = .ok (.aload_n 0, 1) := by decide +kernel
theorem dX6_kinds_9 : decode cX6_kinds 9 = .ok (.aload_n 0, 1) := by decide +kernel
theorem dX6_kinds_10 : decode cX6_kinds 10 = .ok (.getfield 41, 3) := by decide +kernel
theorem dX6_kinds_13 : decode cX6_kinds 13 = .ok (.getfield 88, 3) := by decide +kernel
theorem dX6_kinds_16 : decode cX6_kinds 16 = .ok (.iload_n 1, 1) := by decide +kernel
theorem dX6_kinds_17 : decode cX6_kinds 17 = .ok (.iconst 0, 1) := by decide +kernel
theorem dX6_kinds_18 : decode cX6_kinds 18 = .ok (.iconst 2, 1) := by decide +kernel
theorem dX6_kinds_19 : decode cX6_kinds 19 = .ok (.invokevirtual 190, 3) := by decide +kernel
theorem dX6_kinds_22 : decode cX6_kinds 22 = .ok (.goto 4, 3) := by decide +kernel
theorem dX6_kinds_25 : decode cX6_kinds 25 = .ok (.iconst (-1), 1) := by decide +kernel
theorem dX6_kinds_26 : decode cX6_kinds 26 = .ok (.ireturn, 1) := by decide +kernel
theorem dX6_lay_0 : decode cX6_lay 0 = .ok (.aload_n 0, 1) := by decide +kernel
theorem dX6_lay_1 : decode cX6_lay 1 = .ok (.iload_n 1, 1) := by decide +kernel
theorem dX6_lay_2 : decode cX6_lay 2 = .ok (.invokevirtual 85, 3) := by decide +kernel
theorem dX6_lay_5 : decode cX6_lay 5 = .ok (.ifCond .eq 28, 3) := by decide +kernel
theorem dX6_lay_8 : decode cX6_lay 8 = .ok (.aload_n 0, 1) := by decide +kernel
theorem dX6_lay_9 : decode cX6_lay 9 = .ok (.aload_n 0, 1) := by decide +kernel
theorem dX6_lay_10 : decode cX6_lay 10 = .ok (.getfield 41, 3) := by decide +kernel
theorem dX6_lay_13 : decode cX6_lay 13 = .ok (.getfield 91, 3) := by decide +kernel
theorem dX6_lay_16 : decode cX6_lay 16 = .ok (.iload_n 1, 1) := by decide +kernel
theorem dX6_lay_17 : decode cX6_lay 17 = .ok (.iconst 0, 1) := by decide +kernel
theorem dX6_lay_18 : decode cX6_lay 18 = .ok (.aload_n 0, 1) := by decide +kernel
theorem dX6_lay_19 : decode cX6_lay 19 = .ok (.getfield 41, 3) := by decide +kernel
theorem dX6_lay_22 : decode cX6_lay 22 = .ok (.getfield 112, 3) := by decide +kernel
theorem dX6_lay_25 : decode cX6_lay 25 = .ok (.iconst 1, 1) := by decide +kernel
theorem dX6_lay_26 : decode cX6_lay 26 = .ok (.isub, 1) := by decide +kernel
theorem dX6_lay_27 : decode cX6_lay 27 = .ok (.invokevirtual 190, 3) := by decide +kernel
theorem dX6_lay_30 : decode cX6_lay 30 = .ok (.goto 4, 3) := by decide +kernel
theorem dX6_lay_33 : decode cX6_lay 33 = .ok (.iconst (-1), 1) := by decide +kernel
theorem dX6_lay_34 : decode cX6_lay 34 = .ok (.ireturn, 1) := by decide +kernel
theorem dX6_fitting_0 : decode cX6_fitting 0 = .ok (.aload_n 1, 1) := by decide +kernel
theorem dX6_fitting_1 : decode cX6_fitting 1 = .ok (.iload_n 2, 1) := by decide +kernel
theorem dX6_fitting_2 : decode cX6_fitting 2 = .ok (.iaload, 1) := by decide +kernel
theorem dX6_fitting_3 : decode cX6_fitting 3 = .ok (.istore 5, 2) := by decide +kernel
theorem dX6_fitting_5 : decode cX6_fitting 5 = .ok (.iconst 0, 1) := by decide +kernel
theorem dX6_fitting_6 : decode cX6_fitting 6 = .ok (.istore 6, 2) := by decide +kernel
theorem dX6_fitting_8 : decode cX6_fitting 8 = .ok (.iload_n 3, 1) := by decide +kernel
theorem dX6_fitting_9 : decode cX6_fitting 9 = .ok (.istore 7, 2) := by decide +kernel
theorem dX6_fitting_11 : decode cX6_fitting 11 = .ok (.iload 7, 2) := by decide +kernel
theorem dX6_fitting_13 : decode cX6_fitting 13 = .ok (.iload 4, 2) := by decide +kernel
theorem dX6_fitting_15 : decode cX6_fitting 15 = .ok (.if_icmp .gt 33, 3) := by decide +kernel
theorem dX6_fitting_18 : decode cX6_fitting 18 = .ok (.aload_n 1, 1) := by decide +kernel
theorem dX6_fitting_19 : decode cX6_fitting 19 = .ok (.iload_n 2, 1) := by decide +kernel
theorem dX6_fitting_20 : decode cX6_fitting 20 = .ok (.iload 7, 2) := by decide +kernel
theorem dX6_fitting_22 : decode cX6_fitting 22 = .ok (.iastore, 1) := by decide +kernel
theorem dX6_fitting_23 : decode cX6_fitting 23 = .ok (.aload_n 0, 1) := by decide +kernel
theorem dX6_fitting_24 : decode cX6_fitting 24 = .ok (.getfield 41, 3) := by decide +kernel
theorem dX6_fitting_27 : decode cX6_fitting 27 = .ok (.invokevirtual 193, 3) := by decide +kernel
theorem dX6_fitting_30 : decode cX6_fitting 30 = .ok (.ifCond .eq 12, 3) := by decide +kernel
theorem dX6_fitting_33 : decode cX6_fitting 33 = .ok (.iload 6, 2) := by decide +kernel
theorem dX6_fitting_35 : decode cX6_fitting 35 = .ok (.iconst 1, 1) := by decide +kernel
theorem dX6_fitting_36 : decode cX6_fitting 36 = .ok (.iload 7, 2) := by decide +kernel
theorem dX6_fitting_38 : decode cX6_fitting 38 = .ok (.ishl, 1) := by decide +kernel
theorem dX6_fitting_39 : decode cX6_fitting 39 = .ok (.ior, 1) := by decide +kernel
theorem dX6_fitting_40 : decode cX6_fitting 40 = .ok (.istore 6, 2) := by decide +kernel
theorem dX6_fitting_42 : decode cX6_fitting 42 = .ok (.iinc 7 1, 3) := by decide +kernel
theorem dX6_fitting_45 : decode cX6_fitting 45 = .ok (.goto (-34), 3) := by decide +kernel
theorem dX6_fitting_48 : decode cX6_fitting 48 = .ok (.aload_n 1, 1) := by decide +kernel
theorem dX6_fitting_49 : decode cX6_fitting 49 = .ok (.iload_n 2, 1) := by decide +kernel
theorem dX6_fitting_50 : decode cX6_fitting 50 = .ok (.iload 5, 2) := by decide +kernel
theorem dX6_fitting_52 : decode cX6_fitting 52 = .ok (.iastore, 1) := by decide +kernel
theorem dX6_fitting_53 : decode cX6_fitting 53 = .ok (.iload 6, 2) := by decide +kernel
theorem dX6_fitting_55 : decode cX6_fitting 55 = .ok (.ireturn, 1) := by decide +kernel
theorem dX6_odds_0 : decode cX6_odds 0 = .ok (.aload_n 0, 1) := by decide +kernel
theorem dX6_odds_1 : decode cX6_odds 1 = .ok (.iload_n 1, 1) := by decide +kernel
theorem dX6_odds_2 : decode cX6_odds 2 = .ok (.invokevirtual 85, 3) := by decide +kernel
theorem dX6_odds_5 : decode cX6_odds 5 = .ok (.ifCond .eq 19, 3) := by decide +kernel
theorem dX6_odds_8 : decode cX6_odds 8 = .ok (.iload_n 2, 1) := by decide +kernel
theorem dX6_odds_9 : decode cX6_odds 9 = .ok (.invokestatic 144, 3) := by decide +kernel
theorem dX6_odds_12 : decode cX6_odds 12 = .ok (.ifCond .eq 12, 3) := by decide +kernel
theorem dX6_odds_15 : decode cX6_odds 15 = .ok (.iload_n 3, 1) := by decide +kernel
theorem dX6_odds_16 : decode cX6_odds 16 = .ok (.ifCond .lt 8, 3) := by decide +kernel
theorem dX6_odds_19 : decode cX6_odds 19 = .ok (.iload_n 3, 1) := by decide +kernel
theorem dX6_odds_20 : decode cX6_odds 20 = .ok (.iconst 1, 1) := by decide +kernel
theorem dX6_odds_21 : decode cX6_odds 21 = .ok (.if_icmp .le 7, 3) := by decide +kernel
theorem dX6_odds_24 : decode cX6_odds 24 = .ok (.ldc2_w 196, 3) := by decide +kernel
theorem dX6_odds_27 : decode cX6_odds 27 = .ok (.lreturn, 1) := by decide +kernel
theorem dX6_odds_28 : decode cX6_odds 28 = .ok (.aload_n 0, 1) := by decide +kernel
theorem dX6_odds_29 : decode cX6_odds 29 = .ok (.getfield 34, 3) := by decide +kernel
theorem dX6_odds_32 : decode cX6_odds 32 = .ok (.aload_n 0, 1) := by decide +kernel
theorem dX6_odds_33 : decode cX6_odds 33 = .ok (.getfield 41, 3) := by decide +kernel
theorem dX6_odds_36 : decode cX6_odds 36 = .ok (.iload_n 1, 1) := by decide +kernel
theorem dX6_odds_37 : decode cX6_odds 37 = .ok (.iload_n 2, 1) := by decide +kernel
theorem dX6_odds_38 : decode cX6_odds 38 = .ok (.invokevirtual 198, 3) := by decide +kernel
theorem dX6_odds_41 : decode cX6_odds 41 = .ok (.iload_n 3, 1) := by decide +kernel
theorem dX6_odds_42 : decode cX6_odds 42 = .ok (.ifCond .ne 14, 3) := by decide +kernel
theorem dX6_odds_45 : decode cX6_odds 45 = .ok (.aload_n 0, 1) := by decide +kernel
theorem dX6_odds_46 : decode cX6_odds 46 = .ok (.getfield 34, 3) := by decide +kernel
theorem dX6_odds_49 : decode cX6_odds 49 = .ok (.getfield 201, 3) := by decide +kernel
theorem dX6_odds_52 : decode cX6_odds 52 = .ok (.i2l, 1) := by decide +kernel
theorem dX6_odds_53 : decode cX6_odds 53 = .ok (.goto 11, 3) := by decide +kernel
theorem dX6_odds_56 : decode cX6_odds 56 = .ok (.aload_n 0, 1) := by decide +kernel
theorem dX6_odds_57 : decode cX6_odds 57 = .ok (.getfield 34, 3) := by decide +kernel
theorem dX6_odds_60 : decode cX6_odds 60 = .ok (.getfield 204, 3) := by decide +kernel
theorem dX6_odds_63 : decode cX6_odds 63 = .ok (.i2l, 1) := by decide +kernel
theorem dX6_odds_64 : decode cX6_odds 64 = .ok (.lreturn, 1) := by decide +kernel
theorem dX6_sheet_0 : decode cX6_sheet 0 = .ok (.aload_n 0, 1) := by decide +kernel
theorem dX6_sheet_1 : decode cX6_sheet 1 = .ok (.iconst 0, 1) := by decide +kernel
theorem dX6_sheet_2 : decode cX6_sheet 2 = .ok (.putfield 52, 3) := by decide +kernel
theorem dX6_sheet_5 : decode cX6_sheet 5 = .ok (.iload_n 1, 1) := by decide +kernel
theorem dX6_sheet_6 : decode cX6_sheet 6 = .ok (.invokestatic 56, 3) := by decide +kernel
theorem dX6_sheet_9 : decode cX6_sheet 9 = .ok (.ifCond .ne 5, 3) := by decide +kernel
theorem dX6_sheet_12 : decode cX6_sheet 12 = .ok (.iconst (-1), 1) := by decide +kernel
theorem dX6_sheet_13 : decode cX6_sheet 13 = .ok (.ireturn, 1) := by decide +kernel
theorem dX6_sheet_14 : decode cX6_sheet 14 = .ok (.iload_n 2, 1) := by decide +kernel
theorem dX6_sheet_15 : decode cX6_sheet 15 = .ok (.invokestatic 60, 3) := by decide +kernel
theorem dX6_sheet_18 : decode cX6_sheet 18 = .ok (.ifCond .eq 9, 3) := by decide +kernel
theorem dX6_sheet_21 : decode cX6_sheet 21 = .ok (.iload_n 3, 1) := by decide +kernel
theorem dX6_sheet_22 : decode cX6_sheet 22 = .ok (.bipush 60, 2) := by decide +kernel
theorem dX6_sheet_24 : decode cX6_sheet 24 = .ok (.if_icmp .le 6, 3) := by decide +kernel
theorem dX6_sheet_27 : decode cX6_sheet 27 = .ok (.bipush (-2), 2) := by decide +kernel
theorem dX6_sheet_29 : decode cX6_sheet 29 = .ok (.ireturn, 1) := by decide +kernel
theorem dX6_sheet_30 : decode cX6_sheet 30 = .ok (.iload_n 3, 1) := by decide +kernel
theorem dX6_sheet_31 : decode cX6_sheet 31 = .ok (.ifCond .ge 9, 3) := by decide +kernel
theorem dX6_sheet_34 : decode cX6_sheet 34 = .ok (.aload_n 0, 1) := by decide +kernel
theorem dX6_sheet_35 : decode cX6_sheet 35 = .ok (.iconst 4, 1) := by decide +kernel
theorem dX6_sheet_36 : decode cX6_sheet 36 = .ok (.invokevirtual 71, 3) := by decide +kernel
theorem dX6_sheet_39 : decode cX6_sheet 39 = .ok (.ireturn, 1) := by decide +kernel
theorem dX6_sheet_40 : decode cX6_sheet 40 = .ok (.aload_n 0, 1) := by decide +kernel
theorem dX6_sheet_41 : decode cX6_sheet 41 = .ok (.getfield 13, 3) := by decide +kernel
theorem dX6_sheet_44 : decode cX6_sheet 44 = .ok (.iload_n 1, 1) := by decide +kernel
theorem dX6_sheet_45 : decode cX6_sheet 45 = .ok (.aaload, 1) := by decide +kernel
theorem dX6_sheet_46 : decode cX6_sheet 46 = .ok (.iload_n 2, 1) := by decide +kernel
theorem dX6_sheet_47 : decode cX6_sheet 47 = .ok (.iload_n 3, 1) := by decide +kernel
theorem dX6_sheet_48 : decode cX6_sheet 48 = .ok (.invokevirtual 207, 3) := by decide +kernel
theorem dX6_sheet_51 : decode cX6_sheet 51 = .ok (.iconst 1, 1) := by decide +kernel
theorem dX6_sheet_52 : decode cX6_sheet 52 = .ok (.ireturn, 1) := by decide +kernel
theorem dX6_lose_0 : decode cX6_lose 0 = .ok (.iload_n 1, 1) := by decide +kernel
theorem dX6_lose_1 : decode cX6_lose 1 = .ok (.invokestatic 56, 3) := by decide +kernel
theorem dX6_lose_4 : decode cX6_lose 4 = .ok (.ifCond .ne 5, 3) := by decide +kernel
theorem dX6_lose_7 : decode cX6_lose 7 = .ok (.iconst (-1), 1) := by decide +kernel
theorem dX6_lose_8 : decode cX6_lose 8 = .ok (.ireturn, 1) := by decide +kernel
theorem dX6_lose_9 : decode cX6_lose 9 = .ok (.aload_n 0, 1) := by decide +kernel
theorem dX6_lose_10 : decode cX6_lose 10 = .ok (.getfield 13, 3) := by decide +kernel
theorem dX6_lose_13 : decode cX6_lose 13 = .ok (.iload_n 1, 1) := by decide +kernel
theorem dX6_lose_14 : decode cX6_lose 14 = .ok (.aaload, 1) := by decide +kernel
theorem dX6_lose_15 : decode cX6_lose 15 = .ok (.invokevirtual 211, 3) := by decide +kernel
theorem dX6_lose_18 : decode cX6_lose 18 = .ok (.ifCond .eq 7, 3) := by decide +kernel
theorem dX6_lose_21 : decode cX6_lose 21 = .ok (.iconst 1, 1) := by decide +kernel
theorem dX6_lose_22 : decode cX6_lose 22 = .ok (.goto 4, 3) := by decide +kernel
theorem dX6_lose_25 : decode cX6_lose 25 = .ok (.iconst 0, 1) := by decide +kernel
theorem dX6_lose_26 : decode cX6_lose 26 = .ok (.ireturn, 1) := by decide +kernel
theorem dX6_put_0 : decode cX6_put 0 = .ok (.aload_n 0, 1) := by decide +kernel
theorem dX6_put_1 : decode cX6_put 1 = .ok (.iconst 0, 1) := by decide +kernel
theorem dX6_put_2 : decode cX6_put 2 = .ok (.putfield 52, 3) := by decide +kernel
theorem dX6_put_5 : decode cX6_put 5 = .ok (.iload_n 1, 1) := by decide +kernel
theorem dX6_put_6 : decode cX6_put 6 = .ok (.invokestatic 56, 3) := by decide +kernel
theorem dX6_put_9 : decode cX6_put 9 = .ok (.ifCond .ne 5, 3) := by decide +kernel
theorem dX6_put_12 : decode cX6_put 12 = .ok (.iconst (-1), 1) := by decide +kernel
theorem dX6_put_13 : decode cX6_put 13 = .ok (.ireturn, 1) := by decide +kernel
theorem dX6_put_14 : decode cX6_put 14 = .ok (.aload_n 0, 1) := by decide +kernel
theorem dX6_put_15 : decode cX6_put 15 = .ok (.getfield 13, 3) := by decide +kernel
theorem dX6_put_18 : decode cX6_put 18 = .ok (.iload_n 1, 1) := by decide +kernel
theorem dX6_put_19 : decode cX6_put 19 = .ok (.aaload, 1) := by decide +kernel
theorem dX6_put_20 : decode cX6_put 20 = .ok (.astore 4, 2) := by decide +kernel
theorem dX6_put_22 : decode cX6_put 22 = .ok (.aload 4, 2) := by decide +kernel
theorem dX6_put_24 : decode cX6_put 24 = .ok (.invokevirtual 214, 3) := by decide +kernel
theorem dX6_put_27 : decode cX6_put 27 = .ok (.ifCond .eq 9, 3) := by decide +kernel
theorem dX6_put_30 : decode cX6_put 30 = .ok (.aload_n 0, 1) := by decide +kernel
theorem dX6_put_31 : decode cX6_put 31 = .ok (.iconst 1, 1) := by decide +kernel
theorem dX6_put_32 : decode cX6_put 32 = .ok (.invokevirtual 71, 3) := by decide +kernel
theorem dX6_put_35 : decode cX6_put 35 = .ok (.ireturn, 1) := by decide +kernel
theorem dX6_put_36 : decode cX6_put 36 = .ok (.aload 4, 2) := by decide +kernel
theorem dX6_put_38 : decode cX6_put 38 = .ok (.iload_n 2, 1) := by decide +kernel
theorem dX6_put_39 : decode cX6_put 39 = .ok (.iconst 1, 1) := by decide +kernel
theorem dX6_put_40 : decode cX6_put 40 = .ok (.invokevirtual 67, 3) := by decide +kernel
theorem dX6_put_43 : decode cX6_put 43 = .ok (.ifCond .ne 9, 3) := by decide +kernel
theorem dX6_put_46 : decode cX6_put 46 = .ok (.aload_n 0, 1) := by decide +kernel
theorem dX6_put_47 : decode cX6_put 47 = .ok (.iconst 3, 1) := by decide +kernel
theorem dX6_put_48 : decode cX6_put 48 = .ok (.invokevirtual 71, 3) := by decide +kernel
theorem dX6_put_51 : decode cX6_put 51 = .ok (.ireturn, 1) := by decide +kernel
theorem dX6_put_52 : decode cX6_put 52 = .ok (.aload 4, 2) := by decide +kernel
theorem dX6_put_54 : decode cX6_put 54 = .ok (.getfield 74, 3) := by decide +kernel
theorem dX6_put_57 : decode cX6_put 57 = .ok (.iload_n 2, 1) := by decide +kernel
theorem dX6_put_58 : decode cX6_put 58 = .ok (.aload 4, 2) := by decide +kernel
theorem dX6_put_60 : decode cX6_put 60 = .ok (.iload_n 3, 1) := by decide +kernel
theorem dX6_put_61 : decode cX6_put 61 = .ok (.invokevirtual 217, 3) := by decide +kernel
theorem dX6_put_64 : decode cX6_put 64 = .ok (.iastore, 1) := by decide +kernel
theorem dX6_put_65 : decode cX6_put 65 = .ok (.iconst 1, 1) := by decide +kernel
theorem dX6_put_66 : decode cX6_put 66 = .ok (.ireturn, 1) := by decide +kernel
theorem dX6_cell_0 : decode cX6_cell 0 = .ok (.aload_n 0, 1) := by decide +kernel
theorem dX6_cell_1 : decode cX6_cell 1 = .ok (.iconst 0, 1) := by decide +kernel
theorem dX6_cell_2 : decode cX6_cell 2 = .ok (.putfield 52, 3) := by decide +kernel
theorem dX6_cell_5 : decode cX6_cell 5 = .ok (.iload_n 1, 1) := by decide +kernel
theorem dX6_cell_6 : decode cX6_cell 6 = .ok (.invokestatic 56, 3) := by decide +kernel
theorem dX6_cell_9 : decode cX6_cell 9 = .ok (.ifCond .eq 10, 3) := by decide +kernel
theorem dX6_cell_12 : decode cX6_cell 12 = .ok (.iload_n 3, 1) := by decide +kernel
theorem dX6_cell_13 : decode cX6_cell 13 = .ok (.invokestatic 60, 3) := by decide +kernel
theorem dX6_cell_16 : decode cX6_cell 16 = .ok (.ifCond .ne 7, 3) := by decide +kernel
theorem dX6_cell_19 : decode cX6_cell 19 = .ok (.ldc2_w 196, 3) := by decide +kernel
theorem dX6_cell_22 : decode cX6_cell 22 = .ok (.lreturn, 1) := by decide +kernel
theorem dX6_cell_23 : decode cX6_cell 23 = .ok (.aload_n 0, 1) := by decide +kernel
theorem dX6_cell_24 : decode cX6_cell 24 = .ok (.getfield 13, 3) := by decide +kernel
theorem dX6_cell_27 : decode cX6_cell 27 = .ok (.iload_n 1, 1) := by decide +kernel
theorem dX6_cell_28 : decode cX6_cell 28 = .ok (.aaload, 1) := by decide +kernel
theorem dX6_cell_29 : decode cX6_cell 29 = .ok (.astore 4, 2) := by decide +kernel
theorem dX6_cell_31 : decode cX6_cell 31 = .ok (.aload_n 0, 1) := by decide +kernel
theorem dX6_cell_32 : decode cX6_cell 32 = .ok (.aload 4, 2) := by decide +kernel
theorem dX6_cell_34 : decode cX6_cell 34 = .ok (.iload_n 3, 1) := by decide +kernel
theorem dX6_cell_35 : decode cX6_cell 35 = .ok (.invokevirtual 63, 3) := by decide +kernel
theorem dX6_cell_38 : decode cX6_cell 38 = .ok (.putfield 52, 3) := by decide +kernel
theorem dX6_cell_41 : decode cX6_cell 41 = .ok (.aload_n 0, 1) := by decide +kernel
theorem dX6_cell_42 : decode cX6_cell 42 = .ok (.getfield 52, 3) := by decide +kernel
theorem dX6_cell_45 : decode cX6_cell 45 = .ok (.ifCond .ne 18, 3) := by decide +kernel
theorem dX6_cell_48 : decode cX6_cell 48 = .ok (.aload 4, 2) := by decide +kernel
theorem dX6_cell_50 : decode cX6_cell 50 = .ok (.iload_n 2, 1) := by decide +kernel
theorem dX6_cell_51 : decode cX6_cell 51 = .ok (.iconst 1, 1) := by decide +kernel
theorem dX6_cell_52 : decode cX6_cell 52 = .ok (.invokevirtual 67, 3) := by decide +kernel
theorem dX6_cell_55 : decode cX6_cell 55 = .ok (.ifCond .ne 8, 3) := by decide +kernel
theorem dX6_cell_58 : decode cX6_cell 58 = .ok (.aload_n 0, 1) := by decide +kernel
theorem dX6_cell_59 : decode cX6_cell 59 = .ok (.iconst 3, 1) := by decide +kernel
theorem dX6_cell_60 : decode cX6_cell 60 = .ok (.putfield 52, 3) := by decide +kernel
theorem dX6_cell_63 : decode cX6_cell 63 = .ok (.aload_n 0, 1) := by decide +kernel
theorem dX6_cell_64 : decode cX6_cell 64 = .ok (.getfield 52, 3) := by decide +kernel
theorem dX6_cell_67 : decode cX6_cell 67 = .ok (.ifCond .ne 14, 3) := by decide +kernel
theorem dX6_cell_70 : decode cX6_cell 70 = .ok (.aload 4, 2) := by decide +kernel
theorem dX6_cell_72 : decode cX6_cell 72 = .ok (.getfield 74, 3) := by decide +kernel
theorem dX6_cell_75 : decode cX6_cell 75 = .ok (.iload_n 2, 1) := by decide +kernel
theorem dX6_cell_76 : decode cX6_cell 76 = .ok (.iaload, 1) := by decide +kernel
theorem dX6_cell_77 : decode cX6_cell 77 = .ok (.i2l, 1) := by decide +kernel
theorem dX6_cell_78 : decode cX6_cell 78 = .ok (.goto 6, 3) := by decide +kernel
theorem dX6_cell_81 : decode cX6_cell 81 = .ok (.ldc2_w 196, 3) := by decide +kernel
theorem dX6_cell_84 : decode cX6_cell 84 = .ok (.lreturn, 1) := by decide +kernel
theorem dX6_copy_0 : decode cX6_copy 0 = .ok (.aload_n 0, 1) := by decide +kernel
theorem dX6_copy_1 : decode cX6_copy 1 = .ok (.iconst 0, 1) := by decide +kernel
theorem dX6_copy_2 : decode cX6_copy 2 = .ok (.putfield 52, 3) := by decide +kernel
theorem dX6_copy_5 : decode cX6_copy 5 = .ok (.iload_n 1, 1) := by decide +kernel
theorem dX6_copy_6 : decode cX6_copy 6 = .ok (.invokestatic 56, 3) := by decide +kernel
theorem dX6_copy_9 : decode cX6_copy 9 = .ok (.ifCond .eq 10, 3) := by decide +kernel
theorem dX6_copy_12 : decode cX6_copy 12 = .ok (.iload_n 3, 1) := by decide +kernel
theorem dX6_copy_13 : decode cX6_copy 13 = .ok (.invokestatic 56, 3) := by decide +kernel
theorem dX6_copy_16 : decode cX6_copy 16 = .ok (.ifCond .ne 5, 3) := by decide +kernel
theorem dX6_copy_19 : decode cX6_copy 19 = .ok (.iconst (-1), 1) := by decide +kernel
theorem dX6_copy_20 : decode cX6_copy 20 = .ok (.ireturn, 1) := by decide +kernel
theorem dX6_copy_21 : decode cX6_copy 21 = .ok (.aload_n 0, 1) := by decide +kernel
theorem dX6_copy_22 : decode cX6_copy 22 = .ok (.getfield 13, 3) := by decide +kernel
theorem dX6_copy_25 : decode cX6_copy 25 = .ok (.iload_n 1, 1) := by decide +kernel
theorem dX6_copy_26 : decode cX6_copy 26 = .ok (.aaload, 1) := by decide +kernel
theorem dX6_copy_27 : decode cX6_copy 27 = .ok (.astore 6, 2) := by decide +kernel
theorem dX6_copy_29 : decode cX6_copy 29 = .ok (.aload_n 0, 1) := by decide +kernel
theorem dX6_copy_30 : decode cX6_copy 30 = .ok (.getfield 13, 3) := by decide +kernel
theorem dX6_copy_33 : decode cX6_copy 33 = .ok (.iload_n 3, 1) := by decide +kernel
theorem dX6_copy_34 : decode cX6_copy 34 = .ok (.aaload, 1) := by decide +kernel
theorem dX6_copy_35 : decode cX6_copy 35 = .ok (.astore 7, 2) := by decide +kernel
theorem dX6_copy_37 : decode cX6_copy 37 = .ok (.aload 6, 2) := by decide +kernel
theorem dX6_copy_39 : decode cX6_copy 39 = .ok (.invokevirtual 214, 3) := by decide +kernel
theorem dX6_copy_42 : decode cX6_copy 42 = .ok (.ifCond .ne 11, 3) := by decide +kernel
theorem dX6_copy_45 : decode cX6_copy 45 = .ok (.aload 7, 2) := by decide +kernel
theorem dX6_copy_47 : decode cX6_copy 47 = .ok (.invokevirtual 214, 3) := by decide +kernel
theorem dX6_copy_50 : decode cX6_copy 50 = .ok (.ifCond .eq 9, 3) := by decide +kernel
theorem dX6_copy_53 : decode cX6_copy 53 = .ok (.aload_n 0, 1) := by decide +kernel
theorem dX6_copy_54 : decode cX6_copy 54 = .ok (.iconst 1, 1) := by decide +kernel
theorem dX6_copy_55 : decode cX6_copy 55 = .ok (.invokevirtual 71, 3) := by decide +kernel
theorem dX6_copy_58 : decode cX6_copy 58 = .ok (.ireturn, 1) := by decide +kernel
theorem dX6_copy_59 : decode cX6_copy 59 = .ok (.aload 6, 2) := by decide +kernel
theorem dX6_copy_61 : decode cX6_copy 61 = .ok (.getfield 220, 3) := by decide +kernel
theorem dX6_copy_64 : decode cX6_copy 64 = .ok (.aload 7, 2) := by decide +kernel
theorem dX6_copy_66 : decode cX6_copy 66 = .ok (.getfield 220, 3) := by decide +kernel
theorem dX6_copy_69 : decode cX6_copy 69 = .ok (.if_icmp .eq 9, 3) := by decide +kernel
theorem dX6_copy_72 : decode cX6_copy 72 = .ok (.aload_n 0, 1) := by decide +kernel
theorem dX6_copy_73 : decode cX6_copy 73 = .ok (.iconst 2, 1) := by decide +kernel
theorem dX6_copy_74 : decode cX6_copy 74 = .ok (.invokevirtual 71, 3) := by decide +kernel
theorem dX6_copy_77 : decode cX6_copy 77 = .ok (.ireturn, 1) := by decide +kernel
theorem dX6_copy_78 : decode cX6_copy 78 = .ok (.aload 6, 2) := by decide +kernel
theorem dX6_copy_80 : decode cX6_copy 80 = .ok (.iload_n 2, 1) := by decide +kernel
theorem dX6_copy_81 : decode cX6_copy 81 = .ok (.iload 5, 2) := by decide +kernel
theorem dX6_copy_83 : decode cX6_copy 83 = .ok (.invokevirtual 67, 3) := by decide +kernel
theorem dX6_copy_86 : decode cX6_copy 86 = .ok (.ifCond .eq 15, 3) := by decide +kernel
theorem dX6_copy_89 : decode cX6_copy 89 = .ok (.aload 7, 2) := by decide +kernel
theorem dX6_copy_91 : decode cX6_copy 91 = .ok (.iload 4, 2) := by decide +kernel
theorem dX6_copy_93 : decode cX6_copy 93 = .ok (.iload 5, 2) := by decide +kernel
theorem dX6_copy_95 : decode cX6_copy 95 = .ok (.invokevirtual 67, 3) := by decide +kernel
theorem dX6_copy_98 : decode cX6_copy 98 = .ok (.ifCond .ne 9, 3) := by decide +kernel
theorem dX6_copy_101 : decode cX6_copy 101 = .ok (.aload_n 0, 1) := by decide +kernel
theorem dX6_copy_102 : decode cX6_copy 102 = .ok (.iconst 3, 1) := by decide +kernel
theorem dX6_copy_103 : decode cX6_copy 103 = .ok (.invokevirtual 71, 3) := by decide +kernel
theorem dX6_copy_106 : decode cX6_copy 106 = .ok (.ireturn, 1) := by decide +kernel
theorem dX6_copy_107 : decode cX6_copy 107 = .ok (.aload 6, 2) := by decide +kernel
theorem dX6_copy_109 : decode cX6_copy 109 = .ok (.getfield 74, 3) := by decide +kernel
theorem dX6_copy_112 : decode cX6_copy 112 = .ok (.iload_n 2, 1) := by decide +kernel
theorem dX6_copy_113 : decode cX6_copy 113 = .ok (.aload 7, 2) := by decide +kernel
theorem dX6_copy_115 : decode cX6_copy 115 = .ok (.getfield 74, 3) := by decide +kernel
theorem dX6_copy_118 : decode cX6_copy 118 = .ok (.iload 4, 2) := by decide +kernel
theorem dX6_copy_120 : decode cX6_copy 120 = .ok (.iload 5, 2) := by decide +kernel
theorem dX6_copy_122 : decode cX6_copy 122 = .ok (.invokestatic 223, 3) := by decide +kernel
theorem dX6_copy_125 : decode cX6_copy 125 = .ok (.iload 5, 2) := by decide +kernel
theorem dX6_copy_127 : decode cX6_copy 127 = .ok (.ireturn, 1) := by decide +kernel
theorem dX6_tell_0 : decode cX6_tell 0 = .ok (.aload_n 0, 1) := by decide +kernel
theorem dX6_tell_1 : decode cX6_tell 1 = .ok (.iload_n 1, 1) := by decide +kernel
theorem dX6_tell_2 : decode cX6_tell 2 = .ok (.invokevirtual 85, 3) := by decide +kernel
theorem dX6_tell_5 : decode cX6_tell 5 = .ok (.ifCond .ne 5, 3) := by decide +kernel
theorem dX6_tell_8 : decode cX6_tell 8 = .ok (.iconst (-1), 1) := by decide +kernel
theorem dX6_tell_9 : decode cX6_tell 9 = .ok (.ireturn, 1) := by decide +kernel
theorem dX6_tell_10 : decode cX6_tell 10 = .ok (.aload_n 0, 1) := by decide +kernel
theorem dX6_tell_11 : decode cX6_tell 11 = .ok (.getfield 41, 3) := by decide +kernel
theorem dX6_tell_14 : decode cX6_tell 14 = .ok (.getfield 94, 3) := by decide +kernel
theorem dX6_tell_17 : decode cX6_tell 17 = .ok (.iload_n 1, 1) := by decide +kernel
theorem dX6_tell_18 : decode cX6_tell 18 = .ok (.iaload, 1) := by decide +kernel
theorem dX6_tell_19 : decode cX6_tell 19 = .ok (.istore_n 2, 1) := by decide +kernel
theorem dX6_tell_20 : decode cX6_tell 20 = .ok (.aload_n 0, 1) := by decide +kernel
theorem dX6_tell_21 : decode cX6_tell 21 = .ok (.getfield 41, 3) := by decide +kernel
theorem dX6_tell_24 : decode cX6_tell 24 = .ok (.getfield 88, 3) := by decide +kernel
theorem dX6_tell_27 : decode cX6_tell 27 = .ok (.iload_n 1, 1) := by decide +kernel
theorem dX6_tell_28 : decode cX6_tell 28 = .ok (.iaload, 1) := by decide +kernel
theorem dX6_tell_29 : decode cX6_tell 29 = .ok (.lookupswitch 39 #[(1, 33), (2, 27)], 27) := by decide +kernel
theorem dX6_tell_56 : decode cX6_tell 56 = .ok (.aload_n 0, 1) := by decide +kernel
theorem dX6_tell_57 : decode cX6_tell 57 = .ok (.iload_n 2, 1) := by decide +kernel
theorem dX6_tell_58 : decode cX6_tell 58 = .ok (.invokevirtual 229, 3) := by decide +kernel
theorem dX6_tell_61 : decode cX6_tell 61 = .ok (.ireturn, 1) := by decide +kernel
theorem dX6_tell_62 : decode cX6_tell 62 = .ok (.aload_n 0, 1) := by decide +kernel
theorem dX6_tell_63 : decode cX6_tell 63 = .ok (.iload_n 2, 1) := by decide +kernel
theorem dX6_tell_64 : decode cX6_tell 64 = .ok (.invokevirtual 232, 3) := by decide +kernel
theorem dX6_tell_67 : decode cX6_tell 67 = .ok (.ireturn, 1) := by decide +kernel
theorem dX6_tell_68 : decode cX6_tell 68 = .ok (.aload_n 0, 1) := by decide +kernel
theorem dX6_tell_69 : decode cX6_tell 69 = .ok (.iload_n 2, 1) := by decide +kernel
theorem dX6_tell_70 : decode cX6_tell 70 = .ok (.invokevirtual 235, 3) := by decide +kernel
theorem dX6_tell_73 : decode cX6_tell 73 = .ok (.ireturn, 1) := by decide +kernel
theorem dX6_plainTells_0 : decode cX6_plainTells 0 = .ok (.aload_n 0, 1) := by decide +kernel
theorem dX6_plainTells_1 : decode cX6_plainTells 1 = .ok (.iconst 1, 1) := by decide +kernel
theorem dX6_plainTells_2 : decode cX6_plainTells 2 = .ok (.invokevirtual 238, 3) := by decide +kernel
theorem dX6_plainTells_5 : decode cX6_plainTells 5 = .ok (.iload_n 1, 1) := by decide +kernel
theorem dX6_plainTells_6 : decode cX6_plainTells 6 = .ok (.ireturn, 1) := by decide +kernel
theorem dX6_waxedTells_0 : decode cX6_waxedTells 0 = .ok (.aload_n 0, 1) := by decide +kernel
theorem dX6_waxedTells_1 : decode cX6_waxedTells 1 = .ok (.iconst 2, 1) := by decide +kernel
theorem dX6_waxedTells_2 : decode cX6_waxedTells 2 = .ok (.invokevirtual 238, 3) := by decide +kernel
theorem dX6_waxedTells_5 : decode cX6_waxedTells 5 = .ok (.aload_n 0, 1) := by decide +kernel
theorem dX6_waxedTells_6 : decode cX6_waxedTells 6 = .ok (.iload_n 1, 1) := by decide +kernel
theorem dX6_waxedTells_7 : decode cX6_waxedTells 7 = .ok (.invokevirtual 235, 3) := by decide +kernel
theorem dX6_waxedTells_10 : decode cX6_waxedTells 10 = .ok (.bipush 100, 2) := by decide +kernel
theorem dX6_waxedTells_12 : decode cX6_waxedTells 12 = .ok (.iadd, 1) := by decide +kernel
theorem dX6_waxedTells_13 : decode cX6_waxedTells 13 = .ok (.ireturn, 1) := by decide +kernel
theorem dX6_mitedTells_0 : decode cX6_mitedTells 0 = .ok (.aload_n 0, 1) := by decide +kernel
theorem dX6_mitedTells_1 : decode cX6_mitedTells 1 = .ok (.iconst 3, 1) := by decide +kernel
theorem dX6_mitedTells_2 : decode cX6_mitedTells 2 = .ok (.invokevirtual 238, 3) := by decide +kernel
theorem dX6_mitedTells_5 : decode cX6_mitedTells 5 = .ok (.aload_n 0, 1) := by decide +kernel
theorem dX6_mitedTells_6 : decode cX6_mitedTells 6 = .ok (.iload_n 1, 1) := by decide +kernel
theorem dX6_mitedTells_7 : decode cX6_mitedTells 7 = .ok (.invokevirtual 232, 3) := by decide +kernel
theorem dX6_mitedTells_10 : decode cX6_mitedTells 10 = .ok (.istore_n 2, 1) := by decide +kernel
theorem dX6_mitedTells_11 : decode cX6_mitedTells 11 = .ok (.iload_n 2, 1) := by decide +kernel
theorem dX6_mitedTells_12 : decode cX6_mitedTells 12 = .ok (.aload_n 0, 1) := by decide +kernel
theorem dX6_mitedTells_13 : decode cX6_mitedTells 13 = .ok (.iload_n 1, 1) := by decide +kernel
theorem dX6_mitedTells_14 : decode cX6_mitedTells 14 = .ok (.invokevirtual 235, 3) := by decide +kernel
theorem dX6_mitedTells_17 : decode cX6_mitedTells 17 = .ok (.iadd, 1) := by decide +kernel
theorem dX6_mitedTells_18 : decode cX6_mitedTells 18 = .ok (.ireturn, 1) := by decide +kernel
theorem dX6_tap_0 : decode cX6_tap 0 = .ok (.aload_n 0, 1) := by decide +kernel
theorem dX6_tap_1 : decode cX6_tap 1 = .ok (.iload_n 1, 1) := by decide +kernel
theorem dX6_tap_2 : decode cX6_tap 2 = .ok (.invokevirtual 85, 3) := by decide +kernel
theorem dX6_tap_5 : decode cX6_tap 5 = .ok (.ifCond .ne 5, 3) := by decide +kernel
theorem dX6_tap_8 : decode cX6_tap 8 = .ok (.iconst (-1), 1) := by decide +kernel
theorem dX6_tap_9 : decode cX6_tap 9 = .ok (.ireturn, 1) := by decide +kernel
theorem dX6_tap_10 : decode cX6_tap 10 = .ok (.aload_n 0, 1) := by decide +kernel
theorem dX6_tap_11 : decode cX6_tap 11 = .ok (.getfield 41, 3) := by decide +kernel
theorem dX6_tap_14 : decode cX6_tap 14 = .ok (.getfield 88, 3) := by decide +kernel
theorem dX6_tap_17 : decode cX6_tap 17 = .ok (.iload_n 1, 1) := by decide +kernel
theorem dX6_tap_18 : decode cX6_tap 18 = .ok (.iaload, 1) := by decide +kernel
theorem dX6_tap_19 : decode cX6_tap 19 = .ok (.iconst 2, 1) := by decide +kernel
theorem dX6_tap_20 : decode cX6_tap 20 = .ok (.if_icmp .ne 11, 3) := by decide +kernel
theorem dX6_tap_23 : decode cX6_tap 23 = .ok (.aload_n 0, 1) := by decide +kernel
theorem dX6_tap_24 : decode cX6_tap 24 = .ok (.iconst 5, 1) := by decide +kernel
theorem dX6_tap_25 : decode cX6_tap 25 = .ok (.invokevirtual 238, 3) := by decide +kernel
theorem dX6_tap_28 : decode cX6_tap 28 = .ok (.bipush 70, 2) := by decide +kernel
theorem dX6_tap_30 : decode cX6_tap 30 = .ok (.ireturn, 1) := by decide +kernel
theorem dX6_tap_31 : decode cX6_tap 31 = .ok (.aload_n 0, 1) := by decide +kernel
theorem dX6_tap_32 : decode cX6_tap 32 = .ok (.iconst 4, 1) := by decide +kernel
theorem dX6_tap_33 : decode cX6_tap 33 = .ok (.invokevirtual 238, 3) := by decide +kernel
theorem dX6_tap_36 : decode cX6_tap 36 = .ok (.iload_n 1, 1) := by decide +kernel
theorem dX6_tap_37 : decode cX6_tap 37 = .ok (.ireturn, 1) := by decide +kernel
theorem dX6_as_0 : decode cX6_as 0 = .ok (.aload_n 0, 1) := by decide +kernel
theorem dX6_as_1 : decode cX6_as 1 = .ok (.iconst 0, 1) := by decide +kernel
theorem dX6_as_2 : decode cX6_as 2 = .ok (.putfield 52, 3) := by decide +kernel
theorem dX6_as_5 : decode cX6_as 5 = .ok (.aload_n 0, 1) := by decide +kernel
theorem dX6_as_6 : decode cX6_as 6 = .ok (.iload_n 1, 1) := by decide +kernel
theorem dX6_as_7 : decode cX6_as 7 = .ok (.invokevirtual 85, 3) := by decide +kernel
theorem dX6_as_10 : decode cX6_as 10 = .ok (.ifCond .ne 5, 3) := by decide +kernel
theorem dX6_as_13 : decode cX6_as 13 = .ok (.iconst (-1), 1) := by decide +kernel
theorem dX6_as_14 : decode cX6_as 14 = .ok (.ireturn, 1) := by decide +kernel
theorem dX6_as_15 : decode cX6_as 15 = .ok (.iload_n 2, 1) := by decide +kernel
theorem dX6_as_16 : decode cX6_as 16 = .ok (.ifCond .lt 8, 3) := by decide +kernel
theorem dX6_as_19 : decode cX6_as 19 = .ok (.iload_n 2, 1) := by decide +kernel
theorem dX6_as_20 : decode cX6_as 20 = .ok (.iconst 2, 1) := by decide +kernel
theorem dX6_as_21 : decode cX6_as 21 = .ok (.if_icmp .le 6, 3) := by decide +kernel
theorem dX6_as_24 : decode cX6_as 24 = .ok (.bipush (-2), 2) := by decide +kernel
theorem dX6_as_26 : decode cX6_as 26 = .ok (.ireturn, 1) := by decide +kernel
theorem dX6_as_27 : decode cX6_as 27 = .ok (.aload_n 0, 1) := by decide +kernel
theorem dX6_as_28 : decode cX6_as 28 = .ok (.getfield 41, 3) := by decide +kernel
theorem dX6_as_31 : decode cX6_as 31 = .ok (.getfield 88, 3) := by decide +kernel
theorem dX6_as_34 : decode cX6_as 34 = .ok (.iload_n 1, 1) := by decide +kernel
theorem dX6_as_35 : decode cX6_as 35 = .ok (.iaload, 1) := by decide +kernel
theorem dX6_as_36 : decode cX6_as 36 = .ok (.iload_n 2, 1) := by decide +kernel
theorem dX6_as_37 : decode cX6_as 37 = .ok (.if_icmp .ge 11, 3) := by decide +kernel
theorem dX6_as_40 : decode cX6_as 40 = .ok (.aload_n 0, 1) := by decide +kernel
theorem dX6_as_41 : decode cX6_as 41 = .ok (.iconst 2, 1) := by decide +kernel
theorem dX6_as_42 : decode cX6_as 42 = .ok (.invokevirtual 71, 3) := by decide +kernel
theorem dX6_as_45 : decode cX6_as 45 = .ok (.goto 4, 3) := by decide +kernel
theorem dX6_as_48 : decode cX6_as 48 = .ok (.iconst 1, 1) := by decide +kernel
theorem dX6_as_49 : decode cX6_as 49 = .ok (.ireturn, 1) := by decide +kernel
theorem dX6_trace_0 : decode cX6_trace 0 = .ok (.aload_n 0, 1) := by decide +kernel
theorem dX6_trace_1 : decode cX6_trace 1 = .ok (.getfield 48, 3) := by decide +kernel
theorem dX6_trace_4 : decode cX6_trace 4 = .ok (.ireturn, 1) := by decide +kernel
theorem dX6_fault_0 : decode cX6_fault 0 = .ok (.aload_n 0, 1) := by decide +kernel
theorem dX6_fault_1 : decode cX6_fault 1 = .ok (.getfield 52, 3) := by decide +kernel
theorem dX6_fault_4 : decode cX6_fault 4 = .ok (.ireturn, 1) := by decide +kernel
theorem dX6_many_0 : decode cX6_many 0 = .ok (.iload_n 1, 1) := by decide +kernel
theorem dX6_many_1 : decode cX6_many 1 = .ok (.tableswitch 81 0 4 #[35, 43, 51, 59, 70], 35) := by decide +kernel
theorem dX6_many_36 : decode cX6_many 36 = .ok (.aload_n 0, 1) := by decide +kernel
theorem dX6_many_37 : decode cX6_many 37 = .ok (.getfield 41, 3) := by decide +kernel
theorem dX6_many_40 : decode cX6_many 40 = .ok (.getfield 82, 3) := by decide +kernel
theorem dX6_many_43 : decode cX6_many 43 = .ok (.ireturn, 1) := by decide +kernel
theorem dX6_many_44 : decode cX6_many 44 = .ok (.aload_n 0, 1) := by decide +kernel
theorem dX6_many_45 : decode cX6_many 45 = .ok (.getfield 41, 3) := by decide +kernel
theorem dX6_many_48 : decode cX6_many 48 = .ok (.getfield 181, 3) := by decide +kernel
theorem dX6_many_51 : decode cX6_many 51 = .ok (.ireturn, 1) := by decide +kernel
theorem dX6_many_52 : decode cX6_many 52 = .ok (.aload_n 0, 1) := by decide +kernel
theorem dX6_many_53 : decode cX6_many 53 = .ok (.getfield 41, 3) := by decide +kernel
theorem dX6_many_56 : decode cX6_many 56 = .ok (.getfield 112, 3) := by decide +kernel
theorem dX6_many_59 : decode cX6_many 59 = .ok (.ireturn, 1) := by decide +kernel
theorem dX6_many_60 : decode cX6_many 60 = .ok (.aload_n 0, 1) := by decide +kernel
theorem dX6_many_61 : decode cX6_many 61 = .ok (.getfield 41, 3) := by decide +kernel
theorem dX6_many_64 : decode cX6_many 64 = .ok (.getfield 118, 3) := by decide +kernel
theorem dX6_many_67 : decode cX6_many 67 = .ok (.getfield 242, 3) := by decide +kernel
theorem dX6_many_70 : decode cX6_many 70 = .ok (.ireturn, 1) := by decide +kernel
theorem dX6_many_71 : decode cX6_many 71 = .ok (.aload_n 0, 1) := by decide +kernel
theorem dX6_many_72 : decode cX6_many 72 = .ok (.getfield 41, 3) := by decide +kernel
theorem dX6_many_75 : decode cX6_many 75 = .ok (.getfield 187, 3) := by decide +kernel
theorem dX6_many_78 : decode cX6_many 78 = .ok (.getfield 242, 3) := by decide +kernel
theorem dX6_many_81 : decode cX6_many 81 = .ok (.ireturn, 1) := by decide +kernel
theorem dX6_many_82 : decode cX6_many 82 = .ok (.bipush (-2), 2) := by decide +kernel
theorem dX6_many_84 : decode cX6_many 84 = .ok (.ireturn, 1) := by decide +kernel
theorem dX6_leave_0 : decode cX6_leave 0 = .ok (.aload_n 0, 1) := by decide +kernel
theorem dX6_leave_1 : decode cX6_leave 1 = .ok (.bipush 31, 2) := by decide +kernel
theorem dX6_leave_3 : decode cX6_leave 3 = .ok (.aload_n 0, 1) := by decide +kernel
theorem dX6_leave_4 : decode cX6_leave 4 = .ok (.getfield 48, 3) := by decide +kernel
theorem dX6_leave_7 : decode cX6_leave 7 = .ok (.imul, 1) := by decide +kernel
theorem dX6_leave_8 : decode cX6_leave 8 = .ok (.iload_n 1, 1) := by decide +kernel
theorem dX6_leave_9 : decode cX6_leave 9 = .ok (.iadd, 1) := by decide +kernel
theorem dX6_leave_10 : decode cX6_leave 10 = .ok (.putfield 48, 3) := by decide +kernel
theorem dX6_leave_13 : decode cX6_leave 13 = .ok (.return_, 1) := by decide +kernel
theorem dX6_faulty_0 : decode cX6_faulty 0 = .ok (.aload_n 0, 1) := by decide +kernel
theorem dX6_faulty_1 : decode cX6_faulty 1 = .ok (.iload_n 1, 1) := by decide +kernel
theorem dX6_faulty_2 : decode cX6_faulty 2 = .ok (.putfield 52, 3) := by decide +kernel
theorem dX6_faulty_5 : decode cX6_faulty 5 = .ok (.bipush (-10), 2) := by decide +kernel
theorem dX6_faulty_7 : decode cX6_faulty 7 = .ok (.iload_n 1, 1) := by decide +kernel
theorem dX6_faulty_8 : decode cX6_faulty 8 = .ok (.isub, 1) := by decide +kernel
theorem dX6_faulty_9 : decode cX6_faulty 9 = .ok (.ireturn, 1) := by decide +kernel
theorem dX6_hasNoDairy_0 : decode cX6_hasNoDairy 0 = .ok (.aload_n 0, 1) := by decide +kernel
theorem dX6_hasNoDairy_1 : decode cX6_hasNoDairy 1 = .ok (.getfield 41, 3) := by decide +kernel
theorem dX6_hasNoDairy_4 : decode cX6_hasNoDairy 4 = .ok (.getfield 82, 3) := by decide +kernel
theorem dX6_hasNoDairy_7 : decode cX6_hasNoDairy 7 = .ok (.ifCond .ne 7, 3) := by decide +kernel
theorem dX6_hasNoDairy_10 : decode cX6_hasNoDairy 10 = .ok (.iconst 1, 1) := by decide +kernel
theorem dX6_hasNoDairy_11 : decode cX6_hasNoDairy 11 = .ok (.goto 4, 3) := by decide +kernel
theorem dX6_hasNoDairy_14 : decode cX6_hasNoDairy 14 = .ok (.iconst 0, 1) := by decide +kernel
theorem dX6_hasNoDairy_15 : decode cX6_hasNoDairy 15 = .ok (.ireturn, 1) := by decide +kernel
theorem dX6_isCheese_0 : decode cX6_isCheese 0 = .ok (.iload_n 1, 1) := by decide +kernel
theorem dX6_isCheese_1 : decode cX6_isCheese 1 = .ok (.ifCond .lt 18, 3) := by decide +kernel
theorem dX6_isCheese_4 : decode cX6_isCheese 4 = .ok (.iload_n 1, 1) := by decide +kernel
theorem dX6_isCheese_5 : decode cX6_isCheese 5 = .ok (.aload_n 0, 1) := by decide +kernel
theorem dX6_isCheese_6 : decode cX6_isCheese 6 = .ok (.getfield 41, 3) := by decide +kernel
theorem dX6_isCheese_9 : decode cX6_isCheese 9 = .ok (.getfield 181, 3) := by decide +kernel
theorem dX6_isCheese_12 : decode cX6_isCheese 12 = .ok (.if_icmp .ge 7, 3) := by decide +kernel
theorem dX6_isCheese_15 : decode cX6_isCheese 15 = .ok (.iconst 1, 1) := by decide +kernel
theorem dX6_isCheese_16 : decode cX6_isCheese 16 = .ok (.goto 4, 3) := by decide +kernel
theorem dX6_isCheese_19 : decode cX6_isCheese 19 = .ok (.iconst 0, 1) := by decide +kernel
theorem dX6_isCheese_20 : decode cX6_isCheese 20 = .ok (.ireturn, 1) := by decide +kernel
theorem dX6_isTalk_0 : decode cX6_isTalk 0 = .ok (.iload_n 1, 1) := by decide +kernel
theorem dX6_isTalk_1 : decode cX6_isTalk 1 = .ok (.ifCond .lt 18, 3) := by decide +kernel
theorem dX6_isTalk_4 : decode cX6_isTalk 4 = .ok (.iload_n 1, 1) := by decide +kernel
theorem dX6_isTalk_5 : decode cX6_isTalk 5 = .ok (.aload_n 0, 1) := by decide +kernel
theorem dX6_isTalk_6 : decode cX6_isTalk 6 = .ok (.getfield 41, 3) := by decide +kernel
theorem dX6_isTalk_9 : decode cX6_isTalk 9 = .ok (.getfield 82, 3) := by decide +kernel
theorem dX6_isTalk_12 : decode cX6_isTalk 12 = .ok (.if_icmp .ge 7, 3) := by decide +kernel
theorem dX6_isTalk_15 : decode cX6_isTalk 15 = .ok (.iconst 1, 1) := by decide +kernel
theorem dX6_isTalk_16 : decode cX6_isTalk 16 = .ok (.goto 4, 3) := by decide +kernel
theorem dX6_isTalk_19 : decode cX6_isTalk 19 = .ok (.iconst 0, 1) := by decide +kernel
theorem dX6_isTalk_20 : decode cX6_isTalk 20 = .ok (.ireturn, 1) := by decide +kernel
theorem dX6_isSheet_0 : decode cX6_isSheet 0 = .ok (.iload_n 0, 1) := by decide +kernel
theorem dX6_isSheet_1 : decode cX6_isSheet 1 = .ok (.ifCond .lt 12, 3) := by decide +kernel
theorem dX6_isSheet_4 : decode cX6_isSheet 4 = .ok (.iload_n 0, 1) := by decide +kernel
theorem dX6_isSheet_5 : decode cX6_isSheet 5 = .ok (.iconst 4, 1) := by decide +kernel
theorem dX6_isSheet_6 : decode cX6_isSheet 6 = .ok (.if_icmp .ge 7, 3) := by decide +kernel
theorem dX6_isSheet_9 : decode cX6_isSheet 9 = .ok (.iconst 1, 1) := by decide +kernel
theorem dX6_isSheet_10 : decode cX6_isSheet 10 = .ok (.goto 4, 3) := by decide +kernel
theorem dX6_isSheet_13 : decode cX6_isSheet 13 = .ok (.iconst 0, 1) := by decide +kernel
theorem dX6_isSheet_14 : decode cX6_isSheet 14 = .ok (.ireturn, 1) := by decide +kernel
theorem dX6_isLane_0 : decode cX6_isLane 0 = .ok (.iload_n 0, 1) := by decide +kernel
theorem dX6_isLane_1 : decode cX6_isLane 1 = .ok (.ifCond .lt 12, 3) := by decide +kernel
theorem dX6_isLane_4 : decode cX6_isLane 4 = .ok (.iload_n 0, 1) := by decide +kernel
theorem dX6_isLane_5 : decode cX6_isLane 5 = .ok (.iconst 2, 1) := by decide +kernel
theorem dX6_isLane_6 : decode cX6_isLane 6 = .ok (.if_icmp .gt 7, 3) := by decide +kernel
theorem dX6_isLane_9 : decode cX6_isLane 9 = .ok (.iconst 1, 1) := by decide +kernel
theorem dX6_isLane_10 : decode cX6_isLane 10 = .ok (.goto 4, 3) := by decide +kernel
theorem dX6_isLane_13 : decode cX6_isLane 13 = .ok (.iconst 0, 1) := by decide +kernel
theorem dX6_isLane_14 : decode cX6_isLane 14 = .ok (.ireturn, 1) := by decide +kernel
theorem dX6_isDay_0 : decode cX6_isDay 0 = .ok (.iload_n 0, 1) := by decide +kernel
theorem dX6_isDay_1 : decode cX6_isDay 1 = .ok (.ifCond .lt 13, 3) := by decide +kernel
theorem dX6_isDay_4 : decode cX6_isDay 4 = .ok (.iload_n 0, 1) := by decide +kernel
theorem dX6_isDay_5 : decode cX6_isDay 5 = .ok (.bipush 8, 2) := by decide +kernel
theorem dX6_isDay_7 : decode cX6_isDay 7 = .ok (.if_icmp .ge 7, 3) := by decide +kernel
theorem dX6_isDay_10 : decode cX6_isDay 10 = .ok (.iconst 1, 1) := by decide +kernel
theorem dX6_isDay_11 : decode cX6_isDay 11 = .ok (.goto 4, 3) := by decide +kernel
theorem dX6_isDay_14 : decode cX6_isDay 14 = .ok (.iconst 0, 1) := by decide +kernel
theorem dX6_isDay_15 : decode cX6_isDay 15 = .ok (.ireturn, 1) := by decide +kernel
theorem dX6_isWord_0 : decode cX6_isWord 0 = .ok (.iload_n 0, 1) := by decide +kernel
theorem dX6_isWord_1 : decode cX6_isWord 1 = .ok (.ifCond .lt 13, 3) := by decide +kernel
theorem dX6_isWord_4 : decode cX6_isWord 4 = .ok (.iload_n 0, 1) := by decide +kernel
theorem dX6_isWord_5 : decode cX6_isWord 5 = .ok (.bipush 7, 2) := by decide +kernel
theorem dX6_isWord_7 : decode cX6_isWord 7 = .ok (.if_icmp .gt 7, 3) := by decide +kernel
theorem dX6_isWord_10 : decode cX6_isWord 10 = .ok (.iconst 1, 1) := by decide +kernel
theorem dX6_isWord_11 : decode cX6_isWord 11 = .ok (.goto 4, 3) := by decide +kernel
theorem dX6_isWord_14 : decode cX6_isWord 14 = .ok (.iconst 0, 1) := by decide +kernel
theorem dX6_isWord_15 : decode cX6_isWord 15 = .ok (.ireturn, 1) := by decide +kernel
theorem dX6_isWordSet_0 : decode cX6_isWordSet 0 = .ok (.iload_n 0, 1) := by decide +kernel
theorem dX6_isWordSet_1 : decode cX6_isWordSet 1 = .ok (.ifCond .lt 14, 3) := by decide +kernel
theorem dX6_isWordSet_4 : decode cX6_isWordSet 4 = .ok (.iload_n 0, 1) := by decide +kernel
theorem dX6_isWordSet_5 : decode cX6_isWordSet 5 = .ok (.sipush 255, 3) := by decide +kernel
theorem dX6_isWordSet_8 : decode cX6_isWordSet 8 = .ok (.if_icmp .gt 7, 3) := by decide +kernel
theorem dX6_isWordSet_11 : decode cX6_isWordSet 11 = .ok (.iconst 1, 1) := by decide +kernel
theorem dX6_isWordSet_12 : decode cX6_isWordSet 12 = .ok (.goto 4, 3) := by decide +kernel
theorem dX6_isWordSet_15 : decode cX6_isWordSet 15 = .ok (.iconst 0, 1) := by decide +kernel
theorem dX6_isWordSet_16 : decode cX6_isWordSet 16 = .ok (.ireturn, 1) := by decide +kernel
theorem dX7_init_0 : decode cX7_init 0 = .ok (.aload_n 0, 1) := by decide +kernel
theorem dX7_init_1 : decode cX7_init 1 = .ok (.invokespecial 1, 3) := by decide +kernel
theorem dX7_init_4 : decode cX7_init 4 = .ok (.aload_n 0, 1) := by decide +kernel
theorem dX7_init_5 : decode cX7_init 5 = .ok (.iconst 4, 1) := by decide +kernel
theorem dX7_init_6 : decode cX7_init 6 = .ok (.newarray .int, 2) := by decide +kernel
theorem dX7_init_8 : decode cX7_init 8 = .ok (.dup, 1) := by decide +kernel
theorem dX7_init_9 : decode cX7_init 9 = .ok (.iconst 0, 1) := by decide +kernel
theorem dX7_init_10 : decode cX7_init 10 = .ok (.bipush (-9), 2) := by decide +kernel
theorem dX7_init_12 : decode cX7_init 12 = .ok (.iastore, 1) := by decide +kernel
theorem dX7_init_13 : decode cX7_init 13 = .ok (.dup, 1) := by decide +kernel
theorem dX7_init_14 : decode cX7_init 14 = .ok (.iconst 1, 1) := by decide +kernel
theorem dX7_init_15 : decode cX7_init 15 = .ok (.bipush (-9), 2) := by decide +kernel
theorem dX7_init_17 : decode cX7_init 17 = .ok (.iastore, 1) := by decide +kernel
theorem dX7_init_18 : decode cX7_init 18 = .ok (.dup, 1) := by decide +kernel
theorem dX7_init_19 : decode cX7_init 19 = .ok (.iconst 2, 1) := by decide +kernel
theorem dX7_init_20 : decode cX7_init 20 = .ok (.bipush (-9), 2) := by decide +kernel
theorem dX7_init_22 : decode cX7_init 22 = .ok (.iastore, 1) := by decide +kernel
theorem dX7_init_23 : decode cX7_init 23 = .ok (.dup, 1) := by decide +kernel
theorem dX7_init_24 : decode cX7_init 24 = .ok (.iconst 3, 1) := by decide +kernel
theorem dX7_init_25 : decode cX7_init 25 = .ok (.bipush (-9), 2) := by decide +kernel
theorem dX7_init_27 : decode cX7_init 27 = .ok (.iastore, 1) := by decide +kernel
theorem dX7_init_28 : decode cX7_init 28 = .ok (.putfield 9, 3) := by decide +kernel
theorem dX7_init_31 : decode cX7_init 31 = .ok (.aload_n 0, 1) := by decide +kernel
theorem dX7_init_32 : decode cX7_init 32 = .ok (.iconst 4, 1) := by decide +kernel
theorem dX7_init_33 : decode cX7_init 33 = .ok (.newarray .int, 2) := by decide +kernel
theorem dX7_init_35 : decode cX7_init 35 = .ok (.putfield 13, 3) := by decide +kernel
theorem dX7_init_38 : decode cX7_init 38 = .ok (.aload_n 0, 1) := by decide +kernel
theorem dX7_init_39 : decode cX7_init 39 = .ok (.sipush 240, 3) := by decide +kernel
theorem dX7_init_42 : decode cX7_init 42 = .ok (.newarray .int, 2) := by decide +kernel
theorem dX7_init_44 : decode cX7_init 44 = .ok (.putfield 16, 3) := by decide +kernel
theorem dX7_init_47 : decode cX7_init 47 = .ok (.aload_n 0, 1) := by decide +kernel
theorem dX7_init_48 : decode cX7_init 48 = .ok (.iconst 4, 1) := by decide +kernel
theorem dX7_init_49 : decode cX7_init 49 = .ok (.newarray .int, 2) := by decide +kernel
theorem dX7_init_51 : decode cX7_init 51 = .ok (.putfield 19, 3) := by decide +kernel
theorem dX7_init_54 : decode cX7_init 54 = .ok (.aload_n 0, 1) := by decide +kernel
theorem dX7_init_55 : decode cX7_init 55 = .ok (.iconst 4, 1) := by decide +kernel
theorem dX7_init_56 : decode cX7_init 56 = .ok (.newarray .int, 2) := by decide +kernel
theorem dX7_init_58 : decode cX7_init 58 = .ok (.putfield 22, 3) := by decide +kernel
theorem dX7_init_61 : decode cX7_init 61 = .ok (.aload_n 0, 1) := by decide +kernel
theorem dX7_init_62 : decode cX7_init 62 = .ok (.iconst 4, 1) := by decide +kernel
theorem dX7_init_63 : decode cX7_init 63 = .ok (.newarray .int, 2) := by decide +kernel
theorem dX7_init_65 : decode cX7_init 65 = .ok (.putfield 25, 3) := by decide +kernel
theorem dX7_init_68 : decode cX7_init 68 = .ok (.aload_n 0, 1) := by decide +kernel
theorem dX7_init_69 : decode cX7_init 69 = .ok (.iconst 4, 1) := by decide +kernel
theorem dX7_init_70 : decode cX7_init 70 = .ok (.newarray .int, 2) := by decide +kernel
theorem dX7_init_72 : decode cX7_init 72 = .ok (.putfield 28, 3) := by decide +kernel
theorem dX7_init_75 : decode cX7_init 75 = .ok (.aload_n 0, 1) := by decide +kernel
theorem dX7_init_76 : decode cX7_init 76 = .ok (.bipush 8, 2) := by decide +kernel
theorem dX7_init_78 : decode cX7_init 78 = .ok (.newarray .int, 2) := by decide +kernel
theorem dX7_init_80 : decode cX7_init 80 = .ok (.putfield 31, 3) := by decide +kernel
theorem dX7_init_83 : decode cX7_init 83 = .ok (.aload_n 0, 1) := by decide +kernel
theorem dX7_init_84 : decode cX7_init 84 = .ok (.bipush 8, 2) := by decide +kernel
theorem dX7_init_86 : decode cX7_init 86 = .ok (.newarray .int, 2) := by decide +kernel
theorem dX7_init_88 : decode cX7_init 88 = .ok (.putfield 34, 3) := by decide +kernel
theorem dX7_init_91 : decode cX7_init 91 = .ok (.aload_n 0, 1) := by decide +kernel
theorem dX7_init_92 : decode cX7_init 92 = .ok (.bipush 8, 2) := by decide +kernel
theorem dX7_init_94 : decode cX7_init 94 = .ok (.newarray .int, 2) := by decide +kernel
theorem dX7_init_96 : decode cX7_init 96 = .ok (.putfield 37, 3) := by decide +kernel
theorem dX7_init_99 : decode cX7_init 99 = .ok (.aload_n 0, 1) := by decide +kernel
theorem dX7_init_100 : decode cX7_init 100 = .ok (.bipush 8, 2) := by decide +kernel
theorem dX7_init_102 : decode cX7_init 102 = .ok (.newarray .int, 2) := by decide +kernel
theorem dX7_init_104 : decode cX7_init 104 = .ok (.putfield 40, 3) := by decide +kernel
theorem dX7_init_107 : decode cX7_init 107 = .ok (.aload_n 0, 1) := by decide +kernel
theorem dX7_init_108 : decode cX7_init 108 = .ok (.bipush 8, 2) := by decide +kernel
theorem dX7_init_110 : decode cX7_init 110 = .ok (.newarray .int, 2) := by decide +kernel
theorem dX7_init_112 : decode cX7_init 112 = .ok (.putfield 43, 3) := by decide +kernel
theorem dX7_init_115 : decode cX7_init 115 = .ok (.aload_n 0, 1) := by decide +kernel
theorem dX7_init_116 : decode cX7_init 116 = .ok (.bipush 8, 2) := by decide +kernel
theorem dX7_init_118 : decode cX7_init 118 = .ok (.newarray .int, 2) := by decide +kernel
theorem dX7_init_120 : decode cX7_init 120 = .ok (.putfield 46, 3) := by decide +kernel
theorem dX7_init_123 : decode cX7_init 123 = .ok (.aload_n 0, 1) := by decide +kernel
theorem dX7_init_124 : decode cX7_init 124 = .ok (.bipush 12, 2) := by decide +kernel
theorem dX7_init_126 : decode cX7_init 126 = .ok (.newarray .int, 2) := by decide +kernel
theorem dX7_init_128 : decode cX7_init 128 = .ok (.putfield 49, 3) := by decide +kernel
theorem dX7_init_131 : decode cX7_init 131 = .ok (.aload_n 0, 1) := by decide +kernel
theorem dX7_init_132 : decode cX7_init 132 = .ok (.bipush 24, 2) := by decide +kernel
theorem dX7_init_134 : decode cX7_init 134 = .ok (.newarray .int, 2) := by decide +kernel
theorem dX7_init_136 : decode cX7_init 136 = .ok (.putfield 52, 3) := by decide +kernel
theorem dX7_init_139 : decode cX7_init 139 = .ok (.aload_n 0, 1) := by decide +kernel
theorem dX7_init_140 : decode cX7_init 140 = .ok (.iconst 4, 1) := by decide +kernel
theorem dX7_init_141 : decode cX7_init 141 = .ok (.newarray .int, 2) := by decide +kernel
theorem dX7_init_143 : decode cX7_init 143 = .ok (.putfield 55, 3) := by decide +kernel
theorem dX7_init_146 : decode cX7_init 146 = .ok (.aload_n 0, 1) := by decide +kernel
theorem dX7_init_147 : decode cX7_init 147 = .ok (.iconst 4, 1) := by decide +kernel
theorem dX7_init_148 : decode cX7_init 148 = .ok (.newarray .int, 2) := by decide +kernel
theorem dX7_init_150 : decode cX7_init 150 = .ok (.putfield 58, 3) := by decide +kernel
theorem dX7_init_153 : decode cX7_init 153 = .ok (.aload_n 0, 1) := by decide +kernel
theorem dX7_init_154 : decode cX7_init 154 = .ok (.iconst 4, 1) := by decide +kernel
theorem dX7_init_155 : decode cX7_init 155 = .ok (.newarray .int, 2) := by decide +kernel
theorem dX7_init_157 : decode cX7_init 157 = .ok (.putfield 61, 3) := by decide +kernel
theorem dX7_init_160 : decode cX7_init 160 = .ok (.aload_n 0, 1) := by decide +kernel
theorem dX7_init_161 : decode cX7_init 161 = .ok (.bipush 8, 2) := by decide +kernel
theorem dX7_init_163 : decode cX7_init 163 = .ok (.newarray .int, 2) := by decide +kernel
theorem dX7_init_165 : decode cX7_init 165 = .ok (.putfield 64, 3) := by decide +kernel
theorem dX7_init_168 : decode cX7_init 168 = .ok (.aload_n 0, 1) := by decide +kernel
theorem dX7_init_169 : decode cX7_init 169 = .ok (.bipush 8, 2) := by decide +kernel
theorem dX7_init_171 : decode cX7_init 171 = .ok (.newarray .int, 2) := by decide +kernel
theorem dX7_init_173 : decode cX7_init 173 = .ok (.putfield 67, 3) := by decide +kernel
theorem dX7_init_176 : decode cX7_init 176 = .ok (.aload_n 0, 1) := by decide +kernel
theorem dX7_init_177 : decode cX7_init 177 = .ok (.bipush 8, 2) := by decide +kernel
theorem dX7_init_179 : decode cX7_init 179 = .ok (.newarray .int, 2) := by decide +kernel
theorem dX7_init_181 : decode cX7_init 181 = .ok (.putfield 70, 3) := by decide +kernel
theorem dX7_init_184 : decode cX7_init 184 = .ok (.return_, 1) := by decide +kernel
theorem dX7_fails_0 : decode cX7_fails 0 = .ok (.aload_n 0, 1) := by decide +kernel
theorem dX7_fails_1 : decode cX7_fails 1 = .ok (.iload_n 1, 1) := by decide +kernel
theorem dX7_fails_2 : decode cX7_fails 2 = .ok (.putfield 73, 3) := by decide +kernel
theorem dX7_fails_5 : decode cX7_fails 5 = .ok (.bipush (-10), 2) := by decide +kernel
theorem dX7_fails_7 : decode cX7_fails 7 = .ok (.iload_n 1, 1) := by decide +kernel
theorem dX7_fails_8 : decode cX7_fails 8 = .ok (.isub, 1) := by decide +kernel
theorem dX7_fails_9 : decode cX7_fails 9 = .ok (.ireturn, 1) := by decide +kernel
theorem dX7_lost_0 : decode cX7_lost 0 = .ok (.aload_n 0, 1) := by decide +kernel
theorem dX7_lost_1 : decode cX7_lost 1 = .ok (.iload_n 1, 1) := by decide +kernel
theorem dX7_lost_2 : decode cX7_lost 2 = .ok (.putfield 73, 3) := by decide +kernel
theorem dX7_lost_5 : decode cX7_lost 5 = .ok (.ldc2_w 77, 3) := by decide +kernel
theorem dX7_lost_8 : decode cX7_lost 8 = .ok (.lreturn, 1) := by decide +kernel
theorem dX7_within_0 : decode cX7_within 0 = .ok (.iload_n 0, 1) := by decide +kernel
theorem dX7_within_1 : decode cX7_within 1 = .ok (.iload_n 1, 1) := by decide +kernel
theorem dX7_within_2 : decode cX7_within 2 = .ok (.if_icmp .lt 12, 3) := by decide +kernel
theorem dX7_within_5 : decode cX7_within 5 = .ok (.iload_n 0, 1) := by decide +kernel
theorem dX7_within_6 : decode cX7_within 6 = .ok (.iload_n 2, 1) := by decide +kernel
theorem dX7_within_7 : decode cX7_within 7 = .ok (.if_icmp .gt 7, 3) := by decide +kernel
theorem dX7_within_10 : decode cX7_within 10 = .ok (.iconst 1, 1) := by decide +kernel
theorem dX7_within_11 : decode cX7_within 11 = .ok (.goto 4, 3) := by decide +kernel
theorem dX7_within_14 : decode cX7_within 14 = .ok (.iconst 0, 1) := by decide +kernel
theorem dX7_within_15 : decode cX7_within 15 = .ok (.ireturn, 1) := by decide +kernel
theorem dX7_isSheet_0 : decode cX7_isSheet 0 = .ok (.iload_n 0, 1) := by decide +kernel
theorem dX7_isSheet_1 : decode cX7_isSheet 1 = .ok (.iconst 0, 1) := by decide +kernel
theorem dX7_isSheet_2 : decode cX7_isSheet 2 = .ok (.iconst 3, 1) := by decide +kernel
theorem dX7_isSheet_3 : decode cX7_isSheet 3 = .ok (.invokestatic 79, 3) := by decide +kernel
theorem dX7_isSheet_6 : decode cX7_isSheet 6 = .ok (.ireturn, 1) := by decide +kernel
theorem dX7_isSort_0 : decode cX7_isSort 0 = .ok (.iload_n 0, 1) := by decide +kernel
theorem dX7_isSort_1 : decode cX7_isSort 1 = .ok (.iconst 0, 1) := by decide +kernel
theorem dX7_isSort_2 : decode cX7_isSort 2 = .ok (.iconst 2, 1) := by decide +kernel
theorem dX7_isSort_3 : decode cX7_isSort 3 = .ok (.invokestatic 79, 3) := by decide +kernel
theorem dX7_isSort_6 : decode cX7_isSort 6 = .ok (.ireturn, 1) := by decide +kernel
theorem dX7_against_0 : decode cX7_against 0 = .ok (.aload_n 0, 1) := by decide +kernel
theorem dX7_against_1 : decode cX7_against 1 = .ok (.getfield 9, 3) := by decide +kernel
theorem dX7_against_4 : decode cX7_against 4 = .ok (.iload_n 1, 1) := by decide +kernel
theorem dX7_against_5 : decode cX7_against 5 = .ok (.iaload, 1) := by decide +kernel
theorem dX7_against_6 : decode cX7_against 6 = .ok (.bipush (-9), 2) := by decide +kernel
theorem dX7_against_8 : decode cX7_against 8 = .ok (.if_icmp .eq 15, 3) := by decide +kernel
theorem dX7_against_11 : decode cX7_against 11 = .ok (.aload_n 0, 1) := by decide +kernel
theorem dX7_against_12 : decode cX7_against 12 = .ok (.getfield 9, 3) := by decide +kernel
theorem dX7_against_15 : decode cX7_against 15 = .ok (.iload_n 1, 1) := by decide +kernel
theorem dX7_against_16 : decode cX7_against 16 = .ok (.iaload, 1) := by decide +kernel
theorem dX7_against_17 : decode cX7_against 17 = .ok (.iload_n 2, 1) := by decide +kernel
theorem dX7_against_18 : decode cX7_against 18 = .ok (.if_icmp .eq 5, 3) := by decide +kernel
theorem dX7_against_21 : decode cX7_against 21 = .ok (.iconst 2, 1) := by decide +kernel
theorem dX7_against_22 : decode cX7_against 22 = .ok (.ireturn, 1) := by decide +kernel
theorem dX7_against_23 : decode cX7_against 23 = .ok (.aload_n 0, 1) := by decide +kernel
theorem dX7_against_24 : decode cX7_against 24 = .ok (.getfield 9, 3) := by decide +kernel
theorem dX7_against_27 : decode cX7_against 27 = .ok (.iload_n 1, 1) := by decide +kernel
theorem dX7_against_28 : decode cX7_against 28 = .ok (.iaload, 1) := by decide +kernel
theorem dX7_against_29 : decode cX7_against 29 = .ok (.bipush (-9), 2) := by decide +kernel
theorem dX7_against_31 : decode cX7_against 31 = .ok (.if_icmp .ne 5, 3) := by decide +kernel
theorem dX7_against_34 : decode cX7_against 34 = .ok (.iconst 1, 1) := by decide +kernel
theorem dX7_against_35 : decode cX7_against 35 = .ok (.ireturn, 1) := by decide +kernel
theorem dX7_against_36 : decode cX7_against 36 = .ok (.iload 4, 2) := by decide +kernel
theorem dX7_against_38 : decode cX7_against 38 = .ok (.ifCond .ge 5, 3) := by decide +kernel
theorem dX7_against_41 : decode cX7_against 41 = .ok (.iconst 4, 1) := by decide +kernel
theorem dX7_against_42 : decode cX7_against 42 = .ok (.ireturn, 1) := by decide +kernel
theorem dX7_against_43 : decode cX7_against 43 = .ok (.iload_n 3, 1) := by decide +kernel
theorem dX7_against_44 : decode cX7_against 44 = .ok (.ifCond .lt 26, 3) := by decide +kernel
theorem dX7_against_47 : decode cX7_against 47 = .ok (.iload_n 3, 1) := by decide +kernel
theorem dX7_against_48 : decode cX7_against 48 = .ok (.aload_n 0, 1) := by decide +kernel
theorem dX7_against_49 : decode cX7_against 49 = .ok (.getfield 13, 3) := by decide +kernel
theorem dX7_against_52 : decode cX7_against 52 = .ok (.iload_n 1, 1) := by decide +kernel
theorem dX7_against_53 : decode cX7_against 53 = .ok (.iaload, 1) := by decide +kernel
theorem dX7_against_54 : decode cX7_against 54 = .ok (.if_icmp .gt 16, 3) := by decide +kernel
theorem dX7_against_57 : decode cX7_against 57 = .ok (.iload 4, 2) := by decide +kernel
theorem dX7_against_59 : decode cX7_against 59 = .ok (.aload_n 0, 1) := by decide +kernel
theorem dX7_against_60 : decode cX7_against 60 = .ok (.getfield 13, 3) := by decide +kernel
theorem dX7_against_63 : decode cX7_against 63 = .ok (.iload_n 1, 1) := by decide +kernel
theorem dX7_against_64 : decode cX7_against 64 = .ok (.iaload, 1) := by decide +kernel
theorem dX7_against_65 : decode cX7_against 65 = .ok (.iload_n 3, 1) := by decide +kernel
theorem dX7_against_66 : decode cX7_against 66 = .ok (.isub, 1) := by decide +kernel
theorem dX7_against_67 : decode cX7_against 67 = .ok (.if_icmp .le 7, 3) := by decide +kernel
theorem dX7_against_70 : decode cX7_against 70 = .ok (.iconst 3, 1) := by decide +kernel
theorem dX7_against_71 : decode cX7_against 71 = .ok (.goto 4, 3) := by decide +kernel
theorem dX7_against_74 : decode cX7_against 74 = .ok (.iconst 0, 1) := by decide +kernel
theorem dX7_against_75 : decode cX7_against 75 = .ok (.ireturn, 1) := by decide +kernel
theorem dX7_isCheese_0 : decode cX7_isCheese 0 = .ok (.iload_n 1, 1) := by decide +kernel
theorem dX7_isCheese_1 : decode cX7_isCheese 1 = .ok (.ifCond .lt 15, 3) := by decide +kernel
theorem dX7_isCheese_4 : decode cX7_isCheese 4 = .ok (.iload_n 1, 1) := by decide +kernel
theorem dX7_isCheese_5 : decode cX7_isCheese 5 = .ok (.aload_n 0, 1) := by decide +kernel
theorem dX7_isCheese_6 : decode cX7_isCheese 6 = .ok (.getfield 83, 3) := by decide +kernel
theorem dX7_isCheese_9 : decode cX7_isCheese 9 = .ok (.if_icmp .ge 7, 3) := by decide +kernel
theorem dX7_isCheese_12 : decode cX7_isCheese 12 = .ok (.iconst 1, 1) := by decide +kernel
theorem dX7_isCheese_13 : decode cX7_isCheese 13 = .ok (.goto 4, 3) := by decide +kernel
theorem dX7_isCheese_16 : decode cX7_isCheese 16 = .ok (.iconst 0, 1) := by decide +kernel
theorem dX7_isCheese_17 : decode cX7_isCheese 17 = .ok (.ireturn, 1) := by decide +kernel
theorem dX7_isCellar_0 : decode cX7_isCellar 0 = .ok (.iload_n 1, 1) := by decide +kernel
theorem dX7_isCellar_1 : decode cX7_isCellar 1 = .ok (.ifCond .lt 15, 3) := by decide +kernel
theorem dX7_isCellar_4 : decode cX7_isCellar 4 = .ok (.iload_n 1, 1) := by decide +kernel
theorem dX7_isCellar_5 : decode cX7_isCellar 5 = .ok (.aload_n 0, 1) := by decide +kernel
theorem dX7_isCellar_6 : decode cX7_isCellar 6 = .ok (.getfield 86, 3) := by decide +kernel
theorem dX7_isCellar_9 : decode cX7_isCellar 9 = .ok (.if_icmp .ge 7, 3) := by decide +kernel
theorem dX7_isCellar_12 : decode cX7_isCellar 12 = .ok (.iconst 1, 1) := by decide +kernel
theorem dX7_isCellar_13 : decode cX7_isCellar 13 = .ok (.goto 4, 3) := by decide +kernel
theorem dX7_isCellar_16 : decode cX7_isCellar 16 = .ok (.iconst 0, 1) := by decide +kernel
theorem dX7_isCellar_17 : decode cX7_isCellar 17 = .ok (.ireturn, 1) := by decide +kernel
theorem dX7_isTalk_0 : decode cX7_isTalk 0 = .ok (.iload_n 1, 1) := by decide +kernel
theorem dX7_isTalk_1 : decode cX7_isTalk 1 = .ok (.ifCond .lt 15, 3) := by decide +kernel
theorem dX7_isTalk_4 : decode cX7_isTalk 4 = .ok (.iload_n 1, 1) := by decide +kernel
theorem dX7_isTalk_5 : decode cX7_isTalk 5 = .ok (.aload_n 0, 1) := by decide +kernel
theorem dX7_isTalk_6 : decode cX7_isTalk 6 = .ok (.getfield 89, 3) := by decide +kernel
theorem dX7_isTalk_9 : decode cX7_isTalk 9 = .ok (.if_icmp .ge 7, 3) := by decide +kernel
theorem dX7_isTalk_12 : decode cX7_isTalk 12 = .ok (.iconst 1, 1) := by decide +kernel
theorem dX7_isTalk_13 : decode cX7_isTalk 13 = .ok (.goto 4, 3) := by decide +kernel
theorem dX7_isTalk_16 : decode cX7_isTalk 16 = .ok (.iconst 0, 1) := by decide +kernel
theorem dX7_isTalk_17 : decode cX7_isTalk 17 = .ok (.ireturn, 1) := by decide +kernel
theorem dX7_isWord_0 : decode cX7_isWord 0 = .ok (.iload_n 0, 1) := by decide +kernel
theorem dX7_isWord_1 : decode cX7_isWord 1 = .ok (.iconst 0, 1) := by decide +kernel
theorem dX7_isWord_2 : decode cX7_isWord 2 = .ok (.bipush 7, 2) := by decide +kernel
theorem dX7_isWord_4 : decode cX7_isWord 4 = .ok (.invokestatic 79, 3) := by decide +kernel
theorem dX7_isWord_7 : decode cX7_isWord 7 = .ok (.ireturn, 1) := by decide +kernel
theorem dX7_isDay_0 : decode cX7_isDay 0 = .ok (.iload_n 0, 1) := by decide +kernel
theorem dX7_isDay_1 : decode cX7_isDay 1 = .ok (.iconst 0, 1) := by decide +kernel
theorem dX7_isDay_2 : decode cX7_isDay 2 = .ok (.bipush 7, 2) := by decide +kernel
theorem dX7_isDay_4 : decode cX7_isDay 4 = .ok (.invokestatic 79, 3) := by decide +kernel
theorem dX7_isDay_7 : decode cX7_isDay 7 = .ok (.ireturn, 1) := by decide +kernel
theorem dX7_digit_0 : decode cX7_digit 0 = .ok (.aload_n 0, 1) := by decide +kernel
theorem dX7_digit_1 : decode cX7_digit 1 = .ok (.getfield 92, 3) := by decide +kernel
theorem dX7_digit_4 : decode cX7_digit 4 = .ok (.iload_n 1, 1) := by decide +kernel
theorem dX7_digit_5 : decode cX7_digit 5 = .ok (.if_icmp .ge 26, 3) := by decide +kernel
theorem dX7_digit_8 : decode cX7_digit 8 = .ok (.aload_n 0, 1) := by decide +kernel
theorem dX7_digit_9 : decode cX7_digit 9 = .ok (.getfield 16, 3) := by decide +kernel
theorem dX7_digit_12 : decode cX7_digit 12 = .ok (.aload_n 0, 1) := by decide +kernel
theorem dX7_digit_13 : decode cX7_digit 13 = .ok (.getfield 92, 3) := by decide +kernel
theorem dX7_digit_16 : decode cX7_digit 16 = .ok (.iaload, 1) := by decide +kernel
theorem dX7_digit_17 : decode cX7_digit 17 = .ok (.bipush 48, 2) := by decide +kernel
theorem dX7_digit_19 : decode cX7_digit 19 = .ok (.iload_n 2, 1) := by decide +kernel
theorem dX7_digit_20 : decode cX7_digit 20 = .ok (.iadd, 1) := by decide +kernel
theorem dX7_digit_21 : decode cX7_digit 21 = .ok (.bipush 48, 2) := by decide +kernel
theorem dX7_digit_23 : decode cX7_digit 23 = .ok (.iload_n 3, 1) := by decide +kernel
theorem dX7_digit_24 : decode cX7_digit 24 = .ok (.iadd, 1) := by decide +kernel
theorem dX7_digit_25 : decode cX7_digit 25 = .ok (.invokestatic 79, 3) := by decide +kernel
theorem dX7_digit_28 : decode cX7_digit 28 = .ok (.ifCond .ne 6, 3) := by decide +kernel
theorem dX7_digit_31 : decode cX7_digit 31 = .ok (.bipush (-9), 2) := by decide +kernel
theorem dX7_digit_33 : decode cX7_digit 33 = .ok (.ireturn, 1) := by decide +kernel
theorem dX7_digit_34 : decode cX7_digit 34 = .ok (.aload_n 0, 1) := by decide +kernel
theorem dX7_digit_35 : decode cX7_digit 35 = .ok (.dup, 1) := by decide +kernel
theorem dX7_digit_36 : decode cX7_digit 36 = .ok (.getfield 92, 3) := by decide +kernel
theorem dX7_digit_39 : decode cX7_digit 39 = .ok (.iconst 1, 1) := by decide +kernel
theorem dX7_digit_40 : decode cX7_digit 40 = .ok (.iadd, 1) := by decide +kernel
theorem dX7_digit_41 : decode cX7_digit 41 = .ok (.putfield 92, 3) := by decide +kernel
theorem dX7_digit_44 : decode cX7_digit 44 = .ok (.aload_n 0, 1) := by decide +kernel
theorem dX7_digit_45 : decode cX7_digit 45 = .ok (.getfield 16, 3) := by decide +kernel
theorem dX7_digit_48 : decode cX7_digit 48 = .ok (.aload_n 0, 1) := by decide +kernel
theorem dX7_digit_49 : decode cX7_digit 49 = .ok (.getfield 92, 3) := by decide +kernel
theorem dX7_digit_52 : decode cX7_digit 52 = .ok (.iconst 1, 1) := by decide +kernel
theorem dX7_digit_53 : decode cX7_digit 53 = .ok (.isub, 1) := by decide +kernel
theorem dX7_digit_54 : decode cX7_digit 54 = .ok (.iaload, 1) := by decide +kernel
theorem dX7_digit_55 : decode cX7_digit 55 = .ok (.bipush 48, 2) := by decide +kernel
theorem dX7_digit_57 : decode cX7_digit 57 = .ok (.isub, 1) := by decide +kernel
theorem dX7_digit_58 : decode cX7_digit 58 = .ok (.ireturn, 1) := by decide +kernel
theorem dX7_isSign_0 : decode cX7_isSign 0 = .ok (.aload_n 0, 1) := by decide +kernel
theorem dX7_isSign_1 : decode cX7_isSign 1 = .ok (.getfield 92, 3) := by decide +kernel
theorem dX7_isSign_4 : decode cX7_isSign 4 = .ok (.iload_n 1, 1) := by decide +kernel
theorem dX7_isSign_5 : decode cX7_isSign 5 = .ok (.if_icmp .ge 16, 3) := by decide +kernel
theorem dX7_isSign_8 : decode cX7_isSign 8 = .ok (.aload_n 0, 1) := by decide +kernel
theorem dX7_isSign_9 : decode cX7_isSign 9 = .ok (.getfield 16, 3) := by decide +kernel
theorem dX7_isSign_12 : decode cX7_isSign 12 = .ok (.aload_n 0, 1) := by decide +kernel
theorem dX7_isSign_13 : decode cX7_isSign 13 = .ok (.getfield 92, 3) := by decide +kernel
theorem dX7_isSign_16 : decode cX7_isSign 16 = .ok (.iaload, 1) := by decide +kernel
theorem dX7_isSign_17 : decode cX7_isSign 17 = .ok (.iload_n 2, 1) := by decide +kernel
theorem dX7_isSign_18 : decode cX7_isSign 18 = .ok (.if_icmp .eq 5, 3) := by decide +kernel
theorem dX7_isSign_21 : decode cX7_isSign 21 = .ok (.iconst 0, 1) := by decide +kernel
theorem dX7_isSign_22 : decode cX7_isSign 22 = .ok (.ireturn, 1) := by decide +kernel
theorem dX7_isSign_23 : decode cX7_isSign 23 = .ok (.aload_n 0, 1) := by decide +kernel
theorem dX7_isSign_24 : decode cX7_isSign 24 = .ok (.dup, 1) := by decide +kernel
theorem dX7_isSign_25 : decode cX7_isSign 25 = .ok (.getfield 92, 3) := by decide +kernel
theorem dX7_isSign_28 : decode cX7_isSign 28 = .ok (.iconst 1, 1) := by decide +kernel
theorem dX7_isSign_29 : decode cX7_isSign 29 = .ok (.iadd, 1) := by decide +kernel
theorem dX7_isSign_30 : decode cX7_isSign 30 = .ok (.putfield 92, 3) := by decide +kernel
theorem dX7_isSign_33 : decode cX7_isSign 33 = .ok (.iconst 1, 1) := by decide +kernel
theorem dX7_isSign_34 : decode cX7_isSign 34 = .ok (.ireturn, 1) := by decide +kernel
theorem dX7_dairy_0 : decode cX7_dairy 0 = .ok (.aload_n 0, 1) := by decide +kernel
theorem dX7_dairy_1 : decode cX7_dairy 1 = .ok (.iconst 0, 1) := by decide +kernel
theorem dX7_dairy_2 : decode cX7_dairy 2 = .ok (.putfield 73, 3) := by decide +kernel
theorem dX7_dairy_5 : decode cX7_dairy 5 = .ok (.iload_n 1, 1) := by decide +kernel
theorem dX7_dairy_6 : decode cX7_dairy 6 = .ok (.invokestatic 95, 3) := by decide +kernel
theorem dX7_dairy_9 : decode cX7_dairy 9 = .ok (.ifCond .ne 5, 3) := by decide +kernel
theorem dX7_dairy_12 : decode cX7_dairy 12 = .ok (.iconst (-1), 1) := by decide +kernel
theorem dX7_dairy_13 : decode cX7_dairy 13 = .ok (.ireturn, 1) := by decide +kernel
theorem dX7_dairy_14 : decode cX7_dairy 14 = .ok (.iload_n 2, 1) := by decide +kernel
theorem dX7_dairy_15 : decode cX7_dairy 15 = .ok (.invokestatic 99, 3) := by decide +kernel
theorem dX7_dairy_18 : decode cX7_dairy 18 = .ok (.ifCond .ne 6, 3) := by decide +kernel
theorem dX7_dairy_21 : decode cX7_dairy 21 = .ok (.bipush (-2), 2) := by decide +kernel
theorem dX7_dairy_23 : decode cX7_dairy 23 = .ok (.ireturn, 1) := by decide +kernel
theorem dX7_dairy_24 : decode cX7_dairy 24 = .ok (.aload_n 0, 1) := by decide +kernel
theorem dX7_dairy_25 : decode cX7_dairy 25 = .ok (.iload_n 1, 1) := by decide +kernel
theorem dX7_dairy_26 : decode cX7_dairy 26 = .ok (.iload_n 2, 1) := by decide +kernel
theorem dX7_dairy_27 : decode cX7_dairy 27 = .ok (.iload_n 3, 1) := by decide +kernel
theorem dX7_dairy_28 : decode cX7_dairy 28 = .ok (.iload 4, 2) := by decide +kernel
theorem dX7_dairy_30 : decode cX7_dairy 30 = .ok (.invokevirtual 102, 3) := by decide +kernel
theorem dX7_dairy_33 : decode cX7_dairy 33 = .ok (.istore 5, 2) := by decide +kernel
theorem dX7_dairy_35 : decode cX7_dairy 35 = .ok (.iload 5, 2) := by decide +kernel
theorem dX7_dairy_37 : decode cX7_dairy 37 = .ok (.ifCond .eq 10, 3) := by decide +kernel
theorem dX7_dairy_40 : decode cX7_dairy 40 = .ok (.aload_n 0, 1) := by decide +kernel
theorem dX7_dairy_41 : decode cX7_dairy 41 = .ok (.iload 5, 2) := by decide +kernel
theorem dX7_dairy_43 : decode cX7_dairy 43 = .ok (.invokevirtual 106, 3) := by decide +kernel
theorem dX7_dairy_46 : decode cX7_dairy 46 = .ok (.ireturn, 1) := by decide +kernel
theorem dX7_dairy_47 : decode cX7_dairy 47 = .ok (.bipush 60, 2) := by decide +kernel
theorem dX7_dairy_49 : decode cX7_dairy 49 = .ok (.iload_n 1, 1) := by decide +kernel
theorem dX7_dairy_50 : decode cX7_dairy 50 = .ok (.imul, 1) := by decide +kernel
theorem dX7_dairy_51 : decode cX7_dairy 51 = .ok (.iload_n 3, 1) := by decide +kernel
theorem dX7_dairy_52 : decode cX7_dairy 52 = .ok (.iadd, 1) := by decide +kernel
theorem dX7_dairy_53 : decode cX7_dairy 53 = .ok (.istore 6, 2) := by decide +kernel
theorem dX7_dairy_55 : decode cX7_dairy 55 = .ok (.aload_n 0, 1) := by decide +kernel
theorem dX7_dairy_56 : decode cX7_dairy 56 = .ok (.iload 6, 2) := by decide +kernel
theorem dX7_dairy_58 : decode cX7_dairy 58 = .ok (.putfield 92, 3) := by decide +kernel
theorem dX7_dairy_61 : decode cX7_dairy 61 = .ok (.aload_n 0, 1) := by decide +kernel
theorem dX7_dairy_62 : decode cX7_dairy 62 = .ok (.iload 6, 2) := by decide +kernel
theorem dX7_dairy_64 : decode cX7_dairy 64 = .ok (.iload 4, 2) := by decide +kernel
theorem dX7_dairy_66 : decode cX7_dairy 66 = .ok (.iadd, 1) := by decide +kernel
theorem dX7_dairy_67 : decode cX7_dairy 67 = .ok (.invokevirtual 110, 3) := by decide +kernel
theorem dX7_dairy_70 : decode cX7_dairy 70 = .ok (.ifCond .ne 14, 3) := by decide +kernel
theorem dX7_dairy_73 : decode cX7_dairy 73 = .ok (.bipush (-100), 2) := by decide +kernel
theorem dX7_dairy_75 : decode cX7_dairy 75 = .ok (.aload_n 0, 1) := by decide +kernel
theorem dX7_dairy_76 : decode cX7_dairy 76 = .ok (.getfield 92, 3) := by decide +kernel
theorem dX7_dairy_79 : decode cX7_dairy 79 = .ok (.iload 6, 2) := by decide +kernel
theorem dX7_dairy_81 : decode cX7_dairy 81 = .ok (.isub, 1) := by decide +kernel
theorem dX7_dairy_82 : decode cX7_dairy 82 = .ok (.isub, 1) := by decide +kernel
theorem dX7_dairy_83 : decode cX7_dairy 83 = .ok (.ireturn, 1) := by decide +kernel
theorem dX7_dairy_84 : decode cX7_dairy 84 = .ok (.aload_n 0, 1) := by decide +kernel
theorem dX7_dairy_85 : decode cX7_dairy 85 = .ok (.invokevirtual 113, 3) := by decide +kernel
theorem dX7_dairy_88 : decode cX7_dairy 88 = .ok (.aload_n 0, 1) := by decide +kernel
theorem dX7_dairy_89 : decode cX7_dairy 89 = .ok (.getfield 89, 3) := by decide +kernel
theorem dX7_dairy_92 : decode cX7_dairy 92 = .ok (.ireturn, 1) := by decide +kernel
theorem dX7_takeDairy_0 : decode cX7_takeDairy 0 = .ok (.aload_n 0, 1) := by decide +kernel
theorem dX7_takeDairy_1 : decode cX7_takeDairy 1 = .ok (.aload_n 0, 1) := by decide +kernel
theorem dX7_takeDairy_2 : decode cX7_takeDairy 2 = .ok (.getfield 116, 3) := by decide +kernel
theorem dX7_takeDairy_5 : decode cX7_takeDairy 5 = .ok (.putfield 86, 3) := by decide +kernel
theorem dX7_takeDairy_8 : decode cX7_takeDairy 8 = .ok (.aload_n 0, 1) := by decide +kernel
theorem dX7_takeDairy_9 : decode cX7_takeDairy 9 = .ok (.aload_n 0, 1) := by decide +kernel
theorem dX7_takeDairy_10 : decode cX7_takeDairy 10 = .ok (.getfield 119, 3) := by decide +kernel
theorem dX7_takeDairy_13 : decode cX7_takeDairy 13 = .ok (.putfield 83, 3) := by decide +kernel
theorem dX7_takeDairy_16 : decode cX7_takeDairy 16 = .ok (.aload_n 0, 1) := by decide +kernel
theorem dX7_takeDairy_17 : decode cX7_takeDairy 17 = .ok (.aload_n 0, 1) := by decide +kernel
theorem dX7_takeDairy_18 : decode cX7_takeDairy 18 = .ok (.getfield 122, 3) := by decide +kernel
theorem dX7_takeDairy_21 : decode cX7_takeDairy 21 = .ok (.putfield 89, 3) := by decide +kernel
theorem dX7_takeDairy_24 : decode cX7_takeDairy 24 = .ok (.iconst 0, 1) := by decide +kernel
theorem dX7_takeDairy_25 : decode cX7_takeDairy 25 = .ok (.istore_n 1, 1) := by decide +kernel
theorem dX7_takeDairy_26 : decode cX7_takeDairy 26 = .ok (.iload_n 1, 1) := by decide +kernel
theorem dX7_takeDairy_27 : decode cX7_takeDairy 27 = .ok (.aload_n 0, 1) := by decide +kernel
theorem dX7_takeDairy_28 : decode cX7_takeDairy 28 = .ok (.getfield 83, 3) := by decide +kernel
theorem dX7_takeDairy_31 : decode cX7_takeDairy 31 = .ok (.if_icmp .ge 63, 3) := by decide +kernel
theorem dX7_takeDairy_34 : decode cX7_takeDairy 34 = .ok (.aload_n 0, 1) := by decide +kernel
theorem dX7_takeDairy_35 : decode cX7_takeDairy 35 = .ok (.getfield 19, 3) := by decide +kernel
theorem dX7_takeDairy_38 : decode cX7_takeDairy 38 = .ok (.iload_n 1, 1) := by decide +kernel
theorem dX7_takeDairy_39 : decode cX7_takeDairy 39 = .ok (.aload_n 0, 1) := by decide +kernel
theorem dX7_takeDairy_40 : decode cX7_takeDairy 40 = .ok (.getfield 49, 3) := by decide +kernel
theorem dX7_takeDairy_43 : decode cX7_takeDairy 43 = .ok (.iconst 3, 1) := by decide +kernel
theorem dX7_takeDairy_44 : decode cX7_takeDairy 44 = .ok (.iload_n 1, 1) := by decide +kernel
theorem dX7_takeDairy_45 : decode cX7_takeDairy 45 = .ok (.imul, 1) := by decide +kernel
theorem dX7_takeDairy_46 : decode cX7_takeDairy 46 = .ok (.iaload, 1) := by decide +kernel
theorem dX7_takeDairy_47 : decode cX7_takeDairy 47 = .ok (.iastore, 1) := by decide +kernel
theorem dX7_takeDairy_48 : decode cX7_takeDairy 48 = .ok (.aload_n 0, 1) := by decide +kernel
theorem dX7_takeDairy_49 : decode cX7_takeDairy 49 = .ok (.getfield 22, 3) := by decide +kernel
theorem dX7_takeDairy_52 : decode cX7_takeDairy 52 = .ok (.iload_n 1, 1) := by decide +kernel
theorem dX7_takeDairy_53 : decode cX7_takeDairy 53 = .ok (.aload_n 0, 1) := by decide +kernel
theorem dX7_takeDairy_54 : decode cX7_takeDairy 54 = .ok (.getfield 49, 3) := by decide +kernel
theorem dX7_takeDairy_57 : decode cX7_takeDairy 57 = .ok (.iconst 3, 1) := by decide +kernel
theorem dX7_takeDairy_58 : decode cX7_takeDairy 58 = .ok (.iload_n 1, 1) := by decide +kernel
theorem dX7_takeDairy_59 : decode cX7_takeDairy 59 = .ok (.imul, 1) := by decide +kernel
theorem dX7_takeDairy_60 : decode cX7_takeDairy 60 = .ok (.iconst 1, 1) := by decide +kernel
theorem dX7_takeDairy_61 : decode cX7_takeDairy 61 = .ok (.iadd, 1) := by decide +kernel
theorem dX7_takeDairy_62 : decode cX7_takeDairy 62 = .ok (.iaload, 1) := by decide +kernel
theorem dX7_takeDairy_63 : decode cX7_takeDairy 63 = .ok (.iastore, 1) := by decide +kernel
theorem dX7_takeDairy_64 : decode cX7_takeDairy 64 = .ok (.aload_n 0, 1) := by decide +kernel
theorem dX7_takeDairy_65 : decode cX7_takeDairy 65 = .ok (.getfield 25, 3) := by decide +kernel
theorem dX7_takeDairy_68 : decode cX7_takeDairy 68 = .ok (.iload_n 1, 1) := by decide +kernel
theorem dX7_takeDairy_69 : decode cX7_takeDairy 69 = .ok (.aload_n 0, 1) := by decide +kernel
theorem dX7_takeDairy_70 : decode cX7_takeDairy 70 = .ok (.getfield 49, 3) := by decide +kernel
theorem dX7_takeDairy_73 : decode cX7_takeDairy 73 = .ok (.iconst 3, 1) := by decide +kernel
theorem dX7_takeDairy_74 : decode cX7_takeDairy 74 = .ok (.iload_n 1, 1) := by decide +kernel
theorem dX7_takeDairy_75 : decode cX7_takeDairy 75 = .ok (.imul, 1) := by decide +kernel
theorem dX7_takeDairy_76 : decode cX7_takeDairy 76 = .ok (.iconst 2, 1) := by decide +kernel
theorem dX7_takeDairy_77 : decode cX7_takeDairy 77 = .ok (.iadd, 1) := by decide +kernel
theorem dX7_takeDairy_78 : decode cX7_takeDairy 78 = .ok (.iaload, 1) := by decide +kernel
theorem dX7_takeDairy_79 : decode cX7_takeDairy 79 = .ok (.iastore, 1) := by decide +kernel
theorem dX7_takeDairy_80 : decode cX7_takeDairy 80 = .ok (.aload_n 0, 1) := by decide +kernel
theorem dX7_takeDairy_81 : decode cX7_takeDairy 81 = .ok (.getfield 28, 3) := by decide +kernel
theorem dX7_takeDairy_84 : decode cX7_takeDairy 84 = .ok (.iload_n 1, 1) := by decide +kernel
theorem dX7_takeDairy_85 : decode cX7_takeDairy 85 = .ok (.bipush (-9), 2) := by decide +kernel
theorem dX7_takeDairy_87 : decode cX7_takeDairy 87 = .ok (.iastore, 1) := by decide +kernel
theorem dX7_takeDairy_88 : decode cX7_takeDairy 88 = .ok (.iinc 1 1, 3) := by decide +kernel
theorem dX7_takeDairy_91 : decode cX7_takeDairy 91 = .ok (.goto (-65), 3) := by decide +kernel
theorem dX7_takeDairy_94 : decode cX7_takeDairy 94 = .ok (.iconst 0, 1) := by decide +kernel
theorem dX7_takeDairy_95 : decode cX7_takeDairy 95 = .ok (.istore_n 1, 1) := by decide +kernel
theorem dX7_takeDairy_96 : decode cX7_takeDairy 96 = .ok (.iload_n 1, 1) := by decide +kernel
theorem dX7_takeDairy_97 : decode cX7_takeDairy 97 = .ok (.aload_n 0, 1) := by decide +kernel
theorem dX7_takeDairy_98 : decode cX7_takeDairy 98 = .ok (.getfield 89, 3) := by decide +kernel
theorem dX7_takeDairy_101 : decode cX7_takeDairy 101 = .ok (.if_icmp .ge 55, 3) := by decide +kernel
theorem dX7_takeDairy_104 : decode cX7_takeDairy 104 = .ok (.aload_n 0, 1) := by decide +kernel
theorem dX7_takeDairy_105 : decode cX7_takeDairy 105 = .ok (.getfield 31, 3) := by decide +kernel
theorem dX7_takeDairy_108 : decode cX7_takeDairy 108 = .ok (.iload_n 1, 1) := by decide +kernel
theorem dX7_takeDairy_109 : decode cX7_takeDairy 109 = .ok (.aload_n 0, 1) := by decide +kernel
theorem dX7_takeDairy_110 : decode cX7_takeDairy 110 = .ok (.getfield 52, 3) := by decide +kernel
theorem dX7_takeDairy_113 : decode cX7_takeDairy 113 = .ok (.iconst 3, 1) := by decide +kernel
theorem dX7_takeDairy_114 : decode cX7_takeDairy 114 = .ok (.iload_n 1, 1) := by decide +kernel
theorem dX7_takeDairy_115 : decode cX7_takeDairy 115 = .ok (.imul, 1) := by decide +kernel
theorem dX7_takeDairy_116 : decode cX7_takeDairy 116 = .ok (.iaload, 1) := by decide +kernel
theorem dX7_takeDairy_117 : decode cX7_takeDairy 117 = .ok (.iastore, 1) := by decide +kernel
theorem dX7_takeDairy_118 : decode cX7_takeDairy 118 = .ok (.aload_n 0, 1) := by decide +kernel
theorem dX7_takeDairy_119 : decode cX7_takeDairy 119 = .ok (.getfield 34, 3) := by decide +kernel
theorem dX7_takeDairy_122 : decode cX7_takeDairy 122 = .ok (.iload_n 1, 1) := by decide +kernel
theorem dX7_takeDairy_123 : decode cX7_takeDairy 123 = .ok (.aload_n 0, 1) := by decide +kernel
theorem dX7_takeDairy_124 : decode cX7_takeDairy 124 = .ok (.getfield 52, 3) := by decide +kernel
theorem dX7_takeDairy_127 : decode cX7_takeDairy 127 = .ok (.iconst 3, 1) := by decide +kernel
theorem dX7_takeDairy_128 : decode cX7_takeDairy 128 = .ok (.iload_n 1, 1) := by decide +kernel
theorem dX7_takeDairy_129 : decode cX7_takeDairy 129 = .ok (.imul, 1) := by decide +kernel
theorem dX7_takeDairy_130 : decode cX7_takeDairy 130 = .ok (.iconst 1, 1) := by decide +kernel
theorem dX7_takeDairy_131 : decode cX7_takeDairy 131 = .ok (.iadd, 1) := by decide +kernel
theorem dX7_takeDairy_132 : decode cX7_takeDairy 132 = .ok (.iaload, 1) := by decide +kernel
theorem dX7_takeDairy_133 : decode cX7_takeDairy 133 = .ok (.iastore, 1) := by decide +kernel
theorem dX7_takeDairy_134 : decode cX7_takeDairy 134 = .ok (.aload_n 0, 1) := by decide +kernel
theorem dX7_takeDairy_135 : decode cX7_takeDairy 135 = .ok (.getfield 37, 3) := by decide +kernel
theorem dX7_takeDairy_138 : decode cX7_takeDairy 138 = .ok (.iload_n 1, 1) := by decide +kernel
theorem dX7_takeDairy_139 : decode cX7_takeDairy 139 = .ok (.aload_n 0, 1) := by decide +kernel
theorem dX7_takeDairy_140 : decode cX7_takeDairy 140 = .ok (.getfield 52, 3) := by decide +kernel
theorem dX7_takeDairy_143 : decode cX7_takeDairy 143 = .ok (.iconst 3, 1) := by decide +kernel
theorem dX7_takeDairy_144 : decode cX7_takeDairy 144 = .ok (.iload_n 1, 1) := by decide +kernel
theorem dX7_takeDairy_145 : decode cX7_takeDairy 145 = .ok (.imul, 1) := by decide +kernel
theorem dX7_takeDairy_146 : decode cX7_takeDairy 146 = .ok (.iconst 2, 1) := by decide +kernel
theorem dX7_takeDairy_147 : decode cX7_takeDairy 147 = .ok (.iadd, 1) := by decide +kernel
theorem dX7_takeDairy_148 : decode cX7_takeDairy 148 = .ok (.iaload, 1) := by decide +kernel
theorem dX7_takeDairy_149 : decode cX7_takeDairy 149 = .ok (.iastore, 1) := by decide +kernel
theorem dX7_takeDairy_150 : decode cX7_takeDairy 150 = .ok (.iinc 1 1, 3) := by decide +kernel
theorem dX7_takeDairy_153 : decode cX7_takeDairy 153 = .ok (.goto (-57), 3) := by decide +kernel
theorem dX7_takeDairy_156 : decode cX7_takeDairy 156 = .ok (.aload_n 0, 1) := by decide +kernel
theorem dX7_takeDairy_157 : decode cX7_takeDairy 157 = .ok (.iconst 0, 1) := by decide +kernel
theorem dX7_takeDairy_158 : decode cX7_takeDairy 158 = .ok (.putfield 125, 3) := by decide +kernel
theorem dX7_takeDairy_161 : decode cX7_takeDairy 161 = .ok (.aload_n 0, 1) := by decide +kernel
theorem dX7_takeDairy_162 : decode cX7_takeDairy 162 = .ok (.iconst 0, 1) := by decide +kernel
theorem dX7_takeDairy_163 : decode cX7_takeDairy 163 = .ok (.putfield 128, 3) := by decide +kernel
theorem dX7_takeDairy_166 : decode cX7_takeDairy 166 = .ok (.return_, 1) := by decide +kernel
theorem dX7_readDairy_0 : decode cX7_readDairy 0 = .ok (.aload_n 0, 1) := by decide +kernel
theorem dX7_readDairy_1 : decode cX7_readDairy 1 = .ok (.iconst 0, 1) := by decide +kernel
theorem dX7_readDairy_2 : decode cX7_readDairy 2 = .ok (.putfield 119, 3) := by decide +kernel
theorem dX7_readDairy_5 : decode cX7_readDairy 5 = .ok (.aload_n 0, 1) := by decide +kernel
theorem dX7_readDairy_6 : decode cX7_readDairy 6 = .ok (.iconst 0, 1) := by decide +kernel
theorem dX7_readDairy_7 : decode cX7_readDairy 7 = .ok (.putfield 122, 3) := by decide +kernel
theorem dX7_readDairy_10 : decode cX7_readDairy 10 = .ok (.aload_n 0, 1) := by decide +kernel
theorem dX7_readDairy_11 : decode cX7_readDairy 11 = .ok (.iload_n 1, 1) := by decide +kernel
theorem dX7_readDairy_12 : decode cX7_readDairy 12 = .ok (.bipush 113, 2) := by decide +kernel
theorem dX7_readDairy_14 : decode cX7_readDairy 14 = .ok (.invokevirtual 131, 3) := by decide +kernel
theorem dX7_readDairy_17 : decode cX7_readDairy 17 = .ok (.ifCond .ne 5, 3) := by decide +kernel
theorem dX7_readDairy_20 : decode cX7_readDairy 20 = .ok (.iconst 0, 1) := by decide +kernel
theorem dX7_readDairy_21 : decode cX7_readDairy 21 = .ok (.ireturn, 1) := by decide +kernel
theorem dX7_readDairy_22 : decode cX7_readDairy 22 = .ok (.aload_n 0, 1) := by decide +kernel
theorem dX7_readDairy_23 : decode cX7_readDairy 23 = .ok (.aload_n 0, 1) := by decide +kernel
theorem dX7_readDairy_24 : decode cX7_readDairy 24 = .ok (.iload_n 1, 1) := by decide +kernel
theorem dX7_readDairy_25 : decode cX7_readDairy 25 = .ok (.iconst 1, 1) := by decide +kernel
theorem dX7_readDairy_26 : decode cX7_readDairy 26 = .ok (.iconst 5, 1) := by decide +kernel
theorem dX7_readDairy_27 : decode cX7_readDairy 27 = .ok (.invokevirtual 135, 3) := by decide +kernel
theorem dX7_readDairy_30 : decode cX7_readDairy 30 = .ok (.putfield 116, 3) := by decide +kernel
theorem dX7_readDairy_33 : decode cX7_readDairy 33 = .ok (.aload_n 0, 1) := by decide +kernel
theorem dX7_readDairy_34 : decode cX7_readDairy 34 = .ok (.getfield 116, 3) := by decide +kernel
theorem dX7_readDairy_37 : decode cX7_readDairy 37 = .ok (.bipush (-9), 2) := by decide +kernel
theorem dX7_readDairy_39 : decode cX7_readDairy 39 = .ok (.if_icmp .eq 21, 3) := by decide +kernel
theorem dX7_readDairy_42 : decode cX7_readDairy 42 = .ok (.aload_n 0, 1) := by decide +kernel
theorem dX7_readDairy_43 : decode cX7_readDairy 43 = .ok (.iload_n 1, 1) := by decide +kernel
theorem dX7_readDairy_44 : decode cX7_readDairy 44 = .ok (.bipush 44, 2) := by decide +kernel
theorem dX7_readDairy_46 : decode cX7_readDairy 46 = .ok (.invokevirtual 131, 3) := by decide +kernel
theorem dX7_readDairy_49 : decode cX7_readDairy 49 = .ok (.ifCond .eq 11, 3) := by decide +kernel
theorem dX7_readDairy_52 : decode cX7_readDairy 52 = .ok (.aload_n 0, 1) := by decide +kernel
theorem dX7_readDairy_53 : decode cX7_readDairy 53 = .ok (.iload_n 1, 1) := by decide +kernel
theorem dX7_readDairy_54 : decode cX7_readDairy 54 = .ok (.invokevirtual 139, 3) := by decide +kernel
theorem dX7_readDairy_57 : decode cX7_readDairy 57 = .ok (.ifCond .ne 5, 3) := by decide +kernel
theorem dX7_readDairy_60 : decode cX7_readDairy 60 = .ok (.iconst 0, 1) := by decide +kernel
theorem dX7_readDairy_61 : decode cX7_readDairy 61 = .ok (.ireturn, 1) := by decide +kernel
theorem dX7_readDairy_62 : decode cX7_readDairy 62 = .ok (.aload_n 0, 1) := by decide +kernel
theorem dX7_readDairy_63 : decode cX7_readDairy 63 = .ok (.getfield 119, 3) := by decide +kernel
theorem dX7_readDairy_66 : decode cX7_readDairy 66 = .ok (.iconst 4, 1) := by decide +kernel
theorem dX7_readDairy_67 : decode cX7_readDairy 67 = .ok (.if_icmp .ge 23, 3) := by decide +kernel
theorem dX7_readDairy_70 : decode cX7_readDairy 70 = .ok (.aload_n 0, 1) := by decide +kernel
theorem dX7_readDairy_71 : decode cX7_readDairy 71 = .ok (.iload_n 1, 1) := by decide +kernel
theorem dX7_readDairy_72 : decode cX7_readDairy 72 = .ok (.bipush 44, 2) := by decide +kernel
theorem dX7_readDairy_74 : decode cX7_readDairy 74 = .ok (.invokevirtual 131, 3) := by decide +kernel
theorem dX7_readDairy_77 : decode cX7_readDairy 77 = .ok (.ifCond .eq 13, 3) := by decide +kernel
theorem dX7_readDairy_80 : decode cX7_readDairy 80 = .ok (.aload_n 0, 1) := by decide +kernel
theorem dX7_readDairy_81 : decode cX7_readDairy 81 = .ok (.iload_n 1, 1) := by decide +kernel
theorem dX7_readDairy_82 : decode cX7_readDairy 82 = .ok (.invokevirtual 139, 3) := by decide +kernel
theorem dX7_readDairy_85 : decode cX7_readDairy 85 = .ok (.ifCond .ne (-23), 3) := by decide +kernel
theorem dX7_readDairy_88 : decode cX7_readDairy 88 = .ok (.iconst 0, 1) := by decide +kernel
theorem dX7_readDairy_89 : decode cX7_readDairy 89 = .ok (.ireturn, 1) := by decide +kernel
theorem dX7_readDairy_90 : decode cX7_readDairy 90 = .ok (.aload_n 0, 1) := by decide +kernel
theorem dX7_readDairy_91 : decode cX7_readDairy 91 = .ok (.iload_n 1, 1) := by decide +kernel
theorem dX7_readDairy_92 : decode cX7_readDairy 92 = .ok (.bipush 59, 2) := by decide +kernel
theorem dX7_readDairy_94 : decode cX7_readDairy 94 = .ok (.invokevirtual 131, 3) := by decide +kernel
theorem dX7_readDairy_97 : decode cX7_readDairy 97 = .ok (.ifCond .eq 11, 3) := by decide +kernel
theorem dX7_readDairy_100 : decode cX7_readDairy 100 = .ok (.aload_n 0, 1) := by decide +kernel
theorem dX7_readDairy_101 : decode cX7_readDairy 101 = .ok (.iload_n 1, 1) := by decide +kernel
theorem dX7_readDairy_102 : decode cX7_readDairy 102 = .ok (.invokevirtual 142, 3) := by decide +kernel
theorem dX7_readDairy_105 : decode cX7_readDairy 105 = .ok (.ifCond .ne 5, 3) := by decide +kernel
theorem dX7_readDairy_108 : decode cX7_readDairy 108 = .ok (.iconst 0, 1) := by decide +kernel
theorem dX7_readDairy_109 : decode cX7_readDairy 109 = .ok (.ireturn, 1) := by decide +kernel
theorem dX7_readDairy_110 : decode cX7_readDairy 110 = .ok (.aload_n 0, 1) := by decide +kernel
theorem dX7_readDairy_111 : decode cX7_readDairy 111 = .ok (.getfield 122, 3) := by decide +kernel
theorem dX7_readDairy_114 : decode cX7_readDairy 114 = .ok (.bipush 8, 2) := by decide +kernel
theorem dX7_readDairy_116 : decode cX7_readDairy 116 = .ok (.if_icmp .ge 23, 3) := by decide +kernel
theorem dX7_readDairy_119 : decode cX7_readDairy 119 = .ok (.aload_n 0, 1) := by decide +kernel
theorem dX7_readDairy_120 : decode cX7_readDairy 120 = .ok (.iload_n 1, 1) := by decide +kernel
theorem dX7_readDairy_121 : decode cX7_readDairy 121 = .ok (.bipush 59, 2) := by decide +kernel
theorem dX7_readDairy_123 : decode cX7_readDairy 123 = .ok (.invokevirtual 131, 3) := by decide +kernel
theorem dX7_readDairy_126 : decode cX7_readDairy 126 = .ok (.ifCond .eq 13, 3) := by decide +kernel
theorem dX7_readDairy_129 : decode cX7_readDairy 129 = .ok (.aload_n 0, 1) := by decide +kernel
theorem dX7_readDairy_130 : decode cX7_readDairy 130 = .ok (.iload_n 1, 1) := by decide +kernel
theorem dX7_readDairy_131 : decode cX7_readDairy 131 = .ok (.invokevirtual 142, 3) := by decide +kernel
theorem dX7_readDairy_134 : decode cX7_readDairy 134 = .ok (.ifCond .ne (-24), 3) := by decide +kernel
theorem dX7_readDairy_137 : decode cX7_readDairy 137 = .ok (.iconst 0, 1) := by decide +kernel
theorem dX7_readDairy_138 : decode cX7_readDairy 138 = .ok (.ireturn, 1) := by decide +kernel
theorem dX7_readDairy_139 : decode cX7_readDairy 139 = .ok (.aload_n 0, 1) := by decide +kernel
theorem dX7_readDairy_140 : decode cX7_readDairy 140 = .ok (.getfield 92, 3) := by decide +kernel
theorem dX7_readDairy_143 : decode cX7_readDairy 143 = .ok (.iload_n 1, 1) := by decide +kernel
theorem dX7_readDairy_144 : decode cX7_readDairy 144 = .ok (.if_icmp .ne 7, 3) := by decide +kernel
theorem dX7_readDairy_147 : decode cX7_readDairy 147 = .ok (.iconst 1, 1) := by decide +kernel
theorem dX7_readDairy_148 : decode cX7_readDairy 148 = .ok (.goto 4, 3) := by decide +kernel
theorem dX7_readDairy_151 : decode cX7_readDairy 151 = .ok (.iconst 0, 1) := by decide +kernel
theorem dX7_readDairy_152 : decode cX7_readDairy 152 = .ok (.ireturn, 1) := by decide +kernel
theorem dX7_readOneCheese_0 : decode cX7_readOneCheese 0 = .ok (.iconst 3, 1) := by decide +kernel
theorem dX7_readOneCheese_1 : decode cX7_readOneCheese 1 = .ok (.aload_n 0, 1) := by decide +kernel
theorem dX7_readOneCheese_2 : decode cX7_readOneCheese 2 = .ok (.getfield 119, 3) := by decide +kernel
theorem dX7_readOneCheese_5 : decode cX7_readOneCheese 5 = .ok (.imul, 1) := by decide +kernel
theorem dX7_readOneCheese_6 : decode cX7_readOneCheese 6 = .ok (.istore_n 2, 1) := by decide +kernel
theorem dX7_readOneCheese_7 : decode cX7_readOneCheese 7 = .ok (.aload_n 0, 1) := by decide +kernel
theorem dX7_readOneCheese_8 : decode cX7_readOneCheese 8 = .ok (.getfield 92, 3) := by decide +kernel
theorem dX7_readOneCheese_11 : decode cX7_readOneCheese 11 = .ok (.iload_n 1, 1) := by decide +kernel
theorem dX7_readOneCheese_12 : decode cX7_readOneCheese 12 = .ok (.if_icmp .ge 15, 3) := by decide +kernel
theorem dX7_readOneCheese_15 : decode cX7_readOneCheese 15 = .ok (.aload_n 0, 1) := by decide +kernel
theorem dX7_readOneCheese_16 : decode cX7_readOneCheese 16 = .ok (.getfield 16, 3) := by decide +kernel
theorem dX7_readOneCheese_19 : decode cX7_readOneCheese 19 = .ok (.aload_n 0, 1) := by decide +kernel
theorem dX7_readOneCheese_20 : decode cX7_readOneCheese 20 = .ok (.getfield 92, 3) := by decide +kernel
theorem dX7_readOneCheese_23 : decode cX7_readOneCheese 23 = .ok (.iaload, 1) := by decide +kernel
theorem dX7_readOneCheese_24 : decode cX7_readOneCheese 24 = .ok (.goto 4, 3) := by decide +kernel
theorem dX7_readOneCheese_27 : decode cX7_readOneCheese 27 = .ok (.iconst 0, 1) := by decide +kernel
theorem dX7_readOneCheese_28 : decode cX7_readOneCheese 28 = .ok (.istore_n 3, 1) := by decide +kernel
theorem dX7_readOneCheese_29 : decode cX7_readOneCheese 29 = .ok (.aload_n 0, 1) := by decide +kernel
theorem dX7_readOneCheese_30 : decode cX7_readOneCheese 30 = .ok (.getfield 49, 3) := by decide +kernel
theorem dX7_readOneCheese_33 : decode cX7_readOneCheese 33 = .ok (.iload_n 2, 1) := by decide +kernel
theorem dX7_readOneCheese_34 : decode cX7_readOneCheese 34 = .ok (.iload_n 3, 1) := by decide +kernel
theorem dX7_readOneCheese_35 : decode cX7_readOneCheese 35 = .ok (.bipush 99, 2) := by decide +kernel
theorem dX7_readOneCheese_37 : decode cX7_readOneCheese 37 = .ok (.if_icmp .ne 7, 3) := by decide +kernel
theorem dX7_readOneCheese_40 : decode cX7_readOneCheese 40 = .ok (.iconst 0, 1) := by decide +kernel
theorem dX7_readOneCheese_41 : decode cX7_readOneCheese 41 = .ok (.goto 25, 3) := by decide +kernel
theorem dX7_readOneCheese_44 : decode cX7_readOneCheese 44 = .ok (.iload_n 3, 1) := by decide +kernel
theorem dX7_readOneCheese_45 : decode cX7_readOneCheese 45 = .ok (.bipush 119, 2) := by decide +kernel
theorem dX7_readOneCheese_47 : decode cX7_readOneCheese 47 = .ok (.if_icmp .ne 7, 3) := by decide +kernel
theorem dX7_readOneCheese_50 : decode cX7_readOneCheese 50 = .ok (.iconst 1, 1) := by decide +kernel
theorem dX7_readOneCheese_51 : decode cX7_readOneCheese 51 = .ok (.goto 15, 3) := by decide +kernel
theorem dX7_readOneCheese_54 : decode cX7_readOneCheese 54 = .ok (.iload_n 3, 1) := by decide +kernel
theorem dX7_readOneCheese_55 : decode cX7_readOneCheese 55 = .ok (.bipush 109, 2) := by decide +kernel
theorem dX7_readOneCheese_57 : decode cX7_readOneCheese 57 = .ok (.if_icmp .ne 7, 3) := by decide +kernel
theorem dX7_readOneCheese_60 : decode cX7_readOneCheese 60 = .ok (.iconst 2, 1) := by decide +kernel
theorem dX7_readOneCheese_61 : decode cX7_readOneCheese 61 = .ok (.goto 5, 3) := by decide +kernel
theorem dX7_readOneCheese_64 : decode cX7_readOneCheese 64 = .ok (.bipush (-9), 2) := by decide +kernel
theorem dX7_readOneCheese_66 : decode cX7_readOneCheese 66 = .ok (.iastore, 1) := by decide +kernel
theorem dX7_readOneCheese_67 : decode cX7_readOneCheese 67 = .ok (.aload_n 0, 1) := by decide +kernel
theorem dX7_readOneCheese_68 : decode cX7_readOneCheese 68 = .ok (.getfield 49, 3) := by decide +kernel
theorem dX7_readOneCheese_71 : decode cX7_readOneCheese 71 = .ok (.iload_n 2, 1) := by decide +kernel
theorem dX7_readOneCheese_72 : decode cX7_readOneCheese 72 = .ok (.iaload, 1) := by decide +kernel
theorem dX7_readOneCheese_73 : decode cX7_readOneCheese 73 = .ok (.bipush (-9), 2) := by decide +kernel
theorem dX7_readOneCheese_75 : decode cX7_readOneCheese 75 = .ok (.if_icmp .ne 5, 3) := by decide +kernel
theorem dX7_readOneCheese_78 : decode cX7_readOneCheese 78 = .ok (.iconst 0, 1) := by decide +kernel
theorem dX7_readOneCheese_79 : decode cX7_readOneCheese 79 = .ok (.ireturn, 1) := by decide +kernel
theorem dX7_readOneCheese_80 : decode cX7_readOneCheese 80 = .ok (.aload_n 0, 1) := by decide +kernel
theorem dX7_readOneCheese_81 : decode cX7_readOneCheese 81 = .ok (.dup, 1) := by decide +kernel
theorem dX7_readOneCheese_82 : decode cX7_readOneCheese 82 = .ok (.getfield 92, 3) := by decide +kernel
theorem dX7_readOneCheese_85 : decode cX7_readOneCheese 85 = .ok (.iconst 1, 1) := by decide +kernel
theorem dX7_readOneCheese_86 : decode cX7_readOneCheese 86 = .ok (.iadd, 1) := by decide +kernel
theorem dX7_readOneCheese_87 : decode cX7_readOneCheese 87 = .ok (.putfield 92, 3) := by decide +kernel
theorem dX7_readOneCheese_90 : decode cX7_readOneCheese 90 = .ok (.aload_n 0, 1) := by decide +kernel
theorem dX7_readOneCheese_91 : decode cX7_readOneCheese 91 = .ok (.getfield 49, 3) := by decide +kernel
theorem dX7_readOneCheese_94 : decode cX7_readOneCheese 94 = .ok (.iload_n 2, 1) := by decide +kernel
theorem dX7_readOneCheese_95 : decode cX7_readOneCheese 95 = .ok (.iconst 1, 1) := by decide +kernel
theorem dX7_readOneCheese_96 : decode cX7_readOneCheese 96 = .ok (.iadd, 1) := by decide +kernel
theorem dX7_readOneCheese_97 : decode cX7_readOneCheese 97 = .ok (.aload_n 0, 1) := by decide +kernel
theorem dX7_readOneCheese_98 : decode cX7_readOneCheese 98 = .ok (.iload_n 1, 1) := by decide +kernel
theorem dX7_readOneCheese_99 : decode cX7_readOneCheese 99 = .ok (.iconst 0, 1) := by decide +kernel
theorem dX7_readOneCheese_100 : decode cX7_readOneCheese 100 = .ok (.aload_n 0, 1) := by decide +kernel
theorem dX7_readOneCheese_101 : decode cX7_readOneCheese 101 = .ok (.getfield 116, 3) := by decide +kernel
theorem dX7_readOneCheese_104 : decode cX7_readOneCheese 104 = .ok (.iconst 1, 1) := by decide +kernel
theorem dX7_readOneCheese_105 : decode cX7_readOneCheese 105 = .ok (.isub, 1) := by decide +kernel
theorem dX7_readOneCheese_106 : decode cX7_readOneCheese 106 = .ok (.invokevirtual 135, 3) := by decide +kernel
theorem dX7_readOneCheese_109 : decode cX7_readOneCheese 109 = .ok (.iastore, 1) := by decide +kernel
theorem dX7_readOneCheese_110 : decode cX7_readOneCheese 110 = .ok (.aload_n 0, 1) := by decide +kernel
theorem dX7_readOneCheese_111 : decode cX7_readOneCheese 111 = .ok (.getfield 49, 3) := by decide +kernel
theorem dX7_readOneCheese_114 : decode cX7_readOneCheese 114 = .ok (.iload_n 2, 1) := by decide +kernel
theorem dX7_readOneCheese_115 : decode cX7_readOneCheese 115 = .ok (.iconst 1, 1) := by decide +kernel
theorem dX7_readOneCheese_116 : decode cX7_readOneCheese 116 = .ok (.iadd, 1) := by decide +kernel
theorem dX7_readOneCheese_117 : decode cX7_readOneCheese 117 = .ok (.iaload, 1) := by decide +kernel
theorem dX7_readOneCheese_118 : decode cX7_readOneCheese 118 = .ok (.bipush (-9), 2) := by decide +kernel
theorem dX7_readOneCheese_120 : decode cX7_readOneCheese 120 = .ok (.if_icmp .ne 5, 3) := by decide +kernel
theorem dX7_readOneCheese_123 : decode cX7_readOneCheese 123 = .ok (.iconst 0, 1) := by decide +kernel
theorem dX7_readOneCheese_124 : decode cX7_readOneCheese 124 = .ok (.ireturn, 1) := by decide +kernel
theorem dX7_readOneCheese_125 : decode cX7_readOneCheese 125 = .ok (.aload_n 0, 1) := by decide +kernel
theorem dX7_readOneCheese_126 : decode cX7_readOneCheese 126 = .ok (.getfield 49, 3) := by decide +kernel
theorem dX7_readOneCheese_129 : decode cX7_readOneCheese 129 = .ok (.iload_n 2, 1) := by decide +kernel
theorem dX7_readOneCheese_130 : decode cX7_readOneCheese 130 = .ok (.iconst 2, 1) := by decide +kernel
theorem dX7_readOneCheese_131 : decode cX7_readOneCheese 131 = .ok (.iadd, 1) := by decide +kernel
theorem dX7_readOneCheese_132 : decode cX7_readOneCheese 132 = .ok (.aload_n 0, 1) := by decide +kernel
theorem dX7_readOneCheese_133 : decode cX7_readOneCheese 133 = .ok (.iload_n 1, 1) := by decide +kernel
theorem dX7_readOneCheese_134 : decode cX7_readOneCheese 134 = .ok (.iconst 0, 1) := by decide +kernel
theorem dX7_readOneCheese_135 : decode cX7_readOneCheese 135 = .ok (.bipush 9, 2) := by decide +kernel
theorem dX7_readOneCheese_137 : decode cX7_readOneCheese 137 = .ok (.invokevirtual 135, 3) := by decide +kernel
theorem dX7_readOneCheese_140 : decode cX7_readOneCheese 140 = .ok (.iastore, 1) := by decide +kernel
theorem dX7_readOneCheese_141 : decode cX7_readOneCheese 141 = .ok (.aload_n 0, 1) := by decide +kernel
theorem dX7_readOneCheese_142 : decode cX7_readOneCheese 142 = .ok (.dup, 1) := by decide +kernel
theorem dX7_readOneCheese_143 : decode cX7_readOneCheese 143 = .ok (.getfield 119, 3) := by decide +kernel
theorem dX7_readOneCheese_146 : decode cX7_readOneCheese 146 = .ok (.iconst 1, 1) := by decide +kernel
theorem dX7_readOneCheese_147 : decode cX7_readOneCheese 147 = .ok (.iadd, 1) := by decide +kernel
theorem dX7_readOneCheese_148 : decode cX7_readOneCheese 148 = .ok (.putfield 119, 3) := by decide +kernel
theorem dX7_readOneCheese_151 : decode cX7_readOneCheese 151 = .ok (.aload_n 0, 1) := by decide +kernel
theorem dX7_readOneCheese_152 : decode cX7_readOneCheese 152 = .ok (.getfield 49, 3) := by decide +kernel
theorem dX7_readOneCheese_155 : decode cX7_readOneCheese 155 = .ok (.iload_n 2, 1) := by decide +kernel
theorem dX7_readOneCheese_156 : decode cX7_readOneCheese 156 = .ok (.iconst 2, 1) := by decide +kernel
theorem dX7_readOneCheese_157 : decode cX7_readOneCheese 157 = .ok (.iadd, 1) := by decide +kernel
theorem dX7_readOneCheese_158 : decode cX7_readOneCheese 158 = .ok (.iaload, 1) := by decide +kernel
theorem dX7_readOneCheese_159 : decode cX7_readOneCheese 159 = .ok (.bipush (-9), 2) := by decide +kernel
theorem dX7_readOneCheese_161 : decode cX7_readOneCheese 161 = .ok (.if_icmp .eq 7, 3) := by decide +kernel
theorem dX7_readOneCheese_164 : decode cX7_readOneCheese 164 = .ok (.iconst 1, 1) := by decide +kernel
theorem dX7_readOneCheese_165 : decode cX7_readOneCheese 165 = .ok (.goto 4, 3) := by decide +kernel
theorem dX7_readOneCheese_168 : decode cX7_readOneCheese 168 = .ok (.iconst 0, 1) := by decide +kernel
theorem dX7_readOneCheese_169 : decode cX7_readOneCheese 169 = .ok (.ireturn, 1) := by decide +kernel
theorem dX7_readOneTalk_0 : decode cX7_readOneTalk 0 = .ok (.iconst 3, 1) := by decide +kernel
theorem dX7_readOneTalk_1 : decode cX7_readOneTalk 1 = .ok (.aload_n 0, 1) := by decide +kernel
theorem dX7_readOneTalk_2 : decode cX7_readOneTalk 2 = .ok (.getfield 122, 3) := by decide +kernel
theorem dX7_readOneTalk_5 : decode cX7_readOneTalk 5 = .ok (.imul, 1) := by decide +kernel
theorem dX7_readOneTalk_6 : decode cX7_readOneTalk 6 = .ok (.istore_n 2, 1) := by decide +kernel
theorem dX7_readOneTalk_7 : decode cX7_readOneTalk 7 = .ok (.aload_n 0, 1) := by decide +kernel
theorem dX7_readOneTalk_8 : decode cX7_readOneTalk 8 = .ok (.getfield 52, 3) := by decide +kernel
theorem dX7_readOneTalk_11 : decode cX7_readOneTalk 11 = .ok (.iload_n 2, 1) := by decide +kernel
theorem dX7_readOneTalk_12 : decode cX7_readOneTalk 12 = .ok (.aload_n 0, 1) := by decide +kernel
theorem dX7_readOneTalk_13 : decode cX7_readOneTalk 13 = .ok (.iload_n 1, 1) := by decide +kernel
theorem dX7_readOneTalk_14 : decode cX7_readOneTalk 14 = .ok (.iconst 0, 1) := by decide +kernel
theorem dX7_readOneTalk_15 : decode cX7_readOneTalk 15 = .ok (.aload_n 0, 1) := by decide +kernel
theorem dX7_readOneTalk_16 : decode cX7_readOneTalk 16 = .ok (.getfield 116, 3) := by decide +kernel
theorem dX7_readOneTalk_19 : decode cX7_readOneTalk 19 = .ok (.iconst 1, 1) := by decide +kernel
theorem dX7_readOneTalk_20 : decode cX7_readOneTalk 20 = .ok (.isub, 1) := by decide +kernel
theorem dX7_readOneTalk_21 : decode cX7_readOneTalk 21 = .ok (.invokevirtual 135, 3) := by decide +kernel
theorem dX7_readOneTalk_24 : decode cX7_readOneTalk 24 = .ok (.iastore, 1) := by decide +kernel
theorem dX7_readOneTalk_25 : decode cX7_readOneTalk 25 = .ok (.aload_n 0, 1) := by decide +kernel
theorem dX7_readOneTalk_26 : decode cX7_readOneTalk 26 = .ok (.getfield 52, 3) := by decide +kernel
theorem dX7_readOneTalk_29 : decode cX7_readOneTalk 29 = .ok (.iload_n 2, 1) := by decide +kernel
theorem dX7_readOneTalk_30 : decode cX7_readOneTalk 30 = .ok (.iaload, 1) := by decide +kernel
theorem dX7_readOneTalk_31 : decode cX7_readOneTalk 31 = .ok (.bipush (-9), 2) := by decide +kernel
theorem dX7_readOneTalk_33 : decode cX7_readOneTalk 33 = .ok (.if_icmp .ne 5, 3) := by decide +kernel
