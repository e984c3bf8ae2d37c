theorem dX6_times_0 : decode cX6_times 0 = .ok (.aload_n 0, 1) := by decide +kernel
theorem dX6_times_1 : decode cX6_times 1 = .ok (.iload_n 1, 1) := by decide +kernel
theorem dX6_times_2 : decode cX6_times 2 = .ok (.invokevirtual 276, 3) := by decide +kernel
theorem dX6_times_5 : decode cX6_times 5 = .ok (.ifCond .ne 7, 3) := by decide +kernel
theorem dX6_times_8 : decode cX6_times 8 = .ok (.ldc2_w 279, 3) := by decide +kernel
theorem dX6_times_11 : decode cX6_times 11 = .ok (.lreturn, 1) := by decide +kernel
theorem dX6_times_12 : decode cX6_times 12 = .ok (.aload_n 0, 1) := by decide +kernel
theorem dX6_times_13 : decode cX6_times 13 = .ok (.iload_n 1, 1) := by decide +kernel
theorem dX6_times_14 : decode cX6_times 14 = .ok (.invokevirtual 281, 3) := by decide +kernel
theorem dX6_times_17 : decode cX6_times 17 = .ok (.aload_n 0, 1) := by decide +kernel
theorem dX6_times_18 : decode cX6_times 18 = .ok (.invokevirtual 284, 3) := by decide +kernel
theorem dX6_times_21 : decode cX6_times 21 = .ok (.lreturn, 1) := by decide +kernel
theorem dX6_isWay_0 : decode cX6_isWay 0 = .ok (.iload_n 1, 1) := by decide +kernel
theorem dX6_isWay_1 : decode cX6_isWay 1 = .ok (.aload_n 0, 1) := by decide +kernel
theorem dX6_isWay_2 : decode cX6_isWay 2 = .ok (.getfield 258, 3) := by decide +kernel
theorem dX6_isWay_5 : decode cX6_isWay 5 = .ok (.if_icmp .gt 23, 3) := by decide +kernel
theorem dX6_isWay_8 : decode cX6_isWay 8 = .ok (.iload_n 2, 1) := by decide +kernel
theorem dX6_isWay_9 : decode cX6_isWay 9 = .ok (.aload_n 0, 1) := by decide +kernel
theorem dX6_isWay_10 : decode cX6_isWay 10 = .ok (.getfield 260, 3) := by decide +kernel
theorem dX6_isWay_13 : decode cX6_isWay 13 = .ok (.if_icmp .gt 15, 3) := by decide +kernel
theorem dX6_isWay_16 : decode cX6_isWay 16 = .ok (.iload_n 3, 1) := by decide +kernel
theorem dX6_isWay_17 : decode cX6_isWay 17 = .ok (.aload_n 0, 1) := by decide +kernel
theorem dX6_isWay_18 : decode cX6_isWay 18 = .ok (.getfield 263, 3) := by decide +kernel
theorem dX6_isWay_21 : decode cX6_isWay 21 = .ok (.if_icmp .gt 7, 3) := by decide +kernel
theorem dX6_isWay_24 : decode cX6_isWay 24 = .ok (.iconst 1, 1) := by decide +kernel
theorem dX6_isWay_25 : decode cX6_isWay 25 = .ok (.goto 4, 3) := by decide +kernel
theorem dX6_isWay_28 : decode cX6_isWay 28 = .ok (.iconst 0, 1) := by decide +kernel
theorem dX6_isWay_29 : decode cX6_isWay 29 = .ok (.ireturn, 1) := by decide +kernel
theorem dX6_counts_0 : decode cX6_counts 0 = .ok (.iload_n 1, 1) := by decide +kernel
theorem dX6_counts_1 : decode cX6_counts 1 = .ok (.iconst 1, 1) := by decide +kernel
theorem dX6_counts_2 : decode cX6_counts 2 = .ok (.isub, 1) := by decide +kernel
theorem dX6_counts_3 : decode cX6_counts 3 = .ok (.istore_n 2, 1) := by decide +kernel
theorem dX6_counts_4 : decode cX6_counts 4 = .ok (.iload_n 2, 1) := by decide +kernel
theorem dX6_counts_5 : decode cX6_counts 5 = .ok (.ifCond .lt 122, 3) := by decide +kernel
theorem dX6_counts_8 : decode cX6_counts 8 = .ok (.iconst 0, 1) := by decide +kernel
theorem dX6_counts_9 : decode cX6_counts 9 = .ok (.istore_n 3, 1) := by decide +kernel
theorem dX6_counts_10 : decode cX6_counts 10 = .ok (.iload_n 3, 1) := by decide +kernel
theorem dX6_counts_11 : decode cX6_counts 11 = .ok (.sipush 1000, 3) := by decide +kernel
theorem dX6_counts_14 : decode cX6_counts 14 = .ok (.if_icmp .ge 107, 3) := by decide +kernel
theorem dX6_counts_17 : decode cX6_counts 17 = .ok (.aload_n 0, 1) := by decide +kernel
theorem dX6_counts_18 : decode cX6_counts 18 = .ok (.getfield 56, 3) := by decide +kernel
theorem dX6_counts_21 : decode cX6_counts 21 = .ok (.sipush 1000, 3) := by decide +kernel
theorem dX6_counts_24 : decode cX6_counts 24 = .ok (.iload_n 2, 1) := by decide +kernel
theorem dX6_counts_25 : decode cX6_counts 25 = .ok (.imul, 1) := by decide +kernel
theorem dX6_counts_26 : decode cX6_counts 26 = .ok (.iload_n 3, 1) := by decide +kernel
theorem dX6_counts_27 : decode cX6_counts 27 = .ok (.iadd, 1) := by decide +kernel
theorem dX6_counts_28 : decode cX6_counts 28 = .ok (.sipush 9999, 3) := by decide +kernel
theorem dX6_counts_31 : decode cX6_counts 31 = .ok (.iastore, 1) := by decide +kernel
theorem dX6_counts_32 : decode cX6_counts 32 = .ok (.aload_n 0, 1) := by decide +kernel
theorem dX6_counts_33 : decode cX6_counts 33 = .ok (.iload_n 3, 1) := by decide +kernel
theorem dX6_counts_34 : decode cX6_counts 34 = .ok (.bipush 100, 2) := by decide +kernel
theorem dX6_counts_36 : decode cX6_counts 36 = .ok (.idiv, 1) := by decide +kernel
theorem dX6_counts_37 : decode cX6_counts 37 = .ok (.iload_n 3, 1) := by decide +kernel
theorem dX6_counts_38 : decode cX6_counts 38 = .ok (.bipush 10, 2) := by decide +kernel
theorem dX6_counts_40 : decode cX6_counts 40 = .ok (.idiv, 1) := by decide +kernel
theorem dX6_counts_41 : decode cX6_counts 41 = .ok (.bipush 10, 2) := by decide +kernel
theorem dX6_counts_43 : decode cX6_counts 43 = .ok (.irem, 1) := by decide +kernel
theorem dX6_counts_44 : decode cX6_counts 44 = .ok (.iload_n 3, 1) := by decide +kernel
theorem dX6_counts_45 : decode cX6_counts 45 = .ok (.bipush 10, 2) := by decide +kernel
theorem dX6_counts_47 : decode cX6_counts 47 = .ok (.irem, 1) := by decide +kernel
theorem dX6_counts_48 : decode cX6_counts 48 = .ok (.invokevirtual 288, 3) := by decide +kernel
theorem dX6_counts_51 : decode cX6_counts 51 = .ok (.ifCond .ne 6, 3) := by decide +kernel
theorem dX6_counts_54 : decode cX6_counts 54 = .ok (.goto 61, 3) := by decide +kernel
theorem dX6_counts_57 : decode cX6_counts 57 = .ok (.iconst 0, 1) := by decide +kernel
theorem dX6_counts_58 : decode cX6_counts 58 = .ok (.istore 4, 2) := by decide +kernel
theorem dX6_counts_60 : decode cX6_counts 60 = .ok (.iload 4, 2) := by decide +kernel
theorem dX6_counts_62 : decode cX6_counts 62 = .ok (.bipush 8, 2) := by decide +kernel
theorem dX6_counts_64 : decode cX6_counts 64 = .ok (.if_icmp .ge 51, 3) := by decide +kernel
theorem dX6_counts_67 : decode cX6_counts 67 = .ok (.aload_n 0, 1) := by decide +kernel
theorem dX6_counts_68 : decode cX6_counts 68 = .ok (.iload_n 1, 1) := by decide +kernel
theorem dX6_counts_69 : decode cX6_counts 69 = .ok (.iload_n 2, 1) := by decide +kernel
theorem dX6_counts_70 : decode cX6_counts 70 = .ok (.iload_n 3, 1) := by decide +kernel
theorem dX6_counts_71 : decode cX6_counts 71 = .ok (.iload 4, 2) := by decide +kernel
theorem dX6_counts_73 : decode cX6_counts 73 = .ok (.invokevirtual 291, 3) := by decide +kernel
theorem dX6_counts_76 : decode cX6_counts 76 = .ok (.istore 5, 2) := by decide +kernel
theorem dX6_counts_78 : decode cX6_counts 78 = .ok (.iload 5, 2) := by decide +kernel
theorem dX6_counts_80 : decode cX6_counts 80 = .ok (.aload_n 0, 1) := by decide +kernel
theorem dX6_counts_81 : decode cX6_counts 81 = .ok (.getfield 56, 3) := by decide +kernel
theorem dX6_counts_84 : decode cX6_counts 84 = .ok (.sipush 1000, 3) := by decide +kernel
theorem dX6_counts_87 : decode cX6_counts 87 = .ok (.iload_n 2, 1) := by decide +kernel
theorem dX6_counts_88 : decode cX6_counts 88 = .ok (.imul, 1) := by decide +kernel
theorem dX6_counts_89 : decode cX6_counts 89 = .ok (.iload_n 3, 1) := by decide +kernel
theorem dX6_counts_90 : decode cX6_counts 90 = .ok (.iadd, 1) := by decide +kernel
theorem dX6_counts_91 : decode cX6_counts 91 = .ok (.iaload, 1) := by decide +kernel
theorem dX6_counts_92 : decode cX6_counts 92 = .ok (.if_icmp .ge 17, 3) := by decide +kernel
theorem dX6_counts_95 : decode cX6_counts 95 = .ok (.aload_n 0, 1) := by decide +kernel
theorem dX6_counts_96 : decode cX6_counts 96 = .ok (.getfield 56, 3) := by decide +kernel
theorem dX6_counts_99 : decode cX6_counts 99 = .ok (.sipush 1000, 3) := by decide +kernel
theorem dX6_counts_102 : decode cX6_counts 102 = .ok (.iload_n 2, 1) := by decide +kernel
theorem dX6_counts_103 : decode cX6_counts 103 = .ok (.imul, 1) := by decide +kernel
theorem dX6_counts_104 : decode cX6_counts 104 = .ok (.iload_n 3, 1) := by decide +kernel
theorem dX6_counts_105 : decode cX6_counts 105 = .ok (.iadd, 1) := by decide +kernel
theorem dX6_counts_106 : decode cX6_counts 106 = .ok (.iload 5, 2) := by decide +kernel
theorem dX6_counts_108 : decode cX6_counts 108 = .ok (.iastore, 1) := by decide +kernel
theorem dX6_counts_109 : decode cX6_counts 109 = .ok (.iinc 4 1, 3) := by decide +kernel
theorem dX6_counts_112 : decode cX6_counts 112 = .ok (.goto (-52), 3) := by decide +kernel
theorem dX6_counts_115 : decode cX6_counts 115 = .ok (.iinc 3 1, 3) := by decide +kernel
theorem dX6_counts_118 : decode cX6_counts 118 = .ok (.goto (-108), 3) := by decide +kernel
theorem dX6_counts_121 : decode cX6_counts 121 = .ok (.iinc 2 (-1), 3) := by decide +kernel
theorem dX6_counts_124 : decode cX6_counts 124 = .ok (.goto (-120), 3) := by decide +kernel
theorem dX6_counts_127 : decode cX6_counts 127 = .ok (.return_, 1) := by decide +kernel
theorem dX6_byFirst_0 : decode cX6_byFirst 0 = .ok (.aload_n 0, 1) := by decide +kernel
theorem dX6_byFirst_1 : decode cX6_byFirst 1 = .ok (.iload_n 3, 1) := by decide +kernel
theorem dX6_byFirst_2 : decode cX6_byFirst 2 = .ok (.iload 4, 2) := by decide +kernel
theorem dX6_byFirst_4 : decode cX6_byFirst 4 = .ok (.invokevirtual 272, 3) := by decide +kernel
theorem dX6_byFirst_7 : decode cX6_byFirst 7 = .ok (.iload_n 2, 1) := by decide +kernel
theorem dX6_byFirst_8 : decode cX6_byFirst 8 = .ok (.aload_n 0, 1) := by decide +kernel
theorem dX6_byFirst_9 : decode cX6_byFirst 9 = .ok (.getfield 266, 3) := by decide +kernel
theorem dX6_byFirst_12 : decode cX6_byFirst 12 = .ok (.iadd, 1) := by decide +kernel
theorem dX6_byFirst_13 : decode cX6_byFirst 13 = .ok (.istore 5, 2) := by decide +kernel
theorem dX6_byFirst_15 : decode cX6_byFirst 15 = .ok (.aload_n 0, 1) := by decide +kernel
theorem dX6_byFirst_16 : decode cX6_byFirst 16 = .ok (.getfield 266, 3) := by decide +kernel
theorem dX6_byFirst_19 : decode cX6_byFirst 19 = .ok (.ifCond .eq 9, 3) := by decide +kernel
theorem dX6_byFirst_22 : decode cX6_byFirst 22 = .ok (.iload 5, 2) := by decide +kernel
theorem dX6_byFirst_24 : decode cX6_byFirst 24 = .ok (.iload_n 1, 1) := by decide +kernel
theorem dX6_byFirst_25 : decode cX6_byFirst 25 = .ok (.if_icmp .le 7, 3) := by decide +kernel
theorem dX6_byFirst_28 : decode cX6_byFirst 28 = .ok (.sipush 9999, 3) := by decide +kernel
theorem dX6_byFirst_31 : decode cX6_byFirst 31 = .ok (.ireturn, 1) := by decide +kernel
theorem dX6_byFirst_32 : decode cX6_byFirst 32 = .ok (.iload 5, 2) := by decide +kernel
theorem dX6_byFirst_34 : decode cX6_byFirst 34 = .ok (.iload_n 1, 1) := by decide +kernel
theorem dX6_byFirst_35 : decode cX6_byFirst 35 = .ok (.if_icmp .ne 11, 3) := by decide +kernel
theorem dX6_byFirst_38 : decode cX6_byFirst 38 = .ok (.iload 4, 2) := by decide +kernel
theorem dX6_byFirst_40 : decode cX6_byFirst 40 = .ok (.invokestatic 295, 3) := by decide +kernel
theorem dX6_byFirst_43 : decode cX6_byFirst 43 = .ok (.goto 25, 3) := by decide +kernel
theorem dX6_byFirst_46 : decode cX6_byFirst 46 = .ok (.iload 4, 2) := by decide +kernel
theorem dX6_byFirst_48 : decode cX6_byFirst 48 = .ok (.invokestatic 295, 3) := by decide +kernel
theorem dX6_byFirst_51 : decode cX6_byFirst 51 = .ok (.aload_n 0, 1) := by decide +kernel
theorem dX6_byFirst_52 : decode cX6_byFirst 52 = .ok (.getfield 56, 3) := by decide +kernel
theorem dX6_byFirst_55 : decode cX6_byFirst 55 = .ok (.sipush 1000, 3) := by decide +kernel
theorem dX6_byFirst_58 : decode cX6_byFirst 58 = .ok (.iload 5, 2) := by decide +kernel
theorem dX6_byFirst_60 : decode cX6_byFirst 60 = .ok (.imul, 1) := by decide +kernel
theorem dX6_byFirst_61 : decode cX6_byFirst 61 = .ok (.aload_n 0, 1) := by decide +kernel
theorem dX6_byFirst_62 : decode cX6_byFirst 62 = .ok (.getfield 269, 3) := by decide +kernel
theorem dX6_byFirst_65 : decode cX6_byFirst 65 = .ok (.iadd, 1) := by decide +kernel
theorem dX6_byFirst_66 : decode cX6_byFirst 66 = .ok (.iaload, 1) := by decide +kernel
theorem dX6_byFirst_67 : decode cX6_byFirst 67 = .ok (.iadd, 1) := by decide +kernel
theorem dX6_byFirst_68 : decode cX6_byFirst 68 = .ok (.ireturn, 1) := by decide +kernel
theorem dX6_wayTo_0 : decode cX6_wayTo 0 = .ok (.iconst 0, 1) := by decide +kernel
theorem dX6_wayTo_1 : decode cX6_wayTo 1 = .ok (.istore_n 2, 1) := by decide +kernel
theorem dX6_wayTo_2 : decode cX6_wayTo 2 = .ok (.iconst 0, 1) := by decide +kernel
theorem dX6_wayTo_3 : decode cX6_wayTo 3 = .ok (.istore_n 3, 1) := by decide +kernel
theorem dX6_wayTo_4 : decode cX6_wayTo 4 = .ok (.iconst 0, 1) := by decide +kernel
theorem dX6_wayTo_5 : decode cX6_wayTo 5 = .ok (.istore 4, 2) := by decide +kernel
theorem dX6_wayTo_7 : decode cX6_wayTo 7 = .ok (.iconst 0, 1) := by decide +kernel
theorem dX6_wayTo_8 : decode cX6_wayTo 8 = .ok (.istore 5, 2) := by decide +kernel
theorem dX6_wayTo_10 : decode cX6_wayTo 10 = .ok (.iload_n 2, 1) := by decide +kernel
theorem dX6_wayTo_11 : decode cX6_wayTo 11 = .ok (.iload_n 1, 1) := by decide +kernel
theorem dX6_wayTo_12 : decode cX6_wayTo 12 = .ok (.if_icmp .ge 82, 3) := by decide +kernel
theorem dX6_wayTo_15 : decode cX6_wayTo 15 = .ok (.iconst 0, 1) := by decide +kernel
theorem dX6_wayTo_16 : decode cX6_wayTo 16 = .ok (.istore 6, 2) := by decide +kernel
theorem dX6_wayTo_18 : decode cX6_wayTo 18 = .ok (.aload_n 0, 1) := by decide +kernel
theorem dX6_wayTo_19 : decode cX6_wayTo 19 = .ok (.iload_n 1, 1) := by decide +kernel
theorem dX6_wayTo_20 : decode cX6_wayTo 20 = .ok (.iload_n 2, 1) := by decide +kernel
theorem dX6_wayTo_21 : decode cX6_wayTo 21 = .ok (.iload_n 3, 1) := by decide +kernel
theorem dX6_wayTo_22 : decode cX6_wayTo 22 = .ok (.iload 6, 2) := by decide +kernel
theorem dX6_wayTo_24 : decode cX6_wayTo 24 = .ok (.invokevirtual 291, 3) := by decide +kernel
theorem dX6_wayTo_27 : decode cX6_wayTo 27 = .ok (.aload_n 0, 1) := by decide +kernel
theorem dX6_wayTo_28 : decode cX6_wayTo 28 = .ok (.getfield 56, 3) := by decide +kernel
theorem dX6_wayTo_31 : decode cX6_wayTo 31 = .ok (.sipush 1000, 3) := by decide +kernel
theorem dX6_wayTo_34 : decode cX6_wayTo 34 = .ok (.iload_n 2, 1) := by decide +kernel
theorem dX6_wayTo_35 : decode cX6_wayTo 35 = .ok (.imul, 1) := by decide +kernel
theorem dX6_wayTo_36 : decode cX6_wayTo 36 = .ok (.iload_n 3, 1) := by decide +kernel
theorem dX6_wayTo_37 : decode cX6_wayTo 37 = .ok (.iadd, 1) := by decide +kernel
theorem dX6_wayTo_38 : decode cX6_wayTo 38 = .ok (.iaload, 1) := by decide +kernel
theorem dX6_wayTo_39 : decode cX6_wayTo 39 = .ok (.if_icmp .eq 9, 3) := by decide +kernel
theorem dX6_wayTo_42 : decode cX6_wayTo 42 = .ok (.iinc 6 1, 3) := by decide +kernel
theorem dX6_wayTo_45 : decode cX6_wayTo 45 = .ok (.goto (-27), 3) := by decide +kernel
theorem dX6_wayTo_48 : decode cX6_wayTo 48 = .ok (.aload_n 0, 1) := by decide +kernel
theorem dX6_wayTo_49 : decode cX6_wayTo 49 = .ok (.iload_n 3, 1) := by decide +kernel
theorem dX6_wayTo_50 : decode cX6_wayTo 50 = .ok (.iload 6, 2) := by decide +kernel
theorem dX6_wayTo_52 : decode cX6_wayTo 52 = .ok (.invokevirtual 272, 3) := by decide +kernel
theorem dX6_wayTo_55 : decode cX6_wayTo 55 = .ok (.iload_n 2, 1) := by decide +kernel
theorem dX6_wayTo_56 : decode cX6_wayTo 56 = .ok (.aload_n 0, 1) := by decide +kernel
theorem dX6_wayTo_57 : decode cX6_wayTo 57 = .ok (.getfield 266, 3) := by decide +kernel
theorem dX6_wayTo_60 : decode cX6_wayTo 60 = .ok (.iadd, 1) := by decide +kernel
theorem dX6_wayTo_61 : decode cX6_wayTo 61 = .ok (.istore_n 2, 1) := by decide +kernel
theorem dX6_wayTo_62 : decode cX6_wayTo 62 = .ok (.aload_n 0, 1) := by decide +kernel
theorem dX6_wayTo_63 : decode cX6_wayTo 63 = .ok (.getfield 269, 3) := by decide +kernel
theorem dX6_wayTo_66 : decode cX6_wayTo 66 = .ok (.istore_n 3, 1) := by decide +kernel
theorem dX6_wayTo_67 : decode cX6_wayTo 67 = .ok (.iinc 5 1, 3) := by decide +kernel
theorem dX6_wayTo_70 : decode cX6_wayTo 70 = .ok (.iload 5, 2) := by decide +kernel
theorem dX6_wayTo_72 : decode cX6_wayTo 72 = .ok (.bipush 9, 2) := by decide +kernel
theorem dX6_wayTo_74 : decode cX6_wayTo 74 = .ok (.if_icmp .le 5, 3) := by decide +kernel
theorem dX6_wayTo_77 : decode cX6_wayTo 77 = .ok (.iconst (-1), 1) := by decide +kernel
theorem dX6_wayTo_78 : decode cX6_wayTo 78 = .ok (.ireturn, 1) := by decide +kernel
theorem dX6_wayTo_79 : decode cX6_wayTo 79 = .ok (.bipush 10, 2) := by decide +kernel
theorem dX6_wayTo_81 : decode cX6_wayTo 81 = .ok (.iload 4, 2) := by decide +kernel
theorem dX6_wayTo_83 : decode cX6_wayTo 83 = .ok (.imul, 1) := by decide +kernel
theorem dX6_wayTo_84 : decode cX6_wayTo 84 = .ok (.iload 6, 2) := by decide +kernel
theorem dX6_wayTo_86 : decode cX6_wayTo 86 = .ok (.iadd, 1) := by decide +kernel
theorem dX6_wayTo_87 : decode cX6_wayTo 87 = .ok (.iconst 1, 1) := by decide +kernel
theorem dX6_wayTo_88 : decode cX6_wayTo 88 = .ok (.iadd, 1) := by decide +kernel
theorem dX6_wayTo_89 : decode cX6_wayTo 89 = .ok (.istore 4, 2) := by decide +kernel
theorem dX6_wayTo_91 : decode cX6_wayTo 91 = .ok (.goto (-81), 3) := by decide +kernel
theorem dX6_wayTo_94 : decode cX6_wayTo 94 = .ok (.iload 4, 2) := by decide +kernel
theorem dX6_wayTo_96 : decode cX6_wayTo 96 = .ok (.ireturn, 1) := by decide +kernel
theorem dX6_isMinute_0 : decode cX6_isMinute 0 = .ok (.iload_n 0, 1) := by decide +kernel
theorem dX6_isMinute_1 : decode cX6_isMinute 1 = .ok (.iconst 1, 1) := by decide +kernel
theorem dX6_isMinute_2 : decode cX6_isMinute 2 = .ok (.bipush 30, 2) := by decide +kernel
theorem dX6_isMinute_4 : decode cX6_isMinute 4 = .ok (.invokestatic 88, 3) := by decide +kernel
theorem dX6_isMinute_7 : decode cX6_isMinute 7 = .ok (.ireturn, 1) := by decide +kernel
theorem dX6_nextTold_0 : decode cX6_nextTold 0 = .ok (.aload_n 0, 1) := by decide +kernel
theorem dX6_nextTold_1 : decode cX6_nextTold 1 = .ok (.invokevirtual 284, 3) := by decide +kernel
theorem dX6_nextTold_4 : decode cX6_nextTold 4 = .ok (.lstore_n 2, 1) := by decide +kernel
theorem dX6_nextTold_5 : decode cX6_nextTold 5 = .ok (.iload_n 1, 1) := by decide +kernel
theorem dX6_nextTold_6 : decode cX6_nextTold 6 = .ok (.istore 4, 2) := by decide +kernel
theorem dX6_nextTold_8 : decode cX6_nextTold 8 = .ok (.iload 4, 2) := by decide +kernel
theorem dX6_nextTold_10 : decode cX6_nextTold 10 = .ok (.bipush 30, 2) := by decide +kernel
theorem dX6_nextTold_12 : decode cX6_nextTold 12 = .ok (.if_icmp .gt 23, 3) := by decide +kernel
theorem dX6_nextTold_15 : decode cX6_nextTold 15 = .ok (.lload_n 2, 1) := by decide +kernel
theorem dX6_nextTold_16 : decode cX6_nextTold 16 = .ok (.iload 4, 2) := by decide +kernel
theorem dX6_nextTold_18 : decode cX6_nextTold 18 = .ok (.lshr, 1) := by decide +kernel
theorem dX6_nextTold_19 : decode cX6_nextTold 19 = .ok (.lconst 1, 1) := by decide +kernel
theorem dX6_nextTold_20 : decode cX6_nextTold 20 = .ok (.land, 1) := by decide +kernel
theorem dX6_nextTold_21 : decode cX6_nextTold 21 = .ok (.lconst 1, 1) := by decide +kernel
theorem dX6_nextTold_22 : decode cX6_nextTold 22 = .ok (.lcmp, 1) := by decide +kernel
theorem dX6_nextTold_23 : decode cX6_nextTold 23 = .ok (.ifCond .ne 6, 3) := by decide +kernel
theorem dX6_nextTold_26 : decode cX6_nextTold 26 = .ok (.iload 4, 2) := by decide +kernel
theorem dX6_nextTold_28 : decode cX6_nextTold 28 = .ok (.ireturn, 1) := by decide +kernel
theorem dX6_nextTold_29 : decode cX6_nextTold 29 = .ok (.iinc 4 1, 3) := by decide +kernel
theorem dX6_nextTold_32 : decode cX6_nextTold 32 = .ok (.goto (-24), 3) := by decide +kernel
theorem dX6_nextTold_35 : decode cX6_nextTold 35 = .ok (.iconst (-1), 1) := by decide +kernel
theorem dX6_nextTold_36 : decode cX6_nextTold 36 = .ok (.ireturn, 1) := by decide +kernel
theorem dX6_fewest_0 : decode cX6_fewest 0 = .ok (.aload_n 0, 1) := by decide +kernel
theorem dX6_fewest_1 : decode cX6_fewest 1 = .ok (.iload_n 1, 1) := by decide +kernel
theorem dX6_fewest_2 : decode cX6_fewest 2 = .ok (.invokevirtual 276, 3) := by decide +kernel
theorem dX6_fewest_5 : decode cX6_fewest 5 = .ok (.ifCond .eq 19, 3) := by decide +kernel
theorem dX6_fewest_8 : decode cX6_fewest 8 = .ok (.iload_n 2, 1) := by decide +kernel
theorem dX6_fewest_9 : decode cX6_fewest 9 = .ok (.invokestatic 298, 3) := by decide +kernel
theorem dX6_fewest_12 : decode cX6_fewest 12 = .ok (.ifCond .eq 12, 3) := by decide +kernel
theorem dX6_fewest_15 : decode cX6_fewest 15 = .ok (.iload_n 3, 1) := by decide +kernel
theorem dX6_fewest_16 : decode cX6_fewest 16 = .ok (.iconst 0, 1) := by decide +kernel
theorem dX6_fewest_17 : decode cX6_fewest 17 = .ok (.iconst 2, 1) := by decide +kernel
theorem dX6_fewest_18 : decode cX6_fewest 18 = .ok (.invokestatic 88, 3) := by decide +kernel
theorem dX6_fewest_21 : decode cX6_fewest 21 = .ok (.ifCond .ne 6, 3) := by decide +kernel
theorem dX6_fewest_24 : decode cX6_fewest 24 = .ok (.bipush (-2), 2) := by decide +kernel
theorem dX6_fewest_26 : decode cX6_fewest 26 = .ok (.ireturn, 1) := by decide +kernel
theorem dX6_fewest_27 : decode cX6_fewest 27 = .ok (.aload_n 0, 1) := by decide +kernel
theorem dX6_fewest_28 : decode cX6_fewest 28 = .ok (.iload_n 1, 1) := by decide +kernel
theorem dX6_fewest_29 : decode cX6_fewest 29 = .ok (.invokevirtual 281, 3) := by decide +kernel
theorem dX6_fewest_32 : decode cX6_fewest 32 = .ok (.iload_n 3, 1) := by decide +kernel
theorem dX6_fewest_33 : decode cX6_fewest 33 = .ok (.iconst 2, 1) := by decide +kernel
theorem dX6_fewest_34 : decode cX6_fewest 34 = .ok (.if_icmp .ne 9, 3) := by decide +kernel
theorem dX6_fewest_37 : decode cX6_fewest 37 = .ok (.aload_n 0, 1) := by decide +kernel
theorem dX6_fewest_38 : decode cX6_fewest 38 = .ok (.iload_n 2, 1) := by decide +kernel
theorem dX6_fewest_39 : decode cX6_fewest 39 = .ok (.invokevirtual 301, 3) := by decide +kernel
theorem dX6_fewest_42 : decode cX6_fewest 42 = .ok (.ireturn, 1) := by decide +kernel
theorem dX6_fewest_43 : decode cX6_fewest 43 = .ok (.aload_n 0, 1) := by decide +kernel
theorem dX6_fewest_44 : decode cX6_fewest 44 = .ok (.iload_n 2, 1) := by decide +kernel
theorem dX6_fewest_45 : decode cX6_fewest 45 = .ok (.invokevirtual 304, 3) := by decide +kernel
theorem dX6_fewest_48 : decode cX6_fewest 48 = .ok (.aload_n 0, 1) := by decide +kernel
theorem dX6_fewest_49 : decode cX6_fewest 49 = .ok (.getfield 56, 3) := by decide +kernel
theorem dX6_fewest_52 : decode cX6_fewest 52 = .ok (.iconst 0, 1) := by decide +kernel
theorem dX6_fewest_53 : decode cX6_fewest 53 = .ok (.iaload, 1) := by decide +kernel
theorem dX6_fewest_54 : decode cX6_fewest 54 = .ok (.sipush 9999, 3) := by decide +kernel
theorem dX6_fewest_57 : decode cX6_fewest 57 = .ok (.if_icmp .lt 5, 3) := by decide +kernel
theorem dX6_fewest_60 : decode cX6_fewest 60 = .ok (.iconst (-1), 1) := by decide +kernel
theorem dX6_fewest_61 : decode cX6_fewest 61 = .ok (.ireturn, 1) := by decide +kernel
theorem dX6_fewest_62 : decode cX6_fewest 62 = .ok (.iload_n 3, 1) := by decide +kernel
theorem dX6_fewest_63 : decode cX6_fewest 63 = .ok (.ifCond .ne 12, 3) := by decide +kernel
theorem dX6_fewest_66 : decode cX6_fewest 66 = .ok (.aload_n 0, 1) := by decide +kernel
theorem dX6_fewest_67 : decode cX6_fewest 67 = .ok (.getfield 56, 3) := by decide +kernel
theorem dX6_fewest_70 : decode cX6_fewest 70 = .ok (.iconst 0, 1) := by decide +kernel
theorem dX6_fewest_71 : decode cX6_fewest 71 = .ok (.iaload, 1) := by decide +kernel
theorem dX6_fewest_72 : decode cX6_fewest 72 = .ok (.goto 8, 3) := by decide +kernel
theorem dX6_fewest_75 : decode cX6_fewest 75 = .ok (.aload_n 0, 1) := by decide +kernel
theorem dX6_fewest_76 : decode cX6_fewest 76 = .ok (.iload_n 2, 1) := by decide +kernel
theorem dX6_fewest_77 : decode cX6_fewest 77 = .ok (.invokevirtual 307, 3) := by decide +kernel
theorem dX6_fewest_80 : decode cX6_fewest 80 = .ok (.ireturn, 1) := by decide +kernel
theorem dX6_best_0 : decode cX6_best 0 = .ok (.iload_n 1, 1) := by decide +kernel
theorem dX6_best_1 : decode cX6_best 1 = .ok (.invokestatic 298, 3) := by decide +kernel
theorem dX6_best_4 : decode cX6_best 4 = .ok (.ifCond .eq 12, 3) := by decide +kernel
theorem dX6_best_7 : decode cX6_best 7 = .ok (.iload_n 2, 1) := by decide +kernel
theorem dX6_best_8 : decode cX6_best 8 = .ok (.iconst 0, 1) := by decide +kernel
theorem dX6_best_9 : decode cX6_best 9 = .ok (.iconst 1, 1) := by decide +kernel
theorem dX6_best_10 : decode cX6_best 10 = .ok (.invokestatic 88, 3) := by decide +kernel
theorem dX6_best_13 : decode cX6_best 13 = .ok (.ifCond .ne 6, 3) := by decide +kernel
theorem dX6_best_16 : decode cX6_best 16 = .ok (.bipush (-2), 2) := by decide +kernel
theorem dX6_best_18 : decode cX6_best 18 = .ok (.ireturn, 1) := by decide +kernel
theorem dX6_best_19 : decode cX6_best 19 = .ok (.aload_n 0, 1) := by decide +kernel
theorem dX6_best_20 : decode cX6_best 20 = .ok (.getfield 85, 3) := by decide +kernel
theorem dX6_best_23 : decode cX6_best 23 = .ok (.iconst 4, 1) := by decide +kernel
theorem dX6_best_24 : decode cX6_best 24 = .ok (.if_icmp .le 6, 3) := by decide +kernel
theorem dX6_best_27 : decode cX6_best 27 = .ok (.bipush (-3), 2) := by decide +kernel
theorem dX6_best_29 : decode cX6_best 29 = .ok (.ireturn, 1) := by decide +kernel
theorem dX6_best_30 : decode cX6_best 30 = .ok (.iconst (-1), 1) := by decide +kernel
theorem dX6_best_31 : decode cX6_best 31 = .ok (.istore_n 3, 1) := by decide +kernel
theorem dX6_best_32 : decode cX6_best 32 = .ok (.sipush 9999, 3) := by decide +kernel
theorem dX6_best_35 : decode cX6_best 35 = .ok (.istore 4, 2) := by decide +kernel
theorem dX6_best_37 : decode cX6_best 37 = .ok (.iconst 0, 1) := by decide +kernel
theorem dX6_best_38 : decode cX6_best 38 = .ok (.istore 5, 2) := by decide +kernel
theorem dX6_best_40 : decode cX6_best 40 = .ok (.iload 5, 2) := by decide +kernel
theorem dX6_best_42 : decode cX6_best 42 = .ok (.sipush 1000, 3) := by decide +kernel
theorem dX6_best_45 : decode cX6_best 45 = .ok (.if_icmp .ge 89, 3) := by decide +kernel
theorem dX6_best_48 : decode cX6_best 48 = .ok (.iload 5, 2) := by decide +kernel
theorem dX6_best_50 : decode cX6_best 50 = .ok (.bipush 100, 2) := by decide +kernel
theorem dX6_best_52 : decode cX6_best 52 = .ok (.idiv, 1) := by decide +kernel
theorem dX6_best_53 : decode cX6_best 53 = .ok (.iload 5, 2) := by decide +kernel
theorem dX6_best_55 : decode cX6_best 55 = .ok (.bipush 10, 2) := by decide +kernel
theorem dX6_best_57 : decode cX6_best 57 = .ok (.idiv, 1) := by decide +kernel
theorem dX6_best_58 : decode cX6_best 58 = .ok (.bipush 10, 2) := by decide +kernel
theorem dX6_best_60 : decode cX6_best 60 = .ok (.irem, 1) := by decide +kernel
theorem dX6_best_61 : decode cX6_best 61 = .ok (.if_icmp .ge 67, 3) := by decide +kernel
theorem dX6_best_64 : decode cX6_best 64 = .ok (.iload 5, 2) := by decide +kernel
theorem dX6_best_66 : decode cX6_best 66 = .ok (.bipush 10, 2) := by decide +kernel
theorem dX6_best_68 : decode cX6_best 68 = .ok (.idiv, 1) := by decide +kernel
theorem dX6_best_69 : decode cX6_best 69 = .ok (.bipush 10, 2) := by decide +kernel
theorem dX6_best_71 : decode cX6_best 71 = .ok (.irem, 1) := by decide +kernel
theorem dX6_best_72 : decode cX6_best 72 = .ok (.iload 5, 2) := by decide +kernel
theorem dX6_best_74 : decode cX6_best 74 = .ok (.bipush 10, 2) := by decide +kernel
theorem dX6_best_76 : decode cX6_best 76 = .ok (.irem, 1) := by decide +kernel
theorem dX6_best_77 : decode cX6_best 77 = .ok (.if_icmp .ge 51, 3) := by decide +kernel
theorem dX6_best_80 : decode cX6_best 80 = .ok (.aload_n 0, 1) := by decide +kernel
theorem dX6_best_81 : decode cX6_best 81 = .ok (.iload 5, 2) := by decide +kernel
theorem dX6_best_83 : decode cX6_best 83 = .ok (.invokevirtual 276, 3) := by decide +kernel
theorem dX6_best_86 : decode cX6_best 86 = .ok (.ifCond .ne 6, 3) := by decide +kernel
theorem dX6_best_89 : decode cX6_best 89 = .ok (.goto 39, 3) := by decide +kernel
theorem dX6_best_92 : decode cX6_best 92 = .ok (.aload_n 0, 1) := by decide +kernel
theorem dX6_best_93 : decode cX6_best 93 = .ok (.iload 5, 2) := by decide +kernel
theorem dX6_best_95 : decode cX6_best 95 = .ok (.invokevirtual 281, 3) := by decide +kernel
theorem dX6_best_98 : decode cX6_best 98 = .ok (.aload_n 0, 1) := by decide +kernel
theorem dX6_best_99 : decode cX6_best 99 = .ok (.iload_n 1, 1) := by decide +kernel
theorem dX6_best_100 : decode cX6_best 100 = .ok (.invokevirtual 304, 3) := by decide +kernel
theorem dX6_best_103 : decode cX6_best 103 = .ok (.aload_n 0, 1) := by decide +kernel
theorem dX6_best_104 : decode cX6_best 104 = .ok (.getfield 56, 3) := by decide +kernel
theorem dX6_best_107 : decode cX6_best 107 = .ok (.iconst 0, 1) := by decide +kernel
theorem dX6_best_108 : decode cX6_best 108 = .ok (.iaload, 1) := by decide +kernel
theorem dX6_best_109 : decode cX6_best 109 = .ok (.iload 4, 2) := by decide +kernel
theorem dX6_best_111 : decode cX6_best 111 = .ok (.if_icmp .lt 6, 3) := by decide +kernel
theorem dX6_best_114 : decode cX6_best 114 = .ok (.goto 14, 3) := by decide +kernel
theorem dX6_best_117 : decode cX6_best 117 = .ok (.aload_n 0, 1) := by decide +kernel
theorem dX6_best_118 : decode cX6_best 118 = .ok (.getfield 56, 3) := by decide +kernel
theorem dX6_best_121 : decode cX6_best 121 = .ok (.iconst 0, 1) := by decide +kernel
theorem dX6_best_122 : decode cX6_best 122 = .ok (.iaload, 1) := by decide +kernel
theorem dX6_best_123 : decode cX6_best 123 = .ok (.istore 4, 2) := by decide +kernel
theorem dX6_best_125 : decode cX6_best 125 = .ok (.iload 5, 2) := by decide +kernel
theorem dX6_best_127 : decode cX6_best 127 = .ok (.istore_n 3, 1) := by decide +kernel
theorem dX6_best_128 : decode cX6_best 128 = .ok (.iinc 5 1, 3) := by decide +kernel
theorem dX6_best_131 : decode cX6_best 131 = .ok (.goto (-91), 3) := by decide +kernel
theorem dX6_best_134 : decode cX6_best 134 = .ok (.iload_n 2, 1) := by decide +kernel
theorem dX6_best_135 : decode cX6_best 135 = .ok (.ifCond .ne 7, 3) := by decide +kernel
theorem dX6_best_138 : decode cX6_best 138 = .ok (.iload_n 3, 1) := by decide +kernel
theorem dX6_best_139 : decode cX6_best 139 = .ok (.goto 14, 3) := by decide +kernel
theorem dX6_best_142 : decode cX6_best 142 = .ok (.iload_n 3, 1) := by decide +kernel
theorem dX6_best_143 : decode cX6_best 143 = .ok (.iconst (-1), 1) := by decide +kernel
theorem dX6_best_144 : decode cX6_best 144 = .ok (.if_icmp .ne 7, 3) := by decide +kernel
theorem dX6_best_147 : decode cX6_best 147 = .ok (.iconst (-1), 1) := by decide +kernel
theorem dX6_best_148 : decode cX6_best 148 = .ok (.goto 5, 3) := by decide +kernel
theorem dX6_best_151 : decode cX6_best 151 = .ok (.iload 4, 2) := by decide +kernel
theorem dX6_best_153 : decode cX6_best 153 = .ok (.ireturn, 1) := by decide +kernel
theorem dX6_isTold_0 : decode cX6_isTold 0 = .ok (.aload_n 0, 1) := by decide +kernel
theorem dX6_isTold_1 : decode cX6_isTold 1 = .ok (.iload_n 1, 1) := by decide +kernel
theorem dX6_isTold_2 : decode cX6_isTold 2 = .ok (.invokevirtual 281, 3) := by decide +kernel
theorem dX6_isTold_5 : decode cX6_isTold 5 = .ok (.aload_n 0, 1) := by decide +kernel
theorem dX6_isTold_6 : decode cX6_isTold 6 = .ok (.invokevirtual 284, 3) := by decide +kernel
theorem dX6_isTold_9 : decode cX6_isTold 9 = .ok (.iload_n 2, 1) := by decide +kernel
theorem dX6_isTold_10 : decode cX6_isTold 10 = .ok (.lshr, 1) := by decide +kernel
theorem dX6_isTold_11 : decode cX6_isTold 11 = .ok (.lconst 1, 1) := by decide +kernel
theorem dX6_isTold_12 : decode cX6_isTold 12 = .ok (.land, 1) := by decide +kernel
theorem dX6_isTold_13 : decode cX6_isTold 13 = .ok (.lconst 1, 1) := by decide +kernel
theorem dX6_isTold_14 : decode cX6_isTold 14 = .ok (.lcmp, 1) := by decide +kernel
theorem dX6_isTold_15 : decode cX6_isTold 15 = .ok (.ifCond .ne 7, 3) := by decide +kernel
theorem dX6_isTold_18 : decode cX6_isTold 18 = .ok (.iconst 1, 1) := by decide +kernel
theorem dX6_isTold_19 : decode cX6_isTold 19 = .ok (.goto 4, 3) := by decide +kernel
theorem dX6_isTold_22 : decode cX6_isTold 22 = .ok (.iconst 0, 1) := by decide +kernel
theorem dX6_isTold_23 : decode cX6_isTold 23 = .ok (.ireturn, 1) := by decide +kernel
theorem dX6_drawFor_0 : decode cX6_drawFor 0 = .ok (.iload_n 1, 1) := by decide +kernel
theorem dX6_drawFor_1 : decode cX6_drawFor 1 = .ok (.bipush 100, 2) := by decide +kernel
theorem dX6_drawFor_3 : decode cX6_drawFor 3 = .ok (.idiv, 1) := by decide +kernel
theorem dX6_drawFor_4 : decode cX6_drawFor 4 = .ok (.istore_n 3, 1) := by decide +kernel
theorem dX6_drawFor_5 : decode cX6_drawFor 5 = .ok (.iload_n 1, 1) := by decide +kernel
theorem dX6_drawFor_6 : decode cX6_drawFor 6 = .ok (.bipush 10, 2) := by decide +kernel
theorem dX6_drawFor_8 : decode cX6_drawFor 8 = .ok (.idiv, 1) := by decide +kernel
theorem dX6_drawFor_9 : decode cX6_drawFor 9 = .ok (.bipush 10, 2) := by decide +kernel
theorem dX6_drawFor_11 : decode cX6_drawFor 11 = .ok (.irem, 1) := by decide +kernel
theorem dX6_drawFor_12 : decode cX6_drawFor 12 = .ok (.istore 4, 2) := by decide +kernel
theorem dX6_drawFor_14 : decode cX6_drawFor 14 = .ok (.aload_n 0, 1) := by decide +kernel
theorem dX6_drawFor_15 : decode cX6_drawFor 15 = .ok (.getfield 16, 3) := by decide +kernel
theorem dX6_drawFor_18 : decode cX6_drawFor 18 = .ok (.iload_n 3, 1) := by decide +kernel
theorem dX6_drawFor_19 : decode cX6_drawFor 19 = .ok (.iaload, 1) := by decide +kernel
theorem dX6_drawFor_20 : decode cX6_drawFor 20 = .ok (.bipush 40, 2) := by decide +kernel
theorem dX6_drawFor_22 : decode cX6_drawFor 22 = .ok (.if_icmp .ge 12, 3) := by decide +kernel
theorem dX6_drawFor_25 : decode cX6_drawFor 25 = .ok (.aload_n 0, 1) := by decide +kernel
theorem dX6_drawFor_26 : decode cX6_drawFor 26 = .ok (.getfield 16, 3) := by decide +kernel
theorem dX6_drawFor_29 : decode cX6_drawFor 29 = .ok (.iload_n 3, 1) := by decide +kernel
theorem dX6_drawFor_30 : decode cX6_drawFor 30 = .ok (.iaload, 1) := by decide +kernel
theorem dX6_drawFor_31 : decode cX6_drawFor 31 = .ok (.goto 5, 3) := by decide +kernel
theorem dX6_drawFor_34 : decode cX6_drawFor 34 = .ok (.bipush 40, 2) := by decide +kernel
theorem dX6_drawFor_36 : decode cX6_drawFor 36 = .ok (.istore 5, 2) := by decide +kernel
theorem dX6_drawFor_38 : decode cX6_drawFor 38 = .ok (.iconst (-1), 1) := by decide +kernel
theorem dX6_drawFor_39 : decode cX6_drawFor 39 = .ok (.istore 6, 2) := by decide +kernel
theorem dX6_drawFor_41 : decode cX6_drawFor 41 = .ok (.aload_n 0, 1) := by decide +kernel
theorem dX6_drawFor_42 : decode cX6_drawFor 42 = .ok (.invokevirtual 246, 3) := by decide +kernel
theorem dX6_drawFor_45 : decode cX6_drawFor 45 = .ok (.iconst 0, 1) := by decide +kernel
theorem dX6_drawFor_46 : decode cX6_drawFor 46 = .ok (.istore 7, 2) := by decide +kernel
theorem dX6_drawFor_48 : decode cX6_drawFor 48 = .ok (.iload 7, 2) := by decide +kernel
theorem dX6_drawFor_50 : decode cX6_drawFor 50 = .ok (.iload 5, 2) := by decide +kernel
theorem dX6_drawFor_52 : decode cX6_drawFor 52 = .ok (.if_icmp .gt 41, 3) := by decide +kernel
theorem dX6_drawFor_55 : decode cX6_drawFor 55 = .ok (.iload 6, 2) := by decide +kernel
theorem dX6_drawFor_57 : decode cX6_drawFor 57 = .ok (.iconst (-1), 1) := by decide +kernel
theorem dX6_drawFor_58 : decode cX6_drawFor 58 = .ok (.if_icmp .ne 35, 3) := by decide +kernel
theorem dX6_drawFor_61 : decode cX6_drawFor 61 = .ok (.aload_n 0, 1) := by decide +kernel
theorem dX6_drawFor_62 : decode cX6_drawFor 62 = .ok (.iload_n 3, 1) := by decide +kernel
theorem dX6_drawFor_63 : decode cX6_drawFor 63 = .ok (.iload 4, 2) := by decide +kernel
theorem dX6_drawFor_65 : decode cX6_drawFor 65 = .ok (.iload 7, 2) := by decide +kernel
theorem dX6_drawFor_67 : decode cX6_drawFor 67 = .ok (.invokevirtual 236, 3) := by decide +kernel
theorem dX6_drawFor_70 : decode cX6_drawFor 70 = .ok (.aload_n 0, 1) := by decide +kernel
theorem dX6_drawFor_71 : decode cX6_drawFor 71 = .ok (.iload_n 1, 1) := by decide +kernel
theorem dX6_drawFor_72 : decode cX6_drawFor 72 = .ok (.iload_n 2, 1) := by decide +kernel
theorem dX6_drawFor_73 : decode cX6_drawFor 73 = .ok (.invokevirtual 310, 3) := by decide +kernel
theorem dX6_drawFor_76 : decode cX6_drawFor 76 = .ok (.ifCond .eq 7, 3) := by decide +kernel
theorem dX6_drawFor_79 : decode cX6_drawFor 79 = .ok (.iload 7, 2) := by decide +kernel
theorem dX6_drawFor_81 : decode cX6_drawFor 81 = .ok (.istore 6, 2) := by decide +kernel
theorem dX6_drawFor_83 : decode cX6_drawFor 83 = .ok (.aload_n 0, 1) := by decide +kernel
theorem dX6_drawFor_84 : decode cX6_drawFor 84 = .ok (.invokevirtual 249, 3) := by decide +kernel
theorem dX6_drawFor_87 : decode cX6_drawFor 87 = .ok (.iinc 7 1, 3) := by decide +kernel
theorem dX6_drawFor_90 : decode cX6_drawFor 90 = .ok (.goto (-42), 3) := by decide +kernel
theorem dX6_drawFor_93 : decode cX6_drawFor 93 = .ok (.iload 6, 2) := by decide +kernel
theorem dX6_drawFor_95 : decode cX6_drawFor 95 = .ok (.ireturn, 1) := by decide +kernel
theorem dX6_daysFor_0 : decode cX6_daysFor 0 = .ok (.iconst (-1), 1) := by decide +kernel
theorem dX6_daysFor_1 : decode cX6_daysFor 1 = .ok (.istore_n 3, 1) := by decide +kernel
theorem dX6_daysFor_2 : decode cX6_daysFor 2 = .ok (.aload_n 0, 1) := by decide +kernel
theorem dX6_daysFor_3 : decode cX6_daysFor 3 = .ok (.invokevirtual 246, 3) := by decide +kernel
theorem dX6_daysFor_6 : decode cX6_daysFor 6 = .ok (.iconst 0, 1) := by decide +kernel
theorem dX6_daysFor_7 : decode cX6_daysFor 7 = .ok (.istore 4, 2) := by decide +kernel
theorem dX6_daysFor_9 : decode cX6_daysFor 9 = .ok (.iload 4, 2) := by decide +kernel
theorem dX6_daysFor_11 : decode cX6_daysFor 11 = .ok (.bipush 10, 2) := by decide +kernel
theorem dX6_daysFor_13 : decode cX6_daysFor 13 = .ok (.if_icmp .gt 35, 3) := by decide +kernel
theorem dX6_daysFor_16 : decode cX6_daysFor 16 = .ok (.iload_n 3, 1) := by decide +kernel
theorem dX6_daysFor_17 : decode cX6_daysFor 17 = .ok (.iconst (-1), 1) := by decide +kernel
theorem dX6_daysFor_18 : decode cX6_daysFor 18 = .ok (.if_icmp .ne 30, 3) := by decide +kernel
theorem dX6_daysFor_21 : decode cX6_daysFor 21 = .ok (.iload 4, 2) := by decide +kernel
theorem dX6_daysFor_23 : decode cX6_daysFor 23 = .ok (.ifCond .le 7, 3) := by decide +kernel
theorem dX6_daysFor_26 : decode cX6_daysFor 26 = .ok (.aload_n 0, 1) := by decide +kernel
theorem dX6_daysFor_27 : decode cX6_daysFor 27 = .ok (.invokevirtual 230, 3) := by decide +kernel
theorem dX6_daysFor_30 : decode cX6_daysFor 30 = .ok (.aload_n 0, 1) := by decide +kernel
theorem dX6_daysFor_31 : decode cX6_daysFor 31 = .ok (.iload_n 1, 1) := by decide +kernel
theorem dX6_daysFor_32 : decode cX6_daysFor 32 = .ok (.iload_n 2, 1) := by decide +kernel
theorem dX6_daysFor_33 : decode cX6_daysFor 33 = .ok (.invokevirtual 310, 3) := by decide +kernel
theorem dX6_daysFor_36 : decode cX6_daysFor 36 = .ok (.ifCond .eq 6, 3) := by decide +kernel
theorem dX6_daysFor_39 : decode cX6_daysFor 39 = .ok (.iload 4, 2) := by decide +kernel
theorem dX6_daysFor_41 : decode cX6_daysFor 41 = .ok (.istore_n 3, 1) := by decide +kernel
theorem dX6_daysFor_42 : decode cX6_daysFor 42 = .ok (.iinc 4 1, 3) := by decide +kernel
theorem dX6_daysFor_45 : decode cX6_daysFor 45 = .ok (.goto (-36), 3) := by decide +kernel
theorem dX6_daysFor_48 : decode cX6_daysFor 48 = .ok (.aload_n 0, 1) := by decide +kernel
theorem dX6_daysFor_49 : decode cX6_daysFor 49 = .ok (.invokevirtual 249, 3) := by decide +kernel
theorem dX6_daysFor_52 : decode cX6_daysFor 52 = .ok (.iload_n 3, 1) := by decide +kernel
theorem dX6_daysFor_53 : decode cX6_daysFor 53 = .ok (.ireturn, 1) := by decide +kernel
theorem dX6_makes_0 : decode cX6_makes 0 = .ok (.aload_n 0, 1) := by decide +kernel
theorem dX6_makes_1 : decode cX6_makes 1 = .ok (.iload_n 1, 1) := by decide +kernel
theorem dX6_makes_2 : decode cX6_makes 2 = .ok (.invokevirtual 276, 3) := by decide +kernel
theorem dX6_makes_5 : decode cX6_makes 5 = .ok (.ifCond .eq 19, 3) := by decide +kernel
theorem dX6_makes_8 : decode cX6_makes 8 = .ok (.iload_n 2, 1) := by decide +kernel
theorem dX6_makes_9 : decode cX6_makes 9 = .ok (.invokestatic 298, 3) := by decide +kernel
theorem dX6_makes_12 : decode cX6_makes 12 = .ok (.ifCond .eq 12, 3) := by decide +kernel
theorem dX6_makes_15 : decode cX6_makes 15 = .ok (.iload_n 3, 1) := by decide +kernel
theorem dX6_makes_16 : decode cX6_makes 16 = .ok (.iconst 0, 1) := by decide +kernel
theorem dX6_makes_17 : decode cX6_makes 17 = .ok (.iconst 1, 1) := by decide +kernel
theorem dX6_makes_18 : decode cX6_makes 18 = .ok (.invokestatic 88, 3) := by decide +kernel
theorem dX6_makes_21 : decode cX6_makes 21 = .ok (.ifCond .ne 6, 3) := by decide +kernel
theorem dX6_makes_24 : decode cX6_makes 24 = .ok (.bipush (-2), 2) := by decide +kernel
theorem dX6_makes_26 : decode cX6_makes 26 = .ok (.ireturn, 1) := by decide +kernel
theorem dX6_makes_27 : decode cX6_makes 27 = .ok (.iload_n 3, 1) := by decide +kernel
theorem dX6_makes_28 : decode cX6_makes 28 = .ok (.ifCond .ne 12, 3) := by decide +kernel
theorem dX6_makes_31 : decode cX6_makes 31 = .ok (.aload_n 0, 1) := by decide +kernel
theorem dX6_makes_32 : decode cX6_makes 32 = .ok (.iload_n 1, 1) := by decide +kernel
theorem dX6_makes_33 : decode cX6_makes 33 = .ok (.iload_n 2, 1) := by decide +kernel
theorem dX6_makes_34 : decode cX6_makes 34 = .ok (.invokevirtual 313, 3) := by decide +kernel
theorem dX6_makes_37 : decode cX6_makes 37 = .ok (.goto 9, 3) := by decide +kernel
theorem dX6_makes_40 : decode cX6_makes 40 = .ok (.aload_n 0, 1) := by decide +kernel
theorem dX6_makes_41 : decode cX6_makes 41 = .ok (.iload_n 1, 1) := by decide +kernel
theorem dX6_makes_42 : decode cX6_makes 42 = .ok (.iload_n 2, 1) := by decide +kernel
theorem dX6_makes_43 : decode cX6_makes 43 = .ok (.invokevirtual 316, 3) := by decide +kernel
theorem dX6_makes_46 : decode cX6_makes 46 = .ok (.ireturn, 1) := by decide +kernel
theorem dX6_wrong_0 : decode cX6_wrong 0 = .ok (.aload_n 0, 1) := by decide +kernel
theorem dX6_wrong_1 : decode cX6_wrong 1 = .ok (.invokevirtual 246, 3) := by decide +kernel
theorem dX6_wrong_4 : decode cX6_wrong 4 = .ok (.iconst (-1), 1) := by decide +kernel
theorem dX6_wrong_5 : decode cX6_wrong 5 = .ok (.istore_n 3, 1) := by decide +kernel
theorem dX6_wrong_6 : decode cX6_wrong 6 = .ok (.iconst 0, 1) := by decide +kernel
theorem dX6_wrong_7 : decode cX6_wrong 7 = .ok (.istore 4, 2) := by decide +kernel
theorem dX6_wrong_9 : decode cX6_wrong 9 = .ok (.iload 4, 2) := by decide +kernel
theorem dX6_wrong_11 : decode cX6_wrong 11 = .ok (.aload_n 0, 1) := by decide +kernel
theorem dX6_wrong_12 : decode cX6_wrong 12 = .ok (.getfield 71, 3) := by decide +kernel
theorem dX6_wrong_15 : decode cX6_wrong 15 = .ok (.iload_n 1, 1) := by decide +kernel
theorem dX6_wrong_16 : decode cX6_wrong 16 = .ok (.iaload, 1) := by decide +kernel
theorem dX6_wrong_17 : decode cX6_wrong 17 = .ok (.if_icmp .ge 46, 3) := by decide +kernel
theorem dX6_wrong_20 : decode cX6_wrong 20 = .ok (.iload_n 3, 1) := by decide +kernel
theorem dX6_wrong_21 : decode cX6_wrong 21 = .ok (.iconst (-1), 1) := by decide +kernel
theorem dX6_wrong_22 : decode cX6_wrong 22 = .ok (.if_icmp .ne 41, 3) := by decide +kernel
theorem dX6_wrong_25 : decode cX6_wrong 25 = .ok (.iload 4, 2) := by decide +kernel
theorem dX6_wrong_27 : decode cX6_wrong 27 = .ok (.ifCond .le 7, 3) := by decide +kernel
theorem dX6_wrong_30 : decode cX6_wrong 30 = .ok (.aload_n 0, 1) := by decide +kernel
theorem dX6_wrong_31 : decode cX6_wrong 31 = .ok (.invokevirtual 230, 3) := by decide +kernel
theorem dX6_wrong_34 : decode cX6_wrong 34 = .ok (.aload_n 0, 1) := by decide +kernel
theorem dX6_wrong_35 : decode cX6_wrong 35 = .ok (.iload_n 2, 1) := by decide +kernel
theorem dX6_wrong_36 : decode cX6_wrong 36 = .ok (.invokevirtual 120, 3) := by decide +kernel
theorem dX6_wrong_39 : decode cX6_wrong 39 = .ok (.aload_n 0, 1) := by decide +kernel
theorem dX6_wrong_40 : decode cX6_wrong 40 = .ok (.getfield 74, 3) := by decide +kernel
theorem dX6_wrong_43 : decode cX6_wrong 43 = .ok (.bipush 40, 2) := by decide +kernel
theorem dX6_wrong_45 : decode cX6_wrong 45 = .ok (.iload_n 1, 1) := by decide +kernel
theorem dX6_wrong_46 : decode cX6_wrong 46 = .ok (.imul, 1) := by decide +kernel
theorem dX6_wrong_47 : decode cX6_wrong 47 = .ok (.iload 4, 2) := by decide +kernel
theorem dX6_wrong_49 : decode cX6_wrong 49 = .ok (.iadd, 1) := by decide +kernel
theorem dX6_wrong_50 : decode cX6_wrong 50 = .ok (.iaload, 1) := by decide +kernel
theorem dX6_wrong_51 : decode cX6_wrong 51 = .ok (.if_icmp .eq 6, 3) := by decide +kernel
theorem dX6_wrong_54 : decode cX6_wrong 54 = .ok (.iload 4, 2) := by decide +kernel
theorem dX6_wrong_56 : decode cX6_wrong 56 = .ok (.istore_n 3, 1) := by decide +kernel
theorem dX6_wrong_57 : decode cX6_wrong 57 = .ok (.iinc 4 1, 3) := by decide +kernel
theorem dX6_wrong_60 : decode cX6_wrong 60 = .ok (.goto (-51), 3) := by decide +kernel
theorem dX6_wrong_63 : decode cX6_wrong 63 = .ok (.aload_n 0, 1) := by decide +kernel
theorem dX6_wrong_64 : decode cX6_wrong 64 = .ok (.invokevirtual 249, 3) := by decide +kernel
theorem dX6_wrong_67 : decode cX6_wrong 67 = .ok (.iload_n 3, 1) := by decide +kernel
theorem dX6_wrong_68 : decode cX6_wrong 68 = .ok (.ireturn, 1) := by decide +kernel
theorem dX6_isSo_0 : decode cX6_isSo 0 = .ok (.aload_n 0, 1) := by decide +kernel
theorem dX6_isSo_1 : decode cX6_isSo 1 = .ok (.iload_n 1, 1) := by decide +kernel
theorem dX6_isSo_2 : decode cX6_isSo 2 = .ok (.iload_n 2, 1) := by decide +kernel
theorem dX6_isSo_3 : decode cX6_isSo 3 = .ok (.invokevirtual 319, 3) := by decide +kernel
theorem dX6_isSo_6 : decode cX6_isSo 6 = .ok (.iconst (-1), 1) := by decide +kernel
theorem dX6_isSo_7 : decode cX6_isSo 7 = .ok (.if_icmp .ne 7, 3) := by decide +kernel
theorem dX6_isSo_10 : decode cX6_isSo 10 = .ok (.iconst 1, 1) := by decide +kernel
theorem dX6_isSo_11 : decode cX6_isSo 11 = .ok (.goto 4, 3) := by decide +kernel
theorem dX6_isSo_14 : decode cX6_isSo 14 = .ok (.iconst 0, 1) := by decide +kernel
theorem dX6_isSo_15 : decode cX6_isSo 15 = .ok (.ireturn, 1) := by decide +kernel
theorem dX6_kindsSo_0 : decode cX6_kindsSo 0 = .ok (.aload_n 0, 1) := by decide +kernel
theorem dX6_kindsSo_1 : decode cX6_kindsSo 1 = .ok (.getfield 7, 3) := by decide +kernel
theorem dX6_kindsSo_4 : decode cX6_kindsSo 4 = .ok (.iload_n 2, 1) := by decide +kernel
theorem dX6_kindsSo_5 : decode cX6_kindsSo 5 = .ok (.iaload, 1) := by decide +kernel
theorem dX6_kindsSo_6 : decode cX6_kindsSo 6 = .ok (.istore_n 3, 1) := by decide +kernel
theorem dX6_kindsSo_7 : decode cX6_kindsSo 7 = .ok (.iconst 0, 1) := by decide +kernel
theorem dX6_kindsSo_8 : decode cX6_kindsSo 8 = .ok (.istore 4, 2) := by decide +kernel
theorem dX6_kindsSo_10 : decode cX6_kindsSo 10 = .ok (.iconst 0, 1) := by decide +kernel
theorem dX6_kindsSo_11 : decode cX6_kindsSo 11 = .ok (.istore 5, 2) := by decide +kernel
theorem dX6_kindsSo_13 : decode cX6_kindsSo 13 = .ok (.iload 5, 2) := by decide +kernel
theorem dX6_kindsSo_15 : decode cX6_kindsSo 15 = .ok (.bipush 6, 2) := by decide +kernel
theorem dX6_kindsSo_17 : decode cX6_kindsSo 17 = .ok (.if_icmp .ge 35, 3) := by decide +kernel
theorem dX6_kindsSo_20 : decode cX6_kindsSo 20 = .ok (.aload_n 0, 1) := by decide +kernel
theorem dX6_kindsSo_21 : decode cX6_kindsSo 21 = .ok (.getfield 7, 3) := by decide +kernel
theorem dX6_kindsSo_24 : decode cX6_kindsSo 24 = .ok (.iload_n 2, 1) := by decide +kernel
theorem dX6_kindsSo_25 : decode cX6_kindsSo 25 = .ok (.iload 5, 2) := by decide +kernel
theorem dX6_kindsSo_27 : decode cX6_kindsSo 27 = .ok (.iastore, 1) := by decide +kernel
theorem dX6_kindsSo_28 : decode cX6_kindsSo 28 = .ok (.aload_n 0, 1) := by decide +kernel
theorem dX6_kindsSo_29 : decode cX6_kindsSo 29 = .ok (.iload_n 1, 1) := by decide +kernel
theorem dX6_kindsSo_30 : decode cX6_kindsSo 30 = .ok (.iload_n 2, 1) := by decide +kernel
theorem dX6_kindsSo_31 : decode cX6_kindsSo 31 = .ok (.invokevirtual 322, 3) := by decide +kernel
theorem dX6_kindsSo_34 : decode cX6_kindsSo 34 = .ok (.ifCond .eq 12, 3) := by decide +kernel
theorem dX6_kindsSo_37 : decode cX6_kindsSo 37 = .ok (.iload 4, 2) := by decide +kernel
theorem dX6_kindsSo_39 : decode cX6_kindsSo 39 = .ok (.iconst 1, 1) := by decide +kernel
theorem dX6_kindsSo_40 : decode cX6_kindsSo 40 = .ok (.iload 5, 2) := by decide +kernel
theorem dX6_kindsSo_42 : decode cX6_kindsSo 42 = .ok (.ishl, 1) := by decide +kernel
theorem dX6_kindsSo_43 : decode cX6_kindsSo 43 = .ok (.ior, 1) := by decide +kernel
theorem dX6_kindsSo_44 : decode cX6_kindsSo 44 = .ok (.istore 4, 2) := by decide +kernel
theorem dX6_kindsSo_46 : decode cX6_kindsSo 46 = .ok (.iinc 5 1, 3) := by decide +kernel
theorem dX6_kindsSo_49 : decode cX6_kindsSo 49 = .ok (.goto (-36), 3) := by decide +kernel
theorem dX6_kindsSo_52 : decode cX6_kindsSo 52 = .ok (.aload_n 0, 1) := by decide +kernel
theorem dX6_kindsSo_53 : decode cX6_kindsSo 53 = .ok (.getfield 7, 3) := by decide +kernel
theorem dX6_kindsSo_56 : decode cX6_kindsSo 56 = .ok (.iload_n 2, 1) := by decide +kernel
theorem dX6_kindsSo_57 : decode cX6_kindsSo 57 = .ok (.iload_n 3, 1) := by decide +kernel
theorem dX6_kindsSo_58 : decode cX6_kindsSo 58 = .ok (.iastore, 1) := by decide +kernel
theorem dX6_kindsSo_59 : decode cX6_kindsSo 59 = .ok (.iload 4, 2) := by decide +kernel
theorem dX6_kindsSo_61 : decode cX6_kindsSo 61 = .ok (.ireturn, 1) := by decide +kernel
theorem dX6_numbersSo_0 : decode cX6_numbersSo 0 = .ok (.aload_n 0, 1) := by decide +kernel
theorem dX6_numbersSo_1 : decode cX6_numbersSo 1 = .ok (.getfield 13, 3) := by decide +kernel
theorem dX6_numbersSo_4 : decode cX6_numbersSo 4 = .ok (.iload_n 2, 1) := by decide +kernel
theorem dX6_numbersSo_5 : decode cX6_numbersSo 5 = .ok (.iaload, 1) := by decide +kernel
theorem dX6_numbersSo_6 : decode cX6_numbersSo 6 = .ok (.istore_n 3, 1) := by decide +kernel
theorem dX6_numbersSo_7 : decode cX6_numbersSo 7 = .ok (.iconst 0, 1) := by decide +kernel
theorem dX6_numbersSo_8 : decode cX6_numbersSo 8 = .ok (.istore 4, 2) := by decide +kernel
theorem dX6_numbersSo_10 : decode cX6_numbersSo 10 = .ok (.iconst 0, 1) := by decide +kernel
theorem dX6_numbersSo_11 : decode cX6_numbersSo 11 = .ok (.istore 5, 2) := by decide +kernel
theorem dX6_numbersSo_13 : decode cX6_numbersSo 13 = .ok (.iload 5, 2) := by decide +kernel
theorem dX6_numbersSo_15 : decode cX6_numbersSo 15 = .ok (.bipush 10, 2) := by decide +kernel
theorem dX6_numbersSo_17 : decode cX6_numbersSo 17 = .ok (.if_icmp .ge 35, 3) := by decide +kernel
theorem dX6_numbersSo_20 : decode cX6_numbersSo 20 = .ok (.aload_n 0, 1) := by decide +kernel
theorem dX6_numbersSo_21 : decode cX6_numbersSo 21 = .ok (.getfield 13, 3) := by decide +kernel
theorem dX6_numbersSo_24 : decode cX6_numbersSo 24 = .ok (.iload_n 2, 1) := by decide +kernel
theorem dX6_numbersSo_25 : decode cX6_numbersSo 25 = .ok (.iload 5, 2) := by decide +kernel
theorem dX6_numbersSo_27 : decode cX6_numbersSo 27 = .ok (.iastore, 1) := by decide +kernel
theorem dX6_numbersSo_28 : decode cX6_numbersSo 28 = .ok (.aload_n 0, 1) := by decide +kernel
theorem dX6_numbersSo_29 : decode cX6_numbersSo 29 = .ok (.iload_n 1, 1) := by decide +kernel
theorem dX6_numbersSo_30 : decode cX6_numbersSo 30 = .ok (.iload_n 2, 1) := by decide +kernel
theorem dX6_numbersSo_31 : decode cX6_numbersSo 31 = .ok (.invokevirtual 322, 3) := by decide +kernel
theorem dX6_numbersSo_34 : decode cX6_numbersSo 34 = .ok (.ifCond .eq 12, 3) := by decide +kernel
theorem dX6_numbersSo_37 : decode cX6_numbersSo 37 = .ok (.iload 4, 2) := by decide +kernel
theorem dX6_numbersSo_39 : decode cX6_numbersSo 39 = .ok (.iconst 1, 1) := by decide +kernel
theorem dX6_numbersSo_40 : decode cX6_numbersSo 40 = .ok (.iload 5, 2) := by decide +kernel
theorem dX6_numbersSo_42 : decode cX6_numbersSo 42 = .ok (.ishl, 1) := by decide +kernel
theorem dX6_numbersSo_43 : decode cX6_numbersSo 43 = .ok (.ior, 1) := by decide +kernel
theorem dX6_numbersSo_44 : decode cX6_numbersSo 44 = .ok (.istore 4, 2) := by decide +kernel
theorem dX6_numbersSo_46 : decode cX6_numbersSo 46 = .ok (.iinc 5 1, 3) := by decide +kernel
theorem dX6_numbersSo_49 : decode cX6_numbersSo 49 = .ok (.goto (-36), 3) := by decide +kernel
theorem dX6_numbersSo_52 : decode cX6_numbersSo 52 = .ok (.aload_n 0, 1) := by decide +kernel
theorem dX6_numbersSo_53 : decode cX6_numbersSo 53 = .ok (.getfield 13, 3) := by decide +kernel
theorem dX6_numbersSo_56 : decode cX6_numbersSo 56 = .ok (.iload_n 2, 1) := by decide +kernel
theorem dX6_numbersSo_57 : decode cX6_numbersSo 57 = .ok (.iload_n 3, 1) := by decide +kernel
theorem dX6_numbersSo_58 : decode cX6_numbersSo 58 = .ok (.iastore, 1) := by decide +kernel
theorem dX6_numbersSo_59 : decode cX6_numbersSo 59 = .ok (.iload 4, 2) := by decide +kernel
theorem dX6_numbersSo_61 : decode cX6_numbersSo 61 = .ok (.ireturn, 1) := by decide +kernel
theorem dX6_wetsSo_0 : decode cX6_wetsSo 0 = .ok (.aload_n 0, 1) := by decide +kernel
theorem dX6_wetsSo_1 : decode cX6_wetsSo 1 = .ok (.getfield 99, 3) := by decide +kernel
theorem dX6_wetsSo_4 : decode cX6_wetsSo 4 = .ok (.istore_n 3, 1) := by decide +kernel
theorem dX6_wetsSo_5 : decode cX6_wetsSo 5 = .ok (.iconst 0, 1) := by decide +kernel
theorem dX6_wetsSo_6 : decode cX6_wetsSo 6 = .ok (.istore 4, 2) := by decide +kernel
theorem dX6_wetsSo_8 : decode cX6_wetsSo 8 = .ok (.iconst 0, 1) := by decide +kernel
theorem dX6_wetsSo_9 : decode cX6_wetsSo 9 = .ok (.istore 5, 2) := by decide +kernel
theorem dX6_wetsSo_11 : decode cX6_wetsSo 11 = .ok (.iload 5, 2) := by decide +kernel
theorem dX6_wetsSo_13 : decode cX6_wetsSo 13 = .ok (.bipush 10, 2) := by decide +kernel
theorem dX6_wetsSo_15 : decode cX6_wetsSo 15 = .ok (.if_icmp .ge 33, 3) := by decide +kernel
theorem dX6_wetsSo_18 : decode cX6_wetsSo 18 = .ok (.aload_n 0, 1) := by decide +kernel
theorem dX6_wetsSo_19 : decode cX6_wetsSo 19 = .ok (.iload 5, 2) := by decide +kernel
theorem dX6_wetsSo_21 : decode cX6_wetsSo 21 = .ok (.putfield 99, 3) := by decide +kernel
theorem dX6_wetsSo_24 : decode cX6_wetsSo 24 = .ok (.aload_n 0, 1) := by decide +kernel
theorem dX6_wetsSo_25 : decode cX6_wetsSo 25 = .ok (.iload_n 1, 1) := by decide +kernel
theorem dX6_wetsSo_26 : decode cX6_wetsSo 26 = .ok (.iload_n 2, 1) := by decide +kernel
theorem dX6_wetsSo_27 : decode cX6_wetsSo 27 = .ok (.invokevirtual 322, 3) := by decide +kernel
theorem dX6_wetsSo_30 : decode cX6_wetsSo 30 = .ok (.ifCond .eq 12, 3) := by decide +kernel
theorem dX6_wetsSo_33 : decode cX6_wetsSo 33 = .ok (.iload 4, 2) := by decide +kernel
theorem dX6_wetsSo_35 : decode cX6_wetsSo 35 = .ok (.iconst 1, 1) := by decide +kernel
theorem dX6_wetsSo_36 : decode cX6_wetsSo 36 = .ok (.iload 5, 2) := by decide +kernel
theorem dX6_wetsSo_38 : decode cX6_wetsSo 38 = .ok (.ishl, 1) := by decide +kernel
theorem dX6_wetsSo_39 : decode cX6_wetsSo 39 = .ok (.ior, 1) := by decide +kernel
theorem dX6_wetsSo_40 : decode cX6_wetsSo 40 = .ok (.istore 4, 2) := by decide +kernel
theorem dX6_wetsSo_42 : decode cX6_wetsSo 42 = .ok (.iinc 5 1, 3) := by decide +kernel
theorem dX6_wetsSo_45 : decode cX6_wetsSo 45 = .ok (.goto (-34), 3) := by decide +kernel
theorem dX6_wetsSo_48 : decode cX6_wetsSo 48 = .ok (.aload_n 0, 1) := by decide +kernel
theorem dX6_wetsSo_49 : decode cX6_wetsSo 49 = .ok (.iload_n 3, 1) := by decide +kernel
theorem dX6_wetsSo_50 : decode cX6_wetsSo 50 = .ok (.putfield 99, 3) := by decide +kernel
theorem dX6_wetsSo_53 : decode cX6_wetsSo 53 = .ok (.iload 4, 2) := by decide +kernel
theorem dX6_wetsSo_55 : decode cX6_wetsSo 55 = .ok (.ireturn, 1) := by decide +kernel
theorem dX6_ruesSo_0 : decode cX6_ruesSo 0 = .ok (.aload_n 0, 1) := by decide +kernel
theorem dX6_ruesSo_1 : decode cX6_ruesSo 1 = .ok (.getfield 16, 3) := by decide +kernel
theorem dX6_ruesSo_4 : decode cX6_ruesSo 4 = .ok (.iload_n 2, 1) := by decide +kernel
theorem dX6_ruesSo_5 : decode cX6_ruesSo 5 = .ok (.iaload, 1) := by decide +kernel
theorem dX6_ruesSo_6 : decode cX6_ruesSo 6 = .ok (.istore 4, 2) := by decide +kernel
theorem dX6_ruesSo_8 : decode cX6_ruesSo 8 = .ok (.iconst 0, 1) := by decide +kernel
theorem dX6_ruesSo_9 : decode cX6_ruesSo 9 = .ok (.istore 5, 2) := by decide +kernel
theorem dX6_ruesSo_11 : decode cX6_ruesSo 11 = .ok (.iconst (-1), 1) := by decide +kernel
theorem dX6_ruesSo_12 : decode cX6_ruesSo 12 = .ok (.istore 6, 2) := by decide +kernel
theorem dX6_ruesSo_14 : decode cX6_ruesSo 14 = .ok (.bipush 99, 2) := by decide +kernel
theorem dX6_ruesSo_16 : decode cX6_ruesSo 16 = .ok (.istore 7, 2) := by decide +kernel
theorem dX6_ruesSo_18 : decode cX6_ruesSo 18 = .ok (.iload 7, 2) := by decide +kernel
theorem dX6_ruesSo_20 : decode cX6_ruesSo 20 = .ok (.ifCond .lt 36, 3) := by decide +kernel
theorem dX6_ruesSo_23 : decode cX6_ruesSo 23 = .ok (.aload_n 0, 1) := by decide +kernel
theorem dX6_ruesSo_24 : decode cX6_ruesSo 24 = .ok (.getfield 16, 3) := by decide +kernel
theorem dX6_ruesSo_27 : decode cX6_ruesSo 27 = .ok (.iload_n 2, 1) := by decide +kernel
theorem dX6_ruesSo_28 : decode cX6_ruesSo 28 = .ok (.iload 7, 2) := by decide +kernel
theorem dX6_ruesSo_30 : decode cX6_ruesSo 30 = .ok (.iastore, 1) := by decide +kernel
theorem dX6_ruesSo_31 : decode cX6_ruesSo 31 = .ok (.aload_n 0, 1) := by decide +kernel
theorem dX6_ruesSo_32 : decode cX6_ruesSo 32 = .ok (.iload_n 1, 1) := by decide +kernel
theorem dX6_ruesSo_33 : decode cX6_ruesSo 33 = .ok (.iload_n 2, 1) := by decide +kernel
theorem dX6_ruesSo_34 : decode cX6_ruesSo 34 = .ok (.invokevirtual 322, 3) := by decide +kernel
theorem dX6_ruesSo_37 : decode cX6_ruesSo 37 = .ok (.ifCond .ne 6, 3) := by decide +kernel
theorem dX6_ruesSo_40 : decode cX6_ruesSo 40 = .ok (.goto 10, 3) := by decide +kernel
theorem dX6_ruesSo_43 : decode cX6_ruesSo 43 = .ok (.iinc 5 1, 3) := by decide +kernel
theorem dX6_ruesSo_46 : decode cX6_ruesSo 46 = .ok (.iload 7, 2) := by decide +kernel
theorem dX6_ruesSo_48 : decode cX6_ruesSo 48 = .ok (.istore 6, 2) := by decide +kernel
theorem dX6_ruesSo_50 : decode cX6_ruesSo 50 = .ok (.iinc 7 (-1), 3) := by decide +kernel
theorem dX6_ruesSo_53 : decode cX6_ruesSo 53 = .ok (.goto (-35), 3) := by decide +kernel
theorem dX6_ruesSo_56 : decode cX6_ruesSo 56 = .ok (.aload_n 0, 1) := by decide +kernel
theorem dX6_ruesSo_57 : decode cX6_ruesSo 57 = .ok (.getfield 16, 3) := by decide +kernel
theorem dX6_ruesSo_60 : decode cX6_ruesSo 60 = .ok (.iload_n 2, 1) := by decide +kernel
theorem dX6_ruesSo_61 : decode cX6_ruesSo 61 = .ok (.iload 4, 2) := by decide +kernel
theorem dX6_ruesSo_63 : decode cX6_ruesSo 63 = .ok (.iastore, 1) := by decide +kernel
theorem dX6_ruesSo_64 : decode cX6_ruesSo 64 = .ok (.iload_n 3, 1) := by decide +kernel
theorem dX6_ruesSo_65 : decode cX6_ruesSo 65 = .ok (.ifCond .ne 8, 3) := by decide +kernel
theorem dX6_ruesSo_68 : decode cX6_ruesSo 68 = .ok (.iload 5, 2) := by decide +kernel
theorem dX6_ruesSo_70 : decode cX6_ruesSo 70 = .ok (.goto 5, 3) := by decide +kernel
theorem dX6_ruesSo_73 : decode cX6_ruesSo 73 = .ok (.iload 6, 2) := by decide +kernel
theorem dX6_ruesSo_75 : decode cX6_ruesSo 75 = .ok (.ireturn, 1) := by decide +kernel
theorem dX6_textsSo_0 : decode cX6_textsSo 0 = .ok (.aload_n 0, 1) := by decide +kernel
theorem dX6_textsSo_1 : decode cX6_textsSo 1 = .ok (.getfield 211, 3) := by decide +kernel
theorem dX6_textsSo_4 : decode cX6_textsSo 4 = .ok (.istore_n 3, 1) := by decide +kernel
theorem dX6_textsSo_5 : decode cX6_textsSo 5 = .ok (.iconst 0, 1) := by decide +kernel
theorem dX6_textsSo_6 : decode cX6_textsSo 6 = .ok (.istore 4, 2) := by decide +kernel
theorem dX6_textsSo_8 : decode cX6_textsSo 8 = .ok (.iconst 0, 1) := by decide +kernel
theorem dX6_textsSo_9 : decode cX6_textsSo 9 = .ok (.istore 5, 2) := by decide +kernel
theorem dX6_textsSo_11 : decode cX6_textsSo 11 = .ok (.iload 5, 2) := by decide +kernel
theorem dX6_textsSo_13 : decode cX6_textsSo 13 = .ok (.aload_n 0, 1) := by decide +kernel
theorem dX6_textsSo_14 : decode cX6_textsSo 14 = .ok (.getfield 81, 3) := by decide +kernel
theorem dX6_textsSo_17 : decode cX6_textsSo 17 = .ok (.if_icmp .ge 33, 3) := by decide +kernel
theorem dX6_textsSo_20 : decode cX6_textsSo 20 = .ok (.aload_n 0, 1) := by decide +kernel
theorem dX6_textsSo_21 : decode cX6_textsSo 21 = .ok (.iload 5, 2) := by decide +kernel
theorem dX6_textsSo_23 : decode cX6_textsSo 23 = .ok (.putfield 211, 3) := by decide +kernel
theorem dX6_textsSo_26 : decode cX6_textsSo 26 = .ok (.aload_n 0, 1) := by decide +kernel
theorem dX6_textsSo_27 : decode cX6_textsSo 27 = .ok (.iload_n 1, 1) := by decide +kernel
theorem dX6_textsSo_28 : decode cX6_textsSo 28 = .ok (.iload_n 2, 1) := by decide +kernel
theorem dX6_textsSo_29 : decode cX6_textsSo 29 = .ok (.invokevirtual 322, 3) := by decide +kernel
theorem dX6_textsSo_32 : decode cX6_textsSo 32 = .ok (.ifCond .eq 12, 3) := by decide +kernel
theorem dX6_textsSo_35 : decode cX6_textsSo 35 = .ok (.iload 4, 2) := by decide +kernel
theorem dX6_textsSo_37 : decode cX6_textsSo 37 = .ok (.iconst 1, 1) := by decide +kernel
theorem dX6_textsSo_38 : decode cX6_textsSo 38 = .ok (.iload 5, 2) := by decide +kernel
theorem dX6_textsSo_40 : decode cX6_textsSo 40 = .ok (.ishl, 1) := by decide +kernel
theorem dX6_textsSo_41 : decode cX6_textsSo 41 = .ok (.ior, 1) := by decide +kernel
theorem dX6_textsSo_42 : decode cX6_textsSo 42 = .ok (.istore 4, 2) := by decide +kernel
theorem dX6_textsSo_44 : decode cX6_textsSo 44 = .ok (.iinc 5 1, 3) := by decide +kernel
theorem dX6_textsSo_47 : decode cX6_textsSo 47 = .ok (.goto (-36), 3) := by decide +kernel
theorem dX6_textsSo_50 : decode cX6_textsSo 50 = .ok (.aload_n 0, 1) := by decide +kernel
theorem dX6_textsSo_51 : decode cX6_textsSo 51 = .ok (.iload_n 3, 1) := by decide +kernel
theorem dX6_textsSo_52 : decode cX6_textsSo 52 = .ok (.putfield 211, 3) := by decide +kernel
theorem dX6_textsSo_55 : decode cX6_textsSo 55 = .ok (.iload 4, 2) := by decide +kernel
theorem dX6_textsSo_57 : decode cX6_textsSo 57 = .ok (.ireturn, 1) := by decide +kernel
theorem dX6_peopleSo_0 : decode cX6_peopleSo 0 = .ok (.iconst 0, 1) := by decide +kernel
theorem dX6_peopleSo_1 : decode cX6_peopleSo 1 = .ok (.istore_n 2, 1) := by decide +kernel
theorem dX6_peopleSo_2 : decode cX6_peopleSo 2 = .ok (.iconst 0, 1) := by decide +kernel
theorem dX6_peopleSo_3 : decode cX6_peopleSo 3 = .ok (.istore_n 3, 1) := by decide +kernel
theorem dX6_peopleSo_4 : decode cX6_peopleSo 4 = .ok (.iload_n 3, 1) := by decide +kernel
theorem dX6_peopleSo_5 : decode cX6_peopleSo 5 = .ok (.aload_n 0, 1) := by decide +kernel
theorem dX6_peopleSo_6 : decode cX6_peopleSo 6 = .ok (.getfield 85, 3) := by decide +kernel
theorem dX6_peopleSo_9 : decode cX6_peopleSo 9 = .ok (.if_icmp .ge 24, 3) := by decide +kernel
theorem dX6_peopleSo_12 : decode cX6_peopleSo 12 = .ok (.aload_n 0, 1) := by decide +kernel
theorem dX6_peopleSo_13 : decode cX6_peopleSo 13 = .ok (.iload_n 1, 1) := by decide +kernel
theorem dX6_peopleSo_14 : decode cX6_peopleSo 14 = .ok (.iload_n 3, 1) := by decide +kernel
theorem dX6_peopleSo_15 : decode cX6_peopleSo 15 = .ok (.invokevirtual 322, 3) := by decide +kernel
theorem dX6_peopleSo_18 : decode cX6_peopleSo 18 = .ok (.ifCond .eq 9, 3) := by decide +kernel
theorem dX6_peopleSo_21 : decode cX6_peopleSo 21 = .ok (.iload_n 2, 1) := by decide +kernel
theorem dX6_peopleSo_22 : decode cX6_peopleSo 22 = .ok (.iconst 1, 1) := by decide +kernel
theorem dX6_peopleSo_23 : decode cX6_peopleSo 23 = .ok (.iload_n 3, 1) := by decide +kernel
theorem dX6_peopleSo_24 : decode cX6_peopleSo 24 = .ok (.ishl, 1) := by decide +kernel
theorem dX6_peopleSo_25 : decode cX6_peopleSo 25 = .ok (.ior, 1) := by decide +kernel
theorem dX6_peopleSo_26 : decode cX6_peopleSo 26 = .ok (.istore_n 2, 1) := by decide +kernel
theorem dX6_peopleSo_27 : decode cX6_peopleSo 27 = .ok (.iinc 3 1, 3) := by decide +kernel
theorem dX6_peopleSo_30 : decode cX6_peopleSo 30 = .ok (.goto (-26), 3) := by decide +kernel
theorem dX6_peopleSo_33 : decode cX6_peopleSo 33 = .ok (.iload_n 2, 1) := by decide +kernel
theorem dX6_peopleSo_34 : decode cX6_peopleSo 34 = .ok (.ireturn, 1) := by decide +kernel
theorem dX6_tells_0 : decode cX6_tells 0 = .ok (.iload_n 1, 1) := by decide +kernel
theorem dX6_tells_1 : decode cX6_tells 1 = .ok (.invokestatic 325, 3) := by decide +kernel
theorem dX6_tells_4 : decode cX6_tells 4 = .ok (.ifCond .eq 21, 3) := by decide +kernel
theorem dX6_tells_7 : decode cX6_tells 7 = .ok (.aload_n 0, 1) := by decide +kernel
theorem dX6_tells_8 : decode cX6_tells 8 = .ok (.iload_n 2, 1) := by decide +kernel
theorem dX6_tells_9 : decode cX6_tells 9 = .ok (.invokevirtual 92, 3) := by decide +kernel
theorem dX6_tells_12 : decode cX6_tells 12 = .ok (.ifCond .eq 13, 3) := by decide +kernel
theorem dX6_tells_15 : decode cX6_tells 15 = .ok (.iload_n 3, 1) := by decide +kernel
theorem dX6_tells_16 : decode cX6_tells 16 = .ok (.iconst 0, 1) := by decide +kernel
theorem dX6_tells_17 : decode cX6_tells 17 = .ok (.bipush 7, 2) := by decide +kernel
theorem dX6_tells_19 : decode cX6_tells 19 = .ok (.invokestatic 88, 3) := by decide +kernel
theorem dX6_tells_22 : decode cX6_tells 22 = .ok (.ifCond .ne 6, 3) := by decide +kernel
theorem dX6_tells_25 : decode cX6_tells 25 = .ok (.bipush (-2), 2) := by decide +kernel
theorem dX6_tells_27 : decode cX6_tells 27 = .ok (.ireturn, 1) := by decide +kernel
theorem dX6_tells_28 : decode cX6_tells 28 = .ok (.aload_n 0, 1) := by decide +kernel
theorem dX6_tells_29 : decode cX6_tells 29 = .ok (.getfield 68, 3) := by decide +kernel
theorem dX6_tells_32 : decode cX6_tells 32 = .ok (.iload_n 1, 1) := by decide +kernel
theorem dX6_tells_33 : decode cX6_tells 33 = .ok (.iaload, 1) := by decide +kernel
theorem dX6_tells_34 : decode cX6_tells 34 = .ok (.ifCond .ge 6, 3) := by decide +kernel
theorem dX6_tells_37 : decode cX6_tells 37 = .ok (.bipush (-11), 2) := by decide +kernel
theorem dX6_tells_39 : decode cX6_tells 39 = .ok (.ireturn, 1) := by decide +kernel
theorem dX6_tells_40 : decode cX6_tells 40 = .ok (.aload_n 0, 1) := by decide +kernel
theorem dX6_tells_41 : decode cX6_tells 41 = .ok (.getfield 71, 3) := by decide +kernel
theorem dX6_tells_44 : decode cX6_tells 44 = .ok (.iload_n 1, 1) := by decide +kernel
theorem dX6_tells_45 : decode cX6_tells 45 = .ok (.iaload, 1) := by decide +kernel
theorem dX6_tells_46 : decode cX6_tells 46 = .ok (.bipush 30, 2) := by decide +kernel
theorem dX6_tells_48 : decode cX6_tells 48 = .ok (.if_icmp .le 6, 3) := by decide +kernel
theorem dX6_tells_51 : decode cX6_tells 51 = .ok (.bipush (-2), 2) := by decide +kernel
theorem dX6_tells_53 : decode cX6_tells 53 = .ok (.ireturn, 1) := by decide +kernel
theorem dX6_tells_54 : decode cX6_tells 54 = .ok (.iload_n 3, 1) := by decide +kernel
theorem dX6_tells_55 : decode cX6_tells 55 = .ok (.tableswitch 92 0 6 #[41, 48, 55, 62, 69, 77, 85], 41) := by decide +kernel
theorem dX6_tells_96 : decode cX6_tells 96 = .ok (.aload_n 0, 1) := by decide +kernel
theorem dX6_tells_97 : decode cX6_tells 97 = .ok (.iload_n 1, 1) := by decide +kernel
theorem dX6_tells_98 : decode cX6_tells 98 = .ok (.iload_n 2, 1) := by decide +kernel
theorem dX6_tells_99 : decode cX6_tells 99 = .ok (.invokevirtual 319, 3) := by decide +kernel
theorem dX6_tells_102 : decode cX6_tells 102 = .ok (.ireturn, 1) := by decide +kernel
theorem dX6_tells_103 : decode cX6_tells 103 = .ok (.aload_n 0, 1) := by decide +kernel
theorem dX6_tells_104 : decode cX6_tells 104 = .ok (.iload_n 1, 1) := by decide +kernel
theorem dX6_tells_105 : decode cX6_tells 105 = .ok (.iload_n 2, 1) := by decide +kernel
theorem dX6_tells_106 : decode cX6_tells 106 = .ok (.invokevirtual 328, 3) := by decide +kernel
theorem dX6_tells_109 : decode cX6_tells 109 = .ok (.ireturn, 1) := by decide +kernel
theorem dX6_tells_110 : decode cX6_tells 110 = .ok (.aload_n 0, 1) := by decide +kernel
theorem dX6_tells_111 : decode cX6_tells 111 = .ok (.iload_n 1, 1) := by decide +kernel
theorem dX6_tells_112 : decode cX6_tells 112 = .ok (.iload_n 2, 1) := by decide +kernel
theorem dX6_tells_113 : decode cX6_tells 113 = .ok (.invokevirtual 331, 3) := by decide +kernel
theorem dX6_tells_116 : decode cX6_tells 116 = .ok (.ireturn, 1) := by decide +kernel
theorem dX6_tells_117 : decode cX6_tells 117 = .ok (.aload_n 0, 1) := by decide +kernel
theorem dX6_tells_118 : decode cX6_tells 118 = .ok (.iload_n 1, 1) := by decide +kernel
theorem dX6_tells_119 : decode cX6_tells 119 = .ok (.iload_n 2, 1) := by decide +kernel
theorem dX6_tells_120 : decode cX6_tells 120 = .ok (.invokevirtual 334, 3) := by decide +kernel
theorem dX6_tells_123 : decode cX6_tells 123 = .ok (.ireturn, 1) := by decide +kernel
theorem dX6_tells_124 : decode cX6_tells 124 = .ok (.aload_n 0, 1) := by decide +kernel
theorem dX6_tells_125 : decode cX6_tells 125 = .ok (.iload_n 1, 1) := by decide +kernel
theorem dX6_tells_126 : decode cX6_tells 126 = .ok (.iload_n 2, 1) := by decide +kernel
theorem dX6_tells_127 : decode cX6_tells 127 = .ok (.iconst 0, 1) := by decide +kernel
theorem dX6_tells_128 : decode cX6_tells 128 = .ok (.invokevirtual 337, 3) := by decide +kernel
theorem dX6_tells_131 : decode cX6_tells 131 = .ok (.ireturn, 1) := by decide +kernel
theorem dX6_tells_132 : decode cX6_tells 132 = .ok (.aload_n 0, 1) := by decide +kernel
theorem dX6_tells_133 : decode cX6_tells 133 = .ok (.iload_n 1, 1) := by decide +kernel
theorem dX6_tells_134 : decode cX6_tells 134 = .ok (.iload_n 2, 1) := by decide +kernel
theorem dX6_tells_135 : decode cX6_tells 135 = .ok (.iconst 1, 1) := by decide +kernel
theorem dX6_tells_136 : decode cX6_tells 136 = .ok (.invokevirtual 337, 3) := by decide +kernel
theorem dX6_tells_139 : decode cX6_tells 139 = .ok (.ireturn, 1) := by decide +kernel
theorem dX6_tells_140 : decode cX6_tells 140 = .ok (.aload_n 0, 1) := by decide +kernel
theorem dX6_tells_141 : decode cX6_tells 141 = .ok (.iload_n 1, 1) := by decide +kernel
theorem dX6_tells_142 : decode cX6_tells 142 = .ok (.iload_n 2, 1) := by decide +kernel
theorem dX6_tells_143 : decode cX6_tells 143 = .ok (.invokevirtual 340, 3) := by decide +kernel
theorem dX6_tells_146 : decode cX6_tells 146 = .ok (.ireturn, 1) := by decide +kernel
theorem dX6_tells_147 : decode cX6_tells 147 = .ok (.aload_n 0, 1) := by decide +kernel
theorem dX6_tells_148 : decode cX6_tells 148 = .ok (.iload_n 1, 1) := by decide +kernel
theorem dX6_tells_149 : decode cX6_tells 149 = .ok (.invokevirtual 343, 3) := by decide +kernel
theorem dX6_tells_152 : decode cX6_tells 152 = .ok (.ireturn, 1) := by decide +kernel
theorem dX6_film_0 : decode cX6_film 0 = .ok (.iload_n 1, 1) := by decide +kernel
theorem dX6_film_1 : decode cX6_film 1 = .ok (.invokestatic 325, 3) := by decide +kernel
theorem dX6_film_4 : decode cX6_film 4 = .ok (.ifCond .eq 21, 3) := by decide +kernel
theorem dX6_film_7 : decode cX6_film 7 = .ok (.aload_n 0, 1) := by decide +kernel
theorem dX6_film_8 : decode cX6_film 8 = .ok (.iload_n 2, 1) := by decide +kernel
theorem dX6_film_9 : decode cX6_film 9 = .ok (.invokevirtual 92, 3) := by decide +kernel
theorem dX6_film_12 : decode cX6_film 12 = .ok (.ifCond .eq 13, 3) := by decide +kernel
theorem dX6_film_15 : decode cX6_film 15 = .ok (.iload_n 3, 1) := by decide +kernel
theorem dX6_film_16 : decode cX6_film 16 = .ok (.iconst 0, 1) := by decide +kernel
theorem dX6_film_17 : decode cX6_film 17 = .ok (.bipush 30, 2) := by decide +kernel
theorem dX6_film_19 : decode cX6_film 19 = .ok (.invokestatic 88, 3) := by decide +kernel
theorem dX6_film_22 : decode cX6_film 22 = .ok (.ifCond .ne 6, 3) := by decide +kernel
theorem dX6_film_25 : decode cX6_film 25 = .ok (.bipush (-2), 2) := by decide +kernel
theorem dX6_film_27 : decode cX6_film 27 = .ok (.ireturn, 1) := by decide +kernel
theorem dX6_film_28 : decode cX6_film 28 = .ok (.aload_n 0, 1) := by decide +kernel
theorem dX6_film_29 : decode cX6_film 29 = .ok (.iload_n 1, 1) := by decide +kernel
theorem dX6_film_30 : decode cX6_film 30 = .ok (.iconst 0, 1) := by decide +kernel
theorem dX6_film_31 : decode cX6_film 31 = .ok (.iload_n 3, 1) := by decide +kernel
theorem dX6_film_32 : decode cX6_film 32 = .ok (.invokevirtual 346, 3) := by decide +kernel
theorem dX6_film_35 : decode cX6_film 35 = .ok (.pop, 1) := by decide +kernel
theorem dX6_film_36 : decode cX6_film 36 = .ok (.aload_n 0, 1) := by decide +kernel
theorem dX6_film_37 : decode cX6_film 37 = .ok (.invokevirtual 246, 3) := by decide +kernel
theorem dX6_film_40 : decode cX6_film 40 = .ok (.iconst 0, 1) := by decide +kernel
theorem dX6_film_41 : decode cX6_film 41 = .ok (.istore 4, 2) := by decide +kernel
theorem dX6_film_43 : decode cX6_film 43 = .ok (.iload 4, 2) := by decide +kernel
theorem dX6_film_45 : decode cX6_film 45 = .ok (.iload_n 3, 1) := by decide +kernel
theorem dX6_film_46 : decode cX6_film 46 = .ok (.if_icmp .ge 35, 3) := by decide +kernel
theorem dX6_film_49 : decode cX6_film 49 = .ok (.iload 4, 2) := by decide +kernel
theorem dX6_film_51 : decode cX6_film 51 = .ok (.ifCond .le 7, 3) := by decide +kernel
theorem dX6_film_54 : decode cX6_film 54 = .ok (.aload_n 0, 1) := by decide +kernel
theorem dX6_film_55 : decode cX6_film 55 = .ok (.invokevirtual 230, 3) := by decide +kernel
theorem dX6_film_58 : decode cX6_film 58 = .ok (.aload_n 0, 1) := by decide +kernel
theorem dX6_film_59 : decode cX6_film 59 = .ok (.getfield 74, 3) := by decide +kernel
theorem dX6_film_62 : decode cX6_film 62 = .ok (.bipush 40, 2) := by decide +kernel
theorem dX6_film_64 : decode cX6_film 64 = .ok (.iload_n 1, 1) := by decide +kernel
theorem dX6_film_65 : decode cX6_film 65 = .ok (.imul, 1) := by decide +kernel
theorem dX6_film_66 : decode cX6_film 66 = .ok (.iload 4, 2) := by decide +kernel
theorem dX6_film_68 : decode cX6_film 68 = .ok (.iadd, 1) := by decide +kernel
theorem dX6_film_69 : decode cX6_film 69 = .ok (.aload_n 0, 1) := by decide +kernel
theorem dX6_film_70 : decode cX6_film 70 = .ok (.iload_n 2, 1) := by decide +kernel
theorem dX6_film_71 : decode cX6_film 71 = .ok (.invokevirtual 120, 3) := by decide +kernel
theorem dX6_film_74 : decode cX6_film 74 = .ok (.iastore, 1) := by decide +kernel
theorem dX6_film_75 : decode cX6_film 75 = .ok (.iinc 4 1, 3) := by decide +kernel
theorem dX6_film_78 : decode cX6_film 78 = .ok (.goto (-35), 3) := by decide +kernel
theorem dX6_film_81 : decode cX6_film 81 = .ok (.aload_n 0, 1) := by decide +kernel
theorem dX6_film_82 : decode cX6_film 82 = .ok (.invokevirtual 249, 3) := by decide +kernel
theorem dX6_film_85 : decode cX6_film 85 = .ok (.iload_n 3, 1) := by decide +kernel
theorem dX6_film_86 : decode cX6_film 86 = .ok (.ireturn, 1) := by decide +kernel
theorem dX6_byLot_0 : decode cX6_byLot 0 = .ok (.iload_n 1, 1) := by decide +kernel
theorem dX6_byLot_1 : decode cX6_byLot 1 = .ok (.istore_n 3, 1) := by decide +kernel
theorem dX6_byLot_2 : decode cX6_byLot 2 = .ok (.iconst 0, 1) := by decide +kernel
theorem dX6_byLot_3 : decode cX6_byLot 3 = .ok (.istore 4, 2) := by decide +kernel
theorem dX6_byLot_5 : decode cX6_byLot 5 = .ok (.aload_n 0, 1) := by decide +kernel
theorem dX6_byLot_6 : decode cX6_byLot 6 = .ok (.invokevirtual 246, 3) := by decide +kernel
theorem dX6_byLot_9 : decode cX6_byLot 9 = .ok (.iconst 0, 1) := by decide +kernel
theorem dX6_byLot_10 : decode cX6_byLot 10 = .ok (.istore 5, 2) := by decide +kernel
theorem dX6_byLot_12 : decode cX6_byLot 12 = .ok (.iload 5, 2) := by decide +kernel
theorem dX6_byLot_14 : decode cX6_byLot 14 = .ok (.iload_n 2, 1) := by decide +kernel
theorem dX6_byLot_15 : decode cX6_byLot 15 = .ok (.if_icmp .ge 64, 3) := by decide +kernel
theorem dX6_byLot_18 : decode cX6_byLot 18 = .ok (.iload_n 3, 1) := by decide +kernel
theorem dX6_byLot_19 : decode cX6_byLot 19 = .ok (.ldc_w 349, 3) := by decide +kernel
theorem dX6_byLot_22 : decode cX6_byLot 22 = .ok (.imul, 1) := by decide +kernel
theorem dX6_byLot_23 : decode cX6_byLot 23 = .ok (.sipush 12345, 3) := by decide +kernel
theorem dX6_byLot_26 : decode cX6_byLot 26 = .ok (.iadd, 1) := by decide +kernel
theorem dX6_byLot_27 : decode cX6_byLot 27 = .ok (.istore_n 3, 1) := by decide +kernel
theorem dX6_byLot_28 : decode cX6_byLot 28 = .ok (.aload_n 0, 1) := by decide +kernel
theorem dX6_byLot_29 : decode cX6_byLot 29 = .ok (.iload_n 3, 1) := by decide +kernel
theorem dX6_byLot_30 : decode cX6_byLot 30 = .ok (.bipush 9, 2) := by decide +kernel
theorem dX6_byLot_32 : decode cX6_byLot 32 = .ok (.iushr, 1) := by decide +kernel
theorem dX6_byLot_33 : decode cX6_byLot 33 = .ok (.bipush 10, 2) := by decide +kernel
theorem dX6_byLot_35 : decode cX6_byLot 35 = .ok (.irem, 1) := by decide +kernel
theorem dX6_byLot_36 : decode cX6_byLot 36 = .ok (.putfield 99, 3) := by decide +kernel
theorem dX6_byLot_39 : decode cX6_byLot 39 = .ok (.aload_n 0, 1) := by decide +kernel
theorem dX6_byLot_40 : decode cX6_byLot 40 = .ok (.invokevirtual 230, 3) := by decide +kernel
theorem dX6_byLot_43 : decode cX6_byLot 43 = .ok (.iconst 0, 1) := by decide +kernel
theorem dX6_byLot_44 : decode cX6_byLot 44 = .ok (.istore 6, 2) := by decide +kernel
theorem dX6_byLot_46 : decode cX6_byLot 46 = .ok (.iload 6, 2) := by decide +kernel
theorem dX6_byLot_48 : decode cX6_byLot 48 = .ok (.aload_n 0, 1) := by decide +kernel
theorem dX6_byLot_49 : decode cX6_byLot 49 = .ok (.getfield 85, 3) := by decide +kernel
theorem dX6_byLot_52 : decode cX6_byLot 52 = .ok (.if_icmp .ge 21, 3) := by decide +kernel
theorem dX6_byLot_55 : decode cX6_byLot 55 = .ok (.aload_n 0, 1) := by decide +kernel
theorem dX6_byLot_56 : decode cX6_byLot 56 = .ok (.iload 6, 2) := by decide +kernel
theorem dX6_byLot_58 : decode cX6_byLot 58 = .ok (.invokevirtual 114, 3) := by decide +kernel
theorem dX6_byLot_61 : decode cX6_byLot 61 = .ok (.ifCond .eq 6, 3) := by decide +kernel
theorem dX6_byLot_64 : decode cX6_byLot 64 = .ok (.iinc 4 1, 3) := by decide +kernel
theorem dX6_byLot_67 : decode cX6_byLot 67 = .ok (.iinc 6 1, 3) := by decide +kernel
theorem dX6_byLot_70 : decode cX6_byLot 70 = .ok (.goto (-24), 3) := by decide +kernel
theorem dX6_byLot_73 : decode cX6_byLot 73 = .ok (.iinc 5 1, 3) := by decide +kernel
theorem dX6_byLot_76 : decode cX6_byLot 76 = .ok (.goto (-64), 3) := by decide +kernel
theorem dX6_byLot_79 : decode cX6_byLot 79 = .ok (.aload_n 0, 1) := by decide +kernel
theorem dX6_byLot_80 : decode cX6_byLot 80 = .ok (.invokevirtual 249, 3) := by decide +kernel
theorem dX6_byLot_83 : decode cX6_byLot 83 = .ok (.iload 4, 2) := by decide +kernel
theorem dX6_byLot_85 : decode cX6_byLot 85 = .ok (.ireturn, 1) := by decide +kernel
theorem dX6_drawn_0 : decode cX6_drawn 0 = .ok (.iload_n 2, 1) := by decide +kernel
theorem dX6_drawn_1 : decode cX6_drawn 1 = .ok (.iconst 0, 1) := by decide +kernel
theorem dX6_drawn_2 : decode cX6_drawn 2 = .ok (.bipush 40, 2) := by decide +kernel
theorem dX6_drawn_4 : decode cX6_drawn 4 = .ok (.invokestatic 88, 3) := by decide +kernel
theorem dX6_drawn_7 : decode cX6_drawn 7 = .ok (.ifCond .eq 12, 3) := by decide +kernel
theorem dX6_drawn_10 : decode cX6_drawn 10 = .ok (.aload_n 0, 1) := by decide +kernel
theorem dX6_drawn_11 : decode cX6_drawn 11 = .ok (.iload_n 1, 1) := by decide +kernel
theorem dX6_drawn_12 : decode cX6_drawn 12 = .ok (.iload_n 2, 1) := by decide +kernel
theorem dX6_drawn_13 : decode cX6_drawn 13 = .ok (.invokevirtual 350, 3) := by decide +kernel
theorem dX6_drawn_16 : decode cX6_drawn 16 = .ok (.goto 5, 3) := by decide +kernel
theorem dX6_drawn_19 : decode cX6_drawn 19 = .ok (.bipush (-2), 2) := by decide +kernel
theorem dX6_drawn_21 : decode cX6_drawn 21 = .ok (.ireturn, 1) := by decide +kernel
theorem dX6_chance_0 : decode cX6_chance 0 = .ok (.iload_n 2, 1) := by decide +kernel
theorem dX6_chance_1 : decode cX6_chance 1 = .ok (.iconst 1, 1) := by decide +kernel
theorem dX6_chance_2 : decode cX6_chance 2 = .ok (.bipush 20, 2) := by decide +kernel
theorem dX6_chance_4 : decode cX6_chance 4 = .ok (.invokestatic 88, 3) := by decide +kernel
theorem dX6_chance_7 : decode cX6_chance 7 = .ok (.ifCond .eq 23, 3) := by decide +kernel
theorem dX6_chance_10 : decode cX6_chance 10 = .ok (.iload_n 3, 1) := by decide +kernel
theorem dX6_chance_11 : decode cX6_chance 11 = .ok (.iconst 0, 1) := by decide +kernel
theorem dX6_chance_12 : decode cX6_chance 12 = .ok (.bipush 99, 2) := by decide +kernel
theorem dX6_chance_14 : decode cX6_chance 14 = .ok (.invokestatic 88, 3) := by decide +kernel
theorem dX6_chance_17 : decode cX6_chance 17 = .ok (.ifCond .eq 13, 3) := by decide +kernel
theorem dX6_chance_20 : decode cX6_chance 20 = .ok (.iload 4, 2) := by decide +kernel
theorem dX6_chance_22 : decode cX6_chance 22 = .ok (.iconst 0, 1) := by decide +kernel
theorem dX6_chance_23 : decode cX6_chance 23 = .ok (.iconst 1, 1) := by decide +kernel
theorem dX6_chance_24 : decode cX6_chance 24 = .ok (.invokestatic 88, 3) := by decide +kernel
theorem dX6_chance_27 : decode cX6_chance 27 = .ok (.ifCond .ne 7, 3) := by decide +kernel
theorem dX6_chance_30 : decode cX6_chance 30 = .ok (.ldc2_w 279, 3) := by decide +kernel
theorem dX6_chance_33 : decode cX6_chance 33 = .ok (.lreturn, 1) := by decide +kernel
theorem dX6_chance_34 : decode cX6_chance 34 = .ok (.iconst 0, 1) := by decide +kernel
theorem dX6_chance_35 : decode cX6_chance 35 = .ok (.istore 5, 2) := by decide +kernel
theorem dX6_chance_37 : decode cX6_chance 37 = .ok (.iconst 0, 1) := by decide +kernel
theorem dX6_chance_38 : decode cX6_chance 38 = .ok (.istore 6, 2) := by decide +kernel
theorem dX6_chance_40 : decode cX6_chance 40 = .ok (.iload 6, 2) := by decide +kernel
theorem dX6_chance_42 : decode cX6_chance 42 = .ok (.iload_n 2, 1) := by decide +kernel
theorem dX6_chance_43 : decode cX6_chance 43 = .ok (.if_icmp .ge 26, 3) := by decide +kernel
theorem dX6_chance_46 : decode cX6_chance 46 = .ok (.aload_n 0, 1) := by decide +kernel
theorem dX6_chance_47 : decode cX6_chance 47 = .ok (.iload_n 1, 1) := by decide +kernel
theorem dX6_chance_48 : decode cX6_chance 48 = .ok (.iload 6, 2) := by decide +kernel
theorem dX6_chance_50 : decode cX6_chance 50 = .ok (.iadd, 1) := by decide +kernel
theorem dX6_chance_51 : decode cX6_chance 51 = .ok (.bipush 10, 2) := by decide +kernel
theorem dX6_chance_53 : decode cX6_chance 53 = .ok (.invokevirtual 350, 3) := by decide +kernel
theorem dX6_chance_56 : decode cX6_chance 56 = .ok (.iload_n 3, 1) := by decide +kernel
theorem dX6_chance_57 : decode cX6_chance 57 = .ok (.if_icmp .lt 6, 3) := by decide +kernel
theorem dX6_chance_60 : decode cX6_chance 60 = .ok (.iinc 5 1, 3) := by decide +kernel
theorem dX6_chance_63 : decode cX6_chance 63 = .ok (.iinc 6 1, 3) := by decide +kernel
theorem dX6_chance_66 : decode cX6_chance 66 = .ok (.goto (-26), 3) := by decide +kernel
theorem dX6_chance_69 : decode cX6_chance 69 = .ok (.iload 5, 2) := by decide +kernel
theorem dX6_chance_71 : decode cX6_chance 71 = .ok (.istore 6, 2) := by decide +kernel
theorem dX6_chance_73 : decode cX6_chance 73 = .ok (.iload_n 2, 1) := by decide +kernel
theorem dX6_chance_74 : decode cX6_chance 74 = .ok (.istore 7, 2) := by decide +kernel
theorem dX6_chance_76 : decode cX6_chance 76 = .ok (.iload 7, 2) := by decide +kernel
theorem dX6_chance_78 : decode cX6_chance 78 = .ok (.ifCond .eq 21, 3) := by decide +kernel
theorem dX6_chance_81 : decode cX6_chance 81 = .ok (.iload 6, 2) := by decide +kernel
theorem dX6_chance_83 : decode cX6_chance 83 = .ok (.iload 7, 2) := by decide +kernel
theorem dX6_chance_85 : decode cX6_chance 85 = .ok (.irem, 1) := by decide +kernel
theorem dX6_chance_86 : decode cX6_chance 86 = .ok (.istore 8, 2) := by decide +kernel
theorem dX6_chance_88 : decode cX6_chance 88 = .ok (.iload 7, 2) := by decide +kernel
theorem dX6_chance_90 : decode cX6_chance 90 = .ok (.istore 6, 2) := by decide +kernel
theorem dX6_chance_92 : decode cX6_chance 92 = .ok (.iload 8, 2) := by decide +kernel
theorem dX6_chance_94 : decode cX6_chance 94 = .ok (.istore 7, 2) := by decide +kernel
theorem dX6_chance_96 : decode cX6_chance 96 = .ok (.goto (-20), 3) := by decide +kernel
theorem dX6_chance_99 : decode cX6_chance 99 = .ok (.iload 4, 2) := by decide +kernel
theorem dX6_chance_101 : decode cX6_chance 101 = .ok (.ifCond .ne 12, 3) := by decide +kernel
theorem dX6_chance_104 : decode cX6_chance 104 = .ok (.iload 5, 2) := by decide +kernel
theorem dX6_chance_106 : decode cX6_chance 106 = .ok (.iload 6, 2) := by decide +kernel
theorem dX6_chance_108 : decode cX6_chance 108 = .ok (.idiv, 1) := by decide +kernel
theorem dX6_chance_109 : decode cX6_chance 109 = .ok (.i2l, 1) := by decide +kernel
theorem dX6_chance_110 : decode cX6_chance 110 = .ok (.goto 8, 3) := by decide +kernel
theorem dX6_chance_113 : decode cX6_chance 113 = .ok (.iload_n 2, 1) := by decide +kernel
theorem dX6_chance_114 : decode cX6_chance 114 = .ok (.iload 6, 2) := by decide +kernel
theorem dX6_chance_116 : decode cX6_chance 116 = .ok (.idiv, 1) := by decide +kernel
theorem dX6_chance_117 : decode cX6_chance 117 = .ok (.i2l, 1) := by decide +kernel
theorem dX6_chance_118 : decode cX6_chance 118 = .ok (.lreturn, 1) := by decide +kernel
theorem dX6_image_0 : decode cX6_image 0 = .ok (.aload_n 0, 1) := by decide +kernel
theorem dX6_image_1 : decode cX6_image 1 = .ok (.iconst 1, 1) := by decide +kernel
theorem dX6_image_2 : decode cX6_image 2 = .ok (.putfield 353, 3) := by decide +kernel
theorem dX6_image_5 : decode cX6_image 5 = .ok (.aload_n 0, 1) := by decide +kernel
theorem dX6_image_6 : decode cX6_image 6 = .ok (.aload_n 0, 1) := by decide +kernel
theorem dX6_image_7 : decode cX6_image 7 = .ok (.getfield 85, 3) := by decide +kernel
theorem dX6_image_10 : decode cX6_image 10 = .ok (.putfield 356, 3) := by decide +kernel
theorem dX6_image_13 : decode cX6_image 13 = .ok (.aload_n 0, 1) := by decide +kernel
theorem dX6_image_14 : decode cX6_image 14 = .ok (.aload_n 0, 1) := by decide +kernel
theorem dX6_image_15 : decode cX6_image 15 = .ok (.getfield 96, 3) := by decide +kernel
theorem dX6_image_18 : decode cX6_image 18 = .ok (.putfield 359, 3) := by decide +kernel
theorem dX6_image_21 : decode cX6_image 21 = .ok (.aload_n 0, 1) := by decide +kernel
theorem dX6_image_22 : decode cX6_image 22 = .ok (.aload_n 0, 1) := by decide +kernel
theorem dX6_image_23 : decode cX6_image 23 = .ok (.getfield 99, 3) := by decide +kernel
theorem dX6_image_26 : decode cX6_image 26 = .ok (.putfield 362, 3) := by decide +kernel
theorem dX6_image_29 : decode cX6_image 29 = .ok (.aload_n 0, 1) := by decide +kernel
theorem dX6_image_30 : decode cX6_image 30 = .ok (.aload_n 0, 1) := by decide +kernel
theorem dX6_image_31 : decode cX6_image 31 = .ok (.getfield 211, 3) := by decide +kernel
theorem dX6_image_34 : decode cX6_image 34 = .ok (.putfield 365, 3) := by decide +kernel
theorem dX6_image_37 : decode cX6_image 37 = .ok (.iconst 0, 1) := by decide +kernel
theorem dX6_image_38 : decode cX6_image 38 = .ok (.istore_n 1, 1) := by decide +kernel
theorem dX6_image_39 : decode cX6_image 39 = .ok (.iload_n 1, 1) := by decide +kernel
theorem dX6_image_40 : decode cX6_image 40 = .ok (.iconst 5, 1) := by decide +kernel
theorem dX6_image_41 : decode cX6_image 41 = .ok (.if_icmp .ge 45, 3) := by decide +kernel
theorem dX6_image_44 : decode cX6_image 44 = .ok (.aload_n 0, 1) := by decide +kernel
theorem dX6_image_45 : decode cX6_image 45 = .ok (.getfield 59, 3) := by decide +kernel
theorem dX6_image_48 : decode cX6_image 48 = .ok (.iload_n 1, 1) := by decide +kernel
theorem dX6_image_49 : decode cX6_image 49 = .ok (.aload_n 0, 1) := by decide +kernel
theorem dX6_image_50 : decode cX6_image 50 = .ok (.getfield 13, 3) := by decide +kernel
theorem dX6_image_53 : decode cX6_image 53 = .ok (.iload_n 1, 1) := by decide +kernel
theorem dX6_image_54 : decode cX6_image 54 = .ok (.iaload, 1) := by decide +kernel
theorem dX6_image_55 : decode cX6_image 55 = .ok (.iastore, 1) := by decide +kernel
theorem dX6_image_56 : decode cX6_image 56 = .ok (.aload_n 0, 1) := by decide +kernel
theorem dX6_image_57 : decode cX6_image 57 = .ok (.getfield 62, 3) := by decide +kernel
theorem dX6_image_60 : decode cX6_image 60 = .ok (.iload_n 1, 1) := by decide +kernel
theorem dX6_image_61 : decode cX6_image 61 = .ok (.aload_n 0, 1) := by decide +kernel
theorem dX6_image_62 : decode cX6_image 62 = .ok (.getfield 16, 3) := by decide +kernel
theorem dX6_image_65 : decode cX6_image 65 = .ok (.iload_n 1, 1) := by decide +kernel
theorem dX6_image_66 : decode cX6_image 66 = .ok (.iaload, 1) := by decide +kernel
theorem dX6_image_67 : decode cX6_image 67 = .ok (.iastore, 1) := by decide +kernel
theorem dX6_image_68 : decode cX6_image 68 = .ok (.aload_n 0, 1) := by decide +kernel
theorem dX6_image_69 : decode cX6_image 69 = .ok (.getfield 65, 3) := by decide +kernel
theorem dX6_image_72 : decode cX6_image 72 = .ok (.iload_n 1, 1) := by decide +kernel
theorem dX6_image_73 : decode cX6_image 73 = .ok (.aload_n 0, 1) := by decide +kernel
theorem dX6_image_74 : decode cX6_image 74 = .ok (.getfield 19, 3) := by decide +kernel
theorem dX6_image_77 : decode cX6_image 77 = .ok (.iload_n 1, 1) := by decide +kernel
theorem dX6_image_78 : decode cX6_image 78 = .ok (.iaload, 1) := by decide +kernel
theorem dX6_image_79 : decode cX6_image 79 = .ok (.iastore, 1) := by decide +kernel
theorem dX6_image_80 : decode cX6_image 80 = .ok (.iinc 1 1, 3) := by decide +kernel
theorem dX6_image_83 : decode cX6_image 83 = .ok (.goto (-44), 3) := by decide +kernel
theorem dX6_image_86 : decode cX6_image 86 = .ok (.aload_n 0, 1) := by decide +kernel
theorem dX6_image_87 : decode cX6_image 87 = .ok (.getfield 85, 3) := by decide +kernel
theorem dX6_image_90 : decode cX6_image 90 = .ok (.ireturn, 1) := by decide +kernel
theorem dX6_back_0 : decode cX6_back 0 = .ok (.aload_n 0, 1) := by decide +kernel
theorem dX6_back_1 : decode cX6_back 1 = .ok (.getfield 353, 3) := by decide +kernel
theorem dX6_back_4 : decode cX6_back 4 = .ok (.ifCond .ne 6, 3) := by decide +kernel
theorem dX6_back_7 : decode cX6_back 7 = .ok (.bipush (-3), 2) := by decide +kernel
theorem dX6_back_9 : decode cX6_back 9 = .ok (.ireturn, 1) := by decide +kernel
theorem dX6_back_10 : decode cX6_back 10 = .ok (.aload_n 0, 1) := by decide +kernel
theorem dX6_back_11 : decode cX6_back 11 = .ok (.aload_n 0, 1) := by decide +kernel
theorem dX6_back_12 : decode cX6_back 12 = .ok (.getfield 356, 3) := by decide +kernel
theorem dX6_back_15 : decode cX6_back 15 = .ok (.putfield 85, 3) := by decide +kernel
theorem dX6_back_18 : decode cX6_back 18 = .ok (.aload_n 0, 1) := by decide +kernel
theorem dX6_back_19 : decode cX6_back 19 = .ok (.aload_n 0, 1) := by decide +kernel
theorem dX6_back_20 : decode cX6_back 20 = .ok (.getfield 359, 3) := by decide +kernel
theorem dX6_back_23 : decode cX6_back 23 = .ok (.putfield 96, 3) := by decide +kernel
theorem dX6_back_26 : decode cX6_back 26 = .ok (.aload_n 0, 1) := by decide +kernel
theorem dX6_back_27 : decode cX6_back 27 = .ok (.aload_n 0, 1) := by decide +kernel
theorem dX6_back_28 : decode cX6_back 28 = .ok (.getfield 362, 3) := by decide +kernel
theorem dX6_back_31 : decode cX6_back 31 = .ok (.putfield 99, 3) := by decide +kernel
theorem dX6_back_34 : decode cX6_back 34 = .ok (.aload_n 0, 1) := by decide +kernel
theorem dX6_back_35 : decode cX6_back 35 = .ok (.aload_n 0, 1) := by decide +kernel
theorem dX6_back_36 : decode cX6_back 36 = .ok (.getfield 365, 3) := by decide +kernel
theorem dX6_back_39 : decode cX6_back 39 = .ok (.putfield 211, 3) := by decide +kernel
theorem dX6_back_42 : decode cX6_back 42 = .ok (.iconst 0, 1) := by decide +kernel
theorem dX6_back_43 : decode cX6_back 43 = .ok (.istore_n 1, 1) := by decide +kernel
theorem dX6_back_44 : decode cX6_back 44 = .ok (.iload_n 1, 1) := by decide +kernel
theorem dX6_back_45 : decode cX6_back 45 = .ok (.iconst 5, 1) := by decide +kernel
theorem dX6_back_46 : decode cX6_back 46 = .ok (.if_icmp .ge 45, 3) := by decide +kernel
theorem dX6_back_49 : decode cX6_back 49 = .ok (.aload_n 0, 1) := by decide +kernel
theorem dX6_back_50 : decode cX6_back 50 = .ok (.getfield 13, 3) := by decide +kernel
theorem dX6_back_53 : decode cX6_back 53 = .ok (.iload_n 1, 1) := by decide +kernel
theorem dX6_back_54 : decode cX6_back 54 = .ok (.aload_n 0, 1) := by decide +kernel
theorem dX6_back_55 : decode cX6_back 55 = .ok (.getfield 59, 3) := by decide +kernel
theorem dX6_back_58 : decode cX6_back 58 = .ok (.iload_n 1, 1) := by decide +kernel
theorem dX6_back_59 : decode cX6_back 59 = .ok (.iaload, 1) := by decide +kernel
theorem dX6_back_60 : decode cX6_back 60 = .ok (.iastore, 1) := by decide +kernel
theorem dX6_back_61 : decode cX6_back 61 = .ok (.aload_n 0, 1) := by decide +kernel
theorem dX6_back_62 : decode cX6_back 62 = .ok (.getfield 16, 3) := by decide +kernel
theorem dX6_back_65 : decode cX6_back 65 = .ok (.iload_n 1, 1) := by decide +kernel
theorem dX6_back_66 : decode cX6_back 66 = .ok (.aload_n 0, 1) := by decide +kernel
theorem dX6_back_67 : decode cX6_back 67 = .ok (.getfield 62, 3) := by decide +kernel
theorem dX6_back_70 : decode cX6_back 70 = .ok (.iload_n 1, 1) := by decide +kernel
theorem dX6_back_71 : decode cX6_back 71 = .ok (.iaload, 1) := by decide +kernel
theorem dX6_back_72 : decode cX6_back 72 = .ok (.iastore, 1) := by decide +kernel
theorem dX6_back_73 : decode cX6_back 73 = .ok (.aload_n 0, 1) := by decide +kernel
theorem dX6_back_74 : decode cX6_back 74 = .ok (.getfield 19, 3) := by decide +kernel
theorem dX6_back_77 : decode cX6_back 77 = .ok (.iload_n 1, 1) := by decide +kernel
theorem dX6_back_78 : decode cX6_back 78 = .ok (.aload_n 0, 1) := by decide +kernel
theorem dX6_back_79 : decode cX6_back 79 = .ok (.getfield 65, 3) := by decide +kernel
theorem dX6_back_82 : decode cX6_back 82 = .ok (.iload_n 1, 1) := by decide +kernel
theorem dX6_back_83 : decode cX6_back 83 = .ok (.iaload, 1) := by decide +kernel
theorem dX6_back_84 : decode cX6_back 84 = .ok (.iastore, 1) := by decide +kernel
theorem dX6_back_85 : decode cX6_back 85 = .ok (.iinc 1 1, 3) := by decide +kernel
theorem dX6_back_88 : decode cX6_back 88 = .ok (.goto (-44), 3) := by decide +kernel
theorem dX6_back_91 : decode cX6_back 91 = .ok (.aload_n 0, 1) := by decide +kernel
theorem dX6_back_92 : decode cX6_back 92 = .ok (.getfield 85, 3) := by decide +kernel
theorem dX6_back_95 : decode cX6_back 95 = .ok (.ireturn, 1) := by decide +kernel
theorem dX6_count_0 : decode cX6_count 0 = .ok (.iload_n 1, 1) := by decide +kernel
theorem dX6_count_1 : decode cX6_count 1 = .ok (.tableswitch 69 0 5 #[39, 44, 49, 54, 59, 64], 39) := by decide +kernel
theorem dX6_count_40 : decode cX6_count 40 = .ok (.aload_n 0, 1) := by decide +kernel
theorem dX6_count_41 : decode cX6_count 41 = .ok (.getfield 85, 3) := by decide +kernel
theorem dX6_count_44 : decode cX6_count 44 = .ok (.ireturn, 1) := by decide +kernel
theorem dX6_count_45 : decode cX6_count 45 = .ok (.aload_n 0, 1) := by decide +kernel
theorem dX6_count_46 : decode cX6_count 46 = .ok (.getfield 96, 3) := by decide +kernel
theorem dX6_count_49 : decode cX6_count 49 = .ok (.ireturn, 1) := by decide +kernel
theorem dX6_count_50 : decode cX6_count 50 = .ok (.aload_n 0, 1) := by decide +kernel
theorem dX6_count_51 : decode cX6_count 51 = .ok (.invokevirtual 233, 3) := by decide +kernel
theorem dX6_count_54 : decode cX6_count 54 = .ok (.ireturn, 1) := by decide +kernel
theorem dX6_count_55 : decode cX6_count 55 = .ok (.aload_n 0, 1) := by decide +kernel
theorem dX6_count_56 : decode cX6_count 56 = .ok (.getfield 81, 3) := by decide +kernel
theorem dX6_count_59 : decode cX6_count 59 = .ok (.ireturn, 1) := by decide +kernel
theorem dX6_count_60 : decode cX6_count 60 = .ok (.aload_n 0, 1) := by decide +kernel
theorem dX6_count_61 : decode cX6_count 61 = .ok (.getfield 123, 3) := by decide +kernel
theorem dX6_count_64 : decode cX6_count 64 = .ok (.ireturn, 1) := by decide +kernel
theorem dX6_count_65 : decode cX6_count 65 = .ok (.aload_n 0, 1) := by decide +kernel
theorem dX6_count_66 : decode cX6_count 66 = .ok (.getfield 211, 3) := by decide +kernel
theorem dX6_count_69 : decode cX6_count 69 = .ok (.ireturn, 1) := by decide +kernel
theorem dX6_count_70 : decode cX6_count 70 = .ok (.bipush (-2), 2) := by decide +kernel
theorem dX6_count_72 : decode cX6_count 72 = .ok (.ireturn, 1) := by decide +kernel
theorem dX6_sheet_0 : decode cX6_sheet 0 = .ok (.iload_n 1, 1) := by decide +kernel
theorem dX6_sheet_1 : decode cX6_sheet 1 = .ok (.invokestatic 325, 3) := by decide +kernel
theorem dX6_sheet_4 : decode cX6_sheet 4 = .ok (.ifCond .eq 12, 3) := by decide +kernel
theorem dX6_sheet_7 : decode cX6_sheet 7 = .ok (.iload_n 2, 1) := by decide +kernel
theorem dX6_sheet_8 : decode cX6_sheet 8 = .ok (.iconst (-1), 1) := by decide +kernel
theorem dX6_sheet_9 : decode cX6_sheet 9 = .ok (.iconst 2, 1) := by decide +kernel
theorem dX6_sheet_10 : decode cX6_sheet 10 = .ok (.invokestatic 88, 3) := by decide +kernel
theorem dX6_sheet_13 : decode cX6_sheet 13 = .ok (.ifCond .ne 6, 3) := by decide +kernel
theorem dX6_sheet_16 : decode cX6_sheet 16 = .ok (.bipush (-2), 2) := by decide +kernel
theorem dX6_sheet_18 : decode cX6_sheet 18 = .ok (.ireturn, 1) := by decide +kernel
theorem dX6_sheet_19 : decode cX6_sheet 19 = .ok (.iload_n 2, 1) := by decide +kernel
theorem dX6_sheet_20 : decode cX6_sheet 20 = .ok (.ifCond .lt 10, 3) := by decide +kernel
theorem dX6_sheet_23 : decode cX6_sheet 23 = .ok (.iload_n 3, 1) := by decide +kernel
theorem dX6_sheet_24 : decode cX6_sheet 24 = .ok (.ifCond .ge 6, 3) := by decide +kernel
theorem dX6_sheet_27 : decode cX6_sheet 27 = .ok (.bipush (-14), 2) := by decide +kernel
theorem dX6_sheet_29 : decode cX6_sheet 29 = .ok (.ireturn, 1) := by decide +kernel
theorem dX6_sheet_30 : decode cX6_sheet 30 = .ok (.iload_n 2, 1) := by decide +kernel
theorem dX6_sheet_31 : decode cX6_sheet 31 = .ok (.ifCond .lt 12, 3) := by decide +kernel
theorem dX6_sheet_34 : decode cX6_sheet 34 = .ok (.iload_n 3, 1) := by decide +kernel
theorem dX6_sheet_35 : decode cX6_sheet 35 = .ok (.bipush 40, 2) := by decide +kernel
theorem dX6_sheet_37 : decode cX6_sheet 37 = .ok (.if_icmp .le 6, 3) := by decide +kernel
theorem dX6_sheet_40 : decode cX6_sheet 40 = .ok (.bipush (-2), 2) := by decide +kernel
theorem dX6_sheet_42 : decode cX6_sheet 42 = .ok (.ireturn, 1) := by decide +kernel
theorem dX6_sheet_43 : decode cX6_sheet 43 = .ok (.aload_n 0, 1) := by decide +kernel
theorem dX6_sheet_44 : decode cX6_sheet 44 = .ok (.getfield 68, 3) := by decide +kernel
theorem dX6_sheet_47 : decode cX6_sheet 47 = .ok (.iload_n 1, 1) := by decide +kernel
theorem dX6_sheet_48 : decode cX6_sheet 48 = .ok (.iload_n 2, 1) := by decide +kernel
theorem dX6_sheet_49 : decode cX6_sheet 49 = .ok (.iastore, 1) := by decide +kernel
theorem dX6_sheet_50 : decode cX6_sheet 50 = .ok (.aload_n 0, 1) := by decide +kernel
theorem dX6_sheet_51 : decode cX6_sheet 51 = .ok (.getfield 71, 3) := by decide +kernel
theorem dX6_sheet_54 : decode cX6_sheet 54 = .ok (.iload_n 1, 1) := by decide +kernel
theorem dX6_sheet_55 : decode cX6_sheet 55 = .ok (.iload_n 2, 1) := by decide +kernel
theorem dX6_sheet_56 : decode cX6_sheet 56 = .ok (.ifCond .ge 7, 3) := by decide +kernel
theorem dX6_sheet_59 : decode cX6_sheet 59 = .ok (.iconst 0, 1) := by decide +kernel
theorem dX6_sheet_60 : decode cX6_sheet 60 = .ok (.goto 4, 3) := by decide +kernel
theorem dX6_sheet_63 : decode cX6_sheet 63 = .ok (.iload_n 3, 1) := by decide +kernel
theorem dX6_sheet_64 : decode cX6_sheet 64 = .ok (.iastore, 1) := by decide +kernel
theorem dX6_sheet_65 : decode cX6_sheet 65 = .ok (.iconst 0, 1) := by decide +kernel
theorem dX6_sheet_66 : decode cX6_sheet 66 = .ok (.istore 4, 2) := by decide +kernel
theorem dX6_sheet_68 : decode cX6_sheet 68 = .ok (.iload 4, 2) := by decide +kernel
theorem dX6_sheet_70 : decode cX6_sheet 70 = .ok (.bipush 40, 2) := by decide +kernel
theorem dX6_sheet_72 : decode cX6_sheet 72 = .ok (.if_icmp .ge 22, 3) := by decide +kernel
theorem dX6_sheet_75 : decode cX6_sheet 75 = .ok (.aload_n 0, 1) := by decide +kernel
theorem dX6_sheet_76 : decode cX6_sheet 76 = .ok (.getfield 74, 3) := by decide +kernel
theorem dX6_sheet_79 : decode cX6_sheet 79 = .ok (.bipush 40, 2) := by decide +kernel
theorem dX6_sheet_81 : decode cX6_sheet 81 = .ok (.iload_n 1, 1) := by decide +kernel
theorem dX6_sheet_82 : decode cX6_sheet 82 = .ok (.imul, 1) := by decide +kernel
theorem dX6_sheet_83 : decode cX6_sheet 83 = .ok (.iload 4, 2) := by decide +kernel
theorem dX6_sheet_85 : decode cX6_sheet 85 = .ok (.iadd, 1) := by decide +kernel
theorem dX6_sheet_86 : decode cX6_sheet 86 = .ok (.iconst 0, 1) := by decide +kernel
theorem dX6_sheet_87 : decode cX6_sheet 87 = .ok (.iastore, 1) := by decide +kernel
theorem dX6_sheet_88 : decode cX6_sheet 88 = .ok (.iinc 4 1, 3) := by decide +kernel
theorem dX6_sheet_91 : decode cX6_sheet 91 = .ok (.goto (-23), 3) := by decide +kernel
theorem dX6_sheet_94 : decode cX6_sheet 94 = .ok (.iconst 1, 1) := by decide +kernel
theorem dX6_sheet_95 : decode cX6_sheet 95 = .ok (.ireturn, 1) := by decide +kernel
theorem dX6_cell_0 : decode cX6_cell 0 = .ok (.iload_n 1, 1) := by decide +kernel
theorem dX6_cell_1 : decode cX6_cell 1 = .ok (.invokestatic 325, 3) := by decide +kernel
theorem dX6_cell_4 : decode cX6_cell 4 = .ok (.ifCond .ne 6, 3) := by decide +kernel
theorem dX6_cell_7 : decode cX6_cell 7 = .ok (.bipush (-2), 2) := by decide +kernel
theorem dX6_cell_9 : decode cX6_cell 9 = .ok (.ireturn, 1) := by decide +kernel
theorem dX6_cell_10 : decode cX6_cell 10 = .ok (.aload_n 0, 1) := by decide +kernel
theorem dX6_cell_11 : decode cX6_cell 11 = .ok (.getfield 68, 3) := by decide +kernel
theorem dX6_cell_14 : decode cX6_cell 14 = .ok (.iload_n 1, 1) := by decide +kernel
theorem dX6_cell_15 : decode cX6_cell 15 = .ok (.iaload, 1) := by decide +kernel
theorem dX6_cell_16 : decode cX6_cell 16 = .ok (.ifCond .ge 6, 3) := by decide +kernel
theorem dX6_cell_19 : decode cX6_cell 19 = .ok (.bipush (-11), 2) := by decide +kernel
theorem dX6_cell_21 : decode cX6_cell 21 = .ok (.ireturn, 1) := by decide +kernel
theorem dX6_cell_22 : decode cX6_cell 22 = .ok (.iload_n 2, 1) := by decide +kernel
theorem dX6_cell_23 : decode cX6_cell 23 = .ok (.iconst 0, 1) := by decide +kernel
theorem dX6_cell_24 : decode cX6_cell 24 = .ok (.aload_n 0, 1) := by decide +kernel
theorem dX6_cell_25 : decode cX6_cell 25 = .ok (.getfield 71, 3) := by decide +kernel
theorem dX6_cell_28 : decode cX6_cell 28 = .ok (.iload_n 1, 1) := by decide +kernel
theorem dX6_cell_29 : decode cX6_cell 29 = .ok (.iaload, 1) := by decide +kernel
theorem dX6_cell_30 : decode cX6_cell 30 = .ok (.iconst 1, 1) := by decide +kernel
theorem dX6_cell_31 : decode cX6_cell 31 = .ok (.isub, 1) := by decide +kernel
theorem dX6_cell_32 : decode cX6_cell 32 = .ok (.invokestatic 88, 3) := by decide +kernel
theorem dX6_cell_35 : decode cX6_cell 35 = .ok (.ifCond .ne 6, 3) := by decide +kernel
theorem dX6_cell_38 : decode cX6_cell 38 = .ok (.bipush (-12), 2) := by decide +kernel
theorem dX6_cell_40 : decode cX6_cell 40 = .ok (.ireturn, 1) := by decide +kernel
theorem dX6_cell_41 : decode cX6_cell 41 = .ok (.aload_n 0, 1) := by decide +kernel
theorem dX6_cell_42 : decode cX6_cell 42 = .ok (.getfield 74, 3) := by decide +kernel
theorem dX6_cell_45 : decode cX6_cell 45 = .ok (.bipush 40, 2) := by decide +kernel
theorem dX6_cell_47 : decode cX6_cell 47 = .ok (.iload_n 1, 1) := by decide +kernel
theorem dX6_cell_48 : decode cX6_cell 48 = .ok (.imul, 1) := by decide +kernel
theorem dX6_cell_49 : decode cX6_cell 49 = .ok (.iload_n 2, 1) := by decide +kernel
theorem dX6_cell_50 : decode cX6_cell 50 = .ok (.iadd, 1) := by decide +kernel
theorem dX6_cell_51 : decode cX6_cell 51 = .ok (.aload_n 0, 1) := by decide +kernel
theorem dX6_cell_52 : decode cX6_cell 52 = .ok (.getfield 68, 3) := by decide +kernel
theorem dX6_cell_55 : decode cX6_cell 55 = .ok (.iload_n 1, 1) := by decide +kernel
theorem dX6_cell_56 : decode cX6_cell 56 = .ok (.iaload, 1) := by decide +kernel
theorem dX6_cell_57 : decode cX6_cell 57 = .ok (.ifCond .ne 8, 3) := by decide +kernel
theorem dX6_cell_60 : decode cX6_cell 60 = .ok (.iload_n 3, 1) := by decide +kernel
theorem dX6_cell_61 : decode cX6_cell 61 = .ok (.i2b, 1) := by decide +kernel
theorem dX6_cell_62 : decode cX6_cell 62 = .ok (.goto 19, 3) := by decide +kernel
theorem dX6_cell_65 : decode cX6_cell 65 = .ok (.aload_n 0, 1) := by decide +kernel
theorem dX6_cell_66 : decode cX6_cell 66 = .ok (.getfield 68, 3) := by decide +kernel
theorem dX6_cell_69 : decode cX6_cell 69 = .ok (.iload_n 1, 1) := by decide +kernel
theorem dX6_cell_70 : decode cX6_cell 70 = .ok (.iaload, 1) := by decide +kernel
theorem dX6_cell_71 : decode cX6_cell 71 = .ok (.iconst 1, 1) := by decide +kernel
theorem dX6_cell_72 : decode cX6_cell 72 = .ok (.if_icmp .ne 8, 3) := by decide +kernel
theorem dX6_cell_75 : decode cX6_cell 75 = .ok (.iload_n 3, 1) := by decide +kernel
theorem dX6_cell_76 : decode cX6_cell 76 = .ok (.i2s, 1) := by decide +kernel
theorem dX6_cell_77 : decode cX6_cell 77 = .ok (.goto 4, 3) := by decide +kernel
theorem dX6_cell_80 : decode cX6_cell 80 = .ok (.iload_n 3, 1) := by decide +kernel
theorem dX6_cell_81 : decode cX6_cell 81 = .ok (.iastore, 1) := by decide +kernel
theorem dX6_cell_82 : decode cX6_cell 82 = .ok (.iconst 1, 1) := by decide +kernel
theorem dX6_cell_83 : decode cX6_cell 83 = .ok (.ireturn, 1) := by decide +kernel
theorem dX6_copy_0 : decode cX6_copy 0 = .ok (.iload_n 1, 1) := by decide +kernel
theorem dX6_copy_1 : decode cX6_copy 1 = .ok (.invokestatic 325, 3) := by decide +kernel
theorem dX6_copy_4 : decode cX6_copy 4 = .ok (.ifCond .eq 10, 3) := by decide +kernel
theorem dX6_copy_7 : decode cX6_copy 7 = .ok (.iload_n 3, 1) := by decide +kernel
theorem dX6_copy_8 : decode cX6_copy 8 = .ok (.invokestatic 325, 3) := by decide +kernel
theorem dX6_copy_11 : decode cX6_copy 11 = .ok (.ifCond .ne 6, 3) := by decide +kernel
theorem dX6_copy_14 : decode cX6_copy 14 = .ok (.bipush (-2), 2) := by decide +kernel
theorem dX6_copy_16 : decode cX6_copy 16 = .ok (.ireturn, 1) := by decide +kernel
theorem dX6_copy_17 : decode cX6_copy 17 = .ok (.aload_n 0, 1) := by decide +kernel
theorem dX6_copy_18 : decode cX6_copy 18 = .ok (.getfield 68, 3) := by decide +kernel
theorem dX6_copy_21 : decode cX6_copy 21 = .ok (.iload_n 1, 1) := by decide +kernel
theorem dX6_copy_22 : decode cX6_copy 22 = .ok (.iaload, 1) := by decide +kernel
theorem dX6_copy_23 : decode cX6_copy 23 = .ok (.ifCond .lt 12, 3) := by decide +kernel
theorem dX6_copy_26 : decode cX6_copy 26 = .ok (.aload_n 0, 1) := by decide +kernel
theorem dX6_copy_27 : decode cX6_copy 27 = .ok (.getfield 68, 3) := by decide +kernel
theorem dX6_copy_30 : decode cX6_copy 30 = .ok (.iload_n 3, 1) := by decide +kernel
theorem dX6_copy_31 : decode cX6_copy 31 = .ok (.iaload, 1) := by decide +kernel
theorem dX6_copy_32 : decode cX6_copy 32 = .ok (.ifCond .ge 6, 3) := by decide +kernel
theorem dX6_copy_35 : decode cX6_copy 35 = .ok (.bipush (-11), 2) := by decide +kernel
theorem dX6_copy_37 : decode cX6_copy 37 = .ok (.ireturn, 1) := by decide +kernel
theorem dX6_copy_38 : decode cX6_copy 38 = .ok (.aload_n 0, 1) := by decide +kernel
theorem dX6_copy_39 : decode cX6_copy 39 = .ok (.getfield 68, 3) := by decide +kernel
theorem dX6_copy_42 : decode cX6_copy 42 = .ok (.iload_n 1, 1) := by decide +kernel
theorem dX6_copy_43 : decode cX6_copy 43 = .ok (.iaload, 1) := by decide +kernel
theorem dX6_copy_44 : decode cX6_copy 44 = .ok (.aload_n 0, 1) := by decide +kernel
theorem dX6_copy_45 : decode cX6_copy 45 = .ok (.getfield 68, 3) := by decide +kernel
theorem dX6_copy_48 : decode cX6_copy 48 = .ok (.iload_n 3, 1) := by decide +kernel
theorem dX6_copy_49 : decode cX6_copy 49 = .ok (.iaload, 1) := by decide +kernel
theorem dX6_copy_50 : decode cX6_copy 50 = .ok (.if_icmp .eq 6, 3) := by decide +kernel
theorem dX6_copy_53 : decode cX6_copy 53 = .ok (.bipush (-13), 2) := by decide +kernel
theorem dX6_copy_55 : decode cX6_copy 55 = .ok (.ireturn, 1) := by decide +kernel
theorem dX6_copy_56 : decode cX6_copy 56 = .ok (.iload 5, 2) := by decide +kernel
theorem dX6_copy_58 : decode cX6_copy 58 = .ok (.ifCond .lt 47, 3) := by decide +kernel
theorem dX6_copy_61 : decode cX6_copy 61 = .ok (.iload_n 2, 1) := by decide +kernel
theorem dX6_copy_62 : decode cX6_copy 62 = .ok (.ifCond .lt 43, 3) := by decide +kernel
theorem dX6_copy_65 : decode cX6_copy 65 = .ok (.iload 4, 2) := by decide +kernel
theorem dX6_copy_67 : decode cX6_copy 67 = .ok (.ifCond .lt 38, 3) := by decide +kernel
theorem dX6_copy_70 : decode cX6_copy 70 = .ok (.iload_n 2, 1) := by decide +kernel
theorem dX6_copy_71 : decode cX6_copy 71 = .ok (.i2l, 1) := by decide +kernel
theorem dX6_copy_72 : decode cX6_copy 72 = .ok (.iload 5, 2) := by decide +kernel
theorem dX6_copy_74 : decode cX6_copy 74 = .ok (.i2l, 1) := by decide +kernel
theorem dX6_copy_75 : decode cX6_copy 75 = .ok (.ladd, 1) := by decide +kernel
theorem dX6_copy_76 : decode cX6_copy 76 = .ok (.aload_n 0, 1) := by decide +kernel
theorem dX6_copy_77 : decode cX6_copy 77 = .ok (.getfield 71, 3) := by decide +kernel
theorem dX6_copy_80 : decode cX6_copy 80 = .ok (.iload_n 1, 1) := by decide +kernel
theorem dX6_copy_81 : decode cX6_copy 81 = .ok (.iaload, 1) := by decide +kernel
theorem dX6_copy_82 : decode cX6_copy 82 = .ok (.i2l, 1) := by decide +kernel
theorem dX6_copy_83 : decode cX6_copy 83 = .ok (.lcmp, 1) := by decide +kernel
theorem dX6_copy_84 : decode cX6_copy 84 = .ok (.ifCond .gt 21, 3) := by decide +kernel
theorem dX6_copy_87 : decode cX6_copy 87 = .ok (.iload 4, 2) := by decide +kernel
theorem dX6_copy_89 : decode cX6_copy 89 = .ok (.i2l, 1) := by decide +kernel
theorem dX6_copy_90 : decode cX6_copy 90 = .ok (.iload 5, 2) := by decide +kernel
theorem dX6_copy_92 : decode cX6_copy 92 = .ok (.i2l, 1) := by decide +kernel
theorem dX6_copy_93 : decode cX6_copy 93 = .ok (.ladd, 1) := by decide +kernel
theorem dX6_copy_94 : decode cX6_copy 94 = .ok (.aload_n 0, 1) := by decide +kernel
theorem dX6_copy_95 : decode cX6_copy 95 = .ok (.getfield 71, 3) := by decide +kernel
theorem dX6_copy_98 : decode cX6_copy 98 = .ok (.iload_n 3, 1) := by decide +kernel
theorem dX6_copy_99 : decode cX6_copy 99 = .ok (.iaload, 1) := by decide +kernel
theorem dX6_copy_100 : decode cX6_copy 100 = .ok (.i2l, 1) := by decide +kernel
theorem dX6_copy_101 : decode cX6_copy 101 = .ok (.lcmp, 1) := by decide +kernel
theorem dX6_copy_102 : decode cX6_copy 102 = .ok (.ifCond .le 6, 3) := by decide +kernel
theorem dX6_copy_105 : decode cX6_copy 105 = .ok (.bipush (-12), 2) := by decide +kernel
theorem dX6_copy_107 : decode cX6_copy 107 = .ok (.ireturn, 1) := by decide +kernel
theorem dX6_copy_108 : decode cX6_copy 108 = .ok (.iload_n 1, 1) := by decide +kernel
theorem dX6_copy_109 : decode cX6_copy 109 = .ok (.iload_n 3, 1) := by decide +kernel
theorem dX6_copy_110 : decode cX6_copy 110 = .ok (.if_icmp .ne 58, 3) := by decide +kernel
theorem dX6_copy_113 : decode cX6_copy 113 = .ok (.iload_n 2, 1) := by decide +kernel
theorem dX6_copy_114 : decode cX6_copy 114 = .ok (.iload 4, 2) := by decide +kernel
theorem dX6_copy_116 : decode cX6_copy 116 = .ok (.if_icmp .ge 52, 3) := by decide +kernel
theorem dX6_copy_119 : decode cX6_copy 119 = .ok (.iload 5, 2) := by decide +kernel
theorem dX6_copy_121 : decode cX6_copy 121 = .ok (.iconst 1, 1) := by decide +kernel
theorem dX6_copy_122 : decode cX6_copy 122 = .ok (.isub, 1) := by decide +kernel
theorem dX6_copy_123 : decode cX6_copy 123 = .ok (.istore 6, 2) := by decide +kernel
theorem dX6_copy_125 : decode cX6_copy 125 = .ok (.iload 6, 2) := by decide +kernel
theorem dX6_copy_127 : decode cX6_copy 127 = .ok (.ifCond .lt 38, 3) := by decide +kernel
theorem dX6_copy_130 : decode cX6_copy 130 = .ok (.aload_n 0, 1) := by decide +kernel
theorem dX6_copy_131 : decode cX6_copy 131 = .ok (.getfield 74, 3) := by decide +kernel
theorem dX6_copy_134 : decode cX6_copy 134 = .ok (.bipush 40, 2) := by decide +kernel
theorem dX6_copy_136 : decode cX6_copy 136 = .ok (.iload_n 3, 1) := by decide +kernel
theorem dX6_copy_137 : decode cX6_copy 137 = .ok (.imul, 1) := by decide +kernel
theorem dX6_copy_138 : decode cX6_copy 138 = .ok (.iload 4, 2) := by decide +kernel
theorem dX6_copy_140 : decode cX6_copy 140 = .ok (.iadd, 1) := by decide +kernel
theorem dX6_copy_141 : decode cX6_copy 141 = .ok (.iload 6, 2) := by decide +kernel
theorem dX6_copy_143 : decode cX6_copy 143 = .ok (.iadd, 1) := by decide +kernel
theorem dX6_copy_144 : decode cX6_copy 144 = .ok (.aload_n 0, 1) := by decide +kernel
theorem dX6_copy_145 : decode cX6_copy 145 = .ok (.getfield 74, 3) := by decide +kernel
theorem dX6_copy_148 : decode cX6_copy 148 = .ok (.bipush 40, 2) := by decide +kernel
theorem dX6_copy_150 : decode cX6_copy 150 = .ok (.iload_n 1, 1) := by decide +kernel
theorem dX6_copy_151 : decode cX6_copy 151 = .ok (.imul, 1) := by decide +kernel
theorem dX6_copy_152 : decode cX6_copy 152 = .ok (.iload_n 2, 1) := by decide +kernel
theorem dX6_copy_153 : decode cX6_copy 153 = .ok (.iadd, 1) := by decide +kernel
theorem dX6_copy_154 : decode cX6_copy 154 = .ok (.iload 6, 2) := by decide +kernel
theorem dX6_copy_156 : decode cX6_copy 156 = .ok (.iadd, 1) := by decide +kernel
theorem dX6_copy_157 : decode cX6_copy 157 = .ok (.iaload, 1) := by decide +kernel
theorem dX6_copy_158 : decode cX6_copy 158 = .ok (.iastore, 1) := by decide +kernel
theorem dX6_copy_159 : decode cX6_copy 159 = .ok (.iinc 6 (-1), 3) := by decide +kernel
theorem dX6_copy_162 : decode cX6_copy 162 = .ok (.goto (-37), 3) := by decide +kernel
theorem dX6_copy_165 : decode cX6_copy 165 = .ok (.goto 48, 3) := by decide +kernel
theorem dX6_copy_168 : decode cX6_copy 168 = .ok (.iconst 0, 1) := by decide +kernel
theorem dX6_copy_169 : decode cX6_copy 169 = .ok (.istore 6, 2) := by decide +kernel
theorem dX6_copy_171 : decode cX6_copy 171 = .ok (.iload 6, 2) := by decide +kernel
theorem dX6_copy_173 : decode cX6_copy 173 = .ok (.iload 5, 2) := by decide +kernel
theorem dX6_copy_175 : decode cX6_copy 175 = .ok (.if_icmp .ge 38, 3) := by decide +kernel
theorem dX6_copy_178 : decode cX6_copy 178 = .ok (.aload_n 0, 1) := by decide +kernel
theorem dX6_copy_179 : decode cX6_copy 179 = .ok (.getfield 74, 3) := by decide +kernel
theorem dX6_copy_182 : decode cX6_copy 182 = .ok (.bipush 40, 2) := by decide +kernel
theorem dX6_copy_184 : decode cX6_copy 184 = .ok (.iload_n 3, 1) := by decide +kernel
theorem dX6_copy_185 : decode cX6_copy 185 = .ok (.imul, 1) := by decide +kernel
theorem dX6_copy_186 : decode cX6_copy 186 = .ok (.iload 4, 2) := by decide +kernel
theorem dX6_copy_188 : decode cX6_copy 188 = .ok (.iadd, 1) := by decide +kernel
theorem dX6_copy_189 : decode cX6_copy 189 = .ok (.iload 6, 2) := by decide +kernel
theorem dX6_copy_191 : decode cX6_copy 191 = .ok (.iadd, 1) := by decide +kernel
theorem dX6_copy_192 : decode cX6_copy 192 = .ok (.aload_n 0, 1) := by decide +kernel
theorem dX6_copy_193 : decode cX6_copy 193 = .ok (.getfield 74, 3) := by decide +kernel
theorem dX6_copy_196 : decode cX6_copy 196 = .ok (.bipush 40, 2) := by decide +kernel
theorem dX6_copy_198 : decode cX6_copy 198 = .ok (.iload_n 1, 1) := by decide +kernel
theorem dX6_copy_199 : decode cX6_copy 199 = .ok (.imul, 1) := by decide +kernel
theorem dX6_copy_200 : decode cX6_copy 200 = .ok (.iload_n 2, 1) := by decide +kernel
theorem dX6_copy_201 : decode cX6_copy 201 = .ok (.iadd, 1) := by decide +kernel
theorem dX6_copy_202 : decode cX6_copy 202 = .ok (.iload 6, 2) := by decide +kernel
theorem dX6_copy_204 : decode cX6_copy 204 = .ok (.iadd, 1) := by decide +kernel
theorem dX6_copy_205 : decode cX6_copy 205 = .ok (.iaload, 1) := by decide +kernel
theorem dX6_copy_206 : decode cX6_copy 206 = .ok (.iastore, 1) := by decide +kernel
theorem dX6_copy_207 : decode cX6_copy 207 = .ok (.iinc 6 1, 3) := by decide +kernel
theorem dX6_copy_210 : decode cX6_copy 210 = .ok (.goto (-39), 3) := by decide +kernel
theorem dX6_copy_213 : decode cX6_copy 213 = .ok (.iload 5, 2) := by decide +kernel
theorem dX6_copy_215 : decode cX6_copy 215 = .ok (.ireturn, 1) := by decide +kernel
theorem dX6_people_0 : decode cX6_people 0 = .ok (.iload_n 1, 1) := by decide +kernel
theorem dX6_people_1 : decode cX6_people 1 = .ok (.invokestatic 325, 3) := by decide +kernel
theorem dX6_people_4 : decode cX6_people 4 = .ok (.ifCond .eq 22, 3) := by decide +kernel
theorem dX6_people_7 : decode cX6_people 7 = .ok (.iload_n 2, 1) := by decide +kernel
theorem dX6_people_8 : decode cX6_people 8 = .ok (.iconst 0, 1) := by decide +kernel
theorem dX6_people_9 : decode cX6_people 9 = .ok (.iconst 2, 1) := by decide +kernel
theorem dX6_people_10 : decode cX6_people 10 = .ok (.invokestatic 88, 3) := by decide +kernel
theorem dX6_people_13 : decode cX6_people 13 = .ok (.ifCond .eq 13, 3) := by decide +kernel
theorem dX6_people_16 : decode cX6_people 16 = .ok (.iload 4, 2) := by decide +kernel
theorem dX6_people_18 : decode cX6_people 18 = .ok (.iconst 0, 1) := by decide +kernel
theorem dX6_people_19 : decode cX6_people 19 = .ok (.iconst 5, 1) := by decide +kernel
theorem dX6_people_20 : decode cX6_people 20 = .ok (.invokestatic 88, 3) := by decide +kernel
theorem dX6_people_23 : decode cX6_people 23 = .ok (.ifCond .ne 6, 3) := by decide +kernel
theorem dX6_people_26 : decode cX6_people 26 = .ok (.bipush (-2), 2) := by decide +kernel
theorem dX6_people_28 : decode cX6_people 28 = .ok (.ireturn, 1) := by decide +kernel
theorem dX6_people_29 : decode cX6_people 29 = .ok (.aload_n 0, 1) := by decide +kernel
theorem dX6_people_30 : decode cX6_people 30 = .ok (.getfield 68, 3) := by decide +kernel
theorem dX6_people_33 : decode cX6_people 33 = .ok (.iload_n 1, 1) := by decide +kernel
theorem dX6_people_34 : decode cX6_people 34 = .ok (.iaload, 1) := by decide +kernel
theorem dX6_people_35 : decode cX6_people 35 = .ok (.ifCond .ge 6, 3) := by decide +kernel
theorem dX6_people_38 : decode cX6_people 38 = .ok (.bipush (-11), 2) := by decide +kernel
theorem dX6_people_40 : decode cX6_people 40 = .ok (.ireturn, 1) := by decide +kernel
theorem dX6_people_41 : decode cX6_people 41 = .ok (.aload_n 0, 1) := by decide +kernel
theorem dX6_people_42 : decode cX6_people 42 = .ok (.getfield 68, 3) := by decide +kernel
theorem dX6_people_45 : decode cX6_people 45 = .ok (.iload_n 1, 1) := by decide +kernel
theorem dX6_people_46 : decode cX6_people 46 = .ok (.iaload, 1) := by decide +kernel
theorem dX6_people_47 : decode cX6_people 47 = .ok (.iload_n 2, 1) := by decide +kernel
theorem dX6_people_48 : decode cX6_people 48 = .ok (.if_icmp .eq 6, 3) := by decide +kernel
theorem dX6_people_51 : decode cX6_people 51 = .ok (.bipush (-13), 2) := by decide +kernel
theorem dX6_people_53 : decode cX6_people 53 = .ok (.ireturn, 1) := by decide +kernel
theorem dX6_people_54 : decode cX6_people 54 = .ok (.iconst 0, 1) := by decide +kernel
theorem dX6_people_55 : decode cX6_people 55 = .ok (.istore 5, 2) := by decide +kernel
theorem dX6_people_57 : decode cX6_people 57 = .ok (.iconst 0, 1) := by decide +kernel
theorem dX6_people_58 : decode cX6_people 58 = .ok (.istore 6, 2) := by decide +kernel
theorem dX6_people_60 : decode cX6_people 60 = .ok (.iload 6, 2) := by decide +kernel
theorem dX6_people_62 : decode cX6_people 62 = .ok (.iload 4, 2) := by decide +kernel
theorem dX6_people_64 : decode cX6_people 64 = .ok (.if_icmp .ge 93, 3) := by decide +kernel
theorem dX6_people_67 : decode cX6_people 67 = .ok (.iload_n 3, 1) := by decide +kernel
theorem dX6_people_68 : decode cX6_people 68 = .ok (.i2l, 1) := by decide +kernel
theorem dX6_people_69 : decode cX6_people 69 = .ok (.ldc2_w 368, 3) := by decide +kernel
theorem dX6_people_72 : decode cX6_people 72 = .ok (.iload 6, 2) := by decide +kernel
theorem dX6_people_74 : decode cX6_people 74 = .ok (.i2l, 1) := by decide +kernel
theorem dX6_people_75 : decode cX6_people 75 = .ok (.lmul, 1) := by decide +kernel
theorem dX6_people_76 : decode cX6_people 76 = .ok (.ladd, 1) := by decide +kernel
theorem dX6_people_77 : decode cX6_people 77 = .ok (.lstore 7, 2) := by decide +kernel
theorem dX6_people_79 : decode cX6_people 79 = .ok (.lload 7, 2) := by decide +kernel
theorem dX6_people_81 : decode cX6_people 81 = .ok (.lconst 0, 1) := by decide +kernel
theorem dX6_people_82 : decode cX6_people 82 = .ok (.lcmp, 1) := by decide +kernel
theorem dX6_people_83 : decode cX6_people 83 = .ok (.ifCond .lt 20, 3) := by decide +kernel
theorem dX6_people_86 : decode cX6_people 86 = .ok (.lload 7, 2) := by decide +kernel
theorem dX6_people_88 : decode cX6_people 88 = .ok (.ldc2_w 370, 3) := by decide +kernel
theorem dX6_people_91 : decode cX6_people 91 = .ok (.ladd, 1) := by decide +kernel
theorem dX6_people_92 : decode cX6_people 92 = .ok (.aload_n 0, 1) := by decide +kernel
theorem dX6_people_93 : decode cX6_people 93 = .ok (.getfield 71, 3) := by decide +kernel
theorem dX6_people_96 : decode cX6_people 96 = .ok (.iload_n 1, 1) := by decide +kernel
theorem dX6_people_97 : decode cX6_people 97 = .ok (.iaload, 1) := by decide +kernel
theorem dX6_people_98 : decode cX6_people 98 = .ok (.i2l, 1) := by decide +kernel
theorem dX6_people_99 : decode cX6_people 99 = .ok (.lcmp, 1) := by decide +kernel
theorem dX6_people_100 : decode cX6_people 100 = .ok (.ifCond .lt 6, 3) := by decide +kernel
theorem dX6_people_103 : decode cX6_people 103 = .ok (.bipush (-12), 2) := by decide +kernel
theorem dX6_people_105 : decode cX6_people 105 = .ok (.ireturn, 1) := by decide +kernel
theorem dX6_people_106 : decode cX6_people 106 = .ok (.bipush 40, 2) := by decide +kernel
theorem dX6_people_108 : decode cX6_people 108 = .ok (.iload_n 1, 1) := by decide +kernel
theorem dX6_people_109 : decode cX6_people 109 = .ok (.imul, 1) := by decide +kernel
theorem dX6_people_110 : decode cX6_people 110 = .ok (.lload 7, 2) := by decide +kernel
theorem dX6_people_112 : decode cX6_people 112 = .ok (.l2i, 1) := by decide +kernel
theorem dX6_people_113 : decode cX6_people 113 = .ok (.iadd, 1) := by decide +kernel
theorem dX6_people_114 : decode cX6_people 114 = .ok (.istore 9, 2) := by decide +kernel
theorem dX6_people_116 : decode cX6_people 116 = .ok (.aload_n 0, 1) := by decide +kernel
theorem dX6_people_117 : decode cX6_people 117 = .ok (.aload_n 0, 1) := by decide +kernel
theorem dX6_people_118 : decode cX6_people 118 = .ok (.getfield 74, 3) := by decide +kernel
theorem dX6_people_121 : decode cX6_people 121 = .ok (.iload 9, 2) := by decide +kernel
theorem dX6_people_123 : decode cX6_people 123 = .ok (.iaload, 1) := by decide +kernel
theorem dX6_people_124 : decode cX6_people 124 = .ok (.aload_n 0, 1) := by decide +kernel
theorem dX6_people_125 : decode cX6_people 125 = .ok (.getfield 74, 3) := by decide +kernel
theorem dX6_people_128 : decode cX6_people 128 = .ok (.iload 9, 2) := by decide +kernel
theorem dX6_people_130 : decode cX6_people 130 = .ok (.iconst 1, 1) := by decide +kernel
theorem dX6_people_131 : decode cX6_people 131 = .ok (.iadd, 1) := by decide +kernel
theorem dX6_people_132 : decode cX6_people 132 = .ok (.iaload, 1) := by decide +kernel
theorem dX6_people_133 : decode cX6_people 133 = .ok (.aload_n 0, 1) := by decide +kernel
theorem dX6_people_134 : decode cX6_people 134 = .ok (.getfield 74, 3) := by decide +kernel
theorem dX6_people_137 : decode cX6_people 137 = .ok (.iload 9, 2) := by decide +kernel
theorem dX6_people_139 : decode cX6_people 139 = .ok (.iconst 2, 1) := by decide +kernel
theorem dX6_people_140 : decode cX6_people 140 = .ok (.iadd, 1) := by decide +kernel
theorem dX6_people_141 : decode cX6_people 141 = .ok (.iaload, 1) := by decide +kernel
theorem dX6_people_142 : decode cX6_people 142 = .ok (.invokevirtual 372, 3) := by decide +kernel
theorem dX6_people_145 : decode cX6_people 145 = .ok (.ifCond .lt 6, 3) := by decide +kernel
theorem dX6_people_148 : decode cX6_people 148 = .ok (.iinc 5 1, 3) := by decide +kernel
theorem dX6_people_151 : decode cX6_people 151 = .ok (.iinc 6 1, 3) := by decide +kernel
theorem dX6_people_154 : decode cX6_people 154 = .ok (.goto (-94), 3) := by decide +kernel
theorem dX6_people_157 : decode cX6_people 157 = .ok (.iload 5, 2) := by decide +kernel
theorem dX6_people_159 : decode cX6_people 159 = .ok (.ireturn, 1) := by decide +kernel
theorem dX6_taken_0 : decode cX6_taken 0 = .ok (.iload_n 2, 1) := by decide +kernel
theorem dX6_taken_1 : decode cX6_taken 1 = .ok (.iconst 0, 1) := by decide +kernel
theorem dX6_taken_2 : decode cX6_taken 2 = .ok (.iconst 5, 1) := by decide +kernel
theorem dX6_taken_3 : decode cX6_taken 3 = .ok (.invokestatic 88, 3) := by decide +kernel
theorem dX6_taken_6 : decode cX6_taken 6 = .ok (.ifCond .ne 6, 3) := by decide +kernel
theorem dX6_taken_9 : decode cX6_taken 9 = .ok (.bipush (-2), 2) := by decide +kernel
theorem dX6_taken_11 : decode cX6_taken 11 = .ok (.ireturn, 1) := by decide +kernel
theorem dX6_taken_12 : decode cX6_taken 12 = .ok (.aload_n 0, 1) := by decide +kernel
theorem dX6_taken_13 : decode cX6_taken 13 = .ok (.iload_n 1, 1) := by decide +kernel
theorem dX6_taken_14 : decode cX6_taken 14 = .ok (.invokevirtual 92, 3) := by decide +kernel
theorem dX6_taken_17 : decode cX6_taken 17 = .ok (.ifCond .ne 6, 3) := by decide +kernel
theorem dX6_taken_20 : decode cX6_taken 20 = .ok (.bipush (-11), 2) := by decide +kernel
theorem dX6_taken_22 : decode cX6_taken 22 = .ok (.ireturn, 1) := by decide +kernel
theorem dX6_taken_23 : decode cX6_taken 23 = .ok (.aload_n 0, 1) := by decide +kernel
theorem dX6_taken_24 : decode cX6_taken 24 = .ok (.getfield 7, 3) := by decide +kernel
theorem dX6_taken_27 : decode cX6_taken 27 = .ok (.iload_n 1, 1) := by decide +kernel
theorem dX6_taken_28 : decode cX6_taken 28 = .ok (.iaload, 1) := by decide +kernel
theorem dX6_taken_29 : decode cX6_taken 29 = .ok (.istore_n 3, 1) := by decide +kernel
theorem dX6_taken_30 : decode cX6_taken 30 = .ok (.iload_n 3, 1) := by decide +kernel
theorem dX6_taken_31 : decode cX6_taken 31 = .ok (.iload_n 2, 1) := by decide +kernel
theorem dX6_taken_32 : decode cX6_taken 32 = .ok (.if_icmp .eq 30, 3) := by decide +kernel
theorem dX6_taken_35 : decode cX6_taken 35 = .ok (.iload_n 3, 1) := by decide +kernel
theorem dX6_taken_36 : decode cX6_taken 36 = .ok (.ifCond .le 26, 3) := by decide +kernel
theorem dX6_taken_39 : decode cX6_taken 39 = .ok (.iload_n 3, 1) := by decide +kernel
theorem dX6_taken_40 : decode cX6_taken 40 = .ok (.iconst 3, 1) := by decide +kernel
theorem dX6_taken_41 : decode cX6_taken 41 = .ok (.if_icmp .ne 7, 3) := by decide +kernel
theorem dX6_taken_44 : decode cX6_taken 44 = .ok (.iconst 1, 1) := by decide +kernel
theorem dX6_taken_45 : decode cX6_taken 45 = .ok (.goto 13, 3) := by decide +kernel
theorem dX6_taken_48 : decode cX6_taken 48 = .ok (.iload_n 3, 1) := by decide +kernel
theorem dX6_taken_49 : decode cX6_taken 49 = .ok (.iconst 4, 1) := by decide +kernel
theorem dX6_taken_50 : decode cX6_taken 50 = .ok (.if_icmp .ne 7, 3) := by decide +kernel
theorem dX6_taken_53 : decode cX6_taken 53 = .ok (.iconst 2, 1) := by decide +kernel
theorem dX6_taken_54 : decode cX6_taken 54 = .ok (.goto 4, 3) := by decide +kernel
theorem dX6_taken_57 : decode cX6_taken 57 = .ok (.iconst 0, 1) := by decide +kernel
theorem dX6_taken_58 : decode cX6_taken 58 = .ok (.istore_n 3, 1) := by decide +kernel
theorem dX6_taken_59 : decode cX6_taken 59 = .ok (.goto (-29), 3) := by decide +kernel
theorem dX6_taken_62 : decode cX6_taken 62 = .ok (.iload_n 3, 1) := by decide +kernel
theorem dX6_taken_63 : decode cX6_taken 63 = .ok (.iload_n 2, 1) := by decide +kernel
theorem dX6_taken_64 : decode cX6_taken 64 = .ok (.if_icmp .ne 12, 3) := by decide +kernel
theorem dX6_taken_67 : decode cX6_taken 67 = .ok (.aload_n 0, 1) := by decide +kernel
theorem dX6_taken_68 : decode cX6_taken 68 = .ok (.getfield 13, 3) := by decide +kernel
theorem dX6_taken_71 : decode cX6_taken 71 = .ok (.iload_n 1, 1) := by decide +kernel
theorem dX6_taken_72 : decode cX6_taken 72 = .ok (.iaload, 1) := by decide +kernel
theorem dX6_taken_73 : decode cX6_taken 73 = .ok (.goto 5, 3) := by decide +kernel
theorem dX6_taken_76 : decode cX6_taken 76 = .ok (.bipush (-13), 2) := by decide +kernel
theorem dX6_taken_78 : decode cX6_taken 78 = .ok (.ireturn, 1) := by decide +kernel
theorem dJ11_isValidCodePoint_9a6ad_0 : decode cJ11_isValidCodePoint_9a6ad 0 = .ok (.iload_n 0, 1) := by decide +kernel
theorem dJ11_isValidCodePoint_9a6ad_1 : decode cJ11_isValidCodePoint_9a6ad 1 = .ok (.bipush 16, 2) := by decide +kernel
theorem dJ11_isValidCodePoint_9a6ad_3 : decode cJ11_isValidCodePoint_9a6ad 3 = .ok (.iushr, 1) := by decide +kernel
theorem dJ11_isValidCodePoint_9a6ad_4 : decode cJ11_isValidCodePoint_9a6ad 4 = .ok (.istore_n 1, 1) := by decide +kernel
theorem dJ11_isValidCodePoint_9a6ad_5 : decode cJ11_isValidCodePoint_9a6ad 5 = .ok (.iload_n 1, 1) := by decide +kernel
theorem dJ11_isValidCodePoint_9a6ad_6 : decode cJ11_isValidCodePoint_9a6ad 6 = .ok (.bipush 17, 2) := by decide +kernel
theorem dJ11_isValidCodePoint_9a6ad_8 : decode cJ11_isValidCodePoint_9a6ad 8 = .ok (.if_icmp .ge 7, 3) := by decide +kernel
theorem dJ11_isValidCodePoint_9a6ad_11 : decode cJ11_isValidCodePoint_9a6ad 11 = .ok (.iconst 1, 1) := by decide +kernel
theorem dJ11_isValidCodePoint_9a6ad_12 : decode cJ11_isValidCodePoint_9a6ad 12 = .ok (.goto 4, 3) := by decide +kernel
theorem dJ11_isValidCodePoint_9a6ad_15 : decode cJ11_isValidCodePoint_9a6ad 15 = .ok (.iconst 0, 1) := by decide +kernel
theorem dJ11_isValidCodePoint_9a6ad_16 : decode cJ11_isValidCodePoint_9a6ad 16 = .ok (.ireturn, 1) := by decide +kernel
theorem dJ11_highSurrogate_5068e_0 : decode cJ11_highSurrogate_5068e 0 = .ok (.iload_n 0, 1) := by decide +kernel
theorem dJ11_highSurrogate_5068e_1 : decode cJ11_highSurrogate_5068e 1 = .ok (.bipush 10, 2) := by decide +kernel
theorem dJ11_highSurrogate_5068e_3 : decode cJ11_highSurrogate_5068e 3 = .ok (.iushr, 1) := by decide +kernel
theorem dJ11_highSurrogate_5068e_4 : decode cJ11_highSurrogate_5068e 4 = .ok (.ldc 110, 2) := by decide +kernel
theorem dJ11_highSurrogate_5068e_6 : decode cJ11_highSurrogate_5068e 6 = .ok (.iadd, 1) := by decide +kernel
theorem dJ11_highSurrogate_5068e_7 : decode cJ11_highSurrogate_5068e 7 = .ok (.i2c, 1) := by decide +kernel
theorem dJ11_highSurrogate_5068e_8 : decode cJ11_highSurrogate_5068e 8 = .ok (.ireturn, 1) := by decide +kernel
theorem dJ11_lowSurrogate_5068e_0 : decode cJ11_lowSurrogate_5068e 0 = .ok (.iload_n 0, 1) := by decide +kernel
theorem dJ11_lowSurrogate_5068e_1 : decode cJ11_lowSurrogate_5068e 1 = .ok (.sipush 1023, 3) := by decide +kernel
theorem dJ11_lowSurrogate_5068e_4 : decode cJ11_lowSurrogate_5068e 4 = .ok (.iand, 1) := by decide +kernel
theorem dJ11_lowSurrogate_5068e_5 : decode cJ11_lowSurrogate_5068e 5 = .ok (.ldc 76, 2) := by decide +kernel
theorem dJ11_lowSurrogate_5068e_7 : decode cJ11_lowSurrogate_5068e 7 = .ok (.iadd, 1) := by decide +kernel
theorem dJ11_lowSurrogate_5068e_8 : decode cJ11_lowSurrogate_5068e 8 = .ok (.i2c, 1) := by decide +kernel
theorem dJ11_lowSurrogate_5068e_9 : decode cJ11_lowSurrogate_5068e 9 = .ok (.ireturn, 1) := by decide +kernel
theorem dJ6_bitCount_0f7a4_0 : decode cJ6_bitCount_0f7a4 0 = .ok (.iload_n 0, 1) := by decide +kernel
theorem dJ6_bitCount_0f7a4_1 : decode cJ6_bitCount_0f7a4 1 = .ok (.iload_n 0, 1) := by decide +kernel
theorem dJ6_bitCount_0f7a4_2 : decode cJ6_bitCount_0f7a4 2 = .ok (.iconst 1, 1) := by decide +kernel
theorem dJ6_bitCount_0f7a4_3 : decode cJ6_bitCount_0f7a4 3 = .ok (.iushr, 1) := by decide +kernel
theorem dJ6_bitCount_0f7a4_4 : decode cJ6_bitCount_0f7a4 4 = .ok (.ldc_w 265, 3) := by decide +kernel
theorem dJ6_bitCount_0f7a4_7 : decode cJ6_bitCount_0f7a4 7 = .ok (.iand, 1) := by decide +kernel
theorem dJ6_bitCount_0f7a4_8 : decode cJ6_bitCount_0f7a4 8 = .ok (.isub, 1) := by decide +kernel
theorem dJ6_bitCount_0f7a4_9 : decode cJ6_bitCount_0f7a4 9 = .ok (.istore_n 0, 1) := by decide +kernel
theorem dJ6_bitCount_0f7a4_10 : decode cJ6_bitCount_0f7a4 10 = .ok (.iload_n 0, 1) := by decide +kernel
theorem dJ6_bitCount_0f7a4_11 : decode cJ6_bitCount_0f7a4 11 = .ok (.ldc_w 266, 3) := by decide +kernel
theorem dJ6_bitCount_0f7a4_14 : decode cJ6_bitCount_0f7a4 14 = .ok (.iand, 1) := by decide +kernel
theorem dJ6_bitCount_0f7a4_15 : decode cJ6_bitCount_0f7a4 15 = .ok (.iload_n 0, 1) := by decide +kernel
theorem dJ6_bitCount_0f7a4_16 : decode cJ6_bitCount_0f7a4 16 = .ok (.iconst 2, 1) := by decide +kernel
theorem dJ6_bitCount_0f7a4_17 : decode cJ6_bitCount_0f7a4 17 = .ok (.iushr, 1) := by decide +kernel
theorem dJ6_bitCount_0f7a4_18 : decode cJ6_bitCount_0f7a4 18 = .ok (.ldc_w 266, 3) := by decide +kernel
theorem dJ6_bitCount_0f7a4_21 : decode cJ6_bitCount_0f7a4 21 = .ok (.iand, 1) := by decide +kernel
theorem dJ6_bitCount_0f7a4_22 : decode cJ6_bitCount_0f7a4 22 = .ok (.iadd, 1) := by decide +kernel
theorem dJ6_bitCount_0f7a4_23 : decode cJ6_bitCount_0f7a4 23 = .ok (.istore_n 0, 1) := by decide +kernel
theorem dJ6_bitCount_0f7a4_24 : decode cJ6_bitCount_0f7a4 24 = .ok (.iload_n 0, 1) := by decide +kernel
theorem dJ6_bitCount_0f7a4_25 : decode cJ6_bitCount_0f7a4 25 = .ok (.iload_n 0, 1) := by decide +kernel
theorem dJ6_bitCount_0f7a4_26 : decode cJ6_bitCount_0f7a4 26 = .ok (.iconst 4, 1) := by decide +kernel
theorem dJ6_bitCount_0f7a4_27 : decode cJ6_bitCount_0f7a4 27 = .ok (.iushr, 1) := by decide +kernel
theorem dJ6_bitCount_0f7a4_28 : decode cJ6_bitCount_0f7a4 28 = .ok (.iadd, 1) := by decide +kernel
theorem dJ6_bitCount_0f7a4_29 : decode cJ6_bitCount_0f7a4 29 = .ok (.ldc_w 267, 3) := by decide +kernel
theorem dJ6_bitCount_0f7a4_32 : decode cJ6_bitCount_0f7a4 32 = .ok (.iand, 1) := by decide +kernel
theorem dJ6_bitCount_0f7a4_33 : decode cJ6_bitCount_0f7a4 33 = .ok (.istore_n 0, 1) := by decide +kernel
theorem dJ6_bitCount_0f7a4_34 : decode cJ6_bitCount_0f7a4 34 = .ok (.iload_n 0, 1) := by decide +kernel
theorem dJ6_bitCount_0f7a4_35 : decode cJ6_bitCount_0f7a4 35 = .ok (.iload_n 0, 1) := by decide +kernel
theorem dJ6_bitCount_0f7a4_36 : decode cJ6_bitCount_0f7a4 36 = .ok (.bipush 8, 2) := by decide +kernel
theorem dJ6_bitCount_0f7a4_38 : decode cJ6_bitCount_0f7a4 38 = .ok (.iushr, 1) := by decide +kernel
theorem dJ6_bitCount_0f7a4_39 : decode cJ6_bitCount_0f7a4 39 = .ok (.iadd, 1) := by decide +kernel
theorem dJ6_bitCount_0f7a4_40 : decode cJ6_bitCount_0f7a4 40 = .ok (.istore_n 0, 1) := by decide +kernel
theorem dJ6_bitCount_0f7a4_41 : decode cJ6_bitCount_0f7a4 41 = .ok (.iload_n 0, 1) := by decide +kernel
theorem dJ6_bitCount_0f7a4_42 : decode cJ6_bitCount_0f7a4 42 = .ok (.iload_n 0, 1) := by decide +kernel
theorem dJ6_bitCount_0f7a4_43 : decode cJ6_bitCount_0f7a4 43 = .ok (.bipush 16, 2) := by decide +kernel
theorem dJ6_bitCount_0f7a4_45 : decode cJ6_bitCount_0f7a4 45 = .ok (.iushr, 1) := by decide +kernel
theorem dJ6_bitCount_0f7a4_46 : decode cJ6_bitCount_0f7a4 46 = .ok (.iadd, 1) := by decide +kernel
theorem dJ6_bitCount_0f7a4_47 : decode cJ6_bitCount_0f7a4 47 = .ok (.istore_n 0, 1) := by decide +kernel
theorem dJ6_bitCount_0f7a4_48 : decode cJ6_bitCount_0f7a4 48 = .ok (.iload_n 0, 1) := by decide +kernel
theorem dJ6_bitCount_0f7a4_49 : decode cJ6_bitCount_0f7a4 49 = .ok (.bipush 63, 2) := by decide +kernel
theorem dJ6_bitCount_0f7a4_51 : decode cJ6_bitCount_0f7a4 51 = .ok (.iand, 1) := by decide +kernel
theorem dJ6_bitCount_0f7a4_52 : decode cJ6_bitCount_0f7a4 52 = .ok (.ireturn, 1) := by decide +kernel
theorem dJ9_max_7cf53_0 : decode cJ9_max_7cf53 0 = .ok (.iload_n 0, 1) := by decide +kernel
theorem dJ9_max_7cf53_1 : decode cJ9_max_7cf53 1 = .ok (.iload_n 1, 1) := by decide +kernel
theorem dJ9_max_7cf53_2 : decode cJ9_max_7cf53 2 = .ok (.if_icmp .lt 7, 3) := by decide +kernel
theorem dJ9_max_7cf53_5 : decode cJ9_max_7cf53 5 = .ok (.iload_n 0, 1) := by decide +kernel
theorem dJ9_max_7cf53_6 : decode cJ9_max_7cf53 6 = .ok (.goto 4, 3) := by decide +kernel
theorem dJ9_max_7cf53_9 : decode cJ9_max_7cf53 9 = .ok (.iload_n 1, 1) := by decide +kernel
theorem dJ9_max_7cf53_10 : decode cJ9_max_7cf53 10 = .ok (.ireturn, 1) := by decide +kernel
theorem dJ9_min_7cf53_0 : decode cJ9_min_7cf53 0 = .ok (.iload_n 0, 1) := by decide +kernel
theorem dJ9_min_7cf53_1 : decode cJ9_min_7cf53 1 = .ok (.iload_n 1, 1) := by decide +kernel
theorem dJ9_min_7cf53_2 : decode cJ9_min_7cf53 2 = .ok (.if_icmp .gt 7, 3) := by decide +kernel
theorem dJ9_min_7cf53_5 : decode cJ9_min_7cf53 5 = .ok (.iload_n 0, 1) := by decide +kernel
theorem dJ9_min_7cf53_6 : decode cJ9_min_7cf53 6 = .ok (.goto 4, 3) := by decide +kernel
theorem dJ9_min_7cf53_9 : decode cJ9_min_7cf53 9 = .ok (.iload_n 1, 1) := by decide +kernel
theorem dJ9_min_7cf53_10 : decode cJ9_min_7cf53 10 = .ok (.ireturn, 1) := by decide +kernel
theorem dJ9_min_f86c9_0 : decode cJ9_min_f86c9 0 = .ok (.lload_n 0, 1) := by decide +kernel
theorem dJ9_min_f86c9_1 : decode cJ9_min_f86c9 1 = .ok (.lload_n 2, 1) := by decide +kernel
theorem dJ9_min_f86c9_2 : decode cJ9_min_f86c9 2 = .ok (.lcmp, 1) := by decide +kernel
theorem dJ9_min_f86c9_3 : decode cJ9_min_f86c9 3 = .ok (.ifCond .gt 7, 3) := by decide +kernel
theorem dJ9_min_f86c9_6 : decode cJ9_min_f86c9 6 = .ok (.lload_n 0, 1) := by decide +kernel
theorem dJ9_min_f86c9_7 : decode cJ9_min_f86c9 7 = .ok (.goto 4, 3) := by decide +kernel
theorem dJ9_min_f86c9_10 : decode cJ9_min_f86c9 10 = .ok (.lload_n 2, 1) := by decide +kernel
theorem dJ9_min_f86c9_11 : decode cJ9_min_f86c9 11 = .ok (.lreturn, 1) := by decide +kernel
theorem dJ0_length_8abf5_0 : decode cJ0_length_8abf5 0 = .ok (.aload_n 0, 1) := by decide +kernel
theorem dJ0_length_8abf5_1 : decode cJ0_length_8abf5 1 = .ok (.getfield 9, 3) := by decide +kernel
theorem dJ0_length_8abf5_4 : decode cJ0_length_8abf5 4 = .ok (.arraylength, 1) := by decide +kernel
theorem dJ0_length_8abf5_5 : decode cJ0_length_8abf5 5 = .ok (.aload_n 0, 1) := by decide +kernel
theorem dJ0_length_8abf5_6 : decode cJ0_length_8abf5 6 = .ok (.invokevirtual 335, 3) := by decide +kernel
theorem dJ0_length_8abf5_9 : decode cJ0_length_8abf5 9 = .ok (.ishr, 1) := by decide +kernel
theorem dJ0_length_8abf5_10 : decode cJ0_length_8abf5 10 = .ok (.ireturn, 1) := by decide +kernel
theorem dJ0_charAt_5068e_0 : decode cJ0_charAt_5068e 0 = .ok (.aload_n 0, 1) := by decide +kernel
theorem dJ0_charAt_5068e_1 : decode cJ0_charAt_5068e 1 = .ok (.invokevirtual 492, 3) := by decide +kernel
theorem dJ0_charAt_5068e_4 : decode cJ0_charAt_5068e 4 = .ok (.ifCond .eq 12, 3) := by decide +kernel
theorem dJ0_charAt_5068e_7 : decode cJ0_charAt_5068e 7 = .ok (.aload_n 0, 1) := by decide +kernel
theorem dJ0_charAt_5068e_8 : decode cJ0_charAt_5068e 8 = .ok (.getfield 9, 3) := by decide +kernel
theorem dJ0_charAt_5068e_11 : decode cJ0_charAt_5068e 11 = .ok (.iload_n 1, 1) := by decide +kernel
theorem dJ0_charAt_5068e_12 : decode cJ0_charAt_5068e 12 = .ok (.invokestatic 495, 3) := by decide +kernel
theorem dJ0_charAt_5068e_15 : decode cJ0_charAt_5068e 15 = .ok (.ireturn, 1) := by decide +kernel
theorem dJ0_charAt_5068e_16 : decode cJ0_charAt_5068e 16 = .ok (.aload_n 0, 1) := by decide +kernel
theorem dJ0_charAt_5068e_17 : decode cJ0_charAt_5068e 17 = .ok (.getfield 9, 3) := by decide +kernel
theorem dJ0_charAt_5068e_20 : decode cJ0_charAt_5068e 20 = .ok (.iload_n 1, 1) := by decide +kernel
theorem dJ0_charAt_5068e_21 : decode cJ0_charAt_5068e 21 = .ok (.invokestatic 498, 3) := by decide +kernel
theorem dJ0_charAt_5068e_24 : decode cJ0_charAt_5068e 24 = .ok (.ireturn, 1) := by decide +kernel
theorem dJ0_indexOf_0f7a4_0 : decode cJ0_indexOf_0f7a4 0 = .ok (.aload_n 0, 1) := by decide +kernel
theorem dJ0_indexOf_0f7a4_1 : decode cJ0_indexOf_0f7a4 1 = .ok (.iload_n 1, 1) := by decide +kernel
theorem dJ0_indexOf_0f7a4_2 : decode cJ0_indexOf_0f7a4 2 = .ok (.iconst 0, 1) := by decide +kernel
theorem dJ0_indexOf_0f7a4_3 : decode cJ0_indexOf_0f7a4 3 = .ok (.invokevirtual 633, 3) := by decide +kernel
theorem dJ0_indexOf_0f7a4_6 : decode cJ0_indexOf_0f7a4 6 = .ok (.ireturn, 1) := by decide +kernel
theorem dJ0_indexOf_7cf53_0 : decode cJ0_indexOf_7cf53 0 = .ok (.aload_n 0, 1) := by decide +kernel
theorem dJ0_indexOf_7cf53_1 : decode cJ0_indexOf_7cf53 1 = .ok (.invokevirtual 492, 3) := by decide +kernel
theorem dJ0_indexOf_7cf53_4 : decode cJ0_indexOf_7cf53 4 = .ok (.ifCond .eq 19, 3) := by decide +kernel
theorem dJ0_indexOf_7cf53_7 : decode cJ0_indexOf_7cf53 7 = .ok (.aload_n 0, 1) := by decide +kernel
theorem dJ0_indexOf_7cf53_8 : decode cJ0_indexOf_7cf53 8 = .ok (.getfield 9, 3) := by decide +kernel
theorem dJ0_indexOf_7cf53_11 : decode cJ0_indexOf_7cf53 11 = .ok (.iload_n 1, 1) := by decide +kernel
theorem dJ0_indexOf_7cf53_12 : decode cJ0_indexOf_7cf53 12 = .ok (.iload_n 2, 1) := by decide +kernel
theorem dJ0_indexOf_7cf53_13 : decode cJ0_indexOf_7cf53 13 = .ok (.aload_n 0, 1) := by decide +kernel
theorem dJ0_indexOf_7cf53_14 : decode cJ0_indexOf_7cf53 14 = .ok (.invokevirtual 505, 3) := by decide +kernel
theorem dJ0_indexOf_7cf53_17 : decode cJ0_indexOf_7cf53 17 = .ok (.invokestatic 637, 3) := by decide +kernel
theorem dJ0_indexOf_7cf53_20 : decode cJ0_indexOf_7cf53 20 = .ok (.goto 16, 3) := by decide +kernel
theorem dJ0_indexOf_7cf53_23 : decode cJ0_indexOf_7cf53 23 = .ok (.aload_n 0, 1) := by decide +kernel
theorem dJ0_indexOf_7cf53_24 : decode cJ0_indexOf_7cf53 24 = .ok (.getfield 9, 3) := by decide +kernel
theorem dJ0_indexOf_7cf53_27 : decode cJ0_indexOf_7cf53 27 = .ok (.iload_n 1, 1) := by decide +kernel
theorem dJ0_indexOf_7cf53_28 : decode cJ0_indexOf_7cf53 28 = .ok (.iload_n 2, 1) := by decide +kernel
theorem dJ0_indexOf_7cf53_29 : decode cJ0_indexOf_7cf53 29 = .ok (.aload_n 0, 1) := by decide +kernel
theorem dJ0_indexOf_7cf53_30 : decode cJ0_indexOf_7cf53 30 = .ok (.invokevirtual 505, 3) := by decide +kernel
theorem dJ0_indexOf_7cf53_33 : decode cJ0_indexOf_7cf53 33 = .ok (.invokestatic 640, 3) := by decide +kernel
theorem dJ0_indexOf_7cf53_36 : decode cJ0_indexOf_7cf53 36 = .ok (.ireturn, 1) := by decide +kernel
theorem dJ0_coder_7d493_0 : decode cJ0_coder_7d493 0 = .ok (.getstatic 38, 3) := by decide +kernel
theorem dJ0_coder_7d493_3 : decode cJ0_coder_7d493 3 = .ok (.ifCond .eq 10, 3) := by decide +kernel
theorem dJ0_coder_7d493_6 : decode cJ0_coder_7d493 6 = .ok (.aload_n 0, 1) := by decide +kernel
theorem dJ0_coder_7d493_7 : decode cJ0_coder_7d493 7 = .ok (.getfield 15, 3) := by decide +kernel
theorem dJ0_coder_7d493_10 : decode cJ0_coder_7d493 10 = .ok (.goto 4, 3) := by decide +kernel
theorem dJ0_coder_7d493_13 : decode cJ0_coder_7d493 13 = .ok (.iconst 1, 1) := by decide +kernel
theorem dJ0_coder_7d493_14 : decode cJ0_coder_7d493 14 = .ok (.ireturn, 1) := by decide +kernel
theorem dJ0_isLatin1_aae02_0 : decode cJ0_isLatin1_aae02 0 = .ok (.getstatic 38, 3) := by decide +kernel
theorem dJ0_isLatin1_aae02_3 : decode cJ0_isLatin1_aae02 3 = .ok (.ifCond .eq 14, 3) := by decide +kernel
theorem dJ0_isLatin1_aae02_6 : decode cJ0_isLatin1_aae02 6 = .ok (.aload_n 0, 1) := by decide +kernel
theorem dJ0_isLatin1_aae02_7 : decode cJ0_isLatin1_aae02 7 = .ok (.getfield 15, 3) := by decide +kernel
theorem dJ0_isLatin1_aae02_10 : decode cJ0_isLatin1_aae02 10 = .ok (.ifCond .ne 7, 3) := by decide +kernel
theorem dJ0_isLatin1_aae02_13 : decode cJ0_isLatin1_aae02 13 = .ok (.iconst 1, 1) := by decide +kernel
theorem dJ0_isLatin1_aae02_14 : decode cJ0_isLatin1_aae02 14 = .ok (.goto 4, 3) := by decide +kernel
theorem dJ0_isLatin1_aae02_17 : decode cJ0_isLatin1_aae02 17 = .ok (.iconst 0, 1) := by decide +kernel
theorem dJ0_isLatin1_aae02_18 : decode cJ0_isLatin1_aae02 18 = .ok (.ireturn, 1) := by decide +kernel
theorem dJ0_checkIndex_df160_0 : decode cJ0_checkIndex_df160 0 = .ok (.iload_n 0, 1) := by decide +kernel
theorem dJ0_checkIndex_df160_1 : decode cJ0_checkIndex_df160 1 = .ok (.iload_n 1, 1) := by decide +kernel
theorem dJ0_checkIndex_df160_2 : decode cJ0_checkIndex_df160 2 = .ok (.getstatic 1053, 3) := by decide +kernel
theorem dJ0_checkIndex_df160_5 : decode cJ0_checkIndex_df160 5 = .ok (.invokestatic 1059, 3) := by decide +kernel
theorem dJ0_checkIndex_df160_8 : decode cJ0_checkIndex_df160 8 = .ok (.pop, 1) := by decide +kernel
theorem dJ0_checkIndex_df160_9 : decode cJ0_checkIndex_df160 9 = .ok (.return_, 1) := by decide +kernel
theorem dJ0_checkBoundsBeginEnd_23922_0 : decode cJ0_checkBoundsBeginEnd_23922 0 = .ok (.iload_n 0, 1) := by decide +kernel
theorem dJ0_checkBoundsBeginEnd_23922_1 : decode cJ0_checkBoundsBeginEnd_23922 1 = .ok (.iload_n 1, 1) := by decide +kernel
theorem dJ0_checkBoundsBeginEnd_23922_2 : decode cJ0_checkBoundsBeginEnd_23922 2 = .ok (.iload_n 2, 1) := by decide +kernel
theorem dJ0_checkBoundsBeginEnd_23922_3 : decode cJ0_checkBoundsBeginEnd_23922 3 = .ok (.getstatic 1053, 3) := by decide +kernel
theorem dJ0_checkBoundsBeginEnd_23922_6 : decode cJ0_checkBoundsBeginEnd_23922 6 = .ok (.invokestatic 1062, 3) := by decide +kernel
theorem dJ0_checkBoundsBeginEnd_23922_9 : decode cJ0_checkBoundsBeginEnd_23922 9 = .ok (.pop, 1) := by decide +kernel
theorem dJ0_checkBoundsBeginEnd_23922_10 : decode cJ0_checkBoundsBeginEnd_23922 10 = .ok (.return_, 1) := by decide +kernel
theorem dJ1_charAt_3b067_0 : decode cJ1_charAt_3b067 0 = .ok (.iload_n 1, 1) := by decide +kernel
theorem dJ1_charAt_3b067_1 : decode cJ1_charAt_3b067 1 = .ok (.aload_n 0, 1) := by decide +kernel
theorem dJ1_charAt_3b067_2 : decode cJ1_charAt_3b067 2 = .ok (.arraylength, 1) := by decide +kernel
theorem dJ1_charAt_3b067_3 : decode cJ1_charAt_3b067 3 = .ok (.invokestatic 9, 3) := by decide +kernel
theorem dJ1_charAt_3b067_6 : decode cJ1_charAt_3b067 6 = .ok (.aload_n 0, 1) := by decide +kernel
theorem dJ1_charAt_3b067_7 : decode cJ1_charAt_3b067 7 = .ok (.iload_n 1, 1) := by decide +kernel
theorem dJ1_charAt_3b067_8 : decode cJ1_charAt_3b067 8 = .ok (.baload, 1) := by decide +kernel
theorem dJ1_charAt_3b067_9 : decode cJ1_charAt_3b067 9 = .ok (.sipush 255, 3) := by decide +kernel
theorem dJ1_charAt_3b067_12 : decode cJ1_charAt_3b067 12 = .ok (.iand, 1) := by decide +kernel
theorem dJ1_charAt_3b067_13 : decode cJ1_charAt_3b067 13 = .ok (.i2c, 1) := by decide +kernel
theorem dJ1_charAt_3b067_14 : decode cJ1_charAt_3b067 14 = .ok (.ireturn, 1) := by decide +kernel
theorem dJ1_canEncode_9a6ad_0 : decode cJ1_canEncode_9a6ad 0 = .ok (.iload_n 0, 1) := by decide +kernel
theorem dJ1_canEncode_9a6ad_1 : decode cJ1_canEncode_9a6ad 1 = .ok (.ifCond .lt 14, 3) := by decide +kernel
theorem dJ1_canEncode_9a6ad_4 : decode cJ1_canEncode_9a6ad 4 = .ok (.iload_n 0, 1) := by decide +kernel
theorem dJ1_canEncode_9a6ad_5 : decode cJ1_canEncode_9a6ad 5 = .ok (.sipush 255, 3) := by decide +kernel
theorem dJ1_canEncode_9a6ad_8 : decode cJ1_canEncode_9a6ad 8 = .ok (.if_icmp .gt 7, 3) := by decide +kernel
theorem dJ1_canEncode_9a6ad_11 : decode cJ1_canEncode_9a6ad 11 = .ok (.iconst 1, 1) := by decide +kernel
theorem dJ1_canEncode_9a6ad_12 : decode cJ1_canEncode_9a6ad 12 = .ok (.goto 4, 3) := by decide +kernel
theorem dJ1_canEncode_9a6ad_15 : decode cJ1_canEncode_9a6ad 15 = .ok (.iconst 0, 1) := by decide +kernel
theorem dJ1_canEncode_9a6ad_16 : decode cJ1_canEncode_9a6ad 16 = .ok (.ireturn, 1) := by decide +kernel
theorem dJ1_indexOf_4cfef_0 : decode cJ1_indexOf_4cfef 0 = .ok (.iload_n 1, 1) := by decide +kernel
theorem dJ1_indexOf_4cfef_1 : decode cJ1_indexOf_4cfef 1 = .ok (.invokestatic 88, 3) := by decide +kernel
theorem dJ1_indexOf_4cfef_4 : decode cJ1_indexOf_4cfef 4 = .ok (.ifCond .ne 5, 3) := by decide +kernel
theorem dJ1_indexOf_4cfef_7 : decode cJ1_indexOf_4cfef 7 = .ok (.iconst (-1), 1) := by decide +kernel
theorem dJ1_indexOf_4cfef_8 : decode cJ1_indexOf_4cfef 8 = .ok (.ireturn, 1) := by decide +kernel
theorem dJ1_indexOf_4cfef_9 : decode cJ1_indexOf_4cfef 9 = .ok (.iload_n 2, 1) := by decide +kernel
theorem dJ1_indexOf_4cfef_10 : decode cJ1_indexOf_4cfef 10 = .ok (.iconst 0, 1) := by decide +kernel
theorem dJ1_indexOf_4cfef_11 : decode cJ1_indexOf_4cfef 11 = .ok (.invokestatic 92, 3) := by decide +kernel
theorem dJ1_indexOf_4cfef_14 : decode cJ1_indexOf_4cfef 14 = .ok (.istore_n 2, 1) := by decide +kernel
theorem dJ1_indexOf_4cfef_15 : decode cJ1_indexOf_4cfef 15 = .ok (.iload_n 3, 1) := by decide +kernel
theorem dJ1_indexOf_4cfef_16 : decode cJ1_indexOf_4cfef 16 = .ok (.aload_n 0, 1) := by decide +kernel
theorem dJ1_indexOf_4cfef_17 : decode cJ1_indexOf_4cfef 17 = .ok (.arraylength, 1) := by decide +kernel
theorem dJ1_indexOf_4cfef_18 : decode cJ1_indexOf_4cfef 18 = .ok (.invokestatic 38, 3) := by decide +kernel
theorem dJ1_indexOf_4cfef_21 : decode cJ1_indexOf_4cfef 21 = .ok (.istore_n 3, 1) := by decide +kernel
theorem dJ1_indexOf_4cfef_22 : decode cJ1_indexOf_4cfef 22 = .ok (.iload_n 2, 1) := by decide +kernel
theorem dJ1_indexOf_4cfef_23 : decode cJ1_indexOf_4cfef 23 = .ok (.iload_n 3, 1) := by decide +kernel
theorem dJ1_indexOf_4cfef_24 : decode cJ1_indexOf_4cfef 24 = .ok (.if_icmp .lt 5, 3) := by decide +kernel
theorem dJ1_indexOf_4cfef_27 : decode cJ1_indexOf_4cfef 27 = .ok (.iconst (-1), 1) := by decide +kernel
theorem dJ1_indexOf_4cfef_28 : decode cJ1_indexOf_4cfef 28 = .ok (.ireturn, 1) := by decide +kernel
theorem dJ1_indexOf_4cfef_29 : decode cJ1_indexOf_4cfef 29 = .ok (.aload_n 0, 1) := by decide +kernel
theorem dJ1_indexOf_4cfef_30 : decode cJ1_indexOf_4cfef 30 = .ok (.iload_n 1, 1) := by decide +kernel
theorem dJ1_indexOf_4cfef_31 : decode cJ1_indexOf_4cfef 31 = .ok (.iload_n 2, 1) := by decide +kernel
theorem dJ1_indexOf_4cfef_32 : decode cJ1_indexOf_4cfef 32 = .ok (.iload_n 3, 1) := by decide +kernel
theorem dJ1_indexOf_4cfef_33 : decode cJ1_indexOf_4cfef 33 = .ok (.invokestatic 95, 3) := by decide +kernel
theorem dJ1_indexOf_4cfef_36 : decode cJ1_indexOf_4cfef 36 = .ok (.ireturn, 1) := by decide +kernel
theorem dJ1_indexOfChar_4cfef_0 : decode cJ1_indexOfChar_4cfef 0 = .ok (.iload_n 1, 1) := by decide +kernel
theorem dJ1_indexOfChar_4cfef_1 : decode cJ1_indexOfChar_4cfef 1 = .ok (.i2b, 1) := by decide +kernel
theorem dJ1_indexOfChar_4cfef_2 : decode cJ1_indexOfChar_4cfef 2 = .ok (.istore 4, 2) := by decide +kernel
theorem dJ1_indexOfChar_4cfef_4 : decode cJ1_indexOfChar_4cfef 4 = .ok (.iload_n 2, 1) := by decide +kernel
theorem dJ1_indexOfChar_4cfef_5 : decode cJ1_indexOfChar_4cfef 5 = .ok (.istore 5, 2) := by decide +kernel
theorem dJ1_indexOfChar_4cfef_7 : decode cJ1_indexOfChar_4cfef 7 = .ok (.iload 5, 2) := by decide +kernel
theorem dJ1_indexOfChar_4cfef_9 : decode cJ1_indexOfChar_4cfef 9 = .ok (.iload_n 3, 1) := by decide +kernel
theorem dJ1_indexOfChar_4cfef_10 : decode cJ1_indexOfChar_4cfef 10 = .ok (.if_icmp .ge 21, 3) := by decide +kernel
theorem dJ1_indexOfChar_4cfef_13 : decode cJ1_indexOfChar_4cfef 13 = .ok (.aload_n 0, 1) := by decide +kernel
theorem dJ1_indexOfChar_4cfef_14 : decode cJ1_indexOfChar_4cfef 14 = .ok (.iload 5, 2) := by decide +kernel
theorem dJ1_indexOfChar_4cfef_16 : decode cJ1_indexOfChar_4cfef 16 = .ok (.baload, 1) := by decide +kernel
theorem dJ1_indexOfChar_4cfef_17 : decode cJ1_indexOfChar_4cfef 17 = .ok (.iload 4, 2) := by decide +kernel
theorem dJ1_indexOfChar_4cfef_19 : decode cJ1_indexOfChar_4cfef 19 = .ok (.if_icmp .ne 6, 3) := by decide +kernel
theorem dJ1_indexOfChar_4cfef_22 : decode cJ1_indexOfChar_4cfef 22 = .ok (.iload 5, 2) := by decide +kernel
theorem dJ1_indexOfChar_4cfef_24 : decode cJ1_indexOfChar_4cfef 24 = .ok (.ireturn, 1) := by decide +kernel
theorem dJ1_indexOfChar_4cfef_25 : decode cJ1_indexOfChar_4cfef 25 = .ok (.iinc 5 1, 3) := by decide +kernel
theorem dJ1_indexOfChar_4cfef_28 : decode cJ1_indexOfChar_4cfef 28 = .ok (.goto (-21), 3) := by decide +kernel
theorem dJ1_indexOfChar_4cfef_31 : decode cJ1_indexOfChar_4cfef 31 = .ok (.iconst (-1), 1) := by decide +kernel
theorem dJ1_indexOfChar_4cfef_32 : decode cJ1_indexOfChar_4cfef 32 = .ok (.ireturn, 1) := by decide +kernel
theorem dJ2_getChar_3b067_0 : decode cJ2_getChar_3b067 0 = .ok (.getstatic 44, 3) := by decide +kernel
theorem dJ2_getChar_3b067_3 : decode cJ2_getChar_3b067 3 = .ok (.ifCond .ne 25, 3) := by decide +kernel
theorem dJ2_getChar_3b067_6 : decode cJ2_getChar_3b067 6 = .ok (.iload_n 1, 1) := by decide +kernel
theorem dJ2_getChar_3b067_7 : decode cJ2_getChar_3b067 7 = .ok (.ifCond .lt 11, 3) := by decide +kernel
theorem dJ2_getChar_3b067_10 : decode cJ2_getChar_3b067 10 = .ok (.iload_n 1, 1) := by decide +kernel
theorem dJ2_getChar_3b067_11 : decode cJ2_getChar_3b067 11 = .ok (.aload_n 0, 1) := by decide +kernel
theorem dJ2_getChar_3b067_12 : decode cJ2_getChar_3b067 12 = .ok (.invokestatic 48, 3) := by decide +kernel
theorem dJ2_getChar_3b067_15 : decode cJ2_getChar_3b067 15 = .ok (.if_icmp .lt 13, 3) := by decide +kernel
theorem dJ2_getChar_3b067_18 : decode cJ2_getChar_3b067 18 = .ok (.new 52, 3) := by decide +kernel
theorem dJ2_getChar_3b067_21 : decode cJ2_getChar_3b067 21 = .ok (.dup, 1) := by decide +kernel
theorem dJ2_getChar_3b067_22 : decode cJ2_getChar_3b067 22 = .ok (.ldc 54, 2) := by decide +kernel
theorem dJ2_getChar_3b067_24 : decode cJ2_getChar_3b067 24 = .ok (.invokespecial 56, 3) := by decide +kernel
theorem dJ2_getChar_3b067_27 : decode cJ2_getChar_3b067 27 = .ok (.athrow, 1) := by decide +kernel
theorem dJ2_getChar_3b067_28 : decode cJ2_getChar_3b067 28 = .ok (.iload_n 1, 1) := by decide +kernel
theorem dJ2_getChar_3b067_29 : decode cJ2_getChar_3b067 29 = .ok (.iconst 1, 1) := by decide +kernel
theorem dJ2_getChar_3b067_30 : decode cJ2_getChar_3b067 30 = .ok (.ishl, 1) := by decide +kernel
theorem dJ2_getChar_3b067_31 : decode cJ2_getChar_3b067 31 = .ok (.istore_n 1, 1) := by decide +kernel
theorem dJ2_getChar_3b067_32 : decode cJ2_getChar_3b067 32 = .ok (.aload_n 0, 1) := by decide +kernel
theorem dJ2_getChar_3b067_33 : decode cJ2_getChar_3b067 33 = .ok (.iload_n 1, 1) := by decide +kernel
theorem dJ2_getChar_3b067_34 : decode cJ2_getChar_3b067 34 = .ok (.iinc 1 1, 3) := by decide +kernel
theorem dJ2_getChar_3b067_37 : decode cJ2_getChar_3b067 37 = .ok (.baload, 1) := by decide +kernel
theorem dJ2_getChar_3b067_38 : decode cJ2_getChar_3b067 38 = .ok (.sipush 255, 3) := by decide +kernel
theorem dJ2_getChar_3b067_41 : decode cJ2_getChar_3b067 41 = .ok (.iand, 1) := by decide +kernel
theorem dJ2_getChar_3b067_42 : decode cJ2_getChar_3b067 42 = .ok (.getstatic 59, 3) := by decide +kernel
theorem dJ2_getChar_3b067_45 : decode cJ2_getChar_3b067 45 = .ok (.ishl, 1) := by decide +kernel
theorem dJ2_getChar_3b067_46 : decode cJ2_getChar_3b067 46 = .ok (.aload_n 0, 1) := by decide +kernel
theorem dJ2_getChar_3b067_47 : decode cJ2_getChar_3b067 47 = .ok (.iload_n 1, 1) := by decide +kernel
theorem dJ2_getChar_3b067_48 : decode cJ2_getChar_3b067 48 = .ok (.baload, 1) := by decide +kernel
theorem dJ2_getChar_3b067_49 : decode cJ2_getChar_3b067 49 = .ok (.sipush 255, 3) := by decide +kernel
theorem dJ2_getChar_3b067_52 : decode cJ2_getChar_3b067 52 = .ok (.iand, 1) := by decide +kernel
theorem dJ2_getChar_3b067_53 : decode cJ2_getChar_3b067 53 = .ok (.getstatic 63, 3) := by decide +kernel
theorem dJ2_getChar_3b067_56 : decode cJ2_getChar_3b067 56 = .ok (.ishl, 1) := by decide +kernel
theorem dJ2_getChar_3b067_57 : decode cJ2_getChar_3b067 57 = .ok (.ior, 1) := by decide +kernel
theorem dJ2_getChar_3b067_58 : decode cJ2_getChar_3b067 58 = .ok (.i2c, 1) := by decide +kernel
theorem dJ2_getChar_3b067_59 : decode cJ2_getChar_3b067 59 = .ok (.ireturn, 1) := by decide +kernel
theorem dJ2_length_9d52b_0 : decode cJ2_length_9d52b 0 = .ok (.aload_n 0, 1) := by decide +kernel
theorem dJ2_length_9d52b_1 : decode cJ2_length_9d52b 1 = .ok (.arraylength, 1) := by decide +kernel
theorem dJ2_length_9d52b_2 : decode cJ2_length_9d52b 2 = .ok (.iconst 1, 1) := by decide +kernel
theorem dJ2_length_9d52b_3 : decode cJ2_length_9d52b 3 = .ok (.ishr, 1) := by decide +kernel
theorem dJ2_length_9d52b_4 : decode cJ2_length_9d52b 4 = .ok (.ireturn, 1) := by decide +kernel
theorem dJ2_indexOf_4cfef_0 : decode cJ2_indexOf_4cfef 0 = .ok (.iload_n 2, 1) := by decide +kernel
theorem dJ2_indexOf_4cfef_1 : decode cJ2_indexOf_4cfef 1 = .ok (.iconst 0, 1) := by decide +kernel
theorem dJ2_indexOf_4cfef_2 : decode cJ2_indexOf_4cfef 2 = .ok (.invokestatic 224, 3) := by decide +kernel
theorem dJ2_indexOf_4cfef_5 : decode cJ2_indexOf_4cfef 5 = .ok (.istore_n 2, 1) := by decide +kernel
theorem dJ2_indexOf_4cfef_6 : decode cJ2_indexOf_4cfef 6 = .ok (.iload_n 3, 1) := by decide +kernel
theorem dJ2_indexOf_4cfef_7 : decode cJ2_indexOf_4cfef 7 = .ok (.aload_n 0, 1) := by decide +kernel
theorem dJ2_indexOf_4cfef_8 : decode cJ2_indexOf_4cfef 8 = .ok (.arraylength, 1) := by decide +kernel
theorem dJ2_indexOf_4cfef_9 : decode cJ2_indexOf_4cfef 9 = .ok (.iconst 1, 1) := by decide +kernel
theorem dJ2_indexOf_4cfef_10 : decode cJ2_indexOf_4cfef 10 = .ok (.ishr, 1) := by decide +kernel
theorem dJ2_indexOf_4cfef_11 : decode cJ2_indexOf_4cfef 11 = .ok (.invokestatic 183, 3) := by decide +kernel
theorem dJ2_indexOf_4cfef_14 : decode cJ2_indexOf_4cfef 14 = .ok (.istore_n 3, 1) := by decide +kernel
theorem dJ2_indexOf_4cfef_15 : decode cJ2_indexOf_4cfef 15 = .ok (.iload_n 2, 1) := by decide +kernel
theorem dJ2_indexOf_4cfef_16 : decode cJ2_indexOf_4cfef 16 = .ok (.iload_n 3, 1) := by decide +kernel
theorem dJ2_indexOf_4cfef_17 : decode cJ2_indexOf_4cfef 17 = .ok (.if_icmp .lt 5, 3) := by decide +kernel
theorem dJ2_indexOf_4cfef_20 : decode cJ2_indexOf_4cfef 20 = .ok (.iconst (-1), 1) := by decide +kernel
theorem dJ2_indexOf_4cfef_21 : decode cJ2_indexOf_4cfef 21 = .ok (.ireturn, 1) := by decide +kernel
theorem dJ2_indexOf_4cfef_22 : decode cJ2_indexOf_4cfef 22 = .ok (.iload_n 1, 1) := by decide +kernel
theorem dJ2_indexOf_4cfef_23 : decode cJ2_indexOf_4cfef 23 = .ok (.ldc 227, 2) := by decide +kernel
theorem dJ2_indexOf_4cfef_25 : decode cJ2_indexOf_4cfef 25 = .ok (.if_icmp .ge 11, 3) := by decide +kernel
theorem dJ2_indexOf_4cfef_28 : decode cJ2_indexOf_4cfef 28 = .ok (.aload_n 0, 1) := by decide +kernel
theorem dJ2_indexOf_4cfef_29 : decode cJ2_indexOf_4cfef 29 = .ok (.iload_n 1, 1) := by decide +kernel
theorem dJ2_indexOf_4cfef_30 : decode cJ2_indexOf_4cfef 30 = .ok (.iload_n 2, 1) := by decide +kernel
theorem dJ2_indexOf_4cfef_31 : decode cJ2_indexOf_4cfef 31 = .ok (.iload_n 3, 1) := by decide +kernel
theorem dJ2_indexOf_4cfef_32 : decode cJ2_indexOf_4cfef 32 = .ok (.invokestatic 228, 3) := by decide +kernel
theorem dJ2_indexOf_4cfef_35 : decode cJ2_indexOf_4cfef 35 = .ok (.ireturn, 1) := by decide +kernel
theorem dJ2_indexOf_4cfef_36 : decode cJ2_indexOf_4cfef 36 = .ok (.aload_n 0, 1) := by decide +kernel
theorem dJ2_indexOf_4cfef_37 : decode cJ2_indexOf_4cfef 37 = .ok (.iload_n 1, 1) := by decide +kernel
theorem dJ2_indexOf_4cfef_38 : decode cJ2_indexOf_4cfef 38 = .ok (.iload_n 2, 1) := by decide +kernel
theorem dJ2_indexOf_4cfef_39 : decode cJ2_indexOf_4cfef 39 = .ok (.iload_n 3, 1) := by decide +kernel
theorem dJ2_indexOf_4cfef_40 : decode cJ2_indexOf_4cfef 40 = .ok (.invokestatic 232, 3) := by decide +kernel
theorem dJ2_indexOf_4cfef_43 : decode cJ2_indexOf_4cfef 43 = .ok (.ireturn, 1) := by decide +kernel
theorem dJ2_indexOfChar_4cfef_0 : decode cJ2_indexOfChar_4cfef 0 = .ok (.iload_n 2, 1) := by decide +kernel
theorem dJ2_indexOfChar_4cfef_1 : decode cJ2_indexOfChar_4cfef 1 = .ok (.iload_n 3, 1) := by decide +kernel
theorem dJ2_indexOfChar_4cfef_2 : decode cJ2_indexOfChar_4cfef 2 = .ok (.aload_n 0, 1) := by decide +kernel
theorem dJ2_indexOfChar_4cfef_3 : decode cJ2_indexOfChar_4cfef 3 = .ok (.invokestatic 96, 3) := by decide +kernel
theorem dJ2_indexOfChar_4cfef_6 : decode cJ2_indexOfChar_4cfef 6 = .ok (.aload_n 0, 1) := by decide +kernel
theorem dJ2_indexOfChar_4cfef_7 : decode cJ2_indexOfChar_4cfef 7 = .ok (.iload_n 1, 1) := by decide +kernel
theorem dJ2_indexOfChar_4cfef_8 : decode cJ2_indexOfChar_4cfef 8 = .ok (.iload_n 2, 1) := by decide +kernel
theorem dJ2_indexOfChar_4cfef_9 : decode cJ2_indexOfChar_4cfef 9 = .ok (.iload_n 3, 1) := by decide +kernel
theorem dJ2_indexOfChar_4cfef_10 : decode cJ2_indexOfChar_4cfef 10 = .ok (.invokestatic 244, 3) := by decide +kernel
theorem dJ2_indexOfChar_4cfef_13 : decode cJ2_indexOfChar_4cfef 13 = .ok (.ireturn, 1) := by decide +kernel
theorem dJ2_indexOfCharUnsafe_4cfef_0 : decode cJ2_indexOfCharUnsafe_4cfef 0 = .ok (.iload_n 2, 1) := by decide +kernel
theorem dJ2_indexOfCharUnsafe_4cfef_1 : decode cJ2_indexOfCharUnsafe_4cfef 1 = .ok (.istore 4, 2) := by decide +kernel
theorem dJ2_indexOfCharUnsafe_4cfef_3 : decode cJ2_indexOfCharUnsafe_4cfef 3 = .ok (.iload 4, 2) := by decide +kernel
theorem dJ2_indexOfCharUnsafe_4cfef_5 : decode cJ2_indexOfCharUnsafe_4cfef 5 = .ok (.iload_n 3, 1) := by decide +kernel
theorem dJ2_indexOfCharUnsafe_4cfef_6 : decode cJ2_indexOfCharUnsafe_4cfef 6 = .ok (.if_icmp .ge 22, 3) := by decide +kernel
theorem dJ2_indexOfCharUnsafe_4cfef_9 : decode cJ2_indexOfCharUnsafe_4cfef 9 = .ok (.aload_n 0, 1) := by decide +kernel
theorem dJ2_indexOfCharUnsafe_4cfef_10 : decode cJ2_indexOfCharUnsafe_4cfef 10 = .ok (.iload 4, 2) := by decide +kernel
theorem dJ2_indexOfCharUnsafe_4cfef_12 : decode cJ2_indexOfCharUnsafe_4cfef 12 = .ok (.invokestatic 71, 3) := by decide +kernel
theorem dJ2_indexOfCharUnsafe_4cfef_15 : decode cJ2_indexOfCharUnsafe_4cfef 15 = .ok (.iload_n 1, 1) := by decide +kernel
theorem dJ2_indexOfCharUnsafe_4cfef_16 : decode cJ2_indexOfCharUnsafe_4cfef 16 = .ok (.if_icmp .ne 6, 3) := by decide +kernel
theorem dJ2_indexOfCharUnsafe_4cfef_19 : decode cJ2_indexOfCharUnsafe_4cfef 19 = .ok (.iload 4, 2) := by decide +kernel
theorem dJ2_indexOfCharUnsafe_4cfef_21 : decode cJ2_indexOfCharUnsafe_4cfef 21 = .ok (.ireturn, 1) := by decide +kernel
theorem dJ2_indexOfCharUnsafe_4cfef_22 : decode cJ2_indexOfCharUnsafe_4cfef 22 = .ok (.iinc 4 1, 3) := by decide +kernel
theorem dJ2_indexOfCharUnsafe_4cfef_25 : decode cJ2_indexOfCharUnsafe_4cfef 25 = .ok (.goto (-22), 3) := by decide +kernel
theorem dJ2_indexOfCharUnsafe_4cfef_28 : decode cJ2_indexOfCharUnsafe_4cfef 28 = .ok (.iconst (-1), 1) := by decide +kernel
theorem dJ2_indexOfCharUnsafe_4cfef_29 : decode cJ2_indexOfCharUnsafe_4cfef 29 = .ok (.ireturn, 1) := by decide +kernel
theorem dJ2_indexOfSupplementary_4cfef_0 : decode cJ2_indexOfSupplementary_4cfef 0 = .ok (.iload_n 1, 1) := by decide +kernel
theorem dJ2_indexOfSupplementary_4cfef_1 : decode cJ2_indexOfSupplementary_4cfef 1 = .ok (.invokestatic 164, 3) := by decide +kernel
theorem dJ2_indexOfSupplementary_4cfef_4 : decode cJ2_indexOfSupplementary_4cfef 4 = .ok (.ifCond .eq 65, 3) := by decide +kernel
theorem dJ2_indexOfSupplementary_4cfef_7 : decode cJ2_indexOfSupplementary_4cfef 7 = .ok (.iload_n 1, 1) := by decide +kernel
theorem dJ2_indexOfSupplementary_4cfef_8 : decode cJ2_indexOfSupplementary_4cfef 8 = .ok (.invokestatic 157, 3) := by decide +kernel
theorem dJ2_indexOfSupplementary_4cfef_11 : decode cJ2_indexOfSupplementary_4cfef 11 = .ok (.istore 4, 2) := by decide +kernel
theorem dJ2_indexOfSupplementary_4cfef_13 : decode cJ2_indexOfSupplementary_4cfef 13 = .ok (.iload_n 1, 1) := by decide +kernel
theorem dJ2_indexOfSupplementary_4cfef_14 : decode cJ2_indexOfSupplementary_4cfef 14 = .ok (.invokestatic 161, 3) := by decide +kernel
theorem dJ2_indexOfSupplementary_4cfef_17 : decode cJ2_indexOfSupplementary_4cfef 17 = .ok (.istore 5, 2) := by decide +kernel
theorem dJ2_indexOfSupplementary_4cfef_19 : decode cJ2_indexOfSupplementary_4cfef 19 = .ok (.iload_n 2, 1) := by decide +kernel
theorem dJ2_indexOfSupplementary_4cfef_20 : decode cJ2_indexOfSupplementary_4cfef 20 = .ok (.iload_n 3, 1) := by decide +kernel
theorem dJ2_indexOfSupplementary_4cfef_21 : decode cJ2_indexOfSupplementary_4cfef 21 = .ok (.aload_n 0, 1) := by decide +kernel
theorem dJ2_indexOfSupplementary_4cfef_22 : decode cJ2_indexOfSupplementary_4cfef 22 = .ok (.invokestatic 96, 3) := by decide +kernel
theorem dJ2_indexOfSupplementary_4cfef_25 : decode cJ2_indexOfSupplementary_4cfef 25 = .ok (.iload_n 2, 1) := by decide +kernel
theorem dJ2_indexOfSupplementary_4cfef_26 : decode cJ2_indexOfSupplementary_4cfef 26 = .ok (.istore 6, 2) := by decide +kernel
theorem dJ2_indexOfSupplementary_4cfef_28 : decode cJ2_indexOfSupplementary_4cfef 28 = .ok (.iload 6, 2) := by decide +kernel
theorem dJ2_indexOfSupplementary_4cfef_30 : decode cJ2_indexOfSupplementary_4cfef 30 = .ok (.iload_n 3, 1) := by decide +kernel
theorem dJ2_indexOfSupplementary_4cfef_31 : decode cJ2_indexOfSupplementary_4cfef 31 = .ok (.iconst 1, 1) := by decide +kernel
theorem dJ2_indexOfSupplementary_4cfef_32 : decode cJ2_indexOfSupplementary_4cfef 32 = .ok (.isub, 1) := by decide +kernel
theorem dJ2_indexOfSupplementary_4cfef_33 : decode cJ2_indexOfSupplementary_4cfef 33 = .ok (.if_icmp .ge 36, 3) := by decide +kernel
theorem dJ2_indexOfSupplementary_4cfef_36 : decode cJ2_indexOfSupplementary_4cfef 36 = .ok (.aload_n 0, 1) := by decide +kernel
theorem dJ2_indexOfSupplementary_4cfef_37 : decode cJ2_indexOfSupplementary_4cfef 37 = .ok (.iload 6, 2) := by decide +kernel
theorem dJ2_indexOfSupplementary_4cfef_39 : decode cJ2_indexOfSupplementary_4cfef 39 = .ok (.invokestatic 71, 3) := by decide +kernel
theorem dJ2_indexOfSupplementary_4cfef_42 : decode cJ2_indexOfSupplementary_4cfef 42 = .ok (.iload 4, 2) := by decide +kernel
theorem dJ2_indexOfSupplementary_4cfef_44 : decode cJ2_indexOfSupplementary_4cfef 44 = .ok (.if_icmp .ne 19, 3) := by decide +kernel
theorem dJ2_indexOfSupplementary_4cfef_47 : decode cJ2_indexOfSupplementary_4cfef 47 = .ok (.aload_n 0, 1) := by decide +kernel
theorem dJ2_indexOfSupplementary_4cfef_48 : decode cJ2_indexOfSupplementary_4cfef 48 = .ok (.iload 6, 2) := by decide +kernel
theorem dJ2_indexOfSupplementary_4cfef_50 : decode cJ2_indexOfSupplementary_4cfef 50 = .ok (.iconst 1, 1) := by decide +kernel
theorem dJ2_indexOfSupplementary_4cfef_51 : decode cJ2_indexOfSupplementary_4cfef 51 = .ok (.iadd, 1) := by decide +kernel
theorem dJ2_indexOfSupplementary_4cfef_52 : decode cJ2_indexOfSupplementary_4cfef 52 = .ok (.invokestatic 71, 3) := by decide +kernel
theorem dJ2_indexOfSupplementary_4cfef_55 : decode cJ2_indexOfSupplementary_4cfef 55 = .ok (.iload 5, 2) := by decide +kernel
theorem dJ2_indexOfSupplementary_4cfef_57 : decode cJ2_indexOfSupplementary_4cfef 57 = .ok (.if_icmp .ne 6, 3) := by decide +kernel
theorem dJ2_indexOfSupplementary_4cfef_60 : decode cJ2_indexOfSupplementary_4cfef 60 = .ok (.iload 6, 2) := by decide +kernel
theorem dJ2_indexOfSupplementary_4cfef_62 : decode cJ2_indexOfSupplementary_4cfef 62 = .ok (.ireturn, 1) := by decide +kernel
theorem dJ2_indexOfSupplementary_4cfef_63 : decode cJ2_indexOfSupplementary_4cfef 63 = .ok (.iinc 6 1, 3) := by decide +kernel
theorem dJ2_indexOfSupplementary_4cfef_66 : decode cJ2_indexOfSupplementary_4cfef 66 = .ok (.goto (-38), 3) := by decide +kernel
theorem dJ2_indexOfSupplementary_4cfef_69 : decode cJ2_indexOfSupplementary_4cfef 69 = .ok (.iconst (-1), 1) := by decide +kernel
theorem dJ2_indexOfSupplementary_4cfef_70 : decode cJ2_indexOfSupplementary_4cfef 70 = .ok (.ireturn, 1) := by decide +kernel
theorem dJ2_charAt_3b067_0 : decode cJ2_charAt_3b067 0 = .ok (.iload_n 1, 1) := by decide +kernel
theorem dJ2_charAt_3b067_1 : decode cJ2_charAt_3b067 1 = .ok (.aload_n 0, 1) := by decide +kernel
theorem dJ2_charAt_3b067_2 : decode cJ2_charAt_3b067 2 = .ok (.invokestatic 67, 3) := by decide +kernel
theorem dJ2_charAt_3b067_5 : decode cJ2_charAt_3b067 5 = .ok (.aload_n 0, 1) := by decide +kernel
theorem dJ2_charAt_3b067_6 : decode cJ2_charAt_3b067 6 = .ok (.iload_n 1, 1) := by decide +kernel
theorem dJ2_charAt_3b067_7 : decode cJ2_charAt_3b067 7 = .ok (.invokestatic 71, 3) := by decide +kernel
theorem dJ2_charAt_3b067_10 : decode cJ2_charAt_3b067 10 = .ok (.ireturn, 1) := by decide +kernel
theorem dJ2_checkIndex_2214a_0 : decode cJ2_checkIndex_2214a 0 = .ok (.iload_n 0, 1) := by decide +kernel
theorem dJ2_checkIndex_2214a_1 : decode cJ2_checkIndex_2214a 1 = .ok (.aload_n 1, 1) := by decide +kernel
theorem dJ2_checkIndex_2214a_2 : decode cJ2_checkIndex_2214a 2 = .ok (.invokestatic 48, 3) := by decide +kernel
theorem dJ2_checkIndex_2214a_5 : decode cJ2_checkIndex_2214a 5 = .ok (.invokestatic 414, 3) := by decide +kernel
theorem dJ2_checkIndex_2214a_8 : decode cJ2_checkIndex_2214a 8 = .ok (.return_, 1) := by decide +kernel
theorem dJ2_checkBoundsBeginEnd_d044e_0 : decode cJ2_checkBoundsBeginEnd_d044e 0 = .ok (.iload_n 0, 1) := by decide +kernel
theorem dJ2_checkBoundsBeginEnd_d044e_1 : decode cJ2_checkBoundsBeginEnd_d044e 1 = .ok (.iload_n 1, 1) := by decide +kernel
theorem dJ2_checkBoundsBeginEnd_d044e_2 : decode cJ2_checkBoundsBeginEnd_d044e 2 = .ok (.aload_n 2, 1) := by decide +kernel
theorem dJ2_checkBoundsBeginEnd_d044e_3 : decode cJ2_checkBoundsBeginEnd_d044e 3 = .ok (.invokestatic 48, 3) := by decide +kernel
theorem dJ2_checkBoundsBeginEnd_d044e_6 : decode cJ2_checkBoundsBeginEnd_d044e 6 = .ok (.invokestatic 241, 3) := by decide +kernel
theorem dJ2_checkBoundsBeginEnd_d044e_9 : decode cJ2_checkBoundsBeginEnd_d044e 9 = .ok (.return_, 1) := by decide +kernel
theorem dJ7_fill_d0a16_0 : decode cJ7_fill_d0a16 0 = .ok (.iconst 0, 1) := by decide +kernel
theorem dJ7_fill_d0a16_1 : decode cJ7_fill_d0a16 1 = .ok (.istore_n 3, 1) := by decide +kernel
theorem dJ7_fill_d0a16_2 : decode cJ7_fill_d0a16 2 = .ok (.aload_n 0, 1) := by decide +kernel
theorem dJ7_fill_d0a16_3 : decode cJ7_fill_d0a16 3 = .ok (.arraylength, 1) := by decide +kernel
theorem dJ7_fill_d0a16_4 : decode cJ7_fill_d0a16 4 = .ok (.istore 4, 2) := by decide +kernel
theorem dJ7_fill_d0a16_6 : decode cJ7_fill_d0a16 6 = .ok (.iload_n 3, 1) := by decide +kernel
theorem dJ7_fill_d0a16_7 : decode cJ7_fill_d0a16 7 = .ok (.iload 4, 2) := by decide +kernel
theorem dJ7_fill_d0a16_9 : decode cJ7_fill_d0a16 9 = .ok (.if_icmp .ge 13, 3) := by decide +kernel
theorem dJ7_fill_d0a16_12 : decode cJ7_fill_d0a16 12 = .ok (.aload_n 0, 1) := by decide +kernel
theorem dJ7_fill_d0a16_13 : decode cJ7_fill_d0a16 13 = .ok (.iload_n 3, 1) := by decide +kernel
theorem dJ7_fill_d0a16_14 : decode cJ7_fill_d0a16 14 = .ok (.lload_n 1, 1) := by decide +kernel
theorem dJ7_fill_d0a16_15 : decode cJ7_fill_d0a16 15 = .ok (.lastore, 1) := by decide +kernel
theorem dJ7_fill_d0a16_16 : decode cJ7_fill_d0a16 16 = .ok (.iinc 3 1, 3) := by decide +kernel
theorem dJ7_fill_d0a16_19 : decode cJ7_fill_d0a16 19 = .ok (.goto (-13), 3) := by decide +kernel
theorem dJ7_fill_d0a16_22 : decode cJ7_fill_d0a16 22 = .ok (.return_, 1) := by decide +kernel
theorem dJ7_fill_53178_0 : decode cJ7_fill_53178 0 = .ok (.iconst 0, 1) := by decide +kernel
theorem dJ7_fill_53178_1 : decode cJ7_fill_53178 1 = .ok (.istore_n 2, 1) := by decide +kernel
theorem dJ7_fill_53178_2 : decode cJ7_fill_53178 2 = .ok (.aload_n 0, 1) := by decide +kernel
theorem dJ7_fill_53178_3 : decode cJ7_fill_53178 3 = .ok (.arraylength, 1) := by decide +kernel
theorem dJ7_fill_53178_4 : decode cJ7_fill_53178 4 = .ok (.istore_n 3, 1) := by decide +kernel
theorem dJ7_fill_53178_5 : decode cJ7_fill_53178 5 = .ok (.iload_n 2, 1) := by decide +kernel
theorem dJ7_fill_53178_6 : decode cJ7_fill_53178 6 = .ok (.iload_n 3, 1) := by decide +kernel
theorem dJ7_fill_53178_7 : decode cJ7_fill_53178 7 = .ok (.if_icmp .ge 13, 3) := by decide +kernel
theorem dJ7_fill_53178_10 : decode cJ7_fill_53178 10 = .ok (.aload_n 0, 1) := by decide +kernel
theorem dJ7_fill_53178_11 : decode cJ7_fill_53178 11 = .ok (.iload_n 2, 1) := by decide +kernel
theorem dJ7_fill_53178_12 : decode cJ7_fill_53178 12 = .ok (.iload_n 1, 1) := by decide +kernel
theorem dJ7_fill_53178_13 : decode cJ7_fill_53178 13 = .ok (.iastore, 1) := by decide +kernel
theorem dJ7_fill_53178_14 : decode cJ7_fill_53178 14 = .ok (.iinc 2 1, 3) := by decide +kernel
theorem dJ7_fill_53178_17 : decode cJ7_fill_53178 17 = .ok (.goto (-12), 3) := by decide +kernel
theorem dJ7_fill_53178_20 : decode cJ7_fill_53178 20 = .ok (.return_, 1) := by decide +kernel
theorem dJ3_checkIndex_8e157_0 : decode cJ3_checkIndex_8e157 0 = .ok (.iload_n 0, 1) := by decide +kernel
theorem dJ3_checkIndex_8e157_1 : decode cJ3_checkIndex_8e157 1 = .ok (.ifCond .lt 8, 3) := by decide +kernel
theorem dJ3_checkIndex_8e157_4 : decode cJ3_checkIndex_8e157 4 = .ok (.iload_n 0, 1) := by decide +kernel
theorem dJ3_checkIndex_8e157_5 : decode cJ3_checkIndex_8e157 5 = .ok (.iload_n 1, 1) := by decide +kernel
theorem dJ3_checkIndex_8e157_6 : decode cJ3_checkIndex_8e157 6 = .ok (.if_icmp .lt 10, 3) := by decide +kernel
theorem dJ3_checkIndex_8e157_9 : decode cJ3_checkIndex_8e157 9 = .ok (.aload_n 2, 1) := by decide +kernel
theorem dJ3_checkIndex_8e157_10 : decode cJ3_checkIndex_8e157 10 = .ok (.iload_n 0, 1) := by decide +kernel
theorem dJ3_checkIndex_8e157_11 : decode cJ3_checkIndex_8e157 11 = .ok (.iload_n 1, 1) := by decide +kernel
theorem dJ3_checkIndex_8e157_12 : decode cJ3_checkIndex_8e157 12 = .ok (.invokestatic 95, 3) := by decide +kernel
theorem dJ3_checkIndex_8e157_15 : decode cJ3_checkIndex_8e157 15 = .ok (.athrow, 1) := by decide +kernel
theorem dJ3_checkIndex_8e157_16 : decode cJ3_checkIndex_8e157 16 = .ok (.iload_n 0, 1) := by decide +kernel
theorem dJ3_checkIndex_8e157_17 : decode cJ3_checkIndex_8e157 17 = .ok (.ireturn, 1) := by decide +kernel
theorem dJ3_checkFromToIndex_8c36e_0 : decode cJ3_checkFromToIndex_8c36e 0 = .ok (.iload_n 0, 1) := by decide +kernel
theorem dJ3_checkFromToIndex_8c36e_1 : decode cJ3_checkFromToIndex_8c36e 1 = .ok (.ifCond .lt 13, 3) := by decide +kernel
theorem dJ3_checkFromToIndex_8c36e_4 : decode cJ3_checkFromToIndex_8c36e 4 = .ok (.iload_n 0, 1) := by decide +kernel
theorem dJ3_checkFromToIndex_8c36e_5 : decode cJ3_checkFromToIndex_8c36e 5 = .ok (.iload_n 1, 1) := by decide +kernel
theorem dJ3_checkFromToIndex_8c36e_6 : decode cJ3_checkFromToIndex_8c36e 6 = .ok (.if_icmp .gt 8, 3) := by decide +kernel
theorem dJ3_checkFromToIndex_8c36e_9 : decode cJ3_checkFromToIndex_8c36e 9 = .ok (.iload_n 1, 1) := by decide +kernel
theorem dJ3_checkFromToIndex_8c36e_10 : decode cJ3_checkFromToIndex_8c36e 10 = .ok (.iload_n 2, 1) := by decide +kernel
theorem dJ3_checkFromToIndex_8c36e_11 : decode cJ3_checkFromToIndex_8c36e 11 = .ok (.if_icmp .le 11, 3) := by decide +kernel
theorem dJ3_checkFromToIndex_8c36e_14 : decode cJ3_checkFromToIndex_8c36e 14 = .ok (.aload_n 3, 1) := by decide +kernel
theorem dJ3_checkFromToIndex_8c36e_15 : decode cJ3_checkFromToIndex_8c36e 15 = .ok (.iload_n 0, 1) := by decide +kernel
theorem dJ3_checkFromToIndex_8c36e_16 : decode cJ3_checkFromToIndex_8c36e 16 = .ok (.iload_n 1, 1) := by decide +kernel
theorem dJ3_checkFromToIndex_8c36e_17 : decode cJ3_checkFromToIndex_8c36e 17 = .ok (.iload_n 2, 1) := by decide +kernel
theorem dJ3_checkFromToIndex_8c36e_18 : decode cJ3_checkFromToIndex_8c36e 18 = .ok (.invokestatic 99, 3) := by decide +kernel
theorem dJ3_checkFromToIndex_8c36e_21 : decode cJ3_checkFromToIndex_8c36e 21 = .ok (.athrow, 1) := by decide +kernel
theorem dJ3_checkFromToIndex_8c36e_22 : decode cJ3_checkFromToIndex_8c36e 22 = .ok (.iload_n 0, 1) := by decide +kernel
theorem dJ3_checkFromToIndex_8c36e_23 : decode cJ3_checkFromToIndex_8c36e 23 = .ok (.ireturn, 1) := by decide +kernel
theorem dL_law_0 : decode cL_law 0 = .ok (.new 7, 3) := by decide +kernel
theorem dL_law_3 : decode cL_law 3 = .ok (.dup, 1) := by decide +kernel
theorem dL_law_4 : decode cL_law 4 = .ok (.invokespecial 9, 3) := by decide +kernel
theorem dL_law_7 : decode cL_law 7 = .ok (.astore_n 1, 1) := by decide +kernel
theorem dL_law_8 : decode cL_law 8 = .ok (.new 10, 3) := by decide +kernel
theorem dL_law_11 : decode cL_law 11 = .ok (.dup, 1) := by decide +kernel
theorem dL_law_12 : decode cL_law 12 = .ok (.invokespecial 12, 3) := by decide +kernel
theorem dL_law_15 : decode cL_law 15 = .ok (.astore_n 2, 1) := by decide +kernel
theorem dL_law_16 : decode cL_law 16 = .ok (.iconst 0, 1) := by decide +kernel
theorem dL_law_17 : decode cL_law 17 = .ok (.istore_n 3, 1) := by decide +kernel
theorem dL_law_18 : decode cL_law 18 = .ok (.iload_n 3, 1) := by decide +kernel
theorem dL_law_19 : decode cL_law 19 = .ok (.aload_n 0, 1) := by decide +kernel
theorem dL_law_20 : decode cL_law 20 = .ok (.arraylength, 1) := by decide +kernel
theorem dL_law_21 : decode cL_law 21 = .ok (.bipush 6, 2) := by decide +kernel
theorem dL_law_23 : decode cL_law 23 = .ok (.isub, 1) := by decide +kernel
theorem dL_law_24 : decode cL_law 24 = .ok (.if_icmp .gt 1034, 3) := by decide +kernel
theorem dL_law_27 : decode cL_law 27 = .ok (.aload_n 0, 1) := by decide +kernel
theorem dL_law_28 : decode cL_law 28 = .ok (.iload_n 3, 1) := by decide +kernel
theorem dL_law_29 : decode cL_law 29 = .ok (.iaload, 1) := by decide +kernel
theorem dL_law_30 : decode cL_law 30 = .ok (.bipush 31, 2) := by decide +kernel
theorem dL_law_32 : decode cL_law 32 = .ok (.iand, 1) := by decide +kernel
theorem dL_law_33 : decode cL_law 33 = .ok (.tableswitch 1019 0 25 #[119, 162, 205, 238, 261, 274, 297, 310, 353, 396, 419, 443, 486, 519, 562, 605, 648, 681, 735, 748, 761, 784, 827, 870, 933, 986], 119) := by decide +kernel
theorem dL_law_152 : decode cL_law 152 = .ok (.aload_n 1, 1) := by decide +kernel
theorem dL_law_153 : decode cL_law 153 = .ok (.aload_n 0, 1) := by decide +kernel
theorem dL_law_154 : decode cL_law 154 = .ok (.iload_n 3, 1) := by decide +kernel
theorem dL_law_155 : decode cL_law 155 = .ok (.iconst 1, 1) := by decide +kernel
theorem dL_law_156 : decode cL_law 156 = .ok (.iadd, 1) := by decide +kernel
theorem dL_law_157 : decode cL_law 157 = .ok (.iaload, 1) := by decide +kernel
theorem dL_law_158 : decode cL_law 158 = .ok (.aload_n 0, 1) := by decide +kernel
theorem dL_law_159 : decode cL_law 159 = .ok (.iload_n 3, 1) := by decide +kernel
theorem dL_law_160 : decode cL_law 160 = .ok (.iconst 2, 1) := by decide +kernel
theorem dL_law_161 : decode cL_law 161 = .ok (.iadd, 1) := by decide +kernel
theorem dL_law_162 : decode cL_law 162 = .ok (.iaload, 1) := by decide +kernel
theorem dL_law_163 : decode cL_law 163 = .ok (.aload_n 0, 1) := by decide +kernel
theorem dL_law_164 : decode cL_law 164 = .ok (.iload_n 3, 1) := by decide +kernel
theorem dL_law_165 : decode cL_law 165 = .ok (.iconst 3, 1) := by decide +kernel
theorem dL_law_166 : decode cL_law 166 = .ok (.iadd, 1) := by decide +kernel
theorem dL_law_167 : decode cL_law 167 = .ok (.iaload, 1) := by decide +kernel
theorem dL_law_168 : decode cL_law 168 = .ok (.invokevirtual 13, 3) := by decide +kernel
theorem dL_law_171 : decode cL_law 171 = .ok (.aload_n 2, 1) := by decide +kernel
theorem dL_law_172 : decode cL_law 172 = .ok (.aload_n 0, 1) := by decide +kernel
theorem dL_law_173 : decode cL_law 173 = .ok (.iload_n 3, 1) := by decide +kernel
theorem dL_law_174 : decode cL_law 174 = .ok (.iconst 1, 1) := by decide +kernel
theorem dL_law_175 : decode cL_law 175 = .ok (.iadd, 1) := by decide +kernel
theorem dL_law_176 : decode cL_law 176 = .ok (.iaload, 1) := by decide +kernel
theorem dL_law_177 : decode cL_law 177 = .ok (.aload_n 0, 1) := by decide +kernel
theorem dL_law_178 : decode cL_law 178 = .ok (.iload_n 3, 1) := by decide +kernel
theorem dL_law_179 : decode cL_law 179 = .ok (.iconst 2, 1) := by decide +kernel
theorem dL_law_180 : decode cL_law 180 = .ok (.iadd, 1) := by decide +kernel
theorem dL_law_181 : decode cL_law 181 = .ok (.iaload, 1) := by decide +kernel
theorem dL_law_182 : decode cL_law 182 = .ok (.aload_n 0, 1) := by decide +kernel
theorem dL_law_183 : decode cL_law 183 = .ok (.iload_n 3, 1) := by decide +kernel
theorem dL_law_184 : decode cL_law 184 = .ok (.iconst 3, 1) := by decide +kernel
theorem dL_law_185 : decode cL_law 185 = .ok (.iadd, 1) := by decide +kernel
theorem dL_law_186 : decode cL_law 186 = .ok (.iaload, 1) := by decide +kernel
theorem dL_law_187 : decode cL_law 187 = .ok (.invokevirtual 17, 3) := by decide +kernel
theorem dL_law_190 : decode cL_law 190 = .ok (.if_icmp .eq 862, 3) := by decide +kernel
theorem dL_law_193 : decode cL_law 193 = .ok (.iconst 0, 1) := by decide +kernel
theorem dL_law_194 : decode cL_law 194 = .ok (.ireturn, 1) := by decide +kernel
theorem dL_law_195 : decode cL_law 195 = .ok (.aload_n 1, 1) := by decide +kernel
theorem dL_law_196 : decode cL_law 196 = .ok (.aload_n 0, 1) := by decide +kernel
theorem dL_law_197 : decode cL_law 197 = .ok (.iload_n 3, 1) := by decide +kernel
theorem dL_law_198 : decode cL_law 198 = .ok (.iconst 1, 1) := by decide +kernel
theorem dL_law_199 : decode cL_law 199 = .ok (.iadd, 1) := by decide +kernel
theorem dL_law_200 : decode cL_law 200 = .ok (.iaload, 1) := by decide +kernel
theorem dL_law_201 : decode cL_law 201 = .ok (.aload_n 0, 1) := by decide +kernel
theorem dL_law_202 : decode cL_law 202 = .ok (.iload_n 3, 1) := by decide +kernel
theorem dL_law_203 : decode cL_law 203 = .ok (.iconst 2, 1) := by decide +kernel
theorem dL_law_204 : decode cL_law 204 = .ok (.iadd, 1) := by decide +kernel
theorem dL_law_205 : decode cL_law 205 = .ok (.iaload, 1) := by decide +kernel
theorem dL_law_206 : decode cL_law 206 = .ok (.aload_n 0, 1) := by decide +kernel
theorem dL_law_207 : decode cL_law 207 = .ok (.iload_n 3, 1) := by decide +kernel
theorem dL_law_208 : decode cL_law 208 = .ok (.iconst 3, 1) := by decide +kernel
theorem dL_law_209 : decode cL_law 209 = .ok (.iadd, 1) := by decide +kernel
theorem dL_law_210 : decode cL_law 210 = .ok (.iaload, 1) := by decide +kernel
theorem dL_law_211 : decode cL_law 211 = .ok (.invokevirtual 18, 3) := by decide +kernel
theorem dL_law_214 : decode cL_law 214 = .ok (.aload_n 2, 1) := by decide +kernel
theorem dL_law_215 : decode cL_law 215 = .ok (.aload_n 0, 1) := by decide +kernel
theorem dL_law_216 : decode cL_law 216 = .ok (.iload_n 3, 1) := by decide +kernel
theorem dL_law_217 : decode cL_law 217 = .ok (.iconst 1, 1) := by decide +kernel
theorem dL_law_218 : decode cL_law 218 = .ok (.iadd, 1) := by decide +kernel
theorem dL_law_219 : decode cL_law 219 = .ok (.iaload, 1) := by decide +kernel
theorem dL_law_220 : decode cL_law 220 = .ok (.aload_n 0, 1) := by decide +kernel
theorem dL_law_221 : decode cL_law 221 = .ok (.iload_n 3, 1) := by decide +kernel
theorem dL_law_222 : decode cL_law 222 = .ok (.iconst 2, 1) := by decide +kernel
theorem dL_law_223 : decode cL_law 223 = .ok (.iadd, 1) := by decide +kernel
theorem dL_law_224 : decode cL_law 224 = .ok (.iaload, 1) := by decide +kernel
theorem dL_law_225 : decode cL_law 225 = .ok (.aload_n 0, 1) := by decide +kernel
theorem dL_law_226 : decode cL_law 226 = .ok (.iload_n 3, 1) := by decide +kernel
theorem dL_law_227 : decode cL_law 227 = .ok (.iconst 3, 1) := by decide +kernel
theorem dL_law_228 : decode cL_law 228 = .ok (.iadd, 1) := by decide +kernel
theorem dL_law_229 : decode cL_law 229 = .ok (.iaload, 1) := by decide +kernel
theorem dL_law_230 : decode cL_law 230 = .ok (.invokevirtual 21, 3) := by decide +kernel
theorem dL_law_233 : decode cL_law 233 = .ok (.if_icmp .eq 819, 3) := by decide +kernel
theorem dL_law_236 : decode cL_law 236 = .ok (.iconst 0, 1) := by decide +kernel
theorem dL_law_237 : decode cL_law 237 = .ok (.ireturn, 1) := by decide +kernel
theorem dL_law_238 : decode cL_law 238 = .ok (.aload_n 1, 1) := by decide +kernel
theorem dL_law_239 : decode cL_law 239 = .ok (.aload_n 0, 1) := by decide +kernel
theorem dL_law_240 : decode cL_law 240 = .ok (.iload_n 3, 1) := by decide +kernel
theorem dL_law_241 : decode cL_law 241 = .ok (.iconst 1, 1) := by decide +kernel
theorem dL_law_242 : decode cL_law 242 = .ok (.iadd, 1) := by decide +kernel
theorem dL_law_243 : decode cL_law 243 = .ok (.iaload, 1) := by decide +kernel
theorem dL_law_244 : decode cL_law 244 = .ok (.aload_n 0, 1) := by decide +kernel
theorem dL_law_245 : decode cL_law 245 = .ok (.iload_n 3, 1) := by decide +kernel
theorem dL_law_246 : decode cL_law 246 = .ok (.iconst 2, 1) := by decide +kernel
theorem dL_law_247 : decode cL_law 247 = .ok (.iadd, 1) := by decide +kernel
theorem dL_law_248 : decode cL_law 248 = .ok (.iaload, 1) := by decide +kernel
theorem dL_law_249 : decode cL_law 249 = .ok (.invokevirtual 22, 3) := by decide +kernel
theorem dL_law_252 : decode cL_law 252 = .ok (.aload_n 2, 1) := by decide +kernel
theorem dL_law_253 : decode cL_law 253 = .ok (.aload_n 0, 1) := by decide +kernel
theorem dL_law_254 : decode cL_law 254 = .ok (.iload_n 3, 1) := by decide +kernel
theorem dL_law_255 : decode cL_law 255 = .ok (.iconst 1, 1) := by decide +kernel
theorem dL_law_256 : decode cL_law 256 = .ok (.iadd, 1) := by decide +kernel
theorem dL_law_257 : decode cL_law 257 = .ok (.iaload, 1) := by decide +kernel
theorem dL_law_258 : decode cL_law 258 = .ok (.aload_n 0, 1) := by decide +kernel
theorem dL_law_259 : decode cL_law 259 = .ok (.iload_n 3, 1) := by decide +kernel
theorem dL_law_260 : decode cL_law 260 = .ok (.iconst 2, 1) := by decide +kernel
theorem dL_law_261 : decode cL_law 261 = .ok (.iadd, 1) := by decide +kernel
theorem dL_law_262 : decode cL_law 262 = .ok (.iaload, 1) := by decide +kernel
theorem dL_law_263 : decode cL_law 263 = .ok (.invokevirtual 26, 3) := by decide +kernel
theorem dL_law_266 : decode cL_law 266 = .ok (.if_icmp .eq 786, 3) := by decide +kernel
theorem dL_law_269 : decode cL_law 269 = .ok (.iconst 0, 1) := by decide +kernel
theorem dL_law_270 : decode cL_law 270 = .ok (.ireturn, 1) := by decide +kernel
theorem dL_law_271 : decode cL_law 271 = .ok (.aload_n 1, 1) := by decide +kernel
theorem dL_law_272 : decode cL_law 272 = .ok (.aload_n 0, 1) := by decide +kernel
theorem dL_law_273 : decode cL_law 273 = .ok (.iload_n 3, 1) := by decide +kernel
theorem dL_law_274 : decode cL_law 274 = .ok (.iconst 1, 1) := by decide +kernel
theorem dL_law_275 : decode cL_law 275 = .ok (.iadd, 1) := by decide +kernel
theorem dL_law_276 : decode cL_law 276 = .ok (.iaload, 1) := by decide +kernel
theorem dL_law_277 : decode cL_law 277 = .ok (.invokevirtual 27, 3) := by decide +kernel
theorem dL_law_280 : decode cL_law 280 = .ok (.aload_n 2, 1) := by decide +kernel
theorem dL_law_281 : decode cL_law 281 = .ok (.aload_n 0, 1) := by decide +kernel
theorem dL_law_282 : decode cL_law 282 = .ok (.iload_n 3, 1) := by decide +kernel
theorem dL_law_283 : decode cL_law 283 = .ok (.iconst 1, 1) := by decide +kernel
theorem dL_law_284 : decode cL_law 284 = .ok (.iadd, 1) := by decide +kernel
theorem dL_law_285 : decode cL_law 285 = .ok (.iaload, 1) := by decide +kernel
theorem dL_law_286 : decode cL_law 286 = .ok (.invokevirtual 31, 3) := by decide +kernel
theorem dL_law_289 : decode cL_law 289 = .ok (.if_icmp .eq 763, 3) := by decide +kernel
theorem dL_law_292 : decode cL_law 292 = .ok (.iconst 0, 1) := by decide +kernel
theorem dL_law_293 : decode cL_law 293 = .ok (.ireturn, 1) := by decide +kernel
theorem dL_law_294 : decode cL_law 294 = .ok (.aload_n 1, 1) := by decide +kernel
theorem dL_law_295 : decode cL_law 295 = .ok (.invokevirtual 32, 3) := by decide +kernel
theorem dL_law_298 : decode cL_law 298 = .ok (.aload_n 2, 1) := by decide +kernel
theorem dL_law_299 : decode cL_law 299 = .ok (.invokevirtual 36, 3) := by decide +kernel
theorem dL_law_302 : decode cL_law 302 = .ok (.if_icmp .eq 750, 3) := by decide +kernel
theorem dL_law_305 : decode cL_law 305 = .ok (.iconst 0, 1) := by decide +kernel
theorem dL_law_306 : decode cL_law 306 = .ok (.ireturn, 1) := by decide +kernel
theorem dL_law_307 : decode cL_law 307 = .ok (.aload_n 1, 1) := by decide +kernel
theorem dL_law_308 : decode cL_law 308 = .ok (.aload_n 0, 1) := by decide +kernel
theorem dL_law_309 : decode cL_law 309 = .ok (.iload_n 3, 1) := by decide +kernel
theorem dL_law_310 : decode cL_law 310 = .ok (.iconst 1, 1) := by decide +kernel
theorem dL_law_311 : decode cL_law 311 = .ok (.iadd, 1) := by decide +kernel
theorem dL_law_312 : decode cL_law 312 = .ok (.iaload, 1) := by decide +kernel
theorem dL_law_313 : decode cL_law 313 = .ok (.invokevirtual 37, 3) := by decide +kernel
theorem dL_law_316 : decode cL_law 316 = .ok (.aload_n 2, 1) := by decide +kernel
theorem dL_law_317 : decode cL_law 317 = .ok (.aload_n 0, 1) := by decide +kernel
theorem dL_law_318 : decode cL_law 318 = .ok (.iload_n 3, 1) := by decide +kernel
theorem dL_law_319 : decode cL_law 319 = .ok (.iconst 1, 1) := by decide +kernel
theorem dL_law_320 : decode cL_law 320 = .ok (.iadd, 1) := by decide +kernel
theorem dL_law_321 : decode cL_law 321 = .ok (.iaload, 1) := by decide +kernel
theorem dL_law_322 : decode cL_law 322 = .ok (.invokevirtual 40, 3) := by decide +kernel
theorem dL_law_325 : decode cL_law 325 = .ok (.if_icmp .eq 727, 3) := by decide +kernel
theorem dL_law_328 : decode cL_law 328 = .ok (.iconst 0, 1) := by decide +kernel
theorem dL_law_329 : decode cL_law 329 = .ok (.ireturn, 1) := by decide +kernel
theorem dL_law_330 : decode cL_law 330 = .ok (.aload_n 1, 1) := by decide +kernel
theorem dL_law_331 : decode cL_law 331 = .ok (.invokevirtual 41, 3) := by decide +kernel
theorem dL_law_334 : decode cL_law 334 = .ok (.aload_n 2, 1) := by decide +kernel
theorem dL_law_335 : decode cL_law 335 = .ok (.invokevirtual 44, 3) := by decide +kernel
theorem dL_law_338 : decode cL_law 338 = .ok (.if_icmp .eq 714, 3) := by decide +kernel
theorem dL_law_341 : decode cL_law 341 = .ok (.iconst 0, 1) := by decide +kernel
theorem dL_law_342 : decode cL_law 342 = .ok (.ireturn, 1) := by decide +kernel
theorem dL_law_343 : decode cL_law 343 = .ok (.aload_n 1, 1) := by decide +kernel
theorem dL_law_344 : decode cL_law 344 = .ok (.aload_n 0, 1) := by decide +kernel
theorem dL_law_345 : decode cL_law 345 = .ok (.iload_n 3, 1) := by decide +kernel
theorem dL_law_346 : decode cL_law 346 = .ok (.iconst 1, 1) := by decide +kernel
theorem dL_law_347 : decode cL_law 347 = .ok (.iadd, 1) := by decide +kernel
theorem dL_law_348 : decode cL_law 348 = .ok (.iaload, 1) := by decide +kernel
theorem dL_law_349 : decode cL_law 349 = .ok (.aload_n 0, 1) := by decide +kernel
theorem dL_law_350 : decode cL_law 350 = .ok (.iload_n 3, 1) := by decide +kernel
theorem dL_law_351 : decode cL_law 351 = .ok (.iconst 2, 1) := by decide +kernel
theorem dL_law_352 : decode cL_law 352 = .ok (.iadd, 1) := by decide +kernel
theorem dL_law_353 : decode cL_law 353 = .ok (.iaload, 1) := by decide +kernel
theorem dL_law_354 : decode cL_law 354 = .ok (.aload_n 0, 1) := by decide +kernel
theorem dL_law_355 : decode cL_law 355 = .ok (.iload_n 3, 1) := by decide +kernel
theorem dL_law_356 : decode cL_law 356 = .ok (.iconst 3, 1) := by decide +kernel
theorem dL_law_357 : decode cL_law 357 = .ok (.iadd, 1) := by decide +kernel
theorem dL_law_358 : decode cL_law 358 = .ok (.iaload, 1) := by decide +kernel
theorem dL_law_359 : decode cL_law 359 = .ok (.invokevirtual 45, 3) := by decide +kernel
theorem dL_law_362 : decode cL_law 362 = .ok (.aload_n 2, 1) := by decide +kernel
theorem dL_law_363 : decode cL_law 363 = .ok (.aload_n 0, 1) := by decide +kernel
theorem dL_law_364 : decode cL_law 364 = .ok (.iload_n 3, 1) := by decide +kernel
theorem dL_law_365 : decode cL_law 365 = .ok (.iconst 1, 1) := by decide +kernel
theorem dL_law_366 : decode cL_law 366 = .ok (.iadd, 1) := by decide +kernel
theorem dL_law_367 : decode cL_law 367 = .ok (.iaload, 1) := by decide +kernel
theorem dL_law_368 : decode cL_law 368 = .ok (.aload_n 0, 1) := by decide +kernel
theorem dL_law_369 : decode cL_law 369 = .ok (.iload_n 3, 1) := by decide +kernel
theorem dL_law_370 : decode cL_law 370 = .ok (.iconst 2, 1) := by decide +kernel
theorem dL_law_371 : decode cL_law 371 = .ok (.iadd, 1) := by decide +kernel
theorem dL_law_372 : decode cL_law 372 = .ok (.iaload, 1) := by decide +kernel
theorem dL_law_373 : decode cL_law 373 = .ok (.aload_n 0, 1) := by decide +kernel
theorem dL_law_374 : decode cL_law 374 = .ok (.iload_n 3, 1) := by decide +kernel
theorem dL_law_375 : decode cL_law 375 = .ok (.iconst 3, 1) := by decide +kernel
theorem dL_law_376 : decode cL_law 376 = .ok (.iadd, 1) := by decide +kernel
theorem dL_law_377 : decode cL_law 377 = .ok (.iaload, 1) := by decide +kernel
theorem dL_law_378 : decode cL_law 378 = .ok (.invokevirtual 48, 3) := by decide +kernel
theorem dL_law_381 : decode cL_law 381 = .ok (.if_icmp .eq 671, 3) := by decide +kernel
theorem dL_law_384 : decode cL_law 384 = .ok (.iconst 0, 1) := by decide +kernel
theorem dL_law_385 : decode cL_law 385 = .ok (.ireturn, 1) := by decide +kernel
theorem dL_law_386 : decode cL_law 386 = .ok (.aload_n 1, 1) := by decide +kernel
theorem dL_law_387 : decode cL_law 387 = .ok (.aload_n 0, 1) := by decide +kernel
theorem dL_law_388 : decode cL_law 388 = .ok (.iload_n 3, 1) := by decide +kernel
theorem dL_law_389 : decode cL_law 389 = .ok (.iconst 1, 1) := by decide +kernel
theorem dL_law_390 : decode cL_law 390 = .ok (.iadd, 1) := by decide +kernel
theorem dL_law_391 : decode cL_law 391 = .ok (.iaload, 1) := by decide +kernel
theorem dL_law_392 : decode cL_law 392 = .ok (.aload_n 0, 1) := by decide +kernel
theorem dL_law_393 : decode cL_law 393 = .ok (.iload_n 3, 1) := by decide +kernel
theorem dL_law_394 : decode cL_law 394 = .ok (.iconst 2, 1) := by decide +kernel
theorem dL_law_395 : decode cL_law 395 = .ok (.iadd, 1) := by decide +kernel
theorem dL_law_396 : decode cL_law 396 = .ok (.iaload, 1) := by decide +kernel
theorem dL_law_397 : decode cL_law 397 = .ok (.aload_n 0, 1) := by decide +kernel
theorem dL_law_398 : decode cL_law 398 = .ok (.iload_n 3, 1) := by decide +kernel
theorem dL_law_399 : decode cL_law 399 = .ok (.iconst 3, 1) := by decide +kernel
theorem dL_law_400 : decode cL_law 400 = .ok (.iadd, 1) := by decide +kernel
theorem dL_law_401 : decode cL_law 401 = .ok (.iaload, 1) := by decide +kernel
theorem dL_law_402 : decode cL_law 402 = .ok (.invokevirtual 49, 3) := by decide +kernel
theorem dL_law_405 : decode cL_law 405 = .ok (.aload_n 2, 1) := by decide +kernel
theorem dL_law_406 : decode cL_law 406 = .ok (.aload_n 0, 1) := by decide +kernel
theorem dL_law_407 : decode cL_law 407 = .ok (.iload_n 3, 1) := by decide +kernel
theorem dL_law_408 : decode cL_law 408 = .ok (.iconst 1, 1) := by decide +kernel
theorem dL_law_409 : decode cL_law 409 = .ok (.iadd, 1) := by decide +kernel
theorem dL_law_410 : decode cL_law 410 = .ok (.iaload, 1) := by decide +kernel
theorem dL_law_411 : decode cL_law 411 = .ok (.aload_n 0, 1) := by decide +kernel
theorem dL_law_412 : decode cL_law 412 = .ok (.iload_n 3, 1) := by decide +kernel
theorem dL_law_413 : decode cL_law 413 = .ok (.iconst 2, 1) := by decide +kernel
theorem dL_law_414 : decode cL_law 414 = .ok (.iadd, 1) := by decide +kernel
theorem dL_law_415 : decode cL_law 415 = .ok (.iaload, 1) := by decide +kernel
theorem dL_law_416 : decode cL_law 416 = .ok (.aload_n 0, 1) := by decide +kernel
theorem dL_law_417 : decode cL_law 417 = .ok (.iload_n 3, 1) := by decide +kernel
theorem dL_law_418 : decode cL_law 418 = .ok (.iconst 3, 1) := by decide +kernel
theorem dL_law_419 : decode cL_law 419 = .ok (.iadd, 1) := by decide +kernel
theorem dL_law_420 : decode cL_law 420 = .ok (.iaload, 1) := by decide +kernel
theorem dL_law_421 : decode cL_law 421 = .ok (.invokevirtual 52, 3) := by decide +kernel
theorem dL_law_424 : decode cL_law 424 = .ok (.if_icmp .eq 628, 3) := by decide +kernel
theorem dL_law_427 : decode cL_law 427 = .ok (.iconst 0, 1) := by decide +kernel
theorem dL_law_428 : decode cL_law 428 = .ok (.ireturn, 1) := by decide +kernel
theorem dL_law_429 : decode cL_law 429 = .ok (.aload_n 1, 1) := by decide +kernel
theorem dL_law_430 : decode cL_law 430 = .ok (.aload_n 0, 1) := by decide +kernel
theorem dL_law_431 : decode cL_law 431 = .ok (.iload_n 3, 1) := by decide +kernel
theorem dL_law_432 : decode cL_law 432 = .ok (.iconst 1, 1) := by decide +kernel
theorem dL_law_433 : decode cL_law 433 = .ok (.iadd, 1) := by decide +kernel
theorem dL_law_434 : decode cL_law 434 = .ok (.iaload, 1) := by decide +kernel
theorem dL_law_435 : decode cL_law 435 = .ok (.invokevirtual 53, 3) := by decide +kernel
theorem dL_law_438 : decode cL_law 438 = .ok (.aload_n 2, 1) := by decide +kernel
theorem dL_law_439 : decode cL_law 439 = .ok (.aload_n 0, 1) := by decide +kernel
theorem dL_law_440 : decode cL_law 440 = .ok (.iload_n 3, 1) := by decide +kernel
theorem dL_law_441 : decode cL_law 441 = .ok (.iconst 1, 1) := by decide +kernel
theorem dL_law_442 : decode cL_law 442 = .ok (.iadd, 1) := by decide +kernel
theorem dL_law_443 : decode cL_law 443 = .ok (.iaload, 1) := by decide +kernel
theorem dL_law_444 : decode cL_law 444 = .ok (.invokevirtual 56, 3) := by decide +kernel
theorem dL_law_447 : decode cL_law 447 = .ok (.if_icmp .eq 605, 3) := by decide +kernel
theorem dL_law_450 : decode cL_law 450 = .ok (.iconst 0, 1) := by decide +kernel
theorem dL_law_451 : decode cL_law 451 = .ok (.ireturn, 1) := by decide +kernel
theorem dL_law_452 : decode cL_law 452 = .ok (.aload_n 1, 1) := by decide +kernel
theorem dL_law_453 : decode cL_law 453 = .ok (.aload_n 0, 1) := by decide +kernel
theorem dL_law_454 : decode cL_law 454 = .ok (.iload_n 3, 1) := by decide +kernel
theorem dL_law_455 : decode cL_law 455 = .ok (.iconst 1, 1) := by decide +kernel
theorem dL_law_456 : decode cL_law 456 = .ok (.iadd, 1) := by decide +kernel
theorem dL_law_457 : decode cL_law 457 = .ok (.iaload, 1) := by decide +kernel
theorem dL_law_458 : decode cL_law 458 = .ok (.invokevirtual 57, 3) := by decide +kernel
theorem dL_law_461 : decode cL_law 461 = .ok (.aload_n 2, 1) := by decide +kernel
theorem dL_law_462 : decode cL_law 462 = .ok (.aload_n 0, 1) := by decide +kernel
theorem dL_law_463 : decode cL_law 463 = .ok (.iload_n 3, 1) := by decide +kernel
theorem dL_law_464 : decode cL_law 464 = .ok (.iconst 1, 1) := by decide +kernel
theorem dL_law_465 : decode cL_law 465 = .ok (.iadd, 1) := by decide +kernel
theorem dL_law_466 : decode cL_law 466 = .ok (.iaload, 1) := by decide +kernel
theorem dL_law_467 : decode cL_law 467 = .ok (.invokevirtual 61, 3) := by decide +kernel
theorem dL_law_470 : decode cL_law 470 = .ok (.lcmp, 1) := by decide +kernel
theorem dL_law_471 : decode cL_law 471 = .ok (.ifCond .eq 581, 3) := by decide +kernel
theorem dL_law_474 : decode cL_law 474 = .ok (.iconst 0, 1) := by decide +kernel
theorem dL_law_475 : decode cL_law 475 = .ok (.ireturn, 1) := by decide +kernel
theorem dL_law_476 : decode cL_law 476 = .ok (.aload_n 1, 1) := by decide +kernel
theorem dL_law_477 : decode cL_law 477 = .ok (.aload_n 0, 1) := by decide +kernel
theorem dL_law_478 : decode cL_law 478 = .ok (.iload_n 3, 1) := by decide +kernel
theorem dL_law_479 : decode cL_law 479 = .ok (.iconst 1, 1) := by decide +kernel
theorem dL_law_480 : decode cL_law 480 = .ok (.iadd, 1) := by decide +kernel
theorem dL_law_481 : decode cL_law 481 = .ok (.iaload, 1) := by decide +kernel
theorem dL_law_482 : decode cL_law 482 = .ok (.aload_n 0, 1) := by decide +kernel
theorem dL_law_483 : decode cL_law 483 = .ok (.iload_n 3, 1) := by decide +kernel
theorem dL_law_484 : decode cL_law 484 = .ok (.iconst 2, 1) := by decide +kernel
theorem dL_law_485 : decode cL_law 485 = .ok (.iadd, 1) := by decide +kernel
theorem dL_law_486 : decode cL_law 486 = .ok (.iaload, 1) := by decide +kernel
theorem dL_law_487 : decode cL_law 487 = .ok (.aload_n 0, 1) := by decide +kernel
theorem dL_law_488 : decode cL_law 488 = .ok (.iload_n 3, 1) := by decide +kernel
theorem dL_law_489 : decode cL_law 489 = .ok (.iconst 3, 1) := by decide +kernel
theorem dL_law_490 : decode cL_law 490 = .ok (.iadd, 1) := by decide +kernel
theorem dL_law_491 : decode cL_law 491 = .ok (.iaload, 1) := by decide +kernel
theorem dL_law_492 : decode cL_law 492 = .ok (.invokevirtual 62, 3) := by decide +kernel
theorem dL_law_495 : decode cL_law 495 = .ok (.aload_n 2, 1) := by decide +kernel
theorem dL_law_496 : decode cL_law 496 = .ok (.aload_n 0, 1) := by decide +kernel
theorem dL_law_497 : decode cL_law 497 = .ok (.iload_n 3, 1) := by decide +kernel
theorem dL_law_498 : decode cL_law 498 = .ok (.iconst 1, 1) := by decide +kernel
theorem dL_law_499 : decode cL_law 499 = .ok (.iadd, 1) := by decide +kernel
theorem dL_law_500 : decode cL_law 500 = .ok (.iaload, 1) := by decide +kernel
theorem dL_law_501 : decode cL_law 501 = .ok (.aload_n 0, 1) := by decide +kernel
theorem dL_law_502 : decode cL_law 502 = .ok (.iload_n 3, 1) := by decide +kernel
theorem dL_law_503 : decode cL_law 503 = .ok (.iconst 2, 1) := by decide +kernel
theorem dL_law_504 : decode cL_law 504 = .ok (.iadd, 1) := by decide +kernel
theorem dL_law_505 : decode cL_law 505 = .ok (.iaload, 1) := by decide +kernel
theorem dL_law_506 : decode cL_law 506 = .ok (.aload_n 0, 1) := by decide +kernel
theorem dL_law_507 : decode cL_law 507 = .ok (.iload_n 3, 1) := by decide +kernel
theorem dL_law_508 : decode cL_law 508 = .ok (.iconst 3, 1) := by decide +kernel
theorem dL_law_509 : decode cL_law 509 = .ok (.iadd, 1) := by decide +kernel
theorem dL_law_510 : decode cL_law 510 = .ok (.iaload, 1) := by decide +kernel
theorem dL_law_511 : decode cL_law 511 = .ok (.invokevirtual 65, 3) := by decide +kernel
theorem dL_law_514 : decode cL_law 514 = .ok (.if_icmp .eq 538, 3) := by decide +kernel
theorem dL_law_517 : decode cL_law 517 = .ok (.iconst 0, 1) := by decide +kernel
theorem dL_law_518 : decode cL_law 518 = .ok (.ireturn, 1) := by decide +kernel
theorem dL_law_519 : decode cL_law 519 = .ok (.aload_n 1, 1) := by decide +kernel
theorem dL_law_520 : decode cL_law 520 = .ok (.aload_n 0, 1) := by decide +kernel
theorem dL_law_521 : decode cL_law 521 = .ok (.iload_n 3, 1) := by decide +kernel
theorem dL_law_522 : decode cL_law 522 = .ok (.iconst 1, 1) := by decide +kernel
theorem dL_law_523 : decode cL_law 523 = .ok (.iadd, 1) := by decide +kernel
theorem dL_law_524 : decode cL_law 524 = .ok (.iaload, 1) := by decide +kernel
theorem dL_law_525 : decode cL_law 525 = .ok (.aload_n 0, 1) := by decide +kernel
theorem dL_law_526 : decode cL_law 526 = .ok (.iload_n 3, 1) := by decide +kernel
theorem dL_law_527 : decode cL_law 527 = .ok (.iconst 2, 1) := by decide +kernel
theorem dL_law_528 : decode cL_law 528 = .ok (.iadd, 1) := by decide +kernel
theorem dL_law_529 : decode cL_law 529 = .ok (.iaload, 1) := by decide +kernel
theorem dL_law_530 : decode cL_law 530 = .ok (.invokevirtual 66, 3) := by decide +kernel
theorem dL_law_533 : decode cL_law 533 = .ok (.aload_n 2, 1) := by decide +kernel
theorem dL_law_534 : decode cL_law 534 = .ok (.aload_n 0, 1) := by decide +kernel
theorem dL_law_535 : decode cL_law 535 = .ok (.iload_n 3, 1) := by decide +kernel
theorem dL_law_536 : decode cL_law 536 = .ok (.iconst 1, 1) := by decide +kernel
theorem dL_law_537 : decode cL_law 537 = .ok (.iadd, 1) := by decide +kernel
theorem dL_law_538 : decode cL_law 538 = .ok (.iaload, 1) := by decide +kernel
theorem dL_law_539 : decode cL_law 539 = .ok (.aload_n 0, 1) := by decide +kernel
theorem dL_law_540 : decode cL_law 540 = .ok (.iload_n 3, 1) := by decide +kernel
theorem dL_law_541 : decode cL_law 541 = .ok (.iconst 2, 1) := by decide +kernel
theorem dL_law_542 : decode cL_law 542 = .ok (.iadd, 1) := by decide +kernel
theorem dL_law_543 : decode cL_law 543 = .ok (.iaload, 1) := by decide +kernel
theorem dL_law_544 : decode cL_law 544 = .ok (.invokevirtual 69, 3) := by decide +kernel
theorem dL_law_547 : decode cL_law 547 = .ok (.if_icmp .eq 505, 3) := by decide +kernel
theorem dL_law_550 : decode cL_law 550 = .ok (.iconst 0, 1) := by decide +kernel
theorem dL_law_551 : decode cL_law 551 = .ok (.ireturn, 1) := by decide +kernel
theorem dL_law_552 : decode cL_law 552 = .ok (.aload_n 1, 1) := by decide +kernel
theorem dL_law_553 : decode cL_law 553 = .ok (.aload_n 0, 1) := by decide +kernel
theorem dL_law_554 : decode cL_law 554 = .ok (.iload_n 3, 1) := by decide +kernel
theorem dL_law_555 : decode cL_law 555 = .ok (.iconst 1, 1) := by decide +kernel
theorem dL_law_556 : decode cL_law 556 = .ok (.iadd, 1) := by decide +kernel
theorem dL_law_557 : decode cL_law 557 = .ok (.iaload, 1) := by decide +kernel
theorem dL_law_558 : decode cL_law 558 = .ok (.aload_n 0, 1) := by decide +kernel
theorem dL_law_559 : decode cL_law 559 = .ok (.iload_n 3, 1) := by decide +kernel
theorem dL_law_560 : decode cL_law 560 = .ok (.iconst 2, 1) := by decide +kernel
theorem dL_law_561 : decode cL_law 561 = .ok (.iadd, 1) := by decide +kernel
theorem dL_law_562 : decode cL_law 562 = .ok (.iaload, 1) := by decide +kernel
theorem dL_law_563 : decode cL_law 563 = .ok (.aload_n 0, 1) := by decide +kernel
theorem dL_law_564 : decode cL_law 564 = .ok (.iload_n 3, 1) := by decide +kernel
theorem dL_law_565 : decode cL_law 565 = .ok (.iconst 3, 1) := by decide +kernel
theorem dL_law_566 : decode cL_law 566 = .ok (.iadd, 1) := by decide +kernel
theorem dL_law_567 : decode cL_law 567 = .ok (.iaload, 1) := by decide +kernel
theorem dL_law_568 : decode cL_law 568 = .ok (.invokevirtual 70, 3) := by decide +kernel
theorem dL_law_571 : decode cL_law 571 = .ok (.aload_n 2, 1) := by decide +kernel
theorem dL_law_572 : decode cL_law 572 = .ok (.aload_n 0, 1) := by decide +kernel
theorem dL_law_573 : decode cL_law 573 = .ok (.iload_n 3, 1) := by decide +kernel
theorem dL_law_574 : decode cL_law 574 = .ok (.iconst 1, 1) := by decide +kernel
theorem dL_law_575 : decode cL_law 575 = .ok (.iadd, 1) := by decide +kernel
theorem dL_law_576 : decode cL_law 576 = .ok (.iaload, 1) := by decide +kernel
theorem dL_law_577 : decode cL_law 577 = .ok (.aload_n 0, 1) := by decide +kernel
theorem dL_law_578 : decode cL_law 578 = .ok (.iload_n 3, 1) := by decide +kernel
theorem dL_law_579 : decode cL_law 579 = .ok (.iconst 2, 1) := by decide +kernel
theorem dL_law_580 : decode cL_law 580 = .ok (.iadd, 1) := by decide +kernel
theorem dL_law_581 : decode cL_law 581 = .ok (.iaload, 1) := by decide +kernel
theorem dL_law_582 : decode cL_law 582 = .ok (.aload_n 0, 1) := by decide +kernel
theorem dL_law_583 : decode cL_law 583 = .ok (.iload_n 3, 1) := by decide +kernel
theorem dL_law_584 : decode cL_law 584 = .ok (.iconst 3, 1) := by decide +kernel
theorem dL_law_585 : decode cL_law 585 = .ok (.iadd, 1) := by decide +kernel
theorem dL_law_586 : decode cL_law 586 = .ok (.iaload, 1) := by decide +kernel
theorem dL_law_587 : decode cL_law 587 = .ok (.invokevirtual 73, 3) := by decide +kernel
theorem dL_law_590 : decode cL_law 590 = .ok (.if_icmp .eq 462, 3) := by decide +kernel
theorem dL_law_593 : decode cL_law 593 = .ok (.iconst 0, 1) := by decide +kernel
theorem dL_law_594 : decode cL_law 594 = .ok (.ireturn, 1) := by decide +kernel
theorem dL_law_595 : decode cL_law 595 = .ok (.aload_n 1, 1) := by decide +kernel
theorem dL_law_596 : decode cL_law 596 = .ok (.aload_n 0, 1) := by decide +kernel
theorem dL_law_597 : decode cL_law 597 = .ok (.iload_n 3, 1) := by decide +kernel
theorem dL_law_598 : decode cL_law 598 = .ok (.iconst 1, 1) := by decide +kernel
theorem dL_law_599 : decode cL_law 599 = .ok (.iadd, 1) := by decide +kernel
theorem dL_law_600 : decode cL_law 600 = .ok (.iaload, 1) := by decide +kernel
theorem dL_law_601 : decode cL_law 601 = .ok (.aload_n 0, 1) := by decide +kernel
theorem dL_law_602 : decode cL_law 602 = .ok (.iload_n 3, 1) := by decide +kernel
theorem dL_law_603 : decode cL_law 603 = .ok (.iconst 2, 1) := by decide +kernel
theorem dL_law_604 : decode cL_law 604 = .ok (.iadd, 1) := by decide +kernel
theorem dL_law_605 : decode cL_law 605 = .ok (.iaload, 1) := by decide +kernel
theorem dL_law_606 : decode cL_law 606 = .ok (.aload_n 0, 1) := by decide +kernel
theorem dL_law_607 : decode cL_law 607 = .ok (.iload_n 3, 1) := by decide +kernel
theorem dL_law_608 : decode cL_law 608 = .ok (.iconst 3, 1) := by decide +kernel
theorem dL_law_609 : decode cL_law 609 = .ok (.iadd, 1) := by decide +kernel
theorem dL_law_610 : decode cL_law 610 = .ok (.iaload, 1) := by decide +kernel
theorem dL_law_611 : decode cL_law 611 = .ok (.invokevirtual 74, 3) := by decide +kernel
theorem dL_law_614 : decode cL_law 614 = .ok (.aload_n 2, 1) := by decide +kernel
theorem dL_law_615 : decode cL_law 615 = .ok (.aload_n 0, 1) := by decide +kernel
theorem dL_law_616 : decode cL_law 616 = .ok (.iload_n 3, 1) := by decide +kernel
theorem dL_law_617 : decode cL_law 617 = .ok (.iconst 1, 1) := by decide +kernel
theorem dL_law_618 : decode cL_law 618 = .ok (.iadd, 1) := by decide +kernel
theorem dL_law_619 : decode cL_law 619 = .ok (.iaload, 1) := by decide +kernel
theorem dL_law_620 : decode cL_law 620 = .ok (.aload_n 0, 1) := by decide +kernel
theorem dL_law_621 : decode cL_law 621 = .ok (.iload_n 3, 1) := by decide +kernel
theorem dL_law_622 : decode cL_law 622 = .ok (.iconst 2, 1) := by decide +kernel
theorem dL_law_623 : decode cL_law 623 = .ok (.iadd, 1) := by decide +kernel
theorem dL_law_624 : decode cL_law 624 = .ok (.iaload, 1) := by decide +kernel
theorem dL_law_625 : decode cL_law 625 = .ok (.aload_n 0, 1) := by decide +kernel
theorem dL_law_626 : decode cL_law 626 = .ok (.iload_n 3, 1) := by decide +kernel
theorem dL_law_627 : decode cL_law 627 = .ok (.iconst 3, 1) := by decide +kernel
theorem dL_law_628 : decode cL_law 628 = .ok (.iadd, 1) := by decide +kernel
theorem dL_law_629 : decode cL_law 629 = .ok (.iaload, 1) := by decide +kernel
theorem dL_law_630 : decode cL_law 630 = .ok (.invokevirtual 77, 3) := by decide +kernel
theorem dL_law_633 : decode cL_law 633 = .ok (.if_icmp .eq 419, 3) := by decide +kernel
theorem dL_law_636 : decode cL_law 636 = .ok (.iconst 0, 1) := by decide +kernel
theorem dL_law_637 : decode cL_law 637 = .ok (.ireturn, 1) := by decide +kernel
theorem dL_law_638 : decode cL_law 638 = .ok (.aload_n 1, 1) := by decide +kernel
theorem dL_law_639 : decode cL_law 639 = .ok (.aload_n 0, 1) := by decide +kernel
theorem dL_law_640 : decode cL_law 640 = .ok (.iload_n 3, 1) := by decide +kernel
theorem dL_law_641 : decode cL_law 641 = .ok (.iconst 1, 1) := by decide +kernel
theorem dL_law_642 : decode cL_law 642 = .ok (.iadd, 1) := by decide +kernel
theorem dL_law_643 : decode cL_law 643 = .ok (.iaload, 1) := by decide +kernel
theorem dL_law_644 : decode cL_law 644 = .ok (.aload_n 0, 1) := by decide +kernel
theorem dL_law_645 : decode cL_law 645 = .ok (.iload_n 3, 1) := by decide +kernel
theorem dL_law_646 : decode cL_law 646 = .ok (.iconst 2, 1) := by decide +kernel
theorem dL_law_647 : decode cL_law 647 = .ok (.iadd, 1) := by decide +kernel
theorem dL_law_648 : decode cL_law 648 = .ok (.iaload, 1) := by decide +kernel
theorem dL_law_649 : decode cL_law 649 = .ok (.aload_n 0, 1) := by decide +kernel
theorem dL_law_650 : decode cL_law 650 = .ok (.iload_n 3, 1) := by decide +kernel
theorem dL_law_651 : decode cL_law 651 = .ok (.iconst 3, 1) := by decide +kernel
theorem dL_law_652 : decode cL_law 652 = .ok (.iadd, 1) := by decide +kernel
theorem dL_law_653 : decode cL_law 653 = .ok (.iaload, 1) := by decide +kernel
theorem dL_law_654 : decode cL_law 654 = .ok (.invokevirtual 78, 3) := by decide +kernel
theorem dL_law_657 : decode cL_law 657 = .ok (.aload_n 2, 1) := by decide +kernel
theorem dL_law_658 : decode cL_law 658 = .ok (.aload_n 0, 1) := by decide +kernel
theorem dL_law_659 : decode cL_law 659 = .ok (.iload_n 3, 1) := by decide +kernel
theorem dL_law_660 : decode cL_law 660 = .ok (.iconst 1, 1) := by decide +kernel
theorem dL_law_661 : decode cL_law 661 = .ok (.iadd, 1) := by decide +kernel
theorem dL_law_662 : decode cL_law 662 = .ok (.iaload, 1) := by decide +kernel
theorem dL_law_663 : decode cL_law 663 = .ok (.aload_n 0, 1) := by decide +kernel
theorem dL_law_664 : decode cL_law 664 = .ok (.iload_n 3, 1) := by decide +kernel
theorem dL_law_665 : decode cL_law 665 = .ok (.iconst 2, 1) := by decide +kernel
theorem dL_law_666 : decode cL_law 666 = .ok (.iadd, 1) := by decide +kernel
theorem dL_law_667 : decode cL_law 667 = .ok (.iaload, 1) := by decide +kernel
theorem dL_law_668 : decode cL_law 668 = .ok (.aload_n 0, 1) := by decide +kernel
theorem dL_law_669 : decode cL_law 669 = .ok (.iload_n 3, 1) := by decide +kernel
theorem dL_law_670 : decode cL_law 670 = .ok (.iconst 3, 1) := by decide +kernel
theorem dL_law_671 : decode cL_law 671 = .ok (.iadd, 1) := by decide +kernel
theorem dL_law_672 : decode cL_law 672 = .ok (.iaload, 1) := by decide +kernel
theorem dL_law_673 : decode cL_law 673 = .ok (.invokevirtual 81, 3) := by decide +kernel
theorem dL_law_676 : decode cL_law 676 = .ok (.if_icmp .eq 376, 3) := by decide +kernel
theorem dL_law_679 : decode cL_law 679 = .ok (.iconst 0, 1) := by decide +kernel
theorem dL_law_680 : decode cL_law 680 = .ok (.ireturn, 1) := by decide +kernel
theorem dL_law_681 : decode cL_law 681 = .ok (.aload_n 1, 1) := by decide +kernel
theorem dL_law_682 : decode cL_law 682 = .ok (.aload_n 0, 1) := by decide +kernel
theorem dL_law_683 : decode cL_law 683 = .ok (.iload_n 3, 1) := by decide +kernel
theorem dL_law_684 : decode cL_law 684 = .ok (.iconst 1, 1) := by decide +kernel
theorem dL_law_685 : decode cL_law 685 = .ok (.iadd, 1) := by decide +kernel
theorem dL_law_686 : decode cL_law 686 = .ok (.iaload, 1) := by decide +kernel
theorem dL_law_687 : decode cL_law 687 = .ok (.aload_n 0, 1) := by decide +kernel
theorem dL_law_688 : decode cL_law 688 = .ok (.iload_n 3, 1) := by decide +kernel
theorem dL_law_689 : decode cL_law 689 = .ok (.iconst 2, 1) := by decide +kernel
theorem dL_law_690 : decode cL_law 690 = .ok (.iadd, 1) := by decide +kernel
theorem dL_law_691 : decode cL_law 691 = .ok (.iaload, 1) := by decide +kernel
theorem dL_law_692 : decode cL_law 692 = .ok (.invokevirtual 82, 3) := by decide +kernel
theorem dL_law_695 : decode cL_law 695 = .ok (.aload_n 2, 1) := by decide +kernel
theorem dL_law_696 : decode cL_law 696 = .ok (.aload_n 0, 1) := by decide +kernel
theorem dL_law_697 : decode cL_law 697 = .ok (.iload_n 3, 1) := by decide +kernel
theorem dL_law_698 : decode cL_law 698 = .ok (.iconst 1, 1) := by decide +kernel
theorem dL_law_699 : decode cL_law 699 = .ok (.iadd, 1) := by decide +kernel
theorem dL_law_700 : decode cL_law 700 = .ok (.iaload, 1) := by decide +kernel
theorem dL_law_701 : decode cL_law 701 = .ok (.aload_n 0, 1) := by decide +kernel
theorem dL_law_702 : decode cL_law 702 = .ok (.iload_n 3, 1) := by decide +kernel
theorem dL_law_703 : decode cL_law 703 = .ok (.iconst 2, 1) := by decide +kernel
theorem dL_law_704 : decode cL_law 704 = .ok (.iadd, 1) := by decide +kernel
theorem dL_law_705 : decode cL_law 705 = .ok (.iaload, 1) := by decide +kernel
theorem dL_law_706 : decode cL_law 706 = .ok (.invokevirtual 85, 3) := by decide +kernel
theorem dL_law_709 : decode cL_law 709 = .ok (.if_icmp .eq 343, 3) := by decide +kernel
theorem dL_law_712 : decode cL_law 712 = .ok (.iconst 0, 1) := by decide +kernel
theorem dL_law_713 : decode cL_law 713 = .ok (.ireturn, 1) := by decide +kernel
theorem dL_law_714 : decode cL_law 714 = .ok (.aload_n 1, 1) := by decide +kernel
theorem dL_law_715 : decode cL_law 715 = .ok (.aload_n 0, 1) := by decide +kernel
theorem dL_law_716 : decode cL_law 716 = .ok (.iload_n 3, 1) := by decide +kernel
theorem dL_law_717 : decode cL_law 717 = .ok (.iconst 1, 1) := by decide +kernel
theorem dL_law_718 : decode cL_law 718 = .ok (.iadd, 1) := by decide +kernel
theorem dL_law_719 : decode cL_law 719 = .ok (.iaload, 1) := by decide +kernel
theorem dL_law_720 : decode cL_law 720 = .ok (.aload_n 0, 1) := by decide +kernel
theorem dL_law_721 : decode cL_law 721 = .ok (.iload_n 3, 1) := by decide +kernel
theorem dL_law_722 : decode cL_law 722 = .ok (.iconst 2, 1) := by decide +kernel
theorem dL_law_723 : decode cL_law 723 = .ok (.iadd, 1) := by decide +kernel
theorem dL_law_724 : decode cL_law 724 = .ok (.iaload, 1) := by decide +kernel
theorem dL_law_725 : decode cL_law 725 = .ok (.aload_n 0, 1) := by decide +kernel
theorem dL_law_726 : decode cL_law 726 = .ok (.iload_n 3, 1) := by decide +kernel
theorem dL_law_727 : decode cL_law 727 = .ok (.iconst 3, 1) := by decide +kernel
theorem dL_law_728 : decode cL_law 728 = .ok (.iadd, 1) := by decide +kernel
theorem dL_law_729 : decode cL_law 729 = .ok (.iaload, 1) := by decide +kernel
theorem dL_law_730 : decode cL_law 730 = .ok (.aload_n 0, 1) := by decide +kernel
theorem dL_law_731 : decode cL_law 731 = .ok (.iload_n 3, 1) := by decide +kernel
theorem dL_law_732 : decode cL_law 732 = .ok (.iconst 4, 1) := by decide +kernel
theorem dL_law_733 : decode cL_law 733 = .ok (.iadd, 1) := by decide +kernel
theorem dL_law_734 : decode cL_law 734 = .ok (.iaload, 1) := by decide +kernel
theorem dL_law_735 : decode cL_law 735 = .ok (.invokevirtual 86, 3) := by decide +kernel
theorem dL_law_738 : decode cL_law 738 = .ok (.aload_n 2, 1) := by decide +kernel
theorem dL_law_739 : decode cL_law 739 = .ok (.aload_n 0, 1) := by decide +kernel
theorem dL_law_740 : decode cL_law 740 = .ok (.iload_n 3, 1) := by decide +kernel
theorem dL_law_741 : decode cL_law 741 = .ok (.iconst 1, 1) := by decide +kernel
theorem dL_law_742 : decode cL_law 742 = .ok (.iadd, 1) := by decide +kernel
theorem dL_law_743 : decode cL_law 743 = .ok (.iaload, 1) := by decide +kernel
theorem dL_law_744 : decode cL_law 744 = .ok (.aload_n 0, 1) := by decide +kernel
theorem dL_law_745 : decode cL_law 745 = .ok (.iload_n 3, 1) := by decide +kernel
theorem dL_law_746 : decode cL_law 746 = .ok (.iconst 2, 1) := by decide +kernel
theorem dL_law_747 : decode cL_law 747 = .ok (.iadd, 1) := by decide +kernel
theorem dL_law_748 : decode cL_law 748 = .ok (.iaload, 1) := by decide +kernel
theorem dL_law_749 : decode cL_law 749 = .ok (.aload_n 0, 1) := by decide +kernel
theorem dL_law_750 : decode cL_law 750 = .ok (.iload_n 3, 1) := by decide +kernel
theorem dL_law_751 : decode cL_law 751 = .ok (.iconst 3, 1) := by decide +kernel
theorem dL_law_752 : decode cL_law 752 = .ok (.iadd, 1) := by decide +kernel
theorem dL_law_753 : decode cL_law 753 = .ok (.iaload, 1) := by decide +kernel
theorem dL_law_754 : decode cL_law 754 = .ok (.aload_n 0, 1) := by decide +kernel
theorem dL_law_755 : decode cL_law 755 = .ok (.iload_n 3, 1) := by decide +kernel
theorem dL_law_756 : decode cL_law 756 = .ok (.iconst 4, 1) := by decide +kernel
theorem dL_law_757 : decode cL_law 757 = .ok (.iadd, 1) := by decide +kernel
theorem dL_law_758 : decode cL_law 758 = .ok (.iaload, 1) := by decide +kernel
theorem dL_law_759 : decode cL_law 759 = .ok (.invokevirtual 90, 3) := by decide +kernel
theorem dL_law_762 : decode cL_law 762 = .ok (.lcmp, 1) := by decide +kernel
theorem dL_law_763 : decode cL_law 763 = .ok (.ifCond .eq 289, 3) := by decide +kernel
theorem dL_law_766 : decode cL_law 766 = .ok (.iconst 0, 1) := by decide +kernel
theorem dL_law_767 : decode cL_law 767 = .ok (.ireturn, 1) := by decide +kernel
theorem dL_law_768 : decode cL_law 768 = .ok (.aload_n 1, 1) := by decide +kernel
theorem dL_law_769 : decode cL_law 769 = .ok (.invokevirtual 91, 3) := by decide +kernel
theorem dL_law_772 : decode cL_law 772 = .ok (.aload_n 2, 1) := by decide +kernel
theorem dL_law_773 : decode cL_law 773 = .ok (.invokevirtual 94, 3) := by decide +kernel
theorem dL_law_776 : decode cL_law 776 = .ok (.if_icmp .eq 276, 3) := by decide +kernel
theorem dL_law_779 : decode cL_law 779 = .ok (.iconst 0, 1) := by decide +kernel
theorem dL_law_780 : decode cL_law 780 = .ok (.ireturn, 1) := by decide +kernel
theorem dL_law_781 : decode cL_law 781 = .ok (.aload_n 1, 1) := by decide +kernel
theorem dL_law_782 : decode cL_law 782 = .ok (.invokevirtual 95, 3) := by decide +kernel
theorem dL_law_785 : decode cL_law 785 = .ok (.aload_n 2, 1) := by decide +kernel
theorem dL_law_786 : decode cL_law 786 = .ok (.invokevirtual 98, 3) := by decide +kernel
theorem dL_law_789 : decode cL_law 789 = .ok (.if_icmp .eq 263, 3) := by decide +kernel
theorem dL_law_792 : decode cL_law 792 = .ok (.iconst 0, 1) := by decide +kernel
theorem dL_law_793 : decode cL_law 793 = .ok (.ireturn, 1) := by decide +kernel
theorem dL_law_794 : decode cL_law 794 = .ok (.aload_n 1, 1) := by decide +kernel
theorem dL_law_795 : decode cL_law 795 = .ok (.aload_n 0, 1) := by decide +kernel
theorem dL_law_796 : decode cL_law 796 = .ok (.iload_n 3, 1) := by decide +kernel
theorem dL_law_797 : decode cL_law 797 = .ok (.iconst 1, 1) := by decide +kernel
theorem dL_law_798 : decode cL_law 798 = .ok (.iadd, 1) := by decide +kernel
theorem dL_law_799 : decode cL_law 799 = .ok (.iaload, 1) := by decide +kernel
theorem dL_law_800 : decode cL_law 800 = .ok (.invokevirtual 99, 3) := by decide +kernel
theorem dL_law_803 : decode cL_law 803 = .ok (.aload_n 2, 1) := by decide +kernel
theorem dL_law_804 : decode cL_law 804 = .ok (.aload_n 0, 1) := by decide +kernel
theorem dL_law_805 : decode cL_law 805 = .ok (.iload_n 3, 1) := by decide +kernel
theorem dL_law_806 : decode cL_law 806 = .ok (.iconst 1, 1) := by decide +kernel
theorem dL_law_807 : decode cL_law 807 = .ok (.iadd, 1) := by decide +kernel
theorem dL_law_808 : decode cL_law 808 = .ok (.iaload, 1) := by decide +kernel
theorem dL_law_809 : decode cL_law 809 = .ok (.invokevirtual 102, 3) := by decide +kernel
theorem dL_law_812 : decode cL_law 812 = .ok (.if_icmp .eq 240, 3) := by decide +kernel
theorem dL_law_815 : decode cL_law 815 = .ok (.iconst 0, 1) := by decide +kernel
theorem dL_law_816 : decode cL_law 816 = .ok (.ireturn, 1) := by decide +kernel
theorem dL_law_817 : decode cL_law 817 = .ok (.aload_n 1, 1) := by decide +kernel
theorem dL_law_818 : decode cL_law 818 = .ok (.aload_n 0, 1) := by decide +kernel
theorem dL_law_819 : decode cL_law 819 = .ok (.iload_n 3, 1) := by decide +kernel
theorem dL_law_820 : decode cL_law 820 = .ok (.iconst 1, 1) := by decide +kernel
theorem dL_law_821 : decode cL_law 821 = .ok (.iadd, 1) := by decide +kernel
theorem dL_law_822 : decode cL_law 822 = .ok (.iaload, 1) := by decide +kernel
theorem dL_law_823 : decode cL_law 823 = .ok (.aload_n 0, 1) := by decide +kernel
theorem dL_law_824 : decode cL_law 824 = .ok (.iload_n 3, 1) := by decide +kernel
theorem dL_law_825 : decode cL_law 825 = .ok (.iconst 2, 1) := by decide +kernel
theorem dL_law_826 : decode cL_law 826 = .ok (.iadd, 1) := by decide +kernel
theorem dL_law_827 : decode cL_law 827 = .ok (.iaload, 1) := by decide +kernel
theorem dL_law_828 : decode cL_law 828 = .ok (.aload_n 0, 1) := by decide +kernel
theorem dL_law_829 : decode cL_law 829 = .ok (.iload_n 3, 1) := by decide +kernel
theorem dL_law_830 : decode cL_law 830 = .ok (.iconst 3, 1) := by decide +kernel
theorem dL_law_831 : decode cL_law 831 = .ok (.iadd, 1) := by decide +kernel
theorem dL_law_832 : decode cL_law 832 = .ok (.iaload, 1) := by decide +kernel
theorem dL_law_833 : decode cL_law 833 = .ok (.invokevirtual 103, 3) := by decide +kernel
theorem dL_law_836 : decode cL_law 836 = .ok (.aload_n 2, 1) := by decide +kernel
theorem dL_law_837 : decode cL_law 837 = .ok (.aload_n 0, 1) := by decide +kernel
theorem dL_law_838 : decode cL_law 838 = .ok (.iload_n 3, 1) := by decide +kernel
theorem dL_law_839 : decode cL_law 839 = .ok (.iconst 1, 1) := by decide +kernel
theorem dL_law_840 : decode cL_law 840 = .ok (.iadd, 1) := by decide +kernel
theorem dL_law_841 : decode cL_law 841 = .ok (.iaload, 1) := by decide +kernel
theorem dL_law_842 : decode cL_law 842 = .ok (.aload_n 0, 1) := by decide +kernel
theorem dL_law_843 : decode cL_law 843 = .ok (.iload_n 3, 1) := by decide +kernel
theorem dL_law_844 : decode cL_law 844 = .ok (.iconst 2, 1) := by decide +kernel
theorem dL_law_845 : decode cL_law 845 = .ok (.iadd, 1) := by decide +kernel
theorem dL_law_846 : decode cL_law 846 = .ok (.iaload, 1) := by decide +kernel
theorem dL_law_847 : decode cL_law 847 = .ok (.aload_n 0, 1) := by decide +kernel
theorem dL_law_848 : decode cL_law 848 = .ok (.iload_n 3, 1) := by decide +kernel
theorem dL_law_849 : decode cL_law 849 = .ok (.iconst 3, 1) := by decide +kernel
theorem dL_law_850 : decode cL_law 850 = .ok (.iadd, 1) := by decide +kernel
theorem dL_law_851 : decode cL_law 851 = .ok (.iaload, 1) := by decide +kernel
theorem dL_law_852 : decode cL_law 852 = .ok (.invokevirtual 106, 3) := by decide +kernel
theorem dL_law_855 : decode cL_law 855 = .ok (.if_icmp .eq 197, 3) := by decide +kernel
theorem dL_law_858 : decode cL_law 858 = .ok (.iconst 0, 1) := by decide +kernel
theorem dL_law_859 : decode cL_law 859 = .ok (.ireturn, 1) := by decide +kernel
theorem dL_law_860 : decode cL_law 860 = .ok (.aload_n 1, 1) := by decide +kernel
theorem dL_law_861 : decode cL_law 861 = .ok (.aload_n 0, 1) := by decide +kernel
theorem dL_law_862 : decode cL_law 862 = .ok (.iload_n 3, 1) := by decide +kernel
theorem dL_law_863 : decode cL_law 863 = .ok (.iconst 1, 1) := by decide +kernel
theorem dL_law_864 : decode cL_law 864 = .ok (.iadd, 1) := by decide +kernel
theorem dL_law_865 : decode cL_law 865 = .ok (.iaload, 1) := by decide +kernel
theorem dL_law_866 : decode cL_law 866 = .ok (.aload_n 0, 1) := by decide +kernel
theorem dL_law_867 : decode cL_law 867 = .ok (.iload_n 3, 1) := by decide +kernel
theorem dL_law_868 : decode cL_law 868 = .ok (.iconst 2, 1) := by decide +kernel
theorem dL_law_869 : decode cL_law 869 = .ok (.iadd, 1) := by decide +kernel
theorem dL_law_870 : decode cL_law 870 = .ok (.iaload, 1) := by decide +kernel
theorem dL_law_871 : decode cL_law 871 = .ok (.aload_n 0, 1) := by decide +kernel
theorem dL_law_872 : decode cL_law 872 = .ok (.iload_n 3, 1) := by decide +kernel
theorem dL_law_873 : decode cL_law 873 = .ok (.iconst 3, 1) := by decide +kernel
theorem dL_law_874 : decode cL_law 874 = .ok (.iadd, 1) := by decide +kernel
theorem dL_law_875 : decode cL_law 875 = .ok (.iaload, 1) := by decide +kernel
theorem dL_law_876 : decode cL_law 876 = .ok (.invokevirtual 107, 3) := by decide +kernel
theorem dL_law_879 : decode cL_law 879 = .ok (.aload_n 2, 1) := by decide +kernel
theorem dL_law_880 : decode cL_law 880 = .ok (.aload_n 0, 1) := by decide +kernel
theorem dL_law_881 : decode cL_law 881 = .ok (.iload_n 3, 1) := by decide +kernel
theorem dL_law_882 : decode cL_law 882 = .ok (.iconst 1, 1) := by decide +kernel
theorem dL_law_883 : decode cL_law 883 = .ok (.iadd, 1) := by decide +kernel
theorem dL_law_884 : decode cL_law 884 = .ok (.iaload, 1) := by decide +kernel
theorem dL_law_885 : decode cL_law 885 = .ok (.aload_n 0, 1) := by decide +kernel
theorem dL_law_886 : decode cL_law 886 = .ok (.iload_n 3, 1) := by decide +kernel
theorem dL_law_887 : decode cL_law 887 = .ok (.iconst 2, 1) := by decide +kernel
theorem dL_law_888 : decode cL_law 888 = .ok (.iadd, 1) := by decide +kernel
theorem dL_law_889 : decode cL_law 889 = .ok (.iaload, 1) := by decide +kernel
theorem dL_law_890 : decode cL_law 890 = .ok (.aload_n 0, 1) := by decide +kernel
theorem dL_law_891 : decode cL_law 891 = .ok (.iload_n 3, 1) := by decide +kernel
theorem dL_law_892 : decode cL_law 892 = .ok (.iconst 3, 1) := by decide +kernel
theorem dL_law_893 : decode cL_law 893 = .ok (.iadd, 1) := by decide +kernel
theorem dL_law_894 : decode cL_law 894 = .ok (.iaload, 1) := by decide +kernel
theorem dL_law_895 : decode cL_law 895 = .ok (.invokevirtual 110, 3) := by decide +kernel
theorem dL_law_898 : decode cL_law 898 = .ok (.if_icmp .eq 154, 3) := by decide +kernel
theorem dL_law_901 : decode cL_law 901 = .ok (.iconst 0, 1) := by decide +kernel
theorem dL_law_902 : decode cL_law 902 = .ok (.ireturn, 1) := by decide +kernel
theorem dL_law_903 : decode cL_law 903 = .ok (.aload_n 1, 1) := by decide +kernel
theorem dL_law_904 : decode cL_law 904 = .ok (.aload_n 0, 1) := by decide +kernel
theorem dL_law_905 : decode cL_law 905 = .ok (.iload_n 3, 1) := by decide +kernel
theorem dL_law_906 : decode cL_law 906 = .ok (.iconst 1, 1) := by decide +kernel
theorem dL_law_907 : decode cL_law 907 = .ok (.iadd, 1) := by decide +kernel
theorem dL_law_908 : decode cL_law 908 = .ok (.iaload, 1) := by decide +kernel
theorem dL_law_909 : decode cL_law 909 = .ok (.aload_n 0, 1) := by decide +kernel
theorem dL_law_910 : decode cL_law 910 = .ok (.iload_n 3, 1) := by decide +kernel
theorem dL_law_911 : decode cL_law 911 = .ok (.iconst 2, 1) := by decide +kernel
theorem dL_law_912 : decode cL_law 912 = .ok (.iadd, 1) := by decide +kernel
theorem dL_law_913 : decode cL_law 913 = .ok (.iaload, 1) := by decide +kernel
theorem dL_law_914 : decode cL_law 914 = .ok (.aload_n 0, 1) := by decide +kernel
theorem dL_law_915 : decode cL_law 915 = .ok (.iload_n 3, 1) := by decide +kernel
theorem dL_law_916 : decode cL_law 916 = .ok (.iconst 3, 1) := by decide +kernel
theorem dL_law_917 : decode cL_law 917 = .ok (.iadd, 1) := by decide +kernel
theorem dL_law_918 : decode cL_law 918 = .ok (.iaload, 1) := by decide +kernel
theorem dL_law_919 : decode cL_law 919 = .ok (.aload_n 0, 1) := by decide +kernel
theorem dL_law_920 : decode cL_law 920 = .ok (.iload_n 3, 1) := by decide +kernel
theorem dL_law_921 : decode cL_law 921 = .ok (.iconst 4, 1) := by decide +kernel
theorem dL_law_922 : decode cL_law 922 = .ok (.iadd, 1) := by decide +kernel
theorem dL_law_923 : decode cL_law 923 = .ok (.iaload, 1) := by decide +kernel
theorem dL_law_924 : decode cL_law 924 = .ok (.aload_n 0, 1) := by decide +kernel
theorem dL_law_925 : decode cL_law 925 = .ok (.iload_n 3, 1) := by decide +kernel
theorem dL_law_926 : decode cL_law 926 = .ok (.iconst 5, 1) := by decide +kernel
theorem dL_law_927 : decode cL_law 927 = .ok (.iadd, 1) := by decide +kernel
theorem dL_law_928 : decode cL_law 928 = .ok (.iaload, 1) := by decide +kernel
theorem dL_law_929 : decode cL_law 929 = .ok (.invokevirtual 111, 3) := by decide +kernel
theorem dL_law_932 : decode cL_law 932 = .ok (.aload_n 2, 1) := by decide +kernel
theorem dL_law_933 : decode cL_law 933 = .ok (.aload_n 0, 1) := by decide +kernel
theorem dL_law_934 : decode cL_law 934 = .ok (.iload_n 3, 1) := by decide +kernel
theorem dL_law_935 : decode cL_law 935 = .ok (.iconst 1, 1) := by decide +kernel
theorem dL_law_936 : decode cL_law 936 = .ok (.iadd, 1) := by decide +kernel
theorem dL_law_937 : decode cL_law 937 = .ok (.iaload, 1) := by decide +kernel
theorem dL_law_938 : decode cL_law 938 = .ok (.aload_n 0, 1) := by decide +kernel
theorem dL_law_939 : decode cL_law 939 = .ok (.iload_n 3, 1) := by decide +kernel
theorem dL_law_940 : decode cL_law 940 = .ok (.iconst 2, 1) := by decide +kernel
theorem dL_law_941 : decode cL_law 941 = .ok (.iadd, 1) := by decide +kernel
theorem dL_law_942 : decode cL_law 942 = .ok (.iaload, 1) := by decide +kernel
theorem dL_law_943 : decode cL_law 943 = .ok (.aload_n 0, 1) := by decide +kernel
theorem dL_law_944 : decode cL_law 944 = .ok (.iload_n 3, 1) := by decide +kernel
theorem dL_law_945 : decode cL_law 945 = .ok (.iconst 3, 1) := by decide +kernel
theorem dL_law_946 : decode cL_law 946 = .ok (.iadd, 1) := by decide +kernel
theorem dL_law_947 : decode cL_law 947 = .ok (.iaload, 1) := by decide +kernel
theorem dL_law_948 : decode cL_law 948 = .ok (.aload_n 0, 1) := by decide +kernel
theorem dL_law_949 : decode cL_law 949 = .ok (.iload_n 3, 1) := by decide +kernel
theorem dL_law_950 : decode cL_law 950 = .ok (.iconst 4, 1) := by decide +kernel
theorem dL_law_951 : decode cL_law 951 = .ok (.iadd, 1) := by decide +kernel
theorem dL_law_952 : decode cL_law 952 = .ok (.iaload, 1) := by decide +kernel
theorem dL_law_953 : decode cL_law 953 = .ok (.aload_n 0, 1) := by decide +kernel
theorem dL_law_954 : decode cL_law 954 = .ok (.iload_n 3, 1) := by decide +kernel
theorem dL_law_955 : decode cL_law 955 = .ok (.iconst 5, 1) := by decide +kernel
theorem dL_law_956 : decode cL_law 956 = .ok (.iadd, 1) := by decide +kernel
theorem dL_law_957 : decode cL_law 957 = .ok (.iaload, 1) := by decide +kernel
theorem dL_law_958 : decode cL_law 958 = .ok (.invokevirtual 115, 3) := by decide +kernel
theorem dL_law_961 : decode cL_law 961 = .ok (.if_icmp .eq 91, 3) := by decide +kernel
theorem dL_law_964 : decode cL_law 964 = .ok (.iconst 0, 1) := by decide +kernel
theorem dL_law_965 : decode cL_law 965 = .ok (.ireturn, 1) := by decide +kernel
theorem dL_law_966 : decode cL_law 966 = .ok (.aload_n 1, 1) := by decide +kernel
theorem dL_law_967 : decode cL_law 967 = .ok (.aload_n 0, 1) := by decide +kernel
theorem dL_law_968 : decode cL_law 968 = .ok (.iload_n 3, 1) := by decide +kernel
theorem dL_law_969 : decode cL_law 969 = .ok (.iconst 1, 1) := by decide +kernel
theorem dL_law_970 : decode cL_law 970 = .ok (.iadd, 1) := by decide +kernel
theorem dL_law_971 : decode cL_law 971 = .ok (.iaload, 1) := by decide +kernel
theorem dL_law_972 : decode cL_law 972 = .ok (.aload_n 0, 1) := by decide +kernel
theorem dL_law_973 : decode cL_law 973 = .ok (.iload_n 3, 1) := by decide +kernel
theorem dL_law_974 : decode cL_law 974 = .ok (.iconst 2, 1) := by decide +kernel
theorem dL_law_975 : decode cL_law 975 = .ok (.iadd, 1) := by decide +kernel
theorem dL_law_976 : decode cL_law 976 = .ok (.iaload, 1) := by decide +kernel
theorem dL_law_977 : decode cL_law 977 = .ok (.aload_n 0, 1) := by decide +kernel
theorem dL_law_978 : decode cL_law 978 = .ok (.iload_n 3, 1) := by decide +kernel
theorem dL_law_979 : decode cL_law 979 = .ok (.iconst 3, 1) := by decide +kernel
theorem dL_law_980 : decode cL_law 980 = .ok (.iadd, 1) := by decide +kernel
theorem dL_law_981 : decode cL_law 981 = .ok (.iaload, 1) := by decide +kernel
theorem dL_law_982 : decode cL_law 982 = .ok (.aload_n 0, 1) := by decide +kernel
theorem dL_law_983 : decode cL_law 983 = .ok (.iload_n 3, 1) := by decide +kernel
theorem dL_law_984 : decode cL_law 984 = .ok (.iconst 4, 1) := by decide +kernel
theorem dL_law_985 : decode cL_law 985 = .ok (.iadd, 1) := by decide +kernel
theorem dL_law_986 : decode cL_law 986 = .ok (.iaload, 1) := by decide +kernel
theorem dL_law_987 : decode cL_law 987 = .ok (.invokevirtual 116, 3) := by decide +kernel
theorem dL_law_990 : decode cL_law 990 = .ok (.aload_n 2, 1) := by decide +kernel
theorem dL_law_991 : decode cL_law 991 = .ok (.aload_n 0, 1) := by decide +kernel
theorem dL_law_992 : decode cL_law 992 = .ok (.iload_n 3, 1) := by decide +kernel
theorem dL_law_993 : decode cL_law 993 = .ok (.iconst 1, 1) := by decide +kernel
theorem dL_law_994 : decode cL_law 994 = .ok (.iadd, 1) := by decide +kernel
theorem dL_law_995 : decode cL_law 995 = .ok (.iaload, 1) := by decide +kernel
theorem dL_law_996 : decode cL_law 996 = .ok (.aload_n 0, 1) := by decide +kernel
theorem dL_law_997 : decode cL_law 997 = .ok (.iload_n 3, 1) := by decide +kernel
theorem dL_law_998 : decode cL_law 998 = .ok (.iconst 2, 1) := by decide +kernel
theorem dL_law_999 : decode cL_law 999 = .ok (.iadd, 1) := by decide +kernel
theorem dL_law_1000 : decode cL_law 1000 = .ok (.iaload, 1) := by decide +kernel
theorem dL_law_1001 : decode cL_law 1001 = .ok (.aload_n 0, 1) := by decide +kernel
theorem dL_law_1002 : decode cL_law 1002 = .ok (.iload_n 3, 1) := by decide +kernel
theorem dL_law_1003 : decode cL_law 1003 = .ok (.iconst 3, 1) := by decide +kernel
theorem dL_law_1004 : decode cL_law 1004 = .ok (.iadd, 1) := by decide +kernel
theorem dL_law_1005 : decode cL_law 1005 = .ok (.iaload, 1) := by decide +kernel
theorem dL_law_1006 : decode cL_law 1006 = .ok (.aload_n 0, 1) := by decide +kernel
theorem dL_law_1007 : decode cL_law 1007 = .ok (.iload_n 3, 1) := by decide +kernel
theorem dL_law_1008 : decode cL_law 1008 = .ok (.iconst 4, 1) := by decide +kernel
theorem dL_law_1009 : decode cL_law 1009 = .ok (.iadd, 1) := by decide +kernel
theorem dL_law_1010 : decode cL_law 1010 = .ok (.iaload, 1) := by decide +kernel
theorem dL_law_1011 : decode cL_law 1011 = .ok (.invokevirtual 120, 3) := by decide +kernel
theorem dL_law_1014 : decode cL_law 1014 = .ok (.if_icmp .eq 38, 3) := by decide +kernel
theorem dL_law_1017 : decode cL_law 1017 = .ok (.iconst 0, 1) := by decide +kernel
theorem dL_law_1018 : decode cL_law 1018 = .ok (.ireturn, 1) := by decide +kernel
theorem dL_law_1019 : decode cL_law 1019 = .ok (.aload_n 1, 1) := by decide +kernel
theorem dL_law_1020 : decode cL_law 1020 = .ok (.aload_n 0, 1) := by decide +kernel
theorem dL_law_1021 : decode cL_law 1021 = .ok (.iload_n 3, 1) := by decide +kernel
theorem dL_law_1022 : decode cL_law 1022 = .ok (.iconst 1, 1) := by decide +kernel
theorem dL_law_1023 : decode cL_law 1023 = .ok (.iadd, 1) := by decide +kernel
theorem dL_law_1024 : decode cL_law 1024 = .ok (.iaload, 1) := by decide +kernel
theorem dL_law_1025 : decode cL_law 1025 = .ok (.aload_n 0, 1) := by decide +kernel
theorem dL_law_1026 : decode cL_law 1026 = .ok (.iload_n 3, 1) := by decide +kernel
theorem dL_law_1027 : decode cL_law 1027 = .ok (.iconst 2, 1) := by decide +kernel
theorem dL_law_1028 : decode cL_law 1028 = .ok (.iadd, 1) := by decide +kernel
theorem dL_law_1029 : decode cL_law 1029 = .ok (.iaload, 1) := by decide +kernel
theorem dL_law_1030 : decode cL_law 1030 = .ok (.invokevirtual 121, 3) := by decide +kernel
theorem dL_law_1033 : decode cL_law 1033 = .ok (.aload_n 2, 1) := by decide +kernel
theorem dL_law_1034 : decode cL_law 1034 = .ok (.aload_n 0, 1) := by decide +kernel
theorem dL_law_1035 : decode cL_law 1035 = .ok (.iload_n 3, 1) := by decide +kernel
theorem dL_law_1036 : decode cL_law 1036 = .ok (.iconst 1, 1) := by decide +kernel
theorem dL_law_1037 : decode cL_law 1037 = .ok (.iadd, 1) := by decide +kernel
theorem dL_law_1038 : decode cL_law 1038 = .ok (.iaload, 1) := by decide +kernel
theorem dL_law_1039 : decode cL_law 1039 = .ok (.aload_n 0, 1) := by decide +kernel
theorem dL_law_1040 : decode cL_law 1040 = .ok (.iload_n 3, 1) := by decide +kernel
theorem dL_law_1041 : decode cL_law 1041 = .ok (.iconst 2, 1) := by decide +kernel
theorem dL_law_1042 : decode cL_law 1042 = .ok (.iadd, 1) := by decide +kernel
theorem dL_law_1043 : decode cL_law 1043 = .ok (.iaload, 1) := by decide +kernel
theorem dL_law_1044 : decode cL_law 1044 = .ok (.invokevirtual 124, 3) := by decide +kernel
theorem dL_law_1047 : decode cL_law 1047 = .ok (.if_icmp .eq 5, 3) := by decide +kernel
theorem dL_law_1050 : decode cL_law 1050 = .ok (.iconst 0, 1) := by decide +kernel
theorem dL_law_1051 : decode cL_law 1051 = .ok (.ireturn, 1) := by decide +kernel
theorem dL_law_1052 : decode cL_law 1052 = .ok (.iinc 3 6, 3) := by decide +kernel
theorem dL_law_1055 : decode cL_law 1055 = .ok (.goto (-1037), 3) := by decide +kernel
theorem dL_law_1058 : decode cL_law 1058 = .ok (.iconst 1, 1) := by decide +kernel
theorem dL_law_1059 : decode cL_law 1059 = .ok (.ireturn, 1) := by decide +kernel
