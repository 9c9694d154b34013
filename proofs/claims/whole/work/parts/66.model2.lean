theorem dX10_read_0 : decode cX10_read 0 = .ok (.bipush 64, 2) := by decide +kernel
theorem dX10_read_2 : decode cX10_read 2 = .ok (.iload_n 1, 1) := by decide +kernel
theorem dX10_read_3 : decode cX10_read 3 = .ok (.imul, 1) := by decide +kernel
theorem dX10_read_4 : decode cX10_read 4 = .ok (.istore_n 2, 1) := by decide +kernel
theorem dX10_read_5 : decode cX10_read 5 = .ok (.aload_n 0, 1) := by decide +kernel
theorem dX10_read_6 : decode cX10_read 6 = .ok (.getfield 29, 3) := by decide +kernel
theorem dX10_read_9 : decode cX10_read 9 = .ok (.iload_n 2, 1) := by decide +kernel
theorem dX10_read_10 : decode cX10_read 10 = .ok (.aload_n 0, 1) := by decide +kernel
theorem dX10_read_11 : decode cX10_read 11 = .ok (.getfield 7, 3) := by decide +kernel
theorem dX10_read_14 : decode cX10_read 14 = .ok (.aload_n 0, 1) := by decide +kernel
theorem dX10_read_15 : decode cX10_read 15 = .ok (.getfield 23, 3) := by decide +kernel
theorem dX10_read_18 : decode cX10_read 18 = .ok (.iload_n 1, 1) := by decide +kernel
theorem dX10_read_19 : decode cX10_read 19 = .ok (.iaload, 1) := by decide +kernel
theorem dX10_read_20 : decode cX10_read 20 = .ok (.iaload, 1) := by decide +kernel
theorem dX10_read_21 : decode cX10_read 21 = .ok (.iastore, 1) := by decide +kernel
theorem dX10_read_22 : decode cX10_read 22 = .ok (.aload_n 0, 1) := by decide +kernel
theorem dX10_read_23 : decode cX10_read 23 = .ok (.getfield 32, 3) := by decide +kernel
theorem dX10_read_26 : decode cX10_read 26 = .ok (.iload_n 2, 1) := by decide +kernel
theorem dX10_read_27 : decode cX10_read 27 = .ok (.aload_n 0, 1) := by decide +kernel
theorem dX10_read_28 : decode cX10_read 28 = .ok (.getfield 7, 3) := by decide +kernel
theorem dX10_read_31 : decode cX10_read 31 = .ok (.aload_n 0, 1) := by decide +kernel
theorem dX10_read_32 : decode cX10_read 32 = .ok (.getfield 23, 3) := by decide +kernel
theorem dX10_read_35 : decode cX10_read 35 = .ok (.iload_n 1, 1) := by decide +kernel
theorem dX10_read_36 : decode cX10_read 36 = .ok (.iaload, 1) := by decide +kernel
theorem dX10_read_37 : decode cX10_read 37 = .ok (.iconst 1, 1) := by decide +kernel
theorem dX10_read_38 : decode cX10_read 38 = .ok (.iadd, 1) := by decide +kernel
theorem dX10_read_39 : decode cX10_read 39 = .ok (.iaload, 1) := by decide +kernel
theorem dX10_read_40 : decode cX10_read 40 = .ok (.iastore, 1) := by decide +kernel
theorem dX10_read_41 : decode cX10_read 41 = .ok (.aload_n 0, 1) := by decide +kernel
theorem dX10_read_42 : decode cX10_read 42 = .ok (.aload_n 0, 1) := by decide +kernel
theorem dX10_read_43 : decode cX10_read 43 = .ok (.getfield 23, 3) := by decide +kernel
theorem dX10_read_46 : decode cX10_read 46 = .ok (.iload_n 1, 1) := by decide +kernel
theorem dX10_read_47 : decode cX10_read 47 = .ok (.iaload, 1) := by decide +kernel
theorem dX10_read_48 : decode cX10_read 48 = .ok (.iconst 2, 1) := by decide +kernel
theorem dX10_read_49 : decode cX10_read 49 = .ok (.iadd, 1) := by decide +kernel
theorem dX10_read_50 : decode cX10_read 50 = .ok (.putfield 159, 3) := by decide +kernel
theorem dX10_read_53 : decode cX10_read 53 = .ok (.aload_n 0, 1) := by decide +kernel
theorem dX10_read_54 : decode cX10_read 54 = .ok (.iconst 0, 1) := by decide +kernel
theorem dX10_read_55 : decode cX10_read 55 = .ok (.putfield 118, 3) := by decide +kernel
theorem dX10_read_58 : decode cX10_read 58 = .ok (.lconst 0, 1) := by decide +kernel
theorem dX10_read_59 : decode cX10_read 59 = .ok (.lstore_n 3, 1) := by decide +kernel
theorem dX10_read_60 : decode cX10_read 60 = .ok (.iconst 1, 1) := by decide +kernel
theorem dX10_read_61 : decode cX10_read 61 = .ok (.istore 5, 2) := by decide +kernel
theorem dX10_read_63 : decode cX10_read 63 = .ok (.iload 5, 2) := by decide +kernel
theorem dX10_read_65 : decode cX10_read 65 = .ok (.aload_n 0, 1) := by decide +kernel
theorem dX10_read_66 : decode cX10_read 66 = .ok (.getfield 20, 3) := by decide +kernel
theorem dX10_read_69 : decode cX10_read 69 = .ok (.iload_n 1, 1) := by decide +kernel
theorem dX10_read_70 : decode cX10_read 70 = .ok (.iaload, 1) := by decide +kernel
theorem dX10_read_71 : decode cX10_read 71 = .ok (.if_icmp .ge 65, 3) := by decide +kernel
theorem dX10_read_74 : decode cX10_read 74 = .ok (.lload_n 3, 1) := by decide +kernel
theorem dX10_read_75 : decode cX10_read 75 = .ok (.aload_n 0, 1) := by decide +kernel
theorem dX10_read_76 : decode cX10_read 76 = .ok (.invokevirtual 166, 3) := by decide +kernel
theorem dX10_read_79 : decode cX10_read 79 = .ok (.ladd, 1) := by decide +kernel
theorem dX10_read_80 : decode cX10_read 80 = .ok (.lstore_n 3, 1) := by decide +kernel
theorem dX10_read_81 : decode cX10_read 81 = .ok (.aload_n 0, 1) := by decide +kernel
theorem dX10_read_82 : decode cX10_read 82 = .ok (.getfield 29, 3) := by decide +kernel
theorem dX10_read_85 : decode cX10_read 85 = .ok (.iload_n 2, 1) := by decide +kernel
theorem dX10_read_86 : decode cX10_read 86 = .ok (.iload 5, 2) := by decide +kernel
theorem dX10_read_88 : decode cX10_read 88 = .ok (.iadd, 1) := by decide +kernel
theorem dX10_read_89 : decode cX10_read 89 = .ok (.aload_n 0, 1) := by decide +kernel
theorem dX10_read_90 : decode cX10_read 90 = .ok (.getfield 29, 3) := by decide +kernel
theorem dX10_read_93 : decode cX10_read 93 = .ok (.iload_n 2, 1) := by decide +kernel
theorem dX10_read_94 : decode cX10_read 94 = .ok (.iload 5, 2) := by decide +kernel
theorem dX10_read_96 : decode cX10_read 96 = .ok (.iadd, 1) := by decide +kernel
theorem dX10_read_97 : decode cX10_read 97 = .ok (.iconst 1, 1) := by decide +kernel
theorem dX10_read_98 : decode cX10_read 98 = .ok (.isub, 1) := by decide +kernel
theorem dX10_read_99 : decode cX10_read 99 = .ok (.iaload, 1) := by decide +kernel
theorem dX10_read_100 : decode cX10_read 100 = .ok (.i2l, 1) := by decide +kernel
theorem dX10_read_101 : decode cX10_read 101 = .ok (.lload_n 3, 1) := by decide +kernel
theorem dX10_read_102 : decode cX10_read 102 = .ok (.ladd, 1) := by decide +kernel
theorem dX10_read_103 : decode cX10_read 103 = .ok (.l2i, 1) := by decide +kernel
theorem dX10_read_104 : decode cX10_read 104 = .ok (.iastore, 1) := by decide +kernel
theorem dX10_read_105 : decode cX10_read 105 = .ok (.aload_n 0, 1) := by decide +kernel
theorem dX10_read_106 : decode cX10_read 106 = .ok (.getfield 32, 3) := by decide +kernel
theorem dX10_read_109 : decode cX10_read 109 = .ok (.iload_n 2, 1) := by decide +kernel
theorem dX10_read_110 : decode cX10_read 110 = .ok (.iload 5, 2) := by decide +kernel
theorem dX10_read_112 : decode cX10_read 112 = .ok (.iadd, 1) := by decide +kernel
theorem dX10_read_113 : decode cX10_read 113 = .ok (.aload_n 0, 1) := by decide +kernel
theorem dX10_read_114 : decode cX10_read 114 = .ok (.getfield 32, 3) := by decide +kernel
theorem dX10_read_117 : decode cX10_read 117 = .ok (.iload_n 2, 1) := by decide +kernel
theorem dX10_read_118 : decode cX10_read 118 = .ok (.iload 5, 2) := by decide +kernel
theorem dX10_read_120 : decode cX10_read 120 = .ok (.iadd, 1) := by decide +kernel
theorem dX10_read_121 : decode cX10_read 121 = .ok (.iconst 1, 1) := by decide +kernel
theorem dX10_read_122 : decode cX10_read 122 = .ok (.isub, 1) := by decide +kernel
theorem dX10_read_123 : decode cX10_read 123 = .ok (.iaload, 1) := by decide +kernel
theorem dX10_read_124 : decode cX10_read 124 = .ok (.aload_n 0, 1) := by decide +kernel
theorem dX10_read_125 : decode cX10_read 125 = .ok (.invokevirtual 170, 3) := by decide +kernel
theorem dX10_read_128 : decode cX10_read 128 = .ok (.iadd, 1) := by decide +kernel
theorem dX10_read_129 : decode cX10_read 129 = .ok (.iastore, 1) := by decide +kernel
theorem dX10_read_130 : decode cX10_read 130 = .ok (.iinc 5 1, 3) := by decide +kernel
theorem dX10_read_133 : decode cX10_read 133 = .ok (.goto (-70), 3) := by decide +kernel
theorem dX10_read_136 : decode cX10_read 136 = .ok (.return_, 1) := by decide +kernel
theorem dX10_beginNext_0 : decode cX10_beginNext 0 = .ok (.aload_n 0, 1) := by decide +kernel
theorem dX10_beginNext_1 : decode cX10_beginNext 1 = .ok (.iconst 0, 1) := by decide +kernel
theorem dX10_beginNext_2 : decode cX10_beginNext 2 = .ok (.putfield 174, 3) := by decide +kernel
theorem dX10_beginNext_5 : decode cX10_beginNext 5 = .ok (.return_, 1) := by decide +kernel
theorem dX10_comes_0 : decode cX10_comes 0 = .ok (.aload_n 0, 1) := by decide +kernel
theorem dX10_comes_1 : decode cX10_comes 1 = .ok (.getfield 47, 3) := by decide +kernel
theorem dX10_comes_4 : decode cX10_comes 4 = .ok (.aload_n 0, 1) := by decide +kernel
theorem dX10_comes_5 : decode cX10_comes 5 = .ok (.getfield 174, 3) := by decide +kernel
theorem dX10_comes_8 : decode cX10_comes 8 = .ok (.iload_n 1, 1) := by decide +kernel
theorem dX10_comes_9 : decode cX10_comes 9 = .ok (.iastore, 1) := by decide +kernel
theorem dX10_comes_10 : decode cX10_comes 10 = .ok (.aload_n 0, 1) := by decide +kernel
theorem dX10_comes_11 : decode cX10_comes 11 = .ok (.getfield 50, 3) := by decide +kernel
theorem dX10_comes_14 : decode cX10_comes 14 = .ok (.aload_n 0, 1) := by decide +kernel
theorem dX10_comes_15 : decode cX10_comes 15 = .ok (.getfield 174, 3) := by decide +kernel
theorem dX10_comes_18 : decode cX10_comes 18 = .ok (.iload_n 2, 1) := by decide +kernel
theorem dX10_comes_19 : decode cX10_comes 19 = .ok (.bastore, 1) := by decide +kernel
theorem dX10_comes_20 : decode cX10_comes 20 = .ok (.aload_n 0, 1) := by decide +kernel
theorem dX10_comes_21 : decode cX10_comes 21 = .ok (.dup, 1) := by decide +kernel
theorem dX10_comes_22 : decode cX10_comes 22 = .ok (.getfield 174, 3) := by decide +kernel
theorem dX10_comes_25 : decode cX10_comes 25 = .ok (.iconst 1, 1) := by decide +kernel
theorem dX10_comes_26 : decode cX10_comes 26 = .ok (.iadd, 1) := by decide +kernel
theorem dX10_comes_27 : decode cX10_comes 27 = .ok (.putfield 174, 3) := by decide +kernel
theorem dX10_comes_30 : decode cX10_comes 30 = .ok (.return_, 1) := by decide +kernel
theorem dX10_freeSlot_0 : decode cX10_freeSlot 0 = .ok (.iconst 0, 1) := by decide +kernel
theorem dX10_freeSlot_1 : decode cX10_freeSlot 1 = .ok (.istore_n 1, 1) := by decide +kernel
theorem dX10_freeSlot_2 : decode cX10_freeSlot 2 = .ok (.aload_n 0, 1) := by decide +kernel
theorem dX10_freeSlot_3 : decode cX10_freeSlot 3 = .ok (.iload_n 1, 1) := by decide +kernel
theorem dX10_freeSlot_4 : decode cX10_freeSlot 4 = .ok (.invokevirtual 177, 3) := by decide +kernel
theorem dX10_freeSlot_7 : decode cX10_freeSlot 7 = .ok (.ifCond .eq 9, 3) := by decide +kernel
theorem dX10_freeSlot_10 : decode cX10_freeSlot 10 = .ok (.iinc 1 1, 3) := by decide +kernel
theorem dX10_freeSlot_13 : decode cX10_freeSlot 13 = .ok (.goto (-11), 3) := by decide +kernel
theorem dX10_freeSlot_16 : decode cX10_freeSlot 16 = .ok (.iload_n 1, 1) := by decide +kernel
theorem dX10_freeSlot_17 : decode cX10_freeSlot 17 = .ok (.ireturn, 1) := by decide +kernel
theorem dX10_isUsed_0 : decode cX10_isUsed 0 = .ok (.iconst 0, 1) := by decide +kernel
theorem dX10_isUsed_1 : decode cX10_isUsed 1 = .ok (.istore_n 2, 1) := by decide +kernel
theorem dX10_isUsed_2 : decode cX10_isUsed 2 = .ok (.iconst 0, 1) := by decide +kernel
theorem dX10_isUsed_3 : decode cX10_isUsed 3 = .ok (.istore_n 3, 1) := by decide +kernel
theorem dX10_isUsed_4 : decode cX10_isUsed 4 = .ok (.iload_n 3, 1) := by decide +kernel
theorem dX10_isUsed_5 : decode cX10_isUsed 5 = .ok (.aload_n 0, 1) := by decide +kernel
theorem dX10_isUsed_6 : decode cX10_isUsed 6 = .ok (.getfield 115, 3) := by decide +kernel
theorem dX10_isUsed_9 : decode cX10_isUsed 9 = .ok (.if_icmp .ge 29, 3) := by decide +kernel
theorem dX10_isUsed_12 : decode cX10_isUsed 12 = .ok (.iload_n 2, 1) := by decide +kernel
theorem dX10_isUsed_13 : decode cX10_isUsed 13 = .ok (.ifCond .ne 13, 3) := by decide +kernel
theorem dX10_isUsed_16 : decode cX10_isUsed 16 = .ok (.aload_n 0, 1) := by decide +kernel
theorem dX10_isUsed_17 : decode cX10_isUsed 17 = .ok (.getfield 35, 3) := by decide +kernel
theorem dX10_isUsed_20 : decode cX10_isUsed 20 = .ok (.iload_n 3, 1) := by decide +kernel
theorem dX10_isUsed_21 : decode cX10_isUsed 21 = .ok (.iaload, 1) := by decide +kernel
theorem dX10_isUsed_22 : decode cX10_isUsed 22 = .ok (.iload_n 1, 1) := by decide +kernel
theorem dX10_isUsed_23 : decode cX10_isUsed 23 = .ok (.if_icmp .ne 7, 3) := by decide +kernel
theorem dX10_isUsed_26 : decode cX10_isUsed 26 = .ok (.iconst 1, 1) := by decide +kernel
theorem dX10_isUsed_27 : decode cX10_isUsed 27 = .ok (.goto 4, 3) := by decide +kernel
theorem dX10_isUsed_30 : decode cX10_isUsed 30 = .ok (.iconst 0, 1) := by decide +kernel
theorem dX10_isUsed_31 : decode cX10_isUsed 31 = .ok (.istore_n 2, 1) := by decide +kernel
theorem dX10_isUsed_32 : decode cX10_isUsed 32 = .ok (.iinc 3 1, 3) := by decide +kernel
theorem dX10_isUsed_35 : decode cX10_isUsed 35 = .ok (.goto (-31), 3) := by decide +kernel
theorem dX10_isUsed_38 : decode cX10_isUsed 38 = .ok (.iconst 0, 1) := by decide +kernel
theorem dX10_isUsed_39 : decode cX10_isUsed 39 = .ok (.istore_n 3, 1) := by decide +kernel
theorem dX10_isUsed_40 : decode cX10_isUsed 40 = .ok (.iload_n 3, 1) := by decide +kernel
theorem dX10_isUsed_41 : decode cX10_isUsed 41 = .ok (.aload_n 0, 1) := by decide +kernel
theorem dX10_isUsed_42 : decode cX10_isUsed 42 = .ok (.getfield 174, 3) := by decide +kernel
theorem dX10_isUsed_45 : decode cX10_isUsed 45 = .ok (.if_icmp .ge 29, 3) := by decide +kernel
theorem dX10_isUsed_48 : decode cX10_isUsed 48 = .ok (.iload_n 2, 1) := by decide +kernel
theorem dX10_isUsed_49 : decode cX10_isUsed 49 = .ok (.ifCond .ne 13, 3) := by decide +kernel
theorem dX10_isUsed_52 : decode cX10_isUsed 52 = .ok (.aload_n 0, 1) := by decide +kernel
theorem dX10_isUsed_53 : decode cX10_isUsed 53 = .ok (.getfield 47, 3) := by decide +kernel
theorem dX10_isUsed_56 : decode cX10_isUsed 56 = .ok (.iload_n 3, 1) := by decide +kernel
theorem dX10_isUsed_57 : decode cX10_isUsed 57 = .ok (.iaload, 1) := by decide +kernel
theorem dX10_isUsed_58 : decode cX10_isUsed 58 = .ok (.iload_n 1, 1) := by decide +kernel
theorem dX10_isUsed_59 : decode cX10_isUsed 59 = .ok (.if_icmp .ne 7, 3) := by decide +kernel
theorem dX10_isUsed_62 : decode cX10_isUsed 62 = .ok (.iconst 1, 1) := by decide +kernel
theorem dX10_isUsed_63 : decode cX10_isUsed 63 = .ok (.goto 4, 3) := by decide +kernel
theorem dX10_isUsed_66 : decode cX10_isUsed 66 = .ok (.iconst 0, 1) := by decide +kernel
theorem dX10_isUsed_67 : decode cX10_isUsed 67 = .ok (.istore_n 2, 1) := by decide +kernel
theorem dX10_isUsed_68 : decode cX10_isUsed 68 = .ok (.iinc 3 1, 3) := by decide +kernel
theorem dX10_isUsed_71 : decode cX10_isUsed 71 = .ok (.goto (-31), 3) := by decide +kernel
theorem dX10_isUsed_74 : decode cX10_isUsed 74 = .ok (.iload_n 2, 1) := by decide +kernel
theorem dX10_isUsed_75 : decode cX10_isUsed 75 = .ok (.ireturn, 1) := by decide +kernel
theorem dX10_isTaken_0 : decode cX10_isTaken 0 = .ok (.iconst 0, 1) := by decide +kernel
theorem dX10_isTaken_1 : decode cX10_isTaken 1 = .ok (.istore_n 3, 1) := by decide +kernel
theorem dX10_isTaken_2 : decode cX10_isTaken 2 = .ok (.iconst 0, 1) := by decide +kernel
theorem dX10_isTaken_3 : decode cX10_isTaken 3 = .ok (.istore 4, 2) := by decide +kernel
theorem dX10_isTaken_5 : decode cX10_isTaken 5 = .ok (.iload 4, 2) := by decide +kernel
theorem dX10_isTaken_7 : decode cX10_isTaken 7 = .ok (.aload_n 0, 1) := by decide +kernel
theorem dX10_isTaken_8 : decode cX10_isTaken 8 = .ok (.getfield 115, 3) := by decide +kernel
theorem dX10_isTaken_11 : decode cX10_isTaken 11 = .ok (.if_icmp .ge 34, 3) := by decide +kernel
theorem dX10_isTaken_14 : decode cX10_isTaken 14 = .ok (.iload_n 3, 1) := by decide +kernel
theorem dX10_isTaken_15 : decode cX10_isTaken 15 = .ok (.ifCond .ne 18, 3) := by decide +kernel
theorem dX10_isTaken_18 : decode cX10_isTaken 18 = .ok (.aload_n 0, 1) := by decide +kernel
theorem dX10_isTaken_19 : decode cX10_isTaken 19 = .ok (.aload_n 0, 1) := by decide +kernel
theorem dX10_isTaken_20 : decode cX10_isTaken 20 = .ok (.getfield 35, 3) := by decide +kernel
theorem dX10_isTaken_23 : decode cX10_isTaken 23 = .ok (.iload 4, 2) := by decide +kernel
theorem dX10_isTaken_25 : decode cX10_isTaken 25 = .ok (.iaload, 1) := by decide +kernel
theorem dX10_isTaken_26 : decode cX10_isTaken 26 = .ok (.iload_n 1, 1) := by decide +kernel
theorem dX10_isTaken_27 : decode cX10_isTaken 27 = .ok (.invokevirtual 180, 3) := by decide +kernel
theorem dX10_isTaken_30 : decode cX10_isTaken 30 = .ok (.ifCond .eq 7, 3) := by decide +kernel
theorem dX10_isTaken_33 : decode cX10_isTaken 33 = .ok (.iconst 1, 1) := by decide +kernel
theorem dX10_isTaken_34 : decode cX10_isTaken 34 = .ok (.goto 4, 3) := by decide +kernel
theorem dX10_isTaken_37 : decode cX10_isTaken 37 = .ok (.iconst 0, 1) := by decide +kernel
theorem dX10_isTaken_38 : decode cX10_isTaken 38 = .ok (.istore_n 3, 1) := by decide +kernel
theorem dX10_isTaken_39 : decode cX10_isTaken 39 = .ok (.iinc 4 1, 3) := by decide +kernel
theorem dX10_isTaken_42 : decode cX10_isTaken 42 = .ok (.goto (-37), 3) := by decide +kernel
theorem dX10_isTaken_45 : decode cX10_isTaken 45 = .ok (.iconst 0, 1) := by decide +kernel
theorem dX10_isTaken_46 : decode cX10_isTaken 46 = .ok (.istore 4, 2) := by decide +kernel
theorem dX10_isTaken_48 : decode cX10_isTaken 48 = .ok (.iload 4, 2) := by decide +kernel
theorem dX10_isTaken_50 : decode cX10_isTaken 50 = .ok (.iload_n 2, 1) := by decide +kernel
theorem dX10_isTaken_51 : decode cX10_isTaken 51 = .ok (.if_icmp .ge 44, 3) := by decide +kernel
theorem dX10_isTaken_54 : decode cX10_isTaken 54 = .ok (.iload_n 3, 1) := by decide +kernel
theorem dX10_isTaken_55 : decode cX10_isTaken 55 = .ok (.ifCond .ne 28, 3) := by decide +kernel
theorem dX10_isTaken_58 : decode cX10_isTaken 58 = .ok (.aload_n 0, 1) := by decide +kernel
theorem dX10_isTaken_59 : decode cX10_isTaken 59 = .ok (.getfield 50, 3) := by decide +kernel
theorem dX10_isTaken_62 : decode cX10_isTaken 62 = .ok (.iload 4, 2) := by decide +kernel
theorem dX10_isTaken_64 : decode cX10_isTaken 64 = .ok (.baload, 1) := by decide +kernel
theorem dX10_isTaken_65 : decode cX10_isTaken 65 = .ok (.ifCond .eq 22, 3) := by decide +kernel
theorem dX10_isTaken_68 : decode cX10_isTaken 68 = .ok (.aload_n 0, 1) := by decide +kernel
theorem dX10_isTaken_69 : decode cX10_isTaken 69 = .ok (.aload_n 0, 1) := by decide +kernel
theorem dX10_isTaken_70 : decode cX10_isTaken 70 = .ok (.getfield 47, 3) := by decide +kernel
theorem dX10_isTaken_73 : decode cX10_isTaken 73 = .ok (.iload 4, 2) := by decide +kernel
theorem dX10_isTaken_75 : decode cX10_isTaken 75 = .ok (.iaload, 1) := by decide +kernel
theorem dX10_isTaken_76 : decode cX10_isTaken 76 = .ok (.iload_n 1, 1) := by decide +kernel
theorem dX10_isTaken_77 : decode cX10_isTaken 77 = .ok (.invokevirtual 180, 3) := by decide +kernel
theorem dX10_isTaken_80 : decode cX10_isTaken 80 = .ok (.ifCond .eq 7, 3) := by decide +kernel
theorem dX10_isTaken_83 : decode cX10_isTaken 83 = .ok (.iconst 1, 1) := by decide +kernel
theorem dX10_isTaken_84 : decode cX10_isTaken 84 = .ok (.goto 4, 3) := by decide +kernel
theorem dX10_isTaken_87 : decode cX10_isTaken 87 = .ok (.iconst 0, 1) := by decide +kernel
theorem dX10_isTaken_88 : decode cX10_isTaken 88 = .ok (.istore_n 3, 1) := by decide +kernel
theorem dX10_isTaken_89 : decode cX10_isTaken 89 = .ok (.iinc 4 1, 3) := by decide +kernel
theorem dX10_isTaken_92 : decode cX10_isTaken 92 = .ok (.goto (-44), 3) := by decide +kernel
theorem dX10_isTaken_95 : decode cX10_isTaken 95 = .ok (.iload_n 3, 1) := by decide +kernel
theorem dX10_isTaken_96 : decode cX10_isTaken 96 = .ok (.ireturn, 1) := by decide +kernel
theorem dX10_isOf_0 : decode cX10_isOf 0 = .ok (.iload_n 2, 1) := by decide +kernel
theorem dX10_isOf_1 : decode cX10_isOf 1 = .ok (.aload_n 0, 1) := by decide +kernel
theorem dX10_isOf_2 : decode cX10_isOf 2 = .ok (.getfield 23, 3) := by decide +kernel
theorem dX10_isOf_5 : decode cX10_isOf 5 = .ok (.iload_n 1, 1) := by decide +kernel
theorem dX10_isOf_6 : decode cX10_isOf 6 = .ok (.iaload, 1) := by decide +kernel
theorem dX10_isOf_7 : decode cX10_isOf 7 = .ok (.if_icmp .lt 24, 3) := by decide +kernel
theorem dX10_isOf_10 : decode cX10_isOf 10 = .ok (.iload_n 2, 1) := by decide +kernel
theorem dX10_isOf_11 : decode cX10_isOf 11 = .ok (.aload_n 0, 1) := by decide +kernel
theorem dX10_isOf_12 : decode cX10_isOf 12 = .ok (.getfield 23, 3) := by decide +kernel
theorem dX10_isOf_15 : decode cX10_isOf 15 = .ok (.iload_n 1, 1) := by decide +kernel
theorem dX10_isOf_16 : decode cX10_isOf 16 = .ok (.iaload, 1) := by decide +kernel
theorem dX10_isOf_17 : decode cX10_isOf 17 = .ok (.aload_n 0, 1) := by decide +kernel
theorem dX10_isOf_18 : decode cX10_isOf 18 = .ok (.getfield 26, 3) := by decide +kernel
theorem dX10_isOf_21 : decode cX10_isOf 21 = .ok (.iload_n 1, 1) := by decide +kernel
theorem dX10_isOf_22 : decode cX10_isOf 22 = .ok (.iaload, 1) := by decide +kernel
theorem dX10_isOf_23 : decode cX10_isOf 23 = .ok (.iadd, 1) := by decide +kernel
theorem dX10_isOf_24 : decode cX10_isOf 24 = .ok (.if_icmp .ge 7, 3) := by decide +kernel
theorem dX10_isOf_27 : decode cX10_isOf 27 = .ok (.iconst 1, 1) := by decide +kernel
theorem dX10_isOf_28 : decode cX10_isOf 28 = .ok (.goto 4, 3) := by decide +kernel
theorem dX10_isOf_31 : decode cX10_isOf 31 = .ok (.iconst 0, 1) := by decide +kernel
theorem dX10_isOf_32 : decode cX10_isOf 32 = .ok (.ireturn, 1) := by decide +kernel
abbrev rm_X10_read : Room := { frames := 2, cells := 0, slots := 0, locals := 47 }
theorem hd_X10_read : yX10_read.cls = RX10 ∧ yX10_read.cls ≠ "java/lang/invoke/MethodHandle" ∧ yX10_read.cls ≠ "java/lang/invoke/VarHandle" ∧ (parseMethodDescriptor yX10_read.desc).map (fun d => d.parameters.length) = some 1 := by decide +kernel
set_option maxHeartbeats 4000000 in
set_option maxRecDepth 100000 in
theorem c_X10_read (l : Launch) (G : va_G) (cI cZ cJ : ClassId) (aM aMdisk aMits aMmany aMplace aMlength aMtimes aMvalues aMorder aMheadOf aMheadTime aMheadValue aMnext aMisNew aMcursorTime aMcursorValue aMmade : Nat) (M_thrown : Int32) (M_series : Int32) (M_most : Int32) (M_ratio : Int32) (M_writes : Int32) (M_fuse : Int32) (M_down : Int32) (M_recovers : Int32) (M_looks : Int32) (M_unpacked : Int32) (M_chunks : Int32) (M_epoch : Int32) (M_side : Int32) (M_logged : Int32) (M_nexts : Int32) (M_hasCursor : Int32) (M_cursorMany : Int32) (M_cursorAt : Int32) (M_bits : Int32) (M_from : Int32) (M_askMany : Int32) (M_askLeast : Int32) (M_askGreatest : Int32) (M_askSum : Int64) (M_disk : Nat → Int32) (M_many : Nat → Int32) (M_place : Nat → Int32) (M_times : Nat → Int32) (M_values : Nat → Int32) (p0 : Int32) {o_M_bits : Int32} {o_M_from : Int32} {o_M_times : Nat → Int32} {o_M_values : Nat → Int32} (hfin : m_X10_read M_bits M_from M_disk M_many M_place M_times M_values p0 = some (o_M_bits, o_M_from, o_M_times, o_M_values)) : CT l yX10_read cX10_read 6 none rm_X10_read G (tyC cI cZ cJ) [.ref aM, .int p0] [oX10 aM M_thrown M_series M_most M_ratio aMdisk M_writes M_fuse M_down M_recovers M_looks M_unpacked aMits aMmany aMplace aMlength aMtimes aMvalues aMorder M_chunks M_epoch M_side aMheadOf aMheadTime aMheadValue M_logged aMnext aMisNew M_nexts aMcursorTime aMcursorValue M_hasCursor M_cursorMany M_cursorAt aMmade M_bits M_from M_askMany M_askLeast M_askGreatest M_askSum, rI aMdisk cI 4096 M_disk, rI aMmany cI 240 M_many, rI aMplace cI 240 M_place, rI aMtimes cI 15360 M_times, rI aMvalues cI 15360 M_values] none [oX10 aM M_thrown M_series M_most M_ratio aMdisk M_writes M_fuse M_down M_recovers M_looks M_unpacked aMits aMmany aMplace aMlength aMtimes aMvalues aMorder M_chunks M_epoch M_side aMheadOf aMheadTime aMheadValue M_logged aMnext aMisNew M_nexts aMcursorTime aMcursorValue M_hasCursor M_cursorMany M_cursorAt aMmade o_M_bits o_M_from M_askMany M_askLeast M_askGreatest M_askSum, rI aMdisk cI 4096 M_disk, rI aMmany cI 240 M_many, rI aMplace cI 240 M_place, rI aMtimes cI 15360 o_M_times, rI aMvalues cI 15360 o_M_values] := by
  refine CT.ofW (lvl := [(0, .ref aM), (1, .int p0)]) (by decide) (Nat.le_of_ble_eq_true rfl) rfl ?_
  intro p e s m args below meth c A ls0 QQ hQQ hx hb hml hr hlocks htc hN hown hK hA hw0 hl0
  rw [m_X10_read] at hfin
  refine lv_bipush (v := (64 : Int32)) hx hb dX10_read_0 (by decide) ?_
  refine lv_iload_n hx hb dX10_read_2 rfl (lv_at hl0 1 rfl) ?_
  refine lv_imul hx hb dX10_read_3 ?_
  refine lv_istore_n (lv' := [(2, .int ((64 : Int32) * p0)), (0, .ref aM), (1, .int p0)]) hx hb dX10_read_4 rfl hl0 (by decide) rfl (fun ls1 hl1 => ?_)
  clear hl0 ls0
  refine lv_aload_n hx hb dX10_read_5 rfl (lv_at hl1 1 rfl) ?_
  refine va_get (D := G) (ci := 10) (v := .ref aMtimes) (C := RX10) (T := TX10) (N := 40) hx hb htc iX10 hown hK hw0.1 0 rfl rfl 15 (by decide) (htc _ mw_962) (fun _ h9 => h9) rfl dX10_read_6 ?_
  refine lv_iload_n hx hb dX10_read_9 rfl (lv_at hl1 0 rfl) ?_
  refine lv_aload_n hx hb dX10_read_10 rfl (lv_at hl1 1 rfl) ?_
  refine va_get (D := G) (ci := 10) (v := .ref aMdisk) (C := RX10) (T := TX10) (N := 40) hx hb htc iX10 hown hK hw0.1 0 rfl rfl 4 (by decide) (htc _ mw_951) (fun _ h9 => h9) rfl dX10_read_11 ?_
  refine lv_aload_n hx hb dX10_read_14 rfl (lv_at hl1 1 rfl) ?_
  refine va_get (D := G) (ci := 10) (v := .ref aMplace) (C := RX10) (T := TX10) (N := 40) hx hb htc iX10 hown hK hw0.1 0 rfl rfl 13 (by decide) (htc _ mw_960) (fun _ h9 => h9) rfl dX10_read_15 ?_
  refine lv_iload_n hx hb dX10_read_18 rfl (lv_at hl1 2 rfl) ?_
  replace hfin := ckb_some hfin
  obtain ⟨hin_2, hfin⟩ := hfin
  refine va_iald hx hb hK hw0.1 3 0 rfl rfl hin_2 dX10_read_19 ?_
  replace hfin := ckb_some hfin
  obtain ⟨hin_3, hfin⟩ := hfin
  refine va_iald hx hb hK hw0.1 1 0 rfl rfl hin_3 dX10_read_20 ?_
  replace hfin := ckb_some hfin
  obtain ⟨hin_4, hfin⟩ := hfin
  refine va_iast hx hb hK hw0.1 hw0.2.1 hw0.2.2 4 0 rfl rfl hin_4 dX10_read_21 (fun H5 locs5 hP hD hS => ?_)
  have hw5 : wS G A s H5 locs5 [oX10 aM M_thrown M_series M_most M_ratio aMdisk M_writes M_fuse M_down M_recovers M_looks M_unpacked aMits aMmany aMplace aMlength aMtimes aMvalues aMorder M_chunks M_epoch M_side aMheadOf aMheadTime aMheadValue M_logged aMnext aMisNew M_nexts aMcursorTime aMcursorValue M_hasCursor M_cursorMany M_cursorAt aMmade M_bits M_from M_askMany M_askLeast M_askGreatest M_askSum, rI aMdisk cI 4096 M_disk, rI aMmany cI 240 M_many, rI aMplace cI 240 M_place, rI aMtimes cI 15360 (upd M_times (Int32.toNatClampNeg ((64 : Int32) * p0)) (M_disk (Int32.toNatClampNeg (M_place (Int32.toNatClampNeg p0))))), rI aMvalues cI 15360 M_values] := ⟨hP, hD, hS⟩
  clear hP hD hS hw0
  refine lv_aload_n hx hb dX10_read_22 rfl (lv_at hl1 1 rfl) ?_
  refine va_get (D := G) (ci := 10) (v := .ref aMvalues) (C := RX10) (T := TX10) (N := 40) hx hb htc iX10 hown hK hw5.1 0 rfl rfl 16 (by decide) (htc _ mw_963) (fun _ h9 => h9) rfl dX10_read_23 ?_
  refine lv_iload_n hx hb dX10_read_26 rfl (lv_at hl1 0 rfl) ?_
  refine lv_aload_n hx hb dX10_read_27 rfl (lv_at hl1 1 rfl) ?_
  refine va_get (D := G) (ci := 10) (v := .ref aMdisk) (C := RX10) (T := TX10) (N := 40) hx hb htc iX10 hown hK hw5.1 0 rfl rfl 4 (by decide) (htc _ mw_951) (fun _ h9 => h9) rfl dX10_read_28 ?_
  refine lv_aload_n hx hb dX10_read_31 rfl (lv_at hl1 1 rfl) ?_
  refine va_get (D := G) (ci := 10) (v := .ref aMplace) (C := RX10) (T := TX10) (N := 40) hx hb htc iX10 hown hK hw5.1 0 rfl rfl 13 (by decide) (htc _ mw_960) (fun _ h9 => h9) rfl dX10_read_32 ?_
  refine lv_iload_n hx hb dX10_read_35 rfl (lv_at hl1 2 rfl) ?_
  replace hfin := ckb_some hfin
  obtain ⟨hin_6, hfin⟩ := hfin
  refine va_iald hx hb hK hw5.1 3 0 rfl rfl hin_6 dX10_read_36 ?_
  refine lv_iconst (v := (1 : Int32)) hx hb dX10_read_37 (by decide) ?_
  refine lv_iadd hx hb dX10_read_38 ?_
  replace hfin := ckb_some hfin
  obtain ⟨hin_7, hfin⟩ := hfin
  refine va_iald hx hb hK hw5.1 1 0 rfl rfl hin_7 dX10_read_39 ?_
  replace hfin := ckb_some hfin
  obtain ⟨hin_8, hfin⟩ := hfin
  refine va_iast hx hb hK hw5.1 hw5.2.1 hw5.2.2 5 0 rfl rfl hin_8 dX10_read_40 (fun H9 locs9 hP hD hS => ?_)
  have hw9 : wS G A s H9 locs9 [oX10 aM M_thrown M_series M_most M_ratio aMdisk M_writes M_fuse M_down M_recovers M_looks M_unpacked aMits aMmany aMplace aMlength aMtimes aMvalues aMorder M_chunks M_epoch M_side aMheadOf aMheadTime aMheadValue M_logged aMnext aMisNew M_nexts aMcursorTime aMcursorValue M_hasCursor M_cursorMany M_cursorAt aMmade M_bits M_from M_askMany M_askLeast M_askGreatest M_askSum, rI aMdisk cI 4096 M_disk, rI aMmany cI 240 M_many, rI aMplace cI 240 M_place, rI aMtimes cI 15360 (upd M_times (Int32.toNatClampNeg ((64 : Int32) * p0)) (M_disk (Int32.toNatClampNeg (M_place (Int32.toNatClampNeg p0))))), rI aMvalues cI 15360 (upd M_values (Int32.toNatClampNeg ((64 : Int32) * p0)) (M_disk (Int32.toNatClampNeg ((M_place (Int32.toNatClampNeg p0)) + (1 : Int32)))))] := ⟨hP, hD, hS⟩
  clear hP hD hS hw5 H5 locs5
  refine lv_aload_n hx hb dX10_read_41 rfl (lv_at hl1 1 rfl) ?_
  refine lv_aload_n hx hb dX10_read_42 rfl (lv_at hl1 1 rfl) ?_
  refine va_get (D := G) (ci := 10) (v := .ref aMplace) (C := RX10) (T := TX10) (N := 40) hx hb htc iX10 hown hK hw9.1 0 rfl rfl 13 (by decide) (htc _ mw_960) (fun _ h9 => h9) rfl dX10_read_43 ?_
  refine lv_iload_n hx hb dX10_read_46 rfl (lv_at hl1 2 rfl) ?_
  replace hfin := ckb_some hfin
  obtain ⟨hin_10, hfin⟩ := hfin
  refine va_iald hx hb hK hw9.1 3 0 rfl rfl hin_10 dX10_read_47 ?_
  refine lv_iconst (v := (2 : Int32)) hx hb dX10_read_48 (by decide) ?_
  refine lv_iadd hx hb dX10_read_49 ?_
  refine va_put (D := G) (ci := 10) (v := .int ((M_place (Int32.toNatClampNeg p0)) + (2 : Int32))) (ty := .int) (C := RX10) (T := TX10) (N := 40) hx hb htc iX10 tyX10 tyX10_ok nmX10 hown hK hw9.1 hw9.2.1 hw9.2.2 0 rfl rfl 35 (by decide) (htc _ mw_982) (fun _ h9 => h9) rfl (tyX10_ok 35 (by decide)) rfl rfl (Nat.le_of_ble_eq_true rfl) dX10_read_50 (fun H11 locs11 hP hD hS => ?_)
  have hw11 : wS G A s H11 locs11 [oX10 aM M_thrown M_series M_most M_ratio aMdisk M_writes M_fuse M_down M_recovers M_looks M_unpacked aMits aMmany aMplace aMlength aMtimes aMvalues aMorder M_chunks M_epoch M_side aMheadOf aMheadTime aMheadValue M_logged aMnext aMisNew M_nexts aMcursorTime aMcursorValue M_hasCursor M_cursorMany M_cursorAt aMmade M_bits ((M_place (Int32.toNatClampNeg p0)) + (2 : Int32)) M_askMany M_askLeast M_askGreatest M_askSum, rI aMdisk cI 4096 M_disk, rI aMmany cI 240 M_many, rI aMplace cI 240 M_place, rI aMtimes cI 15360 (upd M_times (Int32.toNatClampNeg ((64 : Int32) * p0)) (M_disk (Int32.toNatClampNeg (M_place (Int32.toNatClampNeg p0))))), rI aMvalues cI 15360 (upd M_values (Int32.toNatClampNeg ((64 : Int32) * p0)) (M_disk (Int32.toNatClampNeg ((M_place (Int32.toNatClampNeg p0)) + (1 : Int32)))))] := ⟨hP, hD, hS⟩
  clear hP hD hS hw9 H9 locs9
  refine lv_aload_n hx hb dX10_read_53 rfl (lv_at hl1 1 rfl) ?_
  refine lv_iconst (v := (0 : Int32)) hx hb dX10_read_54 (by decide) ?_
  refine va_put (D := G) (ci := 10) (v := .int (0 : Int32)) (ty := .int) (C := RX10) (T := TX10) (N := 40) hx hb htc iX10 tyX10 tyX10_ok nmX10 hown hK hw11.1 hw11.2.1 hw11.2.2 0 rfl rfl 34 (by decide) (htc _ mw_981) (fun _ h9 => h9) rfl (tyX10_ok 34 (by decide)) rfl rfl (Nat.le_of_ble_eq_true rfl) dX10_read_55 (fun H12 locs12 hP hD hS => ?_)
  have hw12 : wS G A s H12 locs12 [oX10 aM M_thrown M_series M_most M_ratio aMdisk M_writes M_fuse M_down M_recovers M_looks M_unpacked aMits aMmany aMplace aMlength aMtimes aMvalues aMorder M_chunks M_epoch M_side aMheadOf aMheadTime aMheadValue M_logged aMnext aMisNew M_nexts aMcursorTime aMcursorValue M_hasCursor M_cursorMany M_cursorAt aMmade (0 : Int32) ((M_place (Int32.toNatClampNeg p0)) + (2 : Int32)) M_askMany M_askLeast M_askGreatest M_askSum, rI aMdisk cI 4096 M_disk, rI aMmany cI 240 M_many, rI aMplace cI 240 M_place, rI aMtimes cI 15360 (upd M_times (Int32.toNatClampNeg ((64 : Int32) * p0)) (M_disk (Int32.toNatClampNeg (M_place (Int32.toNatClampNeg p0))))), rI aMvalues cI 15360 (upd M_values (Int32.toNatClampNeg ((64 : Int32) * p0)) (M_disk (Int32.toNatClampNeg ((M_place (Int32.toNatClampNeg p0)) + (1 : Int32)))))] := ⟨hP, hD, hS⟩
  clear hP hD hS hw11 H11 locs11
  refine lv_lconst (v := (0 : Int64)) hx hb dX10_read_58 (by decide) ?_
  refine lv_lstore_n (lv' := [(3, .long (0 : Int64)), (2, .int ((64 : Int32) * p0)), (0, .ref aM), (1, .int p0)]) hx hb dX10_read_59 rfl hl1 (by decide) rfl (fun ls13 hl13 => ?_)
  clear hl1 ls1
  refine lv_iconst (v := (1 : Int32)) hx hb dX10_read_60 (by decide) ?_
  refine lv_istore (lv' := [(5, .int (1 : Int32)), (3, .long (0 : Int64)), (2, .int ((64 : Int32) * p0)), (0, .ref aM), (1, .int p0)]) hx hb dX10_read_61 hl13 (by decide) rfl (fun ls14 hl14 => ?_)
  clear hl13 ls13
  replace hfin := ob3_some hfin
  obtain ⟨M_bits_24, M_times_25, M_values_26, hL_20, hfin⟩ := hfin
  have kx_21 : ∀ (H : Heap) (locs : List Loc) (ls : Array Slot), wS G A s H locs [oX10 aM M_thrown M_series M_most M_ratio aMdisk M_writes M_fuse M_down M_recovers M_looks M_unpacked aMits aMmany aMplace aMlength aMtimes aMvalues aMorder M_chunks M_epoch M_side aMheadOf aMheadTime aMheadValue M_logged aMnext aMisNew M_nexts aMcursorTime aMcursorValue M_hasCursor M_cursorMany M_cursorAt aMmade M_bits_24 ((M_place (Int32.toNatClampNeg p0)) + (2 : Int32)) M_askMany M_askLeast M_askGreatest M_askSum, rI aMdisk cI 4096 M_disk, rI aMmany cI 240 M_many, rI aMplace cI 240 M_place, rI aMtimes cI 15360 M_times_25, rI aMvalues cI 15360 M_values_26] → lv_has ls 6 [] → W p l e rm_X10_read s m args below meth c H locs 0 0 QQ (F0 m 136 ls []) := by
    clear hw12 H12 locs12 hl14 ls14 hL_20
    intro H46 locs46 ls46 hw46 hl46
    cases hfin
    rw [hQQ]
    exact ct_vret hx hb hr hlocks hw46.1 hw46.2.1 hw46.2.2 dX10_read_136
  have lp_22 : ∀ (n : Nat) (v3_15 : Int64) (v5_16 : Int32) (M_bits_17 : Int32) (M_times_18 : Nat → Int32) (M_values_19 : Nat → Int32), lp_X10_read_63 M_disk M_many M_place p0 n v3_15 v5_16 M_bits_17 M_times_18 M_values_19 = some (M_bits_24, M_times_25, M_values_26) → ∀ (H : Heap) (locs : List Loc) (ls : Array Slot), wS G A s H locs [oX10 aM M_thrown M_series M_most M_ratio aMdisk M_writes M_fuse M_down M_recovers M_looks M_unpacked aMits aMmany aMplace aMlength aMtimes aMvalues aMorder M_chunks M_epoch M_side aMheadOf aMheadTime aMheadValue M_logged aMnext aMisNew M_nexts aMcursorTime aMcursorValue M_hasCursor M_cursorMany M_cursorAt aMmade M_bits_17 ((M_place (Int32.toNatClampNeg p0)) + (2 : Int32)) M_askMany M_askLeast M_askGreatest M_askSum, rI aMdisk cI 4096 M_disk, rI aMmany cI 240 M_many, rI aMplace cI 240 M_place, rI aMtimes cI 15360 M_times_18, rI aMvalues cI 15360 M_values_19] → lv_has ls 6 [(0, .ref aM), (1, .int p0), (2, .int ((64 : Int32) * p0)), (3, .long v3_15), (5, .int v5_16)] → W p l e rm_X10_read s m args below meth c H locs 0 0 QQ (F0 m 63 ls []) := by
    clear hw12 H12 locs12 hl14 ls14 hfin
    intro n
    induction n with
    | zero =>
      intro v3_15 v5_16 M_bits_17 M_times_18 M_values_19 hB_23
      exact absurd hB_23 (by rw [lp_X10_read_63]; exact fun h9 => nomatch h9)
    | succ n ih =>
      intro v3_15 v5_16 M_bits_17 M_times_18 M_values_19 hB_23 H27 locs27 ls27 hw27 hl27
      rw [lp_X10_read_63] at hB_23
      refine lv_iload hx hb dX10_read_63 (lv_at hl27 4 rfl) ?_
      refine lv_aload_n hx hb dX10_read_65 rfl (lv_at hl27 0 rfl) ?_
      refine va_get (D := G) (ci := 10) (v := .ref aMmany) (C := RX10) (T := TX10) (N := 40) hx hb htc iX10 hown hK hw27.1 0 rfl rfl 12 (by decide) (htc _ mw_959) (fun _ h9 => h9) rfl dX10_read_66 ?_
      refine lv_iload_n hx hb dX10_read_69 rfl (lv_at hl27 1 rfl) ?_
      replace hB_23 := ckb_some hB_23
      obtain ⟨hin_28, hB_23⟩ := hB_23
      refine va_iald hx hb hK hw27.1 2 0 rfl rfl hin_28 dX10_read_70 ?_
      refine lv_icmp_ge (tgt := 136) hx hb dX10_read_71 (by decide) (fun c_29 => ?_) (fun c_29 => ?_)
      · replace hB_23 := it_t c_29 hB_23
        cases hB_23
        exact kx_21 _ _ _ hw27 (lv_sub hl27 [] rfl)
      · replace hB_23 := it_f c_29 hB_23
        refine lv_lload_n hx hb dX10_read_74 rfl (lv_at hl27 3 rfl) ?_
        refine lv_aload_n hx hb dX10_read_75 rfl (lv_at hl27 0 rfl) ?_
        replace hB_23 := ob2_some hB_23
        obtain ⟨r_31, M_bits_32, hE_30, hB_23⟩ := hB_23
        refine ctV (a := aM) (As := []) (rest := [.long v3_15]) (st1 := [.long r_31, .long v3_15]) (wc := [oX10 aM M_thrown M_series M_most M_ratio aMdisk M_writes M_fuse M_down M_recovers M_looks M_unpacked aMits aMmany aMplace aMlength aMtimes aMvalues aMorder M_chunks M_epoch M_side aMheadOf aMheadTime aMheadValue M_logged aMnext aMisNew M_nexts aMcursorTime aMcursorValue M_hasCursor M_cursorMany M_cursorAt aMmade M_bits_17 ((M_place (Int32.toNatClampNeg p0)) + (2 : Int32)) M_askMany M_askLeast M_askGreatest M_askSum, rI aMdisk cI 4096 M_disk]) (w1 := [oX10 aM M_thrown M_series M_most M_ratio aMdisk M_writes M_fuse M_down M_recovers M_looks M_unpacked aMits aMmany aMplace aMlength aMtimes aMvalues aMorder M_chunks M_epoch M_side aMheadOf aMheadTime aMheadValue M_logged aMnext aMisNew M_nexts aMcursorTime aMcursorValue M_hasCursor M_cursorMany M_cursorAt aMmade M_bits_32 ((M_place (Int32.toNatClampNeg p0)) + (2 : Int32)) M_askMany M_askLeast M_askGreatest M_askSum, rI aMdisk cI 4096 M_disk]) (wr := [rI aMmany cI 240 M_many, rI aMplace cI 240 M_place, rI aMtimes cI 15360 M_times_18, rI aMvalues cI 15360 M_values_19]) (wb := [oX10 aM M_thrown M_series M_most M_ratio aMdisk M_writes M_fuse M_down M_recovers M_looks M_unpacked aMits aMmany aMplace aMlength aMtimes aMvalues aMorder M_chunks M_epoch M_side aMheadOf aMheadTime aMheadValue M_logged aMnext aMisNew M_nexts aMcursorTime aMcursorValue M_hasCursor M_cursorMany M_cursorAt aMmade M_bits_32 ((M_place (Int32.toNatClampNeg p0)) + (2 : Int32)) M_askMany M_askLeast M_askGreatest M_askSum, rI aMdisk cI 4096 M_disk, rI aMmany cI 240 M_many, rI aMplace cI 240 M_place, rI aMtimes cI 15360 M_times_18, rI aMvalues cI 15360 M_values_19]) (v := (some (.long r_31))) hx hb hml hown htc hN (c_X10_takeStep l G cI cZ cJ aM aMdisk aMits aMmany aMplace aMlength aMtimes aMvalues aMorder aMheadOf aMheadTime aMheadValue aMnext aMisNew aMcursorTime aMcursorValue aMmade M_thrown M_series M_most M_ratio M_writes M_fuse M_down M_recovers M_looks M_unpacked M_chunks M_epoch M_side M_logged M_nexts M_hasCursor M_cursorMany M_cursorAt M_bits_17 ((M_place (Int32.toNatClampNeg p0)) + (2 : Int32)) M_askMany M_askLeast M_askGreatest M_askSum M_disk  hE_30) mw_1297 mw_1299 mp_72 mw_12 mw_1300 hd_X10_takeStep ⟨rfl, rfl⟩ ⟨Nat.le_of_ble_eq_true rfl, Nat.le_of_ble_eq_true rfl⟩ hK hw27 hA [0, 1] [2, 3, 4, 5] [4, 5, 0, 1, 2, 3] rfl rfl rfl rfl rfl (by decide) rfl rfl rfl 0 rfl rfl rfl rfl hl27.1 rfl rfl (Nat.le_of_ble_eq_true rfl) dX10_read_76 ⟨Nat.zero_le _, Nat.zero_le _⟩ (fun H33 locs33 hw33 => ?_)
        clear hw27 H27 locs27
        refine lv_ladd hx hb dX10_read_79 ?_
        refine lv_lstore_n (lv' := [(3, .long (v3_15 + r_31)), (0, .ref aM), (1, .int p0), (2, .int ((64 : Int32) * p0)), (5, .int v5_16)]) hx hb dX10_read_80 rfl hl27 (by decide) rfl (fun ls34 hl34 => ?_)
        clear hl27 ls27
        refine lv_aload_n hx hb dX10_read_81 rfl (lv_at hl34 1 rfl) ?_
        refine va_get (D := G) (ci := 10) (v := .ref aMtimes) (C := RX10) (T := TX10) (N := 40) hx hb htc iX10 hown hK hw33.1 0 rfl rfl 15 (by decide) (htc _ mw_962) (fun _ h9 => h9) rfl dX10_read_82 ?_
        refine lv_iload_n hx hb dX10_read_85 rfl (lv_at hl34 3 rfl) ?_
        refine lv_iload hx hb dX10_read_86 (lv_at hl34 4 rfl) ?_
        refine lv_iadd hx hb dX10_read_88 ?_
        refine lv_aload_n hx hb dX10_read_89 rfl (lv_at hl34 1 rfl) ?_
        refine va_get (D := G) (ci := 10) (v := .ref aMtimes) (C := RX10) (T := TX10) (N := 40) hx hb htc iX10 hown hK hw33.1 0 rfl rfl 15 (by decide) (htc _ mw_962) (fun _ h9 => h9) rfl dX10_read_90 ?_
        refine lv_iload_n hx hb dX10_read_93 rfl (lv_at hl34 3 rfl) ?_
        refine lv_iload hx hb dX10_read_94 (lv_at hl34 4 rfl) ?_
        refine lv_iadd hx hb dX10_read_96 ?_
        refine lv_iconst (v := (1 : Int32)) hx hb dX10_read_97 (by decide) ?_
        refine lv_isub hx hb dX10_read_98 ?_
        replace hB_23 := ckb_some hB_23
        obtain ⟨hin_35, hB_23⟩ := hB_23
        refine va_iald hx hb hK hw33.1 4 0 rfl rfl hin_35 dX10_read_99 ?_
        refine lv_i2l hx hb dX10_read_100 rfl ?_
        refine lv_lload_n hx hb dX10_read_101 rfl (lv_at hl34 0 rfl) ?_
        refine lv_ladd hx hb dX10_read_102 ?_
        refine lv_l2i hx hb dX10_read_103 rfl ?_
        replace hB_23 := ckb_some hB_23
        obtain ⟨hin_36, hB_23⟩ := hB_23
        refine va_iast hx hb hK hw33.1 hw33.2.1 hw33.2.2 4 0 rfl rfl hin_36 dX10_read_104 (fun H37 locs37 hP hD hS => ?_)
        have hw37 : wS G A s H37 locs37 [oX10 aM M_thrown M_series M_most M_ratio aMdisk M_writes M_fuse M_down M_recovers M_looks M_unpacked aMits aMmany aMplace aMlength aMtimes aMvalues aMorder M_chunks M_epoch M_side aMheadOf aMheadTime aMheadValue M_logged aMnext aMisNew M_nexts aMcursorTime aMcursorValue M_hasCursor M_cursorMany M_cursorAt aMmade M_bits_32 ((M_place (Int32.toNatClampNeg p0)) + (2 : Int32)) M_askMany M_askLeast M_askGreatest M_askSum, rI aMdisk cI 4096 M_disk, rI aMmany cI 240 M_many, rI aMplace cI 240 M_place, rI aMtimes cI 15360 (upd M_times_18 (Int32.toNatClampNeg (((64 : Int32) * p0) + v5_16)) (Int64.toInt32 ((Int32.toInt64 (M_times_18 (Int32.toNatClampNeg ((((64 : Int32) * p0) + v5_16) - (1 : Int32))))) + (v3_15 + r_31)))), rI aMvalues cI 15360 M_values_19] := ⟨hP, hD, hS⟩
        clear hP hD hS hw33 H33 locs33
        refine lv_aload_n hx hb dX10_read_105 rfl (lv_at hl34 1 rfl) ?_
        refine va_get (D := G) (ci := 10) (v := .ref aMvalues) (C := RX10) (T := TX10) (N := 40) hx hb htc iX10 hown hK hw37.1 0 rfl rfl 16 (by decide) (htc _ mw_963) (fun _ h9 => h9) rfl dX10_read_106 ?_
        refine lv_iload_n hx hb dX10_read_109 rfl (lv_at hl34 3 rfl) ?_
        refine lv_iload hx hb dX10_read_110 (lv_at hl34 4 rfl) ?_
        refine lv_iadd hx hb dX10_read_112 ?_
        refine lv_aload_n hx hb dX10_read_113 rfl (lv_at hl34 1 rfl) ?_
        refine va_get (D := G) (ci := 10) (v := .ref aMvalues) (C := RX10) (T := TX10) (N := 40) hx hb htc iX10 hown hK hw37.1 0 rfl rfl 16 (by decide) (htc _ mw_963) (fun _ h9 => h9) rfl dX10_read_114 ?_
        refine lv_iload_n hx hb dX10_read_117 rfl (lv_at hl34 3 rfl) ?_
        refine lv_iload hx hb dX10_read_118 (lv_at hl34 4 rfl) ?_
        refine lv_iadd hx hb dX10_read_120 ?_
        refine lv_iconst (v := (1 : Int32)) hx hb dX10_read_121 (by decide) ?_
        refine lv_isub hx hb dX10_read_122 ?_
        replace hB_23 := ckb_some hB_23
        obtain ⟨hin_38, hB_23⟩ := hB_23
        refine va_iald hx hb hK hw37.1 5 0 rfl rfl hin_38 dX10_read_123 ?_
        refine lv_aload_n hx hb dX10_read_124 rfl (lv_at hl34 1 rfl) ?_
        replace hB_23 := ob2_some hB_23
        obtain ⟨r_40, M_bits_41, hE_39, hB_23⟩ := hB_23
        refine ctV (a := aM) (As := []) (rest := [.int (M_values_19 (Int32.toNatClampNeg ((((64 : Int32) * p0) + v5_16) - (1 : Int32)))), .int (((64 : Int32) * p0) + v5_16), .ref aMvalues]) (st1 := [.int r_40, .int (M_values_19 (Int32.toNatClampNeg ((((64 : Int32) * p0) + v5_16) - (1 : Int32)))), .int (((64 : Int32) * p0) + v5_16), .ref aMvalues]) (wc := [oX10 aM M_thrown M_series M_most M_ratio aMdisk M_writes M_fuse M_down M_recovers M_looks M_unpacked aMits aMmany aMplace aMlength aMtimes aMvalues aMorder M_chunks M_epoch M_side aMheadOf aMheadTime aMheadValue M_logged aMnext aMisNew M_nexts aMcursorTime aMcursorValue M_hasCursor M_cursorMany M_cursorAt aMmade M_bits_32 ((M_place (Int32.toNatClampNeg p0)) + (2 : Int32)) M_askMany M_askLeast M_askGreatest M_askSum, rI aMdisk cI 4096 M_disk]) (w1 := [oX10 aM M_thrown M_series M_most M_ratio aMdisk M_writes M_fuse M_down M_recovers M_looks M_unpacked aMits aMmany aMplace aMlength aMtimes aMvalues aMorder M_chunks M_epoch M_side aMheadOf aMheadTime aMheadValue M_logged aMnext aMisNew M_nexts aMcursorTime aMcursorValue M_hasCursor M_cursorMany M_cursorAt aMmade M_bits_41 ((M_place (Int32.toNatClampNeg p0)) + (2 : Int32)) M_askMany M_askLeast M_askGreatest M_askSum, rI aMdisk cI 4096 M_disk]) (wr := [rI aMmany cI 240 M_many, rI aMplace cI 240 M_place, rI aMtimes cI 15360 (upd M_times_18 (Int32.toNatClampNeg (((64 : Int32) * p0) + v5_16)) (Int64.toInt32 ((Int32.toInt64 (M_times_18 (Int32.toNatClampNeg ((((64 : Int32) * p0) + v5_16) - (1 : Int32))))) + (v3_15 + r_31)))), rI aMvalues cI 15360 M_values_19]) (wb := [oX10 aM M_thrown M_series M_most M_ratio aMdisk M_writes M_fuse M_down M_recovers M_looks M_unpacked aMits aMmany aMplace aMlength aMtimes aMvalues aMorder M_chunks M_epoch M_side aMheadOf aMheadTime aMheadValue M_logged aMnext aMisNew M_nexts aMcursorTime aMcursorValue M_hasCursor M_cursorMany M_cursorAt aMmade M_bits_41 ((M_place (Int32.toNatClampNeg p0)) + (2 : Int32)) M_askMany M_askLeast M_askGreatest M_askSum, rI aMdisk cI 4096 M_disk, rI aMmany cI 240 M_many, rI aMplace cI 240 M_place, rI aMtimes cI 15360 (upd M_times_18 (Int32.toNatClampNeg (((64 : Int32) * p0) + v5_16)) (Int64.toInt32 ((Int32.toInt64 (M_times_18 (Int32.toNatClampNeg ((((64 : Int32) * p0) + v5_16) - (1 : Int32))))) + (v3_15 + r_31)))), rI aMvalues cI 15360 M_values_19]) (v := (some (.int r_40))) hx hb hml hown htc hN (c_X10_takeValue l G cI cZ cJ aM aMdisk aMits aMmany aMplace aMlength aMtimes aMvalues aMorder aMheadOf aMheadTime aMheadValue aMnext aMisNew aMcursorTime aMcursorValue aMmade M_thrown M_series M_most M_ratio M_writes M_fuse M_down M_recovers M_looks M_unpacked M_chunks M_epoch M_side M_logged M_nexts M_hasCursor M_cursorMany M_cursorAt M_bits_32 ((M_place (Int32.toNatClampNeg p0)) + (2 : Int32)) M_askMany M_askLeast M_askGreatest M_askSum M_disk  hE_39) mw_1305 mw_1307 mp_74 mw_12 mw_1308 hd_X10_takeValue ⟨rfl, rfl⟩ ⟨Nat.le_of_ble_eq_true rfl, Nat.le_of_ble_eq_true rfl⟩ hK hw37 hA [0, 1] [2, 3, 4, 5] [4, 5, 0, 1, 2, 3] rfl rfl rfl rfl rfl (by decide) rfl rfl rfl 0 rfl rfl rfl rfl hl34.1 rfl rfl (Nat.le_of_ble_eq_true rfl) dX10_read_125 ⟨Nat.zero_le _, Nat.zero_le _⟩ (fun H42 locs42 hw42 => ?_)
        clear hw37 H37 locs37
        refine lv_iadd hx hb dX10_read_128 ?_
        replace hB_23 := ckb_some hB_23
        obtain ⟨hin_43, hB_23⟩ := hB_23
        refine va_iast hx hb hK hw42.1 hw42.2.1 hw42.2.2 5 0 rfl rfl hin_43 dX10_read_129 (fun H44 locs44 hP hD hS => ?_)
        have hw44 : wS G A s H44 locs44 [oX10 aM M_thrown M_series M_most M_ratio aMdisk M_writes M_fuse M_down M_recovers M_looks M_unpacked aMits aMmany aMplace aMlength aMtimes aMvalues aMorder M_chunks M_epoch M_side aMheadOf aMheadTime aMheadValue M_logged aMnext aMisNew M_nexts aMcursorTime aMcursorValue M_hasCursor M_cursorMany M_cursorAt aMmade M_bits_41 ((M_place (Int32.toNatClampNeg p0)) + (2 : Int32)) M_askMany M_askLeast M_askGreatest M_askSum, rI aMdisk cI 4096 M_disk, rI aMmany cI 240 M_many, rI aMplace cI 240 M_place, rI aMtimes cI 15360 (upd M_times_18 (Int32.toNatClampNeg (((64 : Int32) * p0) + v5_16)) (Int64.toInt32 ((Int32.toInt64 (M_times_18 (Int32.toNatClampNeg ((((64 : Int32) * p0) + v5_16) - (1 : Int32))))) + (v3_15 + r_31)))), rI aMvalues cI 15360 (upd M_values_19 (Int32.toNatClampNeg (((64 : Int32) * p0) + v5_16)) ((M_values_19 (Int32.toNatClampNeg ((((64 : Int32) * p0) + v5_16) - (1 : Int32)))) + r_40))] := ⟨hP, hD, hS⟩
        clear hP hD hS hw42 H42 locs42
        refine lv_iinc (v := (v5_16 + (1 : Int32))) (lv' := [(5, .int (v5_16 + (1 : Int32))), (3, .long (v3_15 + r_31)), (0, .ref aM), (1, .int p0), (2, .int ((64 : Int32) * p0))]) hx hb dX10_read_130 hl34 (k := 4) rfl rfl (by decide) rfl (fun ls45 hl45 => ?_)
        clear hl34 ls34
        refine lv_goto (tgt := 63) hx hb dX10_read_133 (by decide) ?_
        exact ih (v3_15 + r_31) (v5_16 + (1 : Int32)) M_bits_41 (upd M_times_18 (Int32.toNatClampNeg (((64 : Int32) * p0) + v5_16)) (Int64.toInt32 ((Int32.toInt64 (M_times_18 (Int32.toNatClampNeg ((((64 : Int32) * p0) + v5_16) - (1 : Int32))))) + (v3_15 + r_31)))) (upd M_values_19 (Int32.toNatClampNeg (((64 : Int32) * p0) + v5_16)) ((M_values_19 (Int32.toNatClampNeg ((((64 : Int32) * p0) + v5_16) - (1 : Int32)))) + r_40)) hB_23 _ _ _ hw44 (lv_sub hl45 [2, 3, 4, 1, 0] rfl)
  exact lp_22 NN (0 : Int64) (1 : Int32) (0 : Int32) (upd M_times (Int32.toNatClampNeg ((64 : Int32) * p0)) (M_disk (Int32.toNatClampNeg (M_place (Int32.toNatClampNeg p0))))) (upd M_values (Int32.toNatClampNeg ((64 : Int32) * p0)) (M_disk (Int32.toNatClampNeg ((M_place (Int32.toNatClampNeg p0)) + (1 : Int32))))) hL_20 _ _ _ hw12 (lv_sub hl14 [3, 4, 2, 1, 0] rfl)
abbrev rm_X10_beginNext : Room := { frames := 0, cells := 0, slots := 0, locals := 0 }
theorem hd_X10_beginNext : yX10_beginNext.cls = RX10 ∧ yX10_beginNext.cls ≠ "java/lang/invoke/MethodHandle" ∧ yX10_beginNext.cls ≠ "java/lang/invoke/VarHandle" ∧ (parseMethodDescriptor yX10_beginNext.desc).map (fun d => d.parameters.length) = some 0 := by decide +kernel
set_option maxHeartbeats 4000000 in
set_option maxRecDepth 100000 in
theorem c_X10_beginNext (l : Launch) (G : va_G) (cI cZ cJ : ClassId) (aM aMdisk aMits aMmany aMplace aMlength aMtimes aMvalues aMorder aMheadOf aMheadTime aMheadValue aMnext aMisNew aMcursorTime aMcursorValue aMmade : Nat) (M_thrown : Int32) (M_series : Int32) (M_most : Int32) (M_ratio : Int32) (M_writes : Int32) (M_fuse : Int32) (M_down : Int32) (M_recovers : Int32) (M_looks : Int32) (M_unpacked : Int32) (M_chunks : Int32) (M_epoch : Int32) (M_side : Int32) (M_logged : Int32) (M_nexts : Int32) (M_hasCursor : Int32) (M_cursorMany : Int32) (M_cursorAt : Int32) (M_bits : Int32) (M_from : Int32) (M_askMany : Int32) (M_askLeast : Int32) (M_askGreatest : Int32) (M_askSum : Int64)  {o_M_nexts : Int32} (hfin : m_X10_beginNext M_nexts = some (o_M_nexts)) : CT l yX10_beginNext cX10_beginNext 1 none rm_X10_beginNext G (tyC cI cZ cJ) [.ref aM] [oX10 aM M_thrown M_series M_most M_ratio aMdisk M_writes M_fuse M_down M_recovers M_looks M_unpacked aMits aMmany aMplace aMlength aMtimes aMvalues aMorder M_chunks M_epoch M_side aMheadOf aMheadTime aMheadValue M_logged aMnext aMisNew M_nexts aMcursorTime aMcursorValue M_hasCursor M_cursorMany M_cursorAt aMmade M_bits M_from M_askMany M_askLeast M_askGreatest M_askSum] none [oX10 aM M_thrown M_series M_most M_ratio aMdisk M_writes M_fuse M_down M_recovers M_looks M_unpacked aMits aMmany aMplace aMlength aMtimes aMvalues aMorder M_chunks M_epoch M_side aMheadOf aMheadTime aMheadValue M_logged aMnext aMisNew o_M_nexts aMcursorTime aMcursorValue M_hasCursor M_cursorMany M_cursorAt aMmade M_bits M_from M_askMany M_askLeast M_askGreatest M_askSum] := by
  refine CT.ofW (lvl := [(0, .ref aM)]) (by decide) (Nat.le_of_ble_eq_true rfl) rfl ?_
  intro p e s m args below meth c A ls0 QQ hQQ hx hb hml hr hlocks htc hN hown hK hA hw0 hl0
  rw [m_X10_beginNext] at hfin
  refine lv_aload_n hx hb dX10_beginNext_0 rfl (lv_at hl0 0 rfl) ?_
  refine lv_iconst (v := (0 : Int32)) hx hb dX10_beginNext_1 (by decide) ?_
  refine va_put (D := G) (ci := 10) (v := .int (0 : Int32)) (ty := .int) (C := RX10) (T := TX10) (N := 40) hx hb htc iX10 tyX10 tyX10_ok nmX10 hown hK hw0.1 hw0.2.1 hw0.2.2 0 rfl rfl 27 (by decide) (htc _ mw_974) (fun _ h9 => h9) rfl (tyX10_ok 27 (by decide)) rfl rfl (Nat.le_of_ble_eq_true rfl) dX10_beginNext_2 (fun H1 locs1 hP hD hS => ?_)
  have hw1 : wS G A s H1 locs1 [oX10 aM M_thrown M_series M_most M_ratio aMdisk M_writes M_fuse M_down M_recovers M_looks M_unpacked aMits aMmany aMplace aMlength aMtimes aMvalues aMorder M_chunks M_epoch M_side aMheadOf aMheadTime aMheadValue M_logged aMnext aMisNew (0 : Int32) aMcursorTime aMcursorValue M_hasCursor M_cursorMany M_cursorAt aMmade M_bits M_from M_askMany M_askLeast M_askGreatest M_askSum] := ⟨hP, hD, hS⟩
  clear hP hD hS hw0
  cases hfin
  rw [hQQ]
  exact ct_vret hx hb hr hlocks hw1.1 hw1.2.1 hw1.2.2 dX10_beginNext_5
abbrev rm_X10_comes : Room := { frames := 0, cells := 0, slots := 0, locals := 0 }
theorem hd_X10_comes : yX10_comes.cls = RX10 ∧ yX10_comes.cls ≠ "java/lang/invoke/MethodHandle" ∧ yX10_comes.cls ≠ "java/lang/invoke/VarHandle" ∧ (parseMethodDescriptor yX10_comes.desc).map (fun d => d.parameters.length) = some 2 := by decide +kernel
set_option maxHeartbeats 4000000 in
set_option maxRecDepth 100000 in
theorem c_X10_comes (l : Launch) (G : va_G) (cI cZ cJ : ClassId) (aM aMdisk aMits aMmany aMplace aMlength aMtimes aMvalues aMorder aMheadOf aMheadTime aMheadValue aMnext aMisNew aMcursorTime aMcursorValue aMmade : Nat) (M_thrown : Int32) (M_series : Int32) (M_most : Int32) (M_ratio : Int32) (M_writes : Int32) (M_fuse : Int32) (M_down : Int32) (M_recovers : Int32) (M_looks : Int32) (M_unpacked : Int32) (M_chunks : Int32) (M_epoch : Int32) (M_side : Int32) (M_logged : Int32) (M_nexts : Int32) (M_hasCursor : Int32) (M_cursorMany : Int32) (M_cursorAt : Int32) (M_bits : Int32) (M_from : Int32) (M_askMany : Int32) (M_askLeast : Int32) (M_askGreatest : Int32) (M_askSum : Int64) (M_next : Nat → Int32) (M_isNew : Nat → Int32) (p0 : Int32) (p1 : Int32) {o_M_nexts : Int32} {o_M_next : Nat → Int32} {o_M_isNew : Nat → Int32} (hfin : m_X10_comes M_nexts M_next M_isNew p0 p1 = some (o_M_nexts, o_M_next, o_M_isNew)) : CT l yX10_comes cX10_comes 3 none rm_X10_comes G (tyC cI cZ cJ) [.ref aM, .int p0, .int p1] [oX10 aM M_thrown M_series M_most M_ratio aMdisk M_writes M_fuse M_down M_recovers M_looks M_unpacked aMits aMmany aMplace aMlength aMtimes aMvalues aMorder M_chunks M_epoch M_side aMheadOf aMheadTime aMheadValue M_logged aMnext aMisNew M_nexts aMcursorTime aMcursorValue M_hasCursor M_cursorMany M_cursorAt aMmade M_bits M_from M_askMany M_askLeast M_askGreatest M_askSum, rI aMnext cI 240 M_next, rI aMisNew cZ 240 M_isNew] none [oX10 aM M_thrown M_series M_most M_ratio aMdisk M_writes M_fuse M_down M_recovers M_looks M_unpacked aMits aMmany aMplace aMlength aMtimes aMvalues aMorder M_chunks M_epoch M_side aMheadOf aMheadTime aMheadValue M_logged aMnext aMisNew o_M_nexts aMcursorTime aMcursorValue M_hasCursor M_cursorMany M_cursorAt aMmade M_bits M_from M_askMany M_askLeast M_askGreatest M_askSum, rI aMnext cI 240 o_M_next, rI aMisNew cZ 240 o_M_isNew] := by
  refine CT.ofW (lvl := [(0, .ref aM), (1, .int p0), (2, .int p1)]) (by decide) (Nat.le_of_ble_eq_true rfl) rfl ?_
  intro p e s m args below meth c A ls0 QQ hQQ hx hb hml hr hlocks htc hN hown hK hA hw0 hl0
  rw [m_X10_comes] at hfin
  refine lv_aload_n hx hb dX10_comes_0 rfl (lv_at hl0 0 rfl) ?_
  refine va_get (D := G) (ci := 10) (v := .ref aMnext) (C := RX10) (T := TX10) (N := 40) hx hb htc iX10 hown hK hw0.1 0 rfl rfl 25 (by decide) (htc _ mw_972) (fun _ h9 => h9) rfl dX10_comes_1 ?_
  refine lv_aload_n hx hb dX10_comes_4 rfl (lv_at hl0 0 rfl) ?_
  refine va_get (D := G) (ci := 10) (v := .int M_nexts) (C := RX10) (T := TX10) (N := 40) hx hb htc iX10 hown hK hw0.1 0 rfl rfl 27 (by decide) (htc _ mw_974) (fun _ h9 => h9) rfl dX10_comes_5 ?_
  refine lv_iload_n hx hb dX10_comes_8 rfl (lv_at hl0 1 rfl) ?_
  replace hfin := ckb_some hfin
  obtain ⟨hin_1, hfin⟩ := hfin
  refine va_iast hx hb hK hw0.1 hw0.2.1 hw0.2.2 1 0 rfl rfl hin_1 dX10_comes_9 (fun H2 locs2 hP hD hS => ?_)
  have hw2 : wS G A s H2 locs2 [oX10 aM M_thrown M_series M_most M_ratio aMdisk M_writes M_fuse M_down M_recovers M_looks M_unpacked aMits aMmany aMplace aMlength aMtimes aMvalues aMorder M_chunks M_epoch M_side aMheadOf aMheadTime aMheadValue M_logged aMnext aMisNew M_nexts aMcursorTime aMcursorValue M_hasCursor M_cursorMany M_cursorAt aMmade M_bits M_from M_askMany M_askLeast M_askGreatest M_askSum, rI aMnext cI 240 (upd M_next (Int32.toNatClampNeg M_nexts) p0), rI aMisNew cZ 240 M_isNew] := ⟨hP, hD, hS⟩
  clear hP hD hS hw0
  refine lv_aload_n hx hb dX10_comes_10 rfl (lv_at hl0 0 rfl) ?_
  refine va_get (D := G) (ci := 10) (v := .ref aMisNew) (C := RX10) (T := TX10) (N := 40) hx hb htc iX10 hown hK hw2.1 0 rfl rfl 26 (by decide) (htc _ mw_973) (fun _ h9 => h9) rfl dX10_comes_11 ?_
  refine lv_aload_n hx hb dX10_comes_14 rfl (lv_at hl0 0 rfl) ?_
  refine va_get (D := G) (ci := 10) (v := .int M_nexts) (C := RX10) (T := TX10) (N := 40) hx hb htc iX10 hown hK hw2.1 0 rfl rfl 27 (by decide) (htc _ mw_974) (fun _ h9 => h9) rfl dX10_comes_15 ?_
  refine lv_iload_n hx hb dX10_comes_18 rfl (lv_at hl0 2 rfl) ?_
  replace hfin := ckb_some hfin
  obtain ⟨hin_3, hfin⟩ := hfin
  refine va_zast hx hb hK hw2.1 hw2.2.1 hw2.2.2 2 1 rfl rfl hin_3 dX10_comes_19 (fun H4 locs4 hP hD hS => ?_)
  have hw4 : wS G A s H4 locs4 [oX10 aM M_thrown M_series M_most M_ratio aMdisk M_writes M_fuse M_down M_recovers M_looks M_unpacked aMits aMmany aMplace aMlength aMtimes aMvalues aMorder M_chunks M_epoch M_side aMheadOf aMheadTime aMheadValue M_logged aMnext aMisNew M_nexts aMcursorTime aMcursorValue M_hasCursor M_cursorMany M_cursorAt aMmade M_bits M_from M_askMany M_askLeast M_askGreatest M_askSum, rI aMnext cI 240 (upd M_next (Int32.toNatClampNeg M_nexts) p0), rI aMisNew cZ 240 (upd M_isNew (Int32.toNatClampNeg M_nexts) (vp_nar .boolean p1))] := ⟨hP, hD, hS⟩
  clear hP hD hS hw2 H2 locs2
  refine lv_aload_n hx hb dX10_comes_20 rfl (lv_at hl0 0 rfl) ?_
  refine lv_dup hx hb dX10_comes_21 rfl ?_
  refine va_get (D := G) (ci := 10) (v := .int M_nexts) (C := RX10) (T := TX10) (N := 40) hx hb htc iX10 hown hK hw4.1 0 rfl rfl 27 (by decide) (htc _ mw_974) (fun _ h9 => h9) rfl dX10_comes_22 ?_
  refine lv_iconst (v := (1 : Int32)) hx hb dX10_comes_25 (by decide) ?_
  refine lv_iadd hx hb dX10_comes_26 ?_
  refine va_put (D := G) (ci := 10) (v := .int (M_nexts + (1 : Int32))) (ty := .int) (C := RX10) (T := TX10) (N := 40) hx hb htc iX10 tyX10 tyX10_ok nmX10 hown hK hw4.1 hw4.2.1 hw4.2.2 0 rfl rfl 27 (by decide) (htc _ mw_974) (fun _ h9 => h9) rfl (tyX10_ok 27 (by decide)) rfl rfl (Nat.le_of_ble_eq_true rfl) dX10_comes_27 (fun H5 locs5 hP hD hS => ?_)
  have hw5 : wS G A s H5 locs5 [oX10 aM M_thrown M_series M_most M_ratio aMdisk M_writes M_fuse M_down M_recovers M_looks M_unpacked aMits aMmany aMplace aMlength aMtimes aMvalues aMorder M_chunks M_epoch M_side aMheadOf aMheadTime aMheadValue M_logged aMnext aMisNew (M_nexts + (1 : Int32)) aMcursorTime aMcursorValue M_hasCursor M_cursorMany M_cursorAt aMmade M_bits M_from M_askMany M_askLeast M_askGreatest M_askSum, rI aMnext cI 240 (upd M_next (Int32.toNatClampNeg M_nexts) p0), rI aMisNew cZ 240 (upd M_isNew (Int32.toNatClampNeg M_nexts) (vp_nar .boolean p1))] := ⟨hP, hD, hS⟩
  clear hP hD hS hw4 H4 locs4
  cases hfin
  rw [hQQ]
  exact ct_vret hx hb hr hlocks hw5.1 hw5.2.1 hw5.2.2 dX10_comes_30
abbrev rm_X10_isUsed : Room := { frames := 0, cells := 0, slots := 0, locals := 0 }
theorem hd_X10_isUsed : yX10_isUsed.cls = RX10 ∧ yX10_isUsed.cls ≠ "java/lang/invoke/MethodHandle" ∧ yX10_isUsed.cls ≠ "java/lang/invoke/VarHandle" ∧ (parseMethodDescriptor yX10_isUsed.desc).map (fun d => d.parameters.length) = some 1 := by decide +kernel
set_option maxHeartbeats 4000000 in
set_option maxRecDepth 100000 in
theorem c_X10_isUsed (l : Launch) (G : va_G) (cI cZ cJ : ClassId) (aM aMdisk aMits aMmany aMplace aMlength aMtimes aMvalues aMorder aMheadOf aMheadTime aMheadValue aMnext aMisNew aMcursorTime aMcursorValue aMmade : Nat) (M_thrown : Int32) (M_series : Int32) (M_most : Int32) (M_ratio : Int32) (M_writes : Int32) (M_fuse : Int32) (M_down : Int32) (M_recovers : Int32) (M_looks : Int32) (M_unpacked : Int32) (M_chunks : Int32) (M_epoch : Int32) (M_side : Int32) (M_logged : Int32) (M_nexts : Int32) (M_hasCursor : Int32) (M_cursorMany : Int32) (M_cursorAt : Int32) (M_bits : Int32) (M_from : Int32) (M_askMany : Int32) (M_askLeast : Int32) (M_askGreatest : Int32) (M_askSum : Int64) (M_order : Nat → Int32) (M_next : Nat → Int32) (p0 : Int32) {r : Int32} (hfin : m_X10_isUsed M_chunks M_nexts M_order M_next p0 = some (r)) : CT l yX10_isUsed cX10_isUsed 4 (some .boolean) rm_X10_isUsed G (tyC cI cZ cJ) [.ref aM, .int p0] [oX10 aM M_thrown M_series M_most M_ratio aMdisk M_writes M_fuse M_down M_recovers M_looks M_unpacked aMits aMmany aMplace aMlength aMtimes aMvalues aMorder M_chunks M_epoch M_side aMheadOf aMheadTime aMheadValue M_logged aMnext aMisNew M_nexts aMcursorTime aMcursorValue M_hasCursor M_cursorMany M_cursorAt aMmade M_bits M_from M_askMany M_askLeast M_askGreatest M_askSum, rI aMorder cI 96 M_order, rI aMnext cI 240 M_next] (some (.int r)) [oX10 aM M_thrown M_series M_most M_ratio aMdisk M_writes M_fuse M_down M_recovers M_looks M_unpacked aMits aMmany aMplace aMlength aMtimes aMvalues aMorder M_chunks M_epoch M_side aMheadOf aMheadTime aMheadValue M_logged aMnext aMisNew M_nexts aMcursorTime aMcursorValue M_hasCursor M_cursorMany M_cursorAt aMmade M_bits M_from M_askMany M_askLeast M_askGreatest M_askSum, rI aMorder cI 96 M_order, rI aMnext cI 240 M_next] := by
  refine CT.ofW (lvl := [(0, .ref aM), (1, .int p0)]) (by decide) (Nat.le_of_ble_eq_true rfl) rfl ?_
  intro p e s m args below meth c A ls0 QQ hQQ hx hb hml hr hlocks htc hN hown hK hA hw0 hl0
  rw [m_X10_isUsed] at hfin
  refine lv_iconst (v := (0 : Int32)) hx hb dX10_isUsed_0 (by decide) ?_
  refine lv_istore_n (lv' := [(2, .int (0 : Int32)), (0, .ref aM), (1, .int p0)]) hx hb dX10_isUsed_1 rfl hl0 (by decide) rfl (fun ls1 hl1 => ?_)
  clear hl0 ls0
  refine lv_iconst (v := (0 : Int32)) hx hb dX10_isUsed_2 (by decide) ?_
  refine lv_istore_n (lv' := [(3, .int (0 : Int32)), (2, .int (0 : Int32)), (0, .ref aM), (1, .int p0)]) hx hb dX10_isUsed_3 rfl hl1 (by decide) rfl (fun ls2 hl2 => ?_)
  clear hl1 ls1
  replace hfin := ob1_some hfin
  obtain ⟨v2_9, hL_5, hfin⟩ := hfin
  have kx_6 : ∀ (H : Heap) (locs : List Loc) (ls : Array Slot), wS G A s H locs [oX10 aM M_thrown M_series M_most M_ratio aMdisk M_writes M_fuse M_down M_recovers M_looks M_unpacked aMits aMmany aMplace aMlength aMtimes aMvalues aMorder M_chunks M_epoch M_side aMheadOf aMheadTime aMheadValue M_logged aMnext aMisNew M_nexts aMcursorTime aMcursorValue M_hasCursor M_cursorMany M_cursorAt aMmade M_bits M_from M_askMany M_askLeast M_askGreatest M_askSum, rI aMorder cI 96 M_order, rI aMnext cI 240 M_next] → lv_has ls 4 [(0, .ref aM), (1, .int p0), (2, .int v2_9)] → W p l e rm_X10_isUsed s m args below meth c H locs 0 0 QQ (F0 m 38 ls []) := by
    clear hw0 hl2 ls2 hL_5
    intro H21 locs21 ls21 hw21 hl21
    refine lv_iconst (v := (0 : Int32)) hx hb dX10_isUsed_38 (by decide) ?_
    refine lv_istore_n (lv' := [(3, .int (0 : Int32)), (0, .ref aM), (1, .int p0), (2, .int v2_9)]) hx hb dX10_isUsed_39 rfl hl21 (by decide) rfl (fun ls22 hl22 => ?_)
    clear hl21 ls21
    replace hfin := ob1_some hfin
    obtain ⟨v2_29, hL_25, hfin⟩ := hfin
    have kx_26 : ∀ (H : Heap) (locs : List Loc) (ls : Array Slot), wS G A s H locs [oX10 aM M_thrown M_series M_most M_ratio aMdisk M_writes M_fuse M_down M_recovers M_looks M_unpacked aMits aMmany aMplace aMlength aMtimes aMvalues aMorder M_chunks M_epoch M_side aMheadOf aMheadTime aMheadValue M_logged aMnext aMisNew M_nexts aMcursorTime aMcursorValue M_hasCursor M_cursorMany M_cursorAt aMmade M_bits M_from M_askMany M_askLeast M_askGreatest M_askSum, rI aMorder cI 96 M_order, rI aMnext cI 240 M_next] → lv_has ls 4 [(2, .int v2_29)] → W p l e rm_X10_isUsed s m args below meth c H locs 0 0 QQ (F0 m 74 ls []) := by
      clear hw21 H21 locs21 hl22 ls22 hL_25
      intro H41 locs41 ls41 hw41 hl41
      refine lv_iload_n hx hb dX10_isUsed_74 rfl (lv_at hl41 0 rfl) ?_
      replace hfin := ckz_some hfin
      obtain ⟨hz_42, hfin⟩ := hfin
      cases hfin
      rw [hQQ]
      exact ct_zret hx hb hr hlocks hz_42 hw41.1 hw41.2.1 hw41.2.2 dX10_isUsed_75
    have lp_27 : ∀ (n : Nat) (v2_23 : Int32) (v3_24 : Int32), lp_X10_isUsed_40 M_nexts M_next p0 n v2_23 v3_24 = some (v2_29) → ∀ (H : Heap) (locs : List Loc) (ls : Array Slot), wS G A s H locs [oX10 aM M_thrown M_series M_most M_ratio aMdisk M_writes M_fuse M_down M_recovers M_looks M_unpacked aMits aMmany aMplace aMlength aMtimes aMvalues aMorder M_chunks M_epoch M_side aMheadOf aMheadTime aMheadValue M_logged aMnext aMisNew M_nexts aMcursorTime aMcursorValue M_hasCursor M_cursorMany M_cursorAt aMmade M_bits M_from M_askMany M_askLeast M_askGreatest M_askSum, rI aMorder cI 96 M_order, rI aMnext cI 240 M_next] → lv_has ls 4 [(0, .ref aM), (1, .int p0), (2, .int v2_23), (3, .int v3_24)] → W p l e rm_X10_isUsed s m args below meth c H locs 0 0 QQ (F0 m 40 ls []) := by
      clear hw21 H21 locs21 hl22 ls22 hfin
      intro n
      induction n with
      | zero =>
        intro v2_23 v3_24 hB_28
        exact absurd hB_28 (by rw [lp_X10_isUsed_40]; exact fun h9 => nomatch h9)
      | succ n ih =>
        intro v2_23 v3_24 hB_28 H30 locs30 ls30 hw30 hl30
        rw [lp_X10_isUsed_40] at hB_28
        refine lv_iload_n hx hb dX10_isUsed_40 rfl (lv_at hl30 3 rfl) ?_
        refine lv_aload_n hx hb dX10_isUsed_41 rfl (lv_at hl30 0 rfl) ?_
        refine va_get (D := G) (ci := 10) (v := .int M_nexts) (C := RX10) (T := TX10) (N := 40) hx hb htc iX10 hown hK hw30.1 0 rfl rfl 27 (by decide) (htc _ mw_974) (fun _ h9 => h9) rfl dX10_isUsed_42 ?_
        refine lv_icmp_ge (tgt := 74) hx hb dX10_isUsed_45 (by decide) (fun c_31 => ?_) (fun c_31 => ?_)
        · replace hB_28 := it_t c_31 hB_28
          cases hB_28
          exact kx_26 _ _ _ hw30 (lv_sub hl30 [2] rfl)
        · replace hB_28 := it_f c_31 hB_28
          refine lv_iload_n hx hb dX10_isUsed_48 rfl (lv_at hl30 2 rfl) ?_
          replace hB_28 := ob1_some hB_28
          obtain ⟨s_32, hJ_33, hB_28⟩ := hB_28
          have kj_34 : ∀ (H : Heap) (locs : List Loc) (ls : Array Slot), wS G A s H locs [oX10 aM M_thrown M_series M_most M_ratio aMdisk M_writes M_fuse M_down M_recovers M_looks M_unpacked aMits aMmany aMplace aMlength aMtimes aMvalues aMorder M_chunks M_epoch M_side aMheadOf aMheadTime aMheadValue M_logged aMnext aMisNew M_nexts aMcursorTime aMcursorValue M_hasCursor M_cursorMany M_cursorAt aMmade M_bits M_from M_askMany M_askLeast M_askGreatest M_askSum, rI aMorder cI 96 M_order, rI aMnext cI 240 M_next] → lv_has ls 4 [(0, .ref aM), (1, .int p0), (3, .int v3_24)] → W p l e rm_X10_isUsed s m args below meth c H locs 0 0 QQ (F0 m 67 ls [.int s_32]) := by
            clear hw30 H30 locs30 hl30 ls30 hJ_33
            intro H38 locs38 ls38 hw38 hl38
            refine lv_istore_n (lv' := [(2, .int s_32), (0, .ref aM), (1, .int p0), (3, .int v3_24)]) hx hb dX10_isUsed_67 rfl hl38 (by decide) rfl (fun ls39 hl39 => ?_)
            clear hl38 ls38
            refine lv_iinc (v := (v3_24 + (1 : Int32))) (lv' := [(3, .int (v3_24 + (1 : Int32))), (2, .int s_32), (0, .ref aM), (1, .int p0)]) hx hb dX10_isUsed_68 hl39 (k := 3) rfl rfl (by decide) rfl (fun ls40 hl40 => ?_)
            clear hl39 ls39
            refine lv_goto (tgt := 40) hx hb dX10_isUsed_71 (by decide) ?_
            exact ih s_32 (v3_24 + (1 : Int32)) hB_28 _ _ _ hw38 (lv_sub hl40 [2, 3, 1, 0] rfl)
          clear hB_28
          refine lv_if_ne (tgt := 62) hx hb dX10_isUsed_49 (by decide) (fun c_35 => ?_) (fun c_35 => ?_)
          · replace hJ_33 := it_f c_35 hJ_33
            refine lv_iconst (v := (1 : Int32)) hx hb dX10_isUsed_62 (by decide) ?_
            refine lv_goto (tgt := 67) hx hb dX10_isUsed_63 (by decide) ?_
            cases hJ_33
            exact kj_34 _ _ _ hw30 (lv_sub hl30 [0, 1, 3] rfl)
          · replace hJ_33 := it_t c_35 hJ_33
            refine lv_aload_n hx hb dX10_isUsed_52 rfl (lv_at hl30 0 rfl) ?_
            refine va_get (D := G) (ci := 10) (v := .ref aMnext) (C := RX10) (T := TX10) (N := 40) hx hb htc iX10 hown hK hw30.1 0 rfl rfl 25 (by decide) (htc _ mw_972) (fun _ h9 => h9) rfl dX10_isUsed_53 ?_
            refine lv_iload_n hx hb dX10_isUsed_56 rfl (lv_at hl30 3 rfl) ?_
            replace hJ_33 := ckb_some hJ_33
            obtain ⟨hin_36, hJ_33⟩ := hJ_33
            refine va_iald hx hb hK hw30.1 2 0 rfl rfl hin_36 dX10_isUsed_57 ?_
            refine lv_iload_n hx hb dX10_isUsed_58 rfl (lv_at hl30 1 rfl) ?_
            refine lv_icmp_ne (tgt := 66) hx hb dX10_isUsed_59 (by decide) (fun c_37 => ?_) (fun c_37 => ?_)
            · replace hJ_33 := it_f c_37 hJ_33
              refine lv_iconst (v := (0 : Int32)) hx hb dX10_isUsed_66 (by decide) ?_
              cases hJ_33
              exact kj_34 _ _ _ hw30 (lv_sub hl30 [0, 1, 3] rfl)
            · replace hJ_33 := it_t c_37 hJ_33
              refine lv_iconst (v := (1 : Int32)) hx hb dX10_isUsed_62 (by decide) ?_
              refine lv_goto (tgt := 67) hx hb dX10_isUsed_63 (by decide) ?_
              cases hJ_33
              exact kj_34 _ _ _ hw30 (lv_sub hl30 [0, 1, 3] rfl)
    exact lp_27 NN v2_9 (0 : Int32) hL_25 _ _ _ hw21 (lv_sub hl22 [1, 2, 3, 0] rfl)
  have lp_7 : ∀ (n : Nat) (v2_3 : Int32) (v3_4 : Int32), lp_X10_isUsed_4 M_chunks M_order p0 n v2_3 v3_4 = some (v2_9) → ∀ (H : Heap) (locs : List Loc) (ls : Array Slot), wS G A s H locs [oX10 aM M_thrown M_series M_most M_ratio aMdisk M_writes M_fuse M_down M_recovers M_looks M_unpacked aMits aMmany aMplace aMlength aMtimes aMvalues aMorder M_chunks M_epoch M_side aMheadOf aMheadTime aMheadValue M_logged aMnext aMisNew M_nexts aMcursorTime aMcursorValue M_hasCursor M_cursorMany M_cursorAt aMmade M_bits M_from M_askMany M_askLeast M_askGreatest M_askSum, rI aMorder cI 96 M_order, rI aMnext cI 240 M_next] → lv_has ls 4 [(0, .ref aM), (1, .int p0), (2, .int v2_3), (3, .int v3_4)] → W p l e rm_X10_isUsed s m args below meth c H locs 0 0 QQ (F0 m 4 ls []) := by
    clear hw0 hl2 ls2 hfin
    intro n
    induction n with
    | zero =>
      intro v2_3 v3_4 hB_8
      exact absurd hB_8 (by rw [lp_X10_isUsed_4]; exact fun h9 => nomatch h9)
    | succ n ih =>
      intro v2_3 v3_4 hB_8 H10 locs10 ls10 hw10 hl10
      rw [lp_X10_isUsed_4] at hB_8
      refine lv_iload_n hx hb dX10_isUsed_4 rfl (lv_at hl10 3 rfl) ?_
      refine lv_aload_n hx hb dX10_isUsed_5 rfl (lv_at hl10 0 rfl) ?_
      refine va_get (D := G) (ci := 10) (v := .int M_chunks) (C := RX10) (T := TX10) (N := 40) hx hb htc iX10 hown hK hw10.1 0 rfl rfl 18 (by decide) (htc _ mw_965) (fun _ h9 => h9) rfl dX10_isUsed_6 ?_
      refine lv_icmp_ge (tgt := 38) hx hb dX10_isUsed_9 (by decide) (fun c_11 => ?_) (fun c_11 => ?_)
      · replace hB_8 := it_t c_11 hB_8
        cases hB_8
        exact kx_6 _ _ _ hw10 (lv_sub hl10 [0, 1, 2] rfl)
      · replace hB_8 := it_f c_11 hB_8
        refine lv_iload_n hx hb dX10_isUsed_12 rfl (lv_at hl10 2 rfl) ?_
        replace hB_8 := ob1_some hB_8
        obtain ⟨s_12, hJ_13, hB_8⟩ := hB_8
        have kj_14 : ∀ (H : Heap) (locs : List Loc) (ls : Array Slot), wS G A s H locs [oX10 aM M_thrown M_series M_most M_ratio aMdisk M_writes M_fuse M_down M_recovers M_looks M_unpacked aMits aMmany aMplace aMlength aMtimes aMvalues aMorder M_chunks M_epoch M_side aMheadOf aMheadTime aMheadValue M_logged aMnext aMisNew M_nexts aMcursorTime aMcursorValue M_hasCursor M_cursorMany M_cursorAt aMmade M_bits M_from M_askMany M_askLeast M_askGreatest M_askSum, rI aMorder cI 96 M_order, rI aMnext cI 240 M_next] → lv_has ls 4 [(0, .ref aM), (1, .int p0), (3, .int v3_4)] → W p l e rm_X10_isUsed s m args below meth c H locs 0 0 QQ (F0 m 31 ls [.int s_12]) := by
          clear hw10 H10 locs10 hl10 ls10 hJ_13
          intro H18 locs18 ls18 hw18 hl18
          refine lv_istore_n (lv' := [(2, .int s_12), (0, .ref aM), (1, .int p0), (3, .int v3_4)]) hx hb dX10_isUsed_31 rfl hl18 (by decide) rfl (fun ls19 hl19 => ?_)
          clear hl18 ls18
          refine lv_iinc (v := (v3_4 + (1 : Int32))) (lv' := [(3, .int (v3_4 + (1 : Int32))), (2, .int s_12), (0, .ref aM), (1, .int p0)]) hx hb dX10_isUsed_32 hl19 (k := 3) rfl rfl (by decide) rfl (fun ls20 hl20 => ?_)
          clear hl19 ls19
          refine lv_goto (tgt := 4) hx hb dX10_isUsed_35 (by decide) ?_
          exact ih s_12 (v3_4 + (1 : Int32)) hB_8 _ _ _ hw18 (lv_sub hl20 [2, 3, 1, 0] rfl)
        clear hB_8
        refine lv_if_ne (tgt := 26) hx hb dX10_isUsed_13 (by decide) (fun c_15 => ?_) (fun c_15 => ?_)
        · replace hJ_13 := it_f c_15 hJ_13
          refine lv_iconst (v := (1 : Int32)) hx hb dX10_isUsed_26 (by decide) ?_
          refine lv_goto (tgt := 31) hx hb dX10_isUsed_27 (by decide) ?_
          cases hJ_13
          exact kj_14 _ _ _ hw10 (lv_sub hl10 [0, 1, 3] rfl)
        · replace hJ_13 := it_t c_15 hJ_13
          refine lv_aload_n hx hb dX10_isUsed_16 rfl (lv_at hl10 0 rfl) ?_
          refine va_get (D := G) (ci := 10) (v := .ref aMorder) (C := RX10) (T := TX10) (N := 40) hx hb htc iX10 hown hK hw10.1 0 rfl rfl 17 (by decide) (htc _ mw_964) (fun _ h9 => h9) rfl dX10_isUsed_17 ?_
          refine lv_iload_n hx hb dX10_isUsed_20 rfl (lv_at hl10 3 rfl) ?_
          replace hJ_13 := ckb_some hJ_13
          obtain ⟨hin_16, hJ_13⟩ := hJ_13
          refine va_iald hx hb hK hw10.1 1 0 rfl rfl hin_16 dX10_isUsed_21 ?_
          refine lv_iload_n hx hb dX10_isUsed_22 rfl (lv_at hl10 1 rfl) ?_
          refine lv_icmp_ne (tgt := 30) hx hb dX10_isUsed_23 (by decide) (fun c_17 => ?_) (fun c_17 => ?_)
          · replace hJ_13 := it_f c_17 hJ_13
            refine lv_iconst (v := (0 : Int32)) hx hb dX10_isUsed_30 (by decide) ?_
            cases hJ_13
            exact kj_14 _ _ _ hw10 (lv_sub hl10 [0, 1, 3] rfl)
          · replace hJ_13 := it_t c_17 hJ_13
            refine lv_iconst (v := (1 : Int32)) hx hb dX10_isUsed_26 (by decide) ?_
            refine lv_goto (tgt := 31) hx hb dX10_isUsed_27 (by decide) ?_
            cases hJ_13
            exact kj_14 _ _ _ hw10 (lv_sub hl10 [0, 1, 3] rfl)
  exact lp_7 NN (0 : Int32) (0 : Int32) hL_5 _ _ _ hw0 (lv_sub hl2 [2, 3, 1, 0] rfl)
abbrev rm_X10_freeSlot : Room := { frames := 1, cells := 0, slots := 0, locals := 23 }
theorem hd_X10_freeSlot : yX10_freeSlot.cls = RX10 ∧ yX10_freeSlot.cls ≠ "java/lang/invoke/MethodHandle" ∧ yX10_freeSlot.cls ≠ "java/lang/invoke/VarHandle" ∧ (parseMethodDescriptor yX10_freeSlot.desc).map (fun d => d.parameters.length) = some 0 := by decide +kernel
set_option maxHeartbeats 4000000 in
set_option maxRecDepth 100000 in
theorem c_X10_freeSlot (l : Launch) (G : va_G) (cI cZ cJ : ClassId) (aM aMdisk aMits aMmany aMplace aMlength aMtimes aMvalues aMorder aMheadOf aMheadTime aMheadValue aMnext aMisNew aMcursorTime aMcursorValue aMmade : Nat) (M_thrown : Int32) (M_series : Int32) (M_most : Int32) (M_ratio : Int32) (M_writes : Int32) (M_fuse : Int32) (M_down : Int32) (M_recovers : Int32) (M_looks : Int32) (M_unpacked : Int32) (M_chunks : Int32) (M_epoch : Int32) (M_side : Int32) (M_logged : Int32) (M_nexts : Int32) (M_hasCursor : Int32) (M_cursorMany : Int32) (M_cursorAt : Int32) (M_bits : Int32) (M_from : Int32) (M_askMany : Int32) (M_askLeast : Int32) (M_askGreatest : Int32) (M_askSum : Int64) (M_order : Nat → Int32) (M_next : Nat → Int32)  {r : Int32} (hfin : m_X10_freeSlot M_chunks M_nexts M_order M_next = some (r)) : CT l yX10_freeSlot cX10_freeSlot 2 (some .int) rm_X10_freeSlot G (tyC cI cZ cJ) [.ref aM] [oX10 aM M_thrown M_series M_most M_ratio aMdisk M_writes M_fuse M_down M_recovers M_looks M_unpacked aMits aMmany aMplace aMlength aMtimes aMvalues aMorder M_chunks M_epoch M_side aMheadOf aMheadTime aMheadValue M_logged aMnext aMisNew M_nexts aMcursorTime aMcursorValue M_hasCursor M_cursorMany M_cursorAt aMmade M_bits M_from M_askMany M_askLeast M_askGreatest M_askSum, rI aMorder cI 96 M_order, rI aMnext cI 240 M_next] (some (.int r)) [oX10 aM M_thrown M_series M_most M_ratio aMdisk M_writes M_fuse M_down M_recovers M_looks M_unpacked aMits aMmany aMplace aMlength aMtimes aMvalues aMorder M_chunks M_epoch M_side aMheadOf aMheadTime aMheadValue M_logged aMnext aMisNew M_nexts aMcursorTime aMcursorValue M_hasCursor M_cursorMany M_cursorAt aMmade M_bits M_from M_askMany M_askLeast M_askGreatest M_askSum, rI aMorder cI 96 M_order, rI aMnext cI 240 M_next] := by
  refine CT.ofW (lvl := [(0, .ref aM)]) (by decide) (Nat.le_of_ble_eq_true rfl) rfl ?_
  intro p e s m args below meth c A ls0 QQ hQQ hx hb hml hr hlocks htc hN hown hK hA hw0 hl0
  rw [m_X10_freeSlot] at hfin
  refine lv_iconst (v := (0 : Int32)) hx hb dX10_freeSlot_0 (by decide) ?_
  refine lv_istore_n (lv' := [(1, .int (0 : Int32)), (0, .ref aM)]) hx hb dX10_freeSlot_1 rfl hl0 (by decide) rfl (fun ls1 hl1 => ?_)
  clear hl0 ls0
  replace hfin := ob1_some hfin
  obtain ⟨v1_7, hL_3, hfin⟩ := hfin
  have kx_4 : ∀ (H : Heap) (locs : List Loc) (ls : Array Slot), wS G A s H locs [oX10 aM M_thrown M_series M_most M_ratio aMdisk M_writes M_fuse M_down M_recovers M_looks M_unpacked aMits aMmany aMplace aMlength aMtimes aMvalues aMorder M_chunks M_epoch M_side aMheadOf aMheadTime aMheadValue M_logged aMnext aMisNew M_nexts aMcursorTime aMcursorValue M_hasCursor M_cursorMany M_cursorAt aMmade M_bits M_from M_askMany M_askLeast M_askGreatest M_askSum, rI aMorder cI 96 M_order, rI aMnext cI 240 M_next] → lv_has ls 2 [(1, .int v1_7)] → W p l e rm_X10_freeSlot s m args below meth c H locs 0 0 QQ (F0 m 16 ls []) := by
    clear hw0 hl1 ls1 hL_3
    intro H14 locs14 ls14 hw14 hl14
    refine lv_iload_n hx hb dX10_freeSlot_16 rfl (lv_at hl14 0 rfl) ?_
    cases hfin
    rw [hQQ]
    exact ct_iret hx hb hr hlocks hw14.1 hw14.2.1 hw14.2.2 dX10_freeSlot_17
  have lp_5 : ∀ (n : Nat) (v1_2 : Int32), lp_X10_freeSlot_2 M_chunks M_nexts M_order M_next n v1_2 = some (v1_7) → ∀ (H : Heap) (locs : List Loc) (ls : Array Slot), wS G A s H locs [oX10 aM M_thrown M_series M_most M_ratio aMdisk M_writes M_fuse M_down M_recovers M_looks M_unpacked aMits aMmany aMplace aMlength aMtimes aMvalues aMorder M_chunks M_epoch M_side aMheadOf aMheadTime aMheadValue M_logged aMnext aMisNew M_nexts aMcursorTime aMcursorValue M_hasCursor M_cursorMany M_cursorAt aMmade M_bits M_from M_askMany M_askLeast M_askGreatest M_askSum, rI aMorder cI 96 M_order, rI aMnext cI 240 M_next] → lv_has ls 2 [(0, .ref aM), (1, .int v1_2)] → W p l e rm_X10_freeSlot s m args below meth c H locs 0 0 QQ (F0 m 2 ls []) := by
    clear hw0 hl1 ls1 hfin
    intro n
    induction n with
    | zero =>
      intro v1_2 hB_6
      exact absurd hB_6 (by rw [lp_X10_freeSlot_2]; exact fun h9 => nomatch h9)
    | succ n ih =>
      intro v1_2 hB_6 H8 locs8 ls8 hw8 hl8
      rw [lp_X10_freeSlot_2] at hB_6
      refine lv_aload_n hx hb dX10_freeSlot_2 rfl (lv_at hl8 0 rfl) ?_
      refine lv_iload_n hx hb dX10_freeSlot_3 rfl (lv_at hl8 1 rfl) ?_
      replace hB_6 := ob1_some hB_6
      obtain ⟨r_10, hE_9, hB_6⟩ := hB_6
      refine ctV (a := aM) (As := [.int v1_2]) (rest := []) (st1 := [.int r_10]) (wc := [oX10 aM M_thrown M_series M_most M_ratio aMdisk M_writes M_fuse M_down M_recovers M_looks M_unpacked aMits aMmany aMplace aMlength aMtimes aMvalues aMorder M_chunks M_epoch M_side aMheadOf aMheadTime aMheadValue M_logged aMnext aMisNew M_nexts aMcursorTime aMcursorValue M_hasCursor M_cursorMany M_cursorAt aMmade M_bits M_from M_askMany M_askLeast M_askGreatest M_askSum, rI aMorder cI 96 M_order, rI aMnext cI 240 M_next]) (w1 := [oX10 aM M_thrown M_series M_most M_ratio aMdisk M_writes M_fuse M_down M_recovers M_looks M_unpacked aMits aMmany aMplace aMlength aMtimes aMvalues aMorder M_chunks M_epoch M_side aMheadOf aMheadTime aMheadValue M_logged aMnext aMisNew M_nexts aMcursorTime aMcursorValue M_hasCursor M_cursorMany M_cursorAt aMmade M_bits M_from M_askMany M_askLeast M_askGreatest M_askSum, rI aMorder cI 96 M_order, rI aMnext cI 240 M_next]) (wr := []) (wb := [oX10 aM M_thrown M_series M_most M_ratio aMdisk M_writes M_fuse M_down M_recovers M_looks M_unpacked aMits aMmany aMplace aMlength aMtimes aMvalues aMorder M_chunks M_epoch M_side aMheadOf aMheadTime aMheadValue M_logged aMnext aMisNew M_nexts aMcursorTime aMcursorValue M_hasCursor M_cursorMany M_cursorAt aMmade M_bits M_from M_askMany M_askLeast M_askGreatest M_askSum, rI aMorder cI 96 M_order, rI aMnext cI 240 M_next]) (v := (some (.int r_10))) hx hb hml hown htc hN (c_X10_isUsed l G cI cZ cJ aM aMdisk aMits aMmany aMplace aMlength aMtimes aMvalues aMorder aMheadOf aMheadTime aMheadValue aMnext aMisNew aMcursorTime aMcursorValue aMmade M_thrown M_series M_most M_ratio M_writes M_fuse M_down M_recovers M_looks M_unpacked M_chunks M_epoch M_side M_logged M_nexts M_hasCursor M_cursorMany M_cursorAt M_bits M_from M_askMany M_askLeast M_askGreatest M_askSum M_order M_next v1_2 hE_9) mw_1112 mw_1114 mp_42 mw_12 mw_1115 hd_X10_isUsed ⟨rfl, rfl⟩ ⟨Nat.le_of_ble_eq_true rfl, Nat.le_of_ble_eq_true rfl⟩ hK hw8 hA [0, 1, 2] [] [0, 1, 2] rfl rfl rfl rfl rfl (by decide) rfl rfl rfl 0 rfl rfl rfl rfl hl8.1 rfl rfl (Nat.le_of_ble_eq_true rfl) dX10_freeSlot_4 ⟨Nat.zero_le _, Nat.zero_le _⟩ (fun H11 locs11 hw11 => ?_)
      clear hw8 H8 locs8
      refine lv_if_eq (tgt := 16) hx hb dX10_freeSlot_7 (by decide) (fun c_12 => ?_) (fun c_12 => ?_)
      · replace hB_6 := it_t c_12 hB_6
        cases hB_6
        exact kx_4 _ _ _ hw11 (lv_sub hl8 [1] rfl)
      · replace hB_6 := it_f c_12 hB_6
        refine lv_iinc (v := (v1_2 + (1 : Int32))) (lv' := [(1, .int (v1_2 + (1 : Int32))), (0, .ref aM)]) hx hb dX10_freeSlot_10 hl8 (k := 1) rfl rfl (by decide) rfl (fun ls13 hl13 => ?_)
        clear hl8 ls8
        refine lv_goto (tgt := 2) hx hb dX10_freeSlot_13 (by decide) ?_
        exact ih (v1_2 + (1 : Int32)) hB_6 _ _ _ hw11 (lv_sub hl13 [1, 0] rfl)
  exact lp_5 NN (0 : Int32) hL_3 _ _ _ hw0 (lv_sub hl1 [1, 0] rfl)
abbrev rm_X10_isOf : Room := { frames := 0, cells := 0, slots := 0, locals := 0 }
theorem hd_X10_isOf : yX10_isOf.cls = RX10 ∧ yX10_isOf.cls ≠ "java/lang/invoke/MethodHandle" ∧ yX10_isOf.cls ≠ "java/lang/invoke/VarHandle" ∧ (parseMethodDescriptor yX10_isOf.desc).map (fun d => d.parameters.length) = some 2 := by decide +kernel
set_option maxHeartbeats 4000000 in
set_option maxRecDepth 100000 in
theorem c_X10_isOf (l : Launch) (G : va_G) (cI cZ cJ : ClassId) (aM aMdisk aMits aMmany aMplace aMlength aMtimes aMvalues aMorder aMheadOf aMheadTime aMheadValue aMnext aMisNew aMcursorTime aMcursorValue aMmade : Nat) (M_thrown : Int32) (M_series : Int32) (M_most : Int32) (M_ratio : Int32) (M_writes : Int32) (M_fuse : Int32) (M_down : Int32) (M_recovers : Int32) (M_looks : Int32) (M_unpacked : Int32) (M_chunks : Int32) (M_epoch : Int32) (M_side : Int32) (M_logged : Int32) (M_nexts : Int32) (M_hasCursor : Int32) (M_cursorMany : Int32) (M_cursorAt : Int32) (M_bits : Int32) (M_from : Int32) (M_askMany : Int32) (M_askLeast : Int32) (M_askGreatest : Int32) (M_askSum : Int64) (M_place : Nat → Int32) (M_length : Nat → Int32) (p0 : Int32) (p1 : Int32) {r : Int32} (hfin : m_X10_isOf M_place M_length p0 p1 = some (r)) : CT l yX10_isOf cX10_isOf 3 (some .boolean) rm_X10_isOf G (tyC cI cZ cJ) [.ref aM, .int p0, .int p1] [oX10 aM M_thrown M_series M_most M_ratio aMdisk M_writes M_fuse M_down M_recovers M_looks M_unpacked aMits aMmany aMplace aMlength aMtimes aMvalues aMorder M_chunks M_epoch M_side aMheadOf aMheadTime aMheadValue M_logged aMnext aMisNew M_nexts aMcursorTime aMcursorValue M_hasCursor M_cursorMany M_cursorAt aMmade M_bits M_from M_askMany M_askLeast M_askGreatest M_askSum, rI aMplace cI 240 M_place, rI aMlength cI 240 M_length] (some (.int r)) [oX10 aM M_thrown M_series M_most M_ratio aMdisk M_writes M_fuse M_down M_recovers M_looks M_unpacked aMits aMmany aMplace aMlength aMtimes aMvalues aMorder M_chunks M_epoch M_side aMheadOf aMheadTime aMheadValue M_logged aMnext aMisNew M_nexts aMcursorTime aMcursorValue M_hasCursor M_cursorMany M_cursorAt aMmade M_bits M_from M_askMany M_askLeast M_askGreatest M_askSum, rI aMplace cI 240 M_place, rI aMlength cI 240 M_length] := by
  refine CT.ofW (lvl := [(0, .ref aM), (1, .int p0), (2, .int p1)]) (by decide) (Nat.le_of_ble_eq_true rfl) rfl ?_
  intro p e s m args below meth c A ls0 QQ hQQ hx hb hml hr hlocks htc hN hown hK hA hw0 hl0
  rw [m_X10_isOf] at hfin
  refine lv_iload_n hx hb dX10_isOf_0 rfl (lv_at hl0 2 rfl) ?_
  refine lv_aload_n hx hb dX10_isOf_1 rfl (lv_at hl0 0 rfl) ?_
  refine va_get (D := G) (ci := 10) (v := .ref aMplace) (C := RX10) (T := TX10) (N := 40) hx hb htc iX10 hown hK hw0.1 0 rfl rfl 13 (by decide) (htc _ mw_960) (fun _ h9 => h9) rfl dX10_isOf_2 ?_
  refine lv_iload_n hx hb dX10_isOf_5 rfl (lv_at hl0 1 rfl) ?_
  replace hfin := ckb_some hfin
  obtain ⟨hin_1, hfin⟩ := hfin
  refine va_iald hx hb hK hw0.1 1 0 rfl rfl hin_1 dX10_isOf_6 ?_
  replace hfin := ob1_some hfin
  obtain ⟨s_2, hJ_3, hfin⟩ := hfin
  have kj_4 : ∀ (H : Heap) (locs : List Loc) (ls : Array Slot), wS G A s H locs [oX10 aM M_thrown M_series M_most M_ratio aMdisk M_writes M_fuse M_down M_recovers M_looks M_unpacked aMits aMmany aMplace aMlength aMtimes aMvalues aMorder M_chunks M_epoch M_side aMheadOf aMheadTime aMheadValue M_logged aMnext aMisNew M_nexts aMcursorTime aMcursorValue M_hasCursor M_cursorMany M_cursorAt aMmade M_bits M_from M_askMany M_askLeast M_askGreatest M_askSum, rI aMplace cI 240 M_place, rI aMlength cI 240 M_length] → lv_has ls 3 [] → W p l e rm_X10_isOf s m args below meth c H locs 0 0 QQ (F0 m 32 ls [.int s_2]) := by
    clear hw0 hl0 ls0 hJ_3
    intro H9 locs9 ls9 hw9 hl9
    replace hfin := ckz_some hfin
    obtain ⟨hz_10, hfin⟩ := hfin
    cases hfin
    rw [hQQ]
    exact ct_zret hx hb hr hlocks hz_10 hw9.1 hw9.2.1 hw9.2.2 dX10_isOf_32
  clear hfin
  refine lv_icmp_lt (tgt := 31) hx hb dX10_isOf_7 (by decide) (fun c_5 => ?_) (fun c_5 => ?_)
  · replace hJ_3 := it_t c_5 hJ_3
    refine lv_iconst (v := (0 : Int32)) hx hb dX10_isOf_31 (by decide) ?_
    cases hJ_3
    exact kj_4 _ _ _ hw0 (lv_sub hl0 [] rfl)
  · replace hJ_3 := it_f c_5 hJ_3
    refine lv_iload_n hx hb dX10_isOf_10 rfl (lv_at hl0 2 rfl) ?_
    refine lv_aload_n hx hb dX10_isOf_11 rfl (lv_at hl0 0 rfl) ?_
    refine va_get (D := G) (ci := 10) (v := .ref aMplace) (C := RX10) (T := TX10) (N := 40) hx hb htc iX10 hown hK hw0.1 0 rfl rfl 13 (by decide) (htc _ mw_960) (fun _ h9 => h9) rfl dX10_isOf_12 ?_
    refine lv_iload_n hx hb dX10_isOf_15 rfl (lv_at hl0 1 rfl) ?_
    replace hJ_3 := ckb_some hJ_3
    obtain ⟨hin_6, hJ_3⟩ := hJ_3
    refine va_iald hx hb hK hw0.1 1 0 rfl rfl hin_6 dX10_isOf_16 ?_
    refine lv_aload_n hx hb dX10_isOf_17 rfl (lv_at hl0 0 rfl) ?_
    refine va_get (D := G) (ci := 10) (v := .ref aMlength) (C := RX10) (T := TX10) (N := 40) hx hb htc iX10 hown hK hw0.1 0 rfl rfl 14 (by decide) (htc _ mw_961) (fun _ h9 => h9) rfl dX10_isOf_18 ?_
    refine lv_iload_n hx hb dX10_isOf_21 rfl (lv_at hl0 1 rfl) ?_
    replace hJ_3 := ckb_some hJ_3
    obtain ⟨hin_7, hJ_3⟩ := hJ_3
    refine va_iald hx hb hK hw0.1 2 0 rfl rfl hin_7 dX10_isOf_22 ?_
    refine lv_iadd hx hb dX10_isOf_23 ?_
    refine lv_icmp_ge (tgt := 31) hx hb dX10_isOf_24 (by decide) (fun c_8 => ?_) (fun c_8 => ?_)
    · replace hJ_3 := it_t c_8 hJ_3
      refine lv_iconst (v := (0 : Int32)) hx hb dX10_isOf_31 (by decide) ?_
      cases hJ_3
      exact kj_4 _ _ _ hw0 (lv_sub hl0 [] rfl)
    · replace hJ_3 := it_f c_8 hJ_3
      refine lv_iconst (v := (1 : Int32)) hx hb dX10_isOf_27 (by decide) ?_
      refine lv_goto (tgt := 32) hx hb dX10_isOf_28 (by decide) ?_
      cases hJ_3
      exact kj_4 _ _ _ hw0 (lv_sub hl0 [] rfl)
abbrev rm_X10_isTaken : Room := { frames := 1, cells := 0, slots := 0, locals := 22 }
theorem hd_X10_isTaken : yX10_isTaken.cls = RX10 ∧ yX10_isTaken.cls ≠ "java/lang/invoke/MethodHandle" ∧ yX10_isTaken.cls ≠ "java/lang/invoke/VarHandle" ∧ (parseMethodDescriptor yX10_isTaken.desc).map (fun d => d.parameters.length) = some 2 := by decide +kernel
set_option maxHeartbeats 4000000 in
set_option maxRecDepth 100000 in
theorem c_X10_isTaken (l : Launch) (G : va_G) (cI cZ cJ : ClassId) (aM aMdisk aMits aMmany aMplace aMlength aMtimes aMvalues aMorder aMheadOf aMheadTime aMheadValue aMnext aMisNew aMcursorTime aMcursorValue aMmade : Nat) (M_thrown : Int32) (M_series : Int32) (M_most : Int32) (M_ratio : Int32) (M_writes : Int32) (M_fuse : Int32) (M_down : Int32) (M_recovers : Int32) (M_looks : Int32) (M_unpacked : Int32) (M_chunks : Int32) (M_epoch : Int32) (M_side : Int32) (M_logged : Int32) (M_nexts : Int32) (M_hasCursor : Int32) (M_cursorMany : Int32) (M_cursorAt : Int32) (M_bits : Int32) (M_from : Int32) (M_askMany : Int32) (M_askLeast : Int32) (M_askGreatest : Int32) (M_askSum : Int64) (M_place : Nat → Int32) (M_length : Nat → Int32) (M_order : Nat → Int32) (M_next : Nat → Int32) (M_isNew : Nat → Int32) (p0 : Int32) (p1 : Int32) {r : Int32} (hfin : m_X10_isTaken M_chunks M_place M_length M_order M_next M_isNew p0 p1 = some (r)) : CT l yX10_isTaken cX10_isTaken 5 (some .boolean) rm_X10_isTaken G (tyC cI cZ cJ) [.ref aM, .int p0, .int p1] [oX10 aM M_thrown M_series M_most M_ratio aMdisk M_writes M_fuse M_down M_recovers M_looks M_unpacked aMits aMmany aMplace aMlength aMtimes aMvalues aMorder M_chunks M_epoch M_side aMheadOf aMheadTime aMheadValue M_logged aMnext aMisNew M_nexts aMcursorTime aMcursorValue M_hasCursor M_cursorMany M_cursorAt aMmade M_bits M_from M_askMany M_askLeast M_askGreatest M_askSum, rI aMplace cI 240 M_place, rI aMlength cI 240 M_length, rI aMorder cI 96 M_order, rI aMnext cI 240 M_next, rI aMisNew cZ 240 M_isNew] (some (.int r)) [oX10 aM M_thrown M_series M_most M_ratio aMdisk M_writes M_fuse M_down M_recovers M_looks M_unpacked aMits aMmany aMplace aMlength aMtimes aMvalues aMorder M_chunks M_epoch M_side aMheadOf aMheadTime aMheadValue M_logged aMnext aMisNew M_nexts aMcursorTime aMcursorValue M_hasCursor M_cursorMany M_cursorAt aMmade M_bits M_from M_askMany M_askLeast M_askGreatest M_askSum, rI aMplace cI 240 M_place, rI aMlength cI 240 M_length, rI aMorder cI 96 M_order, rI aMnext cI 240 M_next, rI aMisNew cZ 240 M_isNew] := by
  refine CT.ofW (lvl := [(0, .ref aM), (1, .int p0), (2, .int p1)]) (by decide) (Nat.le_of_ble_eq_true rfl) rfl ?_
  intro p e s m args below meth c A ls0 QQ hQQ hx hb hml hr hlocks htc hN hown hK hA hw0 hl0
  rw [m_X10_isTaken] at hfin
  refine lv_iconst (v := (0 : Int32)) hx hb dX10_isTaken_0 (by decide) ?_
  refine lv_istore_n (lv' := [(3, .int (0 : Int32)), (0, .ref aM), (1, .int p0), (2, .int p1)]) hx hb dX10_isTaken_1 rfl hl0 (by decide) rfl (fun ls1 hl1 => ?_)
  clear hl0 ls0
  refine lv_iconst (v := (0 : Int32)) hx hb dX10_isTaken_2 (by decide) ?_
  refine lv_istore (lv' := [(4, .int (0 : Int32)), (3, .int (0 : Int32)), (0, .ref aM), (1, .int p0), (2, .int p1)]) hx hb dX10_isTaken_3 hl1 (by decide) rfl (fun ls2 hl2 => ?_)
  clear hl1 ls1
  replace hfin := ob1_some hfin
  obtain ⟨v3_9, hL_5, hfin⟩ := hfin
  have kx_6 : ∀ (H : Heap) (locs : List Loc) (ls : Array Slot), wS G A s H locs [oX10 aM M_thrown M_series M_most M_ratio aMdisk M_writes M_fuse M_down M_recovers M_looks M_unpacked aMits aMmany aMplace aMlength aMtimes aMvalues aMorder M_chunks M_epoch M_side aMheadOf aMheadTime aMheadValue M_logged aMnext aMisNew M_nexts aMcursorTime aMcursorValue M_hasCursor M_cursorMany M_cursorAt aMmade M_bits M_from M_askMany M_askLeast M_askGreatest M_askSum, rI aMplace cI 240 M_place, rI aMlength cI 240 M_length, rI aMorder cI 96 M_order, rI aMnext cI 240 M_next, rI aMisNew cZ 240 M_isNew] → lv_has ls 5 [(0, .ref aM), (1, .int p0), (2, .int p1), (3, .int v3_9)] → W p l e rm_X10_isTaken s m args below meth c H locs 0 0 QQ (F0 m 45 ls []) := by
    clear hw0 hl2 ls2 hL_5
    intro H24 locs24 ls24 hw24 hl24
    refine lv_iconst (v := (0 : Int32)) hx hb dX10_isTaken_45 (by decide) ?_
    refine lv_istore (lv' := [(4, .int (0 : Int32)), (0, .ref aM), (1, .int p0), (2, .int p1), (3, .int v3_9)]) hx hb dX10_isTaken_46 hl24 (by decide) rfl (fun ls25 hl25 => ?_)
    clear hl24 ls24
    replace hfin := ob1_some hfin
    obtain ⟨v3_32, hL_28, hfin⟩ := hfin
    have kx_29 : ∀ (H : Heap) (locs : List Loc) (ls : Array Slot), wS G A s H locs [oX10 aM M_thrown M_series M_most M_ratio aMdisk M_writes M_fuse M_down M_recovers M_looks M_unpacked aMits aMmany aMplace aMlength aMtimes aMvalues aMorder M_chunks M_epoch M_side aMheadOf aMheadTime aMheadValue M_logged aMnext aMisNew M_nexts aMcursorTime aMcursorValue M_hasCursor M_cursorMany M_cursorAt aMmade M_bits M_from M_askMany M_askLeast M_askGreatest M_askSum, rI aMplace cI 240 M_place, rI aMlength cI 240 M_length, rI aMorder cI 96 M_order, rI aMnext cI 240 M_next, rI aMisNew cZ 240 M_isNew] → lv_has ls 5 [(3, .int v3_32)] → W p l e rm_X10_isTaken s m args below meth c H locs 0 0 QQ (F0 m 95 ls []) := by
      clear hw24 H24 locs24 hl25 ls25 hL_28
      intro H49 locs49 ls49 hw49 hl49
      refine lv_iload_n hx hb dX10_isTaken_95 rfl (lv_at hl49 0 rfl) ?_
      replace hfin := ckz_some hfin
      obtain ⟨hz_50, hfin⟩ := hfin
      cases hfin
      rw [hQQ]
      exact ct_zret hx hb hr hlocks hz_50 hw49.1 hw49.2.1 hw49.2.2 dX10_isTaken_96
    have lp_30 : ∀ (n : Nat) (v3_26 : Int32) (v4_27 : Int32), lp_X10_isTaken_48 M_place M_length M_next M_isNew p0 p1 n v3_26 v4_27 = some (v3_32) → ∀ (H : Heap) (locs : List Loc) (ls : Array Slot), wS G A s H locs [oX10 aM M_thrown M_series M_most M_ratio aMdisk M_writes M_fuse M_down M_recovers M_looks M_unpacked aMits aMmany aMplace aMlength aMtimes aMvalues aMorder M_chunks M_epoch M_side aMheadOf aMheadTime aMheadValue M_logged aMnext aMisNew M_nexts aMcursorTime aMcursorValue M_hasCursor M_cursorMany M_cursorAt aMmade M_bits M_from M_askMany M_askLeast M_askGreatest M_askSum, rI aMplace cI 240 M_place, rI aMlength cI 240 M_length, rI aMorder cI 96 M_order, rI aMnext cI 240 M_next, rI aMisNew cZ 240 M_isNew] → lv_has ls 5 [(0, .ref aM), (1, .int p0), (2, .int p1), (3, .int v3_26), (4, .int v4_27)] → W p l e rm_X10_isTaken s m args below meth c H locs 0 0 QQ (F0 m 48 ls []) := by
      clear hw24 H24 locs24 hl25 ls25 hfin
      intro n
      induction n with
      | zero =>
        intro v3_26 v4_27 hB_31
        exact absurd hB_31 (by rw [lp_X10_isTaken_48]; exact fun h9 => nomatch h9)
      | succ n ih =>
        intro v3_26 v4_27 hB_31 H33 locs33 ls33 hw33 hl33
        rw [lp_X10_isTaken_48] at hB_31
        refine lv_iload hx hb dX10_isTaken_48 (lv_at hl33 4 rfl) ?_
        refine lv_iload_n hx hb dX10_isTaken_50 rfl (lv_at hl33 2 rfl) ?_
        refine lv_icmp_ge (tgt := 95) hx hb dX10_isTaken_51 (by decide) (fun c_34 => ?_) (fun c_34 => ?_)
        · replace hB_31 := it_t c_34 hB_31
          cases hB_31
          exact kx_29 _ _ _ hw33 (lv_sub hl33 [3] rfl)
        · replace hB_31 := it_f c_34 hB_31
          refine lv_iload_n hx hb dX10_isTaken_54 rfl (lv_at hl33 3 rfl) ?_
          replace hB_31 := ob1_some hB_31
          obtain ⟨s_35, hJ_36, hB_31⟩ := hB_31
          have kj_37 : ∀ (H : Heap) (locs : List Loc) (ls : Array Slot), wS G A s H locs [oX10 aM M_thrown M_series M_most M_ratio aMdisk M_writes M_fuse M_down M_recovers M_looks M_unpacked aMits aMmany aMplace aMlength aMtimes aMvalues aMorder M_chunks M_epoch M_side aMheadOf aMheadTime aMheadValue M_logged aMnext aMisNew M_nexts aMcursorTime aMcursorValue M_hasCursor M_cursorMany M_cursorAt aMmade M_bits M_from M_askMany M_askLeast M_askGreatest M_askSum, rI aMplace cI 240 M_place, rI aMlength cI 240 M_length, rI aMorder cI 96 M_order, rI aMnext cI 240 M_next, rI aMisNew cZ 240 M_isNew] → lv_has ls 5 [(0, .ref aM), (1, .int p0), (2, .int p1), (4, .int v4_27)] → W p l e rm_X10_isTaken s m args below meth c H locs 0 0 QQ (F0 m 88 ls [.int s_35]) := by
            clear hw33 H33 locs33 hl33 ls33 hJ_36
            intro H46 locs46 ls46 hw46 hl46
            refine lv_istore_n (lv' := [(3, .int s_35), (0, .ref aM), (1, .int p0), (2, .int p1), (4, .int v4_27)]) hx hb dX10_isTaken_88 rfl hl46 (by decide) rfl (fun ls47 hl47 => ?_)
            clear hl46 ls46
            refine lv_iinc (v := (v4_27 + (1 : Int32))) (lv' := [(4, .int (v4_27 + (1 : Int32))), (3, .int s_35), (0, .ref aM), (1, .int p0), (2, .int p1)]) hx hb dX10_isTaken_89 hl47 (k := 4) rfl rfl (by decide) rfl (fun ls48 hl48 => ?_)
            clear hl47 ls47
            refine lv_goto (tgt := 48) hx hb dX10_isTaken_92 (by decide) ?_
            exact ih s_35 (v4_27 + (1 : Int32)) hB_31 _ _ _ hw46 (lv_sub hl48 [2, 3, 4, 1, 0] rfl)
          clear hB_31
          refine lv_if_ne (tgt := 83) hx hb dX10_isTaken_55 (by decide) (fun c_38 => ?_) (fun c_38 => ?_)
          · replace hJ_36 := it_f c_38 hJ_36
            refine lv_iconst (v := (1 : Int32)) hx hb dX10_isTaken_83 (by decide) ?_
            refine lv_goto (tgt := 88) hx hb dX10_isTaken_84 (by decide) ?_
            cases hJ_36
            exact kj_37 _ _ _ hw33 (lv_sub hl33 [0, 1, 2, 4] rfl)
          · replace hJ_36 := it_t c_38 hJ_36
            refine lv_aload_n hx hb dX10_isTaken_58 rfl (lv_at hl33 0 rfl) ?_
            refine va_get (D := G) (ci := 10) (v := .ref aMisNew) (C := RX10) (T := TX10) (N := 40) hx hb htc iX10 hown hK hw33.1 0 rfl rfl 26 (by decide) (htc _ mw_973) (fun _ h9 => h9) rfl dX10_isTaken_59 ?_
            refine lv_iload hx hb dX10_isTaken_62 (lv_at hl33 4 rfl) ?_
            replace hJ_36 := ckb_some hJ_36
            obtain ⟨hin_39, hJ_36⟩ := hJ_36
            refine va_zald hx hb hK hw33.1 5 1 rfl rfl hin_39 dX10_isTaken_64 ?_
            refine lv_if_eq (tgt := 87) hx hb dX10_isTaken_65 (by decide) (fun c_40 => ?_) (fun c_40 => ?_)
            · replace hJ_36 := it_t c_40 hJ_36
              refine lv_iconst (v := (0 : Int32)) hx hb dX10_isTaken_87 (by decide) ?_
              cases hJ_36
              exact kj_37 _ _ _ hw33 (lv_sub hl33 [0, 1, 2, 4] rfl)
            · replace hJ_36 := it_f c_40 hJ_36
              refine lv_aload_n hx hb dX10_isTaken_68 rfl (lv_at hl33 0 rfl) ?_
              refine lv_aload_n hx hb dX10_isTaken_69 rfl (lv_at hl33 0 rfl) ?_
              refine va_get (D := G) (ci := 10) (v := .ref aMnext) (C := RX10) (T := TX10) (N := 40) hx hb htc iX10 hown hK hw33.1 0 rfl rfl 25 (by decide) (htc _ mw_972) (fun _ h9 => h9) rfl dX10_isTaken_70 ?_
              refine lv_iload hx hb dX10_isTaken_73 (lv_at hl33 4 rfl) ?_
              replace hJ_36 := ckb_some hJ_36
              obtain ⟨hin_41, hJ_36⟩ := hJ_36
              refine va_iald hx hb hK hw33.1 4 0 rfl rfl hin_41 dX10_isTaken_75 ?_
              refine lv_iload_n hx hb dX10_isTaken_76 rfl (lv_at hl33 1 rfl) ?_
              replace hJ_36 := ob1_some hJ_36
              obtain ⟨r_43, hE_42, hJ_36⟩ := hJ_36
              refine ctV (a := aM) (As := [.int (M_next (Int32.toNatClampNeg v4_27)), .int p0]) (rest := []) (st1 := [.int r_43]) (wc := [oX10 aM M_thrown M_series M_most M_ratio aMdisk M_writes M_fuse M_down M_recovers M_looks M_unpacked aMits aMmany aMplace aMlength aMtimes aMvalues aMorder M_chunks M_epoch M_side aMheadOf aMheadTime aMheadValue M_logged aMnext aMisNew M_nexts aMcursorTime aMcursorValue M_hasCursor M_cursorMany M_cursorAt aMmade M_bits M_from M_askMany M_askLeast M_askGreatest M_askSum, rI aMplace cI 240 M_place, rI aMlength cI 240 M_length]) (w1 := [oX10 aM M_thrown M_series M_most M_ratio aMdisk M_writes M_fuse M_down M_recovers M_looks M_unpacked aMits aMmany aMplace aMlength aMtimes aMvalues aMorder M_chunks M_epoch M_side aMheadOf aMheadTime aMheadValue M_logged aMnext aMisNew M_nexts aMcursorTime aMcursorValue M_hasCursor M_cursorMany M_cursorAt aMmade M_bits M_from M_askMany M_askLeast M_askGreatest M_askSum, rI aMplace cI 240 M_place, rI aMlength cI 240 M_length]) (wr := [rI aMorder cI 96 M_order, rI aMnext cI 240 M_next, rI aMisNew cZ 240 M_isNew]) (wb := [oX10 aM M_thrown M_series M_most M_ratio aMdisk M_writes M_fuse M_down M_recovers M_looks M_unpacked aMits aMmany aMplace aMlength aMtimes aMvalues aMorder M_chunks M_epoch M_side aMheadOf aMheadTime aMheadValue M_logged aMnext aMisNew M_nexts aMcursorTime aMcursorValue M_hasCursor M_cursorMany M_cursorAt aMmade M_bits M_from M_askMany M_askLeast M_askGreatest M_askSum, rI aMplace cI 240 M_place, rI aMlength cI 240 M_length, rI aMorder cI 96 M_order, rI aMnext cI 240 M_next, rI aMisNew cZ 240 M_isNew]) (v := (some (.int r_43))) hx hb hml hown htc hN (c_X10_isOf l G cI cZ cJ aM aMdisk aMits aMmany aMplace aMlength aMtimes aMvalues aMorder aMheadOf aMheadTime aMheadValue aMnext aMisNew aMcursorTime aMcursorValue aMmade M_thrown M_series M_most M_ratio M_writes M_fuse M_down M_recovers M_looks M_unpacked M_chunks M_epoch M_side M_logged M_nexts M_hasCursor M_cursorMany M_cursorAt M_bits M_from M_askMany M_askLeast M_askGreatest M_askSum M_place M_length (M_next (Int32.toNatClampNeg v4_27)) p0 hE_42) mw_1161 mw_1163 mp_51 mw_12 mw_1164 hd_X10_isOf ⟨rfl, rfl⟩ ⟨Nat.le_of_ble_eq_true rfl, Nat.le_of_ble_eq_true rfl⟩ hK hw33 hA [0, 1, 2] [3, 4, 5] [3, 4, 5, 0, 1, 2] rfl rfl rfl rfl rfl (by decide) rfl rfl rfl 0 rfl rfl rfl rfl hl33.1 rfl rfl (Nat.le_of_ble_eq_true rfl) dX10_isTaken_77 ⟨Nat.zero_le _, Nat.zero_le _⟩ (fun H44 locs44 hw44 => ?_)
              clear hw33 H33 locs33
              refine lv_if_eq (tgt := 87) hx hb dX10_isTaken_80 (by decide) (fun c_45 => ?_) (fun c_45 => ?_)
              · replace hJ_36 := it_t c_45 hJ_36
                refine lv_iconst (v := (0 : Int32)) hx hb dX10_isTaken_87 (by decide) ?_
                cases hJ_36
                exact kj_37 _ _ _ hw44 (lv_sub hl33 [0, 1, 2, 4] rfl)
              · replace hJ_36 := it_f c_45 hJ_36
                refine lv_iconst (v := (1 : Int32)) hx hb dX10_isTaken_83 (by decide) ?_
                refine lv_goto (tgt := 88) hx hb dX10_isTaken_84 (by decide) ?_
                cases hJ_36
                exact kj_37 _ _ _ hw44 (lv_sub hl33 [0, 1, 2, 4] rfl)
    exact lp_30 NN v3_9 (0 : Int32) hL_28 _ _ _ hw24 (lv_sub hl25 [1, 2, 3, 4, 0] rfl)
  have lp_7 : ∀ (n : Nat) (v3_3 : Int32) (v4_4 : Int32), lp_X10_isTaken_5 M_chunks M_place M_length M_order p0 n v3_3 v4_4 = some (v3_9) → ∀ (H : Heap) (locs : List Loc) (ls : Array Slot), wS G A s H locs [oX10 aM M_thrown M_series M_most M_ratio aMdisk M_writes M_fuse M_down M_recovers M_looks M_unpacked aMits aMmany aMplace aMlength aMtimes aMvalues aMorder M_chunks M_epoch M_side aMheadOf aMheadTime aMheadValue M_logged aMnext aMisNew M_nexts aMcursorTime aMcursorValue M_hasCursor M_cursorMany M_cursorAt aMmade M_bits M_from M_askMany M_askLeast M_askGreatest M_askSum, rI aMplace cI 240 M_place, rI aMlength cI 240 M_length, rI aMorder cI 96 M_order, rI aMnext cI 240 M_next, rI aMisNew cZ 240 M_isNew] → lv_has ls 5 [(0, .ref aM), (1, .int p0), (2, .int p1), (3, .int v3_3), (4, .int v4_4)] → W p l e rm_X10_isTaken s m args below meth c H locs 0 0 QQ (F0 m 5 ls []) := by
    clear hw0 hl2 ls2 hfin
    intro n
    induction n with
    | zero =>
      intro v3_3 v4_4 hB_8
      exact absurd hB_8 (by rw [lp_X10_isTaken_5]; exact fun h9 => nomatch h9)
    | succ n ih =>
      intro v3_3 v4_4 hB_8 H10 locs10 ls10 hw10 hl10
      rw [lp_X10_isTaken_5] at hB_8
      refine lv_iload hx hb dX10_isTaken_5 (lv_at hl10 4 rfl) ?_
      refine lv_aload_n hx hb dX10_isTaken_7 rfl (lv_at hl10 0 rfl) ?_
      refine va_get (D := G) (ci := 10) (v := .int M_chunks) (C := RX10) (T := TX10) (N := 40) hx hb htc iX10 hown hK hw10.1 0 rfl rfl 18 (by decide) (htc _ mw_965) (fun _ h9 => h9) rfl dX10_isTaken_8 ?_
      refine lv_icmp_ge (tgt := 45) hx hb dX10_isTaken_11 (by decide) (fun c_11 => ?_) (fun c_11 => ?_)
      · replace hB_8 := it_t c_11 hB_8
        cases hB_8
        exact kx_6 _ _ _ hw10 (lv_sub hl10 [0, 1, 2, 3] rfl)
      · replace hB_8 := it_f c_11 hB_8
        refine lv_iload_n hx hb dX10_isTaken_14 rfl (lv_at hl10 3 rfl) ?_
        replace hB_8 := ob1_some hB_8
        obtain ⟨s_12, hJ_13, hB_8⟩ := hB_8
        have kj_14 : ∀ (H : Heap) (locs : List Loc) (ls : Array Slot), wS G A s H locs [oX10 aM M_thrown M_series M_most M_ratio aMdisk M_writes M_fuse M_down M_recovers M_looks M_unpacked aMits aMmany aMplace aMlength aMtimes aMvalues aMorder M_chunks M_epoch M_side aMheadOf aMheadTime aMheadValue M_logged aMnext aMisNew M_nexts aMcursorTime aMcursorValue M_hasCursor M_cursorMany M_cursorAt aMmade M_bits M_from M_askMany M_askLeast M_askGreatest M_askSum, rI aMplace cI 240 M_place, rI aMlength cI 240 M_length, rI aMorder cI 96 M_order, rI aMnext cI 240 M_next, rI aMisNew cZ 240 M_isNew] → lv_has ls 5 [(0, .ref aM), (1, .int p0), (2, .int p1), (4, .int v4_4)] → W p l e rm_X10_isTaken s m args below meth c H locs 0 0 QQ (F0 m 38 ls [.int s_12]) := by
          clear hw10 H10 locs10 hl10 ls10 hJ_13
          intro H21 locs21 ls21 hw21 hl21
          refine lv_istore_n (lv' := [(3, .int s_12), (0, .ref aM), (1, .int p0), (2, .int p1), (4, .int v4_4)]) hx hb dX10_isTaken_38 rfl hl21 (by decide) rfl (fun ls22 hl22 => ?_)
          clear hl21 ls21
          refine lv_iinc (v := (v4_4 + (1 : Int32))) (lv' := [(4, .int (v4_4 + (1 : Int32))), (3, .int s_12), (0, .ref aM), (1, .int p0), (2, .int p1)]) hx hb dX10_isTaken_39 hl22 (k := 4) rfl rfl (by decide) rfl (fun ls23 hl23 => ?_)
          clear hl22 ls22
          refine lv_goto (tgt := 5) hx hb dX10_isTaken_42 (by decide) ?_
          exact ih s_12 (v4_4 + (1 : Int32)) hB_8 _ _ _ hw21 (lv_sub hl23 [2, 3, 4, 1, 0] rfl)
        clear hB_8
        refine lv_if_ne (tgt := 33) hx hb dX10_isTaken_15 (by decide) (fun c_15 => ?_) (fun c_15 => ?_)
        · replace hJ_13 := it_f c_15 hJ_13
          refine lv_iconst (v := (1 : Int32)) hx hb dX10_isTaken_33 (by decide) ?_
          refine lv_goto (tgt := 38) hx hb dX10_isTaken_34 (by decide) ?_
          cases hJ_13
          exact kj_14 _ _ _ hw10 (lv_sub hl10 [0, 1, 2, 4] rfl)
        · replace hJ_13 := it_t c_15 hJ_13
          refine lv_aload_n hx hb dX10_isTaken_18 rfl (lv_at hl10 0 rfl) ?_
          refine lv_aload_n hx hb dX10_isTaken_19 rfl (lv_at hl10 0 rfl) ?_
          refine va_get (D := G) (ci := 10) (v := .ref aMorder) (C := RX10) (T := TX10) (N := 40) hx hb htc iX10 hown hK hw10.1 0 rfl rfl 17 (by decide) (htc _ mw_964) (fun _ h9 => h9) rfl dX10_isTaken_20 ?_
          refine lv_iload hx hb dX10_isTaken_23 (lv_at hl10 4 rfl) ?_
          replace hJ_13 := ckb_some hJ_13
          obtain ⟨hin_16, hJ_13⟩ := hJ_13
          refine va_iald hx hb hK hw10.1 3 0 rfl rfl hin_16 dX10_isTaken_25 ?_
          refine lv_iload_n hx hb dX10_isTaken_26 rfl (lv_at hl10 1 rfl) ?_
          replace hJ_13 := ob1_some hJ_13
          obtain ⟨r_18, hE_17, hJ_13⟩ := hJ_13
          refine ctV (a := aM) (As := [.int (M_order (Int32.toNatClampNeg v4_4)), .int p0]) (rest := []) (st1 := [.int r_18]) (wc := [oX10 aM M_thrown M_series M_most M_ratio aMdisk M_writes M_fuse M_down M_recovers M_looks M_unpacked aMits aMmany aMplace aMlength aMtimes aMvalues aMorder M_chunks M_epoch M_side aMheadOf aMheadTime aMheadValue M_logged aMnext aMisNew M_nexts aMcursorTime aMcursorValue M_hasCursor M_cursorMany M_cursorAt aMmade M_bits M_from M_askMany M_askLeast M_askGreatest M_askSum, rI aMplace cI 240 M_place, rI aMlength cI 240 M_length]) (w1 := [oX10 aM M_thrown M_series M_most M_ratio aMdisk M_writes M_fuse M_down M_recovers M_looks M_unpacked aMits aMmany aMplace aMlength aMtimes aMvalues aMorder M_chunks M_epoch M_side aMheadOf aMheadTime aMheadValue M_logged aMnext aMisNew M_nexts aMcursorTime aMcursorValue M_hasCursor M_cursorMany M_cursorAt aMmade M_bits M_from M_askMany M_askLeast M_askGreatest M_askSum, rI aMplace cI 240 M_place, rI aMlength cI 240 M_length]) (wr := [rI aMorder cI 96 M_order, rI aMnext cI 240 M_next, rI aMisNew cZ 240 M_isNew]) (wb := [oX10 aM M_thrown M_series M_most M_ratio aMdisk M_writes M_fuse M_down M_recovers M_looks M_unpacked aMits aMmany aMplace aMlength aMtimes aMvalues aMorder M_chunks M_epoch M_side aMheadOf aMheadTime aMheadValue M_logged aMnext aMisNew M_nexts aMcursorTime aMcursorValue M_hasCursor M_cursorMany M_cursorAt aMmade M_bits M_from M_askMany M_askLeast M_askGreatest M_askSum, rI aMplace cI 240 M_place, rI aMlength cI 240 M_length, rI aMorder cI 96 M_order, rI aMnext cI 240 M_next, rI aMisNew cZ 240 M_isNew]) (v := (some (.int r_18))) hx hb hml hown htc hN (c_X10_isOf l G cI cZ cJ aM aMdisk aMits aMmany aMplace aMlength aMtimes aMvalues aMorder aMheadOf aMheadTime aMheadValue aMnext aMisNew aMcursorTime aMcursorValue aMmade M_thrown M_series M_most M_ratio M_writes M_fuse M_down M_recovers M_looks M_unpacked M_chunks M_epoch M_side M_logged M_nexts M_hasCursor M_cursorMany M_cursorAt M_bits M_from M_askMany M_askLeast M_askGreatest M_askSum M_place M_length (M_order (Int32.toNatClampNeg v4_4)) p0 hE_17) mw_1161 mw_1163 mp_51 mw_12 mw_1164 hd_X10_isOf ⟨rfl, rfl⟩ ⟨Nat.le_of_ble_eq_true rfl, Nat.le_of_ble_eq_true rfl⟩ hK hw10 hA [0, 1, 2] [3, 4, 5] [3, 4, 5, 0, 1, 2] rfl rfl rfl rfl rfl (by decide) rfl rfl rfl 0 rfl rfl rfl rfl hl10.1 rfl rfl (Nat.le_of_ble_eq_true rfl) dX10_isTaken_27 ⟨Nat.zero_le _, Nat.zero_le _⟩ (fun H19 locs19 hw19 => ?_)
          clear hw10 H10 locs10
          refine lv_if_eq (tgt := 37) hx hb dX10_isTaken_30 (by decide) (fun c_20 => ?_) (fun c_20 => ?_)
          · replace hJ_13 := it_t c_20 hJ_13
            refine lv_iconst (v := (0 : Int32)) hx hb dX10_isTaken_37 (by decide) ?_
            cases hJ_13
            exact kj_14 _ _ _ hw19 (lv_sub hl10 [0, 1, 2, 4] rfl)
          · replace hJ_13 := it_f c_20 hJ_13
            refine lv_iconst (v := (1 : Int32)) hx hb dX10_isTaken_33 (by decide) ?_
            refine lv_goto (tgt := 38) hx hb dX10_isTaken_34 (by decide) ?_
            cases hJ_13
            exact kj_14 _ _ _ hw19 (lv_sub hl10 [0, 1, 2, 4] rfl)
  exact lp_7 NN (0 : Int32) (0 : Int32) hL_5 _ _ _ hw0 (lv_sub hl2 [2, 3, 4, 1, 0] rfl)
