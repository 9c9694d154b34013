theorem dX10_between_0 : decode cX10_between 0 = .ok (.iload_n 0, 1) := by decide +kernel
theorem dX10_between_1 : decode cX10_between 1 = .ok (.iload_n 1, 1) := by decide +kernel
theorem dX10_between_2 : decode cX10_between 2 = .ok (.if_icmp .ge 7, 3) := by decide +kernel
theorem dX10_between_5 : decode cX10_between 5 = .ok (.iload_n 1, 1) := by decide +kernel
theorem dX10_between_6 : decode cX10_between 6 = .ok (.goto 13, 3) := by decide +kernel
theorem dX10_between_9 : decode cX10_between 9 = .ok (.iload_n 0, 1) := by decide +kernel
theorem dX10_between_10 : decode cX10_between 10 = .ok (.iload_n 2, 1) := by decide +kernel
theorem dX10_between_11 : decode cX10_between 11 = .ok (.if_icmp .le 7, 3) := by decide +kernel
theorem dX10_between_14 : decode cX10_between 14 = .ok (.iload_n 2, 1) := by decide +kernel
theorem dX10_between_15 : decode cX10_between 15 = .ok (.goto 4, 3) := by decide +kernel
theorem dX10_between_18 : decode cX10_between 18 = .ok (.iload_n 0, 1) := by decide +kernel
theorem dX10_between_19 : decode cX10_between 19 = .ok (.ireturn, 1) := by decide +kernel
theorem dX10_thrown_0 : decode cX10_thrown 0 = .ok (.aload_n 0, 1) := by decide +kernel
theorem dX10_thrown_1 : decode cX10_thrown 1 = .ok (.getfield 76, 3) := by decide +kernel
theorem dX10_thrown_4 : decode cX10_thrown 4 = .ok (.ireturn, 1) := by decide +kernel
theorem dX10_isSeries_0 : decode cX10_isSeries 0 = .ok (.iload_n 1, 1) := by decide +kernel
theorem dX10_isSeries_1 : decode cX10_isSeries 1 = .ok (.ifCond .lt 15, 3) := by decide +kernel
theorem dX10_isSeries_4 : decode cX10_isSeries 4 = .ok (.iload_n 1, 1) := by decide +kernel
theorem dX10_isSeries_5 : decode cX10_isSeries 5 = .ok (.aload_n 0, 1) := by decide +kernel
theorem dX10_isSeries_6 : decode cX10_isSeries 6 = .ok (.getfield 67, 3) := by decide +kernel
theorem dX10_isSeries_9 : decode cX10_isSeries 9 = .ok (.if_icmp .ge 7, 3) := by decide +kernel
theorem dX10_isSeries_12 : decode cX10_isSeries 12 = .ok (.iconst 1, 1) := by decide +kernel
theorem dX10_isSeries_13 : decode cX10_isSeries 13 = .ok (.goto 4, 3) := by decide +kernel
theorem dX10_isSeries_16 : decode cX10_isSeries 16 = .ok (.iconst 0, 1) := by decide +kernel
theorem dX10_isSeries_17 : decode cX10_isSeries 17 = .ok (.ireturn, 1) := by decide +kernel
theorem dX10_write_0 : decode cX10_write 0 = .ok (.aload_n 0, 1) := by decide +kernel
theorem dX10_write_1 : decode cX10_write 1 = .ok (.getfield 13, 3) := by decide +kernel
theorem dX10_write_4 : decode cX10_write 4 = .ok (.ifCond .ne 10, 3) := by decide +kernel
theorem dX10_write_7 : decode cX10_write 7 = .ok (.aload_n 0, 1) := by decide +kernel
theorem dX10_write_8 : decode cX10_write 8 = .ok (.iconst 1, 1) := by decide +kernel
theorem dX10_write_9 : decode cX10_write 9 = .ok (.putfield 79, 3) := by decide +kernel
theorem dX10_write_12 : decode cX10_write 12 = .ok (.iconst 0, 1) := by decide +kernel
theorem dX10_write_13 : decode cX10_write 13 = .ok (.ireturn, 1) := by decide +kernel
theorem dX10_write_14 : decode cX10_write 14 = .ok (.aload_n 0, 1) := by decide +kernel
theorem dX10_write_15 : decode cX10_write 15 = .ok (.getfield 13, 3) := by decide +kernel
theorem dX10_write_18 : decode cX10_write 18 = .ok (.ifCond .le 13, 3) := by decide +kernel
theorem dX10_write_21 : decode cX10_write 21 = .ok (.aload_n 0, 1) := by decide +kernel
theorem dX10_write_22 : decode cX10_write 22 = .ok (.dup, 1) := by decide +kernel
theorem dX10_write_23 : decode cX10_write 23 = .ok (.getfield 13, 3) := by decide +kernel
theorem dX10_write_26 : decode cX10_write 26 = .ok (.iconst 1, 1) := by decide +kernel
theorem dX10_write_27 : decode cX10_write 27 = .ok (.isub, 1) := by decide +kernel
theorem dX10_write_28 : decode cX10_write 28 = .ok (.putfield 13, 3) := by decide +kernel
theorem dX10_write_31 : decode cX10_write 31 = .ok (.aload_n 0, 1) := by decide +kernel
theorem dX10_write_32 : decode cX10_write 32 = .ok (.dup, 1) := by decide +kernel
theorem dX10_write_33 : decode cX10_write 33 = .ok (.getfield 83, 3) := by decide +kernel
theorem dX10_write_36 : decode cX10_write 36 = .ok (.iconst 1, 1) := by decide +kernel
theorem dX10_write_37 : decode cX10_write 37 = .ok (.iadd, 1) := by decide +kernel
theorem dX10_write_38 : decode cX10_write 38 = .ok (.putfield 83, 3) := by decide +kernel
theorem dX10_write_41 : decode cX10_write 41 = .ok (.aload_n 0, 1) := by decide +kernel
theorem dX10_write_42 : decode cX10_write 42 = .ok (.getfield 7, 3) := by decide +kernel
theorem dX10_write_45 : decode cX10_write 45 = .ok (.iload_n 1, 1) := by decide +kernel
theorem dX10_write_46 : decode cX10_write 46 = .ok (.iload_n 2, 1) := by decide +kernel
theorem dX10_write_47 : decode cX10_write 47 = .ok (.iastore, 1) := by decide +kernel
theorem dX10_write_48 : decode cX10_write 48 = .ok (.iconst 1, 1) := by decide +kernel
theorem dX10_write_49 : decode cX10_write 49 = .ok (.ireturn, 1) := by decide +kernel
theorem dX10_dropCursor_0 : decode cX10_dropCursor 0 = .ok (.aload_n 0, 1) := by decide +kernel
theorem dX10_dropCursor_1 : decode cX10_dropCursor 1 = .ok (.iconst 0, 1) := by decide +kernel
theorem dX10_dropCursor_2 : decode cX10_dropCursor 2 = .ok (.putfield 86, 3) := by decide +kernel
theorem dX10_dropCursor_5 : decode cX10_dropCursor 5 = .ok (.aload_n 0, 1) := by decide +kernel
theorem dX10_dropCursor_6 : decode cX10_dropCursor 6 = .ok (.iconst 0, 1) := by decide +kernel
theorem dX10_dropCursor_7 : decode cX10_dropCursor 7 = .ok (.putfield 89, 3) := by decide +kernel
theorem dX10_dropCursor_10 : decode cX10_dropCursor 10 = .ok (.aload_n 0, 1) := by decide +kernel
theorem dX10_dropCursor_11 : decode cX10_dropCursor 11 = .ok (.iconst (-1), 1) := by decide +kernel
theorem dX10_dropCursor_12 : decode cX10_dropCursor 12 = .ok (.putfield 92, 3) := by decide +kernel
theorem dX10_dropCursor_15 : decode cX10_dropCursor 15 = .ok (.return_, 1) := by decide +kernel
theorem dX10_append_0 : decode cX10_append 0 = .ok (.aload_n 0, 1) := by decide +kernel
theorem dX10_append_1 : decode cX10_append 1 = .ok (.iconst 0, 1) := by decide +kernel
theorem dX10_append_2 : decode cX10_append 2 = .ok (.putfield 76, 3) := by decide +kernel
theorem dX10_append_5 : decode cX10_append 5 = .ok (.aload_n 0, 1) := by decide +kernel
theorem dX10_append_6 : decode cX10_append 6 = .ok (.invokevirtual 95, 3) := by decide +kernel
theorem dX10_append_9 : decode cX10_append 9 = .ok (.aload_n 0, 1) := by decide +kernel
theorem dX10_append_10 : decode cX10_append 10 = .ok (.getfield 79, 3) := by decide +kernel
theorem dX10_append_13 : decode cX10_append 13 = .ok (.ifCond .eq 6, 3) := by decide +kernel
theorem dX10_append_16 : decode cX10_append 16 = .ok (.bipush (-9), 2) := by decide +kernel
theorem dX10_append_18 : decode cX10_append 18 = .ok (.ireturn, 1) := by decide +kernel
theorem dX10_append_19 : decode cX10_append 19 = .ok (.aload_n 0, 1) := by decide +kernel
theorem dX10_append_20 : decode cX10_append 20 = .ok (.iload_n 1, 1) := by decide +kernel
theorem dX10_append_21 : decode cX10_append 21 = .ok (.invokevirtual 98, 3) := by decide +kernel
theorem dX10_append_24 : decode cX10_append 24 = .ok (.ifCond .ne 6, 3) := by decide +kernel
theorem dX10_append_27 : decode cX10_append 27 = .ok (.bipush (-2), 2) := by decide +kernel
theorem dX10_append_29 : decode cX10_append 29 = .ok (.ireturn, 1) := by decide +kernel
theorem dX10_append_30 : decode cX10_append 30 = .ok (.aload_n 0, 1) := by decide +kernel
theorem dX10_append_31 : decode cX10_append 31 = .ok (.iload_n 1, 1) := by decide +kernel
theorem dX10_append_32 : decode cX10_append 32 = .ok (.iload_n 2, 1) := by decide +kernel
theorem dX10_append_33 : decode cX10_append 33 = .ok (.invokevirtual 102, 3) := by decide +kernel
theorem dX10_append_36 : decode cX10_append 36 = .ok (.ifCond .ne 5, 3) := by decide +kernel
theorem dX10_append_39 : decode cX10_append 39 = .ok (.iconst (-1), 1) := by decide +kernel
theorem dX10_append_40 : decode cX10_append 40 = .ok (.ireturn, 1) := by decide +kernel
theorem dX10_append_41 : decode cX10_append 41 = .ok (.aload_n 0, 1) := by decide +kernel
theorem dX10_append_42 : decode cX10_append 42 = .ok (.getfield 106, 3) := by decide +kernel
theorem dX10_append_45 : decode cX10_append 45 = .ok (.sipush 128, 3) := by decide +kernel
theorem dX10_append_48 : decode cX10_append 48 = .ok (.if_icmp .ne 6, 3) := by decide +kernel
theorem dX10_append_51 : decode cX10_append 51 = .ok (.bipush (-3), 2) := by decide +kernel
theorem dX10_append_53 : decode cX10_append 53 = .ok (.ireturn, 1) := by decide +kernel
theorem dX10_append_54 : decode cX10_append 54 = .ok (.sipush 1923, 3) := by decide +kernel
theorem dX10_append_57 : decode cX10_append 57 = .ok (.iconst 4, 1) := by decide +kernel
theorem dX10_append_58 : decode cX10_append 58 = .ok (.aload_n 0, 1) := by decide +kernel
theorem dX10_append_59 : decode cX10_append 59 = .ok (.getfield 106, 3) := by decide +kernel
theorem dX10_append_62 : decode cX10_append 62 = .ok (.imul, 1) := by decide +kernel
theorem dX10_append_63 : decode cX10_append 63 = .ok (.iadd, 1) := by decide +kernel
theorem dX10_append_64 : decode cX10_append 64 = .ok (.istore 4, 2) := by decide +kernel
theorem dX10_append_66 : decode cX10_append 66 = .ok (.aload_n 0, 1) := by decide +kernel
theorem dX10_append_67 : decode cX10_append 67 = .ok (.iload 4, 2) := by decide +kernel
theorem dX10_append_69 : decode cX10_append 69 = .ok (.iload_n 1, 1) := by decide +kernel
theorem dX10_append_70 : decode cX10_append 70 = .ok (.invokevirtual 109, 3) := by decide +kernel
theorem dX10_append_73 : decode cX10_append 73 = .ok (.ifCond .eq 44, 3) := by decide +kernel
theorem dX10_append_76 : decode cX10_append 76 = .ok (.aload_n 0, 1) := by decide +kernel
theorem dX10_append_77 : decode cX10_append 77 = .ok (.iload 4, 2) := by decide +kernel
theorem dX10_append_79 : decode cX10_append 79 = .ok (.iconst 1, 1) := by decide +kernel
theorem dX10_append_80 : decode cX10_append 80 = .ok (.iadd, 1) := by decide +kernel
theorem dX10_append_81 : decode cX10_append 81 = .ok (.iload_n 2, 1) := by decide +kernel
theorem dX10_append_82 : decode cX10_append 82 = .ok (.invokevirtual 109, 3) := by decide +kernel
theorem dX10_append_85 : decode cX10_append 85 = .ok (.ifCond .eq 32, 3) := by decide +kernel
theorem dX10_append_88 : decode cX10_append 88 = .ok (.aload_n 0, 1) := by decide +kernel
theorem dX10_append_89 : decode cX10_append 89 = .ok (.iload 4, 2) := by decide +kernel
theorem dX10_append_91 : decode cX10_append 91 = .ok (.iconst 2, 1) := by decide +kernel
theorem dX10_append_92 : decode cX10_append 92 = .ok (.iadd, 1) := by decide +kernel
theorem dX10_append_93 : decode cX10_append 93 = .ok (.iload_n 3, 1) := by decide +kernel
theorem dX10_append_94 : decode cX10_append 94 = .ok (.invokevirtual 109, 3) := by decide +kernel
theorem dX10_append_97 : decode cX10_append 97 = .ok (.ifCond .eq 20, 3) := by decide +kernel
theorem dX10_append_100 : decode cX10_append 100 = .ok (.aload_n 0, 1) := by decide +kernel
theorem dX10_append_101 : decode cX10_append 101 = .ok (.iload 4, 2) := by decide +kernel
theorem dX10_append_103 : decode cX10_append 103 = .ok (.iconst 3, 1) := by decide +kernel
theorem dX10_append_104 : decode cX10_append 104 = .ok (.iadd, 1) := by decide +kernel
theorem dX10_append_105 : decode cX10_append 105 = .ok (.aload_n 0, 1) := by decide +kernel
theorem dX10_append_106 : decode cX10_append 106 = .ok (.getfield 112, 3) := by decide +kernel
theorem dX10_append_109 : decode cX10_append 109 = .ok (.iconst 1, 1) := by decide +kernel
theorem dX10_append_110 : decode cX10_append 110 = .ok (.iadd, 1) := by decide +kernel
theorem dX10_append_111 : decode cX10_append 111 = .ok (.invokevirtual 109, 3) := by decide +kernel
theorem dX10_append_114 : decode cX10_append 114 = .ok (.ifCond .ne 6, 3) := by decide +kernel
theorem dX10_append_117 : decode cX10_append 117 = .ok (.bipush (-9), 2) := by decide +kernel
theorem dX10_append_119 : decode cX10_append 119 = .ok (.ireturn, 1) := by decide +kernel
theorem dX10_append_120 : decode cX10_append 120 = .ok (.aload_n 0, 1) := by decide +kernel
theorem dX10_append_121 : decode cX10_append 121 = .ok (.getfield 38, 3) := by decide +kernel
theorem dX10_append_124 : decode cX10_append 124 = .ok (.aload_n 0, 1) := by decide +kernel
theorem dX10_append_125 : decode cX10_append 125 = .ok (.getfield 106, 3) := by decide +kernel
theorem dX10_append_128 : decode cX10_append 128 = .ok (.iload_n 1, 1) := by decide +kernel
theorem dX10_append_129 : decode cX10_append 129 = .ok (.iastore, 1) := by decide +kernel
theorem dX10_append_130 : decode cX10_append 130 = .ok (.aload_n 0, 1) := by decide +kernel
theorem dX10_append_131 : decode cX10_append 131 = .ok (.getfield 41, 3) := by decide +kernel
theorem dX10_append_134 : decode cX10_append 134 = .ok (.aload_n 0, 1) := by decide +kernel
theorem dX10_append_135 : decode cX10_append 135 = .ok (.getfield 106, 3) := by decide +kernel
theorem dX10_append_138 : decode cX10_append 138 = .ok (.iload_n 2, 1) := by decide +kernel
theorem dX10_append_139 : decode cX10_append 139 = .ok (.iastore, 1) := by decide +kernel
theorem dX10_append_140 : decode cX10_append 140 = .ok (.aload_n 0, 1) := by decide +kernel
theorem dX10_append_141 : decode cX10_append 141 = .ok (.getfield 44, 3) := by decide +kernel
theorem dX10_append_144 : decode cX10_append 144 = .ok (.aload_n 0, 1) := by decide +kernel
theorem dX10_append_145 : decode cX10_append 145 = .ok (.getfield 106, 3) := by decide +kernel
theorem dX10_append_148 : decode cX10_append 148 = .ok (.iload_n 3, 1) := by decide +kernel
theorem dX10_append_149 : decode cX10_append 149 = .ok (.iastore, 1) := by decide +kernel
theorem dX10_append_150 : decode cX10_append 150 = .ok (.aload_n 0, 1) := by decide +kernel
theorem dX10_append_151 : decode cX10_append 151 = .ok (.dup, 1) := by decide +kernel
theorem dX10_append_152 : decode cX10_append 152 = .ok (.getfield 106, 3) := by decide +kernel
theorem dX10_append_155 : decode cX10_append 155 = .ok (.iconst 1, 1) := by decide +kernel
theorem dX10_append_156 : decode cX10_append 156 = .ok (.iadd, 1) := by decide +kernel
theorem dX10_append_157 : decode cX10_append 157 = .ok (.putfield 106, 3) := by decide +kernel
theorem dX10_append_160 : decode cX10_append 160 = .ok (.iconst 0, 1) := by decide +kernel
theorem dX10_append_161 : decode cX10_append 161 = .ok (.ireturn, 1) := by decide +kernel
theorem dX10_isRising_0 : decode cX10_isRising 0 = .ok (.iconst 1, 1) := by decide +kernel
theorem dX10_isRising_1 : decode cX10_isRising 1 = .ok (.istore_n 3, 1) := by decide +kernel
theorem dX10_isRising_2 : decode cX10_isRising 2 = .ok (.iconst 0, 1) := by decide +kernel
theorem dX10_isRising_3 : decode cX10_isRising 3 = .ok (.istore 4, 2) := by decide +kernel
theorem dX10_isRising_5 : decode cX10_isRising 5 = .ok (.iload 4, 2) := by decide +kernel
theorem dX10_isRising_7 : decode cX10_isRising 7 = .ok (.aload_n 0, 1) := by decide +kernel
theorem dX10_isRising_8 : decode cX10_isRising 8 = .ok (.getfield 115, 3) := by decide +kernel
theorem dX10_isRising_11 : decode cX10_isRising 11 = .ok (.if_icmp .ge 77, 3) := by decide +kernel
theorem dX10_isRising_14 : decode cX10_isRising 14 = .ok (.aload_n 0, 1) := by decide +kernel
theorem dX10_isRising_15 : decode cX10_isRising 15 = .ok (.getfield 35, 3) := by decide +kernel
theorem dX10_isRising_18 : decode cX10_isRising 18 = .ok (.iload 4, 2) := by decide +kernel
theorem dX10_isRising_20 : decode cX10_isRising 20 = .ok (.iaload, 1) := by decide +kernel
theorem dX10_isRising_21 : decode cX10_isRising 21 = .ok (.istore 5, 2) := by decide +kernel
theorem dX10_isRising_23 : decode cX10_isRising 23 = .ok (.iconst 0, 1) := by decide +kernel
theorem dX10_isRising_24 : decode cX10_isRising 24 = .ok (.istore 6, 2) := by decide +kernel
theorem dX10_isRising_26 : decode cX10_isRising 26 = .ok (.iload 6, 2) := by decide +kernel
theorem dX10_isRising_28 : decode cX10_isRising 28 = .ok (.aload_n 0, 1) := by decide +kernel
theorem dX10_isRising_29 : decode cX10_isRising 29 = .ok (.getfield 20, 3) := by decide +kernel
theorem dX10_isRising_32 : decode cX10_isRising 32 = .ok (.iload 5, 2) := by decide +kernel
theorem dX10_isRising_34 : decode cX10_isRising 34 = .ok (.iaload, 1) := by decide +kernel
theorem dX10_isRising_35 : decode cX10_isRising 35 = .ok (.if_icmp .ge 47, 3) := by decide +kernel
theorem dX10_isRising_38 : decode cX10_isRising 38 = .ok (.aload_n 0, 1) := by decide +kernel
theorem dX10_isRising_39 : decode cX10_isRising 39 = .ok (.getfield 17, 3) := by decide +kernel
theorem dX10_isRising_42 : decode cX10_isRising 42 = .ok (.iload 5, 2) := by decide +kernel
theorem dX10_isRising_44 : decode cX10_isRising 44 = .ok (.iaload, 1) := by decide +kernel
theorem dX10_isRising_45 : decode cX10_isRising 45 = .ok (.iload_n 1, 1) := by decide +kernel
theorem dX10_isRising_46 : decode cX10_isRising 46 = .ok (.if_icmp .ne 36, 3) := by decide +kernel
theorem dX10_isRising_49 : decode cX10_isRising 49 = .ok (.iload_n 3, 1) := by decide +kernel
theorem dX10_isRising_50 : decode cX10_isRising 50 = .ok (.ifCond .eq 24, 3) := by decide +kernel
theorem dX10_isRising_53 : decode cX10_isRising 53 = .ok (.iload_n 2, 1) := by decide +kernel
theorem dX10_isRising_54 : decode cX10_isRising 54 = .ok (.aload_n 0, 1) := by decide +kernel
theorem dX10_isRising_55 : decode cX10_isRising 55 = .ok (.getfield 29, 3) := by decide +kernel
theorem dX10_isRising_58 : decode cX10_isRising 58 = .ok (.bipush 64, 2) := by decide +kernel
theorem dX10_isRising_60 : decode cX10_isRising 60 = .ok (.iload 5, 2) := by decide +kernel
theorem dX10_isRising_62 : decode cX10_isRising 62 = .ok (.imul, 1) := by decide +kernel
theorem dX10_isRising_63 : decode cX10_isRising 63 = .ok (.iload 6, 2) := by decide +kernel
theorem dX10_isRising_65 : decode cX10_isRising 65 = .ok (.iadd, 1) := by decide +kernel
theorem dX10_isRising_66 : decode cX10_isRising 66 = .ok (.iaload, 1) := by decide +kernel
theorem dX10_isRising_67 : decode cX10_isRising 67 = .ok (.if_icmp .le 7, 3) := by decide +kernel
theorem dX10_isRising_70 : decode cX10_isRising 70 = .ok (.iconst 1, 1) := by decide +kernel
theorem dX10_isRising_71 : decode cX10_isRising 71 = .ok (.goto 4, 3) := by decide +kernel
theorem dX10_isRising_74 : decode cX10_isRising 74 = .ok (.iconst 0, 1) := by decide +kernel
theorem dX10_isRising_75 : decode cX10_isRising 75 = .ok (.istore_n 3, 1) := by decide +kernel
theorem dX10_isRising_76 : decode cX10_isRising 76 = .ok (.iinc 6 1, 3) := by decide +kernel
theorem dX10_isRising_79 : decode cX10_isRising 79 = .ok (.goto (-53), 3) := by decide +kernel
theorem dX10_isRising_82 : decode cX10_isRising 82 = .ok (.iinc 4 1, 3) := by decide +kernel
theorem dX10_isRising_85 : decode cX10_isRising 85 = .ok (.goto (-80), 3) := by decide +kernel
theorem dX10_isRising_88 : decode cX10_isRising 88 = .ok (.iconst 0, 1) := by decide +kernel
theorem dX10_isRising_89 : decode cX10_isRising 89 = .ok (.istore 4, 2) := by decide +kernel
theorem dX10_isRising_91 : decode cX10_isRising 91 = .ok (.iload 4, 2) := by decide +kernel
theorem dX10_isRising_93 : decode cX10_isRising 93 = .ok (.aload_n 0, 1) := by decide +kernel
theorem dX10_isRising_94 : decode cX10_isRising 94 = .ok (.getfield 106, 3) := by decide +kernel
theorem dX10_isRising_97 : decode cX10_isRising 97 = .ok (.if_icmp .ge 41, 3) := by decide +kernel
theorem dX10_isRising_100 : decode cX10_isRising 100 = .ok (.iload_n 3, 1) := by decide +kernel
theorem dX10_isRising_101 : decode cX10_isRising 101 = .ok (.ifCond .eq 29, 3) := by decide +kernel
theorem dX10_isRising_104 : decode cX10_isRising 104 = .ok (.aload_n 0, 1) := by decide +kernel
theorem dX10_isRising_105 : decode cX10_isRising 105 = .ok (.getfield 38, 3) := by decide +kernel
theorem dX10_isRising_108 : decode cX10_isRising 108 = .ok (.iload 4, 2) := by decide +kernel
theorem dX10_isRising_110 : decode cX10_isRising 110 = .ok (.iaload, 1) := by decide +kernel
theorem dX10_isRising_111 : decode cX10_isRising 111 = .ok (.iload_n 1, 1) := by decide +kernel
theorem dX10_isRising_112 : decode cX10_isRising 112 = .ok (.if_icmp .ne 14, 3) := by decide +kernel
theorem dX10_isRising_115 : decode cX10_isRising 115 = .ok (.iload_n 2, 1) := by decide +kernel
theorem dX10_isRising_116 : decode cX10_isRising 116 = .ok (.aload_n 0, 1) := by decide +kernel
theorem dX10_isRising_117 : decode cX10_isRising 117 = .ok (.getfield 41, 3) := by decide +kernel
theorem dX10_isRising_120 : decode cX10_isRising 120 = .ok (.iload 4, 2) := by decide +kernel
theorem dX10_isRising_122 : decode cX10_isRising 122 = .ok (.iaload, 1) := by decide +kernel
theorem dX10_isRising_123 : decode cX10_isRising 123 = .ok (.if_icmp .le 7, 3) := by decide +kernel
theorem dX10_isRising_126 : decode cX10_isRising 126 = .ok (.iconst 1, 1) := by decide +kernel
theorem dX10_isRising_127 : decode cX10_isRising 127 = .ok (.goto 4, 3) := by decide +kernel
theorem dX10_isRising_130 : decode cX10_isRising 130 = .ok (.iconst 0, 1) := by decide +kernel
theorem dX10_isRising_131 : decode cX10_isRising 131 = .ok (.istore_n 3, 1) := by decide +kernel
theorem dX10_isRising_132 : decode cX10_isRising 132 = .ok (.iinc 4 1, 3) := by decide +kernel
theorem dX10_isRising_135 : decode cX10_isRising 135 = .ok (.goto (-44), 3) := by decide +kernel
theorem dX10_isRising_138 : decode cX10_isRising 138 = .ok (.iload_n 3, 1) := by decide +kernel
theorem dX10_isRising_139 : decode cX10_isRising 139 = .ok (.ireturn, 1) := by decide +kernel
abbrev rm_X10_between : Room := { frames := 0, cells := 0, slots := 0, locals := 0 }
theorem hs_X10_between : yX10_between.cls = RX10 ∧ yX10_between.cls ≠ "java/lang/invoke/MethodHandle" ∧ yX10_between.cls ≠ "java/lang/invoke/VarHandle" ∧ (parseMethodDescriptor yX10_between.desc).map (fun d => d.parameters.length) = some 3 := by decide +kernel
set_option maxHeartbeats 4000000 in
set_option maxRecDepth 100000 in
theorem c_X10_between (l : Launch) (G : va_G) (cI cZ cJ : ClassId)  (p0 : Int32) (p1 : Int32) (p2 : Int32) {r : Int32} (hfin : m_X10_between p0 p1 p2 = some (r)) : CT l yX10_between cX10_between 3 (some .int) rm_X10_between G (tyC cI cZ cJ) [.int p0, .int p1, .int p2] [] (some (.int r)) [] := by
  refine CT.ofW (lvl := [(0, .int p0), (1, .int p1), (2, .int p2)]) (by decide) (Nat.le_of_ble_eq_true rfl) rfl ?_
  intro p e s m args below meth c A ls0 QQ hQQ hx hb hml hr hlocks htc hN hown hK hA hw0 hl0
  rw [m_X10_between] at hfin
  refine lv_iload_n hx hb dX10_between_0 rfl (lv_at hl0 0 rfl) ?_
  refine lv_iload_n hx hb dX10_between_1 rfl (lv_at hl0 1 rfl) ?_
  replace hfin := ob1_some hfin
  obtain ⟨s_1, hJ_2, hfin⟩ := hfin
  have kj_3 : ∀ (H : Heap) (locs : List Loc) (ls : Array Slot), wS G A s H locs [] → lv_has ls 3 [] → W p l e rm_X10_between s m args below meth c H locs 0 0 QQ (F0 m 19 ls [.int s_1]) := by
    clear hw0 hl0 ls0 hJ_2
    intro H6 locs6 ls6 hw6 hl6
    cases hfin
    rw [hQQ]
    exact ct_iret hx hb hr hlocks hw6.1 hw6.2.1 hw6.2.2 dX10_between_19
  clear hfin
  refine lv_icmp_ge (tgt := 9) hx hb dX10_between_2 (by decide) (fun c_4 => ?_) (fun c_4 => ?_)
  · replace hJ_2 := it_t c_4 hJ_2
    refine lv_iload_n hx hb dX10_between_9 rfl (lv_at hl0 0 rfl) ?_
    refine lv_iload_n hx hb dX10_between_10 rfl (lv_at hl0 2 rfl) ?_
    refine lv_icmp_le (tgt := 18) hx hb dX10_between_11 (by decide) (fun c_5 => ?_) (fun c_5 => ?_)
    · replace hJ_2 := it_t c_5 hJ_2
      refine lv_iload_n hx hb dX10_between_18 rfl (lv_at hl0 0 rfl) ?_
      cases hJ_2
      exact kj_3 _ _ _ hw0 (lv_sub hl0 [] rfl)
    · replace hJ_2 := it_f c_5 hJ_2
      refine lv_iload_n hx hb dX10_between_14 rfl (lv_at hl0 2 rfl) ?_
      refine lv_goto (tgt := 19) hx hb dX10_between_15 (by decide) ?_
      cases hJ_2
      exact kj_3 _ _ _ hw0 (lv_sub hl0 [] rfl)
  · replace hJ_2 := it_f c_4 hJ_2
    refine lv_iload_n hx hb dX10_between_5 rfl (lv_at hl0 1 rfl) ?_
    refine lv_goto (tgt := 19) hx hb dX10_between_6 (by decide) ?_
    cases hJ_2
    exact kj_3 _ _ _ hw0 (lv_sub hl0 [] rfl)
abbrev rm_X10_thrown : Room := { frames := 0, cells := 0, slots := 0, locals := 0 }
theorem hd_X10_thrown : yX10_thrown.cls = RX10 ∧ yX10_thrown.cls ≠ "java/lang/invoke/MethodHandle" ∧ yX10_thrown.cls ≠ "java/lang/invoke/VarHandle" ∧ (parseMethodDescriptor yX10_thrown.desc).map (fun d => d.parameters.length) = some 0 := by decide +kernel
set_option maxHeartbeats 4000000 in
set_option maxRecDepth 100000 in
theorem c_X10_thrown (l : Launch) (G : va_G) (cI cZ cJ : ClassId) (aM aMdisk aMits aMmany aMplace aMlength aMtimes aMvalues aMorder aMheadOf aMheadTime aMheadValue aMnext aMisNew aMcursorTime aMcursorValue aMmade : Nat) (M_thrown : Int32) (M_series : Int32) (M_most : Int32) (M_ratio : Int32) (M_writes : Int32) (M_fuse : Int32) (M_down : Int32) (M_recovers : Int32) (M_looks : Int32) (M_unpacked : Int32) (M_chunks : Int32) (M_epoch : Int32) (M_side : Int32) (M_logged : Int32) (M_nexts : Int32) (M_hasCursor : Int32) (M_cursorMany : Int32) (M_cursorAt : Int32) (M_bits : Int32) (M_from : Int32) (M_askMany : Int32) (M_askLeast : Int32) (M_askGreatest : Int32) (M_askSum : Int64)  {r : Int32} (hfin : m_X10_thrown M_thrown = some (r)) : CT l yX10_thrown cX10_thrown 1 (some .int) rm_X10_thrown G (tyC cI cZ cJ) [.ref aM] [oX10 aM M_thrown M_series M_most M_ratio aMdisk M_writes M_fuse M_down M_recovers M_looks M_unpacked aMits aMmany aMplace aMlength aMtimes aMvalues aMorder M_chunks M_epoch M_side aMheadOf aMheadTime aMheadValue M_logged aMnext aMisNew M_nexts aMcursorTime aMcursorValue M_hasCursor M_cursorMany M_cursorAt aMmade M_bits M_from M_askMany M_askLeast M_askGreatest M_askSum] (some (.int r)) [oX10 aM M_thrown M_series M_most M_ratio aMdisk M_writes M_fuse M_down M_recovers M_looks M_unpacked aMits aMmany aMplace aMlength aMtimes aMvalues aMorder M_chunks M_epoch M_side aMheadOf aMheadTime aMheadValue M_logged aMnext aMisNew M_nexts aMcursorTime aMcursorValue M_hasCursor M_cursorMany M_cursorAt aMmade M_bits M_from M_askMany M_askLeast M_askGreatest M_askSum] := by
  refine CT.ofW (lvl := [(0, .ref aM)]) (by decide) (Nat.le_of_ble_eq_true rfl) rfl ?_
  intro p e s m args below meth c A ls0 QQ hQQ hx hb hml hr hlocks htc hN hown hK hA hw0 hl0
  rw [m_X10_thrown] at hfin
  refine lv_aload_n hx hb dX10_thrown_0 rfl (lv_at hl0 0 rfl) ?_
  refine va_get (D := G) (ci := 10) (v := .int M_thrown) (C := RX10) (T := TX10) (N := 40) hx hb htc iX10 hown hK hw0.1 0 rfl rfl 0 (by decide) (htc _ mw_947) (fun _ h9 => h9) rfl dX10_thrown_1 ?_
  cases hfin
  rw [hQQ]
  exact ct_iret hx hb hr hlocks hw0.1 hw0.2.1 hw0.2.2 dX10_thrown_4
abbrev rm_X10_isSeries : Room := { frames := 0, cells := 0, slots := 0, locals := 0 }
theorem hd_X10_isSeries : yX10_isSeries.cls = RX10 ∧ yX10_isSeries.cls ≠ "java/lang/invoke/MethodHandle" ∧ yX10_isSeries.cls ≠ "java/lang/invoke/VarHandle" ∧ (parseMethodDescriptor yX10_isSeries.desc).map (fun d => d.parameters.length) = some 1 := by decide +kernel
set_option maxHeartbeats 4000000 in
set_option maxRecDepth 100000 in
theorem c_X10_isSeries (l : Launch) (G : va_G) (cI cZ cJ : ClassId) (aM aMdisk aMits aMmany aMplace aMlength aMtimes aMvalues aMorder aMheadOf aMheadTime aMheadValue aMnext aMisNew aMcursorTime aMcursorValue aMmade : Nat) (M_thrown : Int32) (M_series : Int32) (M_most : Int32) (M_ratio : Int32) (M_writes : Int32) (M_fuse : Int32) (M_down : Int32) (M_recovers : Int32) (M_looks : Int32) (M_unpacked : Int32) (M_chunks : Int32) (M_epoch : Int32) (M_side : Int32) (M_logged : Int32) (M_nexts : Int32) (M_hasCursor : Int32) (M_cursorMany : Int32) (M_cursorAt : Int32) (M_bits : Int32) (M_from : Int32) (M_askMany : Int32) (M_askLeast : Int32) (M_askGreatest : Int32) (M_askSum : Int64) (p0 : Int32) {r : Int32} (hfin : m_X10_isSeries M_series p0 = some (r)) : CT l yX10_isSeries cX10_isSeries 2 (some .boolean) rm_X10_isSeries G (tyC cI cZ cJ) [.ref aM, .int p0] [oX10 aM M_thrown M_series M_most M_ratio aMdisk M_writes M_fuse M_down M_recovers M_looks M_unpacked aMits aMmany aMplace aMlength aMtimes aMvalues aMorder M_chunks M_epoch M_side aMheadOf aMheadTime aMheadValue M_logged aMnext aMisNew M_nexts aMcursorTime aMcursorValue M_hasCursor M_cursorMany M_cursorAt aMmade M_bits M_from M_askMany M_askLeast M_askGreatest M_askSum] (some (.int r)) [oX10 aM M_thrown M_series M_most M_ratio aMdisk M_writes M_fuse M_down M_recovers M_looks M_unpacked aMits aMmany aMplace aMlength aMtimes aMvalues aMorder M_chunks M_epoch M_side aMheadOf aMheadTime aMheadValue M_logged aMnext aMisNew M_nexts aMcursorTime aMcursorValue M_hasCursor M_cursorMany M_cursorAt aMmade M_bits M_from M_askMany M_askLeast M_askGreatest M_askSum] := by
  refine CT.ofW (lvl := [(0, .ref aM), (1, .int p0)]) (by decide) (Nat.le_of_ble_eq_true rfl) rfl ?_
  intro p e s m args below meth c A ls0 QQ hQQ hx hb hml hr hlocks htc hN hown hK hA hw0 hl0
  rw [m_X10_isSeries] at hfin
  refine lv_iload_n hx hb dX10_isSeries_0 rfl (lv_at hl0 1 rfl) ?_
  replace hfin := ob1_some hfin
  obtain ⟨s_1, hJ_2, hfin⟩ := hfin
  have kj_3 : ∀ (H : Heap) (locs : List Loc) (ls : Array Slot), wS G A s H locs [oX10 aM M_thrown M_series M_most M_ratio aMdisk M_writes M_fuse M_down M_recovers M_looks M_unpacked aMits aMmany aMplace aMlength aMtimes aMvalues aMorder M_chunks M_epoch M_side aMheadOf aMheadTime aMheadValue M_logged aMnext aMisNew M_nexts aMcursorTime aMcursorValue M_hasCursor M_cursorMany M_cursorAt aMmade M_bits M_from M_askMany M_askLeast M_askGreatest M_askSum] → lv_has ls 2 [] → W p l e rm_X10_isSeries s m args below meth c H locs 0 0 QQ (F0 m 17 ls [.int s_1]) := by
    clear hw0 hl0 ls0 hJ_2
    intro H6 locs6 ls6 hw6 hl6
    replace hfin := ckz_some hfin
    obtain ⟨hz_7, hfin⟩ := hfin
    cases hfin
    rw [hQQ]
    exact ct_zret hx hb hr hlocks hz_7 hw6.1 hw6.2.1 hw6.2.2 dX10_isSeries_17
  clear hfin
  refine lv_if_lt (tgt := 16) hx hb dX10_isSeries_1 (by decide) (fun c_4 => ?_) (fun c_4 => ?_)
  · replace hJ_2 := it_t c_4 hJ_2
    refine lv_iconst (v := (0 : Int32)) hx hb dX10_isSeries_16 (by decide) ?_
    cases hJ_2
    exact kj_3 _ _ _ hw0 (lv_sub hl0 [] rfl)
  · replace hJ_2 := it_f c_4 hJ_2
    refine lv_iload_n hx hb dX10_isSeries_4 rfl (lv_at hl0 1 rfl) ?_
    refine lv_aload_n hx hb dX10_isSeries_5 rfl (lv_at hl0 0 rfl) ?_
    refine va_get (D := G) (ci := 10) (v := .int M_series) (C := RX10) (T := TX10) (N := 40) hx hb htc iX10 hown hK hw0.1 0 rfl rfl 1 (by decide) (htc _ mw_948) (fun _ h9 => h9) rfl dX10_isSeries_6 ?_
    refine lv_icmp_ge (tgt := 16) hx hb dX10_isSeries_9 (by decide) (fun c_5 => ?_) (fun c_5 => ?_)
    · replace hJ_2 := it_t c_5 hJ_2
      refine lv_iconst (v := (0 : Int32)) hx hb dX10_isSeries_16 (by decide) ?_
      cases hJ_2
      exact kj_3 _ _ _ hw0 (lv_sub hl0 [] rfl)
    · replace hJ_2 := it_f c_5 hJ_2
      refine lv_iconst (v := (1 : Int32)) hx hb dX10_isSeries_12 (by decide) ?_
      refine lv_goto (tgt := 17) hx hb dX10_isSeries_13 (by decide) ?_
      cases hJ_2
      exact kj_3 _ _ _ hw0 (lv_sub hl0 [] rfl)
abbrev rm_X10_write : Room := { frames := 0, cells := 0, slots := 0, locals := 0 }
theorem hd_X10_write : yX10_write.cls = RX10 ∧ yX10_write.cls ≠ "java/lang/invoke/MethodHandle" ∧ yX10_write.cls ≠ "java/lang/invoke/VarHandle" ∧ (parseMethodDescriptor yX10_write.desc).map (fun d => d.parameters.length) = some 2 := by decide +kernel
set_option maxHeartbeats 4000000 in
set_option maxRecDepth 100000 in
theorem c_X10_write (l : Launch) (G : va_G) (cI cZ cJ : ClassId) (aM aMdisk aMits aMmany aMplace aMlength aMtimes aMvalues aMorder aMheadOf aMheadTime aMheadValue aMnext aMisNew aMcursorTime aMcursorValue aMmade : Nat) (M_thrown : Int32) (M_series : Int32) (M_most : Int32) (M_ratio : Int32) (M_writes : Int32) (M_fuse : Int32) (M_down : Int32) (M_recovers : Int32) (M_looks : Int32) (M_unpacked : Int32) (M_chunks : Int32) (M_epoch : Int32) (M_side : Int32) (M_logged : Int32) (M_nexts : Int32) (M_hasCursor : Int32) (M_cursorMany : Int32) (M_cursorAt : Int32) (M_bits : Int32) (M_from : Int32) (M_askMany : Int32) (M_askLeast : Int32) (M_askGreatest : Int32) (M_askSum : Int64) (M_disk : Nat → Int32) (p0 : Int32) (p1 : Int32) {r : Int32} {o_M_writes : Int32} {o_M_fuse : Int32} {o_M_down : Int32} {o_M_disk : Nat → Int32} (hfin : m_X10_write M_writes M_fuse M_down M_disk p0 p1 = some (r, o_M_writes, o_M_fuse, o_M_down, o_M_disk)) : CT l yX10_write cX10_write 3 (some .boolean) rm_X10_write G (tyC cI cZ cJ) [.ref aM, .int p0, .int p1] [oX10 aM M_thrown M_series M_most M_ratio aMdisk M_writes M_fuse M_down M_recovers M_looks M_unpacked aMits aMmany aMplace aMlength aMtimes aMvalues aMorder M_chunks M_epoch M_side aMheadOf aMheadTime aMheadValue M_logged aMnext aMisNew M_nexts aMcursorTime aMcursorValue M_hasCursor M_cursorMany M_cursorAt aMmade M_bits M_from M_askMany M_askLeast M_askGreatest M_askSum, rI aMdisk cI 4096 M_disk] (some (.int r)) [oX10 aM M_thrown M_series M_most M_ratio aMdisk o_M_writes o_M_fuse o_M_down M_recovers M_looks M_unpacked aMits aMmany aMplace aMlength aMtimes aMvalues aMorder M_chunks M_epoch M_side aMheadOf aMheadTime aMheadValue M_logged aMnext aMisNew M_nexts aMcursorTime aMcursorValue M_hasCursor M_cursorMany M_cursorAt aMmade M_bits M_from M_askMany M_askLeast M_askGreatest M_askSum, rI aMdisk cI 4096 o_M_disk] := by
  refine CT.ofW (lvl := [(0, .ref aM), (1, .int p0), (2, .int p1)]) (by decide) (Nat.le_of_ble_eq_true rfl) rfl ?_
  intro p e s m args below meth c A ls0 QQ hQQ hx hb hml hr hlocks htc hN hown hK hA hw0 hl0
  rw [m_X10_write] at hfin
  refine lv_aload_n hx hb dX10_write_0 rfl (lv_at hl0 0 rfl) ?_
  refine va_get (D := G) (ci := 10) (v := .int M_fuse) (C := RX10) (T := TX10) (N := 40) hx hb htc iX10 hown hK hw0.1 0 rfl rfl 6 (by decide) (htc _ mw_953) (fun _ h9 => h9) rfl dX10_write_1 ?_
  refine lv_if_ne (tgt := 14) hx hb dX10_write_4 (by decide) (fun c_1 => ?_) (fun c_1 => ?_)
  · replace hfin := it_f c_1 hfin
    refine lv_aload_n hx hb dX10_write_14 rfl (lv_at hl0 0 rfl) ?_
    refine va_get (D := G) (ci := 10) (v := .int M_fuse) (C := RX10) (T := TX10) (N := 40) hx hb htc iX10 hown hK hw0.1 0 rfl rfl 6 (by decide) (htc _ mw_953) (fun _ h9 => h9) rfl dX10_write_15 ?_
    replace hfin := ob1_some hfin
    obtain ⟨M_fuse_2, hJ_3, hfin⟩ := hfin
    have kj_4 : ∀ (H : Heap) (locs : List Loc) (ls : Array Slot), wS G A s H locs [oX10 aM M_thrown M_series M_most M_ratio aMdisk M_writes M_fuse_2 M_down M_recovers M_looks M_unpacked aMits aMmany aMplace aMlength aMtimes aMvalues aMorder M_chunks M_epoch M_side aMheadOf aMheadTime aMheadValue M_logged aMnext aMisNew M_nexts aMcursorTime aMcursorValue M_hasCursor M_cursorMany M_cursorAt aMmade M_bits M_from M_askMany M_askLeast M_askGreatest M_askSum, rI aMdisk cI 4096 M_disk] → lv_has ls 3 [(0, .ref aM), (1, .int p0), (2, .int p1)] → W p l e rm_X10_write s m args below meth c H locs 0 0 QQ (F0 m 31 ls []) := by
      clear hw0 hl0 ls0 hJ_3
      intro H7 locs7 ls7 hw7 hl7
      refine lv_aload_n hx hb dX10_write_31 rfl (lv_at hl7 0 rfl) ?_
      refine lv_dup hx hb dX10_write_32 rfl ?_
      refine va_get (D := G) (ci := 10) (v := .int M_writes) (C := RX10) (T := TX10) (N := 40) hx hb htc iX10 hown hK hw7.1 0 rfl rfl 5 (by decide) (htc _ mw_952) (fun _ h9 => h9) rfl dX10_write_33 ?_
      refine lv_iconst (v := (1 : Int32)) hx hb dX10_write_36 (by decide) ?_
      refine lv_iadd hx hb dX10_write_37 ?_
      refine va_put (D := G) (ci := 10) (v := .int (M_writes + (1 : Int32))) (ty := .int) (C := RX10) (T := TX10) (N := 40) hx hb htc iX10 tyX10 tyX10_ok nmX10 hown hK hw7.1 hw7.2.1 hw7.2.2 0 rfl rfl 5 (by decide) (htc _ mw_952) (fun _ h9 => h9) rfl (tyX10_ok 5 (by decide)) rfl rfl (Nat.le_of_ble_eq_true rfl) dX10_write_38 (fun H8 locs8 hP hD hS => ?_)
      have hw8 : wS G A s H8 locs8 [oX10 aM M_thrown M_series M_most M_ratio aMdisk (M_writes + (1 : Int32)) M_fuse_2 M_down M_recovers M_looks M_unpacked aMits aMmany aMplace aMlength aMtimes aMvalues aMorder M_chunks M_epoch M_side aMheadOf aMheadTime aMheadValue M_logged aMnext aMisNew M_nexts aMcursorTime aMcursorValue M_hasCursor M_cursorMany M_cursorAt aMmade M_bits M_from M_askMany M_askLeast M_askGreatest M_askSum, rI aMdisk cI 4096 M_disk] := ⟨hP, hD, hS⟩
      clear hP hD hS hw7 H7 locs7
      refine lv_aload_n hx hb dX10_write_41 rfl (lv_at hl7 0 rfl) ?_
      refine va_get (D := G) (ci := 10) (v := .ref aMdisk) (C := RX10) (T := TX10) (N := 40) hx hb htc iX10 hown hK hw8.1 0 rfl rfl 4 (by decide) (htc _ mw_951) (fun _ h9 => h9) rfl dX10_write_42 ?_
      refine lv_iload_n hx hb dX10_write_45 rfl (lv_at hl7 1 rfl) ?_
      refine lv_iload_n hx hb dX10_write_46 rfl (lv_at hl7 2 rfl) ?_
      replace hfin := ckb_some hfin
      obtain ⟨hin_9, hfin⟩ := hfin
      refine va_iast hx hb hK hw8.1 hw8.2.1 hw8.2.2 1 0 rfl rfl hin_9 dX10_write_47 (fun H10 locs10 hP hD hS => ?_)
      have hw10 : wS G A s H10 locs10 [oX10 aM M_thrown M_series M_most M_ratio aMdisk (M_writes + (1 : Int32)) M_fuse_2 M_down M_recovers M_looks M_unpacked aMits aMmany aMplace aMlength aMtimes aMvalues aMorder M_chunks M_epoch M_side aMheadOf aMheadTime aMheadValue M_logged aMnext aMisNew M_nexts aMcursorTime aMcursorValue M_hasCursor M_cursorMany M_cursorAt aMmade M_bits M_from M_askMany M_askLeast M_askGreatest M_askSum, rI aMdisk cI 4096 (upd M_disk (Int32.toNatClampNeg p0) p1)] := ⟨hP, hD, hS⟩
      clear hP hD hS hw8 H8 locs8
      refine lv_iconst (v := (1 : Int32)) hx hb dX10_write_48 (by decide) ?_
      cases hfin
      rw [hQQ]
      exact ct_zret hx hb hr hlocks (Or.inr rfl) hw10.1 hw10.2.1 hw10.2.2 dX10_write_49
    clear hfin
    refine lv_if_le (tgt := 31) hx hb dX10_write_18 (by decide) (fun c_5 => ?_) (fun c_5 => ?_)
    · replace hJ_3 := it_t c_5 hJ_3
      cases hJ_3
      exact kj_4 _ _ _ hw0 (lv_sub hl0 [0, 1, 2] rfl)
    · replace hJ_3 := it_f c_5 hJ_3
      refine lv_aload_n hx hb dX10_write_21 rfl (lv_at hl0 0 rfl) ?_
      refine lv_dup hx hb dX10_write_22 rfl ?_
      refine va_get (D := G) (ci := 10) (v := .int M_fuse) (C := RX10) (T := TX10) (N := 40) hx hb htc iX10 hown hK hw0.1 0 rfl rfl 6 (by decide) (htc _ mw_953) (fun _ h9 => h9) rfl dX10_write_23 ?_
      refine lv_iconst (v := (1 : Int32)) hx hb dX10_write_26 (by decide) ?_
      refine lv_isub hx hb dX10_write_27 ?_
      refine va_put (D := G) (ci := 10) (v := .int (M_fuse - (1 : Int32))) (ty := .int) (C := RX10) (T := TX10) (N := 40) hx hb htc iX10 tyX10 tyX10_ok nmX10 hown hK hw0.1 hw0.2.1 hw0.2.2 0 rfl rfl 6 (by decide) (htc _ mw_953) (fun _ h9 => h9) rfl (tyX10_ok 6 (by decide)) rfl rfl (Nat.le_of_ble_eq_true rfl) dX10_write_28 (fun H6 locs6 hP hD hS => ?_)
      have hw6 : wS G A s H6 locs6 [oX10 aM M_thrown M_series M_most M_ratio aMdisk M_writes (M_fuse - (1 : Int32)) M_down M_recovers M_looks M_unpacked aMits aMmany aMplace aMlength aMtimes aMvalues aMorder M_chunks M_epoch M_side aMheadOf aMheadTime aMheadValue M_logged aMnext aMisNew M_nexts aMcursorTime aMcursorValue M_hasCursor M_cursorMany M_cursorAt aMmade M_bits M_from M_askMany M_askLeast M_askGreatest M_askSum, rI aMdisk cI 4096 M_disk] := ⟨hP, hD, hS⟩
      clear hP hD hS hw0
      cases hJ_3
      exact kj_4 _ _ _ hw6 (lv_sub hl0 [0, 1, 2] rfl)
  · replace hfin := it_t c_1 hfin
    refine lv_aload_n hx hb dX10_write_7 rfl (lv_at hl0 0 rfl) ?_
    refine lv_iconst (v := (1 : Int32)) hx hb dX10_write_8 (by decide) ?_
    refine va_put (D := G) (ci := 10) (v := .int (1 : Int32)) (ty := .boolean) (C := RX10) (T := TX10) (N := 40) hx hb htc iX10 tyX10 tyX10_ok nmX10 hown hK hw0.1 hw0.2.1 hw0.2.2 0 rfl rfl 7 (by decide) (htc _ mw_954) (fun _ h9 => h9) rfl (tyX10_ok 7 (by decide)) rfl rfl (Nat.le_of_ble_eq_true rfl) dX10_write_9 (fun H11 locs11 hP hD hS => ?_)
    have hw11 : wS G A s H11 locs11 [oX10 aM M_thrown M_series M_most M_ratio aMdisk M_writes M_fuse (1 : Int32) M_recovers M_looks M_unpacked aMits aMmany aMplace aMlength aMtimes aMvalues aMorder M_chunks M_epoch M_side aMheadOf aMheadTime aMheadValue M_logged aMnext aMisNew M_nexts aMcursorTime aMcursorValue M_hasCursor M_cursorMany M_cursorAt aMmade M_bits M_from M_askMany M_askLeast M_askGreatest M_askSum, rI aMdisk cI 4096 M_disk] := ⟨hP, hD, hS⟩
    clear hP hD hS hw0
    refine lv_iconst (v := (0 : Int32)) hx hb dX10_write_12 (by decide) ?_
    cases hfin
    rw [hQQ]
    exact ct_zret hx hb hr hlocks (Or.inl rfl) hw11.1 hw11.2.1 hw11.2.2 dX10_write_13
abbrev rm_X10_dropCursor : Room := { frames := 0, cells := 0, slots := 0, locals := 0 }
theorem hd_X10_dropCursor : yX10_dropCursor.cls = RX10 ∧ yX10_dropCursor.cls ≠ "java/lang/invoke/MethodHandle" ∧ yX10_dropCursor.cls ≠ "java/lang/invoke/VarHandle" ∧ (parseMethodDescriptor yX10_dropCursor.desc).map (fun d => d.parameters.length) = some 0 := by decide +kernel
set_option maxHeartbeats 4000000 in
set_option maxRecDepth 100000 in
theorem c_X10_dropCursor (l : Launch) (G : va_G) (cI cZ cJ : ClassId) (aM aMdisk aMits aMmany aMplace aMlength aMtimes aMvalues aMorder aMheadOf aMheadTime aMheadValue aMnext aMisNew aMcursorTime aMcursorValue aMmade : Nat) (M_thrown : Int32) (M_series : Int32) (M_most : Int32) (M_ratio : Int32) (M_writes : Int32) (M_fuse : Int32) (M_down : Int32) (M_recovers : Int32) (M_looks : Int32) (M_unpacked : Int32) (M_chunks : Int32) (M_epoch : Int32) (M_side : Int32) (M_logged : Int32) (M_nexts : Int32) (M_hasCursor : Int32) (M_cursorMany : Int32) (M_cursorAt : Int32) (M_bits : Int32) (M_from : Int32) (M_askMany : Int32) (M_askLeast : Int32) (M_askGreatest : Int32) (M_askSum : Int64)  {o_M_hasCursor : Int32} {o_M_cursorMany : Int32} {o_M_cursorAt : Int32} (hfin : m_X10_dropCursor M_hasCursor M_cursorMany M_cursorAt = some (o_M_hasCursor, o_M_cursorMany, o_M_cursorAt)) : CT l yX10_dropCursor cX10_dropCursor 1 none rm_X10_dropCursor G (tyC cI cZ cJ) [.ref aM] [oX10 aM M_thrown M_series M_most M_ratio aMdisk M_writes M_fuse M_down M_recovers M_looks M_unpacked aMits aMmany aMplace aMlength aMtimes aMvalues aMorder M_chunks M_epoch M_side aMheadOf aMheadTime aMheadValue M_logged aMnext aMisNew M_nexts aMcursorTime aMcursorValue M_hasCursor M_cursorMany M_cursorAt aMmade M_bits M_from M_askMany M_askLeast M_askGreatest M_askSum] none [oX10 aM M_thrown M_series M_most M_ratio aMdisk M_writes M_fuse M_down M_recovers M_looks M_unpacked aMits aMmany aMplace aMlength aMtimes aMvalues aMorder M_chunks M_epoch M_side aMheadOf aMheadTime aMheadValue M_logged aMnext aMisNew M_nexts aMcursorTime aMcursorValue o_M_hasCursor o_M_cursorMany o_M_cursorAt aMmade M_bits M_from M_askMany M_askLeast M_askGreatest M_askSum] := by
  refine CT.ofW (lvl := [(0, .ref aM)]) (by decide) (Nat.le_of_ble_eq_true rfl) rfl ?_
  intro p e s m args below meth c A ls0 QQ hQQ hx hb hml hr hlocks htc hN hown hK hA hw0 hl0
  rw [m_X10_dropCursor] at hfin
  refine lv_aload_n hx hb dX10_dropCursor_0 rfl (lv_at hl0 0 rfl) ?_
  refine lv_iconst (v := (0 : Int32)) hx hb dX10_dropCursor_1 (by decide) ?_
  refine va_put (D := G) (ci := 10) (v := .int (0 : Int32)) (ty := .boolean) (C := RX10) (T := TX10) (N := 40) hx hb htc iX10 tyX10 tyX10_ok nmX10 hown hK hw0.1 hw0.2.1 hw0.2.2 0 rfl rfl 30 (by decide) (htc _ mw_977) (fun _ h9 => h9) rfl (tyX10_ok 30 (by decide)) rfl rfl (Nat.le_of_ble_eq_true rfl) dX10_dropCursor_2 (fun H1 locs1 hP hD hS => ?_)
  have hw1 : wS G A s H1 locs1 [oX10 aM M_thrown M_series M_most M_ratio aMdisk M_writes M_fuse M_down M_recovers M_looks M_unpacked aMits aMmany aMplace aMlength aMtimes aMvalues aMorder M_chunks M_epoch M_side aMheadOf aMheadTime aMheadValue M_logged aMnext aMisNew M_nexts aMcursorTime aMcursorValue (0 : Int32) M_cursorMany M_cursorAt aMmade M_bits M_from M_askMany M_askLeast M_askGreatest M_askSum] := ⟨hP, hD, hS⟩
  clear hP hD hS hw0
  refine lv_aload_n hx hb dX10_dropCursor_5 rfl (lv_at hl0 0 rfl) ?_
  refine lv_iconst (v := (0 : Int32)) hx hb dX10_dropCursor_6 (by decide) ?_
  refine va_put (D := G) (ci := 10) (v := .int (0 : Int32)) (ty := .int) (C := RX10) (T := TX10) (N := 40) hx hb htc iX10 tyX10 tyX10_ok nmX10 hown hK hw1.1 hw1.2.1 hw1.2.2 0 rfl rfl 31 (by decide) (htc _ mw_978) (fun _ h9 => h9) rfl (tyX10_ok 31 (by decide)) rfl rfl (Nat.le_of_ble_eq_true rfl) dX10_dropCursor_7 (fun H2 locs2 hP hD hS => ?_)
  have hw2 : wS G A s H2 locs2 [oX10 aM M_thrown M_series M_most M_ratio aMdisk M_writes M_fuse M_down M_recovers M_looks M_unpacked aMits aMmany aMplace aMlength aMtimes aMvalues aMorder M_chunks M_epoch M_side aMheadOf aMheadTime aMheadValue M_logged aMnext aMisNew M_nexts aMcursorTime aMcursorValue (0 : Int32) (0 : Int32) M_cursorAt aMmade M_bits M_from M_askMany M_askLeast M_askGreatest M_askSum] := ⟨hP, hD, hS⟩
  clear hP hD hS hw1 H1 locs1
  refine lv_aload_n hx hb dX10_dropCursor_10 rfl (lv_at hl0 0 rfl) ?_
  refine lv_iconst (v := (-1 : Int32)) hx hb dX10_dropCursor_11 (by decide) ?_
  refine va_put (D := G) (ci := 10) (v := .int (-1 : Int32)) (ty := .int) (C := RX10) (T := TX10) (N := 40) hx hb htc iX10 tyX10 tyX10_ok nmX10 hown hK hw2.1 hw2.2.1 hw2.2.2 0 rfl rfl 32 (by decide) (htc _ mw_979) (fun _ h9 => h9) rfl (tyX10_ok 32 (by decide)) rfl rfl (Nat.le_of_ble_eq_true rfl) dX10_dropCursor_12 (fun H3 locs3 hP hD hS => ?_)
  have hw3 : wS G A s H3 locs3 [oX10 aM M_thrown M_series M_most M_ratio aMdisk M_writes M_fuse M_down M_recovers M_looks M_unpacked aMits aMmany aMplace aMlength aMtimes aMvalues aMorder M_chunks M_epoch M_side aMheadOf aMheadTime aMheadValue M_logged aMnext aMisNew M_nexts aMcursorTime aMcursorValue (0 : Int32) (0 : Int32) (-1 : Int32) aMmade M_bits M_from M_askMany M_askLeast M_askGreatest M_askSum] := ⟨hP, hD, hS⟩
  clear hP hD hS hw2 H2 locs2
  cases hfin
  rw [hQQ]
  exact ct_vret hx hb hr hlocks hw3.1 hw3.2.1 hw3.2.2 dX10_dropCursor_15
abbrev rm_X10_isRising : Room := { frames := 0, cells := 0, slots := 0, locals := 0 }
theorem hd_X10_isRising : yX10_isRising.cls = RX10 ∧ yX10_isRising.cls ≠ "java/lang/invoke/MethodHandle" ∧ yX10_isRising.cls ≠ "java/lang/invoke/VarHandle" ∧ (parseMethodDescriptor yX10_isRising.desc).map (fun d => d.parameters.length) = some 2 := by decide +kernel
set_option maxHeartbeats 4000000 in
set_option maxRecDepth 100000 in
theorem c_X10_isRising (l : Launch) (G : va_G) (cI cZ cJ : ClassId) (aM aMdisk aMits aMmany aMplace aMlength aMtimes aMvalues aMorder aMheadOf aMheadTime aMheadValue aMnext aMisNew aMcursorTime aMcursorValue aMmade : Nat) (M_thrown : Int32) (M_series : Int32) (M_most : Int32) (M_ratio : Int32) (M_writes : Int32) (M_fuse : Int32) (M_down : Int32) (M_recovers : Int32) (M_looks : Int32) (M_unpacked : Int32) (M_chunks : Int32) (M_epoch : Int32) (M_side : Int32) (M_logged : Int32) (M_nexts : Int32) (M_hasCursor : Int32) (M_cursorMany : Int32) (M_cursorAt : Int32) (M_bits : Int32) (M_from : Int32) (M_askMany : Int32) (M_askLeast : Int32) (M_askGreatest : Int32) (M_askSum : Int64) (M_its : Nat → Int32) (M_many : Nat → Int32) (M_times : Nat → Int32) (M_order : Nat → Int32) (M_headOf : Nat → Int32) (M_headTime : Nat → Int32) (p0 : Int32) (p1 : Int32) {r : Int32} (hfin : m_X10_isRising M_chunks M_logged M_its M_many M_times M_order M_headOf M_headTime p0 p1 = some (r)) : CT l yX10_isRising cX10_isRising 7 (some .boolean) rm_X10_isRising G (tyC cI cZ cJ) [.ref aM, .int p0, .int p1] [oX10 aM M_thrown M_series M_most M_ratio aMdisk M_writes M_fuse M_down M_recovers M_looks M_unpacked aMits aMmany aMplace aMlength aMtimes aMvalues aMorder M_chunks M_epoch M_side aMheadOf aMheadTime aMheadValue M_logged aMnext aMisNew M_nexts aMcursorTime aMcursorValue M_hasCursor M_cursorMany M_cursorAt aMmade M_bits M_from M_askMany M_askLeast M_askGreatest M_askSum, rI aMits cI 240 M_its, rI aMmany cI 240 M_many, rI aMtimes cI 15360 M_times, rI aMorder cI 96 M_order, rI aMheadOf cI 128 M_headOf, rI aMheadTime cI 128 M_headTime] (some (.int r)) [oX10 aM M_thrown M_series M_most M_ratio aMdisk M_writes M_fuse M_down M_recovers M_looks M_unpacked aMits aMmany aMplace aMlength aMtimes aMvalues aMorder M_chunks M_epoch M_side aMheadOf aMheadTime aMheadValue M_logged aMnext aMisNew M_nexts aMcursorTime aMcursorValue M_hasCursor M_cursorMany M_cursorAt aMmade M_bits M_from M_askMany M_askLeast M_askGreatest M_askSum, rI aMits cI 240 M_its, rI aMmany cI 240 M_many, rI aMtimes cI 15360 M_times, rI aMorder cI 96 M_order, rI aMheadOf cI 128 M_headOf, rI aMheadTime cI 128 M_headTime] := by
  refine CT.ofW (lvl := [(0, .ref aM), (1, .int p0), (2, .int p1)]) (by decide) (Nat.le_of_ble_eq_true rfl) rfl ?_
  intro p e s m args below meth c A ls0 QQ hQQ hx hb hml hr hlocks htc hN hown hK hA hw0 hl0
  rw [m_X10_isRising] at hfin
  refine lv_iconst (v := (1 : Int32)) hx hb dX10_isRising_0 (by decide) ?_
  refine lv_istore_n (lv' := [(3, .int (1 : Int32)), (0, .ref aM), (1, .int p0), (2, .int p1)]) hx hb dX10_isRising_1 rfl hl0 (by decide) rfl (fun ls1 hl1 => ?_)
  clear hl0 ls0
  refine lv_iconst (v := (0 : Int32)) hx hb dX10_isRising_2 (by decide) ?_
  refine lv_istore (lv' := [(4, .int (0 : Int32)), (3, .int (1 : Int32)), (0, .ref aM), (1, .int p0), (2, .int p1)]) hx hb dX10_isRising_3 hl1 (by decide) rfl (fun ls2 hl2 => ?_)
  clear hl1 ls1
  replace hfin := ob1_some hfin
  obtain ⟨v3_9, hL_5, hfin⟩ := hfin
  have kx_6 : ∀ (H : Heap) (locs : List Loc) (ls : Array Slot), wS G A s H locs [oX10 aM M_thrown M_series M_most M_ratio aMdisk M_writes M_fuse M_down M_recovers M_looks M_unpacked aMits aMmany aMplace aMlength aMtimes aMvalues aMorder M_chunks M_epoch M_side aMheadOf aMheadTime aMheadValue M_logged aMnext aMisNew M_nexts aMcursorTime aMcursorValue M_hasCursor M_cursorMany M_cursorAt aMmade M_bits M_from M_askMany M_askLeast M_askGreatest M_askSum, rI aMits cI 240 M_its, rI aMmany cI 240 M_many, rI aMtimes cI 15360 M_times, rI aMorder cI 96 M_order, rI aMheadOf cI 128 M_headOf, rI aMheadTime cI 128 M_headTime] → lv_has ls 7 [(0, .ref aM), (1, .int p0), (2, .int p1), (3, .int v3_9)] → W p l e rm_X10_isRising s m args below meth c H locs 0 0 QQ (F0 m 88 ls []) := by
    clear hw0 hl2 ls2 hL_5
    intro H38 locs38 ls38 hw38 hl38
    refine lv_iconst (v := (0 : Int32)) hx hb dX10_isRising_88 (by decide) ?_
    refine lv_istore (lv' := [(4, .int (0 : Int32)), (0, .ref aM), (1, .int p0), (2, .int p1), (3, .int v3_9)]) hx hb dX10_isRising_89 hl38 (by decide) rfl (fun ls39 hl39 => ?_)
    clear hl38 ls38
    replace hfin := ob1_some hfin
    obtain ⟨v3_46, hL_42, hfin⟩ := hfin
    have kx_43 : ∀ (H : Heap) (locs : List Loc) (ls : Array Slot), wS G A s H locs [oX10 aM M_thrown M_series M_most M_ratio aMdisk M_writes M_fuse M_down M_recovers M_looks M_unpacked aMits aMmany aMplace aMlength aMtimes aMvalues aMorder M_chunks M_epoch M_side aMheadOf aMheadTime aMheadValue M_logged aMnext aMisNew M_nexts aMcursorTime aMcursorValue M_hasCursor M_cursorMany M_cursorAt aMmade M_bits M_from M_askMany M_askLeast M_askGreatest M_askSum, rI aMits cI 240 M_its, rI aMmany cI 240 M_many, rI aMtimes cI 15360 M_times, rI aMorder cI 96 M_order, rI aMheadOf cI 128 M_headOf, rI aMheadTime cI 128 M_headTime] → lv_has ls 7 [(3, .int v3_46)] → W p l e rm_X10_isRising s m args below meth c H locs 0 0 QQ (F0 m 138 ls []) := by
      clear hw38 H38 locs38 hl39 ls39 hL_42
      intro H60 locs60 ls60 hw60 hl60
      refine lv_iload_n hx hb dX10_isRising_138 rfl (lv_at hl60 0 rfl) ?_
      replace hfin := ckz_some hfin
      obtain ⟨hz_61, hfin⟩ := hfin
      cases hfin
      rw [hQQ]
      exact ct_zret hx hb hr hlocks hz_61 hw60.1 hw60.2.1 hw60.2.2 dX10_isRising_139
    have lp_44 : ∀ (n : Nat) (v3_40 : Int32) (v4_41 : Int32), lp_X10_isRising_91 M_logged M_headOf M_headTime p0 p1 n v3_40 v4_41 = some (v3_46) → ∀ (H : Heap) (locs : List Loc) (ls : Array Slot), wS G A s H locs [oX10 aM M_thrown M_series M_most M_ratio aMdisk M_writes M_fuse M_down M_recovers M_looks M_unpacked aMits aMmany aMplace aMlength aMtimes aMvalues aMorder M_chunks M_epoch M_side aMheadOf aMheadTime aMheadValue M_logged aMnext aMisNew M_nexts aMcursorTime aMcursorValue M_hasCursor M_cursorMany M_cursorAt aMmade M_bits M_from M_askMany M_askLeast M_askGreatest M_askSum, rI aMits cI 240 M_its, rI aMmany cI 240 M_many, rI aMtimes cI 15360 M_times, rI aMorder cI 96 M_order, rI aMheadOf cI 128 M_headOf, rI aMheadTime cI 128 M_headTime] → lv_has ls 7 [(0, .ref aM), (1, .int p0), (2, .int p1), (3, .int v3_40), (4, .int v4_41)] → W p l e rm_X10_isRising s m args below meth c H locs 0 0 QQ (F0 m 91 ls []) := by
      clear hw38 H38 locs38 hl39 ls39 hfin
      intro n
      induction n with
      | zero =>
        intro v3_40 v4_41 hB_45
        exact absurd hB_45 (by rw [lp_X10_isRising_91]; exact fun h9 => nomatch h9)
      | succ n ih =>
        intro v3_40 v4_41 hB_45 H47 locs47 ls47 hw47 hl47
        rw [lp_X10_isRising_91] at hB_45
        refine lv_iload hx hb dX10_isRising_91 (lv_at hl47 4 rfl) ?_
        refine lv_aload_n hx hb dX10_isRising_93 rfl (lv_at hl47 0 rfl) ?_
        refine va_get (D := G) (ci := 10) (v := .int M_logged) (C := RX10) (T := TX10) (N := 40) hx hb htc iX10 hown hK hw47.1 0 rfl rfl 24 (by decide) (htc _ mw_971) (fun _ h9 => h9) rfl dX10_isRising_94 ?_
        refine lv_icmp_ge (tgt := 138) hx hb dX10_isRising_97 (by decide) (fun c_48 => ?_) (fun c_48 => ?_)
        · replace hB_45 := it_t c_48 hB_45
          cases hB_45
          exact kx_43 _ _ _ hw47 (lv_sub hl47 [3] rfl)
        · replace hB_45 := it_f c_48 hB_45
          refine lv_iload_n hx hb dX10_isRising_100 rfl (lv_at hl47 3 rfl) ?_
          replace hB_45 := ob1_some hB_45
          obtain ⟨s_49, hJ_50, hB_45⟩ := hB_45
          have kj_51 : ∀ (H : Heap) (locs : List Loc) (ls : Array Slot), wS G A s H locs [oX10 aM M_thrown M_series M_most M_ratio aMdisk M_writes M_fuse M_down M_recovers M_looks M_unpacked aMits aMmany aMplace aMlength aMtimes aMvalues aMorder M_chunks M_epoch M_side aMheadOf aMheadTime aMheadValue M_logged aMnext aMisNew M_nexts aMcursorTime aMcursorValue M_hasCursor M_cursorMany M_cursorAt aMmade M_bits M_from M_askMany M_askLeast M_askGreatest M_askSum, rI aMits cI 240 M_its, rI aMmany cI 240 M_many, rI aMtimes cI 15360 M_times, rI aMorder cI 96 M_order, rI aMheadOf cI 128 M_headOf, rI aMheadTime cI 128 M_headTime] → lv_has ls 7 [(0, .ref aM), (1, .int p0), (2, .int p1), (4, .int v4_41)] → W p l e rm_X10_isRising s m args below meth c H locs 0 0 QQ (F0 m 131 ls [.int s_49]) := by
            clear hw47 H47 locs47 hl47 ls47 hJ_50
            intro H57 locs57 ls57 hw57 hl57
            refine lv_istore_n (lv' := [(3, .int s_49), (0, .ref aM), (1, .int p0), (2, .int p1), (4, .int v4_41)]) hx hb dX10_isRising_131 rfl hl57 (by decide) rfl (fun ls58 hl58 => ?_)
            clear hl57 ls57
            refine lv_iinc (v := (v4_41 + (1 : Int32))) (lv' := [(4, .int (v4_41 + (1 : Int32))), (3, .int s_49), (0, .ref aM), (1, .int p0), (2, .int p1)]) hx hb dX10_isRising_132 hl58 (k := 4) rfl rfl (by decide) rfl (fun ls59 hl59 => ?_)
            clear hl58 ls58
            refine lv_goto (tgt := 91) hx hb dX10_isRising_135 (by decide) ?_
            exact ih s_49 (v4_41 + (1 : Int32)) hB_45 _ _ _ hw57 (lv_sub hl59 [2, 3, 4, 1, 0] rfl)
          clear hB_45
          refine lv_if_eq (tgt := 130) hx hb dX10_isRising_101 (by decide) (fun c_52 => ?_) (fun c_52 => ?_)
          · replace hJ_50 := it_t c_52 hJ_50
            refine lv_iconst (v := (0 : Int32)) hx hb dX10_isRising_130 (by decide) ?_
            cases hJ_50
            exact kj_51 _ _ _ hw47 (lv_sub hl47 [0, 1, 2, 4] rfl)
          · replace hJ_50 := it_f c_52 hJ_50
            refine lv_aload_n hx hb dX10_isRising_104 rfl (lv_at hl47 0 rfl) ?_
            refine va_get (D := G) (ci := 10) (v := .ref aMheadOf) (C := RX10) (T := TX10) (N := 40) hx hb htc iX10 hown hK hw47.1 0 rfl rfl 21 (by decide) (htc _ mw_968) (fun _ h9 => h9) rfl dX10_isRising_105 ?_
            refine lv_iload hx hb dX10_isRising_108 (lv_at hl47 4 rfl) ?_
            replace hJ_50 := ckb_some hJ_50
            obtain ⟨hin_53, hJ_50⟩ := hJ_50
            refine va_iald hx hb hK hw47.1 5 0 rfl rfl hin_53 dX10_isRising_110 ?_
            refine lv_iload_n hx hb dX10_isRising_111 rfl (lv_at hl47 1 rfl) ?_
            refine lv_icmp_ne (tgt := 126) hx hb dX10_isRising_112 (by decide) (fun c_54 => ?_) (fun c_54 => ?_)
            · replace hJ_50 := it_f c_54 hJ_50
              refine lv_iconst (v := (1 : Int32)) hx hb dX10_isRising_126 (by decide) ?_
              refine lv_goto (tgt := 131) hx hb dX10_isRising_127 (by decide) ?_
              cases hJ_50
              exact kj_51 _ _ _ hw47 (lv_sub hl47 [0, 1, 2, 4] rfl)
            · replace hJ_50 := it_t c_54 hJ_50
              refine lv_iload_n hx hb dX10_isRising_115 rfl (lv_at hl47 2 rfl) ?_
              refine lv_aload_n hx hb dX10_isRising_116 rfl (lv_at hl47 0 rfl) ?_
              refine va_get (D := G) (ci := 10) (v := .ref aMheadTime) (C := RX10) (T := TX10) (N := 40) hx hb htc iX10 hown hK hw47.1 0 rfl rfl 22 (by decide) (htc _ mw_969) (fun _ h9 => h9) rfl dX10_isRising_117 ?_
              refine lv_iload hx hb dX10_isRising_120 (lv_at hl47 4 rfl) ?_
              replace hJ_50 := ckb_some hJ_50
              obtain ⟨hin_55, hJ_50⟩ := hJ_50
              refine va_iald hx hb hK hw47.1 6 0 rfl rfl hin_55 dX10_isRising_122 ?_
              refine lv_icmp_le (tgt := 130) hx hb dX10_isRising_123 (by decide) (fun c_56 => ?_) (fun c_56 => ?_)
              · replace hJ_50 := it_t c_56 hJ_50
                refine lv_iconst (v := (0 : Int32)) hx hb dX10_isRising_130 (by decide) ?_
                cases hJ_50
                exact kj_51 _ _ _ hw47 (lv_sub hl47 [0, 1, 2, 4] rfl)
              · replace hJ_50 := it_f c_56 hJ_50
                refine lv_iconst (v := (1 : Int32)) hx hb dX10_isRising_126 (by decide) ?_
                refine lv_goto (tgt := 131) hx hb dX10_isRising_127 (by decide) ?_
                cases hJ_50
                exact kj_51 _ _ _ hw47 (lv_sub hl47 [0, 1, 2, 4] rfl)
    exact lp_44 NN v3_9 (0 : Int32) hL_42 _ _ _ hw38 (lv_sub hl39 [1, 2, 3, 4, 0] rfl)
  have lp_7 : ∀ (n : Nat) (v3_3 : Int32) (v4_4 : Int32), lp_X10_isRising_5 M_chunks M_its M_many M_times M_order p0 p1 n v3_3 v4_4 = some (v3_9) → ∀ (H : Heap) (locs : List Loc) (ls : Array Slot), wS G A s H locs [oX10 aM M_thrown M_series M_most M_ratio aMdisk M_writes M_fuse M_down M_recovers M_looks M_unpacked aMits aMmany aMplace aMlength aMtimes aMvalues aMorder M_chunks M_epoch M_side aMheadOf aMheadTime aMheadValue M_logged aMnext aMisNew M_nexts aMcursorTime aMcursorValue M_hasCursor M_cursorMany M_cursorAt aMmade M_bits M_from M_askMany M_askLeast M_askGreatest M_askSum, rI aMits cI 240 M_its, rI aMmany cI 240 M_many, rI aMtimes cI 15360 M_times, rI aMorder cI 96 M_order, rI aMheadOf cI 128 M_headOf, rI aMheadTime cI 128 M_headTime] → lv_has ls 7 [(0, .ref aM), (1, .int p0), (2, .int p1), (3, .int v3_3), (4, .int v4_4)] → W p l e rm_X10_isRising s m args below meth c H locs 0 0 QQ (F0 m 5 ls []) := by
    clear hw0 hl2 ls2 hfin
    intro n
    induction n with
    | zero =>
      intro v3_3 v4_4 hB_8
      exact absurd hB_8 (by rw [lp_X10_isRising_5]; exact fun h9 => nomatch h9)
    | succ n ih =>
      intro v3_3 v4_4 hB_8 H10 locs10 ls10 hw10 hl10
      rw [lp_X10_isRising_5] at hB_8
      refine lv_iload hx hb dX10_isRising_5 (lv_at hl10 4 rfl) ?_
      refine lv_aload_n hx hb dX10_isRising_7 rfl (lv_at hl10 0 rfl) ?_
      refine va_get (D := G) (ci := 10) (v := .int M_chunks) (C := RX10) (T := TX10) (N := 40) hx hb htc iX10 hown hK hw10.1 0 rfl rfl 18 (by decide) (htc _ mw_965) (fun _ h9 => h9) rfl dX10_isRising_8 ?_
      refine lv_icmp_ge (tgt := 88) hx hb dX10_isRising_11 (by decide) (fun c_11 => ?_) (fun c_11 => ?_)
      · replace hB_8 := it_t c_11 hB_8
        cases hB_8
        exact kx_6 _ _ _ hw10 (lv_sub hl10 [0, 1, 2, 3] rfl)
      · replace hB_8 := it_f c_11 hB_8
        refine lv_aload_n hx hb dX10_isRising_14 rfl (lv_at hl10 0 rfl) ?_
        refine va_get (D := G) (ci := 10) (v := .ref aMorder) (C := RX10) (T := TX10) (N := 40) hx hb htc iX10 hown hK hw10.1 0 rfl rfl 17 (by decide) (htc _ mw_964) (fun _ h9 => h9) rfl dX10_isRising_15 ?_
        refine lv_iload hx hb dX10_isRising_18 (lv_at hl10 4 rfl) ?_
        replace hB_8 := ckb_some hB_8
        obtain ⟨hin_12, hB_8⟩ := hB_8
        refine va_iald hx hb hK hw10.1 4 0 rfl rfl hin_12 dX10_isRising_20 ?_
        refine lv_istore (lv' := [(5, .int (M_order (Int32.toNatClampNeg v4_4))), (0, .ref aM), (1, .int p0), (2, .int p1), (3, .int v3_3), (4, .int v4_4)]) hx hb dX10_isRising_21 hl10 (by decide) rfl (fun ls13 hl13 => ?_)
        clear hl10 ls10
        refine lv_iconst (v := (0 : Int32)) hx hb dX10_isRising_23 (by decide) ?_
        refine lv_istore (lv' := [(6, .int (0 : Int32)), (5, .int (M_order (Int32.toNatClampNeg v4_4))), (0, .ref aM), (1, .int p0), (2, .int p1), (3, .int v3_3), (4, .int v4_4)]) hx hb dX10_isRising_24 hl13 (by decide) rfl (fun ls14 hl14 => ?_)
        clear hl13 ls13
        replace hB_8 := ob1_some hB_8
        obtain ⟨v3_21, hL_17, hB_8⟩ := hB_8
        have kx_18 : ∀ (H : Heap) (locs : List Loc) (ls : Array Slot), wS G A s H locs [oX10 aM M_thrown M_series M_most M_ratio aMdisk M_writes M_fuse M_down M_recovers M_looks M_unpacked aMits aMmany aMplace aMlength aMtimes aMvalues aMorder M_chunks M_epoch M_side aMheadOf aMheadTime aMheadValue M_logged aMnext aMisNew M_nexts aMcursorTime aMcursorValue M_hasCursor M_cursorMany M_cursorAt aMmade M_bits M_from M_askMany M_askLeast M_askGreatest M_askSum, rI aMits cI 240 M_its, rI aMmany cI 240 M_many, rI aMtimes cI 15360 M_times, rI aMorder cI 96 M_order, rI aMheadOf cI 128 M_headOf, rI aMheadTime cI 128 M_headTime] → lv_has ls 7 [(0, .ref aM), (1, .int p0), (2, .int p1), (3, .int v3_21), (4, .int v4_4)] → W p l e rm_X10_isRising s m args below meth c H locs 0 0 QQ (F0 m 82 ls []) := by
          clear hw10 H10 locs10 hl14 ls14 hL_17
          intro H36 locs36 ls36 hw36 hl36
          refine lv_iinc (v := (v4_4 + (1 : Int32))) (lv' := [(4, .int (v4_4 + (1 : Int32))), (0, .ref aM), (1, .int p0), (2, .int p1), (3, .int v3_21)]) hx hb dX10_isRising_82 hl36 (k := 4) rfl rfl (by decide) rfl (fun ls37 hl37 => ?_)
          clear hl36 ls36
          refine lv_goto (tgt := 5) hx hb dX10_isRising_85 (by decide) ?_
          exact ih v3_21 (v4_4 + (1 : Int32)) hB_8 _ _ _ hw36 (lv_sub hl37 [1, 2, 3, 4, 0] rfl)
        have lp_19 : ∀ (n : Nat) (v3_15 : Int32) (v6_16 : Int32), lp_X10_isRising_26 M_its M_many M_times M_order p0 p1 v4_4 n v3_15 v6_16 = some (v3_21) → ∀ (H : Heap) (locs : List Loc) (ls : Array Slot), wS G A s H locs [oX10 aM M_thrown M_series M_most M_ratio aMdisk M_writes M_fuse M_down M_recovers M_looks M_unpacked aMits aMmany aMplace aMlength aMtimes aMvalues aMorder M_chunks M_epoch M_side aMheadOf aMheadTime aMheadValue M_logged aMnext aMisNew M_nexts aMcursorTime aMcursorValue M_hasCursor M_cursorMany M_cursorAt aMmade M_bits M_from M_askMany M_askLeast M_askGreatest M_askSum, rI aMits cI 240 M_its, rI aMmany cI 240 M_many, rI aMtimes cI 15360 M_times, rI aMorder cI 96 M_order, rI aMheadOf cI 128 M_headOf, rI aMheadTime cI 128 M_headTime] → lv_has ls 7 [(0, .ref aM), (1, .int p0), (2, .int p1), (3, .int v3_15), (4, .int v4_4), (5, .int (M_order (Int32.toNatClampNeg v4_4))), (6, .int v6_16)] → W p l e rm_X10_isRising s m args below meth c H locs 0 0 QQ (F0 m 26 ls []) := by
          clear hw10 H10 locs10 hl14 ls14 hB_8
          intro n
          induction n with
          | zero =>
            intro v3_15 v6_16 hB_20
            exact absurd hB_20 (by rw [lp_X10_isRising_26]; exact fun h9 => nomatch h9)
          | succ n ih =>
            intro v3_15 v6_16 hB_20 H22 locs22 ls22 hw22 hl22
            rw [lp_X10_isRising_26] at hB_20
            refine lv_iload hx hb dX10_isRising_26 (lv_at hl22 6 rfl) ?_
            refine lv_aload_n hx hb dX10_isRising_28 rfl (lv_at hl22 0 rfl) ?_
            refine va_get (D := G) (ci := 10) (v := .ref aMmany) (C := RX10) (T := TX10) (N := 40) hx hb htc iX10 hown hK hw22.1 0 rfl rfl 12 (by decide) (htc _ mw_959) (fun _ h9 => h9) rfl dX10_isRising_29 ?_
            refine lv_iload hx hb dX10_isRising_32 (lv_at hl22 5 rfl) ?_
            replace hB_20 := ckb_some hB_20
            obtain ⟨hin_23, hB_20⟩ := hB_20
            refine va_iald hx hb hK hw22.1 2 0 rfl rfl hin_23 dX10_isRising_34 ?_
            refine lv_icmp_ge (tgt := 82) hx hb dX10_isRising_35 (by decide) (fun c_24 => ?_) (fun c_24 => ?_)
            · replace hB_20 := it_t c_24 hB_20
              cases hB_20
              exact kx_18 _ _ _ hw22 (lv_sub hl22 [0, 1, 2, 3, 4] rfl)
            · replace hB_20 := it_f c_24 hB_20
              refine lv_aload_n hx hb dX10_isRising_38 rfl (lv_at hl22 0 rfl) ?_
              refine va_get (D := G) (ci := 10) (v := .ref aMits) (C := RX10) (T := TX10) (N := 40) hx hb htc iX10 hown hK hw22.1 0 rfl rfl 11 (by decide) (htc _ mw_958) (fun _ h9 => h9) rfl dX10_isRising_39 ?_
              refine lv_iload hx hb dX10_isRising_42 (lv_at hl22 5 rfl) ?_
              replace hB_20 := ckb_some hB_20
              obtain ⟨hin_25, hB_20⟩ := hB_20
              refine va_iald hx hb hK hw22.1 1 0 rfl rfl hin_25 dX10_isRising_44 ?_
              refine lv_iload_n hx hb dX10_isRising_45 rfl (lv_at hl22 1 rfl) ?_
              refine lv_icmp_ne (tgt := 82) hx hb dX10_isRising_46 (by decide) (fun c_26 => ?_) (fun c_26 => ?_)
              · replace hB_20 := it_f c_26 hB_20
                cases hB_20
                exact kx_18 _ _ _ hw22 (lv_sub hl22 [0, 1, 2, 3, 4] rfl)
              · replace hB_20 := it_t c_26 hB_20
                refine lv_iload_n hx hb dX10_isRising_49 rfl (lv_at hl22 3 rfl) ?_
                replace hB_20 := ob1_some hB_20
                obtain ⟨s_27, hJ_28, hB_20⟩ := hB_20
                have kj_29 : ∀ (H : Heap) (locs : List Loc) (ls : Array Slot), wS G A s H locs [oX10 aM M_thrown M_series M_most M_ratio aMdisk M_writes M_fuse M_down M_recovers M_looks M_unpacked aMits aMmany aMplace aMlength aMtimes aMvalues aMorder M_chunks M_epoch M_side aMheadOf aMheadTime aMheadValue M_logged aMnext aMisNew M_nexts aMcursorTime aMcursorValue M_hasCursor M_cursorMany M_cursorAt aMmade M_bits M_from M_askMany M_askLeast M_askGreatest M_askSum, rI aMits cI 240 M_its, rI aMmany cI 240 M_many, rI aMtimes cI 15360 M_times, rI aMorder cI 96 M_order, rI aMheadOf cI 128 M_headOf, rI aMheadTime cI 128 M_headTime] → lv_has ls 7 [(0, .ref aM), (1, .int p0), (2, .int p1), (4, .int v4_4), (5, .int (M_order (Int32.toNatClampNeg v4_4))), (6, .int v6_16)] → W p l e rm_X10_isRising s m args below meth c H locs 0 0 QQ (F0 m 75 ls [.int s_27]) := by
                  clear hw22 H22 locs22 hl22 ls22 hJ_28
                  intro H33 locs33 ls33 hw33 hl33
                  refine lv_istore_n (lv' := [(3, .int s_27), (0, .ref aM), (1, .int p0), (2, .int p1), (4, .int v4_4), (5, .int (M_order (Int32.toNatClampNeg v4_4))), (6, .int v6_16)]) hx hb dX10_isRising_75 rfl hl33 (by decide) rfl (fun ls34 hl34 => ?_)
                  clear hl33 ls33
                  refine lv_iinc (v := (v6_16 + (1 : Int32))) (lv' := [(6, .int (v6_16 + (1 : Int32))), (3, .int s_27), (0, .ref aM), (1, .int p0), (2, .int p1), (4, .int v4_4), (5, .int (M_order (Int32.toNatClampNeg v4_4)))]) hx hb dX10_isRising_76 hl34 (k := 6) rfl rfl (by decide) rfl (fun ls35 hl35 => ?_)
                  clear hl34 ls34
                  refine lv_goto (tgt := 26) hx hb dX10_isRising_79 (by decide) ?_
                  exact ih s_27 (v6_16 + (1 : Int32)) hB_20 _ _ _ hw33 (lv_sub hl35 [2, 3, 4, 1, 5, 6, 0] rfl)
                clear hB_20
                refine lv_if_eq (tgt := 74) hx hb dX10_isRising_50 (by decide) (fun c_30 => ?_) (fun c_30 => ?_)
                · replace hJ_28 := it_t c_30 hJ_28
                  refine lv_iconst (v := (0 : Int32)) hx hb dX10_isRising_74 (by decide) ?_
                  cases hJ_28
                  exact kj_29 _ _ _ hw22 (lv_sub hl22 [0, 1, 2, 4, 5, 6] rfl)
                · replace hJ_28 := it_f c_30 hJ_28
                  refine lv_iload_n hx hb dX10_isRising_53 rfl (lv_at hl22 2 rfl) ?_
                  refine lv_aload_n hx hb dX10_isRising_54 rfl (lv_at hl22 0 rfl) ?_
                  refine va_get (D := G) (ci := 10) (v := .ref aMtimes) (C := RX10) (T := TX10) (N := 40) hx hb htc iX10 hown hK hw22.1 0 rfl rfl 15 (by decide) (htc _ mw_962) (fun _ h9 => h9) rfl dX10_isRising_55 ?_
                  refine lv_bipush (v := (64 : Int32)) hx hb dX10_isRising_58 (by decide) ?_
                  refine lv_iload hx hb dX10_isRising_60 (lv_at hl22 5 rfl) ?_
                  refine lv_imul hx hb dX10_isRising_62 ?_
                  refine lv_iload hx hb dX10_isRising_63 (lv_at hl22 6 rfl) ?_
                  refine lv_iadd hx hb dX10_isRising_65 ?_
                  replace hJ_28 := ckb_some hJ_28
                  obtain ⟨hin_31, hJ_28⟩ := hJ_28
                  refine va_iald hx hb hK hw22.1 3 0 rfl rfl hin_31 dX10_isRising_66 ?_
                  refine lv_icmp_le (tgt := 74) hx hb dX10_isRising_67 (by decide) (fun c_32 => ?_) (fun c_32 => ?_)
                  · replace hJ_28 := it_t c_32 hJ_28
                    refine lv_iconst (v := (0 : Int32)) hx hb dX10_isRising_74 (by decide) ?_
                    cases hJ_28
                    exact kj_29 _ _ _ hw22 (lv_sub hl22 [0, 1, 2, 4, 5, 6] rfl)
                  · replace hJ_28 := it_f c_32 hJ_28
                    refine lv_iconst (v := (1 : Int32)) hx hb dX10_isRising_70 (by decide) ?_
                    refine lv_goto (tgt := 75) hx hb dX10_isRising_71 (by decide) ?_
                    cases hJ_28
                    exact kj_29 _ _ _ hw22 (lv_sub hl22 [0, 1, 2, 4, 5, 6] rfl)
        exact lp_19 NN v3_3 (0 : Int32) hL_17 _ _ _ hw10 (lv_sub hl14 [2, 3, 4, 5, 6, 1, 0] rfl)
  exact lp_7 NN (1 : Int32) (0 : Int32) hL_5 _ _ _ hw0 (lv_sub hl2 [2, 3, 4, 1, 0] rfl)
abbrev rm_X10_append : Room := { frames := 1, cells := 0, slots := 0, locals := 26 }
theorem hd_X10_append : yX10_append.cls = RX10 ∧ yX10_append.cls ≠ "java/lang/invoke/MethodHandle" ∧ yX10_append.cls ≠ "java/lang/invoke/VarHandle" ∧ (parseMethodDescriptor yX10_append.desc).map (fun d => d.parameters.length) = some 3 := by decide +kernel
set_option maxHeartbeats 4000000 in
set_option maxRecDepth 100000 in
theorem c_X10_append (l : Launch) (G : va_G) (cI cZ cJ : ClassId) (aM aMdisk aMits aMmany aMplace aMlength aMtimes aMvalues aMorder aMheadOf aMheadTime aMheadValue aMnext aMisNew aMcursorTime aMcursorValue aMmade : Nat) (M_thrown : Int32) (M_series : Int32) (M_most : Int32) (M_ratio : Int32) (M_writes : Int32) (M_fuse : Int32) (M_down : Int32) (M_recovers : Int32) (M_looks : Int32) (M_unpacked : Int32) (M_chunks : Int32) (M_epoch : Int32) (M_side : Int32) (M_logged : Int32) (M_nexts : Int32) (M_hasCursor : Int32) (M_cursorMany : Int32) (M_cursorAt : Int32) (M_bits : Int32) (M_from : Int32) (M_askMany : Int32) (M_askLeast : Int32) (M_askGreatest : Int32) (M_askSum : Int64) (M_disk : Nat → Int32) (M_its : Nat → Int32) (M_many : Nat → Int32) (M_times : Nat → Int32) (M_order : Nat → Int32) (M_headOf : Nat → Int32) (M_headTime : Nat → Int32) (M_headValue : Nat → Int32) (p0 : Int32) (p1 : Int32) (p2 : Int32) {r : Int32} {o_M_thrown : Int32} {o_M_writes : Int32} {o_M_fuse : Int32} {o_M_down : Int32} {o_M_logged : Int32} {o_M_hasCursor : Int32} {o_M_cursorMany : Int32} {o_M_cursorAt : Int32} {o_M_disk : Nat → Int32} {o_M_headOf : Nat → Int32} {o_M_headTime : Nat → Int32} {o_M_headValue : Nat → Int32} (hfin : m_X10_append M_thrown M_series M_writes M_fuse M_down M_chunks M_epoch M_logged M_hasCursor M_cursorMany M_cursorAt M_disk M_its M_many M_times M_order M_headOf M_headTime M_headValue p0 p1 p2 = some (r, o_M_thrown, o_M_writes, o_M_fuse, o_M_down, o_M_logged, o_M_hasCursor, o_M_cursorMany, o_M_cursorAt, o_M_disk, o_M_headOf, o_M_headTime, o_M_headValue)) : CT l yX10_append cX10_append 5 (some .int) rm_X10_append G (tyC cI cZ cJ) [.ref aM, .int p0, .int p1, .int p2] [oX10 aM M_thrown M_series M_most M_ratio aMdisk M_writes M_fuse M_down M_recovers M_looks M_unpacked aMits aMmany aMplace aMlength aMtimes aMvalues aMorder M_chunks M_epoch M_side aMheadOf aMheadTime aMheadValue M_logged aMnext aMisNew M_nexts aMcursorTime aMcursorValue M_hasCursor M_cursorMany M_cursorAt aMmade M_bits M_from M_askMany M_askLeast M_askGreatest M_askSum, rI aMdisk cI 4096 M_disk, rI aMits cI 240 M_its, rI aMmany cI 240 M_many, rI aMtimes cI 15360 M_times, rI aMorder cI 96 M_order, rI aMheadOf cI 128 M_headOf, rI aMheadTime cI 128 M_headTime, rI aMheadValue cI 128 M_headValue] (some (.int r)) [oX10 aM o_M_thrown M_series M_most M_ratio aMdisk o_M_writes o_M_fuse o_M_down M_recovers M_looks M_unpacked aMits aMmany aMplace aMlength aMtimes aMvalues aMorder M_chunks M_epoch M_side aMheadOf aMheadTime aMheadValue o_M_logged aMnext aMisNew M_nexts aMcursorTime aMcursorValue o_M_hasCursor o_M_cursorMany o_M_cursorAt aMmade M_bits M_from M_askMany M_askLeast M_askGreatest M_askSum, rI aMdisk cI 4096 o_M_disk, rI aMits cI 240 M_its, rI aMmany cI 240 M_many, rI aMtimes cI 15360 M_times, rI aMorder cI 96 M_order, rI aMheadOf cI 128 o_M_headOf, rI aMheadTime cI 128 o_M_headTime, rI aMheadValue cI 128 o_M_headValue] := by
  refine CT.ofW (lvl := [(0, .ref aM), (1, .int p0), (2, .int p1), (3, .int p2)]) (by decide) (Nat.le_of_ble_eq_true rfl) rfl ?_
  intro p e s m args below meth c A ls0 QQ hQQ hx hb hml hr hlocks htc hN hown hK hA hw0 hl0
  rw [m_X10_append] at hfin
  refine lv_aload_n hx hb dX10_append_0 rfl (lv_at hl0 0 rfl) ?_
  refine lv_iconst (v := (0 : Int32)) hx hb dX10_append_1 (by decide) ?_
  refine va_put (D := G) (ci := 10) (v := .int (0 : Int32)) (ty := .int) (C := RX10) (T := TX10) (N := 40) hx hb htc iX10 tyX10 tyX10_ok nmX10 hown hK hw0.1 hw0.2.1 hw0.2.2 0 rfl rfl 0 (by decide) (htc _ mw_947) (fun _ h9 => h9) rfl (tyX10_ok 0 (by decide)) rfl rfl (Nat.le_of_ble_eq_true rfl) dX10_append_2 (fun H1 locs1 hP hD hS => ?_)
  have hw1 : wS G A s H1 locs1 [oX10 aM (0 : Int32) M_series M_most M_ratio aMdisk M_writes M_fuse M_down M_recovers M_looks M_unpacked aMits aMmany aMplace aMlength aMtimes aMvalues aMorder M_chunks M_epoch M_side aMheadOf aMheadTime aMheadValue M_logged aMnext aMisNew M_nexts aMcursorTime aMcursorValue M_hasCursor M_cursorMany M_cursorAt aMmade M_bits M_from M_askMany M_askLeast M_askGreatest M_askSum, rI aMdisk cI 4096 M_disk, rI aMits cI 240 M_its, rI aMmany cI 240 M_many, rI aMtimes cI 15360 M_times, rI aMorder cI 96 M_order, rI aMheadOf cI 128 M_headOf, rI aMheadTime cI 128 M_headTime, rI aMheadValue cI 128 M_headValue] := ⟨hP, hD, hS⟩
  clear hP hD hS hw0
  refine lv_aload_n hx hb dX10_append_5 rfl (lv_at hl0 0 rfl) ?_
  replace hfin := ob3_some hfin
  obtain ⟨M_hasCursor_3, M_cursorMany_4, M_cursorAt_5, hE_2, hfin⟩ := hfin
  refine ctV (a := aM) (As := []) (rest := []) (st1 := []) (wc := [oX10 aM (0 : Int32) M_series M_most M_ratio aMdisk M_writes M_fuse M_down M_recovers M_looks M_unpacked aMits aMmany aMplace aMlength aMtimes aMvalues aMorder M_chunks M_epoch M_side aMheadOf aMheadTime aMheadValue M_logged aMnext aMisNew M_nexts aMcursorTime aMcursorValue M_hasCursor M_cursorMany M_cursorAt aMmade M_bits M_from M_askMany M_askLeast M_askGreatest M_askSum]) (w1 := [oX10 aM (0 : Int32) M_series M_most M_ratio aMdisk M_writes M_fuse M_down M_recovers M_looks M_unpacked aMits aMmany aMplace aMlength aMtimes aMvalues aMorder M_chunks M_epoch M_side aMheadOf aMheadTime aMheadValue M_logged aMnext aMisNew M_nexts aMcursorTime aMcursorValue M_hasCursor_3 M_cursorMany_4 M_cursorAt_5 aMmade M_bits M_from M_askMany M_askLeast M_askGreatest M_askSum]) (wr := [rI aMdisk cI 4096 M_disk, rI aMits cI 240 M_its, rI aMmany cI 240 M_many, rI aMtimes cI 15360 M_times, rI aMorder cI 96 M_order, rI aMheadOf cI 128 M_headOf, rI aMheadTime cI 128 M_headTime, rI aMheadValue cI 128 M_headValue]) (wb := [oX10 aM (0 : Int32) M_series M_most M_ratio aMdisk M_writes M_fuse M_down M_recovers M_looks M_unpacked aMits aMmany aMplace aMlength aMtimes aMvalues aMorder M_chunks M_epoch M_side aMheadOf aMheadTime aMheadValue M_logged aMnext aMisNew M_nexts aMcursorTime aMcursorValue M_hasCursor_3 M_cursorMany_4 M_cursorAt_5 aMmade M_bits M_from M_askMany M_askLeast M_askGreatest M_askSum, rI aMdisk cI 4096 M_disk, rI aMits cI 240 M_its, rI aMmany cI 240 M_many, rI aMtimes cI 15360 M_times, rI aMorder cI 96 M_order, rI aMheadOf cI 128 M_headOf, rI aMheadTime cI 128 M_headTime, rI aMheadValue cI 128 M_headValue]) (v := none) hx hb hml hown htc hN (c_X10_dropCursor l G cI cZ cJ aM aMdisk aMits aMmany aMplace aMlength aMtimes aMvalues aMorder aMheadOf aMheadTime aMheadValue aMnext aMisNew aMcursorTime aMcursorValue aMmade (0 : Int32) M_series M_most M_ratio M_writes M_fuse M_down M_recovers M_looks M_unpacked M_chunks M_epoch M_side M_logged M_nexts M_hasCursor M_cursorMany M_cursorAt M_bits M_from M_askMany M_askLeast M_askGreatest M_askSum  hE_2) mw_1076 mw_1078 mp_34 mw_12 mw_1079 hd_X10_dropCursor ⟨rfl, rfl⟩ ⟨Nat.le_of_ble_eq_true rfl, Nat.le_of_ble_eq_true rfl⟩ hK hw1 hA [0] [1, 2, 3, 4, 5, 6, 7, 8] [8, 0, 1, 2, 3, 4, 5, 6, 7] rfl rfl rfl rfl rfl (by decide) rfl rfl rfl 0 rfl rfl rfl rfl hl0.1 rfl rfl (Nat.le_of_ble_eq_true rfl) dX10_append_6 ⟨Nat.zero_le _, Nat.zero_le _⟩ (fun H6 locs6 hw6 => ?_)
  clear hw1 H1 locs1
  refine lv_aload_n hx hb dX10_append_9 rfl (lv_at hl0 0 rfl) ?_
  refine va_get (D := G) (ci := 10) (v := .int M_down) (C := RX10) (T := TX10) (N := 40) hx hb htc iX10 hown hK hw6.1 0 rfl rfl 7 (by decide) (htc _ mw_954) (fun _ h9 => h9) rfl dX10_append_10 ?_
  refine lv_if_eq (tgt := 19) hx hb dX10_append_13 (by decide) (fun c_7 => ?_) (fun c_7 => ?_)
  · replace hfin := it_t c_7 hfin
    refine lv_aload_n hx hb dX10_append_19 rfl (lv_at hl0 0 rfl) ?_
    refine lv_iload_n hx hb dX10_append_20 rfl (lv_at hl0 1 rfl) ?_
    replace hfin := ob1_some hfin
    obtain ⟨r_9, hE_8, hfin⟩ := hfin
    refine ctV (a := aM) (As := [.int p0]) (rest := []) (st1 := [.int r_9]) (wc := [oX10 aM (0 : Int32) M_series M_most M_ratio aMdisk M_writes M_fuse M_down M_recovers M_looks M_unpacked aMits aMmany aMplace aMlength aMtimes aMvalues aMorder M_chunks M_epoch M_side aMheadOf aMheadTime aMheadValue M_logged aMnext aMisNew M_nexts aMcursorTime aMcursorValue M_hasCursor_3 M_cursorMany_4 M_cursorAt_5 aMmade M_bits M_from M_askMany M_askLeast M_askGreatest M_askSum]) (w1 := [oX10 aM (0 : Int32) M_series M_most M_ratio aMdisk M_writes M_fuse M_down M_recovers M_looks M_unpacked aMits aMmany aMplace aMlength aMtimes aMvalues aMorder M_chunks M_epoch M_side aMheadOf aMheadTime aMheadValue M_logged aMnext aMisNew M_nexts aMcursorTime aMcursorValue M_hasCursor_3 M_cursorMany_4 M_cursorAt_5 aMmade M_bits M_from M_askMany M_askLeast M_askGreatest M_askSum]) (wr := [rI aMdisk cI 4096 M_disk, rI aMits cI 240 M_its, rI aMmany cI 240 M_many, rI aMtimes cI 15360 M_times, rI aMorder cI 96 M_order, rI aMheadOf cI 128 M_headOf, rI aMheadTime cI 128 M_headTime, rI aMheadValue cI 128 M_headValue]) (wb := [oX10 aM (0 : Int32) M_series M_most M_ratio aMdisk M_writes M_fuse M_down M_recovers M_looks M_unpacked aMits aMmany aMplace aMlength aMtimes aMvalues aMorder M_chunks M_epoch M_side aMheadOf aMheadTime aMheadValue M_logged aMnext aMisNew M_nexts aMcursorTime aMcursorValue M_hasCursor_3 M_cursorMany_4 M_cursorAt_5 aMmade M_bits M_from M_askMany M_askLeast M_askGreatest M_askSum, rI aMdisk cI 4096 M_disk, rI aMits cI 240 M_its, rI aMmany cI 240 M_many, rI aMtimes cI 15360 M_times, rI aMorder cI 96 M_order, rI aMheadOf cI 128 M_headOf, rI aMheadTime cI 128 M_headTime, rI aMheadValue cI 128 M_headValue]) (v := (some (.int r_9))) hx hb hml hown htc hN (c_X10_isSeries l G cI cZ cJ aM aMdisk aMits aMmany aMplace aMlength aMtimes aMvalues aMorder aMheadOf aMheadTime aMheadValue aMnext aMisNew aMcursorTime aMcursorValue aMmade (0 : Int32) M_series M_most M_ratio M_writes M_fuse M_down M_recovers M_looks M_unpacked M_chunks M_epoch M_side M_logged M_nexts M_hasCursor_3 M_cursorMany_4 M_cursorAt_5 M_bits M_from M_askMany M_askLeast M_askGreatest M_askSum p0 hE_8) mw_1080 mw_1082 mp_35 mw_12 mw_1083 hd_X10_isSeries ⟨rfl, rfl⟩ ⟨Nat.le_of_ble_eq_true rfl, Nat.le_of_ble_eq_true rfl⟩ hK hw6 hA [0] [1, 2, 3, 4, 5, 6, 7, 8] [8, 0, 1, 2, 3, 4, 5, 6, 7] rfl rfl rfl rfl rfl (by decide) rfl rfl rfl 0 rfl rfl rfl rfl hl0.1 rfl rfl (Nat.le_of_ble_eq_true rfl) dX10_append_21 ⟨Nat.zero_le _, Nat.zero_le _⟩ (fun H10 locs10 hw10 => ?_)
    clear hw6 H6 locs6
    refine lv_if_ne (tgt := 30) hx hb dX10_append_24 (by decide) (fun c_11 => ?_) (fun c_11 => ?_)
    · replace hfin := it_f c_11 hfin
      refine lv_aload_n hx hb dX10_append_30 rfl (lv_at hl0 0 rfl) ?_
      refine lv_iload_n hx hb dX10_append_31 rfl (lv_at hl0 1 rfl) ?_
      refine lv_iload_n hx hb dX10_append_32 rfl (lv_at hl0 2 rfl) ?_
      replace hfin := ob1_some hfin
      obtain ⟨r_13, hE_12, hfin⟩ := hfin
      refine ctV (a := aM) (As := [.int p0, .int p1]) (rest := []) (st1 := [.int r_13]) (wc := [oX10 aM (0 : Int32) M_series M_most M_ratio aMdisk M_writes M_fuse M_down M_recovers M_looks M_unpacked aMits aMmany aMplace aMlength aMtimes aMvalues aMorder M_chunks M_epoch M_side aMheadOf aMheadTime aMheadValue M_logged aMnext aMisNew M_nexts aMcursorTime aMcursorValue M_hasCursor_3 M_cursorMany_4 M_cursorAt_5 aMmade M_bits M_from M_askMany M_askLeast M_askGreatest M_askSum, rI aMits cI 240 M_its, rI aMmany cI 240 M_many, rI aMtimes cI 15360 M_times, rI aMorder cI 96 M_order, rI aMheadOf cI 128 M_headOf, rI aMheadTime cI 128 M_headTime]) (w1 := [oX10 aM (0 : Int32) M_series M_most M_ratio aMdisk M_writes M_fuse M_down M_recovers M_looks M_unpacked aMits aMmany aMplace aMlength aMtimes aMvalues aMorder M_chunks M_epoch M_side aMheadOf aMheadTime aMheadValue M_logged aMnext aMisNew M_nexts aMcursorTime aMcursorValue M_hasCursor_3 M_cursorMany_4 M_cursorAt_5 aMmade M_bits M_from M_askMany M_askLeast M_askGreatest M_askSum, rI aMits cI 240 M_its, rI aMmany cI 240 M_many, rI aMtimes cI 15360 M_times, rI aMorder cI 96 M_order, rI aMheadOf cI 128 M_headOf, rI aMheadTime cI 128 M_headTime]) (wr := [rI aMdisk cI 4096 M_disk, rI aMheadValue cI 128 M_headValue]) (wb := [oX10 aM (0 : Int32) M_series M_most M_ratio aMdisk M_writes M_fuse M_down M_recovers M_looks M_unpacked aMits aMmany aMplace aMlength aMtimes aMvalues aMorder M_chunks M_epoch M_side aMheadOf aMheadTime aMheadValue M_logged aMnext aMisNew M_nexts aMcursorTime aMcursorValue M_hasCursor_3 M_cursorMany_4 M_cursorAt_5 aMmade M_bits M_from M_askMany M_askLeast M_askGreatest M_askSum, rI aMdisk cI 4096 M_disk, rI aMits cI 240 M_its, rI aMmany cI 240 M_many, rI aMtimes cI 15360 M_times, rI aMorder cI 96 M_order, rI aMheadOf cI 128 M_headOf, rI aMheadTime cI 128 M_headTime, rI aMheadValue cI 128 M_headValue]) (v := (some (.int r_13))) hx hb hml hown htc hN (c_X10_isRising l G cI cZ cJ aM aMdisk aMits aMmany aMplace aMlength aMtimes aMvalues aMorder aMheadOf aMheadTime aMheadValue aMnext aMisNew aMcursorTime aMcursorValue aMmade (0 : Int32) M_series M_most M_ratio M_writes M_fuse M_down M_recovers M_looks M_unpacked M_chunks M_epoch M_side M_logged M_nexts M_hasCursor_3 M_cursorMany_4 M_cursorAt_5 M_bits M_from M_askMany M_askLeast M_askGreatest M_askSum M_its M_many M_times M_order M_headOf M_headTime p0 p1 hE_12) mw_1084 mw_1086 mp_36 mw_12 mw_1087 hd_X10_isRising ⟨rfl, rfl⟩ ⟨Nat.le_of_ble_eq_true rfl, Nat.le_of_ble_eq_true rfl⟩ hK hw10 hA [0, 2, 3, 4, 5, 6, 7] [1, 8] [2, 0, 3, 4, 5, 6, 7, 8, 1] rfl rfl rfl rfl rfl (by decide) rfl rfl rfl 0 rfl rfl rfl rfl hl0.1 rfl rfl (Nat.le_of_ble_eq_true rfl) dX10_append_33 ⟨Nat.zero_le _, Nat.zero_le _⟩ (fun H14 locs14 hw14 => ?_)
      clear hw10 H10 locs10
      refine lv_if_ne (tgt := 41) hx hb dX10_append_36 (by decide) (fun c_15 => ?_) (fun c_15 => ?_)
      · replace hfin := it_f c_15 hfin
        refine lv_aload_n hx hb dX10_append_41 rfl (lv_at hl0 0 rfl) ?_
        refine va_get (D := G) (ci := 10) (v := .int M_logged) (C := RX10) (T := TX10) (N := 40) hx hb htc iX10 hown hK hw14.1 0 rfl rfl 24 (by decide) (htc _ mw_971) (fun _ h9 => h9) rfl dX10_append_42 ?_
        refine lv_sipush (v := (128 : Int32)) hx hb dX10_append_45 (by decide) ?_
        refine lv_icmp_ne (tgt := 54) hx hb dX10_append_48 (by decide) (fun c_16 => ?_) (fun c_16 => ?_)
        · replace hfin := it_f c_16 hfin
          refine lv_sipush (v := (1923 : Int32)) hx hb dX10_append_54 (by decide) ?_
          refine lv_iconst (v := (4 : Int32)) hx hb dX10_append_57 (by decide) ?_
          refine lv_aload_n hx hb dX10_append_58 rfl (lv_at hl0 0 rfl) ?_
          refine va_get (D := G) (ci := 10) (v := .int M_logged) (C := RX10) (T := TX10) (N := 40) hx hb htc iX10 hown hK hw14.1 0 rfl rfl 24 (by decide) (htc _ mw_971) (fun _ h9 => h9) rfl dX10_append_59 ?_
          refine lv_imul hx hb dX10_append_62 ?_
          refine lv_iadd hx hb dX10_append_63 ?_
          refine lv_istore (lv' := [(4, .int ((1923 : Int32) + ((4 : Int32) * M_logged))), (0, .ref aM), (1, .int p0), (2, .int p1), (3, .int p2)]) hx hb dX10_append_64 hl0 (by decide) rfl (fun ls17 hl17 => ?_)
          clear hl0 ls0
          refine lv_aload_n hx hb dX10_append_66 rfl (lv_at hl17 1 rfl) ?_
          refine lv_iload hx hb dX10_append_67 (lv_at hl17 0 rfl) ?_
          refine lv_iload_n hx hb dX10_append_69 rfl (lv_at hl17 2 rfl) ?_
          replace hfin := ob5_some hfin
          obtain ⟨r_19, M_writes_20, M_fuse_21, M_down_22, M_disk_23, hE_18, hfin⟩ := hfin
          refine ctV (a := aM) (As := [.int ((1923 : Int32) + ((4 : Int32) * M_logged)), .int p0]) (rest := []) (st1 := [.int r_19]) (wc := [oX10 aM (0 : Int32) M_series M_most M_ratio aMdisk M_writes M_fuse M_down M_recovers M_looks M_unpacked aMits aMmany aMplace aMlength aMtimes aMvalues aMorder M_chunks M_epoch M_side aMheadOf aMheadTime aMheadValue M_logged aMnext aMisNew M_nexts aMcursorTime aMcursorValue M_hasCursor_3 M_cursorMany_4 M_cursorAt_5 aMmade M_bits M_from M_askMany M_askLeast M_askGreatest M_askSum, rI aMdisk cI 4096 M_disk]) (w1 := [oX10 aM (0 : Int32) M_series M_most M_ratio aMdisk M_writes_20 M_fuse_21 M_down_22 M_recovers M_looks M_unpacked aMits aMmany aMplace aMlength aMtimes aMvalues aMorder M_chunks M_epoch M_side aMheadOf aMheadTime aMheadValue M_logged aMnext aMisNew M_nexts aMcursorTime aMcursorValue M_hasCursor_3 M_cursorMany_4 M_cursorAt_5 aMmade M_bits M_from M_askMany M_askLeast M_askGreatest M_askSum, rI aMdisk cI 4096 M_disk_23]) (wr := [rI aMits cI 240 M_its, rI aMmany cI 240 M_many, rI aMtimes cI 15360 M_times, rI aMorder cI 96 M_order, rI aMheadOf cI 128 M_headOf, rI aMheadTime cI 128 M_headTime, rI aMheadValue cI 128 M_headValue]) (wb := [oX10 aM (0 : Int32) M_series M_most M_ratio aMdisk M_writes_20 M_fuse_21 M_down_22 M_recovers M_looks M_unpacked aMits aMmany aMplace aMlength aMtimes aMvalues aMorder M_chunks M_epoch M_side aMheadOf aMheadTime aMheadValue M_logged aMnext aMisNew M_nexts aMcursorTime aMcursorValue M_hasCursor_3 M_cursorMany_4 M_cursorAt_5 aMmade M_bits M_from M_askMany M_askLeast M_askGreatest M_askSum, rI aMdisk cI 4096 M_disk_23, rI aMits cI 240 M_its, rI aMmany cI 240 M_many, rI aMtimes cI 15360 M_times, rI aMorder cI 96 M_order, rI aMheadOf cI 128 M_headOf, rI aMheadTime cI 128 M_headTime, rI aMheadValue cI 128 M_headValue]) (v := (some (.int r_19))) hx hb hml hown htc hN (c_X10_write l G cI cZ cJ aM aMdisk aMits aMmany aMplace aMlength aMtimes aMvalues aMorder aMheadOf aMheadTime aMheadValue aMnext aMisNew aMcursorTime aMcursorValue aMmade (0 : Int32) M_series M_most M_ratio M_writes M_fuse M_down M_recovers M_looks M_unpacked M_chunks M_epoch M_side M_logged M_nexts M_hasCursor_3 M_cursorMany_4 M_cursorAt_5 M_bits M_from M_askMany M_askLeast M_askGreatest M_askSum M_disk ((1923 : Int32) + ((4 : Int32) * M_logged)) p0 hE_18) mw_1088 mw_1090 mp_37 mw_12 mw_1091 hd_X10_write ⟨rfl, rfl⟩ ⟨Nat.le_of_ble_eq_true rfl, Nat.le_of_ble_eq_true rfl⟩ hK hw14 hA [0, 1] [2, 3, 4, 5, 6, 7, 8] [7, 8, 0, 1, 2, 3, 4, 5, 6] rfl rfl rfl rfl rfl (by decide) rfl rfl rfl 0 rfl rfl rfl rfl hl17.1 rfl rfl (Nat.le_of_ble_eq_true rfl) dX10_append_70 ⟨Nat.zero_le _, Nat.zero_le _⟩ (fun H24 locs24 hw24 => ?_)
          clear hw14 H14 locs14
          refine lv_if_eq (tgt := 117) hx hb dX10_append_73 (by decide) (fun c_25 => ?_) (fun c_25 => ?_)
          · replace hfin := it_t c_25 hfin
            refine lv_bipush (v := (-9 : Int32)) hx hb dX10_append_117 (by decide) ?_
            cases hfin
            rw [hQQ]
            exact ct_iret hx hb hr hlocks hw24.1 hw24.2.1 hw24.2.2 dX10_append_119
          · replace hfin := it_f c_25 hfin
            refine lv_aload_n hx hb dX10_append_76 rfl (lv_at hl17 1 rfl) ?_
            refine lv_iload hx hb dX10_append_77 (lv_at hl17 0 rfl) ?_
            refine lv_iconst (v := (1 : Int32)) hx hb dX10_append_79 (by decide) ?_
            refine lv_iadd hx hb dX10_append_80 ?_
            refine lv_iload_n hx hb dX10_append_81 rfl (lv_at hl17 3 rfl) ?_
            replace hfin := ob5_some hfin
            obtain ⟨r_27, M_writes_28, M_fuse_29, M_down_30, M_disk_31, hE_26, hfin⟩ := hfin
            refine ctV (a := aM) (As := [.int (((1923 : Int32) + ((4 : Int32) * M_logged)) + (1 : Int32)), .int p1]) (rest := []) (st1 := [.int r_27]) (wc := [oX10 aM (0 : Int32) M_series M_most M_ratio aMdisk M_writes_20 M_fuse_21 M_down_22 M_recovers M_looks M_unpacked aMits aMmany aMplace aMlength aMtimes aMvalues aMorder M_chunks M_epoch M_side aMheadOf aMheadTime aMheadValue M_logged aMnext aMisNew M_nexts aMcursorTime aMcursorValue M_hasCursor_3 M_cursorMany_4 M_cursorAt_5 aMmade M_bits M_from M_askMany M_askLeast M_askGreatest M_askSum, rI aMdisk cI 4096 M_disk_23]) (w1 := [oX10 aM (0 : Int32) M_series M_most M_ratio aMdisk M_writes_28 M_fuse_29 M_down_30 M_recovers M_looks M_unpacked aMits aMmany aMplace aMlength aMtimes aMvalues aMorder M_chunks M_epoch M_side aMheadOf aMheadTime aMheadValue M_logged aMnext aMisNew M_nexts aMcursorTime aMcursorValue M_hasCursor_3 M_cursorMany_4 M_cursorAt_5 aMmade M_bits M_from M_askMany M_askLeast M_askGreatest M_askSum, rI aMdisk cI 4096 M_disk_31]) (wr := [rI aMits cI 240 M_its, rI aMmany cI 240 M_many, rI aMtimes cI 15360 M_times, rI aMorder cI 96 M_order, rI aMheadOf cI 128 M_headOf, rI aMheadTime cI 128 M_headTime, rI aMheadValue cI 128 M_headValue]) (wb := [oX10 aM (0 : Int32) M_series M_most M_ratio aMdisk M_writes_28 M_fuse_29 M_down_30 M_recovers M_looks M_unpacked aMits aMmany aMplace aMlength aMtimes aMvalues aMorder M_chunks M_epoch M_side aMheadOf aMheadTime aMheadValue M_logged aMnext aMisNew M_nexts aMcursorTime aMcursorValue M_hasCursor_3 M_cursorMany_4 M_cursorAt_5 aMmade M_bits M_from M_askMany M_askLeast M_askGreatest M_askSum, rI aMdisk cI 4096 M_disk_31, rI aMits cI 240 M_its, rI aMmany cI 240 M_many, rI aMtimes cI 15360 M_times, rI aMorder cI 96 M_order, rI aMheadOf cI 128 M_headOf, rI aMheadTime cI 128 M_headTime, rI aMheadValue cI 128 M_headValue]) (v := (some (.int r_27))) hx hb hml hown htc hN (c_X10_write l G cI cZ cJ aM aMdisk aMits aMmany aMplace aMlength aMtimes aMvalues aMorder aMheadOf aMheadTime aMheadValue aMnext aMisNew aMcursorTime aMcursorValue aMmade (0 : Int32) M_series M_most M_ratio M_writes_20 M_fuse_21 M_down_22 M_recovers M_looks M_unpacked M_chunks M_epoch M_side M_logged M_nexts M_hasCursor_3 M_cursorMany_4 M_cursorAt_5 M_bits M_from M_askMany M_askLeast M_askGreatest M_askSum M_disk_23 (((1923 : Int32) + ((4 : Int32) * M_logged)) + (1 : Int32)) p1 hE_26) mw_1088 mw_1090 mp_37 mw_12 mw_1091 hd_X10_write ⟨rfl, rfl⟩ ⟨Nat.le_of_ble_eq_true rfl, Nat.le_of_ble_eq_true rfl⟩ hK hw24 hA [0, 1] [2, 3, 4, 5, 6, 7, 8] [7, 8, 0, 1, 2, 3, 4, 5, 6] rfl rfl rfl rfl rfl (by decide) rfl rfl rfl 0 rfl rfl rfl rfl hl17.1 rfl rfl (Nat.le_of_ble_eq_true rfl) dX10_append_82 ⟨Nat.zero_le _, Nat.zero_le _⟩ (fun H32 locs32 hw32 => ?_)
            clear hw24 H24 locs24
            refine lv_if_eq (tgt := 117) hx hb dX10_append_85 (by decide) (fun c_33 => ?_) (fun c_33 => ?_)
            · replace hfin := it_t c_33 hfin
              refine lv_bipush (v := (-9 : Int32)) hx hb dX10_append_117 (by decide) ?_
              cases hfin
              rw [hQQ]
              exact ct_iret hx hb hr hlocks hw32.1 hw32.2.1 hw32.2.2 dX10_append_119
            · replace hfin := it_f c_33 hfin
              refine lv_aload_n hx hb dX10_append_88 rfl (lv_at hl17 1 rfl) ?_
              refine lv_iload hx hb dX10_append_89 (lv_at hl17 0 rfl) ?_
              refine lv_iconst (v := (2 : Int32)) hx hb dX10_append_91 (by decide) ?_
              refine lv_iadd hx hb dX10_append_92 ?_
              refine lv_iload_n hx hb dX10_append_93 rfl (lv_at hl17 4 rfl) ?_
              replace hfin := ob5_some hfin
              obtain ⟨r_35, M_writes_36, M_fuse_37, M_down_38, M_disk_39, hE_34, hfin⟩ := hfin
              refine ctV (a := aM) (As := [.int (((1923 : Int32) + ((4 : Int32) * M_logged)) + (2 : Int32)), .int p2]) (rest := []) (st1 := [.int r_35]) (wc := [oX10 aM (0 : Int32) M_series M_most M_ratio aMdisk M_writes_28 M_fuse_29 M_down_30 M_recovers M_looks M_unpacked aMits aMmany aMplace aMlength aMtimes aMvalues aMorder M_chunks M_epoch M_side aMheadOf aMheadTime aMheadValue M_logged aMnext aMisNew M_nexts aMcursorTime aMcursorValue M_hasCursor_3 M_cursorMany_4 M_cursorAt_5 aMmade M_bits M_from M_askMany M_askLeast M_askGreatest M_askSum, rI aMdisk cI 4096 M_disk_31]) (w1 := [oX10 aM (0 : Int32) M_series M_most M_ratio aMdisk M_writes_36 M_fuse_37 M_down_38 M_recovers M_looks M_unpacked aMits aMmany aMplace aMlength aMtimes aMvalues aMorder M_chunks M_epoch M_side aMheadOf aMheadTime aMheadValue M_logged aMnext aMisNew M_nexts aMcursorTime aMcursorValue M_hasCursor_3 M_cursorMany_4 M_cursorAt_5 aMmade M_bits M_from M_askMany M_askLeast M_askGreatest M_askSum, rI aMdisk cI 4096 M_disk_39]) (wr := [rI aMits cI 240 M_its, rI aMmany cI 240 M_many, rI aMtimes cI 15360 M_times, rI aMorder cI 96 M_order, rI aMheadOf cI 128 M_headOf, rI aMheadTime cI 128 M_headTime, rI aMheadValue cI 128 M_headValue]) (wb := [oX10 aM (0 : Int32) M_series M_most M_ratio aMdisk M_writes_36 M_fuse_37 M_down_38 M_recovers M_looks M_unpacked aMits aMmany aMplace aMlength aMtimes aMvalues aMorder M_chunks M_epoch M_side aMheadOf aMheadTime aMheadValue M_logged aMnext aMisNew M_nexts aMcursorTime aMcursorValue M_hasCursor_3 M_cursorMany_4 M_cursorAt_5 aMmade M_bits M_from M_askMany M_askLeast M_askGreatest M_askSum, rI aMdisk cI 4096 M_disk_39, rI aMits cI 240 M_its, rI aMmany cI 240 M_many, rI aMtimes cI 15360 M_times, rI aMorder cI 96 M_order, rI aMheadOf cI 128 M_headOf, rI aMheadTime cI 128 M_headTime, rI aMheadValue cI 128 M_headValue]) (v := (some (.int r_35))) hx hb hml hown htc hN (c_X10_write l G cI cZ cJ aM aMdisk aMits aMmany aMplace aMlength aMtimes aMvalues aMorder aMheadOf aMheadTime aMheadValue aMnext aMisNew aMcursorTime aMcursorValue aMmade (0 : Int32) M_series M_most M_ratio M_writes_28 M_fuse_29 M_down_30 M_recovers M_looks M_unpacked M_chunks M_epoch M_side M_logged M_nexts M_hasCursor_3 M_cursorMany_4 M_cursorAt_5 M_bits M_from M_askMany M_askLeast M_askGreatest M_askSum M_disk_31 (((1923 : Int32) + ((4 : Int32) * M_logged)) + (2 : Int32)) p2 hE_34) mw_1088 mw_1090 mp_37 mw_12 mw_1091 hd_X10_write ⟨rfl, rfl⟩ ⟨Nat.le_of_ble_eq_true rfl, Nat.le_of_ble_eq_true rfl⟩ hK hw32 hA [0, 1] [2, 3, 4, 5, 6, 7, 8] [7, 8, 0, 1, 2, 3, 4, 5, 6] rfl rfl rfl rfl rfl (by decide) rfl rfl rfl 0 rfl rfl rfl rfl hl17.1 rfl rfl (Nat.le_of_ble_eq_true rfl) dX10_append_94 ⟨Nat.zero_le _, Nat.zero_le _⟩ (fun H40 locs40 hw40 => ?_)
              clear hw32 H32 locs32
              refine lv_if_eq (tgt := 117) hx hb dX10_append_97 (by decide) (fun c_41 => ?_) (fun c_41 => ?_)
              · replace hfin := it_t c_41 hfin
                refine lv_bipush (v := (-9 : Int32)) hx hb dX10_append_117 (by decide) ?_
                cases hfin
                rw [hQQ]
                exact ct_iret hx hb hr hlocks hw40.1 hw40.2.1 hw40.2.2 dX10_append_119
              · replace hfin := it_f c_41 hfin
                refine lv_aload_n hx hb dX10_append_100 rfl (lv_at hl17 1 rfl) ?_
                refine lv_iload hx hb dX10_append_101 (lv_at hl17 0 rfl) ?_
                refine lv_iconst (v := (3 : Int32)) hx hb dX10_append_103 (by decide) ?_
                refine lv_iadd hx hb dX10_append_104 ?_
                refine lv_aload_n hx hb dX10_append_105 rfl (lv_at hl17 1 rfl) ?_
                refine va_get (D := G) (ci := 10) (v := .int M_epoch) (C := RX10) (T := TX10) (N := 40) hx hb htc iX10 hown hK hw40.1 0 rfl rfl 19 (by decide) (htc _ mw_966) (fun _ h9 => h9) rfl dX10_append_106 ?_
                refine lv_iconst (v := (1 : Int32)) hx hb dX10_append_109 (by decide) ?_
                refine lv_iadd hx hb dX10_append_110 ?_
                replace hfin := ob5_some hfin
                obtain ⟨r_43, M_writes_44, M_fuse_45, M_down_46, M_disk_47, hE_42, hfin⟩ := hfin
                refine ctV (a := aM) (As := [.int (((1923 : Int32) + ((4 : Int32) * M_logged)) + (3 : Int32)), .int (M_epoch + (1 : Int32))]) (rest := []) (st1 := [.int r_43]) (wc := [oX10 aM (0 : Int32) M_series M_most M_ratio aMdisk M_writes_36 M_fuse_37 M_down_38 M_recovers M_looks M_unpacked aMits aMmany aMplace aMlength aMtimes aMvalues aMorder M_chunks M_epoch M_side aMheadOf aMheadTime aMheadValue M_logged aMnext aMisNew M_nexts aMcursorTime aMcursorValue M_hasCursor_3 M_cursorMany_4 M_cursorAt_5 aMmade M_bits M_from M_askMany M_askLeast M_askGreatest M_askSum, rI aMdisk cI 4096 M_disk_39]) (w1 := [oX10 aM (0 : Int32) M_series M_most M_ratio aMdisk M_writes_44 M_fuse_45 M_down_46 M_recovers M_looks M_unpacked aMits aMmany aMplace aMlength aMtimes aMvalues aMorder M_chunks M_epoch M_side aMheadOf aMheadTime aMheadValue M_logged aMnext aMisNew M_nexts aMcursorTime aMcursorValue M_hasCursor_3 M_cursorMany_4 M_cursorAt_5 aMmade M_bits M_from M_askMany M_askLeast M_askGreatest M_askSum, rI aMdisk cI 4096 M_disk_47]) (wr := [rI aMits cI 240 M_its, rI aMmany cI 240 M_many, rI aMtimes cI 15360 M_times, rI aMorder cI 96 M_order, rI aMheadOf cI 128 M_headOf, rI aMheadTime cI 128 M_headTime, rI aMheadValue cI 128 M_headValue]) (wb := [oX10 aM (0 : Int32) M_series M_most M_ratio aMdisk M_writes_44 M_fuse_45 M_down_46 M_recovers M_looks M_unpacked aMits aMmany aMplace aMlength aMtimes aMvalues aMorder M_chunks M_epoch M_side aMheadOf aMheadTime aMheadValue M_logged aMnext aMisNew M_nexts aMcursorTime aMcursorValue M_hasCursor_3 M_cursorMany_4 M_cursorAt_5 aMmade M_bits M_from M_askMany M_askLeast M_askGreatest M_askSum, rI aMdisk cI 4096 M_disk_47, rI aMits cI 240 M_its, rI aMmany cI 240 M_many, rI aMtimes cI 15360 M_times, rI aMorder cI 96 M_order, rI aMheadOf cI 128 M_headOf, rI aMheadTime cI 128 M_headTime, rI aMheadValue cI 128 M_headValue]) (v := (some (.int r_43))) hx hb hml hown htc hN (c_X10_write l G cI cZ cJ aM aMdisk aMits aMmany aMplace aMlength aMtimes aMvalues aMorder aMheadOf aMheadTime aMheadValue aMnext aMisNew aMcursorTime aMcursorValue aMmade (0 : Int32) M_series M_most M_ratio M_writes_36 M_fuse_37 M_down_38 M_recovers M_looks M_unpacked M_chunks M_epoch M_side M_logged M_nexts M_hasCursor_3 M_cursorMany_4 M_cursorAt_5 M_bits M_from M_askMany M_askLeast M_askGreatest M_askSum M_disk_39 (((1923 : Int32) + ((4 : Int32) * M_logged)) + (3 : Int32)) (M_epoch + (1 : Int32)) hE_42) mw_1088 mw_1090 mp_37 mw_12 mw_1091 hd_X10_write ⟨rfl, rfl⟩ ⟨Nat.le_of_ble_eq_true rfl, Nat.le_of_ble_eq_true rfl⟩ hK hw40 hA [0, 1] [2, 3, 4, 5, 6, 7, 8] [7, 8, 0, 1, 2, 3, 4, 5, 6] rfl rfl rfl rfl rfl (by decide) rfl rfl rfl 0 rfl rfl rfl rfl hl17.1 rfl rfl (Nat.le_of_ble_eq_true rfl) dX10_append_111 ⟨Nat.zero_le _, Nat.zero_le _⟩ (fun H48 locs48 hw48 => ?_)
                clear hw40 H40 locs40
                refine lv_if_ne (tgt := 120) hx hb dX10_append_114 (by decide) (fun c_49 => ?_) (fun c_49 => ?_)
                · replace hfin := it_f c_49 hfin
                  refine lv_aload_n hx hb dX10_append_120 rfl (lv_at hl17 1 rfl) ?_
                  refine va_get (D := G) (ci := 10) (v := .ref aMheadOf) (C := RX10) (T := TX10) (N := 40) hx hb htc iX10 hown hK hw48.1 0 rfl rfl 21 (by decide) (htc _ mw_968) (fun _ h9 => h9) rfl dX10_append_121 ?_
                  refine lv_aload_n hx hb dX10_append_124 rfl (lv_at hl17 1 rfl) ?_
                  refine va_get (D := G) (ci := 10) (v := .int M_logged) (C := RX10) (T := TX10) (N := 40) hx hb htc iX10 hown hK hw48.1 0 rfl rfl 24 (by decide) (htc _ mw_971) (fun _ h9 => h9) rfl dX10_append_125 ?_
                  refine lv_iload_n hx hb dX10_append_128 rfl (lv_at hl17 2 rfl) ?_
                  replace hfin := ckb_some hfin
                  obtain ⟨hin_50, hfin⟩ := hfin
                  refine va_iast hx hb hK hw48.1 hw48.2.1 hw48.2.2 6 0 rfl rfl hin_50 dX10_append_129 (fun H51 locs51 hP hD hS => ?_)
                  have hw51 : wS G A s H51 locs51 [oX10 aM (0 : Int32) M_series M_most M_ratio aMdisk M_writes_44 M_fuse_45 M_down_46 M_recovers M_looks M_unpacked aMits aMmany aMplace aMlength aMtimes aMvalues aMorder M_chunks M_epoch M_side aMheadOf aMheadTime aMheadValue M_logged aMnext aMisNew M_nexts aMcursorTime aMcursorValue M_hasCursor_3 M_cursorMany_4 M_cursorAt_5 aMmade M_bits M_from M_askMany M_askLeast M_askGreatest M_askSum, rI aMdisk cI 4096 M_disk_47, rI aMits cI 240 M_its, rI aMmany cI 240 M_many, rI aMtimes cI 15360 M_times, rI aMorder cI 96 M_order, rI aMheadOf cI 128 (upd M_headOf (Int32.toNatClampNeg M_logged) p0), rI aMheadTime cI 128 M_headTime, rI aMheadValue cI 128 M_headValue] := ⟨hP, hD, hS⟩
                  clear hP hD hS hw48 H48 locs48
                  refine lv_aload_n hx hb dX10_append_130 rfl (lv_at hl17 1 rfl) ?_
                  refine va_get (D := G) (ci := 10) (v := .ref aMheadTime) (C := RX10) (T := TX10) (N := 40) hx hb htc iX10 hown hK hw51.1 0 rfl rfl 22 (by decide) (htc _ mw_969) (fun _ h9 => h9) rfl dX10_append_131 ?_
                  refine lv_aload_n hx hb dX10_append_134 rfl (lv_at hl17 1 rfl) ?_
                  refine va_get (D := G) (ci := 10) (v := .int M_logged) (C := RX10) (T := TX10) (N := 40) hx hb htc iX10 hown hK hw51.1 0 rfl rfl 24 (by decide) (htc _ mw_971) (fun _ h9 => h9) rfl dX10_append_135 ?_
                  refine lv_iload_n hx hb dX10_append_138 rfl (lv_at hl17 3 rfl) ?_
                  replace hfin := ckb_some hfin
                  obtain ⟨hin_52, hfin⟩ := hfin
                  refine va_iast hx hb hK hw51.1 hw51.2.1 hw51.2.2 7 0 rfl rfl hin_52 dX10_append_139 (fun H53 locs53 hP hD hS => ?_)
                  have hw53 : wS G A s H53 locs53 [oX10 aM (0 : Int32) M_series M_most M_ratio aMdisk M_writes_44 M_fuse_45 M_down_46 M_recovers M_looks M_unpacked aMits aMmany aMplace aMlength aMtimes aMvalues aMorder M_chunks M_epoch M_side aMheadOf aMheadTime aMheadValue M_logged aMnext aMisNew M_nexts aMcursorTime aMcursorValue M_hasCursor_3 M_cursorMany_4 M_cursorAt_5 aMmade M_bits M_from M_askMany M_askLeast M_askGreatest M_askSum, rI aMdisk cI 4096 M_disk_47, rI aMits cI 240 M_its, rI aMmany cI 240 M_many, rI aMtimes cI 15360 M_times, rI aMorder cI 96 M_order, rI aMheadOf cI 128 (upd M_headOf (Int32.toNatClampNeg M_logged) p0), rI aMheadTime cI 128 (upd M_headTime (Int32.toNatClampNeg M_logged) p1), rI aMheadValue cI 128 M_headValue] := ⟨hP, hD, hS⟩
                  clear hP hD hS hw51 H51 locs51
                  refine lv_aload_n hx hb dX10_append_140 rfl (lv_at hl17 1 rfl) ?_
                  refine va_get (D := G) (ci := 10) (v := .ref aMheadValue) (C := RX10) (T := TX10) (N := 40) hx hb htc iX10 hown hK hw53.1 0 rfl rfl 23 (by decide) (htc _ mw_970) (fun _ h9 => h9) rfl dX10_append_141 ?_
                  refine lv_aload_n hx hb dX10_append_144 rfl (lv_at hl17 1 rfl) ?_
                  refine va_get (D := G) (ci := 10) (v := .int M_logged) (C := RX10) (T := TX10) (N := 40) hx hb htc iX10 hown hK hw53.1 0 rfl rfl 24 (by decide) (htc _ mw_971) (fun _ h9 => h9) rfl dX10_append_145 ?_
                  refine lv_iload_n hx hb dX10_append_148 rfl (lv_at hl17 4 rfl) ?_
                  replace hfin := ckb_some hfin
                  obtain ⟨hin_54, hfin⟩ := hfin
                  refine va_iast hx hb hK hw53.1 hw53.2.1 hw53.2.2 8 0 rfl rfl hin_54 dX10_append_149 (fun H55 locs55 hP hD hS => ?_)
                  have hw55 : wS G A s H55 locs55 [oX10 aM (0 : Int32) M_series M_most M_ratio aMdisk M_writes_44 M_fuse_45 M_down_46 M_recovers M_looks M_unpacked aMits aMmany aMplace aMlength aMtimes aMvalues aMorder M_chunks M_epoch M_side aMheadOf aMheadTime aMheadValue M_logged aMnext aMisNew M_nexts aMcursorTime aMcursorValue M_hasCursor_3 M_cursorMany_4 M_cursorAt_5 aMmade M_bits M_from M_askMany M_askLeast M_askGreatest M_askSum, rI aMdisk cI 4096 M_disk_47, rI aMits cI 240 M_its, rI aMmany cI 240 M_many, rI aMtimes cI 15360 M_times, rI aMorder cI 96 M_order, rI aMheadOf cI 128 (upd M_headOf (Int32.toNatClampNeg M_logged) p0), rI aMheadTime cI 128 (upd M_headTime (Int32.toNatClampNeg M_logged) p1), rI aMheadValue cI 128 (upd M_headValue (Int32.toNatClampNeg M_logged) p2)] := ⟨hP, hD, hS⟩
                  clear hP hD hS hw53 H53 locs53
                  refine lv_aload_n hx hb dX10_append_150 rfl (lv_at hl17 1 rfl) ?_
                  refine lv_dup hx hb dX10_append_151 rfl ?_
                  refine va_get (D := G) (ci := 10) (v := .int M_logged) (C := RX10) (T := TX10) (N := 40) hx hb htc iX10 hown hK hw55.1 0 rfl rfl 24 (by decide) (htc _ mw_971) (fun _ h9 => h9) rfl dX10_append_152 ?_
                  refine lv_iconst (v := (1 : Int32)) hx hb dX10_append_155 (by decide) ?_
                  refine lv_iadd hx hb dX10_append_156 ?_
                  refine va_put (D := G) (ci := 10) (v := .int (M_logged + (1 : Int32))) (ty := .int) (C := RX10) (T := TX10) (N := 40) hx hb htc iX10 tyX10 tyX10_ok nmX10 hown hK hw55.1 hw55.2.1 hw55.2.2 0 rfl rfl 24 (by decide) (htc _ mw_971) (fun _ h9 => h9) rfl (tyX10_ok 24 (by decide)) rfl rfl (Nat.le_of_ble_eq_true rfl) dX10_append_157 (fun H56 locs56 hP hD hS => ?_)
                  have hw56 : wS G A s H56 locs56 [oX10 aM (0 : Int32) M_series M_most M_ratio aMdisk M_writes_44 M_fuse_45 M_down_46 M_recovers M_looks M_unpacked aMits aMmany aMplace aMlength aMtimes aMvalues aMorder M_chunks M_epoch M_side aMheadOf aMheadTime aMheadValue (M_logged + (1 : Int32)) aMnext aMisNew M_nexts aMcursorTime aMcursorValue M_hasCursor_3 M_cursorMany_4 M_cursorAt_5 aMmade M_bits M_from M_askMany M_askLeast M_askGreatest M_askSum, rI aMdisk cI 4096 M_disk_47, rI aMits cI 240 M_its, rI aMmany cI 240 M_many, rI aMtimes cI 15360 M_times, rI aMorder cI 96 M_order, rI aMheadOf cI 128 (upd M_headOf (Int32.toNatClampNeg M_logged) p0), rI aMheadTime cI 128 (upd M_headTime (Int32.toNatClampNeg M_logged) p1), rI aMheadValue cI 128 (upd M_headValue (Int32.toNatClampNeg M_logged) p2)] := ⟨hP, hD, hS⟩
                  clear hP hD hS hw55 H55 locs55
                  refine lv_iconst (v := (0 : Int32)) hx hb dX10_append_160 (by decide) ?_
                  cases hfin
                  rw [hQQ]
                  exact ct_iret hx hb hr hlocks hw56.1 hw56.2.1 hw56.2.2 dX10_append_161
                · replace hfin := it_t c_49 hfin
                  refine lv_bipush (v := (-9 : Int32)) hx hb dX10_append_117 (by decide) ?_
                  cases hfin
                  rw [hQQ]
                  exact ct_iret hx hb hr hlocks hw48.1 hw48.2.1 hw48.2.2 dX10_append_119
        · replace hfin := it_t c_16 hfin
          refine lv_bipush (v := (-3 : Int32)) hx hb dX10_append_51 (by decide) ?_
          cases hfin
          rw [hQQ]
          exact ct_iret hx hb hr hlocks hw14.1 hw14.2.1 hw14.2.2 dX10_append_53
      · replace hfin := it_t c_15 hfin
        refine lv_iconst (v := (-1 : Int32)) hx hb dX10_append_39 (by decide) ?_
        cases hfin
        rw [hQQ]
        exact ct_iret hx hb hr hlocks hw14.1 hw14.2.1 hw14.2.2 dX10_append_40
    · replace hfin := it_t c_11 hfin
      refine lv_bipush (v := (-2 : Int32)) hx hb dX10_append_27 (by decide) ?_
      cases hfin
      rw [hQQ]
      exact ct_iret hx hb hr hlocks hw10.1 hw10.2.1 hw10.2.2 dX10_append_29
  · replace hfin := it_f c_7 hfin
    refine lv_bipush (v := (-9 : Int32)) hx hb dX10_append_16 (by decide) ?_
    cases hfin
    rw [hQQ]
    exact ct_iret hx hb hr hlocks hw6.1 hw6.2.1 hw6.2.2 dX10_append_18
