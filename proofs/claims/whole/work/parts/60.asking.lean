theorem dX0_looks_0 : decode cX0_looks 0 = .ok (.aload_n 0, 1) := by decide +kernel
theorem dX0_looks_1 : decode cX0_looks 1 = .ok (.getfield 21, 3) := by decide +kernel
theorem dX0_looks_4 : decode cX0_looks 4 = .ok (.ireturn, 1) := by decide +kernel
theorem dX0_unpacked_0 : decode cX0_unpacked 0 = .ok (.aload_n 0, 1) := by decide +kernel
theorem dX0_unpacked_1 : decode cX0_unpacked 1 = .ok (.getfield 25, 3) := by decide +kernel
theorem dX0_unpacked_4 : decode cX0_unpacked 4 = .ok (.ireturn, 1) := by decide +kernel
theorem dX0_summaryOf_0 : decode cX0_summaryOf 0 = .ok (.aload_n 0, 1) := by decide +kernel
theorem dX0_summaryOf_1 : decode cX0_summaryOf 1 = .ok (.getfield 18, 3) := by decide +kernel
theorem dX0_summaryOf_4 : decode cX0_summaryOf 4 = .ok (.invokevirtual 43, 3) := by decide +kernel
theorem dX0_summaryOf_7 : decode cX0_summaryOf 7 = .ok (.iload_n 1, 1) := by decide +kernel
theorem dX0_summaryOf_8 : decode cX0_summaryOf 8 = .ok (.istore_n 3, 1) := by decide +kernel
theorem dX0_summaryOf_9 : decode cX0_summaryOf 9 = .ok (.iload_n 3, 1) := by decide +kernel
theorem dX0_summaryOf_10 : decode cX0_summaryOf 10 = .ok (.iload_n 2, 1) := by decide +kernel
theorem dX0_summaryOf_11 : decode cX0_summaryOf 11 = .ok (.if_icmp .ge 21, 3) := by decide +kernel
theorem dX0_summaryOf_14 : decode cX0_summaryOf 14 = .ok (.aload_n 0, 1) := by decide +kernel
theorem dX0_summaryOf_15 : decode cX0_summaryOf 15 = .ok (.getfield 18, 3) := by decide +kernel
theorem dX0_summaryOf_18 : decode cX0_summaryOf 18 = .ok (.aload_n 0, 1) := by decide +kernel
theorem dX0_summaryOf_19 : decode cX0_summaryOf 19 = .ok (.getfield 28, 3) := by decide +kernel
theorem dX0_summaryOf_22 : decode cX0_summaryOf 22 = .ok (.iload_n 3, 1) := by decide +kernel
theorem dX0_summaryOf_23 : decode cX0_summaryOf 23 = .ok (.invokevirtual 46, 3) := by decide +kernel
theorem dX0_summaryOf_26 : decode cX0_summaryOf 26 = .ok (.iinc 3 1, 3) := by decide +kernel
theorem dX0_summaryOf_29 : decode cX0_summaryOf 29 = .ok (.goto (-20), 3) := by decide +kernel
theorem dX0_summaryOf_32 : decode cX0_summaryOf 32 = .ok (.aload_n 0, 1) := by decide +kernel
theorem dX0_summaryOf_33 : decode cX0_summaryOf 33 = .ok (.getfield 18, 3) := by decide +kernel
theorem dX0_summaryOf_36 : decode cX0_summaryOf 36 = .ok (.areturn, 1) := by decide +kernel
theorem dX0_ask_0 : decode cX0_ask 0 = .ok (.aload_n 0, 1) := by decide +kernel
theorem dX0_ask_1 : decode cX0_ask 1 = .ok (.getfield 28, 3) := by decide +kernel
theorem dX0_ask_4 : decode cX0_ask 4 = .ok (.iload_n 1, 1) := by decide +kernel
theorem dX0_ask_5 : decode cX0_ask 5 = .ok (.invokevirtual 50, 3) := by decide +kernel
theorem dX0_ask_8 : decode cX0_ask 8 = .ok (.istore 4, 2) := by decide +kernel
theorem dX0_ask_10 : decode cX0_ask 10 = .ok (.aload_n 0, 1) := by decide +kernel
theorem dX0_ask_11 : decode cX0_ask 11 = .ok (.iconst 0, 1) := by decide +kernel
theorem dX0_ask_12 : decode cX0_ask 12 = .ok (.putfield 21, 3) := by decide +kernel
theorem dX0_ask_15 : decode cX0_ask 15 = .ok (.aload_n 0, 1) := by decide +kernel
theorem dX0_ask_16 : decode cX0_ask 16 = .ok (.iconst 0, 1) := by decide +kernel
theorem dX0_ask_17 : decode cX0_ask 17 = .ok (.putfield 25, 3) := by decide +kernel
theorem dX0_ask_20 : decode cX0_ask 20 = .ok (.aload_n 0, 1) := by decide +kernel
theorem dX0_ask_21 : decode cX0_ask 21 = .ok (.getfield 12, 3) := by decide +kernel
theorem dX0_ask_24 : decode cX0_ask 24 = .ok (.invokevirtual 43, 3) := by decide +kernel
theorem dX0_ask_27 : decode cX0_ask 27 = .ok (.iconst 2, 1) := by decide +kernel
theorem dX0_ask_28 : decode cX0_ask 28 = .ok (.aload_n 0, 1) := by decide +kernel
theorem dX0_ask_29 : decode cX0_ask 29 = .ok (.getfield 40, 3) := by decide +kernel
theorem dX0_ask_32 : decode cX0_ask 32 = .ok (.invokestatic 56, 3) := by decide +kernel
theorem dX0_ask_35 : decode cX0_ask 35 = .ok (.istore 5, 2) := by decide +kernel
theorem dX0_ask_37 : decode cX0_ask 37 = .ok (.aload_n 0, 1) := by decide +kernel
theorem dX0_ask_38 : decode cX0_ask 38 = .ok (.getfield 28, 3) := by decide +kernel
theorem dX0_ask_41 : decode cX0_ask 41 = .ok (.iload_n 1, 1) := by decide +kernel
theorem dX0_ask_42 : decode cX0_ask 42 = .ok (.invokevirtual 62, 3) := by decide +kernel
theorem dX0_ask_45 : decode cX0_ask 45 = .ok (.istore 6, 2) := by decide +kernel
theorem dX0_ask_47 : decode cX0_ask 47 = .ok (.iload 6, 2) := by decide +kernel
theorem dX0_ask_49 : decode cX0_ask 49 = .ok (.iload 4, 2) := by decide +kernel
theorem dX0_ask_51 : decode cX0_ask 51 = .ok (.if_icmp .ge 90, 3) := by decide +kernel
theorem dX0_ask_54 : decode cX0_ask 54 = .ok (.iload 6, 2) := by decide +kernel
theorem dX0_ask_56 : decode cX0_ask 56 = .ok (.iload 5, 2) := by decide +kernel
theorem dX0_ask_58 : decode cX0_ask 58 = .ok (.iadd, 1) := by decide +kernel
theorem dX0_ask_59 : decode cX0_ask 59 = .ok (.iload 4, 2) := by decide +kernel
theorem dX0_ask_61 : decode cX0_ask 61 = .ok (.invokestatic 65, 3) := by decide +kernel
theorem dX0_ask_64 : decode cX0_ask 64 = .ok (.istore 7, 2) := by decide +kernel
theorem dX0_ask_66 : decode cX0_ask 66 = .ok (.aload_n 0, 1) := by decide +kernel
theorem dX0_ask_67 : decode cX0_ask 67 = .ok (.iload 6, 2) := by decide +kernel
theorem dX0_ask_69 : decode cX0_ask 69 = .ok (.iload 7, 2) := by decide +kernel
theorem dX0_ask_71 : decode cX0_ask 71 = .ok (.invokevirtual 68, 3) := by decide +kernel
theorem dX0_ask_74 : decode cX0_ask 74 = .ok (.astore 8, 2) := by decide +kernel
theorem dX0_ask_76 : decode cX0_ask 76 = .ok (.aload_n 0, 1) := by decide +kernel
theorem dX0_ask_77 : decode cX0_ask 77 = .ok (.dup, 1) := by decide +kernel
theorem dX0_ask_78 : decode cX0_ask 78 = .ok (.getfield 21, 3) := by decide +kernel
theorem dX0_ask_81 : decode cX0_ask 81 = .ok (.iconst 1, 1) := by decide +kernel
theorem dX0_ask_82 : decode cX0_ask 82 = .ok (.iadd, 1) := by decide +kernel
theorem dX0_ask_83 : decode cX0_ask 83 = .ok (.putfield 21, 3) := by decide +kernel
theorem dX0_ask_86 : decode cX0_ask 86 = .ok (.aload 8, 2) := by decide +kernel
theorem dX0_ask_88 : decode cX0_ask 88 = .ok (.iload_n 2, 1) := by decide +kernel
theorem dX0_ask_89 : decode cX0_ask 89 = .ok (.iload_n 3, 1) := by decide +kernel
theorem dX0_ask_90 : decode cX0_ask 90 = .ok (.invokevirtual 72, 3) := by decide +kernel
theorem dX0_ask_93 : decode cX0_ask 93 = .ok (.ifCond .eq 6, 3) := by decide +kernel
theorem dX0_ask_96 : decode cX0_ask 96 = .ok (.goto 35, 3) := by decide +kernel
theorem dX0_ask_99 : decode cX0_ask 99 = .ok (.aload 8, 2) := by decide +kernel
theorem dX0_ask_101 : decode cX0_ask 101 = .ok (.iload_n 2, 1) := by decide +kernel
theorem dX0_ask_102 : decode cX0_ask 102 = .ok (.iload_n 3, 1) := by decide +kernel
theorem dX0_ask_103 : decode cX0_ask 103 = .ok (.invokevirtual 76, 3) := by decide +kernel
theorem dX0_ask_106 : decode cX0_ask 106 = .ok (.ifCond .eq 15, 3) := by decide +kernel
theorem dX0_ask_109 : decode cX0_ask 109 = .ok (.aload_n 0, 1) := by decide +kernel
theorem dX0_ask_110 : decode cX0_ask 110 = .ok (.getfield 12, 3) := by decide +kernel
theorem dX0_ask_113 : decode cX0_ask 113 = .ok (.aload 8, 2) := by decide +kernel
theorem dX0_ask_115 : decode cX0_ask 115 = .ok (.invokevirtual 79, 3) := by decide +kernel
theorem dX0_ask_118 : decode cX0_ask 118 = .ok (.goto 13, 3) := by decide +kernel
theorem dX0_ask_121 : decode cX0_ask 121 = .ok (.aload_n 0, 1) := by decide +kernel
theorem dX0_ask_122 : decode cX0_ask 122 = .ok (.iload 6, 2) := by decide +kernel
theorem dX0_ask_124 : decode cX0_ask 124 = .ok (.iload 7, 2) := by decide +kernel
theorem dX0_ask_126 : decode cX0_ask 126 = .ok (.iload_n 2, 1) := by decide +kernel
theorem dX0_ask_127 : decode cX0_ask 127 = .ok (.iload_n 3, 1) := by decide +kernel
theorem dX0_ask_128 : decode cX0_ask 128 = .ok (.invokevirtual 83, 3) := by decide +kernel
theorem dX0_ask_131 : decode cX0_ask 131 = .ok (.iload 6, 2) := by decide +kernel
theorem dX0_ask_133 : decode cX0_ask 133 = .ok (.iload 5, 2) := by decide +kernel
theorem dX0_ask_135 : decode cX0_ask 135 = .ok (.iadd, 1) := by decide +kernel
theorem dX0_ask_136 : decode cX0_ask 136 = .ok (.istore 6, 2) := by decide +kernel
theorem dX0_ask_138 : decode cX0_ask 138 = .ok (.goto (-91), 3) := by decide +kernel
theorem dX0_ask_141 : decode cX0_ask 141 = .ok (.aload_n 0, 1) := by decide +kernel
theorem dX0_ask_142 : decode cX0_ask 142 = .ok (.iload_n 1, 1) := by decide +kernel
theorem dX0_ask_143 : decode cX0_ask 143 = .ok (.iload_n 2, 1) := by decide +kernel
theorem dX0_ask_144 : decode cX0_ask 144 = .ok (.iload_n 3, 1) := by decide +kernel
theorem dX0_ask_145 : decode cX0_ask 145 = .ok (.invokevirtual 87, 3) := by decide +kernel
theorem dX0_ask_148 : decode cX0_ask 148 = .ok (.aload_n 0, 1) := by decide +kernel
theorem dX0_ask_149 : decode cX0_ask 149 = .ok (.getfield 12, 3) := by decide +kernel
theorem dX0_ask_152 : decode cX0_ask 152 = .ok (.areturn, 1) := by decide +kernel
theorem dX0_askEntries_0 : decode cX0_askEntries 0 = .ok (.iload_n 1, 1) := by decide +kernel
theorem dX0_askEntries_1 : decode cX0_askEntries 1 = .ok (.istore 5, 2) := by decide +kernel
theorem dX0_askEntries_3 : decode cX0_askEntries 3 = .ok (.iload 5, 2) := by decide +kernel
theorem dX0_askEntries_5 : decode cX0_askEntries 5 = .ok (.iload_n 2, 1) := by decide +kernel
theorem dX0_askEntries_6 : decode cX0_askEntries 6 = .ok (.if_icmp .ge 143, 3) := by decide +kernel
theorem dX0_askEntries_9 : decode cX0_askEntries 9 = .ok (.aload_n 0, 1) := by decide +kernel
theorem dX0_askEntries_10 : decode cX0_askEntries 10 = .ok (.iload 5, 2) := by decide +kernel
theorem dX0_askEntries_12 : decode cX0_askEntries 12 = .ok (.iload 5, 2) := by decide +kernel
theorem dX0_askEntries_14 : decode cX0_askEntries 14 = .ok (.iconst 1, 1) := by decide +kernel
theorem dX0_askEntries_15 : decode cX0_askEntries 15 = .ok (.iadd, 1) := by decide +kernel
theorem dX0_askEntries_16 : decode cX0_askEntries 16 = .ok (.invokevirtual 68, 3) := by decide +kernel
theorem dX0_askEntries_19 : decode cX0_askEntries 19 = .ok (.astore 6, 2) := by decide +kernel
theorem dX0_askEntries_21 : decode cX0_askEntries 21 = .ok (.aload_n 0, 1) := by decide +kernel
theorem dX0_askEntries_22 : decode cX0_askEntries 22 = .ok (.dup, 1) := by decide +kernel
theorem dX0_askEntries_23 : decode cX0_askEntries 23 = .ok (.getfield 21, 3) := by decide +kernel
theorem dX0_askEntries_26 : decode cX0_askEntries 26 = .ok (.iconst 1, 1) := by decide +kernel
theorem dX0_askEntries_27 : decode cX0_askEntries 27 = .ok (.iadd, 1) := by decide +kernel
theorem dX0_askEntries_28 : decode cX0_askEntries 28 = .ok (.putfield 21, 3) := by decide +kernel
theorem dX0_askEntries_31 : decode cX0_askEntries 31 = .ok (.aload 6, 2) := by decide +kernel
theorem dX0_askEntries_33 : decode cX0_askEntries 33 = .ok (.iload_n 3, 1) := by decide +kernel
theorem dX0_askEntries_34 : decode cX0_askEntries 34 = .ok (.iload 4, 2) := by decide +kernel
theorem dX0_askEntries_36 : decode cX0_askEntries 36 = .ok (.invokevirtual 72, 3) := by decide +kernel
theorem dX0_askEntries_39 : decode cX0_askEntries 39 = .ok (.ifCond .eq 6, 3) := by decide +kernel
theorem dX0_askEntries_42 : decode cX0_askEntries 42 = .ok (.goto 101, 3) := by decide +kernel
theorem dX0_askEntries_45 : decode cX0_askEntries 45 = .ok (.aload 6, 2) := by decide +kernel
theorem dX0_askEntries_47 : decode cX0_askEntries 47 = .ok (.iload_n 3, 1) := by decide +kernel
theorem dX0_askEntries_48 : decode cX0_askEntries 48 = .ok (.iload 4, 2) := by decide +kernel
theorem dX0_askEntries_50 : decode cX0_askEntries 50 = .ok (.invokevirtual 76, 3) := by decide +kernel
theorem dX0_askEntries_53 : decode cX0_askEntries 53 = .ok (.ifCond .eq 15, 3) := by decide +kernel
theorem dX0_askEntries_56 : decode cX0_askEntries 56 = .ok (.aload_n 0, 1) := by decide +kernel
theorem dX0_askEntries_57 : decode cX0_askEntries 57 = .ok (.getfield 12, 3) := by decide +kernel
theorem dX0_askEntries_60 : decode cX0_askEntries 60 = .ok (.aload 6, 2) := by decide +kernel
theorem dX0_askEntries_62 : decode cX0_askEntries 62 = .ok (.invokevirtual 79, 3) := by decide +kernel
theorem dX0_askEntries_65 : decode cX0_askEntries 65 = .ok (.goto 78, 3) := by decide +kernel
theorem dX0_askEntries_68 : decode cX0_askEntries 68 = .ok (.aload_n 0, 1) := by decide +kernel
theorem dX0_askEntries_69 : decode cX0_askEntries 69 = .ok (.dup, 1) := by decide +kernel
theorem dX0_askEntries_70 : decode cX0_askEntries 70 = .ok (.getfield 25, 3) := by decide +kernel
theorem dX0_askEntries_73 : decode cX0_askEntries 73 = .ok (.iconst 1, 1) := by decide +kernel
theorem dX0_askEntries_74 : decode cX0_askEntries 74 = .ok (.iadd, 1) := by decide +kernel
theorem dX0_askEntries_75 : decode cX0_askEntries 75 = .ok (.putfield 25, 3) := by decide +kernel
theorem dX0_askEntries_78 : decode cX0_askEntries 78 = .ok (.aload_n 0, 1) := by decide +kernel
theorem dX0_askEntries_79 : decode cX0_askEntries 79 = .ok (.getfield 36, 3) := by decide +kernel
theorem dX0_askEntries_82 : decode cX0_askEntries 82 = .ok (.aload_n 0, 1) := by decide +kernel
theorem dX0_askEntries_83 : decode cX0_askEntries 83 = .ok (.getfield 28, 3) := by decide +kernel
theorem dX0_askEntries_86 : decode cX0_askEntries 86 = .ok (.iload 5, 2) := by decide +kernel
theorem dX0_askEntries_88 : decode cX0_askEntries 88 = .ok (.bipush 8, 2) := by decide +kernel
theorem dX0_askEntries_90 : decode cX0_askEntries 90 = .ok (.invokevirtual 91, 3) := by decide +kernel
theorem dX0_askEntries_93 : decode cX0_askEntries 93 = .ok (.invokevirtual 94, 3) := by decide +kernel
theorem dX0_askEntries_96 : decode cX0_askEntries 96 = .ok (.iconst 0, 1) := by decide +kernel
theorem dX0_askEntries_97 : decode cX0_askEntries 97 = .ok (.istore 7, 2) := by decide +kernel
theorem dX0_askEntries_99 : decode cX0_askEntries 99 = .ok (.iload 7, 2) := by decide +kernel
theorem dX0_askEntries_101 : decode cX0_askEntries 101 = .ok (.aload 6, 2) := by decide +kernel
theorem dX0_askEntries_103 : decode cX0_askEntries 103 = .ok (.getfield 100, 3) := by decide +kernel
theorem dX0_askEntries_106 : decode cX0_askEntries 106 = .ok (.if_icmp .ge 37, 3) := by decide +kernel
theorem dX0_askEntries_109 : decode cX0_askEntries 109 = .ok (.aload_n 0, 1) := by decide +kernel
theorem dX0_askEntries_110 : decode cX0_askEntries 110 = .ok (.getfield 36, 3) := by decide +kernel
theorem dX0_askEntries_113 : decode cX0_askEntries 113 = .ok (.invokevirtual 103, 3) := by decide +kernel
theorem dX0_askEntries_116 : decode cX0_askEntries 116 = .ok (.aload_n 0, 1) := by decide +kernel
theorem dX0_askEntries_117 : decode cX0_askEntries 117 = .ok (.aload_n 0, 1) := by decide +kernel
theorem dX0_askEntries_118 : decode cX0_askEntries 118 = .ok (.getfield 36, 3) := by decide +kernel
theorem dX0_askEntries_121 : decode cX0_askEntries 121 = .ok (.getfield 106, 3) := by decide +kernel
theorem dX0_askEntries_124 : decode cX0_askEntries 124 = .ok (.aload_n 0, 1) := by decide +kernel
theorem dX0_askEntries_125 : decode cX0_askEntries 125 = .ok (.getfield 36, 3) := by decide +kernel
theorem dX0_askEntries_128 : decode cX0_askEntries 128 = .ok (.getfield 109, 3) := by decide +kernel
theorem dX0_askEntries_131 : decode cX0_askEntries 131 = .ok (.iload_n 3, 1) := by decide +kernel
theorem dX0_askEntries_132 : decode cX0_askEntries 132 = .ok (.iload 4, 2) := by decide +kernel
theorem dX0_askEntries_134 : decode cX0_askEntries 134 = .ok (.invokevirtual 112, 3) := by decide +kernel
theorem dX0_askEntries_137 : decode cX0_askEntries 137 = .ok (.iinc 7 1, 3) := by decide +kernel
theorem dX0_askEntries_140 : decode cX0_askEntries 140 = .ok (.goto (-41), 3) := by decide +kernel
theorem dX0_askEntries_143 : decode cX0_askEntries 143 = .ok (.iinc 5 1, 3) := by decide +kernel
theorem dX0_askEntries_146 : decode cX0_askEntries 146 = .ok (.goto (-143), 3) := by decide +kernel
theorem dX0_askEntries_149 : decode cX0_askEntries 149 = .ok (.return_, 1) := by decide +kernel
theorem dX0_askHead_0 : decode cX0_askHead 0 = .ok (.iconst 0, 1) := by decide +kernel
theorem dX0_askHead_1 : decode cX0_askHead 1 = .ok (.istore 4, 2) := by decide +kernel
theorem dX0_askHead_3 : decode cX0_askHead 3 = .ok (.iload 4, 2) := by decide +kernel
theorem dX0_askHead_5 : decode cX0_askHead 5 = .ok (.aload_n 0, 1) := by decide +kernel
theorem dX0_askHead_6 : decode cX0_askHead 6 = .ok (.getfield 32, 3) := by decide +kernel
theorem dX0_askHead_9 : decode cX0_askHead 9 = .ok (.invokevirtual 115, 3) := by decide +kernel
theorem dX0_askHead_12 : decode cX0_askHead 12 = .ok (.if_icmp .ge 49, 3) := by decide +kernel
theorem dX0_askHead_15 : decode cX0_askHead 15 = .ok (.aload_n 0, 1) := by decide +kernel
theorem dX0_askHead_16 : decode cX0_askHead 16 = .ok (.getfield 32, 3) := by decide +kernel
theorem dX0_askHead_19 : decode cX0_askHead 19 = .ok (.iload 4, 2) := by decide +kernel
theorem dX0_askHead_21 : decode cX0_askHead 21 = .ok (.iconst 0, 1) := by decide +kernel
theorem dX0_askHead_22 : decode cX0_askHead 22 = .ok (.invokevirtual 121, 3) := by decide +kernel
theorem dX0_askHead_25 : decode cX0_askHead 25 = .ok (.iload_n 1, 1) := by decide +kernel
theorem dX0_askHead_26 : decode cX0_askHead 26 = .ok (.if_icmp .ne 29, 3) := by decide +kernel
theorem dX0_askHead_29 : decode cX0_askHead 29 = .ok (.aload_n 0, 1) := by decide +kernel
theorem dX0_askHead_30 : decode cX0_askHead 30 = .ok (.aload_n 0, 1) := by decide +kernel
theorem dX0_askHead_31 : decode cX0_askHead 31 = .ok (.getfield 32, 3) := by decide +kernel
theorem dX0_askHead_34 : decode cX0_askHead 34 = .ok (.iload 4, 2) := by decide +kernel
theorem dX0_askHead_36 : decode cX0_askHead 36 = .ok (.iconst 1, 1) := by decide +kernel
theorem dX0_askHead_37 : decode cX0_askHead 37 = .ok (.invokevirtual 121, 3) := by decide +kernel
theorem dX0_askHead_40 : decode cX0_askHead 40 = .ok (.aload_n 0, 1) := by decide +kernel
theorem dX0_askHead_41 : decode cX0_askHead 41 = .ok (.getfield 32, 3) := by decide +kernel
theorem dX0_askHead_44 : decode cX0_askHead 44 = .ok (.iload 4, 2) := by decide +kernel
theorem dX0_askHead_46 : decode cX0_askHead 46 = .ok (.iconst 2, 1) := by decide +kernel
theorem dX0_askHead_47 : decode cX0_askHead 47 = .ok (.invokevirtual 121, 3) := by decide +kernel
theorem dX0_askHead_50 : decode cX0_askHead 50 = .ok (.iload_n 2, 1) := by decide +kernel
theorem dX0_askHead_51 : decode cX0_askHead 51 = .ok (.iload_n 3, 1) := by decide +kernel
theorem dX0_askHead_52 : decode cX0_askHead 52 = .ok (.invokevirtual 112, 3) := by decide +kernel
theorem dX0_askHead_55 : decode cX0_askHead 55 = .ok (.iinc 4 1, 3) := by decide +kernel
theorem dX0_askHead_58 : decode cX0_askHead 58 = .ok (.goto (-55), 3) := by decide +kernel
theorem dX0_askHead_61 : decode cX0_askHead 61 = .ok (.return_, 1) := by decide +kernel
theorem dX0_addIfAsked_0 : decode cX0_addIfAsked 0 = .ok (.iload_n 1, 1) := by decide +kernel
theorem dX0_addIfAsked_1 : decode cX0_addIfAsked 1 = .ok (.iload_n 3, 1) := by decide +kernel
theorem dX0_addIfAsked_2 : decode cX0_addIfAsked 2 = .ok (.if_icmp .lt 18, 3) := by decide +kernel
theorem dX0_addIfAsked_5 : decode cX0_addIfAsked 5 = .ok (.iload_n 1, 1) := by decide +kernel
theorem dX0_addIfAsked_6 : decode cX0_addIfAsked 6 = .ok (.iload 4, 2) := by decide +kernel
theorem dX0_addIfAsked_8 : decode cX0_addIfAsked 8 = .ok (.if_icmp .gt 12, 3) := by decide +kernel
theorem dX0_addIfAsked_11 : decode cX0_addIfAsked 11 = .ok (.aload_n 0, 1) := by decide +kernel
theorem dX0_addIfAsked_12 : decode cX0_addIfAsked 12 = .ok (.getfield 12, 3) := by decide +kernel
theorem dX0_addIfAsked_15 : decode cX0_addIfAsked 15 = .ok (.iload_n 1, 1) := by decide +kernel
theorem dX0_addIfAsked_16 : decode cX0_addIfAsked 16 = .ok (.iload_n 2, 1) := by decide +kernel
theorem dX0_addIfAsked_17 : decode cX0_addIfAsked 17 = .ok (.invokevirtual 122, 3) := by decide +kernel
theorem dX0_addIfAsked_20 : decode cX0_addIfAsked 20 = .ok (.return_, 1) := by decide +kernel
abbrev rm_X0_summaryOf : Room := { frames := 3, cells := 0, slots := 0, locals := 75 }
theorem hd_X0_summaryOf : yX0_summaryOf.cls = RX0 ∧ yX0_summaryOf.cls ≠ "java/lang/invoke/MethodHandle" ∧ yX0_summaryOf.cls ≠ "java/lang/invoke/VarHandle" ∧ (parseMethodDescriptor yX0_summaryOf.desc).map (fun d => d.parameters.length) = some 2 := by decide +kernel
set_option maxHeartbeats 4000000 in
set_option maxRecDepth 100000 in
theorem c_X0_summaryOf (l : Launch) (G : va_G) (cI cZ cJ : ClassId) (aD aDc aI aQ aG aU aF aZ : Nat) (D_writesDone : Int32) (D_writesLeft : Int32) (D_down : Int32) (D_cells : Nat → Int32) (Q_ratio : Int32) (Q_looks : Int32) (Q_unpacked : Int32) (Z_first : Int32) (Z_last : Int32) (Z_points : Int32) (Z_least : Int32) (Z_greatest : Int32) (Z_sum : Int64) (p0 : Int32) (p1 : Int32) {o_Z_first : Int32} {o_Z_last : Int32} {o_Z_points : Int32} {o_Z_least : Int32} {o_Z_greatest : Int32} {o_Z_sum : Int64} (hfin : m_X0_summaryOf D_cells Z_first Z_last Z_points Z_least Z_greatest Z_sum p0 p1 = some (o_Z_first, o_Z_last, o_Z_points, o_Z_least, o_Z_greatest, o_Z_sum)) : CT l yX0_summaryOf cX0_summaryOf 4 (some (.object "PointLedger$Summary")) rm_X0_summaryOf G (tyC cI cZ cJ) [.ref aQ, .int p0, .int p1] [oX2 aD aDc D_writesDone D_writesLeft D_down, rI aDc cI 4096 D_cells, oX3 aI aD, oX0 aQ aI aG aU Q_ratio aF aZ Q_looks Q_unpacked, oX6 aZ Z_first Z_last Z_points Z_least Z_greatest Z_sum] (some (.ref aZ)) [oX2 aD aDc D_writesDone D_writesLeft D_down, rI aDc cI 4096 D_cells, oX3 aI aD, oX0 aQ aI aG aU Q_ratio aF aZ Q_looks Q_unpacked, oX6 aZ o_Z_first o_Z_last o_Z_points o_Z_least o_Z_greatest o_Z_sum] := by
  refine CT.ofW (lvl := [(0, .ref aQ), (1, .int p0), (2, .int p1)]) (by decide) (Nat.le_of_ble_eq_true rfl) rfl ?_
  intro p e s m args below meth c A ls0 QQ hQQ hx hb hml hr hlocks htc hN hown hK hA hw0 hl0
  rw [m_X0_summaryOf] at hfin
  refine lv_aload_n hx hb dX0_summaryOf_0 rfl (lv_at hl0 0 rfl) ?_
  refine va_get (D := G) (ci := 0) (v := .ref aZ) (C := RX0) (T := TX0) (N := 8) hx hb htc iX0 hown hK hw0.1 3 rfl rfl 5 (by decide) (htc _ mw_233) (fun _ h9 => h9) rfl dX0_summaryOf_1 ?_
  replace hfin := ob6_some hfin
  obtain ⟨Z_first_2, Z_last_3, Z_points_4, Z_least_5, Z_greatest_6, Z_sum_7, hE_1, hfin⟩ := hfin
  refine ctV (a := aZ) (As := []) (rest := []) (st1 := []) (wc := [oX6 aZ Z_first Z_last Z_points Z_least Z_greatest Z_sum]) (w1 := [oX6 aZ Z_first_2 Z_last_3 Z_points_4 Z_least_5 Z_greatest_6 Z_sum_7]) (wr := [oX2 aD aDc D_writesDone D_writesLeft D_down, rI aDc cI 4096 D_cells, oX3 aI aD, oX0 aQ aI aG aU Q_ratio aF aZ Q_looks Q_unpacked]) (wb := [oX2 aD aDc D_writesDone D_writesLeft D_down, rI aDc cI 4096 D_cells, oX3 aI aD, oX0 aQ aI aG aU Q_ratio aF aZ Q_looks Q_unpacked, oX6 aZ Z_first_2 Z_last_3 Z_points_4 Z_least_5 Z_greatest_6 Z_sum_7]) (v := none) hx hb hml hown htc hN (c_X6_clear l G cI cZ cJ aZ Z_first Z_last Z_points Z_least Z_greatest Z_sum  hE_1) mw_625 mw_429 mw_430 mw_9 mw_431 hd_X6_clear ⟨rfl, rfl⟩ ⟨Nat.le_of_ble_eq_true rfl, Nat.le_of_ble_eq_true rfl⟩ hK hw0 hA [4] [0, 1, 2, 3] [0, 1, 2, 3, 4] rfl rfl rfl rfl rfl (by decide) rfl rfl rfl 0 rfl rfl rfl rfl hl0.1 rfl rfl (Nat.le_of_ble_eq_true rfl) dX0_summaryOf_4 ⟨Nat.zero_le _, Nat.zero_le _⟩ (fun H8 locs8 hw8 => ?_)
  clear hw0
  refine lv_iload_n hx hb dX0_summaryOf_7 rfl (lv_at hl0 1 rfl) ?_
  refine lv_istore_n (lv' := [(3, .int p0), (0, .ref aQ), (1, .int p0), (2, .int p1)]) hx hb dX0_summaryOf_8 rfl hl0 (by decide) rfl (fun ls9 hl9 => ?_)
  clear hl0 ls0
  replace hfin := ob6_some hfin
  obtain ⟨Z_first_21, Z_last_22, Z_points_23, Z_least_24, Z_greatest_25, Z_sum_26, hL_17, hfin⟩ := hfin
  have kx_18 : ∀ (H : Heap) (locs : List Loc) (ls : Array Slot), wS G A s H locs [oX2 aD aDc D_writesDone D_writesLeft D_down, rI aDc cI 4096 D_cells, oX3 aI aD, oX0 aQ aI aG aU Q_ratio aF aZ Q_looks Q_unpacked, oX6 aZ Z_first_21 Z_last_22 Z_points_23 Z_least_24 Z_greatest_25 Z_sum_26] → lv_has ls 4 [(0, .ref aQ)] → W p l e rm_X0_summaryOf s m args below meth c H locs 0 0 QQ (F0 m 32 ls []) := by
    clear hw8 H8 locs8 hl9 ls9 hL_17
    intro H38 locs38 ls38 hw38 hl38
    refine lv_aload_n hx hb dX0_summaryOf_32 rfl (lv_at hl38 0 rfl) ?_
    refine va_get (D := G) (ci := 0) (v := .ref aZ) (C := RX0) (T := TX0) (N := 8) hx hb htc iX0 hown hK hw38.1 3 rfl rfl 5 (by decide) (htc _ mw_233) (fun _ h9 => h9) rfl dX0_summaryOf_33 ?_
    cases hfin
    rw [hQQ]
    exact ct_aret hx hb hr hlocks hw38.1 hw38.2.1 hw38.2.2 dX0_summaryOf_36
  have lp_19 : ∀ (n : Nat) (v3_10 : Int32) (Z_first_11 : Int32) (Z_last_12 : Int32) (Z_points_13 : Int32) (Z_least_14 : Int32) (Z_greatest_15 : Int32) (Z_sum_16 : Int64), lp_X0_summaryOf_9 D_cells p1 n v3_10 Z_first_11 Z_last_12 Z_points_13 Z_least_14 Z_greatest_15 Z_sum_16 = some (Z_first_21, Z_last_22, Z_points_23, Z_least_24, Z_greatest_25, Z_sum_26) → ∀ (H : Heap) (locs : List Loc) (ls : Array Slot), wS G A s H locs [oX2 aD aDc D_writesDone D_writesLeft D_down, rI aDc cI 4096 D_cells, oX3 aI aD, oX0 aQ aI aG aU Q_ratio aF aZ Q_looks Q_unpacked, oX6 aZ Z_first_11 Z_last_12 Z_points_13 Z_least_14 Z_greatest_15 Z_sum_16] → lv_has ls 4 [(0, .ref aQ), (2, .int p1), (3, .int v3_10)] → W p l e rm_X0_summaryOf s m args below meth c H locs 0 0 QQ (F0 m 9 ls []) := by
    clear hw8 H8 locs8 hl9 ls9 hfin
    intro n
    induction n with
    | zero =>
      intro v3_10 Z_first_11 Z_last_12 Z_points_13 Z_least_14 Z_greatest_15 Z_sum_16 hB_20
      exact absurd hB_20 (by rw [lp_X0_summaryOf_9]; exact fun h9 => nomatch h9)
    | succ n ih =>
      intro v3_10 Z_first_11 Z_last_12 Z_points_13 Z_least_14 Z_greatest_15 Z_sum_16 hB_20 H27 locs27 ls27 hw27 hl27
      rw [lp_X0_summaryOf_9] at hB_20
      refine lv_iload_n hx hb dX0_summaryOf_9 rfl (lv_at hl27 2 rfl) ?_
      refine lv_iload_n hx hb dX0_summaryOf_10 rfl (lv_at hl27 1 rfl) ?_
      refine lv_icmp_ge (tgt := 32) hx hb dX0_summaryOf_11 (by decide) (fun c_28 => ?_) (fun c_28 => ?_)
      · replace hB_20 := it_t c_28 hB_20
        cases hB_20
        exact kx_18 _ _ _ hw27 (lv_sub hl27 [0] rfl)
      · replace hB_20 := it_f c_28 hB_20
        refine lv_aload_n hx hb dX0_summaryOf_14 rfl (lv_at hl27 0 rfl) ?_
        refine va_get (D := G) (ci := 0) (v := .ref aZ) (C := RX0) (T := TX0) (N := 8) hx hb htc iX0 hown hK hw27.1 3 rfl rfl 5 (by decide) (htc _ mw_233) (fun _ h9 => h9) rfl dX0_summaryOf_15 ?_
        refine lv_aload_n hx hb dX0_summaryOf_18 rfl (lv_at hl27 0 rfl) ?_
        refine va_get (D := G) (ci := 0) (v := .ref aI) (C := RX0) (T := TX0) (N := 8) hx hb htc iX0 hown hK hw27.1 3 rfl rfl 0 (by decide) (htc _ mw_228) (fun _ h9 => h9) rfl dX0_summaryOf_19 ?_
        refine lv_iload_n hx hb dX0_summaryOf_22 rfl (lv_at hl27 2 rfl) ?_
        replace hB_20 := ob6_some hB_20
        obtain ⟨Z_first_30, Z_last_31, Z_points_32, Z_least_33, Z_greatest_34, Z_sum_35, hE_29, hB_20⟩ := hB_20
        refine ctV (a := aZ) (As := [.ref aI, .int v3_10]) (rest := []) (st1 := []) (wc := [oX2 aD aDc D_writesDone D_writesLeft D_down, rI aDc cI 4096 D_cells, oX3 aI aD, oX6 aZ Z_first_11 Z_last_12 Z_points_13 Z_least_14 Z_greatest_15 Z_sum_16]) (w1 := [oX2 aD aDc D_writesDone D_writesLeft D_down, rI aDc cI 4096 D_cells, oX3 aI aD, oX6 aZ Z_first_30 Z_last_31 Z_points_32 Z_least_33 Z_greatest_34 Z_sum_35]) (wr := [oX0 aQ aI aG aU Q_ratio aF aZ Q_looks Q_unpacked]) (wb := [oX2 aD aDc D_writesDone D_writesLeft D_down, rI aDc cI 4096 D_cells, oX3 aI aD, oX0 aQ aI aG aU Q_ratio aF aZ Q_looks Q_unpacked, oX6 aZ Z_first_30 Z_last_31 Z_points_32 Z_least_33 Z_greatest_34 Z_sum_35]) (v := none) hx hb hml hown htc hN (c_X6_addEntry l G cI cZ cJ aD aDc aI aZ D_writesDone D_writesLeft D_down D_cells Z_first_11 Z_last_12 Z_points_13 Z_least_14 Z_greatest_15 Z_sum_16 v3_10 hE_29) mw_633 mw_634 mw_635 mw_9 mw_636 hd_X6_addEntry ⟨rfl, rfl⟩ ⟨Nat.le_of_ble_eq_true rfl, Nat.le_of_ble_eq_true rfl⟩ hK hw27 hA [0, 1, 2, 4] [3] [1, 2, 3, 0, 4] rfl rfl rfl rfl rfl (by decide) rfl rfl rfl 3 rfl rfl rfl rfl hl27.1 rfl rfl (Nat.le_of_ble_eq_true rfl) dX0_summaryOf_23 ⟨Nat.zero_le _, Nat.zero_le _⟩ (fun H36 locs36 hw36 => ?_)
        clear hw27 H27 locs27
        refine lv_iinc (v := (v3_10 + (1 : Int32))) (lv' := [(3, .int (v3_10 + (1 : Int32))), (0, .ref aQ), (2, .int p1)]) hx hb dX0_summaryOf_26 hl27 (k := 2) rfl rfl (by decide) rfl (fun ls37 hl37 => ?_)
        clear hl27 ls27
        refine lv_goto (tgt := 9) hx hb dX0_summaryOf_29 (by decide) ?_
        exact ih (v3_10 + (1 : Int32)) Z_first_30 Z_last_31 Z_points_32 Z_least_33 Z_greatest_34 Z_sum_35 hB_20 _ _ _ hw36 (lv_sub hl37 [1, 2, 0] rfl)
  exact lp_19 NN p0 Z_first_2 Z_last_3 Z_points_4 Z_least_5 Z_greatest_6 Z_sum_7 hL_17 _ _ _ hw8 (lv_sub hl9 [1, 3, 0] rfl)
abbrev rm_X0_addIfAsked : Room := { frames := 3, cells := 0, slots := 0, locals := 71 }
theorem hd_X0_addIfAsked : yX0_addIfAsked.cls = RX0 ∧ yX0_addIfAsked.cls ≠ "java/lang/invoke/MethodHandle" ∧ yX0_addIfAsked.cls ≠ "java/lang/invoke/VarHandle" ∧ (parseMethodDescriptor yX0_addIfAsked.desc).map (fun d => d.parameters.length) = some 4 := by decide +kernel
set_option maxHeartbeats 4000000 in
set_option maxRecDepth 100000 in
theorem c_X0_addIfAsked (l : Launch) (G : va_G) (cI cZ cJ : ClassId) (aQ aI aG aU aF aZ : Nat) (Q_ratio : Int32) (Q_looks : Int32) (Q_unpacked : Int32) (F_first : Int32) (F_last : Int32) (F_points : Int32) (F_least : Int32) (F_greatest : Int32) (F_sum : Int64) (p0 : Int32) (p1 : Int32) (p2 : Int32) (p3 : Int32) {o_F_first : Int32} {o_F_last : Int32} {o_F_points : Int32} {o_F_least : Int32} {o_F_greatest : Int32} {o_F_sum : Int64} (hfin : m_X0_addIfAsked F_first F_last F_points F_least F_greatest F_sum p0 p1 p2 p3 = some (o_F_first, o_F_last, o_F_points, o_F_least, o_F_greatest, o_F_sum)) : CT l yX0_addIfAsked cX0_addIfAsked 5 none rm_X0_addIfAsked G (tyC cI cZ cJ) [.ref aQ, .int p0, .int p1, .int p2, .int p3] [oX0 aQ aI aG aU Q_ratio aF aZ Q_looks Q_unpacked, oX6 aF F_first F_last F_points F_least F_greatest F_sum] none [oX0 aQ aI aG aU Q_ratio aF aZ Q_looks Q_unpacked, oX6 aF o_F_first o_F_last o_F_points o_F_least o_F_greatest o_F_sum] := by
  refine CT.ofW (lvl := [(0, .ref aQ), (1, .int p0), (2, .int p1), (3, .int p2), (4, .int p3)]) (by decide) (Nat.le_of_ble_eq_true rfl) rfl ?_
  intro p e s m args below meth c A ls0 QQ hQQ hx hb hml hr hlocks htc hN hown hK hA hw0 hl0
  rw [m_X0_addIfAsked] at hfin
  refine lv_iload_n hx hb dX0_addIfAsked_0 rfl (lv_at hl0 1 rfl) ?_
  refine lv_iload_n hx hb dX0_addIfAsked_1 rfl (lv_at hl0 3 rfl) ?_
  replace hfin := ob6_some hfin
  obtain ⟨F_first_1, F_last_2, F_points_3, F_least_4, F_greatest_5, F_sum_6, hJ_7, hfin⟩ := hfin
  have kj_8 : ∀ (H : Heap) (locs : List Loc) (ls : Array Slot), wS G A s H locs [oX0 aQ aI aG aU Q_ratio aF aZ Q_looks Q_unpacked, oX6 aF F_first_1 F_last_2 F_points_3 F_least_4 F_greatest_5 F_sum_6] → lv_has ls 5 [] → W p l e rm_X0_addIfAsked s m args below meth c H locs 0 0 QQ (F0 m 20 ls []) := by
    clear hw0 hl0 ls0 hJ_7
    intro H19 locs19 ls19 hw19 hl19
    cases hfin
    rw [hQQ]
    exact ct_vret hx hb hr hlocks hw19.1 hw19.2.1 hw19.2.2 dX0_addIfAsked_20
  clear hfin
  refine lv_icmp_lt (tgt := 20) hx hb dX0_addIfAsked_2 (by decide) (fun c_9 => ?_) (fun c_9 => ?_)
  · replace hJ_7 := it_t c_9 hJ_7
    cases hJ_7
    exact kj_8 _ _ _ hw0 (lv_sub hl0 [] rfl)
  · replace hJ_7 := it_f c_9 hJ_7
    refine lv_iload_n hx hb dX0_addIfAsked_5 rfl (lv_at hl0 1 rfl) ?_
    refine lv_iload hx hb dX0_addIfAsked_6 (lv_at hl0 4 rfl) ?_
    refine lv_icmp_gt (tgt := 20) hx hb dX0_addIfAsked_8 (by decide) (fun c_10 => ?_) (fun c_10 => ?_)
    · replace hJ_7 := it_t c_10 hJ_7
      cases hJ_7
      exact kj_8 _ _ _ hw0 (lv_sub hl0 [] rfl)
    · replace hJ_7 := it_f c_10 hJ_7
      refine lv_aload_n hx hb dX0_addIfAsked_11 rfl (lv_at hl0 0 rfl) ?_
      refine va_get (D := G) (ci := 0) (v := .ref aF) (C := RX0) (T := TX0) (N := 8) hx hb htc iX0 hown hK hw0.1 0 rfl rfl 4 (by decide) (htc _ mw_232) (fun _ h9 => h9) rfl dX0_addIfAsked_12 ?_
      refine lv_iload_n hx hb dX0_addIfAsked_15 rfl (lv_at hl0 1 rfl) ?_
      refine lv_iload_n hx hb dX0_addIfAsked_16 rfl (lv_at hl0 2 rfl) ?_
      replace hJ_7 := ob6_some hJ_7
      obtain ⟨F_first_12, F_last_13, F_points_14, F_least_15, F_greatest_16, F_sum_17, hE_11, hJ_7⟩ := hJ_7
      refine ctV (a := aF) (As := [.int p0, .int p1]) (rest := []) (st1 := []) (wc := [oX6 aF F_first F_last F_points F_least F_greatest F_sum]) (w1 := [oX6 aF F_first_12 F_last_13 F_points_14 F_least_15 F_greatest_16 F_sum_17]) (wr := [oX0 aQ aI aG aU Q_ratio aF aZ Q_looks Q_unpacked]) (wb := [oX0 aQ aI aG aU Q_ratio aF aZ Q_looks Q_unpacked, oX6 aF F_first_12 F_last_13 F_points_14 F_least_15 F_greatest_16 F_sum_17]) (v := none) hx hb hml hown htc hN (c_X6_addPoint l G cI cZ cJ aF F_first F_last F_points F_least F_greatest F_sum p0 p1 hE_11) mw_662 mw_514 mw_515 mw_9 mw_516 hd_X6_addPoint ⟨rfl, rfl⟩ ⟨Nat.le_of_ble_eq_true rfl, Nat.le_of_ble_eq_true rfl⟩ hK hw0 hA [1] [0] [0, 1] rfl rfl rfl rfl rfl (by decide) rfl rfl rfl 0 rfl rfl rfl rfl hl0.1 rfl rfl (Nat.le_of_ble_eq_true rfl) dX0_addIfAsked_17 ⟨Nat.zero_le _, Nat.zero_le _⟩ (fun H18 locs18 hw18 => ?_)
      clear hw0
      cases hJ_7
      exact kj_8 _ _ _ hw18 (lv_sub hl0 [] rfl)
abbrev rm_X0_askEntries : Room := { frames := 4, cells := 0, slots := 0, locals := 98 }
theorem hd_X0_askEntries : yX0_askEntries.cls = RX0 ∧ yX0_askEntries.cls ≠ "java/lang/invoke/MethodHandle" ∧ yX0_askEntries.cls ≠ "java/lang/invoke/VarHandle" ∧ (parseMethodDescriptor yX0_askEntries.desc).map (fun d => d.parameters.length) = some 4 := by decide +kernel
set_option maxHeartbeats 4000000 in
set_option maxRecDepth 100000 in
theorem c_X0_askEntries (l : Launch) (G : va_G) (cI cZ cJ : ClassId) (aD aDc aI aU aQ aG aF aZ : Nat) (D_writesDone : Int32) (D_writesLeft : Int32) (D_down : Int32) (D_cells : Nat → Int32) (U_place : Int32) (U_bitsRead : Int32) (U_started : Int32) (U_time : Int32) (U_value : Int32) (U_rise : Int64) (Q_ratio : Int32) (Q_looks : Int32) (Q_unpacked : Int32) (F_first : Int32) (F_last : Int32) (F_points : Int32) (F_least : Int32) (F_greatest : Int32) (F_sum : Int64) (Z_first : Int32) (Z_last : Int32) (Z_points : Int32) (Z_least : Int32) (Z_greatest : Int32) (Z_sum : Int64) (p0 : Int32) (p1 : Int32) (p2 : Int32) (p3 : Int32) {o_U_place : Int32} {o_U_bitsRead : Int32} {o_U_started : Int32} {o_U_time : Int32} {o_U_value : Int32} {o_U_rise : Int64} {o_Q_looks : Int32} {o_Q_unpacked : Int32} {o_F_first : Int32} {o_F_last : Int32} {o_F_points : Int32} {o_F_least : Int32} {o_F_greatest : Int32} {o_F_sum : Int64} {o_Z_first : Int32} {o_Z_last : Int32} {o_Z_points : Int32} {o_Z_least : Int32} {o_Z_greatest : Int32} {o_Z_sum : Int64} (hfin : m_X0_askEntries D_cells U_place U_bitsRead U_started U_time U_value U_rise Q_looks Q_unpacked F_first F_last F_points F_least F_greatest F_sum Z_first Z_last Z_points Z_least Z_greatest Z_sum p0 p1 p2 p3 = some (o_U_place, o_U_bitsRead, o_U_started, o_U_time, o_U_value, o_U_rise, o_Q_looks, o_Q_unpacked, o_F_first, o_F_last, o_F_points, o_F_least, o_F_greatest, o_F_sum, o_Z_first, o_Z_last, o_Z_points, o_Z_least, o_Z_greatest, o_Z_sum)) : CT l yX0_askEntries cX0_askEntries 8 none rm_X0_askEntries G (tyC cI cZ cJ) [.ref aQ, .int p0, .int p1, .int p2, .int p3] [oX2 aD aDc D_writesDone D_writesLeft D_down, rI aDc cI 4096 D_cells, oX3 aI aD, oX8 aU aD U_place U_bitsRead U_started U_time U_value U_rise, oX0 aQ aI aG aU Q_ratio aF aZ Q_looks Q_unpacked, oX6 aF F_first F_last F_points F_least F_greatest F_sum, oX6 aZ Z_first Z_last Z_points Z_least Z_greatest Z_sum] none [oX2 aD aDc D_writesDone D_writesLeft D_down, rI aDc cI 4096 D_cells, oX3 aI aD, oX8 aU aD o_U_place o_U_bitsRead o_U_started o_U_time o_U_value o_U_rise, oX0 aQ aI aG aU Q_ratio aF aZ o_Q_looks o_Q_unpacked, oX6 aF o_F_first o_F_last o_F_points o_F_least o_F_greatest o_F_sum, oX6 aZ o_Z_first o_Z_last o_Z_points o_Z_least o_Z_greatest o_Z_sum] := by
  refine CT.ofW (lvl := [(0, .ref aQ), (1, .int p0), (2, .int p1), (3, .int p2), (4, .int p3)]) (by decide) (Nat.le_of_ble_eq_true rfl) rfl ?_
  intro p e s m args below meth c A ls0 QQ hQQ hx hb hml hr hlocks htc hN hown hK hA hw0 hl0
  rw [m_X0_askEntries] at hfin
  refine lv_iload_n hx hb dX0_askEntries_0 rfl (lv_at hl0 1 rfl) ?_
  refine lv_istore (lv' := [(5, .int p0), (0, .ref aQ), (1, .int p0), (2, .int p1), (3, .int p2), (4, .int p3)]) hx hb dX0_askEntries_1 hl0 (by decide) rfl (fun ls1 hl1 => ?_)
  clear hl0 ls0
  replace hfin := ob20_some hfin
  obtain ⟨U_place_27, U_bitsRead_28, U_started_29, U_time_30, U_value_31, U_rise_32, Q_looks_33, Q_unpacked_34, F_first_35, F_last_36, F_points_37, F_least_38, F_greatest_39, F_sum_40, Z_first_41, Z_last_42, Z_points_43, Z_least_44, Z_greatest_45, Z_sum_46, hL_23, hfin⟩ := hfin
  have kx_24 : ∀ (H : Heap) (locs : List Loc) (ls : Array Slot), wS G A s H locs [oX2 aD aDc D_writesDone D_writesLeft D_down, rI aDc cI 4096 D_cells, oX3 aI aD, oX8 aU aD U_place_27 U_bitsRead_28 U_started_29 U_time_30 U_value_31 U_rise_32, oX0 aQ aI aG aU Q_ratio aF aZ Q_looks_33 Q_unpacked_34, oX6 aF F_first_35 F_last_36 F_points_37 F_least_38 F_greatest_39 F_sum_40, oX6 aZ Z_first_41 Z_last_42 Z_points_43 Z_least_44 Z_greatest_45 Z_sum_46] → lv_has ls 8 [] → W p l e rm_X0_askEntries s m args below meth c H locs 0 0 QQ (F0 m 149 ls []) := by
    clear hw0 hl1 ls1 hL_23
    intro H148 locs148 ls148 hw148 hl148
    cases hfin
    rw [hQQ]
    exact ct_vret hx hb hr hlocks hw148.1 hw148.2.1 hw148.2.2 dX0_askEntries_149
  have lp_25 : ∀ (n : Nat) (v5_2 : Int32) (U_place_3 : Int32) (U_bitsRead_4 : Int32) (U_started_5 : Int32) (U_time_6 : Int32) (U_value_7 : Int32) (U_rise_8 : Int64) (Q_looks_9 : Int32) (Q_unpacked_10 : Int32) (F_first_11 : Int32) (F_last_12 : Int32) (F_points_13 : Int32) (F_least_14 : Int32) (F_greatest_15 : Int32) (F_sum_16 : Int64) (Z_first_17 : Int32) (Z_last_18 : Int32) (Z_points_19 : Int32) (Z_least_20 : Int32) (Z_greatest_21 : Int32) (Z_sum_22 : Int64), lp_X0_askEntries_3 D_cells p1 p2 p3 n v5_2 U_place_3 U_bitsRead_4 U_started_5 U_time_6 U_value_7 U_rise_8 Q_looks_9 Q_unpacked_10 F_first_11 F_last_12 F_points_13 F_least_14 F_greatest_15 F_sum_16 Z_first_17 Z_last_18 Z_points_19 Z_least_20 Z_greatest_21 Z_sum_22 = some (U_place_27, U_bitsRead_28, U_started_29, U_time_30, U_value_31, U_rise_32, Q_looks_33, Q_unpacked_34, F_first_35, F_last_36, F_points_37, F_least_38, F_greatest_39, F_sum_40, Z_first_41, Z_last_42, Z_points_43, Z_least_44, Z_greatest_45, Z_sum_46) → ∀ (H : Heap) (locs : List Loc) (ls : Array Slot), wS G A s H locs [oX2 aD aDc D_writesDone D_writesLeft D_down, rI aDc cI 4096 D_cells, oX3 aI aD, oX8 aU aD U_place_3 U_bitsRead_4 U_started_5 U_time_6 U_value_7 U_rise_8, oX0 aQ aI aG aU Q_ratio aF aZ Q_looks_9 Q_unpacked_10, oX6 aF F_first_11 F_last_12 F_points_13 F_least_14 F_greatest_15 F_sum_16, oX6 aZ Z_first_17 Z_last_18 Z_points_19 Z_least_20 Z_greatest_21 Z_sum_22] → lv_has ls 8 [(0, .ref aQ), (2, .int p1), (3, .int p2), (4, .int p3), (5, .int v5_2)] → W p l e rm_X0_askEntries s m args below meth c H locs 0 0 QQ (F0 m 3 ls []) := by
    clear hw0 hl1 ls1 hfin
    intro n
    induction n with
    | zero =>
      intro v5_2 U_place_3 U_bitsRead_4 U_started_5 U_time_6 U_value_7 U_rise_8 Q_looks_9 Q_unpacked_10 F_first_11 F_last_12 F_points_13 F_least_14 F_greatest_15 F_sum_16 Z_first_17 Z_last_18 Z_points_19 Z_least_20 Z_greatest_21 Z_sum_22 hB_26
      exact absurd hB_26 (by rw [lp_X0_askEntries_3]; exact fun h9 => nomatch h9)
    | succ n ih =>
      intro v5_2 U_place_3 U_bitsRead_4 U_started_5 U_time_6 U_value_7 U_rise_8 Q_looks_9 Q_unpacked_10 F_first_11 F_last_12 F_points_13 F_least_14 F_greatest_15 F_sum_16 Z_first_17 Z_last_18 Z_points_19 Z_least_20 Z_greatest_21 Z_sum_22 hB_26 H47 locs47 ls47 hw47 hl47
      rw [lp_X0_askEntries_3] at hB_26
      refine lv_iload hx hb dX0_askEntries_3 (lv_at hl47 4 rfl) ?_
      refine lv_iload_n hx hb dX0_askEntries_5 rfl (lv_at hl47 1 rfl) ?_
      refine lv_icmp_ge (tgt := 149) hx hb dX0_askEntries_6 (by decide) (fun c_48 => ?_) (fun c_48 => ?_)
      · replace hB_26 := it_t c_48 hB_26
        cases hB_26
        exact kx_24 _ _ _ hw47 (lv_sub hl47 [] rfl)
      · replace hB_26 := it_f c_48 hB_26
        refine lv_aload_n hx hb dX0_askEntries_9 rfl (lv_at hl47 0 rfl) ?_
        refine lv_iload hx hb dX0_askEntries_10 (lv_at hl47 4 rfl) ?_
        refine lv_iload hx hb dX0_askEntries_12 (lv_at hl47 4 rfl) ?_
        refine lv_iconst (v := (1 : Int32)) hx hb dX0_askEntries_14 (by decide) ?_
        refine lv_iadd hx hb dX0_askEntries_15 ?_
        replace hB_26 := ob6_some hB_26
        obtain ⟨Z_first_50, Z_last_51, Z_points_52, Z_least_53, Z_greatest_54, Z_sum_55, hE_49, hB_26⟩ := hB_26
        refine ctV (a := aQ) (As := [.int v5_2, .int (v5_2 + (1 : Int32))]) (rest := []) (st1 := [.ref aZ]) (wc := [oX2 aD aDc D_writesDone D_writesLeft D_down, rI aDc cI 4096 D_cells, oX3 aI aD, oX0 aQ aI aG aU Q_ratio aF aZ Q_looks_9 Q_unpacked_10, oX6 aZ Z_first_17 Z_last_18 Z_points_19 Z_least_20 Z_greatest_21 Z_sum_22]) (w1 := [oX2 aD aDc D_writesDone D_writesLeft D_down, rI aDc cI 4096 D_cells, oX3 aI aD, oX0 aQ aI aG aU Q_ratio aF aZ Q_looks_9 Q_unpacked_10, oX6 aZ Z_first_50 Z_last_51 Z_points_52 Z_least_53 Z_greatest_54 Z_sum_55]) (wr := [oX8 aU aD U_place_3 U_bitsRead_4 U_started_5 U_time_6 U_value_7 U_rise_8, oX6 aF F_first_11 F_last_12 F_points_13 F_least_14 F_greatest_15 F_sum_16]) (wb := [oX2 aD aDc D_writesDone D_writesLeft D_down, rI aDc cI 4096 D_cells, oX3 aI aD, oX8 aU aD U_place_3 U_bitsRead_4 U_started_5 U_time_6 U_value_7 U_rise_8, oX0 aQ aI aG aU Q_ratio aF aZ Q_looks_9 Q_unpacked_10, oX6 aF F_first_11 F_last_12 F_points_13 F_least_14 F_greatest_15 F_sum_16, oX6 aZ Z_first_50 Z_last_51 Z_points_52 Z_least_53 Z_greatest_54 Z_sum_55]) (v := (some (.ref aZ))) hx hb hml hown htc hN (c_X0_summaryOf l G cI cZ cJ aD aDc aI aQ aG aU aF aZ D_writesDone D_writesLeft D_down D_cells Q_ratio Q_looks_9 Q_unpacked_10 Z_first_17 Z_last_18 Z_points_19 Z_least_20 Z_greatest_21 Z_sum_22 v5_2 (v5_2 + (1 : Int32)) hE_49) mw_629 mw_630 mw_631 mw_10 mw_632 hd_X0_summaryOf ⟨rfl, rfl⟩ ⟨Nat.le_of_ble_eq_true rfl, Nat.le_of_ble_eq_true rfl⟩ hK hw47 hA [0, 1, 2, 4, 6] [3, 5] [2, 3, 4, 0, 5, 1, 6] rfl rfl rfl rfl rfl (by decide) rfl rfl rfl 3 rfl rfl rfl rfl hl47.1 rfl rfl (Nat.le_of_ble_eq_true rfl) dX0_askEntries_16 ⟨Nat.zero_le _, Nat.zero_le _⟩ (fun H56 locs56 hw56 => ?_)
        clear hw47 H47 locs47
        refine lv_astore (lv' := [(6, .ref aZ), (0, .ref aQ), (2, .int p1), (3, .int p2), (4, .int p3), (5, .int v5_2)]) hx hb dX0_askEntries_19 hl47 (by decide) rfl (fun ls57 hl57 => ?_)
        clear hl47 ls47
        refine lv_aload_n hx hb dX0_askEntries_21 rfl (lv_at hl57 1 rfl) ?_
        refine lv_dup hx hb dX0_askEntries_22 rfl ?_
        refine va_get (D := G) (ci := 0) (v := .int Q_looks_9) (C := RX0) (T := TX0) (N := 8) hx hb htc iX0 hown hK hw56.1 4 rfl rfl 6 (by decide) (htc _ mw_234) (fun _ h9 => h9) rfl dX0_askEntries_23 ?_
        refine lv_iconst (v := (1 : Int32)) hx hb dX0_askEntries_26 (by decide) ?_
        refine lv_iadd hx hb dX0_askEntries_27 ?_
        refine va_put (D := G) (ci := 0) (v := .int (Q_looks_9 + (1 : Int32))) (ty := .int) (C := RX0) (T := TX0) (N := 8) hx hb htc iX0 tyX0 tyX0_ok nmX0 hown hK hw56.1 hw56.2.1 hw56.2.2 4 rfl rfl 6 (by decide) (htc _ mw_234) (fun _ h9 => h9) rfl (tyX0_ok 6 (by decide)) rfl rfl (Nat.le_of_ble_eq_true rfl) dX0_askEntries_28 (fun H58 locs58 hP hD hS => ?_)
        have hw58 : wS G A s H58 locs58 [oX2 aD aDc D_writesDone D_writesLeft D_down, rI aDc cI 4096 D_cells, oX3 aI aD, oX8 aU aD U_place_3 U_bitsRead_4 U_started_5 U_time_6 U_value_7 U_rise_8, oX0 aQ aI aG aU Q_ratio aF aZ (Q_looks_9 + (1 : Int32)) Q_unpacked_10, oX6 aF F_first_11 F_last_12 F_points_13 F_least_14 F_greatest_15 F_sum_16, oX6 aZ Z_first_50 Z_last_51 Z_points_52 Z_least_53 Z_greatest_54 Z_sum_55] := ⟨hP, hD, hS⟩
        clear hP hD hS hw56 H56 locs56
        refine lv_aload hx hb dX0_askEntries_31 (lv_at hl57 0 rfl) ?_
        refine lv_iload_n hx hb dX0_askEntries_33 rfl (lv_at hl57 3 rfl) ?_
        refine lv_iload hx hb dX0_askEntries_34 (lv_at hl57 4 rfl) ?_
        replace hB_26 := ob1_some hB_26
        obtain ⟨r_60, hE_59, hB_26⟩ := hB_26
        refine ctV (a := aZ) (As := [.int p2, .int p3]) (rest := []) (st1 := [.int r_60]) (wc := [oX6 aZ Z_first_50 Z_last_51 Z_points_52 Z_least_53 Z_greatest_54 Z_sum_55]) (w1 := [oX6 aZ Z_first_50 Z_last_51 Z_points_52 Z_least_53 Z_greatest_54 Z_sum_55]) (wr := [oX2 aD aDc D_writesDone D_writesLeft D_down, rI aDc cI 4096 D_cells, oX3 aI aD, oX8 aU aD U_place_3 U_bitsRead_4 U_started_5 U_time_6 U_value_7 U_rise_8, oX0 aQ aI aG aU Q_ratio aF aZ (Q_looks_9 + (1 : Int32)) Q_unpacked_10, oX6 aF F_first_11 F_last_12 F_points_13 F_least_14 F_greatest_15 F_sum_16]) (wb := [oX2 aD aDc D_writesDone D_writesLeft D_down, rI aDc cI 4096 D_cells, oX3 aI aD, oX8 aU aD U_place_3 U_bitsRead_4 U_started_5 U_time_6 U_value_7 U_rise_8, oX0 aQ aI aG aU Q_ratio aF aZ (Q_looks_9 + (1 : Int32)) Q_unpacked_10, oX6 aF F_first_11 F_last_12 F_points_13 F_least_14 F_greatest_15 F_sum_16, oX6 aZ Z_first_50 Z_last_51 Z_points_52 Z_least_53 Z_greatest_54 Z_sum_55]) (v := (some (.int r_60))) hx hb hml hown htc hN (c_X6_isOut l G cI cZ cJ aZ Z_first_50 Z_last_51 Z_points_52 Z_least_53 Z_greatest_54 Z_sum_55 p2 p3 hE_59) mw_639 mw_640 mw_641 mw_9 mw_642 hd_X6_isOut ⟨rfl, rfl⟩ ⟨Nat.le_of_ble_eq_true rfl, Nat.le_of_ble_eq_true rfl⟩ hK hw58 hA [6] [0, 1, 2, 3, 4, 5] [0, 1, 2, 3, 4, 5, 6] rfl rfl rfl rfl rfl (by decide) rfl rfl rfl 0 rfl rfl rfl rfl hl57.1 rfl rfl (Nat.le_of_ble_eq_true rfl) dX0_askEntries_36 ⟨Nat.zero_le _, Nat.zero_le _⟩ (fun H61 locs61 hw61 => ?_)
        clear hw58 H58 locs58
        replace hB_26 := ob13_some hB_26
        obtain ⟨U_place_62, U_bitsRead_63, U_started_64, U_time_65, U_value_66, U_rise_67, Q_unpacked_68, F_first_69, F_last_70, F_points_71, F_least_72, F_greatest_73, F_sum_74, hJ_75, hB_26⟩ := hB_26
        have kj_76 : ∀ (H : Heap) (locs : List Loc) (ls : Array Slot), wS G A s H locs [oX2 aD aDc D_writesDone D_writesLeft D_down, rI aDc cI 4096 D_cells, oX3 aI aD, oX8 aU aD U_place_62 U_bitsRead_63 U_started_64 U_time_65 U_value_66 U_rise_67, oX0 aQ aI aG aU Q_ratio aF aZ (Q_looks_9 + (1 : Int32)) Q_unpacked_68, oX6 aF F_first_69 F_last_70 F_points_71 F_least_72 F_greatest_73 F_sum_74, oX6 aZ Z_first_50 Z_last_51 Z_points_52 Z_least_53 Z_greatest_54 Z_sum_55] → lv_has ls 8 [(0, .ref aQ), (2, .int p1), (3, .int p2), (4, .int p3), (5, .int v5_2)] → W p l e rm_X0_askEntries s m args below meth c H locs 0 0 QQ (F0 m 143 ls []) := by
          clear hw61 H61 locs61 hl57 ls57 hJ_75
          intro H146 locs146 ls146 hw146 hl146
          refine lv_iinc (v := (v5_2 + (1 : Int32))) (lv' := [(5, .int (v5_2 + (1 : Int32))), (0, .ref aQ), (2, .int p1), (3, .int p2), (4, .int p3)]) hx hb dX0_askEntries_143 hl146 (k := 4) rfl rfl (by decide) rfl (fun ls147 hl147 => ?_)
          clear hl146 ls146
          refine lv_goto (tgt := 3) hx hb dX0_askEntries_146 (by decide) ?_
          exact ih (v5_2 + (1 : Int32)) U_place_62 U_bitsRead_63 U_started_64 U_time_65 U_value_66 U_rise_67 (Q_looks_9 + (1 : Int32)) Q_unpacked_68 F_first_69 F_last_70 F_points_71 F_least_72 F_greatest_73 F_sum_74 Z_first_50 Z_last_51 Z_points_52 Z_least_53 Z_greatest_54 Z_sum_55 hB_26 _ _ _ hw146 (lv_sub hl147 [1, 2, 3, 4, 0] rfl)
        clear hB_26
        refine lv_if_eq (tgt := 45) hx hb dX0_askEntries_39 (by decide) (fun c_77 => ?_) (fun c_77 => ?_)
        · replace hJ_75 := it_t c_77 hJ_75
          refine lv_aload hx hb dX0_askEntries_45 (lv_at hl57 0 rfl) ?_
          refine lv_iload_n hx hb dX0_askEntries_47 rfl (lv_at hl57 3 rfl) ?_
          refine lv_iload hx hb dX0_askEntries_48 (lv_at hl57 4 rfl) ?_
          replace hJ_75 := ob1_some hJ_75
          obtain ⟨r_79, hE_78, hJ_75⟩ := hJ_75
          refine ctV (a := aZ) (As := [.int p2, .int p3]) (rest := []) (st1 := [.int r_79]) (wc := [oX6 aZ Z_first_50 Z_last_51 Z_points_52 Z_least_53 Z_greatest_54 Z_sum_55]) (w1 := [oX6 aZ Z_first_50 Z_last_51 Z_points_52 Z_least_53 Z_greatest_54 Z_sum_55]) (wr := [oX2 aD aDc D_writesDone D_writesLeft D_down, rI aDc cI 4096 D_cells, oX3 aI aD, oX8 aU aD U_place_3 U_bitsRead_4 U_started_5 U_time_6 U_value_7 U_rise_8, oX0 aQ aI aG aU Q_ratio aF aZ (Q_looks_9 + (1 : Int32)) Q_unpacked_10, oX6 aF F_first_11 F_last_12 F_points_13 F_least_14 F_greatest_15 F_sum_16]) (wb := [oX2 aD aDc D_writesDone D_writesLeft D_down, rI aDc cI 4096 D_cells, oX3 aI aD, oX8 aU aD U_place_3 U_bitsRead_4 U_started_5 U_time_6 U_value_7 U_rise_8, oX0 aQ aI aG aU Q_ratio aF aZ (Q_looks_9 + (1 : Int32)) Q_unpacked_10, oX6 aF F_first_11 F_last_12 F_points_13 F_least_14 F_greatest_15 F_sum_16, oX6 aZ Z_first_50 Z_last_51 Z_points_52 Z_least_53 Z_greatest_54 Z_sum_55]) (v := (some (.int r_79))) hx hb hml hown htc hN (c_X6_isIn l G cI cZ cJ aZ Z_first_50 Z_last_51 Z_points_52 Z_least_53 Z_greatest_54 Z_sum_55 p2 p3 hE_78) mw_643 mw_644 mw_645 mw_9 mw_646 hd_X6_isIn ⟨rfl, rfl⟩ ⟨Nat.le_of_ble_eq_true rfl, Nat.le_of_ble_eq_true rfl⟩ hK hw61 hA [6] [0, 1, 2, 3, 4, 5] [0, 1, 2, 3, 4, 5, 6] rfl rfl rfl rfl rfl (by decide) rfl rfl rfl 0 rfl rfl rfl rfl hl57.1 rfl rfl (Nat.le_of_ble_eq_true rfl) dX0_askEntries_50 ⟨Nat.zero_le _, Nat.zero_le _⟩ (fun H80 locs80 hw80 => ?_)
          clear hw61 H61 locs61
          refine lv_if_eq (tgt := 68) hx hb dX0_askEntries_53 (by decide) (fun c_81 => ?_) (fun c_81 => ?_)
          · replace hJ_75 := it_t c_81 hJ_75
            refine lv_aload_n hx hb dX0_askEntries_68 rfl (lv_at hl57 1 rfl) ?_
            refine lv_dup hx hb dX0_askEntries_69 rfl ?_
            refine va_get (D := G) (ci := 0) (v := .int Q_unpacked_10) (C := RX0) (T := TX0) (N := 8) hx hb htc iX0 hown hK hw80.1 4 rfl rfl 7 (by decide) (htc _ mw_235) (fun _ h9 => h9) rfl dX0_askEntries_70 ?_
            refine lv_iconst (v := (1 : Int32)) hx hb dX0_askEntries_73 (by decide) ?_
            refine lv_iadd hx hb dX0_askEntries_74 ?_
            refine va_put (D := G) (ci := 0) (v := .int (Q_unpacked_10 + (1 : Int32))) (ty := .int) (C := RX0) (T := TX0) (N := 8) hx hb htc iX0 tyX0 tyX0_ok nmX0 hown hK hw80.1 hw80.2.1 hw80.2.2 4 rfl rfl 7 (by decide) (htc _ mw_235) (fun _ h9 => h9) rfl (tyX0_ok 7 (by decide)) rfl rfl (Nat.le_of_ble_eq_true rfl) dX0_askEntries_75 (fun H82 locs82 hP hD hS => ?_)
            have hw82 : wS G A s H82 locs82 [oX2 aD aDc D_writesDone D_writesLeft D_down, rI aDc cI 4096 D_cells, oX3 aI aD, oX8 aU aD U_place_3 U_bitsRead_4 U_started_5 U_time_6 U_value_7 U_rise_8, oX0 aQ aI aG aU Q_ratio aF aZ (Q_looks_9 + (1 : Int32)) (Q_unpacked_10 + (1 : Int32)), oX6 aF F_first_11 F_last_12 F_points_13 F_least_14 F_greatest_15 F_sum_16, oX6 aZ Z_first_50 Z_last_51 Z_points_52 Z_least_53 Z_greatest_54 Z_sum_55] := ⟨hP, hD, hS⟩
            clear hP hD hS hw80 H80 locs80
            refine lv_aload_n hx hb dX0_askEntries_78 rfl (lv_at hl57 1 rfl) ?_
            refine va_get (D := G) (ci := 0) (v := .ref aU) (C := RX0) (T := TX0) (N := 8) hx hb htc iX0 hown hK hw82.1 4 rfl rfl 2 (by decide) (htc _ mw_230) (fun _ h9 => h9) rfl dX0_askEntries_79 ?_
            refine lv_aload_n hx hb dX0_askEntries_82 rfl (lv_at hl57 1 rfl) ?_
            refine va_get (D := G) (ci := 0) (v := .ref aI) (C := RX0) (T := TX0) (N := 8) hx hb htc iX0 hown hK hw82.1 4 rfl rfl 0 (by decide) (htc _ mw_228) (fun _ h9 => h9) rfl dX0_askEntries_83 ?_
            refine lv_iload hx hb dX0_askEntries_86 (lv_at hl57 5 rfl) ?_
            refine lv_bipush (v := (8 : Int32)) hx hb dX0_askEntries_88 (by decide) ?_
            replace hJ_75 := ob1_some hJ_75
            obtain ⟨r_84, hE_83, hJ_75⟩ := hJ_75
            refine ctV (a := aI) (As := [.int v5_2, .int (8 : Int32)]) (rest := [.ref aU]) (st1 := [.int r_84, .ref aU]) (wc := [oX2 aD aDc D_writesDone D_writesLeft D_down, rI aDc cI 4096 D_cells, oX3 aI aD]) (w1 := [oX2 aD aDc D_writesDone D_writesLeft D_down, rI aDc cI 4096 D_cells, oX3 aI aD]) (wr := [oX8 aU aD U_place_3 U_bitsRead_4 U_started_5 U_time_6 U_value_7 U_rise_8, oX0 aQ aI aG aU Q_ratio aF aZ (Q_looks_9 + (1 : Int32)) (Q_unpacked_10 + (1 : Int32)), oX6 aF F_first_11 F_last_12 F_points_13 F_least_14 F_greatest_15 F_sum_16, oX6 aZ Z_first_50 Z_last_51 Z_points_52 Z_least_53 Z_greatest_54 Z_sum_55]) (wb := [oX2 aD aDc D_writesDone D_writesLeft D_down, rI aDc cI 4096 D_cells, oX3 aI aD, oX8 aU aD U_place_3 U_bitsRead_4 U_started_5 U_time_6 U_value_7 U_rise_8, oX0 aQ aI aG aU Q_ratio aF aZ (Q_looks_9 + (1 : Int32)) (Q_unpacked_10 + (1 : Int32)), oX6 aF F_first_11 F_last_12 F_points_13 F_least_14 F_greatest_15 F_sum_16, oX6 aZ Z_first_50 Z_last_51 Z_points_52 Z_least_53 Z_greatest_54 Z_sum_55]) (v := (some (.int r_84))) hx hb hml hown htc hN (c_X3_at l G cI cZ cJ aD aDc aI D_writesDone D_writesLeft D_down D_cells v5_2 (8 : Int32) hE_83) mw_655 mw_391 mw_392 mw_4 mw_393 hd_X3_at ⟨rfl, rfl⟩ ⟨Nat.le_of_ble_eq_true rfl, Nat.le_of_ble_eq_true rfl⟩ hK hw82 hA [0, 1, 2] [3, 4, 5, 6] [4, 5, 6, 0, 1, 2, 3] rfl rfl rfl rfl rfl (by decide) rfl rfl rfl 2 rfl rfl rfl rfl hl57.1 rfl rfl (Nat.le_of_ble_eq_true rfl) dX0_askEntries_90 ⟨Nat.zero_le _, Nat.zero_le _⟩ (fun H85 locs85 hw85 => ?_)
            clear hw82 H82 locs82
            replace hJ_75 := ob3_some hJ_75
            obtain ⟨U_place_87, U_bitsRead_88, U_started_89, hE_86, hJ_75⟩ := hJ_75
            refine ctV (a := aU) (As := [.int r_84]) (rest := []) (st1 := []) (wc := [oX8 aU aD U_place_3 U_bitsRead_4 U_started_5 U_time_6 U_value_7 U_rise_8]) (w1 := [oX8 aU aD U_place_87 U_bitsRead_88 U_started_89 U_time_6 U_value_7 U_rise_8]) (wr := [oX2 aD aDc D_writesDone D_writesLeft D_down, rI aDc cI 4096 D_cells, oX3 aI aD, oX0 aQ aI aG aU Q_ratio aF aZ (Q_looks_9 + (1 : Int32)) (Q_unpacked_10 + (1 : Int32)), oX6 aF F_first_11 F_last_12 F_points_13 F_least_14 F_greatest_15 F_sum_16, oX6 aZ Z_first_50 Z_last_51 Z_points_52 Z_least_53 Z_greatest_54 Z_sum_55]) (wb := [oX2 aD aDc D_writesDone D_writesLeft D_down, rI aDc cI 4096 D_cells, oX3 aI aD, oX8 aU aD U_place_87 U_bitsRead_88 U_started_89 U_time_6 U_value_7 U_rise_8, oX0 aQ aI aG aU Q_ratio aF aZ (Q_looks_9 + (1 : Int32)) (Q_unpacked_10 + (1 : Int32)), oX6 aF F_first_11 F_last_12 F_points_13 F_least_14 F_greatest_15 F_sum_16, oX6 aZ Z_first_50 Z_last_51 Z_points_52 Z_least_53 Z_greatest_54 Z_sum_55]) (v := none) hx hb hml hown htc hN (c_X8_open l G cI cZ cJ aU aD U_place_3 U_bitsRead_4 U_started_5 U_time_6 U_value_7 U_rise_8 r_84 hE_86) mw_656 mw_576 mw_577 mw_6 mw_578 hd_X8_open ⟨rfl, rfl⟩ ⟨Nat.le_of_ble_eq_true rfl, Nat.le_of_ble_eq_true rfl⟩ hK hw85 hA [3] [0, 1, 2, 4, 5, 6] [0, 1, 2, 6, 3, 4, 5] rfl rfl rfl rfl rfl (by decide) rfl rfl rfl 0 rfl rfl rfl rfl hl57.1 rfl rfl (Nat.le_of_ble_eq_true rfl) dX0_askEntries_93 ⟨Nat.zero_le _, Nat.zero_le _⟩ (fun H90 locs90 hw90 => ?_)
            clear hw85 H85 locs85
            refine lv_iconst (v := (0 : Int32)) hx hb dX0_askEntries_96 (by decide) ?_
            refine lv_istore (lv' := [(7, .int (0 : Int32)), (6, .ref aZ), (0, .ref aQ), (2, .int p1), (3, .int p2), (4, .int p3), (5, .int v5_2)]) hx hb dX0_askEntries_97 hl57 (by decide) rfl (fun ls91 hl91 => ?_)
            clear hl57 ls57
            replace hJ_75 := ob11_some hJ_75
            obtain ⟨U_bitsRead_108, U_started_109, U_time_110, U_value_111, U_rise_112, F_first_113, F_last_114, F_points_115, F_least_116, F_greatest_117, F_sum_118, hL_104, hJ_75⟩ := hJ_75
            have kx_105 : ∀ (H : Heap) (locs : List Loc) (ls : Array Slot), wS G A s H locs [oX2 aD aDc D_writesDone D_writesLeft D_down, rI aDc cI 4096 D_cells, oX3 aI aD, oX8 aU aD U_place_87 U_bitsRead_108 U_started_109 U_time_110 U_value_111 U_rise_112, oX0 aQ aI aG aU Q_ratio aF aZ (Q_looks_9 + (1 : Int32)) (Q_unpacked_10 + (1 : Int32)), oX6 aF F_first_113 F_last_114 F_points_115 F_least_116 F_greatest_117 F_sum_118, oX6 aZ Z_first_50 Z_last_51 Z_points_52 Z_least_53 Z_greatest_54 Z_sum_55] → lv_has ls 8 [(0, .ref aQ), (2, .int p1), (3, .int p2), (4, .int p3), (5, .int v5_2)] → W p l e rm_X0_askEntries s m args below meth c H locs 0 0 QQ (F0 m 143 ls []) := by
              clear hw90 H90 locs90 hl91 ls91 hL_104
              intro H137 locs137 ls137 hw137 hl137
              cases hJ_75
              exact kj_76 _ _ _ hw137 (lv_sub hl137 [0, 1, 2, 3, 4] rfl)
            have lp_106 : ∀ (n : Nat) (v7_92 : Int32) (U_bitsRead_93 : Int32) (U_started_94 : Int32) (U_time_95 : Int32) (U_value_96 : Int32) (U_rise_97 : Int64) (F_first_98 : Int32) (F_last_99 : Int32) (F_points_100 : Int32) (F_least_101 : Int32) (F_greatest_102 : Int32) (F_sum_103 : Int64), lp_X0_askEntries_99 D_cells p2 p3 Z_points_52 U_place_87 n v7_92 U_bitsRead_93 U_started_94 U_time_95 U_value_96 U_rise_97 F_first_98 F_last_99 F_points_100 F_least_101 F_greatest_102 F_sum_103 = some (U_bitsRead_108, U_started_109, U_time_110, U_value_111, U_rise_112, F_first_113, F_last_114, F_points_115, F_least_116, F_greatest_117, F_sum_118) → ∀ (H : Heap) (locs : List Loc) (ls : Array Slot), wS G A s H locs [oX2 aD aDc D_writesDone D_writesLeft D_down, rI aDc cI 4096 D_cells, oX3 aI aD, oX8 aU aD U_place_87 U_bitsRead_93 U_started_94 U_time_95 U_value_96 U_rise_97, oX0 aQ aI aG aU Q_ratio aF aZ (Q_looks_9 + (1 : Int32)) (Q_unpacked_10 + (1 : Int32)), oX6 aF F_first_98 F_last_99 F_points_100 F_least_101 F_greatest_102 F_sum_103, oX6 aZ Z_first_50 Z_last_51 Z_points_52 Z_least_53 Z_greatest_54 Z_sum_55] → lv_has ls 8 [(0, .ref aQ), (2, .int p1), (3, .int p2), (4, .int p3), (5, .int v5_2), (6, .ref aZ), (7, .int v7_92)] → W p l e rm_X0_askEntries s m args below meth c H locs 0 0 QQ (F0 m 99 ls []) := by
              clear hw90 H90 locs90 hl91 ls91 hJ_75
              intro n
              induction n with
              | zero =>
                intro v7_92 U_bitsRead_93 U_started_94 U_time_95 U_value_96 U_rise_97 F_first_98 F_last_99 F_points_100 F_least_101 F_greatest_102 F_sum_103 hB_107
                exact absurd hB_107 (by rw [lp_X0_askEntries_99]; exact fun h9 => nomatch h9)
              | succ n ih =>
                intro v7_92 U_bitsRead_93 U_started_94 U_time_95 U_value_96 U_rise_97 F_first_98 F_last_99 F_points_100 F_least_101 F_greatest_102 F_sum_103 hB_107 H119 locs119 ls119 hw119 hl119
                rw [lp_X0_askEntries_99] at hB_107
                refine lv_iload hx hb dX0_askEntries_99 (lv_at hl119 6 rfl) ?_
                refine lv_aload hx hb dX0_askEntries_101 (lv_at hl119 5 rfl) ?_
                refine va_getN (D := G) (ci := 6) (v := .int Z_points_52) (C := RX6) (T := TX6) (N := 6) hx hb htc iX6 hown hK hw119.1 6 rfl rfl 2 (by decide) (va_Nw.use rfl (hN _ mn_15)) (fun _ h9 => h9) rfl dX0_askEntries_103 ?_
                refine lv_icmp_ge (tgt := 143) hx hb dX0_askEntries_106 (by decide) (fun c_120 => ?_) (fun c_120 => ?_)
                · replace hB_107 := it_t c_120 hB_107
                  cases hB_107
                  exact kx_105 _ _ _ hw119 (lv_sub hl119 [0, 1, 2, 3, 4] rfl)
                · replace hB_107 := it_f c_120 hB_107
                  refine lv_aload_n hx hb dX0_askEntries_109 rfl (lv_at hl119 0 rfl) ?_
                  refine va_get (D := G) (ci := 0) (v := .ref aU) (C := RX0) (T := TX0) (N := 8) hx hb htc iX0 hown hK hw119.1 4 rfl rfl 2 (by decide) (htc _ mw_230) (fun _ h9 => h9) rfl dX0_askEntries_110 ?_
                  replace hB_107 := ob5_some hB_107
                  obtain ⟨U_bitsRead_122, U_started_123, U_time_124, U_value_125, U_rise_126, hE_121, hB_107⟩ := hB_107
                  refine ctV (a := aU) (As := []) (rest := []) (st1 := []) (wc := [oX2 aD aDc D_writesDone D_writesLeft D_down, rI aDc cI 4096 D_cells, oX8 aU aD U_place_87 U_bitsRead_93 U_started_94 U_time_95 U_value_96 U_rise_97]) (w1 := [oX2 aD aDc D_writesDone D_writesLeft D_down, rI aDc cI 4096 D_cells, oX8 aU aD U_place_87 U_bitsRead_122 U_started_123 U_time_124 U_value_125 U_rise_126]) (wr := [oX3 aI aD, oX0 aQ aI aG aU Q_ratio aF aZ (Q_looks_9 + (1 : Int32)) (Q_unpacked_10 + (1 : Int32)), oX6 aF F_first_98 F_last_99 F_points_100 F_least_101 F_greatest_102 F_sum_103, oX6 aZ Z_first_50 Z_last_51 Z_points_52 Z_least_53 Z_greatest_54 Z_sum_55]) (wb := [oX2 aD aDc D_writesDone D_writesLeft D_down, rI aDc cI 4096 D_cells, oX3 aI aD, oX8 aU aD U_place_87 U_bitsRead_122 U_started_123 U_time_124 U_value_125 U_rise_126, oX0 aQ aI aG aU Q_ratio aF aZ (Q_looks_9 + (1 : Int32)) (Q_unpacked_10 + (1 : Int32)), oX6 aF F_first_98 F_last_99 F_points_100 F_least_101 F_greatest_102 F_sum_103, oX6 aZ Z_first_50 Z_last_51 Z_points_52 Z_least_53 Z_greatest_54 Z_sum_55]) (v := none) hx hb hml hown htc hN (c_X8_step l G cI cZ cJ aD aDc aU D_writesDone D_writesLeft D_down D_cells U_place_87 U_bitsRead_93 U_started_94 U_time_95 U_value_96 U_rise_97  hE_121) mw_657 mw_580 mw_581 mw_6 mw_582 hd_X8_step ⟨rfl, rfl⟩ ⟨Nat.le_of_ble_eq_true rfl, Nat.le_of_ble_eq_true rfl⟩ hK hw119 hA [0, 1, 3] [2, 4, 5, 6] [4, 5, 0, 6, 1, 2, 3] rfl rfl rfl rfl rfl (by decide) rfl rfl rfl 2 rfl rfl rfl rfl hl119.1 rfl rfl (Nat.le_of_ble_eq_true rfl) dX0_askEntries_113 ⟨Nat.zero_le _, Nat.zero_le _⟩ (fun H127 locs127 hw127 => ?_)
                  clear hw119 H119 locs119
                  refine lv_aload_n hx hb dX0_askEntries_116 rfl (lv_at hl119 0 rfl) ?_
                  refine lv_aload_n hx hb dX0_askEntries_117 rfl (lv_at hl119 0 rfl) ?_
                  refine va_get (D := G) (ci := 0) (v := .ref aU) (C := RX0) (T := TX0) (N := 8) hx hb htc iX0 hown hK hw127.1 4 rfl rfl 2 (by decide) (htc _ mw_230) (fun _ h9 => h9) rfl dX0_askEntries_118 ?_
                  refine va_getN (D := G) (ci := 8) (v := .int U_time_124) (C := RX8) (T := TX8) (N := 7) hx hb htc iX8 hown hK hw127.1 3 rfl rfl 4 (by decide) (va_Nw.use rfl (hN _ mn_2)) (fun _ h9 => h9) rfl dX0_askEntries_121 ?_
                  refine lv_aload_n hx hb dX0_askEntries_124 rfl (lv_at hl119 0 rfl) ?_
                  refine va_get (D := G) (ci := 0) (v := .ref aU) (C := RX0) (T := TX0) (N := 8) hx hb htc iX0 hown hK hw127.1 4 rfl rfl 2 (by decide) (htc _ mw_230) (fun _ h9 => h9) rfl dX0_askEntries_125 ?_
                  refine va_getN (D := G) (ci := 8) (v := .int U_value_125) (C := RX8) (T := TX8) (N := 7) hx hb htc iX8 hown hK hw127.1 3 rfl rfl 5 (by decide) (va_Nw.use rfl (hN _ mn_5)) (fun _ h9 => h9) rfl dX0_askEntries_128 ?_
                  refine lv_iload_n hx hb dX0_askEntries_131 rfl (lv_at hl119 2 rfl) ?_
                  refine lv_iload hx hb dX0_askEntries_132 (lv_at hl119 3 rfl) ?_
                  replace hB_107 := ob6_some hB_107
                  obtain ⟨F_first_129, F_last_130, F_points_131, F_least_132, F_greatest_133, F_sum_134, hE_128, hB_107⟩ := hB_107
                  refine ctV (a := aQ) (As := [.int U_time_124, .int U_value_125, .int p2, .int p3]) (rest := []) (st1 := []) (wc := [oX0 aQ aI aG aU Q_ratio aF aZ (Q_looks_9 + (1 : Int32)) (Q_unpacked_10 + (1 : Int32)), oX6 aF F_first_98 F_last_99 F_points_100 F_least_101 F_greatest_102 F_sum_103]) (w1 := [oX0 aQ aI aG aU Q_ratio aF aZ (Q_looks_9 + (1 : Int32)) (Q_unpacked_10 + (1 : Int32)), oX6 aF F_first_129 F_last_130 F_points_131 F_least_132 F_greatest_133 F_sum_134]) (wr := [oX2 aD aDc D_writesDone D_writesLeft D_down, rI aDc cI 4096 D_cells, oX3 aI aD, oX8 aU aD U_place_87 U_bitsRead_122 U_started_123 U_time_124 U_value_125 U_rise_126, oX6 aZ Z_first_50 Z_last_51 Z_points_52 Z_least_53 Z_greatest_54 Z_sum_55]) (wb := [oX2 aD aDc D_writesDone D_writesLeft D_down, rI aDc cI 4096 D_cells, oX3 aI aD, oX8 aU aD U_place_87 U_bitsRead_122 U_started_123 U_time_124 U_value_125 U_rise_126, oX0 aQ aI aG aU Q_ratio aF aZ (Q_looks_9 + (1 : Int32)) (Q_unpacked_10 + (1 : Int32)), oX6 aF F_first_129 F_last_130 F_points_131 F_least_132 F_greatest_133 F_sum_134, oX6 aZ Z_first_50 Z_last_51 Z_points_52 Z_least_53 Z_greatest_54 Z_sum_55]) (v := none) hx hb hml hown htc hN (c_X0_addIfAsked l G cI cZ cJ aQ aI aG aU aF aZ Q_ratio (Q_looks_9 + (1 : Int32)) (Q_unpacked_10 + (1 : Int32)) F_first_98 F_last_99 F_points_100 F_least_101 F_greatest_102 F_sum_103 U_time_124 U_value_125 p2 p3 hE_128) mw_658 mw_660 mp_22 mw_10 mw_661 hd_X0_addIfAsked ⟨rfl, rfl⟩ ⟨Nat.le_of_ble_eq_true rfl, Nat.le_of_ble_eq_true rfl⟩ hK hw127 hA [4, 5] [0, 1, 2, 3, 6] [0, 1, 2, 3, 5, 6, 4] rfl rfl rfl rfl rfl (by decide) rfl rfl rfl 0 rfl rfl rfl rfl hl119.1 rfl rfl (Nat.le_of_ble_eq_true rfl) dX0_askEntries_134 ⟨Nat.zero_le _, Nat.zero_le _⟩ (fun H135 locs135 hw135 => ?_)
                  clear hw127 H127 locs127
                  refine lv_iinc (v := (v7_92 + (1 : Int32))) (lv' := [(7, .int (v7_92 + (1 : Int32))), (0, .ref aQ), (2, .int p1), (3, .int p2), (4, .int p3), (5, .int v5_2), (6, .ref aZ)]) hx hb dX0_askEntries_137 hl119 (k := 6) rfl rfl (by decide) rfl (fun ls136 hl136 => ?_)
                  clear hl119 ls119
                  refine lv_goto (tgt := 99) hx hb dX0_askEntries_140 (by decide) ?_
                  exact ih (v7_92 + (1 : Int32)) U_bitsRead_122 U_started_123 U_time_124 U_value_125 U_rise_126 F_first_129 F_last_130 F_points_131 F_least_132 F_greatest_133 F_sum_134 hB_107 _ _ _ hw135 (lv_sub hl136 [1, 2, 3, 4, 5, 6, 0] rfl)
            exact lp_106 NN (0 : Int32) U_bitsRead_88 U_started_89 U_time_6 U_value_7 U_rise_8 F_first_11 F_last_12 F_points_13 F_least_14 F_greatest_15 F_sum_16 hL_104 _ _ _ hw90 (lv_sub hl91 [2, 3, 4, 5, 6, 1, 0] rfl)
          · replace hJ_75 := it_f c_81 hJ_75
            refine lv_aload_n hx hb dX0_askEntries_56 rfl (lv_at hl57 1 rfl) ?_
            refine va_get (D := G) (ci := 0) (v := .ref aF) (C := RX0) (T := TX0) (N := 8) hx hb htc iX0 hown hK hw80.1 4 rfl rfl 4 (by decide) (htc _ mw_232) (fun _ h9 => h9) rfl dX0_askEntries_57 ?_
            refine lv_aload hx hb dX0_askEntries_60 (lv_at hl57 0 rfl) ?_
            replace hJ_75 := ob6_some hJ_75
            obtain ⟨F_first_139, F_last_140, F_points_141, F_least_142, F_greatest_143, F_sum_144, hE_138, hJ_75⟩ := hJ_75
            refine ctV (a := aF) (As := [.ref aZ]) (rest := []) (st1 := []) (wc := [oX6 aF F_first_11 F_last_12 F_points_13 F_least_14 F_greatest_15 F_sum_16, oX6 aZ Z_first_50 Z_last_51 Z_points_52 Z_least_53 Z_greatest_54 Z_sum_55]) (w1 := [oX6 aF F_first_139 F_last_140 F_points_141 F_least_142 F_greatest_143 F_sum_144, oX6 aZ Z_first_50 Z_last_51 Z_points_52 Z_least_53 Z_greatest_54 Z_sum_55]) (wr := [oX2 aD aDc D_writesDone D_writesLeft D_down, rI aDc cI 4096 D_cells, oX3 aI aD, oX8 aU aD U_place_3 U_bitsRead_4 U_started_5 U_time_6 U_value_7 U_rise_8, oX0 aQ aI aG aU Q_ratio aF aZ (Q_looks_9 + (1 : Int32)) Q_unpacked_10]) (wb := [oX2 aD aDc D_writesDone D_writesLeft D_down, rI aDc cI 4096 D_cells, oX3 aI aD, oX8 aU aD U_place_3 U_bitsRead_4 U_started_5 U_time_6 U_value_7 U_rise_8, oX0 aQ aI aG aU Q_ratio aF aZ (Q_looks_9 + (1 : Int32)) Q_unpacked_10, oX6 aF F_first_139 F_last_140 F_points_141 F_least_142 F_greatest_143 F_sum_144, oX6 aZ Z_first_50 Z_last_51 Z_points_52 Z_least_53 Z_greatest_54 Z_sum_55]) (v := none) hx hb hml hown htc hN (c_X6_addSummary l G cI cZ cJ aF aZ F_first_11 F_last_12 F_points_13 F_least_14 F_greatest_15 F_sum_16 Z_first_50 Z_last_51 Z_points_52 Z_least_53 Z_greatest_54 Z_sum_55  hE_138) mw_647 mw_648 mw_649 mw_9 mw_650 hd_X6_addSummary ⟨rfl, rfl⟩ ⟨Nat.le_of_ble_eq_true rfl, Nat.le_of_ble_eq_true rfl⟩ hK hw80 hA [5, 6] [0, 1, 2, 3, 4] [0, 1, 2, 3, 4, 5, 6] rfl rfl rfl rfl rfl (by decide) rfl rfl rfl 0 rfl rfl rfl rfl hl57.1 rfl rfl (Nat.le_of_ble_eq_true rfl) dX0_askEntries_62 ⟨Nat.zero_le _, Nat.zero_le _⟩ (fun H145 locs145 hw145 => ?_)
            clear hw80 H80 locs80
            refine lv_goto (tgt := 143) hx hb dX0_askEntries_65 (by decide) ?_
            cases hJ_75
            exact kj_76 _ _ _ hw145 (lv_sub hl57 [1, 2, 3, 4, 5] rfl)
        · replace hJ_75 := it_f c_77 hJ_75
          refine lv_goto (tgt := 143) hx hb dX0_askEntries_42 (by decide) ?_
          cases hJ_75
          exact kj_76 _ _ _ hw61 (lv_sub hl57 [1, 2, 3, 4, 5] rfl)
  exact lp_25 NN p0 U_place U_bitsRead U_started U_time U_value U_rise Q_looks Q_unpacked F_first F_last F_points F_least F_greatest F_sum Z_first Z_last Z_points Z_least Z_greatest Z_sum hL_23 _ _ _ hw0 (lv_sub hl1 [1, 3, 4, 5, 0] rfl)
abbrev rm_X0_askHead : Room := { frames := 4, cells := 0, slots := 0, locals := 95 }
theorem hd_X0_askHead : yX0_askHead.cls = RX0 ∧ yX0_askHead.cls ≠ "java/lang/invoke/MethodHandle" ∧ yX0_askHead.cls ≠ "java/lang/invoke/VarHandle" ∧ (parseMethodDescriptor yX0_askHead.desc).map (fun d => d.parameters.length) = some 3 := by decide +kernel
set_option maxHeartbeats 4000000 in
set_option maxRecDepth 100000 in
theorem c_X0_askHead (l : Launch) (G : va_G) (cI cZ cJ : ClassId) (aD aDc aG aQ aI aU aF aZ : Nat) (D_writesDone : Int32) (D_writesLeft : Int32) (D_down : Int32) (D_cells : Nat → Int32) (G_logged : Int32) (Q_ratio : Int32) (Q_looks : Int32) (Q_unpacked : Int32) (F_first : Int32) (F_last : Int32) (F_points : Int32) (F_least : Int32) (F_greatest : Int32) (F_sum : Int64) (p0 : Int32) (p1 : Int32) (p2 : Int32) {o_F_first : Int32} {o_F_last : Int32} {o_F_points : Int32} {o_F_least : Int32} {o_F_greatest : Int32} {o_F_sum : Int64} (hfin : m_X0_askHead D_cells G_logged F_first F_last F_points F_least F_greatest F_sum p0 p1 p2 = some (o_F_first, o_F_last, o_F_points, o_F_least, o_F_greatest, o_F_sum)) : CT l yX0_askHead cX0_askHead 5 none rm_X0_askHead G (tyC cI cZ cJ) [.ref aQ, .int p0, .int p1, .int p2] [oX2 aD aDc D_writesDone D_writesLeft D_down, rI aDc cI 4096 D_cells, oX4 aG aD G_logged, oX0 aQ aI aG aU Q_ratio aF aZ Q_looks Q_unpacked, oX6 aF F_first F_last F_points F_least F_greatest F_sum] none [oX2 aD aDc D_writesDone D_writesLeft D_down, rI aDc cI 4096 D_cells, oX4 aG aD G_logged, oX0 aQ aI aG aU Q_ratio aF aZ Q_looks Q_unpacked, oX6 aF o_F_first o_F_last o_F_points o_F_least o_F_greatest o_F_sum] := by
  refine CT.ofW (lvl := [(0, .ref aQ), (1, .int p0), (2, .int p1), (3, .int p2)]) (by decide) (Nat.le_of_ble_eq_true rfl) rfl ?_
  intro p e s m args below meth c A ls0 QQ hQQ hx hb hml hr hlocks htc hN hown hK hA hw0 hl0
  rw [m_X0_askHead] at hfin
  refine lv_iconst (v := (0 : Int32)) hx hb dX0_askHead_0 (by decide) ?_
  refine lv_istore (lv' := [(4, .int (0 : Int32)), (0, .ref aQ), (1, .int p0), (2, .int p1), (3, .int p2)]) hx hb dX0_askHead_1 hl0 (by decide) rfl (fun ls1 hl1 => ?_)
  clear hl0 ls0
  replace hfin := ob6_some hfin
  obtain ⟨F_first_13, F_last_14, F_points_15, F_least_16, F_greatest_17, F_sum_18, hL_9, hfin⟩ := hfin
  have kx_10 : ∀ (H : Heap) (locs : List Loc) (ls : Array Slot), wS G A s H locs [oX2 aD aDc D_writesDone D_writesLeft D_down, rI aDc cI 4096 D_cells, oX4 aG aD G_logged, oX0 aQ aI aG aU Q_ratio aF aZ Q_looks Q_unpacked, oX6 aF F_first_13 F_last_14 F_points_15 F_least_16 F_greatest_17 F_sum_18] → lv_has ls 5 [] → W p l e rm_X0_askHead s m args below meth c H locs 0 0 QQ (F0 m 61 ls []) := by
    clear hw0 hl1 ls1 hL_9
    intro H52 locs52 ls52 hw52 hl52
    cases hfin
    rw [hQQ]
    exact ct_vret hx hb hr hlocks hw52.1 hw52.2.1 hw52.2.2 dX0_askHead_61
  have lp_11 : ∀ (n : Nat) (v4_2 : Int32) (F_first_3 : Int32) (F_last_4 : Int32) (F_points_5 : Int32) (F_least_6 : Int32) (F_greatest_7 : Int32) (F_sum_8 : Int64), lp_X0_askHead_3 D_cells G_logged p0 p1 p2 n v4_2 F_first_3 F_last_4 F_points_5 F_least_6 F_greatest_7 F_sum_8 = some (F_first_13, F_last_14, F_points_15, F_least_16, F_greatest_17, F_sum_18) → ∀ (H : Heap) (locs : List Loc) (ls : Array Slot), wS G A s H locs [oX2 aD aDc D_writesDone D_writesLeft D_down, rI aDc cI 4096 D_cells, oX4 aG aD G_logged, oX0 aQ aI aG aU Q_ratio aF aZ Q_looks Q_unpacked, oX6 aF F_first_3 F_last_4 F_points_5 F_least_6 F_greatest_7 F_sum_8] → lv_has ls 5 [(0, .ref aQ), (1, .int p0), (2, .int p1), (3, .int p2), (4, .int v4_2)] → W p l e rm_X0_askHead s m args below meth c H locs 0 0 QQ (F0 m 3 ls []) := by
    clear hw0 hl1 ls1 hfin
    intro n
    induction n with
    | zero =>
      intro v4_2 F_first_3 F_last_4 F_points_5 F_least_6 F_greatest_7 F_sum_8 hB_12
      exact absurd hB_12 (by rw [lp_X0_askHead_3]; exact fun h9 => nomatch h9)
    | succ n ih =>
      intro v4_2 F_first_3 F_last_4 F_points_5 F_least_6 F_greatest_7 F_sum_8 hB_12 H19 locs19 ls19 hw19 hl19
      rw [lp_X0_askHead_3] at hB_12
      refine lv_iload hx hb dX0_askHead_3 (lv_at hl19 4 rfl) ?_
      refine lv_aload_n hx hb dX0_askHead_5 rfl (lv_at hl19 0 rfl) ?_
      refine va_get (D := G) (ci := 0) (v := .ref aG) (C := RX0) (T := TX0) (N := 8) hx hb htc iX0 hown hK hw19.1 3 rfl rfl 1 (by decide) (htc _ mw_229) (fun _ h9 => h9) rfl dX0_askHead_6 ?_
      replace hB_12 := ob1_some hB_12
      obtain ⟨r_21, hE_20, hB_12⟩ := hB_12
      refine ctV (a := aG) (As := []) (rest := [.int v4_2]) (st1 := [.int r_21, .int v4_2]) (wc := [oX4 aG aD G_logged]) (w1 := [oX4 aG aD G_logged]) (wr := [oX2 aD aDc D_writesDone D_writesLeft D_down, rI aDc cI 4096 D_cells, oX0 aQ aI aG aU Q_ratio aF aZ Q_looks Q_unpacked, oX6 aF F_first_3 F_last_4 F_points_5 F_least_6 F_greatest_7 F_sum_8]) (wb := [oX2 aD aDc D_writesDone D_writesLeft D_down, rI aDc cI 4096 D_cells, oX4 aG aD G_logged, oX0 aQ aI aG aU Q_ratio aF aZ Q_looks Q_unpacked, oX6 aF F_first_3 F_last_4 F_points_5 F_least_6 F_greatest_7 F_sum_8]) (v := (some (.int r_21))) hx hb hml hown htc hN (c_X4_logged l G cI cZ cJ aG aD G_logged  hE_20) mw_667 mw_417 mw_418 mw_5 mw_419 hd_X4_logged ⟨rfl, rfl⟩ ⟨Nat.le_of_ble_eq_true rfl, Nat.le_of_ble_eq_true rfl⟩ hK hw19 hA [2] [0, 1, 3, 4] [0, 1, 4, 2, 3] rfl rfl rfl rfl rfl (by decide) rfl rfl rfl 0 rfl rfl rfl rfl hl19.1 rfl rfl (Nat.le_of_ble_eq_true rfl) dX0_askHead_9 ⟨Nat.zero_le _, Nat.zero_le _⟩ (fun H22 locs22 hw22 => ?_)
      clear hw19 H19 locs19
      refine lv_icmp_ge (tgt := 61) hx hb dX0_askHead_12 (by decide) (fun c_23 => ?_) (fun c_23 => ?_)
      · replace hB_12 := it_t c_23 hB_12
        cases hB_12
        exact kx_10 _ _ _ hw22 (lv_sub hl19 [] rfl)
      · replace hB_12 := it_f c_23 hB_12
        refine lv_aload_n hx hb dX0_askHead_15 rfl (lv_at hl19 0 rfl) ?_
        refine va_get (D := G) (ci := 0) (v := .ref aG) (C := RX0) (T := TX0) (N := 8) hx hb htc iX0 hown hK hw22.1 3 rfl rfl 1 (by decide) (htc _ mw_229) (fun _ h9 => h9) rfl dX0_askHead_16 ?_
        refine lv_iload hx hb dX0_askHead_19 (lv_at hl19 4 rfl) ?_
        refine lv_iconst (v := (0 : Int32)) hx hb dX0_askHead_21 (by decide) ?_
        replace hB_12 := ob1_some hB_12
        obtain ⟨r_25, hE_24, hB_12⟩ := hB_12
        refine ctV (a := aG) (As := [.int v4_2, .int (0 : Int32)]) (rest := []) (st1 := [.int r_25]) (wc := [oX2 aD aDc D_writesDone D_writesLeft D_down, rI aDc cI 4096 D_cells, oX4 aG aD G_logged]) (w1 := [oX2 aD aDc D_writesDone D_writesLeft D_down, rI aDc cI 4096 D_cells, oX4 aG aD G_logged]) (wr := [oX0 aQ aI aG aU Q_ratio aF aZ Q_looks Q_unpacked, oX6 aF F_first_3 F_last_4 F_points_5 F_least_6 F_greatest_7 F_sum_8]) (wb := [oX2 aD aDc D_writesDone D_writesLeft D_down, rI aDc cI 4096 D_cells, oX4 aG aD G_logged, oX0 aQ aI aG aU Q_ratio aF aZ Q_looks Q_unpacked, oX6 aF F_first_3 F_last_4 F_points_5 F_least_6 F_greatest_7 F_sum_8]) (v := (some (.int r_25))) hx hb hml hown htc hN (c_X4_at l G cI cZ cJ aD aDc aG D_writesDone D_writesLeft D_down D_cells G_logged v4_2 (0 : Int32) hE_24) mw_668 mw_362 mw_363 mw_5 mw_364 hd_X4_at ⟨rfl, rfl⟩ ⟨Nat.le_of_ble_eq_true rfl, Nat.le_of_ble_eq_true rfl⟩ hK hw22 hA [0, 1, 2] [3, 4] [2, 3, 4, 0, 1] rfl rfl rfl rfl rfl (by decide) rfl rfl rfl 2 rfl rfl rfl rfl hl19.1 rfl rfl (Nat.le_of_ble_eq_true rfl) dX0_askHead_22 ⟨Nat.zero_le _, Nat.zero_le _⟩ (fun H26 locs26 hw26 => ?_)
        clear hw22 H22 locs22
        refine lv_iload_n hx hb dX0_askHead_25 rfl (lv_at hl19 1 rfl) ?_
        replace hB_12 := ob6_some hB_12
        obtain ⟨F_first_27, F_last_28, F_points_29, F_least_30, F_greatest_31, F_sum_32, hJ_33, hB_12⟩ := hB_12
        have kj_34 : ∀ (H : Heap) (locs : List Loc) (ls : Array Slot), wS G A s H locs [oX2 aD aDc D_writesDone D_writesLeft D_down, rI aDc cI 4096 D_cells, oX4 aG aD G_logged, oX0 aQ aI aG aU Q_ratio aF aZ Q_looks Q_unpacked, oX6 aF F_first_27 F_last_28 F_points_29 F_least_30 F_greatest_31 F_sum_32] → lv_has ls 5 [(0, .ref aQ), (1, .int p0), (2, .int p1), (3, .int p2), (4, .int v4_2)] → W p l e rm_X0_askHead s m args below meth c H locs 0 0 QQ (F0 m 55 ls []) := by
          clear hw26 H26 locs26 hl19 ls19 hJ_33
          intro H50 locs50 ls50 hw50 hl50
          refine lv_iinc (v := (v4_2 + (1 : Int32))) (lv' := [(4, .int (v4_2 + (1 : Int32))), (0, .ref aQ), (1, .int p0), (2, .int p1), (3, .int p2)]) hx hb dX0_askHead_55 hl50 (k := 4) rfl rfl (by decide) rfl (fun ls51 hl51 => ?_)
          clear hl50 ls50
          refine lv_goto (tgt := 3) hx hb dX0_askHead_58 (by decide) ?_
          exact ih (v4_2 + (1 : Int32)) F_first_27 F_last_28 F_points_29 F_least_30 F_greatest_31 F_sum_32 hB_12 _ _ _ hw50 (lv_sub hl51 [1, 2, 3, 4, 0] rfl)
        clear hB_12
        refine lv_icmp_ne (tgt := 55) hx hb dX0_askHead_26 (by decide) (fun c_35 => ?_) (fun c_35 => ?_)
        · replace hJ_33 := it_f c_35 hJ_33
          cases hJ_33
          exact kj_34 _ _ _ hw26 (lv_sub hl19 [0, 1, 2, 3, 4] rfl)
        · replace hJ_33 := it_t c_35 hJ_33
          refine lv_aload_n hx hb dX0_askHead_29 rfl (lv_at hl19 0 rfl) ?_
          refine lv_aload_n hx hb dX0_askHead_30 rfl (lv_at hl19 0 rfl) ?_
          refine va_get (D := G) (ci := 0) (v := .ref aG) (C := RX0) (T := TX0) (N := 8) hx hb htc iX0 hown hK hw26.1 3 rfl rfl 1 (by decide) (htc _ mw_229) (fun _ h9 => h9) rfl dX0_askHead_31 ?_
          refine lv_iload hx hb dX0_askHead_34 (lv_at hl19 4 rfl) ?_
          refine lv_iconst (v := (1 : Int32)) hx hb dX0_askHead_36 (by decide) ?_
          replace hJ_33 := ob1_some hJ_33
          obtain ⟨r_37, hE_36, hJ_33⟩ := hJ_33
          refine ctV (a := aG) (As := [.int v4_2, .int (1 : Int32)]) (rest := [.ref aQ]) (st1 := [.int r_37, .ref aQ]) (wc := [oX2 aD aDc D_writesDone D_writesLeft D_down, rI aDc cI 4096 D_cells, oX4 aG aD G_logged]) (w1 := [oX2 aD aDc D_writesDone D_writesLeft D_down, rI aDc cI 4096 D_cells, oX4 aG aD G_logged]) (wr := [oX0 aQ aI aG aU Q_ratio aF aZ Q_looks Q_unpacked, oX6 aF F_first_3 F_last_4 F_points_5 F_least_6 F_greatest_7 F_sum_8]) (wb := [oX2 aD aDc D_writesDone D_writesLeft D_down, rI aDc cI 4096 D_cells, oX4 aG aD G_logged, oX0 aQ aI aG aU Q_ratio aF aZ Q_looks Q_unpacked, oX6 aF F_first_3 F_last_4 F_points_5 F_least_6 F_greatest_7 F_sum_8]) (v := (some (.int r_37))) hx hb hml hown htc hN (c_X4_at l G cI cZ cJ aD aDc aG D_writesDone D_writesLeft D_down D_cells G_logged v4_2 (1 : Int32) hE_36) mw_668 mw_362 mw_363 mw_5 mw_364 hd_X4_at ⟨rfl, rfl⟩ ⟨Nat.le_of_ble_eq_true rfl, Nat.le_of_ble_eq_true rfl⟩ hK hw26 hA [0, 1, 2] [3, 4] [2, 3, 4, 0, 1] rfl rfl rfl rfl rfl (by decide) rfl rfl rfl 2 rfl rfl rfl rfl hl19.1 rfl rfl (Nat.le_of_ble_eq_true rfl) dX0_askHead_37 ⟨Nat.zero_le _, Nat.zero_le _⟩ (fun H38 locs38 hw38 => ?_)
          clear hw26 H26 locs26
          refine lv_aload_n hx hb dX0_askHead_40 rfl (lv_at hl19 0 rfl) ?_
          refine va_get (D := G) (ci := 0) (v := .ref aG) (C := RX0) (T := TX0) (N := 8) hx hb htc iX0 hown hK hw38.1 3 rfl rfl 1 (by decide) (htc _ mw_229) (fun _ h9 => h9) rfl dX0_askHead_41 ?_
          refine lv_iload hx hb dX0_askHead_44 (lv_at hl19 4 rfl) ?_
          refine lv_iconst (v := (2 : Int32)) hx hb dX0_askHead_46 (by decide) ?_
          replace hJ_33 := ob1_some hJ_33
          obtain ⟨r_40, hE_39, hJ_33⟩ := hJ_33
          refine ctV (a := aG) (As := [.int v4_2, .int (2 : Int32)]) (rest := [.int r_37, .ref aQ]) (st1 := [.int r_40, .int r_37, .ref aQ]) (wc := [oX2 aD aDc D_writesDone D_writesLeft D_down, rI aDc cI 4096 D_cells, oX4 aG aD G_logged]) (w1 := [oX2 aD aDc D_writesDone D_writesLeft D_down, rI aDc cI 4096 D_cells, oX4 aG aD G_logged]) (wr := [oX0 aQ aI aG aU Q_ratio aF aZ Q_looks Q_unpacked, oX6 aF F_first_3 F_last_4 F_points_5 F_least_6 F_greatest_7 F_sum_8]) (wb := [oX2 aD aDc D_writesDone D_writesLeft D_down, rI aDc cI 4096 D_cells, oX4 aG aD G_logged, oX0 aQ aI aG aU Q_ratio aF aZ Q_looks Q_unpacked, oX6 aF F_first_3 F_last_4 F_points_5 F_least_6 F_greatest_7 F_sum_8]) (v := (some (.int r_40))) hx hb hml hown htc hN (c_X4_at l G cI cZ cJ aD aDc aG D_writesDone D_writesLeft D_down D_cells G_logged v4_2 (2 : Int32) hE_39) mw_668 mw_362 mw_363 mw_5 mw_364 hd_X4_at ⟨rfl, rfl⟩ ⟨Nat.le_of_ble_eq_true rfl, Nat.le_of_ble_eq_true rfl⟩ hK hw38 hA [0, 1, 2] [3, 4] [2, 3, 4, 0, 1] rfl rfl rfl rfl rfl (by decide) rfl rfl rfl 2 rfl rfl rfl rfl hl19.1 rfl rfl (Nat.le_of_ble_eq_true rfl) dX0_askHead_47 ⟨Nat.zero_le _, Nat.zero_le _⟩ (fun H41 locs41 hw41 => ?_)
          clear hw38 H38 locs38
          refine lv_iload_n hx hb dX0_askHead_50 rfl (lv_at hl19 2 rfl) ?_
          refine lv_iload_n hx hb dX0_askHead_51 rfl (lv_at hl19 3 rfl) ?_
          replace hJ_33 := ob6_some hJ_33
          obtain ⟨F_first_43, F_last_44, F_points_45, F_least_46, F_greatest_47, F_sum_48, hE_42, hJ_33⟩ := hJ_33
          refine ctV (a := aQ) (As := [.int r_37, .int r_40, .int p1, .int p2]) (rest := []) (st1 := []) (wc := [oX0 aQ aI aG aU Q_ratio aF aZ Q_looks Q_unpacked, oX6 aF F_first_3 F_last_4 F_points_5 F_least_6 F_greatest_7 F_sum_8]) (w1 := [oX0 aQ aI aG aU Q_ratio aF aZ Q_looks Q_unpacked, oX6 aF F_first_43 F_last_44 F_points_45 F_least_46 F_greatest_47 F_sum_48]) (wr := [oX2 aD aDc D_writesDone D_writesLeft D_down, rI aDc cI 4096 D_cells, oX4 aG aD G_logged]) (wb := [oX2 aD aDc D_writesDone D_writesLeft D_down, rI aDc cI 4096 D_cells, oX4 aG aD G_logged, oX0 aQ aI aG aU Q_ratio aF aZ Q_looks Q_unpacked, oX6 aF F_first_43 F_last_44 F_points_45 F_least_46 F_greatest_47 F_sum_48]) (v := none) hx hb hml hown htc hN (c_X0_addIfAsked l G cI cZ cJ aQ aI aG aU aF aZ Q_ratio Q_looks Q_unpacked F_first_3 F_last_4 F_points_5 F_least_6 F_greatest_7 F_sum_8 r_37 r_40 p1 p2 hE_42) mw_658 mw_660 mp_22 mw_10 mw_661 hd_X0_addIfAsked ⟨rfl, rfl⟩ ⟨Nat.le_of_ble_eq_true rfl, Nat.le_of_ble_eq_true rfl⟩ hK hw41 hA [3, 4] [0, 1, 2] [0, 1, 2, 3, 4] rfl rfl rfl rfl rfl (by decide) rfl rfl rfl 0 rfl rfl rfl rfl hl19.1 rfl rfl (Nat.le_of_ble_eq_true rfl) dX0_askHead_52 ⟨Nat.zero_le _, Nat.zero_le _⟩ (fun H49 locs49 hw49 => ?_)
          clear hw41 H41 locs41
          cases hJ_33
          exact kj_34 _ _ _ hw49 (lv_sub hl19 [0, 1, 2, 3, 4] rfl)
  exact lp_11 NN (0 : Int32) F_first F_last F_points F_least F_greatest F_sum hL_9 _ _ _ hw0 (lv_sub hl1 [1, 2, 3, 4, 0] rfl)
abbrev rm_X0_ask : Room := { frames := 5, cells := 0, slots := 0, locals := 125 }
theorem hd_X0_ask : yX0_ask.cls = RX0 ∧ yX0_ask.cls ≠ "java/lang/invoke/MethodHandle" ∧ yX0_ask.cls ≠ "java/lang/invoke/VarHandle" ∧ (parseMethodDescriptor yX0_ask.desc).map (fun d => d.parameters.length) = some 3 := by decide +kernel
set_option maxHeartbeats 4000000 in
set_option maxRecDepth 100000 in
theorem c_X0_ask (l : Launch) (G : va_G) (cI cZ cJ : ClassId) (aD aDc aI aG aU aQ aF aZ : Nat) (D_writesDone : Int32) (D_writesLeft : Int32) (D_down : Int32) (D_cells : Nat → Int32) (G_logged : Int32) (U_place : Int32) (U_bitsRead : Int32) (U_started : Int32) (U_time : Int32) (U_value : Int32) (U_rise : Int64) (Q_ratio : Int32) (Q_looks : Int32) (Q_unpacked : Int32) (F_first : Int32) (F_last : Int32) (F_points : Int32) (F_least : Int32) (F_greatest : Int32) (F_sum : Int64) (Z_first : Int32) (Z_last : Int32) (Z_points : Int32) (Z_least : Int32) (Z_greatest : Int32) (Z_sum : Int64) (p0 : Int32) (p1 : Int32) (p2 : Int32) {o_U_place : Int32} {o_U_bitsRead : Int32} {o_U_started : Int32} {o_U_time : Int32} {o_U_value : Int32} {o_U_rise : Int64} {o_Q_looks : Int32} {o_Q_unpacked : Int32} {o_F_first : Int32} {o_F_last : Int32} {o_F_points : Int32} {o_F_least : Int32} {o_F_greatest : Int32} {o_F_sum : Int64} {o_Z_first : Int32} {o_Z_last : Int32} {o_Z_points : Int32} {o_Z_least : Int32} {o_Z_greatest : Int32} {o_Z_sum : Int64} (hfin : m_X0_ask D_cells G_logged U_place U_bitsRead U_started U_time U_value U_rise Q_ratio Q_looks Q_unpacked F_first F_last F_points F_least F_greatest F_sum Z_first Z_last Z_points Z_least Z_greatest Z_sum p0 p1 p2 = some (o_U_place, o_U_bitsRead, o_U_started, o_U_time, o_U_value, o_U_rise, o_Q_looks, o_Q_unpacked, o_F_first, o_F_last, o_F_points, o_F_least, o_F_greatest, o_F_sum, o_Z_first, o_Z_last, o_Z_points, o_Z_least, o_Z_greatest, o_Z_sum)) : CT l yX0_ask cX0_ask 9 (some (.object "PointLedger$Summary")) rm_X0_ask G (tyC cI cZ cJ) [.ref aQ, .int p0, .int p1, .int p2] [oX2 aD aDc D_writesDone D_writesLeft D_down, rI aDc cI 4096 D_cells, oX3 aI aD, oX4 aG aD G_logged, oX8 aU aD U_place U_bitsRead U_started U_time U_value U_rise, oX0 aQ aI aG aU Q_ratio aF aZ Q_looks Q_unpacked, oX6 aF F_first F_last F_points F_least F_greatest F_sum, oX6 aZ Z_first Z_last Z_points Z_least Z_greatest Z_sum] (some (.ref aF)) [oX2 aD aDc D_writesDone D_writesLeft D_down, rI aDc cI 4096 D_cells, oX3 aI aD, oX4 aG aD G_logged, oX8 aU aD o_U_place o_U_bitsRead o_U_started o_U_time o_U_value o_U_rise, oX0 aQ aI aG aU Q_ratio aF aZ o_Q_looks o_Q_unpacked, oX6 aF o_F_first o_F_last o_F_points o_F_least o_F_greatest o_F_sum, oX6 aZ o_Z_first o_Z_last o_Z_points o_Z_least o_Z_greatest o_Z_sum] := by
  refine CT.ofW (lvl := [(0, .ref aQ), (1, .int p0), (2, .int p1), (3, .int p2)]) (by decide) (Nat.le_of_ble_eq_true rfl) rfl ?_
  intro p e s m args below meth c A ls0 QQ hQQ hx hb hml hr hlocks htc hN hown hK hA hw0 hl0
  rw [m_X0_ask] at hfin
  refine lv_aload_n hx hb dX0_ask_0 rfl (lv_at hl0 0 rfl) ?_
  refine va_get (D := G) (ci := 0) (v := .ref aI) (C := RX0) (T := TX0) (N := 8) hx hb htc iX0 hown hK hw0.1 5 rfl rfl 0 (by decide) (htc _ mw_228) (fun _ h9 => h9) rfl dX0_ask_1 ?_
  refine lv_iload_n hx hb dX0_ask_4 rfl (lv_at hl0 1 rfl) ?_
  replace hfin := ob1_some hfin
  obtain ⟨r_2, hE_1, hfin⟩ := hfin
  refine ctV (a := aI) (As := [.int p0]) (rest := []) (st1 := [.int r_2]) (wc := [oX2 aD aDc D_writesDone D_writesLeft D_down, rI aDc cI 4096 D_cells, oX3 aI aD]) (w1 := [oX2 aD aDc D_writesDone D_writesLeft D_down, rI aDc cI 4096 D_cells, oX3 aI aD]) (wr := [oX4 aG aD G_logged, oX8 aU aD U_place U_bitsRead U_started U_time U_value U_rise, oX0 aQ aI aG aU Q_ratio aF aZ Q_looks Q_unpacked, oX6 aF F_first F_last F_points F_least F_greatest F_sum, oX6 aZ Z_first Z_last Z_points Z_least Z_greatest Z_sum]) (wb := [oX2 aD aDc D_writesDone D_writesLeft D_down, rI aDc cI 4096 D_cells, oX3 aI aD, oX4 aG aD G_logged, oX8 aU aD U_place U_bitsRead U_started U_time U_value U_rise, oX0 aQ aI aG aU Q_ratio aF aZ Q_looks Q_unpacked, oX6 aF F_first F_last F_points F_least F_greatest F_sum, oX6 aZ Z_first Z_last Z_points Z_least Z_greatest Z_sum]) (v := (some (.int r_2))) hx hb hml hown htc hN (c_X3_endOf l G cI cZ cJ aD aDc aI D_writesDone D_writesLeft D_down D_cells p0 hE_1) mw_624 mw_371 mw_372 mw_4 mw_373 hd_X3_endOf ⟨rfl, rfl⟩ ⟨Nat.le_of_ble_eq_true rfl, Nat.le_of_ble_eq_true rfl⟩ hK hw0 hA [0, 1, 2] [3, 4, 5, 6, 7] [5, 6, 7, 0, 1, 2, 3, 4] rfl rfl rfl rfl rfl (by decide) rfl rfl rfl 2 rfl rfl rfl rfl hl0.1 rfl rfl (Nat.le_of_ble_eq_true rfl) dX0_ask_5 ⟨Nat.zero_le _, Nat.zero_le _⟩ (fun H3 locs3 hw3 => ?_)
  clear hw0
  refine lv_istore (lv' := [(4, .int r_2), (0, .ref aQ), (1, .int p0), (2, .int p1), (3, .int p2)]) hx hb dX0_ask_8 hl0 (by decide) rfl (fun ls4 hl4 => ?_)
  clear hl0 ls0
  refine lv_aload_n hx hb dX0_ask_10 rfl (lv_at hl4 1 rfl) ?_
  refine lv_iconst (v := (0 : Int32)) hx hb dX0_ask_11 (by decide) ?_
  refine va_put (D := G) (ci := 0) (v := .int (0 : Int32)) (ty := .int) (C := RX0) (T := TX0) (N := 8) hx hb htc iX0 tyX0 tyX0_ok nmX0 hown hK hw3.1 hw3.2.1 hw3.2.2 5 rfl rfl 6 (by decide) (htc _ mw_234) (fun _ h9 => h9) rfl (tyX0_ok 6 (by decide)) rfl rfl (Nat.le_of_ble_eq_true rfl) dX0_ask_12 (fun H5 locs5 hP hD hS => ?_)
  have hw5 : wS G A s H5 locs5 [oX2 aD aDc D_writesDone D_writesLeft D_down, rI aDc cI 4096 D_cells, oX3 aI aD, oX4 aG aD G_logged, oX8 aU aD U_place U_bitsRead U_started U_time U_value U_rise, oX0 aQ aI aG aU Q_ratio aF aZ (0 : Int32) Q_unpacked, oX6 aF F_first F_last F_points F_least F_greatest F_sum, oX6 aZ Z_first Z_last Z_points Z_least Z_greatest Z_sum] := ⟨hP, hD, hS⟩
  clear hP hD hS hw3 H3 locs3
  refine lv_aload_n hx hb dX0_ask_15 rfl (lv_at hl4 1 rfl) ?_
  refine lv_iconst (v := (0 : Int32)) hx hb dX0_ask_16 (by decide) ?_
  refine va_put (D := G) (ci := 0) (v := .int (0 : Int32)) (ty := .int) (C := RX0) (T := TX0) (N := 8) hx hb htc iX0 tyX0 tyX0_ok nmX0 hown hK hw5.1 hw5.2.1 hw5.2.2 5 rfl rfl 7 (by decide) (htc _ mw_235) (fun _ h9 => h9) rfl (tyX0_ok 7 (by decide)) rfl rfl (Nat.le_of_ble_eq_true rfl) dX0_ask_17 (fun H6 locs6 hP hD hS => ?_)
  have hw6 : wS G A s H6 locs6 [oX2 aD aDc D_writesDone D_writesLeft D_down, rI aDc cI 4096 D_cells, oX3 aI aD, oX4 aG aD G_logged, oX8 aU aD U_place U_bitsRead U_started U_time U_value U_rise, oX0 aQ aI aG aU Q_ratio aF aZ (0 : Int32) (0 : Int32), oX6 aF F_first F_last F_points F_least F_greatest F_sum, oX6 aZ Z_first Z_last Z_points Z_least Z_greatest Z_sum] := ⟨hP, hD, hS⟩
  clear hP hD hS hw5 H5 locs5
  refine lv_aload_n hx hb dX0_ask_20 rfl (lv_at hl4 1 rfl) ?_
  refine va_get (D := G) (ci := 0) (v := .ref aF) (C := RX0) (T := TX0) (N := 8) hx hb htc iX0 hown hK hw6.1 5 rfl rfl 4 (by decide) (htc _ mw_232) (fun _ h9 => h9) rfl dX0_ask_21 ?_
  replace hfin := ob6_some hfin
  obtain ⟨F_first_8, F_last_9, F_points_10, F_least_11, F_greatest_12, F_sum_13, hE_7, hfin⟩ := hfin
  refine ctV (a := aF) (As := []) (rest := []) (st1 := []) (wc := [oX6 aF F_first F_last F_points F_least F_greatest F_sum]) (w1 := [oX6 aF F_first_8 F_last_9 F_points_10 F_least_11 F_greatest_12 F_sum_13]) (wr := [oX2 aD aDc D_writesDone D_writesLeft D_down, rI aDc cI 4096 D_cells, oX3 aI aD, oX4 aG aD G_logged, oX8 aU aD U_place U_bitsRead U_started U_time U_value U_rise, oX0 aQ aI aG aU Q_ratio aF aZ (0 : Int32) (0 : Int32), oX6 aZ Z_first Z_last Z_points Z_least Z_greatest Z_sum]) (wb := [oX2 aD aDc D_writesDone D_writesLeft D_down, rI aDc cI 4096 D_cells, oX3 aI aD, oX4 aG aD G_logged, oX8 aU aD U_place U_bitsRead U_started U_time U_value U_rise, oX0 aQ aI aG aU Q_ratio aF aZ (0 : Int32) (0 : Int32), oX6 aF F_first_8 F_last_9 F_points_10 F_least_11 F_greatest_12 F_sum_13, oX6 aZ Z_first Z_last Z_points Z_least Z_greatest Z_sum]) (v := none) hx hb hml hown htc hN (c_X6_clear l G cI cZ cJ aF F_first F_last F_points F_least F_greatest F_sum  hE_7) mw_625 mw_429 mw_430 mw_9 mw_431 hd_X6_clear ⟨rfl, rfl⟩ ⟨Nat.le_of_ble_eq_true rfl, Nat.le_of_ble_eq_true rfl⟩ hK hw6 hA [6] [0, 1, 2, 3, 4, 5, 7] [0, 1, 2, 3, 4, 5, 7, 6] rfl rfl rfl rfl rfl (by decide) rfl rfl rfl 0 rfl rfl rfl rfl hl4.1 rfl rfl (Nat.le_of_ble_eq_true rfl) dX0_ask_24 ⟨Nat.zero_le _, Nat.zero_le _⟩ (fun H14 locs14 hw14 => ?_)
  clear hw6 H6 locs6
  refine lv_iconst (v := (2 : Int32)) hx hb dX0_ask_27 (by decide) ?_
  refine lv_aload_n hx hb dX0_ask_28 rfl (lv_at hl4 1 rfl) ?_
  refine va_get (D := G) (ci := 0) (v := .int Q_ratio) (C := RX0) (T := TX0) (N := 8) hx hb htc iX0 hown hK hw14.1 5 rfl rfl 3 (by decide) (htc _ mw_231) (fun _ h9 => h9) rfl dX0_ask_29 ?_
  refine va_mmax hx hb (hml.trans hl4.1.symm) hown (htc _ mw_626) (htc _ mw_34) (htc _ mw_2) (htc _ mw_35) (Nat.le_of_ble_eq_true rfl) (Nat.le_of_ble_eq_true rfl) (Nat.zero_le _) (Nat.zero_le _) dX0_ask_32 ?_
  refine lv_istore (lv' := [(5, .int (if (2 : Int32) < Q_ratio then Q_ratio else (2 : Int32))), (4, .int r_2), (0, .ref aQ), (1, .int p0), (2, .int p1), (3, .int p2)]) hx hb dX0_ask_35 hl4 (by decide) rfl (fun ls15 hl15 => ?_)
  clear hl4 ls4
  refine lv_aload_n hx hb dX0_ask_37 rfl (lv_at hl15 2 rfl) ?_
  refine va_get (D := G) (ci := 0) (v := .ref aI) (C := RX0) (T := TX0) (N := 8) hx hb htc iX0 hown hK hw14.1 5 rfl rfl 0 (by decide) (htc _ mw_228) (fun _ h9 => h9) rfl dX0_ask_38 ?_
  refine lv_iload_n hx hb dX0_ask_41 rfl (lv_at hl15 3 rfl) ?_
  replace hfin := ob1_some hfin
  obtain ⟨r_17, hE_16, hfin⟩ := hfin
  refine ctV (a := aI) (As := [.int p0]) (rest := []) (st1 := [.int r_17]) (wc := [oX2 aD aDc D_writesDone D_writesLeft D_down, rI aDc cI 4096 D_cells, oX3 aI aD]) (w1 := [oX2 aD aDc D_writesDone D_writesLeft D_down, rI aDc cI 4096 D_cells, oX3 aI aD]) (wr := [oX4 aG aD G_logged, oX8 aU aD U_place U_bitsRead U_started U_time U_value U_rise, oX0 aQ aI aG aU Q_ratio aF aZ (0 : Int32) (0 : Int32), oX6 aF F_first_8 F_last_9 F_points_10 F_least_11 F_greatest_12 F_sum_13, oX6 aZ Z_first Z_last Z_points Z_least Z_greatest Z_sum]) (wb := [oX2 aD aDc D_writesDone D_writesLeft D_down, rI aDc cI 4096 D_cells, oX3 aI aD, oX4 aG aD G_logged, oX8 aU aD U_place U_bitsRead U_started U_time U_value U_rise, oX0 aQ aI aG aU Q_ratio aF aZ (0 : Int32) (0 : Int32), oX6 aF F_first_8 F_last_9 F_points_10 F_least_11 F_greatest_12 F_sum_13, oX6 aZ Z_first Z_last Z_points Z_least Z_greatest Z_sum]) (v := (some (.int r_17))) hx hb hml hown htc hN (c_X3_firstOf l G cI cZ cJ aD aDc aI D_writesDone D_writesLeft D_down D_cells p0 hE_16) mw_627 mw_375 mw_376 mw_4 mw_377 hd_X3_firstOf ⟨rfl, rfl⟩ ⟨Nat.le_of_ble_eq_true rfl, Nat.le_of_ble_eq_true rfl⟩ hK hw14 hA [0, 1, 2] [3, 4, 5, 6, 7] [5, 6, 7, 0, 1, 2, 3, 4] rfl rfl rfl rfl rfl (by decide) rfl rfl rfl 2 rfl rfl rfl rfl hl15.1 rfl rfl (Nat.le_of_ble_eq_true rfl) dX0_ask_42 ⟨Nat.zero_le _, Nat.zero_le _⟩ (fun H18 locs18 hw18 => ?_)
  clear hw14 H14 locs14
  refine lv_istore (lv' := [(6, .int r_17), (5, .int (if (2 : Int32) < Q_ratio then Q_ratio else (2 : Int32))), (4, .int r_2), (0, .ref aQ), (1, .int p0), (2, .int p1), (3, .int p2)]) hx hb dX0_ask_45 hl15 (by decide) rfl (fun ls19 hl19 => ?_)
  clear hl15 ls15
  replace hfin := ob20_some hfin
  obtain ⟨U_place_45, U_bitsRead_46, U_started_47, U_time_48, U_value_49, U_rise_50, Q_looks_51, Q_unpacked_52, F_first_53, F_last_54, F_points_55, F_least_56, F_greatest_57, F_sum_58, Z_first_59, Z_last_60, Z_points_61, Z_least_62, Z_greatest_63, Z_sum_64, hL_41, hfin⟩ := hfin
  have kx_42 : ∀ (H : Heap) (locs : List Loc) (ls : Array Slot), wS G A s H locs [oX2 aD aDc D_writesDone D_writesLeft D_down, rI aDc cI 4096 D_cells, oX3 aI aD, oX4 aG aD G_logged, oX8 aU aD U_place_45 U_bitsRead_46 U_started_47 U_time_48 U_value_49 U_rise_50, oX0 aQ aI aG aU Q_ratio aF aZ Q_looks_51 Q_unpacked_52, oX6 aF F_first_53 F_last_54 F_points_55 F_least_56 F_greatest_57 F_sum_58, oX6 aZ Z_first_59 Z_last_60 Z_points_61 Z_least_62 Z_greatest_63 Z_sum_64] → lv_has ls 9 [(0, .ref aQ), (1, .int p0), (2, .int p1), (3, .int p2)] → W p l e rm_X0_ask s m args below meth c H locs 0 0 QQ (F0 m 141 ls []) := by
    clear hw18 H18 locs18 hl19 ls19 hL_41
    intro H140 locs140 ls140 hw140 hl140
    refine lv_aload_n hx hb dX0_ask_141 rfl (lv_at hl140 0 rfl) ?_
    refine lv_iload_n hx hb dX0_ask_142 rfl (lv_at hl140 1 rfl) ?_
    refine lv_iload_n hx hb dX0_ask_143 rfl (lv_at hl140 2 rfl) ?_
    refine lv_iload_n hx hb dX0_ask_144 rfl (lv_at hl140 3 rfl) ?_
    replace hfin := ob6_some hfin
    obtain ⟨F_first_142, F_last_143, F_points_144, F_least_145, F_greatest_146, F_sum_147, hE_141, hfin⟩ := hfin
    refine ctV (a := aQ) (As := [.int p0, .int p1, .int p2]) (rest := []) (st1 := []) (wc := [oX2 aD aDc D_writesDone D_writesLeft D_down, rI aDc cI 4096 D_cells, oX4 aG aD G_logged, oX0 aQ aI aG aU Q_ratio aF aZ Q_looks_51 Q_unpacked_52, oX6 aF F_first_53 F_last_54 F_points_55 F_least_56 F_greatest_57 F_sum_58]) (w1 := [oX2 aD aDc D_writesDone D_writesLeft D_down, rI aDc cI 4096 D_cells, oX4 aG aD G_logged, oX0 aQ aI aG aU Q_ratio aF aZ Q_looks_51 Q_unpacked_52, oX6 aF F_first_142 F_last_143 F_points_144 F_least_145 F_greatest_146 F_sum_147]) (wr := [oX3 aI aD, oX8 aU aD U_place_45 U_bitsRead_46 U_started_47 U_time_48 U_value_49 U_rise_50, oX6 aZ Z_first_59 Z_last_60 Z_points_61 Z_least_62 Z_greatest_63 Z_sum_64]) (wb := [oX2 aD aDc D_writesDone D_writesLeft D_down, rI aDc cI 4096 D_cells, oX3 aI aD, oX4 aG aD G_logged, oX8 aU aD U_place_45 U_bitsRead_46 U_started_47 U_time_48 U_value_49 U_rise_50, oX0 aQ aI aG aU Q_ratio aF aZ Q_looks_51 Q_unpacked_52, oX6 aF F_first_142 F_last_143 F_points_144 F_least_145 F_greatest_146 F_sum_147, oX6 aZ Z_first_59 Z_last_60 Z_points_61 Z_least_62 Z_greatest_63 Z_sum_64]) (v := none) hx hb hml hown htc hN (c_X0_askHead l G cI cZ cJ aD aDc aG aQ aI aU aF aZ D_writesDone D_writesLeft D_down D_cells G_logged Q_ratio Q_looks_51 Q_unpacked_52 F_first_53 F_last_54 F_points_55 F_least_56 F_greatest_57 F_sum_58 p0 p1 p2 hE_141) mw_663 mw_665 mp_23 mw_10 mw_666 hd_X0_askHead ⟨rfl, rfl⟩ ⟨Nat.le_of_ble_eq_true rfl, Nat.le_of_ble_eq_true rfl⟩ hK hw140 hA [0, 1, 3, 5, 6] [2, 4, 7] [3, 4, 0, 5, 1, 6, 7, 2] rfl rfl rfl rfl rfl (by decide) rfl rfl rfl 3 rfl rfl rfl rfl hl140.1 rfl rfl (Nat.le_of_ble_eq_true rfl) dX0_ask_145 ⟨Nat.zero_le _, Nat.zero_le _⟩ (fun H148 locs148 hw148 => ?_)
    clear hw140 H140 locs140
    refine lv_aload_n hx hb dX0_ask_148 rfl (lv_at hl140 0 rfl) ?_
    refine va_get (D := G) (ci := 0) (v := .ref aF) (C := RX0) (T := TX0) (N := 8) hx hb htc iX0 hown hK hw148.1 5 rfl rfl 4 (by decide) (htc _ mw_232) (fun _ h9 => h9) rfl dX0_ask_149 ?_
    cases hfin
    rw [hQQ]
    exact ct_aret hx hb hr hlocks hw148.1 hw148.2.1 hw148.2.2 dX0_ask_152
  have lp_43 : ∀ (n : Nat) (v6_20 : Int32) (U_place_21 : Int32) (U_bitsRead_22 : Int32) (U_started_23 : Int32) (U_time_24 : Int32) (U_value_25 : Int32) (U_rise_26 : Int64) (Q_looks_27 : Int32) (Q_unpacked_28 : Int32) (F_first_29 : Int32) (F_last_30 : Int32) (F_points_31 : Int32) (F_least_32 : Int32) (F_greatest_33 : Int32) (F_sum_34 : Int64) (Z_first_35 : Int32) (Z_last_36 : Int32) (Z_points_37 : Int32) (Z_least_38 : Int32) (Z_greatest_39 : Int32) (Z_sum_40 : Int64), lp_X0_ask_47 D_cells Q_ratio p1 p2 r_2 n v6_20 U_place_21 U_bitsRead_22 U_started_23 U_time_24 U_value_25 U_rise_26 Q_looks_27 Q_unpacked_28 F_first_29 F_last_30 F_points_31 F_least_32 F_greatest_33 F_sum_34 Z_first_35 Z_last_36 Z_points_37 Z_least_38 Z_greatest_39 Z_sum_40 = some (U_place_45, U_bitsRead_46, U_started_47, U_time_48, U_value_49, U_rise_50, Q_looks_51, Q_unpacked_52, F_first_53, F_last_54, F_points_55, F_least_56, F_greatest_57, F_sum_58, Z_first_59, Z_last_60, Z_points_61, Z_least_62, Z_greatest_63, Z_sum_64) → ∀ (H : Heap) (locs : List Loc) (ls : Array Slot), wS G A s H locs [oX2 aD aDc D_writesDone D_writesLeft D_down, rI aDc cI 4096 D_cells, oX3 aI aD, oX4 aG aD G_logged, oX8 aU aD U_place_21 U_bitsRead_22 U_started_23 U_time_24 U_value_25 U_rise_26, oX0 aQ aI aG aU Q_ratio aF aZ Q_looks_27 Q_unpacked_28, oX6 aF F_first_29 F_last_30 F_points_31 F_least_32 F_greatest_33 F_sum_34, oX6 aZ Z_first_35 Z_last_36 Z_points_37 Z_least_38 Z_greatest_39 Z_sum_40] → lv_has ls 9 [(0, .ref aQ), (1, .int p0), (2, .int p1), (3, .int p2), (4, .int r_2), (5, .int (if (2 : Int32) < Q_ratio then Q_ratio else (2 : Int32))), (6, .int v6_20)] → W p l e rm_X0_ask s m args below meth c H locs 0 0 QQ (F0 m 47 ls []) := by
    clear hw18 H18 locs18 hl19 ls19 hfin
    intro n
    induction n with
    | zero =>
      intro v6_20 U_place_21 U_bitsRead_22 U_started_23 U_time_24 U_value_25 U_rise_26 Q_looks_27 Q_unpacked_28 F_first_29 F_last_30 F_points_31 F_least_32 F_greatest_33 F_sum_34 Z_first_35 Z_last_36 Z_points_37 Z_least_38 Z_greatest_39 Z_sum_40 hB_44
      exact absurd hB_44 (by rw [lp_X0_ask_47]; exact fun h9 => nomatch h9)
    | succ n ih =>
      intro v6_20 U_place_21 U_bitsRead_22 U_started_23 U_time_24 U_value_25 U_rise_26 Q_looks_27 Q_unpacked_28 F_first_29 F_last_30 F_points_31 F_least_32 F_greatest_33 F_sum_34 Z_first_35 Z_last_36 Z_points_37 Z_least_38 Z_greatest_39 Z_sum_40 hB_44 H65 locs65 ls65 hw65 hl65
      rw [lp_X0_ask_47] at hB_44
      refine lv_iload hx hb dX0_ask_47 (lv_at hl65 6 rfl) ?_
      refine lv_iload hx hb dX0_ask_49 (lv_at hl65 4 rfl) ?_
      refine lv_icmp_ge (tgt := 141) hx hb dX0_ask_51 (by decide) (fun c_66 => ?_) (fun c_66 => ?_)
      · replace hB_44 := it_t c_66 hB_44
        cases hB_44
        exact kx_42 _ _ _ hw65 (lv_sub hl65 [0, 1, 2, 3] rfl)
      · replace hB_44 := it_f c_66 hB_44
        refine lv_iload hx hb dX0_ask_54 (lv_at hl65 6 rfl) ?_
        refine lv_iload hx hb dX0_ask_56 (lv_at hl65 5 rfl) ?_
        refine lv_iadd hx hb dX0_ask_58 ?_
        refine lv_iload hx hb dX0_ask_59 (lv_at hl65 4 rfl) ?_
        refine va_mmin hx hb (hml.trans hl65.1.symm) hown (htc _ mw_628) (htc _ mw_31) (htc _ mw_2) (htc _ mw_32) (Nat.le_of_ble_eq_true rfl) (Nat.le_of_ble_eq_true rfl) (Nat.zero_le _) (Nat.zero_le _) dX0_ask_61 ?_
        refine lv_istore (lv' := [(7, .int (if r_2 < (v6_20 + (if (2 : Int32) < Q_ratio then Q_ratio else (2 : Int32))) then r_2 else (v6_20 + (if (2 : Int32) < Q_ratio then Q_ratio else (2 : Int32))))), (0, .ref aQ), (1, .int p0), (2, .int p1), (3, .int p2), (4, .int r_2), (5, .int (if (2 : Int32) < Q_ratio then Q_ratio else (2 : Int32))), (6, .int v6_20)]) hx hb dX0_ask_64 hl65 (by decide) rfl (fun ls67 hl67 => ?_)
        clear hl65 ls65
        refine lv_aload_n hx hb dX0_ask_66 rfl (lv_at hl67 1 rfl) ?_
        refine lv_iload hx hb dX0_ask_67 (lv_at hl67 7 rfl) ?_
        refine lv_iload hx hb dX0_ask_69 (lv_at hl67 0 rfl) ?_
        replace hB_44 := ob6_some hB_44
        obtain ⟨Z_first_69, Z_last_70, Z_points_71, Z_least_72, Z_greatest_73, Z_sum_74, hE_68, hB_44⟩ := hB_44
        refine ctV (a := aQ) (As := [.int v6_20, .int (if r_2 < (v6_20 + (if (2 : Int32) < Q_ratio then Q_ratio else (2 : Int32))) then r_2 else (v6_20 + (if (2 : Int32) < Q_ratio then Q_ratio else (2 : Int32))))]) (rest := []) (st1 := [.ref aZ]) (wc := [oX2 aD aDc D_writesDone D_writesLeft D_down, rI aDc cI 4096 D_cells, oX3 aI aD, oX0 aQ aI aG aU Q_ratio aF aZ Q_looks_27 Q_unpacked_28, oX6 aZ Z_first_35 Z_last_36 Z_points_37 Z_least_38 Z_greatest_39 Z_sum_40]) (w1 := [oX2 aD aDc D_writesDone D_writesLeft D_down, rI aDc cI 4096 D_cells, oX3 aI aD, oX0 aQ aI aG aU Q_ratio aF aZ Q_looks_27 Q_unpacked_28, oX6 aZ Z_first_69 Z_last_70 Z_points_71 Z_least_72 Z_greatest_73 Z_sum_74]) (wr := [oX4 aG aD G_logged, oX8 aU aD U_place_21 U_bitsRead_22 U_started_23 U_time_24 U_value_25 U_rise_26, oX6 aF F_first_29 F_last_30 F_points_31 F_least_32 F_greatest_33 F_sum_34]) (wb := [oX2 aD aDc D_writesDone D_writesLeft D_down, rI aDc cI 4096 D_cells, oX3 aI aD, oX4 aG aD G_logged, oX8 aU aD U_place_21 U_bitsRead_22 U_started_23 U_time_24 U_value_25 U_rise_26, oX0 aQ aI aG aU Q_ratio aF aZ Q_looks_27 Q_unpacked_28, oX6 aF F_first_29 F_last_30 F_points_31 F_least_32 F_greatest_33 F_sum_34, oX6 aZ Z_first_69 Z_last_70 Z_points_71 Z_least_72 Z_greatest_73 Z_sum_74]) (v := (some (.ref aZ))) hx hb hml hown htc hN (c_X0_summaryOf l G cI cZ cJ aD aDc aI aQ aG aU aF aZ D_writesDone D_writesLeft D_down D_cells Q_ratio Q_looks_27 Q_unpacked_28 Z_first_35 Z_last_36 Z_points_37 Z_least_38 Z_greatest_39 Z_sum_40 v6_20 (if r_2 < (v6_20 + (if (2 : Int32) < Q_ratio then Q_ratio else (2 : Int32))) then r_2 else (v6_20 + (if (2 : Int32) < Q_ratio then Q_ratio else (2 : Int32)))) hE_68) mw_629 mw_630 mw_631 mw_10 mw_632 hd_X0_summaryOf ⟨rfl, rfl⟩ ⟨Nat.le_of_ble_eq_true rfl, Nat.le_of_ble_eq_true rfl⟩ hK hw65 hA [0, 1, 2, 5, 7] [3, 4, 6] [3, 4, 5, 0, 1, 6, 2, 7] rfl rfl rfl rfl rfl (by decide) rfl rfl rfl 3 rfl rfl rfl rfl hl67.1 rfl rfl (Nat.le_of_ble_eq_true rfl) dX0_ask_71 ⟨Nat.zero_le _, Nat.zero_le _⟩ (fun H75 locs75 hw75 => ?_)
        clear hw65 H65 locs65
        refine lv_astore (lv' := [(8, .ref aZ), (7, .int (if r_2 < (v6_20 + (if (2 : Int32) < Q_ratio then Q_ratio else (2 : Int32))) then r_2 else (v6_20 + (if (2 : Int32) < Q_ratio then Q_ratio else (2 : Int32))))), (0, .ref aQ), (1, .int p0), (2, .int p1), (3, .int p2), (4, .int r_2), (5, .int (if (2 : Int32) < Q_ratio then Q_ratio else (2 : Int32))), (6, .int v6_20)]) hx hb dX0_ask_74 hl67 (by decide) rfl (fun ls76 hl76 => ?_)
        clear hl67 ls67
        refine lv_aload_n hx hb dX0_ask_76 rfl (lv_at hl76 2 rfl) ?_
        refine lv_dup hx hb dX0_ask_77 rfl ?_
        refine va_get (D := G) (ci := 0) (v := .int Q_looks_27) (C := RX0) (T := TX0) (N := 8) hx hb htc iX0 hown hK hw75.1 5 rfl rfl 6 (by decide) (htc _ mw_234) (fun _ h9 => h9) rfl dX0_ask_78 ?_
        refine lv_iconst (v := (1 : Int32)) hx hb dX0_ask_81 (by decide) ?_
        refine lv_iadd hx hb dX0_ask_82 ?_
        refine va_put (D := G) (ci := 0) (v := .int (Q_looks_27 + (1 : Int32))) (ty := .int) (C := RX0) (T := TX0) (N := 8) hx hb htc iX0 tyX0 tyX0_ok nmX0 hown hK hw75.1 hw75.2.1 hw75.2.2 5 rfl rfl 6 (by decide) (htc _ mw_234) (fun _ h9 => h9) rfl (tyX0_ok 6 (by decide)) rfl rfl (Nat.le_of_ble_eq_true rfl) dX0_ask_83 (fun H77 locs77 hP hD hS => ?_)
        have hw77 : wS G A s H77 locs77 [oX2 aD aDc D_writesDone D_writesLeft D_down, rI aDc cI 4096 D_cells, oX3 aI aD, oX4 aG aD G_logged, oX8 aU aD U_place_21 U_bitsRead_22 U_started_23 U_time_24 U_value_25 U_rise_26, oX0 aQ aI aG aU Q_ratio aF aZ (Q_looks_27 + (1 : Int32)) Q_unpacked_28, oX6 aF F_first_29 F_last_30 F_points_31 F_least_32 F_greatest_33 F_sum_34, oX6 aZ Z_first_69 Z_last_70 Z_points_71 Z_least_72 Z_greatest_73 Z_sum_74] := ⟨hP, hD, hS⟩
        clear hP hD hS hw75 H75 locs75
        refine lv_aload hx hb dX0_ask_86 (lv_at hl76 0 rfl) ?_
        refine lv_iload_n hx hb dX0_ask_88 rfl (lv_at hl76 4 rfl) ?_
        refine lv_iload_n hx hb dX0_ask_89 rfl (lv_at hl76 5 rfl) ?_
        replace hB_44 := ob1_some hB_44
        obtain ⟨r_79, hE_78, hB_44⟩ := hB_44
        refine ctV (a := aZ) (As := [.int p1, .int p2]) (rest := []) (st1 := [.int r_79]) (wc := [oX6 aZ Z_first_69 Z_last_70 Z_points_71 Z_least_72 Z_greatest_73 Z_sum_74]) (w1 := [oX6 aZ Z_first_69 Z_last_70 Z_points_71 Z_least_72 Z_greatest_73 Z_sum_74]) (wr := [oX2 aD aDc D_writesDone D_writesLeft D_down, rI aDc cI 4096 D_cells, oX3 aI aD, oX4 aG aD G_logged, oX8 aU aD U_place_21 U_bitsRead_22 U_started_23 U_time_24 U_value_25 U_rise_26, oX0 aQ aI aG aU Q_ratio aF aZ (Q_looks_27 + (1 : Int32)) Q_unpacked_28, oX6 aF F_first_29 F_last_30 F_points_31 F_least_32 F_greatest_33 F_sum_34]) (wb := [oX2 aD aDc D_writesDone D_writesLeft D_down, rI aDc cI 4096 D_cells, oX3 aI aD, oX4 aG aD G_logged, oX8 aU aD U_place_21 U_bitsRead_22 U_started_23 U_time_24 U_value_25 U_rise_26, oX0 aQ aI aG aU Q_ratio aF aZ (Q_looks_27 + (1 : Int32)) Q_unpacked_28, oX6 aF F_first_29 F_last_30 F_points_31 F_least_32 F_greatest_33 F_sum_34, oX6 aZ Z_first_69 Z_last_70 Z_points_71 Z_least_72 Z_greatest_73 Z_sum_74]) (v := (some (.int r_79))) hx hb hml hown htc hN (c_X6_isOut l G cI cZ cJ aZ Z_first_69 Z_last_70 Z_points_71 Z_least_72 Z_greatest_73 Z_sum_74 p1 p2 hE_78) mw_639 mw_640 mw_641 mw_9 mw_642 hd_X6_isOut ⟨rfl, rfl⟩ ⟨Nat.le_of_ble_eq_true rfl, Nat.le_of_ble_eq_true rfl⟩ hK hw77 hA [7] [0, 1, 2, 3, 4, 5, 6] [0, 1, 2, 3, 4, 5, 6, 7] rfl rfl rfl rfl rfl (by decide) rfl rfl rfl 0 rfl rfl rfl rfl hl76.1 rfl rfl (Nat.le_of_ble_eq_true rfl) dX0_ask_90 ⟨Nat.zero_le _, Nat.zero_le _⟩ (fun H80 locs80 hw80 => ?_)
        clear hw77 H77 locs77
        replace hB_44 := ob20_some hB_44
        obtain ⟨U_place_81, U_bitsRead_82, U_started_83, U_time_84, U_value_85, U_rise_86, Q_looks_87, Q_unpacked_88, F_first_89, F_last_90, F_points_91, F_least_92, F_greatest_93, F_sum_94, Z_first_95, Z_last_96, Z_points_97, Z_least_98, Z_greatest_99, Z_sum_100, hJ_101, hB_44⟩ := hB_44
        have kj_102 : ∀ (H : Heap) (locs : List Loc) (ls : Array Slot), wS G A s H locs [oX2 aD aDc D_writesDone D_writesLeft D_down, rI aDc cI 4096 D_cells, oX3 aI aD, oX4 aG aD G_logged, oX8 aU aD U_place_81 U_bitsRead_82 U_started_83 U_time_84 U_value_85 U_rise_86, oX0 aQ aI aG aU Q_ratio aF aZ Q_looks_87 Q_unpacked_88, oX6 aF F_first_89 F_last_90 F_points_91 F_least_92 F_greatest_93 F_sum_94, oX6 aZ Z_first_95 Z_last_96 Z_points_97 Z_least_98 Z_greatest_99 Z_sum_100] → lv_has ls 9 [(0, .ref aQ), (1, .int p0), (2, .int p1), (3, .int p2), (4, .int r_2), (5, .int (if (2 : Int32) < Q_ratio then Q_ratio else (2 : Int32))), (6, .int v6_20)] → W p l e rm_X0_ask s m args below meth c H locs 0 0 QQ (F0 m 131 ls []) := by
          clear hw80 H80 locs80 hl76 ls76 hJ_101
          intro H138 locs138 ls138 hw138 hl138
          refine lv_iload hx hb dX0_ask_131 (lv_at hl138 6 rfl) ?_
          refine lv_iload hx hb dX0_ask_133 (lv_at hl138 5 rfl) ?_
          refine lv_iadd hx hb dX0_ask_135 ?_
          refine lv_istore (lv' := [(6, .int (v6_20 + (if (2 : Int32) < Q_ratio then Q_ratio else (2 : Int32)))), (0, .ref aQ), (1, .int p0), (2, .int p1), (3, .int p2), (4, .int r_2), (5, .int (if (2 : Int32) < Q_ratio then Q_ratio else (2 : Int32)))]) hx hb dX0_ask_136 hl138 (by decide) rfl (fun ls139 hl139 => ?_)
          clear hl138 ls138
          refine lv_goto (tgt := 47) hx hb dX0_ask_138 (by decide) ?_
          exact ih (v6_20 + (if (2 : Int32) < Q_ratio then Q_ratio else (2 : Int32))) U_place_81 U_bitsRead_82 U_started_83 U_time_84 U_value_85 U_rise_86 Q_looks_87 Q_unpacked_88 F_first_89 F_last_90 F_points_91 F_least_92 F_greatest_93 F_sum_94 Z_first_95 Z_last_96 Z_points_97 Z_least_98 Z_greatest_99 Z_sum_100 hB_44 _ _ _ hw138 (lv_sub hl139 [1, 2, 3, 4, 5, 6, 0] rfl)
        clear hB_44
        refine lv_if_eq (tgt := 99) hx hb dX0_ask_93 (by decide) (fun c_103 => ?_) (fun c_103 => ?_)
        · replace hJ_101 := it_t c_103 hJ_101
          refine lv_aload hx hb dX0_ask_99 (lv_at hl76 0 rfl) ?_
          refine lv_iload_n hx hb dX0_ask_101 rfl (lv_at hl76 4 rfl) ?_
          refine lv_iload_n hx hb dX0_ask_102 rfl (lv_at hl76 5 rfl) ?_
          replace hJ_101 := ob1_some hJ_101
          obtain ⟨r_105, hE_104, hJ_101⟩ := hJ_101
          refine ctV (a := aZ) (As := [.int p1, .int p2]) (rest := []) (st1 := [.int r_105]) (wc := [oX6 aZ Z_first_69 Z_last_70 Z_points_71 Z_least_72 Z_greatest_73 Z_sum_74]) (w1 := [oX6 aZ Z_first_69 Z_last_70 Z_points_71 Z_least_72 Z_greatest_73 Z_sum_74]) (wr := [oX2 aD aDc D_writesDone D_writesLeft D_down, rI aDc cI 4096 D_cells, oX3 aI aD, oX4 aG aD G_logged, oX8 aU aD U_place_21 U_bitsRead_22 U_started_23 U_time_24 U_value_25 U_rise_26, oX0 aQ aI aG aU Q_ratio aF aZ (Q_looks_27 + (1 : Int32)) Q_unpacked_28, oX6 aF F_first_29 F_last_30 F_points_31 F_least_32 F_greatest_33 F_sum_34]) (wb := [oX2 aD aDc D_writesDone D_writesLeft D_down, rI aDc cI 4096 D_cells, oX3 aI aD, oX4 aG aD G_logged, oX8 aU aD U_place_21 U_bitsRead_22 U_started_23 U_time_24 U_value_25 U_rise_26, oX0 aQ aI aG aU Q_ratio aF aZ (Q_looks_27 + (1 : Int32)) Q_unpacked_28, oX6 aF F_first_29 F_last_30 F_points_31 F_least_32 F_greatest_33 F_sum_34, oX6 aZ Z_first_69 Z_last_70 Z_points_71 Z_least_72 Z_greatest_73 Z_sum_74]) (v := (some (.int r_105))) hx hb hml hown htc hN (c_X6_isIn l G cI cZ cJ aZ Z_first_69 Z_last_70 Z_points_71 Z_least_72 Z_greatest_73 Z_sum_74 p1 p2 hE_104) mw_643 mw_644 mw_645 mw_9 mw_646 hd_X6_isIn ⟨rfl, rfl⟩ ⟨Nat.le_of_ble_eq_true rfl, Nat.le_of_ble_eq_true rfl⟩ hK hw80 hA [7] [0, 1, 2, 3, 4, 5, 6] [0, 1, 2, 3, 4, 5, 6, 7] rfl rfl rfl rfl rfl (by decide) rfl rfl rfl 0 rfl rfl rfl rfl hl76.1 rfl rfl (Nat.le_of_ble_eq_true rfl) dX0_ask_103 ⟨Nat.zero_le _, Nat.zero_le _⟩ (fun H106 locs106 hw106 => ?_)
          clear hw80 H80 locs80
          refine lv_if_eq (tgt := 121) hx hb dX0_ask_106 (by decide) (fun c_107 => ?_) (fun c_107 => ?_)
          · replace hJ_101 := it_t c_107 hJ_101
            refine lv_aload_n hx hb dX0_ask_121 rfl (lv_at hl76 2 rfl) ?_
            refine lv_iload hx hb dX0_ask_122 (lv_at hl76 8 rfl) ?_
            refine lv_iload hx hb dX0_ask_124 (lv_at hl76 1 rfl) ?_
            refine lv_iload_n hx hb dX0_ask_126 rfl (lv_at hl76 4 rfl) ?_
            refine lv_iload_n hx hb dX0_ask_127 rfl (lv_at hl76 5 rfl) ?_
            replace hJ_101 := ob20_some hJ_101
            obtain ⟨U_place_109, U_bitsRead_110, U_started_111, U_time_112, U_value_113, U_rise_114, Q_looks_115, Q_unpacked_116, F_first_117, F_last_118, F_points_119, F_least_120, F_greatest_121, F_sum_122, Z_first_123, Z_last_124, Z_points_125, Z_least_126, Z_greatest_127, Z_sum_128, hE_108, hJ_101⟩ := hJ_101
            refine ctV (a := aQ) (As := [.int v6_20, .int (if r_2 < (v6_20 + (if (2 : Int32) < Q_ratio then Q_ratio else (2 : Int32))) then r_2 else (v6_20 + (if (2 : Int32) < Q_ratio then Q_ratio else (2 : Int32)))), .int p1, .int p2]) (rest := []) (st1 := []) (wc := [oX2 aD aDc D_writesDone D_writesLeft D_down, rI aDc cI 4096 D_cells, oX3 aI aD, oX8 aU aD U_place_21 U_bitsRead_22 U_started_23 U_time_24 U_value_25 U_rise_26, oX0 aQ aI aG aU Q_ratio aF aZ (Q_looks_27 + (1 : Int32)) Q_unpacked_28, oX6 aF F_first_29 F_last_30 F_points_31 F_least_32 F_greatest_33 F_sum_34, oX6 aZ Z_first_69 Z_last_70 Z_points_71 Z_least_72 Z_greatest_73 Z_sum_74]) (w1 := [oX2 aD aDc D_writesDone D_writesLeft D_down, rI aDc cI 4096 D_cells, oX3 aI aD, oX8 aU aD U_place_109 U_bitsRead_110 U_started_111 U_time_112 U_value_113 U_rise_114, oX0 aQ aI aG aU Q_ratio aF aZ Q_looks_115 Q_unpacked_116, oX6 aF F_first_117 F_last_118 F_points_119 F_least_120 F_greatest_121 F_sum_122, oX6 aZ Z_first_123 Z_last_124 Z_points_125 Z_least_126 Z_greatest_127 Z_sum_128]) (wr := [oX4 aG aD G_logged]) (wb := [oX2 aD aDc D_writesDone D_writesLeft D_down, rI aDc cI 4096 D_cells, oX3 aI aD, oX4 aG aD G_logged, oX8 aU aD U_place_109 U_bitsRead_110 U_started_111 U_time_112 U_value_113 U_rise_114, oX0 aQ aI aG aU Q_ratio aF aZ Q_looks_115 Q_unpacked_116, oX6 aF F_first_117 F_last_118 F_points_119 F_least_120 F_greatest_121 F_sum_122, oX6 aZ Z_first_123 Z_last_124 Z_points_125 Z_least_126 Z_greatest_127 Z_sum_128]) (v := none) hx hb hml hown htc hN (c_X0_askEntries l G cI cZ cJ aD aDc aI aU aQ aG aF aZ D_writesDone D_writesLeft D_down D_cells U_place_21 U_bitsRead_22 U_started_23 U_time_24 U_value_25 U_rise_26 Q_ratio (Q_looks_27 + (1 : Int32)) Q_unpacked_28 F_first_29 F_last_30 F_points_31 F_least_32 F_greatest_33 F_sum_34 Z_first_69 Z_last_70 Z_points_71 Z_least_72 Z_greatest_73 Z_sum_74 v6_20 (if r_2 < (v6_20 + (if (2 : Int32) < Q_ratio then Q_ratio else (2 : Int32))) then r_2 else (v6_20 + (if (2 : Int32) < Q_ratio then Q_ratio else (2 : Int32)))) p1 p2 hE_108) mw_651 mw_653 mp_21 mw_10 mw_654 hd_X0_askEntries ⟨rfl, rfl⟩ ⟨Nat.le_of_ble_eq_true rfl, Nat.le_of_ble_eq_true rfl⟩ hK hw106 hA [0, 1, 2, 4, 5, 6, 7] [3] [1, 2, 3, 0, 4, 5, 6, 7] rfl rfl rfl rfl rfl (by decide) rfl rfl rfl 4 rfl rfl rfl rfl hl76.1 rfl rfl (Nat.le_of_ble_eq_true rfl) dX0_ask_128 ⟨Nat.zero_le _, Nat.zero_le _⟩ (fun H129 locs129 hw129 => ?_)
            clear hw106 H106 locs106
            cases hJ_101
            exact kj_102 _ _ _ hw129 (lv_sub hl76 [2, 3, 4, 5, 6, 7, 8] rfl)
          · replace hJ_101 := it_f c_107 hJ_101
            refine lv_aload_n hx hb dX0_ask_109 rfl (lv_at hl76 2 rfl) ?_
            refine va_get (D := G) (ci := 0) (v := .ref aF) (C := RX0) (T := TX0) (N := 8) hx hb htc iX0 hown hK hw106.1 5 rfl rfl 4 (by decide) (htc _ mw_232) (fun _ h9 => h9) rfl dX0_ask_110 ?_
            refine lv_aload hx hb dX0_ask_113 (lv_at hl76 0 rfl) ?_
            replace hJ_101 := ob6_some hJ_101
            obtain ⟨F_first_131, F_last_132, F_points_133, F_least_134, F_greatest_135, F_sum_136, hE_130, hJ_101⟩ := hJ_101
            refine ctV (a := aF) (As := [.ref aZ]) (rest := []) (st1 := []) (wc := [oX6 aF F_first_29 F_last_30 F_points_31 F_least_32 F_greatest_33 F_sum_34, oX6 aZ Z_first_69 Z_last_70 Z_points_71 Z_least_72 Z_greatest_73 Z_sum_74]) (w1 := [oX6 aF F_first_131 F_last_132 F_points_133 F_least_134 F_greatest_135 F_sum_136, oX6 aZ Z_first_69 Z_last_70 Z_points_71 Z_least_72 Z_greatest_73 Z_sum_74]) (wr := [oX2 aD aDc D_writesDone D_writesLeft D_down, rI aDc cI 4096 D_cells, oX3 aI aD, oX4 aG aD G_logged, oX8 aU aD U_place_21 U_bitsRead_22 U_started_23 U_time_24 U_value_25 U_rise_26, oX0 aQ aI aG aU Q_ratio aF aZ (Q_looks_27 + (1 : Int32)) Q_unpacked_28]) (wb := [oX2 aD aDc D_writesDone D_writesLeft D_down, rI aDc cI 4096 D_cells, oX3 aI aD, oX4 aG aD G_logged, oX8 aU aD U_place_21 U_bitsRead_22 U_started_23 U_time_24 U_value_25 U_rise_26, oX0 aQ aI aG aU Q_ratio aF aZ (Q_looks_27 + (1 : Int32)) Q_unpacked_28, oX6 aF F_first_131 F_last_132 F_points_133 F_least_134 F_greatest_135 F_sum_136, oX6 aZ Z_first_69 Z_last_70 Z_points_71 Z_least_72 Z_greatest_73 Z_sum_74]) (v := none) hx hb hml hown htc hN (c_X6_addSummary l G cI cZ cJ aF aZ F_first_29 F_last_30 F_points_31 F_least_32 F_greatest_33 F_sum_34 Z_first_69 Z_last_70 Z_points_71 Z_least_72 Z_greatest_73 Z_sum_74  hE_130) mw_647 mw_648 mw_649 mw_9 mw_650 hd_X6_addSummary ⟨rfl, rfl⟩ ⟨Nat.le_of_ble_eq_true rfl, Nat.le_of_ble_eq_true rfl⟩ hK hw106 hA [6, 7] [0, 1, 2, 3, 4, 5] [0, 1, 2, 3, 4, 5, 6, 7] rfl rfl rfl rfl rfl (by decide) rfl rfl rfl 0 rfl rfl rfl rfl hl76.1 rfl rfl (Nat.le_of_ble_eq_true rfl) dX0_ask_115 ⟨Nat.zero_le _, Nat.zero_le _⟩ (fun H137 locs137 hw137 => ?_)
            clear hw106 H106 locs106
            refine lv_goto (tgt := 131) hx hb dX0_ask_118 (by decide) ?_
            cases hJ_101
            exact kj_102 _ _ _ hw137 (lv_sub hl76 [2, 3, 4, 5, 6, 7, 8] rfl)
        · replace hJ_101 := it_f c_103 hJ_101
          refine lv_goto (tgt := 131) hx hb dX0_ask_96 (by decide) ?_
          cases hJ_101
          exact kj_102 _ _ _ hw80 (lv_sub hl76 [2, 3, 4, 5, 6, 7, 8] rfl)
  exact lp_43 NN r_17 U_place U_bitsRead U_started U_time U_value U_rise (0 : Int32) (0 : Int32) F_first_8 F_last_9 F_points_10 F_least_11 F_greatest_12 F_sum_13 Z_first Z_last Z_points Z_least Z_greatest Z_sum hL_41 _ _ _ hw18 (lv_sub hl19 [3, 4, 5, 6, 2, 1, 0] rfl)
abbrev rm_X0_looks : Room := { frames := 0, cells := 0, slots := 0, locals := 0 }
theorem hd_X0_looks : yX0_looks.cls = RX0 ∧ yX0_looks.cls ≠ "java/lang/invoke/MethodHandle" ∧ yX0_looks.cls ≠ "java/lang/invoke/VarHandle" ∧ (parseMethodDescriptor yX0_looks.desc).map (fun d => d.parameters.length) = some 0 := by decide +kernel
set_option maxHeartbeats 4000000 in
set_option maxRecDepth 100000 in
theorem c_X0_looks (l : Launch) (G : va_G) (cI cZ cJ : ClassId) (aQ aI aG aU aF aZ : Nat) (Q_ratio : Int32) (Q_looks : Int32) (Q_unpacked : Int32)  {r : Int32} (hfin : m_X0_looks Q_looks = some (r)) : CT l yX0_looks cX0_looks 1 (some .int) rm_X0_looks G (tyC cI cZ cJ) [.ref aQ] [oX0 aQ aI aG aU Q_ratio aF aZ Q_looks Q_unpacked] (some (.int r)) [oX0 aQ aI aG aU Q_ratio aF aZ Q_looks Q_unpacked] := by
  refine CT.ofW (lvl := [(0, .ref aQ)]) (by decide) (Nat.le_of_ble_eq_true rfl) rfl ?_
  intro p e s m args below meth c A ls0 QQ hQQ hx hb hml hr hlocks htc hN hown hK hA hw0 hl0
  rw [m_X0_looks] at hfin
  refine lv_aload_n hx hb dX0_looks_0 rfl (lv_at hl0 0 rfl) ?_
  refine va_get (D := G) (ci := 0) (v := .int Q_looks) (C := RX0) (T := TX0) (N := 8) hx hb htc iX0 hown hK hw0.1 0 rfl rfl 6 (by decide) (htc _ mw_234) (fun _ h9 => h9) rfl dX0_looks_1 ?_
  cases hfin
  rw [hQQ]
  exact ct_iret hx hb hr hlocks hw0.1 hw0.2.1 hw0.2.2 dX0_looks_4
abbrev rm_X0_unpacked : Room := { frames := 0, cells := 0, slots := 0, locals := 0 }
theorem hd_X0_unpacked : yX0_unpacked.cls = RX0 ∧ yX0_unpacked.cls ≠ "java/lang/invoke/MethodHandle" ∧ yX0_unpacked.cls ≠ "java/lang/invoke/VarHandle" ∧ (parseMethodDescriptor yX0_unpacked.desc).map (fun d => d.parameters.length) = some 0 := by decide +kernel
set_option maxHeartbeats 4000000 in
set_option maxRecDepth 100000 in
theorem c_X0_unpacked (l : Launch) (G : va_G) (cI cZ cJ : ClassId) (aQ aI aG aU aF aZ : Nat) (Q_ratio : Int32) (Q_looks : Int32) (Q_unpacked : Int32)  {r : Int32} (hfin : m_X0_unpacked Q_unpacked = some (r)) : CT l yX0_unpacked cX0_unpacked 1 (some .int) rm_X0_unpacked G (tyC cI cZ cJ) [.ref aQ] [oX0 aQ aI aG aU Q_ratio aF aZ Q_looks Q_unpacked] (some (.int r)) [oX0 aQ aI aG aU Q_ratio aF aZ Q_looks Q_unpacked] := by
  refine CT.ofW (lvl := [(0, .ref aQ)]) (by decide) (Nat.le_of_ble_eq_true rfl) rfl ?_
  intro p e s m args below meth c A ls0 QQ hQQ hx hb hml hr hlocks htc hN hown hK hA hw0 hl0
  rw [m_X0_unpacked] at hfin
  refine lv_aload_n hx hb dX0_unpacked_0 rfl (lv_at hl0 0 rfl) ?_
  refine va_get (D := G) (ci := 0) (v := .int Q_unpacked) (C := RX0) (T := TX0) (N := 8) hx hb htc iX0 hown hK hw0.1 0 rfl rfl 7 (by decide) (htc _ mw_235) (fun _ h9 => h9) rfl dX0_unpacked_1 ?_
  cases hfin
  rw [hQQ]
  exact ct_iret hx hb hr hlocks hw0.1 hw0.2.1 hw0.2.2 dX0_unpacked_4
