theorem dX10_ask_0 : decode cX10_ask 0 = .ok (.aload_n 0, 1) := by decide +kernel
theorem dX10_ask_1 : decode cX10_ask 1 = .ok (.iconst 0, 1) := by decide +kernel
theorem dX10_ask_2 : decode cX10_ask 2 = .ok (.putfield 248, 3) := by decide +kernel
theorem dX10_ask_5 : decode cX10_ask 5 = .ok (.aload_n 0, 1) := by decide +kernel
theorem dX10_ask_6 : decode cX10_ask 6 = .ok (.iconst 0, 1) := by decide +kernel
theorem dX10_ask_7 : decode cX10_ask 7 = .ok (.putfield 251, 3) := by decide +kernel
theorem dX10_ask_10 : decode cX10_ask 10 = .ok (.aload_n 0, 1) := by decide +kernel
theorem dX10_ask_11 : decode cX10_ask 11 = .ok (.iconst 0, 1) := by decide +kernel
theorem dX10_ask_12 : decode cX10_ask 12 = .ok (.putfield 254, 3) := by decide +kernel
theorem dX10_ask_15 : decode cX10_ask 15 = .ok (.aload_n 0, 1) := by decide +kernel
theorem dX10_ask_16 : decode cX10_ask 16 = .ok (.lconst 0, 1) := by decide +kernel
theorem dX10_ask_17 : decode cX10_ask 17 = .ok (.putfield 257, 3) := by decide +kernel
theorem dX10_ask_20 : decode cX10_ask 20 = .ok (.iconst 0, 1) := by decide +kernel
theorem dX10_ask_21 : decode cX10_ask 21 = .ok (.istore 5, 2) := by decide +kernel
theorem dX10_ask_23 : decode cX10_ask 23 = .ok (.iload 5, 2) := by decide +kernel
theorem dX10_ask_25 : decode cX10_ask 25 = .ok (.aload_n 0, 1) := by decide +kernel
theorem dX10_ask_26 : decode cX10_ask 26 = .ok (.getfield 115, 3) := by decide +kernel
theorem dX10_ask_29 : decode cX10_ask 29 = .ok (.if_icmp .ge 84, 3) := by decide +kernel
theorem dX10_ask_32 : decode cX10_ask 32 = .ok (.aload_n 0, 1) := by decide +kernel
theorem dX10_ask_33 : decode cX10_ask 33 = .ok (.getfield 35, 3) := by decide +kernel
theorem dX10_ask_36 : decode cX10_ask 36 = .ok (.iload 5, 2) := by decide +kernel
theorem dX10_ask_38 : decode cX10_ask 38 = .ok (.iaload, 1) := by decide +kernel
theorem dX10_ask_39 : decode cX10_ask 39 = .ok (.istore 6, 2) := by decide +kernel
theorem dX10_ask_41 : decode cX10_ask 41 = .ok (.iconst 0, 1) := by decide +kernel
theorem dX10_ask_42 : decode cX10_ask 42 = .ok (.istore 7, 2) := by decide +kernel
theorem dX10_ask_44 : decode cX10_ask 44 = .ok (.iload 7, 2) := by decide +kernel
theorem dX10_ask_46 : decode cX10_ask 46 = .ok (.aload_n 0, 1) := by decide +kernel
theorem dX10_ask_47 : decode cX10_ask 47 = .ok (.getfield 20, 3) := by decide +kernel
theorem dX10_ask_50 : decode cX10_ask 50 = .ok (.iload 6, 2) := by decide +kernel
theorem dX10_ask_52 : decode cX10_ask 52 = .ok (.iaload, 1) := by decide +kernel
theorem dX10_ask_53 : decode cX10_ask 53 = .ok (.if_icmp .ge 54, 3) := by decide +kernel
theorem dX10_ask_56 : decode cX10_ask 56 = .ok (.aload_n 0, 1) := by decide +kernel
theorem dX10_ask_57 : decode cX10_ask 57 = .ok (.getfield 17, 3) := by decide +kernel
theorem dX10_ask_60 : decode cX10_ask 60 = .ok (.iload 6, 2) := by decide +kernel
theorem dX10_ask_62 : decode cX10_ask 62 = .ok (.iaload, 1) := by decide +kernel
theorem dX10_ask_63 : decode cX10_ask 63 = .ok (.iload_n 1, 1) := by decide +kernel
theorem dX10_ask_64 : decode cX10_ask 64 = .ok (.if_icmp .ne 43, 3) := by decide +kernel
theorem dX10_ask_67 : decode cX10_ask 67 = .ok (.aload_n 0, 1) := by decide +kernel
theorem dX10_ask_68 : decode cX10_ask 68 = .ok (.aload_n 0, 1) := by decide +kernel
theorem dX10_ask_69 : decode cX10_ask 69 = .ok (.getfield 29, 3) := by decide +kernel
theorem dX10_ask_72 : decode cX10_ask 72 = .ok (.bipush 64, 2) := by decide +kernel
theorem dX10_ask_74 : decode cX10_ask 74 = .ok (.iload 6, 2) := by decide +kernel
theorem dX10_ask_76 : decode cX10_ask 76 = .ok (.imul, 1) := by decide +kernel
theorem dX10_ask_77 : decode cX10_ask 77 = .ok (.iload 7, 2) := by decide +kernel
theorem dX10_ask_79 : decode cX10_ask 79 = .ok (.iadd, 1) := by decide +kernel
theorem dX10_ask_80 : decode cX10_ask 80 = .ok (.iaload, 1) := by decide +kernel
theorem dX10_ask_81 : decode cX10_ask 81 = .ok (.aload_n 0, 1) := by decide +kernel
theorem dX10_ask_82 : decode cX10_ask 82 = .ok (.getfield 32, 3) := by decide +kernel
theorem dX10_ask_85 : decode cX10_ask 85 = .ok (.bipush 64, 2) := by decide +kernel
theorem dX10_ask_87 : decode cX10_ask 87 = .ok (.iload 6, 2) := by decide +kernel
theorem dX10_ask_89 : decode cX10_ask 89 = .ok (.imul, 1) := by decide +kernel
theorem dX10_ask_90 : decode cX10_ask 90 = .ok (.iload 7, 2) := by decide +kernel
theorem dX10_ask_92 : decode cX10_ask 92 = .ok (.iadd, 1) := by decide +kernel
theorem dX10_ask_93 : decode cX10_ask 93 = .ok (.iaload, 1) := by decide +kernel
theorem dX10_ask_94 : decode cX10_ask 94 = .ok (.iload_n 2, 1) := by decide +kernel
theorem dX10_ask_95 : decode cX10_ask 95 = .ok (.iload_n 3, 1) := by decide +kernel
theorem dX10_ask_96 : decode cX10_ask 96 = .ok (.iload 4, 2) := by decide +kernel
theorem dX10_ask_98 : decode cX10_ask 98 = .ok (.invokevirtual 261, 3) := by decide +kernel
theorem dX10_ask_101 : decode cX10_ask 101 = .ok (.iinc 7 1, 3) := by decide +kernel
theorem dX10_ask_104 : decode cX10_ask 104 = .ok (.goto (-60), 3) := by decide +kernel
theorem dX10_ask_107 : decode cX10_ask 107 = .ok (.iinc 5 1, 3) := by decide +kernel
theorem dX10_ask_110 : decode cX10_ask 110 = .ok (.goto (-87), 3) := by decide +kernel
theorem dX10_ask_113 : decode cX10_ask 113 = .ok (.iconst 0, 1) := by decide +kernel
theorem dX10_ask_114 : decode cX10_ask 114 = .ok (.istore 5, 2) := by decide +kernel
theorem dX10_ask_116 : decode cX10_ask 116 = .ok (.iload 5, 2) := by decide +kernel
theorem dX10_ask_118 : decode cX10_ask 118 = .ok (.aload_n 0, 1) := by decide +kernel
theorem dX10_ask_119 : decode cX10_ask 119 = .ok (.getfield 106, 3) := by decide +kernel
theorem dX10_ask_122 : decode cX10_ask 122 = .ok (.if_icmp .ge 42, 3) := by decide +kernel
theorem dX10_ask_125 : decode cX10_ask 125 = .ok (.aload_n 0, 1) := by decide +kernel
theorem dX10_ask_126 : decode cX10_ask 126 = .ok (.getfield 38, 3) := by decide +kernel
theorem dX10_ask_129 : decode cX10_ask 129 = .ok (.iload 5, 2) := by decide +kernel
theorem dX10_ask_131 : decode cX10_ask 131 = .ok (.iaload, 1) := by decide +kernel
theorem dX10_ask_132 : decode cX10_ask 132 = .ok (.iload_n 1, 1) := by decide +kernel
theorem dX10_ask_133 : decode cX10_ask 133 = .ok (.if_icmp .ne 25, 3) := by decide +kernel
theorem dX10_ask_136 : decode cX10_ask 136 = .ok (.aload_n 0, 1) := by decide +kernel
theorem dX10_ask_137 : decode cX10_ask 137 = .ok (.aload_n 0, 1) := by decide +kernel
theorem dX10_ask_138 : decode cX10_ask 138 = .ok (.getfield 41, 3) := by decide +kernel
theorem dX10_ask_141 : decode cX10_ask 141 = .ok (.iload 5, 2) := by decide +kernel
theorem dX10_ask_143 : decode cX10_ask 143 = .ok (.iaload, 1) := by decide +kernel
theorem dX10_ask_144 : decode cX10_ask 144 = .ok (.aload_n 0, 1) := by decide +kernel
theorem dX10_ask_145 : decode cX10_ask 145 = .ok (.getfield 44, 3) := by decide +kernel
theorem dX10_ask_148 : decode cX10_ask 148 = .ok (.iload 5, 2) := by decide +kernel
theorem dX10_ask_150 : decode cX10_ask 150 = .ok (.iaload, 1) := by decide +kernel
theorem dX10_ask_151 : decode cX10_ask 151 = .ok (.iload_n 2, 1) := by decide +kernel
theorem dX10_ask_152 : decode cX10_ask 152 = .ok (.iload_n 3, 1) := by decide +kernel
theorem dX10_ask_153 : decode cX10_ask 153 = .ok (.iload 4, 2) := by decide +kernel
theorem dX10_ask_155 : decode cX10_ask 155 = .ok (.invokevirtual 261, 3) := by decide +kernel
theorem dX10_ask_158 : decode cX10_ask 158 = .ok (.iinc 5 1, 3) := by decide +kernel
theorem dX10_ask_161 : decode cX10_ask 161 = .ok (.goto (-45), 3) := by decide +kernel
theorem dX10_ask_164 : decode cX10_ask 164 = .ok (.aload_n 0, 1) := by decide +kernel
theorem dX10_ask_165 : decode cX10_ask 165 = .ok (.iload_n 1, 1) := by decide +kernel
theorem dX10_ask_166 : decode cX10_ask 166 = .ok (.iload_n 2, 1) := by decide +kernel
theorem dX10_ask_167 : decode cX10_ask 167 = .ok (.iload_n 3, 1) := by decide +kernel
theorem dX10_ask_168 : decode cX10_ask 168 = .ok (.invokevirtual 265, 3) := by decide +kernel
theorem dX10_ask_171 : decode cX10_ask 171 = .ok (.return_, 1) := by decide +kernel
theorem dX10_lookAt_0 : decode cX10_lookAt 0 = .ok (.aload_n 0, 1) := by decide +kernel
theorem dX10_lookAt_1 : decode cX10_lookAt 1 = .ok (.iconst 0, 1) := by decide +kernel
theorem dX10_lookAt_2 : decode cX10_lookAt 2 = .ok (.putfield 268, 3) := by decide +kernel
theorem dX10_lookAt_5 : decode cX10_lookAt 5 = .ok (.aload_n 0, 1) := by decide +kernel
theorem dX10_lookAt_6 : decode cX10_lookAt 6 = .ok (.iconst 0, 1) := by decide +kernel
theorem dX10_lookAt_7 : decode cX10_lookAt 7 = .ok (.putfield 271, 3) := by decide +kernel
theorem dX10_lookAt_10 : decode cX10_lookAt 10 = .ok (.aload_n 0, 1) := by decide +kernel
theorem dX10_lookAt_11 : decode cX10_lookAt 11 = .ok (.iload_n 1, 1) := by decide +kernel
theorem dX10_lookAt_12 : decode cX10_lookAt 12 = .ok (.invokevirtual 274, 3) := by decide +kernel
theorem dX10_lookAt_15 : decode cX10_lookAt 15 = .ok (.istore 4, 2) := by decide +kernel
theorem dX10_lookAt_17 : decode cX10_lookAt 17 = .ok (.iconst 0, 1) := by decide +kernel
theorem dX10_lookAt_18 : decode cX10_lookAt 18 = .ok (.istore 5, 2) := by decide +kernel
theorem dX10_lookAt_20 : decode cX10_lookAt 20 = .ok (.iload 5, 2) := by decide +kernel
theorem dX10_lookAt_22 : decode cX10_lookAt 22 = .ok (.aload_n 0, 1) := by decide +kernel
theorem dX10_lookAt_23 : decode cX10_lookAt 23 = .ok (.iload_n 1, 1) := by decide +kernel
theorem dX10_lookAt_24 : decode cX10_lookAt 24 = .ok (.invokevirtual 277, 3) := by decide +kernel
theorem dX10_lookAt_27 : decode cX10_lookAt 27 = .ok (.if_icmp .ge 97, 3) := by decide +kernel
theorem dX10_lookAt_30 : decode cX10_lookAt 30 = .ok (.aload_n 0, 1) := by decide +kernel
theorem dX10_lookAt_31 : decode cX10_lookAt 31 = .ok (.dup, 1) := by decide +kernel
theorem dX10_lookAt_32 : decode cX10_lookAt 32 = .ok (.getfield 268, 3) := by decide +kernel
theorem dX10_lookAt_35 : decode cX10_lookAt 35 = .ok (.iconst 1, 1) := by decide +kernel
theorem dX10_lookAt_36 : decode cX10_lookAt 36 = .ok (.iadd, 1) := by decide +kernel
theorem dX10_lookAt_37 : decode cX10_lookAt 37 = .ok (.putfield 268, 3) := by decide +kernel
theorem dX10_lookAt_40 : decode cX10_lookAt 40 = .ok (.aload_n 0, 1) := by decide +kernel
theorem dX10_lookAt_41 : decode cX10_lookAt 41 = .ok (.getfield 73, 3) := by decide +kernel
theorem dX10_lookAt_44 : decode cX10_lookAt 44 = .ok (.iload 5, 2) := by decide +kernel
theorem dX10_lookAt_46 : decode cX10_lookAt 46 = .ok (.imul, 1) := by decide +kernel
theorem dX10_lookAt_47 : decode cX10_lookAt 47 = .ok (.istore 6, 2) := by decide +kernel
theorem dX10_lookAt_49 : decode cX10_lookAt 49 = .ok (.iload 6, 2) := by decide +kernel
theorem dX10_lookAt_51 : decode cX10_lookAt 51 = .ok (.aload_n 0, 1) := by decide +kernel
theorem dX10_lookAt_52 : decode cX10_lookAt 52 = .ok (.getfield 73, 3) := by decide +kernel
theorem dX10_lookAt_55 : decode cX10_lookAt 55 = .ok (.iadd, 1) := by decide +kernel
theorem dX10_lookAt_56 : decode cX10_lookAt 56 = .ok (.iload 4, 2) := by decide +kernel
theorem dX10_lookAt_58 : decode cX10_lookAt 58 = .ok (.if_icmp .ge 13, 3) := by decide +kernel
theorem dX10_lookAt_61 : decode cX10_lookAt 61 = .ok (.iload 6, 2) := by decide +kernel
theorem dX10_lookAt_63 : decode cX10_lookAt 63 = .ok (.aload_n 0, 1) := by decide +kernel
theorem dX10_lookAt_64 : decode cX10_lookAt 64 = .ok (.getfield 73, 3) := by decide +kernel
theorem dX10_lookAt_67 : decode cX10_lookAt 67 = .ok (.iadd, 1) := by decide +kernel
theorem dX10_lookAt_68 : decode cX10_lookAt 68 = .ok (.goto 5, 3) := by decide +kernel
theorem dX10_lookAt_71 : decode cX10_lookAt 71 = .ok (.iload 4, 2) := by decide +kernel
theorem dX10_lookAt_73 : decode cX10_lookAt 73 = .ok (.istore 7, 2) := by decide +kernel
theorem dX10_lookAt_75 : decode cX10_lookAt 75 = .ok (.aload_n 0, 1) := by decide +kernel
theorem dX10_lookAt_76 : decode cX10_lookAt 76 = .ok (.aload_n 0, 1) := by decide +kernel
theorem dX10_lookAt_77 : decode cX10_lookAt 77 = .ok (.iload_n 1, 1) := by decide +kernel
theorem dX10_lookAt_78 : decode cX10_lookAt 78 = .ok (.iload 6, 2) := by decide +kernel
theorem dX10_lookAt_80 : decode cX10_lookAt 80 = .ok (.invokevirtual 280, 3) := by decide +kernel
theorem dX10_lookAt_83 : decode cX10_lookAt 83 = .ok (.invokevirtual 209, 3) := by decide +kernel
theorem dX10_lookAt_86 : decode cX10_lookAt 86 = .ok (.aload_n 0, 1) := by decide +kernel
theorem dX10_lookAt_87 : decode cX10_lookAt 87 = .ok (.aload_n 0, 1) := by decide +kernel
theorem dX10_lookAt_88 : decode cX10_lookAt 88 = .ok (.iload_n 1, 1) := by decide +kernel
theorem dX10_lookAt_89 : decode cX10_lookAt 89 = .ok (.iload 7, 2) := by decide +kernel
theorem dX10_lookAt_91 : decode cX10_lookAt 91 = .ok (.iconst 1, 1) := by decide +kernel
theorem dX10_lookAt_92 : decode cX10_lookAt 92 = .ok (.isub, 1) := by decide +kernel
theorem dX10_lookAt_93 : decode cX10_lookAt 93 = .ok (.invokevirtual 280, 3) := by decide +kernel
theorem dX10_lookAt_96 : decode cX10_lookAt 96 = .ok (.invokevirtual 212, 3) := by decide +kernel
theorem dX10_lookAt_99 : decode cX10_lookAt 99 = .ok (.iload_n 2, 1) := by decide +kernel
theorem dX10_lookAt_100 : decode cX10_lookAt 100 = .ok (.iload_n 3, 1) := by decide +kernel
theorem dX10_lookAt_101 : decode cX10_lookAt 101 = .ok (.invokestatic 283, 3) := by decide +kernel
theorem dX10_lookAt_104 : decode cX10_lookAt 104 = .ok (.ifCond .eq 14, 3) := by decide +kernel
theorem dX10_lookAt_107 : decode cX10_lookAt 107 = .ok (.aload_n 0, 1) := by decide +kernel
theorem dX10_lookAt_108 : decode cX10_lookAt 108 = .ok (.iload_n 1, 1) := by decide +kernel
theorem dX10_lookAt_109 : decode cX10_lookAt 109 = .ok (.iload 6, 2) := by decide +kernel
theorem dX10_lookAt_111 : decode cX10_lookAt 111 = .ok (.iload 7, 2) := by decide +kernel
theorem dX10_lookAt_113 : decode cX10_lookAt 113 = .ok (.iload_n 2, 1) := by decide +kernel
theorem dX10_lookAt_114 : decode cX10_lookAt 114 = .ok (.iload_n 3, 1) := by decide +kernel
theorem dX10_lookAt_115 : decode cX10_lookAt 115 = .ok (.invokevirtual 287, 3) := by decide +kernel
theorem dX10_lookAt_118 : decode cX10_lookAt 118 = .ok (.iinc 5 1, 3) := by decide +kernel
theorem dX10_lookAt_121 : decode cX10_lookAt 121 = .ok (.goto (-101), 3) := by decide +kernel
theorem dX10_lookAt_124 : decode cX10_lookAt 124 = .ok (.return_, 1) := by decide +kernel
theorem dX10_lookInto_0 : decode cX10_lookInto 0 = .ok (.iload_n 2, 1) := by decide +kernel
theorem dX10_lookInto_1 : decode cX10_lookInto 1 = .ok (.istore 6, 2) := by decide +kernel
theorem dX10_lookInto_3 : decode cX10_lookInto 3 = .ok (.iload 6, 2) := by decide +kernel
theorem dX10_lookInto_5 : decode cX10_lookInto 5 = .ok (.iload_n 3, 1) := by decide +kernel
theorem dX10_lookInto_6 : decode cX10_lookInto 6 = .ok (.if_icmp .ge 65, 3) := by decide +kernel
theorem dX10_lookInto_9 : decode cX10_lookInto 9 = .ok (.aload_n 0, 1) := by decide +kernel
theorem dX10_lookInto_10 : decode cX10_lookInto 10 = .ok (.dup, 1) := by decide +kernel
theorem dX10_lookInto_11 : decode cX10_lookInto 11 = .ok (.getfield 268, 3) := by decide +kernel
theorem dX10_lookInto_14 : decode cX10_lookInto 14 = .ok (.iconst 1, 1) := by decide +kernel
theorem dX10_lookInto_15 : decode cX10_lookInto 15 = .ok (.iadd, 1) := by decide +kernel
theorem dX10_lookInto_16 : decode cX10_lookInto 16 = .ok (.putfield 268, 3) := by decide +kernel
theorem dX10_lookInto_19 : decode cX10_lookInto 19 = .ok (.aload_n 0, 1) := by decide +kernel
theorem dX10_lookInto_20 : decode cX10_lookInto 20 = .ok (.dup, 1) := by decide +kernel
theorem dX10_lookInto_21 : decode cX10_lookInto 21 = .ok (.getfield 271, 3) := by decide +kernel
theorem dX10_lookInto_24 : decode cX10_lookInto 24 = .ok (.aload_n 0, 1) := by decide +kernel
theorem dX10_lookInto_25 : decode cX10_lookInto 25 = .ok (.aload_n 0, 1) := by decide +kernel
theorem dX10_lookInto_26 : decode cX10_lookInto 26 = .ok (.iload_n 1, 1) := by decide +kernel
theorem dX10_lookInto_27 : decode cX10_lookInto 27 = .ok (.iload 6, 2) := by decide +kernel
theorem dX10_lookInto_29 : decode cX10_lookInto 29 = .ok (.invokevirtual 280, 3) := by decide +kernel
theorem dX10_lookInto_32 : decode cX10_lookInto 32 = .ok (.invokevirtual 209, 3) := by decide +kernel
theorem dX10_lookInto_35 : decode cX10_lookInto 35 = .ok (.aload_n 0, 1) := by decide +kernel
theorem dX10_lookInto_36 : decode cX10_lookInto 36 = .ok (.aload_n 0, 1) := by decide +kernel
theorem dX10_lookInto_37 : decode cX10_lookInto 37 = .ok (.iload_n 1, 1) := by decide +kernel
theorem dX10_lookInto_38 : decode cX10_lookInto 38 = .ok (.iload 6, 2) := by decide +kernel
theorem dX10_lookInto_40 : decode cX10_lookInto 40 = .ok (.invokevirtual 280, 3) := by decide +kernel
theorem dX10_lookInto_43 : decode cX10_lookInto 43 = .ok (.invokevirtual 212, 3) := by decide +kernel
theorem dX10_lookInto_46 : decode cX10_lookInto 46 = .ok (.iload 4, 2) := by decide +kernel
theorem dX10_lookInto_48 : decode cX10_lookInto 48 = .ok (.iload 5, 2) := by decide +kernel
theorem dX10_lookInto_50 : decode cX10_lookInto 50 = .ok (.invokestatic 283, 3) := by decide +kernel
theorem dX10_lookInto_53 : decode cX10_lookInto 53 = .ok (.ifCond .eq 7, 3) := by decide +kernel
theorem dX10_lookInto_56 : decode cX10_lookInto 56 = .ok (.iconst 1, 1) := by decide +kernel
theorem dX10_lookInto_57 : decode cX10_lookInto 57 = .ok (.goto 4, 3) := by decide +kernel
theorem dX10_lookInto_60 : decode cX10_lookInto 60 = .ok (.iconst 0, 1) := by decide +kernel
theorem dX10_lookInto_61 : decode cX10_lookInto 61 = .ok (.iadd, 1) := by decide +kernel
theorem dX10_lookInto_62 : decode cX10_lookInto 62 = .ok (.putfield 271, 3) := by decide +kernel
theorem dX10_lookInto_65 : decode cX10_lookInto 65 = .ok (.iinc 6 1, 3) := by decide +kernel
theorem dX10_lookInto_68 : decode cX10_lookInto 68 = .ok (.goto (-65), 3) := by decide +kernel
theorem dX10_lookInto_71 : decode cX10_lookInto 71 = .ok (.return_, 1) := by decide +kernel
theorem dX10_isPart_0 : decode cX10_isPart 0 = .ok (.iload_n 1, 1) := by decide +kernel
theorem dX10_isPart_1 : decode cX10_isPart 1 = .ok (.iload_n 2, 1) := by decide +kernel
theorem dX10_isPart_2 : decode cX10_isPart 2 = .ok (.if_icmp .lt 8, 3) := by decide +kernel
theorem dX10_isPart_5 : decode cX10_isPart 5 = .ok (.iload_n 0, 1) := by decide +kernel
theorem dX10_isPart_6 : decode cX10_isPart 6 = .ok (.iload_n 3, 1) := by decide +kernel
theorem dX10_isPart_7 : decode cX10_isPart 7 = .ok (.if_icmp .le 7, 3) := by decide +kernel
theorem dX10_isPart_10 : decode cX10_isPart 10 = .ok (.iconst 1, 1) := by decide +kernel
theorem dX10_isPart_11 : decode cX10_isPart 11 = .ok (.goto 4, 3) := by decide +kernel
theorem dX10_isPart_14 : decode cX10_isPart 14 = .ok (.iconst 0, 1) := by decide +kernel
theorem dX10_isPart_15 : decode cX10_isPart 15 = .ok (.istore 4, 2) := by decide +kernel
theorem dX10_isPart_17 : decode cX10_isPart 17 = .ok (.iload_n 0, 1) := by decide +kernel
theorem dX10_isPart_18 : decode cX10_isPart 18 = .ok (.iload_n 2, 1) := by decide +kernel
theorem dX10_isPart_19 : decode cX10_isPart 19 = .ok (.if_icmp .lt 12, 3) := by decide +kernel
theorem dX10_isPart_22 : decode cX10_isPart 22 = .ok (.iload_n 1, 1) := by decide +kernel
theorem dX10_isPart_23 : decode cX10_isPart 23 = .ok (.iload_n 3, 1) := by decide +kernel
theorem dX10_isPart_24 : decode cX10_isPart 24 = .ok (.if_icmp .gt 7, 3) := by decide +kernel
theorem dX10_isPart_27 : decode cX10_isPart 27 = .ok (.iconst 1, 1) := by decide +kernel
theorem dX10_isPart_28 : decode cX10_isPart 28 = .ok (.goto 4, 3) := by decide +kernel
theorem dX10_isPart_31 : decode cX10_isPart 31 = .ok (.iconst 0, 1) := by decide +kernel
theorem dX10_isPart_32 : decode cX10_isPart 32 = .ok (.istore 5, 2) := by decide +kernel
theorem dX10_isPart_34 : decode cX10_isPart 34 = .ok (.iload 4, 2) := by decide +kernel
theorem dX10_isPart_36 : decode cX10_isPart 36 = .ok (.ifCond .ne 12, 3) := by decide +kernel
theorem dX10_isPart_39 : decode cX10_isPart 39 = .ok (.iload 5, 2) := by decide +kernel
theorem dX10_isPart_41 : decode cX10_isPart 41 = .ok (.ifCond .ne 7, 3) := by decide +kernel
theorem dX10_isPart_44 : decode cX10_isPart 44 = .ok (.iconst 1, 1) := by decide +kernel
theorem dX10_isPart_45 : decode cX10_isPart 45 = .ok (.goto 4, 3) := by decide +kernel
theorem dX10_isPart_48 : decode cX10_isPart 48 = .ok (.iconst 0, 1) := by decide +kernel
theorem dX10_isPart_49 : decode cX10_isPart 49 = .ok (.ireturn, 1) := by decide +kernel
theorem dX10_seek_0 : decode cX10_seek 0 = .ok (.aload_n 0, 1) := by decide +kernel
theorem dX10_seek_1 : decode cX10_seek 1 = .ok (.iconst 0, 1) := by decide +kernel
theorem dX10_seek_2 : decode cX10_seek 2 = .ok (.putfield 76, 3) := by decide +kernel
theorem dX10_seek_5 : decode cX10_seek 5 = .ok (.aload_n 0, 1) := by decide +kernel
theorem dX10_seek_6 : decode cX10_seek 6 = .ok (.invokevirtual 95, 3) := by decide +kernel
theorem dX10_seek_9 : decode cX10_seek 9 = .ok (.aload_n 0, 1) := by decide +kernel
theorem dX10_seek_10 : decode cX10_seek 10 = .ok (.getfield 79, 3) := by decide +kernel
theorem dX10_seek_13 : decode cX10_seek 13 = .ok (.ifCond .eq 6, 3) := by decide +kernel
theorem dX10_seek_16 : decode cX10_seek 16 = .ok (.bipush (-9), 2) := by decide +kernel
theorem dX10_seek_18 : decode cX10_seek 18 = .ok (.ireturn, 1) := by decide +kernel
theorem dX10_seek_19 : decode cX10_seek 19 = .ok (.aload_n 0, 1) := by decide +kernel
theorem dX10_seek_20 : decode cX10_seek 20 = .ok (.iload_n 1, 1) := by decide +kernel
theorem dX10_seek_21 : decode cX10_seek 21 = .ok (.invokevirtual 98, 3) := by decide +kernel
theorem dX10_seek_24 : decode cX10_seek 24 = .ok (.ifCond .ne 6, 3) := by decide +kernel
theorem dX10_seek_27 : decode cX10_seek 27 = .ok (.bipush (-2), 2) := by decide +kernel
theorem dX10_seek_29 : decode cX10_seek 29 = .ok (.ireturn, 1) := by decide +kernel
theorem dX10_seek_30 : decode cX10_seek 30 = .ok (.aload_n 0, 1) := by decide +kernel
theorem dX10_seek_31 : decode cX10_seek 31 = .ok (.iload_n 1, 1) := by decide +kernel
theorem dX10_seek_32 : decode cX10_seek 32 = .ok (.iload_n 2, 1) := by decide +kernel
theorem dX10_seek_33 : decode cX10_seek 33 = .ok (.iload_n 3, 1) := by decide +kernel
theorem dX10_seek_34 : decode cX10_seek 34 = .ok (.iconst 1, 1) := by decide +kernel
theorem dX10_seek_35 : decode cX10_seek 35 = .ok (.invokevirtual 291, 3) := by decide +kernel
theorem dX10_seek_38 : decode cX10_seek 38 = .ok (.aload_n 0, 1) := by decide +kernel
theorem dX10_seek_39 : decode cX10_seek 39 = .ok (.iconst 1, 1) := by decide +kernel
theorem dX10_seek_40 : decode cX10_seek 40 = .ok (.putfield 86, 3) := by decide +kernel
theorem dX10_seek_43 : decode cX10_seek 43 = .ok (.aload_n 0, 1) := by decide +kernel
theorem dX10_seek_44 : decode cX10_seek 44 = .ok (.aload_n 0, 1) := by decide +kernel
theorem dX10_seek_45 : decode cX10_seek 45 = .ok (.getfield 248, 3) := by decide +kernel
theorem dX10_seek_48 : decode cX10_seek 48 = .ok (.putfield 89, 3) := by decide +kernel
theorem dX10_seek_51 : decode cX10_seek 51 = .ok (.aload_n 0, 1) := by decide +kernel
theorem dX10_seek_52 : decode cX10_seek 52 = .ok (.getfield 248, 3) := by decide +kernel
theorem dX10_seek_55 : decode cX10_seek 55 = .ok (.ireturn, 1) := by decide +kernel
theorem dX10_next_0 : decode cX10_next 0 = .ok (.aload_n 0, 1) := by decide +kernel
theorem dX10_next_1 : decode cX10_next 1 = .ok (.iconst 0, 1) := by decide +kernel
theorem dX10_next_2 : decode cX10_next 2 = .ok (.putfield 76, 3) := by decide +kernel
theorem dX10_next_5 : decode cX10_next 5 = .ok (.aload_n 0, 1) := by decide +kernel
theorem dX10_next_6 : decode cX10_next 6 = .ok (.getfield 92, 3) := by decide +kernel
theorem dX10_next_9 : decode cX10_next 9 = .ok (.aload_n 0, 1) := by decide +kernel
theorem dX10_next_10 : decode cX10_next 10 = .ok (.getfield 89, 3) := by decide +kernel
theorem dX10_next_13 : decode cX10_next 13 = .ok (.if_icmp .ge 13, 3) := by decide +kernel
theorem dX10_next_16 : decode cX10_next 16 = .ok (.aload_n 0, 1) := by decide +kernel
theorem dX10_next_17 : decode cX10_next 17 = .ok (.dup, 1) := by decide +kernel
theorem dX10_next_18 : decode cX10_next 18 = .ok (.getfield 92, 3) := by decide +kernel
theorem dX10_next_21 : decode cX10_next 21 = .ok (.iconst 1, 1) := by decide +kernel
theorem dX10_next_22 : decode cX10_next 22 = .ok (.iadd, 1) := by decide +kernel
theorem dX10_next_23 : decode cX10_next 23 = .ok (.putfield 92, 3) := by decide +kernel
theorem dX10_next_26 : decode cX10_next 26 = .ok (.aload_n 0, 1) := by decide +kernel
theorem dX10_next_27 : decode cX10_next 27 = .ok (.getfield 86, 3) := by decide +kernel
theorem dX10_next_30 : decode cX10_next 30 = .ok (.ifCond .eq 18, 3) := by decide +kernel
theorem dX10_next_33 : decode cX10_next 33 = .ok (.aload_n 0, 1) := by decide +kernel
theorem dX10_next_34 : decode cX10_next 34 = .ok (.getfield 92, 3) := by decide +kernel
theorem dX10_next_37 : decode cX10_next 37 = .ok (.aload_n 0, 1) := by decide +kernel
theorem dX10_next_38 : decode cX10_next 38 = .ok (.getfield 89, 3) := by decide +kernel
theorem dX10_next_41 : decode cX10_next 41 = .ok (.if_icmp .ge 7, 3) := by decide +kernel
theorem dX10_next_44 : decode cX10_next 44 = .ok (.iconst 1, 1) := by decide +kernel
theorem dX10_next_45 : decode cX10_next 45 = .ok (.goto 4, 3) := by decide +kernel
theorem dX10_next_48 : decode cX10_next 48 = .ok (.iconst 0, 1) := by decide +kernel
theorem dX10_next_49 : decode cX10_next 49 = .ok (.ireturn, 1) := by decide +kernel
theorem dX10_isAt_0 : decode cX10_isAt 0 = .ok (.aload_n 0, 1) := by decide +kernel
theorem dX10_isAt_1 : decode cX10_isAt 1 = .ok (.getfield 86, 3) := by decide +kernel
theorem dX10_isAt_4 : decode cX10_isAt 4 = .ok (.ifCond .eq 25, 3) := by decide +kernel
theorem dX10_isAt_7 : decode cX10_isAt 7 = .ok (.aload_n 0, 1) := by decide +kernel
theorem dX10_isAt_8 : decode cX10_isAt 8 = .ok (.getfield 92, 3) := by decide +kernel
theorem dX10_isAt_11 : decode cX10_isAt 11 = .ok (.ifCond .lt 18, 3) := by decide +kernel
theorem dX10_isAt_14 : decode cX10_isAt 14 = .ok (.aload_n 0, 1) := by decide +kernel
theorem dX10_isAt_15 : decode cX10_isAt 15 = .ok (.getfield 92, 3) := by decide +kernel
theorem dX10_isAt_18 : decode cX10_isAt 18 = .ok (.aload_n 0, 1) := by decide +kernel
theorem dX10_isAt_19 : decode cX10_isAt 19 = .ok (.getfield 89, 3) := by decide +kernel
theorem dX10_isAt_22 : decode cX10_isAt 22 = .ok (.if_icmp .ge 7, 3) := by decide +kernel
theorem dX10_isAt_25 : decode cX10_isAt 25 = .ok (.iconst 1, 1) := by decide +kernel
theorem dX10_isAt_26 : decode cX10_isAt 26 = .ok (.goto 4, 3) := by decide +kernel
theorem dX10_isAt_29 : decode cX10_isAt 29 = .ok (.iconst 0, 1) := by decide +kernel
theorem dX10_isAt_30 : decode cX10_isAt 30 = .ok (.ireturn, 1) := by decide +kernel
abbrev rm_X10_isPart : Room := { frames := 0, cells := 0, slots := 0, locals := 0 }
theorem hs_X10_isPart : yX10_isPart.cls = RX10 ∧ yX10_isPart.cls ≠ "java/lang/invoke/MethodHandle" ∧ yX10_isPart.cls ≠ "java/lang/invoke/VarHandle" ∧ (parseMethodDescriptor yX10_isPart.desc).map (fun d => d.parameters.length) = some 4 := by decide +kernel
set_option maxHeartbeats 4000000 in
set_option maxRecDepth 100000 in
theorem c_X10_isPart (l : Launch) (G : va_G) (cI cZ cJ : ClassId)  (p0 : Int32) (p1 : Int32) (p2 : Int32) (p3 : Int32) {r : Int32} (hfin : m_X10_isPart p0 p1 p2 p3 = some (r)) : CT l yX10_isPart cX10_isPart 6 (some .boolean) rm_X10_isPart G (tyC cI cZ cJ) [.int p0, .int p1, .int p2, .int p3] [] (some (.int r)) [] := by
  refine CT.ofW (lvl := [(0, .int p0), (1, .int p1), (2, .int p2), (3, .int p3)]) (by decide) (Nat.le_of_ble_eq_true rfl) rfl ?_
  intro p e s m args below meth c A ls0 QQ hQQ hx hb hml hr hlocks htc hN hown hK hA hw0 hl0
  rw [m_X10_isPart] at hfin
  refine lv_iload_n hx hb dX10_isPart_0 rfl (lv_at hl0 1 rfl) ?_
  refine lv_iload_n hx hb dX10_isPart_1 rfl (lv_at hl0 2 rfl) ?_
  replace hfin := ob1_some hfin
  obtain ⟨s_1, hJ_2, hfin⟩ := hfin
  have kj_3 : ∀ (H : Heap) (locs : List Loc) (ls : Array Slot), wS G A s H locs [] → lv_has ls 6 [(0, .int p0), (1, .int p1), (2, .int p2), (3, .int p3)] → W p l e rm_X10_isPart s m args below meth c H locs 0 0 QQ (F0 m 15 ls [.int s_1]) := by
    clear hw0 hl0 ls0 hJ_2
    intro H6 locs6 ls6 hw6 hl6
    refine lv_istore (lv' := [(4, .int s_1), (0, .int p0), (1, .int p1), (2, .int p2), (3, .int p3)]) hx hb dX10_isPart_15 hl6 (by decide) rfl (fun ls7 hl7 => ?_)
    clear hl6 ls6
    refine lv_iload_n hx hb dX10_isPart_17 rfl (lv_at hl7 1 rfl) ?_
    refine lv_iload_n hx hb dX10_isPart_18 rfl (lv_at hl7 3 rfl) ?_
    replace hfin := ob1_some hfin
    obtain ⟨s_8, hJ_9, hfin⟩ := hfin
    have kj_10 : ∀ (H : Heap) (locs : List Loc) (ls : Array Slot), wS G A s H locs [] → lv_has ls 6 [(4, .int s_1)] → W p l e rm_X10_isPart s m args below meth c H locs 0 0 QQ (F0 m 32 ls [.int s_8]) := by
      clear hw6 H6 locs6 hl7 ls7 hJ_9
      intro H13 locs13 ls13 hw13 hl13
      refine lv_istore (lv' := [(5, .int s_8), (4, .int s_1)]) hx hb dX10_isPart_32 hl13 (by decide) rfl (fun ls14 hl14 => ?_)
      clear hl13 ls13
      refine lv_iload hx hb dX10_isPart_34 (lv_at hl14 1 rfl) ?_
      replace hfin := ob1_some hfin
      obtain ⟨s_15, hJ_16, hfin⟩ := hfin
      have kj_17 : ∀ (H : Heap) (locs : List Loc) (ls : Array Slot), wS G A s H locs [] → lv_has ls 6 [] → W p l e rm_X10_isPart s m args below meth c H locs 0 0 QQ (F0 m 49 ls [.int s_15]) := by
        clear hw13 H13 locs13 hl14 ls14 hJ_16
        intro H20 locs20 ls20 hw20 hl20
        replace hfin := ckz_some hfin
        obtain ⟨hz_21, hfin⟩ := hfin
        cases hfin
        rw [hQQ]
        exact ct_zret hx hb hr hlocks hz_21 hw20.1 hw20.2.1 hw20.2.2 dX10_isPart_49
      clear hfin
      refine lv_if_ne (tgt := 48) hx hb dX10_isPart_36 (by decide) (fun c_18 => ?_) (fun c_18 => ?_)
      · replace hJ_16 := it_f c_18 hJ_16
        refine lv_iconst (v := (0 : Int32)) hx hb dX10_isPart_48 (by decide) ?_
        cases hJ_16
        exact kj_17 _ _ _ hw13 (lv_sub hl14 [] rfl)
      · replace hJ_16 := it_t c_18 hJ_16
        refine lv_iload hx hb dX10_isPart_39 (lv_at hl14 0 rfl) ?_
        refine lv_if_ne (tgt := 48) hx hb dX10_isPart_41 (by decide) (fun c_19 => ?_) (fun c_19 => ?_)
        · replace hJ_16 := it_f c_19 hJ_16
          refine lv_iconst (v := (0 : Int32)) hx hb dX10_isPart_48 (by decide) ?_
          cases hJ_16
          exact kj_17 _ _ _ hw13 (lv_sub hl14 [] rfl)
        · replace hJ_16 := it_t c_19 hJ_16
          refine lv_iconst (v := (1 : Int32)) hx hb dX10_isPart_44 (by decide) ?_
          refine lv_goto (tgt := 49) hx hb dX10_isPart_45 (by decide) ?_
          cases hJ_16
          exact kj_17 _ _ _ hw13 (lv_sub hl14 [] rfl)
    clear hfin
    refine lv_icmp_lt (tgt := 31) hx hb dX10_isPart_19 (by decide) (fun c_11 => ?_) (fun c_11 => ?_)
    · replace hJ_9 := it_t c_11 hJ_9
      refine lv_iconst (v := (0 : Int32)) hx hb dX10_isPart_31 (by decide) ?_
      cases hJ_9
      exact kj_10 _ _ _ hw6 (lv_sub hl7 [0] rfl)
    · replace hJ_9 := it_f c_11 hJ_9
      refine lv_iload_n hx hb dX10_isPart_22 rfl (lv_at hl7 2 rfl) ?_
      refine lv_iload_n hx hb dX10_isPart_23 rfl (lv_at hl7 4 rfl) ?_
      refine lv_icmp_gt (tgt := 31) hx hb dX10_isPart_24 (by decide) (fun c_12 => ?_) (fun c_12 => ?_)
      · replace hJ_9 := it_t c_12 hJ_9
        refine lv_iconst (v := (0 : Int32)) hx hb dX10_isPart_31 (by decide) ?_
        cases hJ_9
        exact kj_10 _ _ _ hw6 (lv_sub hl7 [0] rfl)
      · replace hJ_9 := it_f c_12 hJ_9
        refine lv_iconst (v := (1 : Int32)) hx hb dX10_isPart_27 (by decide) ?_
        refine lv_goto (tgt := 32) hx hb dX10_isPart_28 (by decide) ?_
        cases hJ_9
        exact kj_10 _ _ _ hw6 (lv_sub hl7 [0] rfl)
  clear hfin
  refine lv_icmp_lt (tgt := 10) hx hb dX10_isPart_2 (by decide) (fun c_4 => ?_) (fun c_4 => ?_)
  · replace hJ_2 := it_t c_4 hJ_2
    refine lv_iconst (v := (1 : Int32)) hx hb dX10_isPart_10 (by decide) ?_
    refine lv_goto (tgt := 15) hx hb dX10_isPart_11 (by decide) ?_
    cases hJ_2
    exact kj_3 _ _ _ hw0 (lv_sub hl0 [0, 1, 2, 3] rfl)
  · replace hJ_2 := it_f c_4 hJ_2
    refine lv_iload_n hx hb dX10_isPart_5 rfl (lv_at hl0 0 rfl) ?_
    refine lv_iload_n hx hb dX10_isPart_6 rfl (lv_at hl0 3 rfl) ?_
    refine lv_icmp_le (tgt := 14) hx hb dX10_isPart_7 (by decide) (fun c_5 => ?_) (fun c_5 => ?_)
    · replace hJ_2 := it_t c_5 hJ_2
      refine lv_iconst (v := (0 : Int32)) hx hb dX10_isPart_14 (by decide) ?_
      cases hJ_2
      exact kj_3 _ _ _ hw0 (lv_sub hl0 [0, 1, 2, 3] rfl)
    · replace hJ_2 := it_f c_5 hJ_2
      refine lv_iconst (v := (1 : Int32)) hx hb dX10_isPart_10 (by decide) ?_
      refine lv_goto (tgt := 15) hx hb dX10_isPart_11 (by decide) ?_
      cases hJ_2
      exact kj_3 _ _ _ hw0 (lv_sub hl0 [0, 1, 2, 3] rfl)
abbrev rm_X10_lookInto : Room := { frames := 1, cells := 0, slots := 0, locals := 25 }
theorem hd_X10_lookInto : yX10_lookInto.cls = RX10 ∧ yX10_lookInto.cls ≠ "java/lang/invoke/MethodHandle" ∧ yX10_lookInto.cls ≠ "java/lang/invoke/VarHandle" ∧ (parseMethodDescriptor yX10_lookInto.desc).map (fun d => d.parameters.length) = some 5 := by decide +kernel
set_option maxHeartbeats 4000000 in
set_option maxRecDepth 100000 in
theorem c_X10_lookInto (l : Launch) (G : va_G) (cI cZ cJ : ClassId) (aM aMdisk aMits aMmany aMplace aMlength aMtimes aMvalues aMorder aMheadOf aMheadTime aMheadValue aMnext aMisNew aMcursorTime aMcursorValue aMmade : Nat) (M_thrown : Int32) (M_series : Int32) (M_most : Int32) (M_ratio : Int32) (M_writes : Int32) (M_fuse : Int32) (M_down : Int32) (M_recovers : Int32) (M_looks : Int32) (M_unpacked : Int32) (M_chunks : Int32) (M_epoch : Int32) (M_side : Int32) (M_logged : Int32) (M_nexts : Int32) (M_hasCursor : Int32) (M_cursorMany : Int32) (M_cursorAt : Int32) (M_bits : Int32) (M_from : Int32) (M_askMany : Int32) (M_askLeast : Int32) (M_askGreatest : Int32) (M_askSum : Int64) (M_its : Nat → Int32) (M_many : Nat → Int32) (M_times : Nat → Int32) (M_order : Nat → Int32) (p0 : Int32) (p1 : Int32) (p2 : Int32) (p3 : Int32) (p4 : Int32) {o_M_looks : Int32} {o_M_unpacked : Int32} (hfin : m_X10_lookInto M_looks M_unpacked M_chunks M_its M_many M_times M_order p0 p1 p2 p3 p4 = some (o_M_looks, o_M_unpacked)) : CT l yX10_lookInto cX10_lookInto 7 none rm_X10_lookInto G (tyC cI cZ cJ) [.ref aM, .int p0, .int p1, .int p2, .int p3, .int p4] [oX10 aM M_thrown M_series M_most M_ratio aMdisk M_writes M_fuse M_down M_recovers M_looks M_unpacked aMits aMmany aMplace aMlength aMtimes aMvalues aMorder M_chunks M_epoch M_side aMheadOf aMheadTime aMheadValue M_logged aMnext aMisNew M_nexts aMcursorTime aMcursorValue M_hasCursor M_cursorMany M_cursorAt aMmade M_bits M_from M_askMany M_askLeast M_askGreatest M_askSum, rI aMits cI 240 M_its, rI aMmany cI 240 M_many, rI aMtimes cI 15360 M_times, rI aMorder cI 96 M_order] none [oX10 aM M_thrown M_series M_most M_ratio aMdisk M_writes M_fuse M_down M_recovers o_M_looks o_M_unpacked aMits aMmany aMplace aMlength aMtimes aMvalues aMorder M_chunks M_epoch M_side aMheadOf aMheadTime aMheadValue M_logged aMnext aMisNew M_nexts aMcursorTime aMcursorValue M_hasCursor M_cursorMany M_cursorAt aMmade M_bits M_from M_askMany M_askLeast M_askGreatest M_askSum, rI aMits cI 240 M_its, rI aMmany cI 240 M_many, rI aMtimes cI 15360 M_times, rI aMorder cI 96 M_order] := by
  refine CT.ofW (lvl := [(0, .ref aM), (1, .int p0), (2, .int p1), (3, .int p2), (4, .int p3), (5, .int p4)]) (by decide) (Nat.le_of_ble_eq_true rfl) rfl ?_
  intro p e s m args below meth c A ls0 QQ hQQ hx hb hml hr hlocks htc hN hown hK hA hw0 hl0
  rw [m_X10_lookInto] at hfin
  refine lv_iload_n hx hb dX10_lookInto_0 rfl (lv_at hl0 2 rfl) ?_
  refine lv_istore (lv' := [(6, .int p1), (0, .ref aM), (1, .int p0), (2, .int p1), (3, .int p2), (4, .int p3), (5, .int p4)]) hx hb dX10_lookInto_1 hl0 (by decide) rfl (fun ls1 hl1 => ?_)
  clear hl0 ls0
  replace hfin := ob2_some hfin
  obtain ⟨M_looks_9, M_unpacked_10, hL_5, hfin⟩ := hfin
  have kx_6 : ∀ (H : Heap) (locs : List Loc) (ls : Array Slot), wS G A s H locs [oX10 aM M_thrown M_series M_most M_ratio aMdisk M_writes M_fuse M_down M_recovers M_looks_9 M_unpacked_10 aMits aMmany aMplace aMlength aMtimes aMvalues aMorder M_chunks M_epoch M_side aMheadOf aMheadTime aMheadValue M_logged aMnext aMisNew M_nexts aMcursorTime aMcursorValue M_hasCursor M_cursorMany M_cursorAt aMmade M_bits M_from M_askMany M_askLeast M_askGreatest M_askSum, rI aMits cI 240 M_its, rI aMmany cI 240 M_many, rI aMtimes cI 15360 M_times, rI aMorder cI 96 M_order] → lv_has ls 7 [] → W p l e rm_X10_lookInto s m args below meth c H locs 0 0 QQ (F0 m 71 ls []) := by
    clear hw0 hl1 ls1 hL_5
    intro H36 locs36 ls36 hw36 hl36
    cases hfin
    rw [hQQ]
    exact ct_vret hx hb hr hlocks hw36.1 hw36.2.1 hw36.2.2 dX10_lookInto_71
  have lp_7 : ∀ (n : Nat) (v6_2 : Int32) (M_looks_3 : Int32) (M_unpacked_4 : Int32), lp_X10_lookInto_3 M_chunks M_its M_many M_times M_order p0 p2 p3 p4 n v6_2 M_looks_3 M_unpacked_4 = some (M_looks_9, M_unpacked_10) → ∀ (H : Heap) (locs : List Loc) (ls : Array Slot), wS G A s H locs [oX10 aM M_thrown M_series M_most M_ratio aMdisk M_writes M_fuse M_down M_recovers M_looks_3 M_unpacked_4 aMits aMmany aMplace aMlength aMtimes aMvalues aMorder M_chunks M_epoch M_side aMheadOf aMheadTime aMheadValue M_logged aMnext aMisNew M_nexts aMcursorTime aMcursorValue M_hasCursor M_cursorMany M_cursorAt aMmade M_bits M_from M_askMany M_askLeast M_askGreatest M_askSum, rI aMits cI 240 M_its, rI aMmany cI 240 M_many, rI aMtimes cI 15360 M_times, rI aMorder cI 96 M_order] → lv_has ls 7 [(0, .ref aM), (1, .int p0), (3, .int p2), (4, .int p3), (5, .int p4), (6, .int v6_2)] → W p l e rm_X10_lookInto s m args below meth c H locs 0 0 QQ (F0 m 3 ls []) := by
    clear hw0 hl1 ls1 hfin
    intro n
    induction n with
    | zero =>
      intro v6_2 M_looks_3 M_unpacked_4 hB_8
      exact absurd hB_8 (by rw [lp_X10_lookInto_3]; exact fun h9 => nomatch h9)
    | succ n ih =>
      intro v6_2 M_looks_3 M_unpacked_4 hB_8 H11 locs11 ls11 hw11 hl11
      rw [lp_X10_lookInto_3] at hB_8
      refine lv_iload hx hb dX10_lookInto_3 (lv_at hl11 5 rfl) ?_
      refine lv_iload_n hx hb dX10_lookInto_5 rfl (lv_at hl11 2 rfl) ?_
      refine lv_icmp_ge (tgt := 71) hx hb dX10_lookInto_6 (by decide) (fun c_12 => ?_) (fun c_12 => ?_)
      · replace hB_8 := it_t c_12 hB_8
        cases hB_8
        exact kx_6 _ _ _ hw11 (lv_sub hl11 [] rfl)
      · replace hB_8 := it_f c_12 hB_8
        refine lv_aload_n hx hb dX10_lookInto_9 rfl (lv_at hl11 0 rfl) ?_
        refine lv_dup hx hb dX10_lookInto_10 rfl ?_
        refine va_get (D := G) (ci := 10) (v := .int M_looks_3) (C := RX10) (T := TX10) (N := 40) hx hb htc iX10 hown hK hw11.1 0 rfl rfl 9 (by decide) (htc _ mw_956) (fun _ h9 => h9) rfl dX10_lookInto_11 ?_
        refine lv_iconst (v := (1 : Int32)) hx hb dX10_lookInto_14 (by decide) ?_
        refine lv_iadd hx hb dX10_lookInto_15 ?_
        refine va_put (D := G) (ci := 10) (v := .int (M_looks_3 + (1 : Int32))) (ty := .int) (C := RX10) (T := TX10) (N := 40) hx hb htc iX10 tyX10 tyX10_ok nmX10 hown hK hw11.1 hw11.2.1 hw11.2.2 0 rfl rfl 9 (by decide) (htc _ mw_956) (fun _ h9 => h9) rfl (tyX10_ok 9 (by decide)) rfl rfl (Nat.le_of_ble_eq_true rfl) dX10_lookInto_16 (fun H13 locs13 hP hD hS => ?_)
        have hw13 : wS G A s H13 locs13 [oX10 aM M_thrown M_series M_most M_ratio aMdisk M_writes M_fuse M_down M_recovers (M_looks_3 + (1 : Int32)) M_unpacked_4 aMits aMmany aMplace aMlength aMtimes aMvalues aMorder M_chunks M_epoch M_side aMheadOf aMheadTime aMheadValue M_logged aMnext aMisNew M_nexts aMcursorTime aMcursorValue M_hasCursor M_cursorMany M_cursorAt aMmade M_bits M_from M_askMany M_askLeast M_askGreatest M_askSum, rI aMits cI 240 M_its, rI aMmany cI 240 M_many, rI aMtimes cI 15360 M_times, rI aMorder cI 96 M_order] := ⟨hP, hD, hS⟩
        clear hP hD hS hw11 H11 locs11
        refine lv_aload_n hx hb dX10_lookInto_19 rfl (lv_at hl11 0 rfl) ?_
        refine lv_dup hx hb dX10_lookInto_20 rfl ?_
        refine va_get (D := G) (ci := 10) (v := .int M_unpacked_4) (C := RX10) (T := TX10) (N := 40) hx hb htc iX10 hown hK hw13.1 0 rfl rfl 10 (by decide) (htc _ mw_957) (fun _ h9 => h9) rfl dX10_lookInto_21 ?_
        refine lv_aload_n hx hb dX10_lookInto_24 rfl (lv_at hl11 0 rfl) ?_
        refine lv_aload_n hx hb dX10_lookInto_25 rfl (lv_at hl11 0 rfl) ?_
        refine lv_iload_n hx hb dX10_lookInto_26 rfl (lv_at hl11 1 rfl) ?_
        refine lv_iload hx hb dX10_lookInto_27 (lv_at hl11 5 rfl) ?_
        replace hB_8 := ob1_some hB_8
        obtain ⟨r_15, hE_14, hB_8⟩ := hB_8
        refine ctV (a := aM) (As := [.int p0, .int v6_2]) (rest := [.ref aM, .int M_unpacked_4, .ref aM]) (st1 := [.int r_15, .ref aM, .int M_unpacked_4, .ref aM]) (wc := [oX10 aM M_thrown M_series M_most M_ratio aMdisk M_writes M_fuse M_down M_recovers (M_looks_3 + (1 : Int32)) M_unpacked_4 aMits aMmany aMplace aMlength aMtimes aMvalues aMorder M_chunks M_epoch M_side aMheadOf aMheadTime aMheadValue M_logged aMnext aMisNew M_nexts aMcursorTime aMcursorValue M_hasCursor M_cursorMany M_cursorAt aMmade M_bits M_from M_askMany M_askLeast M_askGreatest M_askSum, rI aMits cI 240 M_its, rI aMorder cI 96 M_order]) (w1 := [oX10 aM M_thrown M_series M_most M_ratio aMdisk M_writes M_fuse M_down M_recovers (M_looks_3 + (1 : Int32)) M_unpacked_4 aMits aMmany aMplace aMlength aMtimes aMvalues aMorder M_chunks M_epoch M_side aMheadOf aMheadTime aMheadValue M_logged aMnext aMisNew M_nexts aMcursorTime aMcursorValue M_hasCursor M_cursorMany M_cursorAt aMmade M_bits M_from M_askMany M_askLeast M_askGreatest M_askSum, rI aMits cI 240 M_its, rI aMorder cI 96 M_order]) (wr := [rI aMmany cI 240 M_many, rI aMtimes cI 15360 M_times]) (wb := [oX10 aM M_thrown M_series M_most M_ratio aMdisk M_writes M_fuse M_down M_recovers (M_looks_3 + (1 : Int32)) M_unpacked_4 aMits aMmany aMplace aMlength aMtimes aMvalues aMorder M_chunks M_epoch M_side aMheadOf aMheadTime aMheadValue M_logged aMnext aMisNew M_nexts aMcursorTime aMcursorValue M_hasCursor M_cursorMany M_cursorAt aMmade M_bits M_from M_askMany M_askLeast M_askGreatest M_askSum, rI aMits cI 240 M_its, rI aMmany cI 240 M_many, rI aMtimes cI 15360 M_times, rI aMorder cI 96 M_order]) (v := (some (.int r_15))) hx hb hml hown htc hN (c_X10_slot l G cI cZ cJ aM aMdisk aMits aMmany aMplace aMlength aMtimes aMvalues aMorder aMheadOf aMheadTime aMheadValue aMnext aMisNew aMcursorTime aMcursorValue aMmade M_thrown M_series M_most M_ratio M_writes M_fuse M_down M_recovers (M_looks_3 + (1 : Int32)) M_unpacked_4 M_chunks M_epoch M_side M_logged M_nexts M_hasCursor M_cursorMany M_cursorAt M_bits M_from M_askMany M_askLeast M_askGreatest M_askSum M_its M_order p0 v6_2 hE_14) mw_1237 mw_1239 mp_67 mw_12 mw_1240 hd_X10_slot ⟨rfl, rfl⟩ ⟨Nat.le_of_ble_eq_true rfl, Nat.le_of_ble_eq_true rfl⟩ hK hw13 hA [0, 1, 4] [2, 3] [2, 3, 0, 1, 4] rfl rfl rfl rfl rfl (by decide) rfl rfl rfl 0 rfl rfl rfl rfl hl11.1 rfl rfl (Nat.le_of_ble_eq_true rfl) dX10_lookInto_29 ⟨Nat.zero_le _, Nat.zero_le _⟩ (fun H16 locs16 hw16 => ?_)
        clear hw13 H13 locs13
        replace hB_8 := ob1_some hB_8
        obtain ⟨r_18, hE_17, hB_8⟩ := hB_8
        refine ctV (a := aM) (As := [.int r_15]) (rest := [.int M_unpacked_4, .ref aM]) (st1 := [.int r_18, .int M_unpacked_4, .ref aM]) (wc := [oX10 aM M_thrown M_series M_most M_ratio aMdisk M_writes M_fuse M_down M_recovers (M_looks_3 + (1 : Int32)) M_unpacked_4 aMits aMmany aMplace aMlength aMtimes aMvalues aMorder M_chunks M_epoch M_side aMheadOf aMheadTime aMheadValue M_logged aMnext aMisNew M_nexts aMcursorTime aMcursorValue M_hasCursor M_cursorMany M_cursorAt aMmade M_bits M_from M_askMany M_askLeast M_askGreatest M_askSum, rI aMtimes cI 15360 M_times]) (w1 := [oX10 aM M_thrown M_series M_most M_ratio aMdisk M_writes M_fuse M_down M_recovers (M_looks_3 + (1 : Int32)) M_unpacked_4 aMits aMmany aMplace aMlength aMtimes aMvalues aMorder M_chunks M_epoch M_side aMheadOf aMheadTime aMheadValue M_logged aMnext aMisNew M_nexts aMcursorTime aMcursorValue M_hasCursor M_cursorMany M_cursorAt aMmade M_bits M_from M_askMany M_askLeast M_askGreatest M_askSum, rI aMtimes cI 15360 M_times]) (wr := [rI aMits cI 240 M_its, rI aMmany cI 240 M_many, rI aMorder cI 96 M_order]) (wb := [oX10 aM M_thrown M_series M_most M_ratio aMdisk M_writes M_fuse M_down M_recovers (M_looks_3 + (1 : Int32)) M_unpacked_4 aMits aMmany aMplace aMlength aMtimes aMvalues aMorder M_chunks M_epoch M_side aMheadOf aMheadTime aMheadValue M_logged aMnext aMisNew M_nexts aMcursorTime aMcursorValue M_hasCursor M_cursorMany M_cursorAt aMmade M_bits M_from M_askMany M_askLeast M_askGreatest M_askSum, rI aMits cI 240 M_its, rI aMmany cI 240 M_many, rI aMtimes cI 15360 M_times, rI aMorder cI 96 M_order]) (v := (some (.int r_18))) hx hb hml hown htc hN (c_X10_firstTime l G cI cZ cJ aM aMdisk aMits aMmany aMplace aMlength aMtimes aMvalues aMorder aMheadOf aMheadTime aMheadValue aMnext aMisNew aMcursorTime aMcursorValue aMmade M_thrown M_series M_most M_ratio M_writes M_fuse M_down M_recovers (M_looks_3 + (1 : Int32)) M_unpacked_4 M_chunks M_epoch M_side M_logged M_nexts M_hasCursor M_cursorMany M_cursorAt M_bits M_from M_askMany M_askLeast M_askGreatest M_askSum M_times r_15 hE_17) mw_1181 mw_1183 mp_56 mw_12 mw_1184 hd_X10_firstTime ⟨rfl, rfl⟩ ⟨Nat.le_of_ble_eq_true rfl, Nat.le_of_ble_eq_true rfl⟩ hK hw16 hA [0, 3] [1, 2, 4] [3, 0, 1, 4, 2] rfl rfl rfl rfl rfl (by decide) rfl rfl rfl 0 rfl rfl rfl rfl hl11.1 rfl rfl (Nat.le_of_ble_eq_true rfl) dX10_lookInto_32 ⟨Nat.zero_le _, Nat.zero_le _⟩ (fun H19 locs19 hw19 => ?_)
        clear hw16 H16 locs16
        refine lv_aload_n hx hb dX10_lookInto_35 rfl (lv_at hl11 0 rfl) ?_
        refine lv_aload_n hx hb dX10_lookInto_36 rfl (lv_at hl11 0 rfl) ?_
        refine lv_iload_n hx hb dX10_lookInto_37 rfl (lv_at hl11 1 rfl) ?_
        refine lv_iload hx hb dX10_lookInto_38 (lv_at hl11 5 rfl) ?_
        replace hB_8 := ob1_some hB_8
        obtain ⟨r_21, hE_20, hB_8⟩ := hB_8
        refine ctV (a := aM) (As := [.int p0, .int v6_2]) (rest := [.ref aM, .int r_18, .int M_unpacked_4, .ref aM]) (st1 := [.int r_21, .ref aM, .int r_18, .int M_unpacked_4, .ref aM]) (wc := [oX10 aM M_thrown M_series M_most M_ratio aMdisk M_writes M_fuse M_down M_recovers (M_looks_3 + (1 : Int32)) M_unpacked_4 aMits aMmany aMplace aMlength aMtimes aMvalues aMorder M_chunks M_epoch M_side aMheadOf aMheadTime aMheadValue M_logged aMnext aMisNew M_nexts aMcursorTime aMcursorValue M_hasCursor M_cursorMany M_cursorAt aMmade M_bits M_from M_askMany M_askLeast M_askGreatest M_askSum, rI aMits cI 240 M_its, rI aMorder cI 96 M_order]) (w1 := [oX10 aM M_thrown M_series M_most M_ratio aMdisk M_writes M_fuse M_down M_recovers (M_looks_3 + (1 : Int32)) M_unpacked_4 aMits aMmany aMplace aMlength aMtimes aMvalues aMorder M_chunks M_epoch M_side aMheadOf aMheadTime aMheadValue M_logged aMnext aMisNew M_nexts aMcursorTime aMcursorValue M_hasCursor M_cursorMany M_cursorAt aMmade M_bits M_from M_askMany M_askLeast M_askGreatest M_askSum, rI aMits cI 240 M_its, rI aMorder cI 96 M_order]) (wr := [rI aMmany cI 240 M_many, rI aMtimes cI 15360 M_times]) (wb := [oX10 aM M_thrown M_series M_most M_ratio aMdisk M_writes M_fuse M_down M_recovers (M_looks_3 + (1 : Int32)) M_unpacked_4 aMits aMmany aMplace aMlength aMtimes aMvalues aMorder M_chunks M_epoch M_side aMheadOf aMheadTime aMheadValue M_logged aMnext aMisNew M_nexts aMcursorTime aMcursorValue M_hasCursor M_cursorMany M_cursorAt aMmade M_bits M_from M_askMany M_askLeast M_askGreatest M_askSum, rI aMits cI 240 M_its, rI aMmany cI 240 M_many, rI aMtimes cI 15360 M_times, rI aMorder cI 96 M_order]) (v := (some (.int r_21))) hx hb hml hown htc hN (c_X10_slot l G cI cZ cJ aM aMdisk aMits aMmany aMplace aMlength aMtimes aMvalues aMorder aMheadOf aMheadTime aMheadValue aMnext aMisNew aMcursorTime aMcursorValue aMmade M_thrown M_series M_most M_ratio M_writes M_fuse M_down M_recovers (M_looks_3 + (1 : Int32)) M_unpacked_4 M_chunks M_epoch M_side M_logged M_nexts M_hasCursor M_cursorMany M_cursorAt M_bits M_from M_askMany M_askLeast M_askGreatest M_askSum M_its M_order p0 v6_2 hE_20) mw_1237 mw_1239 mp_67 mw_12 mw_1240 hd_X10_slot ⟨rfl, rfl⟩ ⟨Nat.le_of_ble_eq_true rfl, Nat.le_of_ble_eq_true rfl⟩ hK hw19 hA [0, 1, 4] [2, 3] [2, 3, 0, 1, 4] rfl rfl rfl rfl rfl (by decide) rfl rfl rfl 0 rfl rfl rfl rfl hl11.1 rfl rfl (Nat.le_of_ble_eq_true rfl) dX10_lookInto_40 ⟨Nat.zero_le _, Nat.zero_le _⟩ (fun H22 locs22 hw22 => ?_)
        clear hw19 H19 locs19
        replace hB_8 := ob1_some hB_8
        obtain ⟨r_24, hE_23, hB_8⟩ := hB_8
        refine ctV (a := aM) (As := [.int r_21]) (rest := [.int r_18, .int M_unpacked_4, .ref aM]) (st1 := [.int r_24, .int r_18, .int M_unpacked_4, .ref aM]) (wc := [oX10 aM M_thrown M_series M_most M_ratio aMdisk M_writes M_fuse M_down M_recovers (M_looks_3 + (1 : Int32)) M_unpacked_4 aMits aMmany aMplace aMlength aMtimes aMvalues aMorder M_chunks M_epoch M_side aMheadOf aMheadTime aMheadValue M_logged aMnext aMisNew M_nexts aMcursorTime aMcursorValue M_hasCursor M_cursorMany M_cursorAt aMmade M_bits M_from M_askMany M_askLeast M_askGreatest M_askSum, rI aMmany cI 240 M_many, rI aMtimes cI 15360 M_times]) (w1 := [oX10 aM M_thrown M_series M_most M_ratio aMdisk M_writes M_fuse M_down M_recovers (M_looks_3 + (1 : Int32)) M_unpacked_4 aMits aMmany aMplace aMlength aMtimes aMvalues aMorder M_chunks M_epoch M_side aMheadOf aMheadTime aMheadValue M_logged aMnext aMisNew M_nexts aMcursorTime aMcursorValue M_hasCursor M_cursorMany M_cursorAt aMmade M_bits M_from M_askMany M_askLeast M_askGreatest M_askSum, rI aMmany cI 240 M_many, rI aMtimes cI 15360 M_times]) (wr := [rI aMits cI 240 M_its, rI aMorder cI 96 M_order]) (wb := [oX10 aM M_thrown M_series M_most M_ratio aMdisk M_writes M_fuse M_down M_recovers (M_looks_3 + (1 : Int32)) M_unpacked_4 aMits aMmany aMplace aMlength aMtimes aMvalues aMorder M_chunks M_epoch M_side aMheadOf aMheadTime aMheadValue M_logged aMnext aMisNew M_nexts aMcursorTime aMcursorValue M_hasCursor M_cursorMany M_cursorAt aMmade M_bits M_from M_askMany M_askLeast M_askGreatest M_askSum, rI aMits cI 240 M_its, rI aMmany cI 240 M_many, rI aMtimes cI 15360 M_times, rI aMorder cI 96 M_order]) (v := (some (.int r_24))) hx hb hml hown htc hN (c_X10_lastTime l G cI cZ cJ aM aMdisk aMits aMmany aMplace aMlength aMtimes aMvalues aMorder aMheadOf aMheadTime aMheadValue aMnext aMisNew aMcursorTime aMcursorValue aMmade M_thrown M_series M_most M_ratio M_writes M_fuse M_down M_recovers (M_looks_3 + (1 : Int32)) M_unpacked_4 M_chunks M_epoch M_side M_logged M_nexts M_hasCursor M_cursorMany M_cursorAt M_bits M_from M_askMany M_askLeast M_askGreatest M_askSum M_many M_times r_21 hE_23) mw_1185 mw_1187 mp_57 mw_12 mw_1188 hd_X10_lastTime ⟨rfl, rfl⟩ ⟨Nat.le_of_ble_eq_true rfl, Nat.le_of_ble_eq_true rfl⟩ hK hw22 hA [0, 2, 3] [1, 4] [2, 0, 3, 4, 1] rfl rfl rfl rfl rfl (by decide) rfl rfl rfl 0 rfl rfl rfl rfl hl11.1 rfl rfl (Nat.le_of_ble_eq_true rfl) dX10_lookInto_43 ⟨Nat.zero_le _, Nat.zero_le _⟩ (fun H25 locs25 hw25 => ?_)
        clear hw22 H22 locs22
        refine lv_iload hx hb dX10_lookInto_46 (lv_at hl11 3 rfl) ?_
        refine lv_iload hx hb dX10_lookInto_48 (lv_at hl11 4 rfl) ?_
        replace hB_8 := ob1_some hB_8
        obtain ⟨r_27, hE_26, hB_8⟩ := hB_8
        refine ctS (As := [.int r_18, .int r_24, .int p3, .int p4]) (rest := [.int M_unpacked_4, .ref aM]) (st1 := [.int r_27, .int M_unpacked_4, .ref aM]) (wc := []) (w1 := []) (wr := [oX10 aM M_thrown M_series M_most M_ratio aMdisk M_writes M_fuse M_down M_recovers (M_looks_3 + (1 : Int32)) M_unpacked_4 aMits aMmany aMplace aMlength aMtimes aMvalues aMorder M_chunks M_epoch M_side aMheadOf aMheadTime aMheadValue M_logged aMnext aMisNew M_nexts aMcursorTime aMcursorValue M_hasCursor M_cursorMany M_cursorAt aMmade M_bits M_from M_askMany M_askLeast M_askGreatest M_askSum, rI aMits cI 240 M_its, rI aMmany cI 240 M_many, rI aMtimes cI 15360 M_times, rI aMorder cI 96 M_order]) (wb := [oX10 aM M_thrown M_series M_most M_ratio aMdisk M_writes M_fuse M_down M_recovers (M_looks_3 + (1 : Int32)) M_unpacked_4 aMits aMmany aMplace aMlength aMtimes aMvalues aMorder M_chunks M_epoch M_side aMheadOf aMheadTime aMheadValue M_logged aMnext aMisNew M_nexts aMcursorTime aMcursorValue M_hasCursor M_cursorMany M_cursorAt aMmade M_bits M_from M_askMany M_askLeast M_askGreatest M_askSum, rI aMits cI 240 M_its, rI aMmany cI 240 M_many, rI aMtimes cI 15360 M_times, rI aMorder cI 96 M_order]) (v := (some (.int r_27))) hx hb hml hown htc hN (c_X10_isPart l G cI cZ cJ   r_18 r_24 p3 p4 hE_26) mw_1241 mw_1242 mw_12 mw_1243 hs_X10_isPart ⟨rfl, rfl⟩ ⟨Nat.le_of_ble_eq_true rfl, Nat.le_of_ble_eq_true rfl⟩ hK hw25 hA [] [0, 1, 2, 3, 4] [0, 1, 2, 3, 4] rfl rfl rfl rfl rfl (by decide) rfl rfl rfl rfl hl11.1 rfl rfl (Nat.le_of_ble_eq_true rfl) dX10_lookInto_50 ⟨Nat.zero_le _, Nat.zero_le _⟩ (fun H28 locs28 hw28 => ?_)
        clear hw25 H25 locs25
        replace hB_8 := ob1_some hB_8
        obtain ⟨s_29, hJ_30, hB_8⟩ := hB_8
        have kj_31 : ∀ (H : Heap) (locs : List Loc) (ls : Array Slot), wS G A s H locs [oX10 aM M_thrown M_series M_most M_ratio aMdisk M_writes M_fuse M_down M_recovers (M_looks_3 + (1 : Int32)) M_unpacked_4 aMits aMmany aMplace aMlength aMtimes aMvalues aMorder M_chunks M_epoch M_side aMheadOf aMheadTime aMheadValue M_logged aMnext aMisNew M_nexts aMcursorTime aMcursorValue M_hasCursor M_cursorMany M_cursorAt aMmade M_bits M_from M_askMany M_askLeast M_askGreatest M_askSum, rI aMits cI 240 M_its, rI aMmany cI 240 M_many, rI aMtimes cI 15360 M_times, rI aMorder cI 96 M_order] → lv_has ls 7 [(0, .ref aM), (1, .int p0), (3, .int p2), (4, .int p3), (5, .int p4), (6, .int v6_2)] → W p l e rm_X10_lookInto s m args below meth c H locs 0 0 QQ (F0 m 61 ls [.int s_29, .int M_unpacked_4, .ref aM]) := by
          clear hw28 H28 locs28 hl11 ls11 hJ_30
          intro H33 locs33 ls33 hw33 hl33
          refine lv_iadd hx hb dX10_lookInto_61 ?_
          refine va_put (D := G) (ci := 10) (v := .int (M_unpacked_4 + s_29)) (ty := .int) (C := RX10) (T := TX10) (N := 40) hx hb htc iX10 tyX10 tyX10_ok nmX10 hown hK hw33.1 hw33.2.1 hw33.2.2 0 rfl rfl 10 (by decide) (htc _ mw_957) (fun _ h9 => h9) rfl (tyX10_ok 10 (by decide)) rfl rfl (Nat.le_of_ble_eq_true rfl) dX10_lookInto_62 (fun H34 locs34 hP hD hS => ?_)
          have hw34 : wS G A s H34 locs34 [oX10 aM M_thrown M_series M_most M_ratio aMdisk M_writes M_fuse M_down M_recovers (M_looks_3 + (1 : Int32)) (M_unpacked_4 + s_29) aMits aMmany aMplace aMlength aMtimes aMvalues aMorder M_chunks M_epoch M_side aMheadOf aMheadTime aMheadValue M_logged aMnext aMisNew M_nexts aMcursorTime aMcursorValue M_hasCursor M_cursorMany M_cursorAt aMmade M_bits M_from M_askMany M_askLeast M_askGreatest M_askSum, rI aMits cI 240 M_its, rI aMmany cI 240 M_many, rI aMtimes cI 15360 M_times, rI aMorder cI 96 M_order] := ⟨hP, hD, hS⟩
          clear hP hD hS hw33 H33 locs33
          refine lv_iinc (v := (v6_2 + (1 : Int32))) (lv' := [(6, .int (v6_2 + (1 : Int32))), (0, .ref aM), (1, .int p0), (3, .int p2), (4, .int p3), (5, .int p4)]) hx hb dX10_lookInto_65 hl33 (k := 5) rfl rfl (by decide) rfl (fun ls35 hl35 => ?_)
          clear hl33 ls33
          refine lv_goto (tgt := 3) hx hb dX10_lookInto_68 (by decide) ?_
          exact ih (v6_2 + (1 : Int32)) (M_looks_3 + (1 : Int32)) (M_unpacked_4 + s_29) hB_8 _ _ _ hw34 (lv_sub hl35 [1, 2, 3, 4, 5, 0] rfl)
        clear hB_8
        refine lv_if_eq (tgt := 60) hx hb dX10_lookInto_53 (by decide) (fun c_32 => ?_) (fun c_32 => ?_)
        · replace hJ_30 := it_t c_32 hJ_30
          refine lv_iconst (v := (0 : Int32)) hx hb dX10_lookInto_60 (by decide) ?_
          cases hJ_30
          exact kj_31 _ _ _ hw28 (lv_sub hl11 [0, 1, 2, 3, 4, 5] rfl)
        · replace hJ_30 := it_f c_32 hJ_30
          refine lv_iconst (v := (1 : Int32)) hx hb dX10_lookInto_56 (by decide) ?_
          refine lv_goto (tgt := 61) hx hb dX10_lookInto_57 (by decide) ?_
          cases hJ_30
          exact kj_31 _ _ _ hw28 (lv_sub hl11 [0, 1, 2, 3, 4, 5] rfl)
  exact lp_7 NN p1 M_looks M_unpacked hL_5 _ _ _ hw0 (lv_sub hl1 [1, 2, 4, 5, 6, 0] rfl)
abbrev rm_X10_lookAt : Room := { frames := 2, cells := 0, slots := 0, locals := 51 }
theorem hd_X10_lookAt : yX10_lookAt.cls = RX10 ∧ yX10_lookAt.cls ≠ "java/lang/invoke/MethodHandle" ∧ yX10_lookAt.cls ≠ "java/lang/invoke/VarHandle" ∧ (parseMethodDescriptor yX10_lookAt.desc).map (fun d => d.parameters.length) = some 3 := by decide +kernel
set_option maxHeartbeats 4000000 in
set_option maxRecDepth 100000 in
theorem c_X10_lookAt (l : Launch) (G : va_G) (cI cZ cJ : ClassId) (aM aMdisk aMits aMmany aMplace aMlength aMtimes aMvalues aMorder aMheadOf aMheadTime aMheadValue aMnext aMisNew aMcursorTime aMcursorValue aMmade : Nat) (M_thrown : Int32) (M_series : Int32) (M_most : Int32) (M_ratio : Int32) (M_writes : Int32) (M_fuse : Int32) (M_down : Int32) (M_recovers : Int32) (M_looks : Int32) (M_unpacked : Int32) (M_chunks : Int32) (M_epoch : Int32) (M_side : Int32) (M_logged : Int32) (M_nexts : Int32) (M_hasCursor : Int32) (M_cursorMany : Int32) (M_cursorAt : Int32) (M_bits : Int32) (M_from : Int32) (M_askMany : Int32) (M_askLeast : Int32) (M_askGreatest : Int32) (M_askSum : Int64) (M_its : Nat → Int32) (M_many : Nat → Int32) (M_times : Nat → Int32) (M_order : Nat → Int32) (p0 : Int32) (p1 : Int32) (p2 : Int32) {o_M_looks : Int32} {o_M_unpacked : Int32} (hfin : m_X10_lookAt M_ratio M_looks M_unpacked M_chunks M_its M_many M_times M_order p0 p1 p2 = some (o_M_looks, o_M_unpacked)) : CT l yX10_lookAt cX10_lookAt 8 none rm_X10_lookAt G (tyC cI cZ cJ) [.ref aM, .int p0, .int p1, .int p2] [oX10 aM M_thrown M_series M_most M_ratio aMdisk M_writes M_fuse M_down M_recovers M_looks M_unpacked aMits aMmany aMplace aMlength aMtimes aMvalues aMorder M_chunks M_epoch M_side aMheadOf aMheadTime aMheadValue M_logged aMnext aMisNew M_nexts aMcursorTime aMcursorValue M_hasCursor M_cursorMany M_cursorAt aMmade M_bits M_from M_askMany M_askLeast M_askGreatest M_askSum, rI aMits cI 240 M_its, rI aMmany cI 240 M_many, rI aMtimes cI 15360 M_times, rI aMorder cI 96 M_order] none [oX10 aM M_thrown M_series M_most M_ratio aMdisk M_writes M_fuse M_down M_recovers o_M_looks o_M_unpacked aMits aMmany aMplace aMlength aMtimes aMvalues aMorder M_chunks M_epoch M_side aMheadOf aMheadTime aMheadValue M_logged aMnext aMisNew M_nexts aMcursorTime aMcursorValue M_hasCursor M_cursorMany M_cursorAt aMmade M_bits M_from M_askMany M_askLeast M_askGreatest M_askSum, rI aMits cI 240 M_its, rI aMmany cI 240 M_many, rI aMtimes cI 15360 M_times, rI aMorder cI 96 M_order] := by
  refine CT.ofW (lvl := [(0, .ref aM), (1, .int p0), (2, .int p1), (3, .int p2)]) (by decide) (Nat.le_of_ble_eq_true rfl) rfl ?_
  intro p e s m args below meth c A ls0 QQ hQQ hx hb hml hr hlocks htc hN hown hK hA hw0 hl0
  rw [m_X10_lookAt] at hfin
  refine lv_aload_n hx hb dX10_lookAt_0 rfl (lv_at hl0 0 rfl) ?_
  refine lv_iconst (v := (0 : Int32)) hx hb dX10_lookAt_1 (by decide) ?_
  refine va_put (D := G) (ci := 10) (v := .int (0 : Int32)) (ty := .int) (C := RX10) (T := TX10) (N := 40) hx hb htc iX10 tyX10 tyX10_ok nmX10 hown hK hw0.1 hw0.2.1 hw0.2.2 0 rfl rfl 9 (by decide) (htc _ mw_956) (fun _ h9 => h9) rfl (tyX10_ok 9 (by decide)) rfl rfl (Nat.le_of_ble_eq_true rfl) dX10_lookAt_2 (fun H1 locs1 hP hD hS => ?_)
  have hw1 : wS G A s H1 locs1 [oX10 aM M_thrown M_series M_most M_ratio aMdisk M_writes M_fuse M_down M_recovers (0 : Int32) M_unpacked aMits aMmany aMplace aMlength aMtimes aMvalues aMorder M_chunks M_epoch M_side aMheadOf aMheadTime aMheadValue M_logged aMnext aMisNew M_nexts aMcursorTime aMcursorValue M_hasCursor M_cursorMany M_cursorAt aMmade M_bits M_from M_askMany M_askLeast M_askGreatest M_askSum, rI aMits cI 240 M_its, rI aMmany cI 240 M_many, rI aMtimes cI 15360 M_times, rI aMorder cI 96 M_order] := ⟨hP, hD, hS⟩
  clear hP hD hS hw0
  refine lv_aload_n hx hb dX10_lookAt_5 rfl (lv_at hl0 0 rfl) ?_
  refine lv_iconst (v := (0 : Int32)) hx hb dX10_lookAt_6 (by decide) ?_
  refine va_put (D := G) (ci := 10) (v := .int (0 : Int32)) (ty := .int) (C := RX10) (T := TX10) (N := 40) hx hb htc iX10 tyX10 tyX10_ok nmX10 hown hK hw1.1 hw1.2.1 hw1.2.2 0 rfl rfl 10 (by decide) (htc _ mw_957) (fun _ h9 => h9) rfl (tyX10_ok 10 (by decide)) rfl rfl (Nat.le_of_ble_eq_true rfl) dX10_lookAt_7 (fun H2 locs2 hP hD hS => ?_)
  have hw2 : wS G A s H2 locs2 [oX10 aM M_thrown M_series M_most M_ratio aMdisk M_writes M_fuse M_down M_recovers (0 : Int32) (0 : Int32) aMits aMmany aMplace aMlength aMtimes aMvalues aMorder M_chunks M_epoch M_side aMheadOf aMheadTime aMheadValue M_logged aMnext aMisNew M_nexts aMcursorTime aMcursorValue M_hasCursor M_cursorMany M_cursorAt aMmade M_bits M_from M_askMany M_askLeast M_askGreatest M_askSum, rI aMits cI 240 M_its, rI aMmany cI 240 M_many, rI aMtimes cI 15360 M_times, rI aMorder cI 96 M_order] := ⟨hP, hD, hS⟩
  clear hP hD hS hw1 H1 locs1
  refine lv_aload_n hx hb dX10_lookAt_10 rfl (lv_at hl0 0 rfl) ?_
  refine lv_iload_n hx hb dX10_lookAt_11 rfl (lv_at hl0 1 rfl) ?_
  replace hfin := ob1_some hfin
  obtain ⟨r_4, hE_3, hfin⟩ := hfin
  refine ctV (a := aM) (As := [.int p0]) (rest := []) (st1 := [.int r_4]) (wc := [oX10 aM M_thrown M_series M_most M_ratio aMdisk M_writes M_fuse M_down M_recovers (0 : Int32) (0 : Int32) aMits aMmany aMplace aMlength aMtimes aMvalues aMorder M_chunks M_epoch M_side aMheadOf aMheadTime aMheadValue M_logged aMnext aMisNew M_nexts aMcursorTime aMcursorValue M_hasCursor M_cursorMany M_cursorAt aMmade M_bits M_from M_askMany M_askLeast M_askGreatest M_askSum, rI aMits cI 240 M_its, rI aMorder cI 96 M_order]) (w1 := [oX10 aM M_thrown M_series M_most M_ratio aMdisk M_writes M_fuse M_down M_recovers (0 : Int32) (0 : Int32) aMits aMmany aMplace aMlength aMtimes aMvalues aMorder M_chunks M_epoch M_side aMheadOf aMheadTime aMheadValue M_logged aMnext aMisNew M_nexts aMcursorTime aMcursorValue M_hasCursor M_cursorMany M_cursorAt aMmade M_bits M_from M_askMany M_askLeast M_askGreatest M_askSum, rI aMits cI 240 M_its, rI aMorder cI 96 M_order]) (wr := [rI aMmany cI 240 M_many, rI aMtimes cI 15360 M_times]) (wb := [oX10 aM M_thrown M_series M_most M_ratio aMdisk M_writes M_fuse M_down M_recovers (0 : Int32) (0 : Int32) aMits aMmany aMplace aMlength aMtimes aMvalues aMorder M_chunks M_epoch M_side aMheadOf aMheadTime aMheadValue M_logged aMnext aMisNew M_nexts aMcursorTime aMcursorValue M_hasCursor M_cursorMany M_cursorAt aMmade M_bits M_from M_askMany M_askLeast M_askGreatest M_askSum, rI aMits cI 240 M_its, rI aMmany cI 240 M_many, rI aMtimes cI 15360 M_times, rI aMorder cI 96 M_order]) (v := (some (.int r_4))) hx hb hml hown htc hN (c_X10_chunksOf l G cI cZ cJ aM aMdisk aMits aMmany aMplace aMlength aMtimes aMvalues aMorder aMheadOf aMheadTime aMheadValue aMnext aMisNew aMcursorTime aMcursorValue aMmade M_thrown M_series M_most M_ratio M_writes M_fuse M_down M_recovers (0 : Int32) (0 : Int32) M_chunks M_epoch M_side M_logged M_nexts M_hasCursor M_cursorMany M_cursorAt M_bits M_from M_askMany M_askLeast M_askGreatest M_askSum M_its M_order p0 hE_3) mw_1229 mw_1231 mp_65 mw_12 mw_1232 hd_X10_chunksOf ⟨rfl, rfl⟩ ⟨Nat.le_of_ble_eq_true rfl, Nat.le_of_ble_eq_true rfl⟩ hK hw2 hA [0, 1, 4] [2, 3] [2, 3, 0, 1, 4] rfl rfl rfl rfl rfl (by decide) rfl rfl rfl 0 rfl rfl rfl rfl hl0.1 rfl rfl (Nat.le_of_ble_eq_true rfl) dX10_lookAt_12 ⟨Nat.zero_le _, Nat.zero_le _⟩ (fun H5 locs5 hw5 => ?_)
  clear hw2 H2 locs2
  refine lv_istore (lv' := [(4, .int r_4), (0, .ref aM), (1, .int p0), (2, .int p1), (3, .int p2)]) hx hb dX10_lookAt_15 hl0 (by decide) rfl (fun ls6 hl6 => ?_)
  clear hl0 ls0
  refine lv_iconst (v := (0 : Int32)) hx hb dX10_lookAt_17 (by decide) ?_
  refine lv_istore (lv' := [(5, .int (0 : Int32)), (4, .int r_4), (0, .ref aM), (1, .int p0), (2, .int p1), (3, .int p2)]) hx hb dX10_lookAt_18 hl6 (by decide) rfl (fun ls7 hl7 => ?_)
  clear hl6 ls6
  replace hfin := ob2_some hfin
  obtain ⟨M_looks_15, M_unpacked_16, hL_11, hfin⟩ := hfin
  have kx_12 : ∀ (H : Heap) (locs : List Loc) (ls : Array Slot), wS G A s H locs [oX10 aM M_thrown M_series M_most M_ratio aMdisk M_writes M_fuse M_down M_recovers M_looks_15 M_unpacked_16 aMits aMmany aMplace aMlength aMtimes aMvalues aMorder M_chunks M_epoch M_side aMheadOf aMheadTime aMheadValue M_logged aMnext aMisNew M_nexts aMcursorTime aMcursorValue M_hasCursor M_cursorMany M_cursorAt aMmade M_bits M_from M_askMany M_askLeast M_askGreatest M_askSum, rI aMits cI 240 M_its, rI aMmany cI 240 M_many, rI aMtimes cI 15360 M_times, rI aMorder cI 96 M_order] → lv_has ls 8 [] → W p l e rm_X10_lookAt s m args below meth c H locs 0 0 QQ (F0 m 124 ls []) := by
    clear hw5 H5 locs5 hl7 ls7 hL_11
    intro H56 locs56 ls56 hw56 hl56
    cases hfin
    rw [hQQ]
    exact ct_vret hx hb hr hlocks hw56.1 hw56.2.1 hw56.2.2 dX10_lookAt_124
  have lp_13 : ∀ (n : Nat) (v5_8 : Int32) (M_looks_9 : Int32) (M_unpacked_10 : Int32), lp_X10_lookAt_20 M_ratio M_chunks M_its M_many M_times M_order p0 p1 p2 r_4 n v5_8 M_looks_9 M_unpacked_10 = some (M_looks_15, M_unpacked_16) → ∀ (H : Heap) (locs : List Loc) (ls : Array Slot), wS G A s H locs [oX10 aM M_thrown M_series M_most M_ratio aMdisk M_writes M_fuse M_down M_recovers M_looks_9 M_unpacked_10 aMits aMmany aMplace aMlength aMtimes aMvalues aMorder M_chunks M_epoch M_side aMheadOf aMheadTime aMheadValue M_logged aMnext aMisNew M_nexts aMcursorTime aMcursorValue M_hasCursor M_cursorMany M_cursorAt aMmade M_bits M_from M_askMany M_askLeast M_askGreatest M_askSum, rI aMits cI 240 M_its, rI aMmany cI 240 M_many, rI aMtimes cI 15360 M_times, rI aMorder cI 96 M_order] → lv_has ls 8 [(0, .ref aM), (1, .int p0), (2, .int p1), (3, .int p2), (4, .int r_4), (5, .int v5_8)] → W p l e rm_X10_lookAt s m args below meth c H locs 0 0 QQ (F0 m 20 ls []) := by
    clear hw5 H5 locs5 hl7 ls7 hfin
    intro n
    induction n with
    | zero =>
      intro v5_8 M_looks_9 M_unpacked_10 hB_14
      exact absurd hB_14 (by rw [lp_X10_lookAt_20]; exact fun h9 => nomatch h9)
    | succ n ih =>
      intro v5_8 M_looks_9 M_unpacked_10 hB_14 H17 locs17 ls17 hw17 hl17
      rw [lp_X10_lookAt_20] at hB_14
      refine lv_iload hx hb dX10_lookAt_20 (lv_at hl17 5 rfl) ?_
      refine lv_aload_n hx hb dX10_lookAt_22 rfl (lv_at hl17 0 rfl) ?_
      refine lv_iload_n hx hb dX10_lookAt_23 rfl (lv_at hl17 1 rfl) ?_
      replace hB_14 := ob1_some hB_14
      obtain ⟨r_19, hE_18, hB_14⟩ := hB_14
      refine ctV (a := aM) (As := [.int p0]) (rest := [.int v5_8]) (st1 := [.int r_19, .int v5_8]) (wc := [oX10 aM M_thrown M_series M_most M_ratio aMdisk M_writes M_fuse M_down M_recovers M_looks_9 M_unpacked_10 aMits aMmany aMplace aMlength aMtimes aMvalues aMorder M_chunks M_epoch M_side aMheadOf aMheadTime aMheadValue M_logged aMnext aMisNew M_nexts aMcursorTime aMcursorValue M_hasCursor M_cursorMany M_cursorAt aMmade M_bits M_from M_askMany M_askLeast M_askGreatest M_askSum, rI aMits cI 240 M_its, rI aMorder cI 96 M_order]) (w1 := [oX10 aM M_thrown M_series M_most M_ratio aMdisk M_writes M_fuse M_down M_recovers M_looks_9 M_unpacked_10 aMits aMmany aMplace aMlength aMtimes aMvalues aMorder M_chunks M_epoch M_side aMheadOf aMheadTime aMheadValue M_logged aMnext aMisNew M_nexts aMcursorTime aMcursorValue M_hasCursor M_cursorMany M_cursorAt aMmade M_bits M_from M_askMany M_askLeast M_askGreatest M_askSum, rI aMits cI 240 M_its, rI aMorder cI 96 M_order]) (wr := [rI aMmany cI 240 M_many, rI aMtimes cI 15360 M_times]) (wb := [oX10 aM M_thrown M_series M_most M_ratio aMdisk M_writes M_fuse M_down M_recovers M_looks_9 M_unpacked_10 aMits aMmany aMplace aMlength aMtimes aMvalues aMorder M_chunks M_epoch M_side aMheadOf aMheadTime aMheadValue M_logged aMnext aMisNew M_nexts aMcursorTime aMcursorValue M_hasCursor M_cursorMany M_cursorAt aMmade M_bits M_from M_askMany M_askLeast M_askGreatest M_askSum, rI aMits cI 240 M_its, rI aMmany cI 240 M_many, rI aMtimes cI 15360 M_times, rI aMorder cI 96 M_order]) (v := (some (.int r_19))) hx hb hml hown htc hN (c_X10_groupsOf l G cI cZ cJ aM aMdisk aMits aMmany aMplace aMlength aMtimes aMvalues aMorder aMheadOf aMheadTime aMheadValue aMnext aMisNew aMcursorTime aMcursorValue aMmade M_thrown M_series M_most M_ratio M_writes M_fuse M_down M_recovers M_looks_9 M_unpacked_10 M_chunks M_epoch M_side M_logged M_nexts M_hasCursor M_cursorMany M_cursorAt M_bits M_from M_askMany M_askLeast M_askGreatest M_askSum M_its M_order p0 hE_18) mw_1233 mw_1235 mp_66 mw_12 mw_1236 hd_X10_groupsOf ⟨rfl, rfl⟩ ⟨Nat.le_of_ble_eq_true rfl, Nat.le_of_ble_eq_true rfl⟩ hK hw17 hA [0, 1, 4] [2, 3] [2, 3, 0, 1, 4] rfl rfl rfl rfl rfl (by decide) rfl rfl rfl 0 rfl rfl rfl rfl hl17.1 rfl rfl (Nat.le_of_ble_eq_true rfl) dX10_lookAt_24 ⟨Nat.zero_le _, Nat.zero_le _⟩ (fun H20 locs20 hw20 => ?_)
      clear hw17 H17 locs17
      refine lv_icmp_ge (tgt := 124) hx hb dX10_lookAt_27 (by decide) (fun c_21 => ?_) (fun c_21 => ?_)
      · replace hB_14 := it_t c_21 hB_14
        cases hB_14
        exact kx_12 _ _ _ hw20 (lv_sub hl17 [] rfl)
      · replace hB_14 := it_f c_21 hB_14
        refine lv_aload_n hx hb dX10_lookAt_30 rfl (lv_at hl17 0 rfl) ?_
        refine lv_dup hx hb dX10_lookAt_31 rfl ?_
        refine va_get (D := G) (ci := 10) (v := .int M_looks_9) (C := RX10) (T := TX10) (N := 40) hx hb htc iX10 hown hK hw20.1 0 rfl rfl 9 (by decide) (htc _ mw_956) (fun _ h9 => h9) rfl dX10_lookAt_32 ?_
        refine lv_iconst (v := (1 : Int32)) hx hb dX10_lookAt_35 (by decide) ?_
        refine lv_iadd hx hb dX10_lookAt_36 ?_
        refine va_put (D := G) (ci := 10) (v := .int (M_looks_9 + (1 : Int32))) (ty := .int) (C := RX10) (T := TX10) (N := 40) hx hb htc iX10 tyX10 tyX10_ok nmX10 hown hK hw20.1 hw20.2.1 hw20.2.2 0 rfl rfl 9 (by decide) (htc _ mw_956) (fun _ h9 => h9) rfl (tyX10_ok 9 (by decide)) rfl rfl (Nat.le_of_ble_eq_true rfl) dX10_lookAt_37 (fun H22 locs22 hP hD hS => ?_)
        have hw22 : wS G A s H22 locs22 [oX10 aM M_thrown M_series M_most M_ratio aMdisk M_writes M_fuse M_down M_recovers (M_looks_9 + (1 : Int32)) M_unpacked_10 aMits aMmany aMplace aMlength aMtimes aMvalues aMorder M_chunks M_epoch M_side aMheadOf aMheadTime aMheadValue M_logged aMnext aMisNew M_nexts aMcursorTime aMcursorValue M_hasCursor M_cursorMany M_cursorAt aMmade M_bits M_from M_askMany M_askLeast M_askGreatest M_askSum, rI aMits cI 240 M_its, rI aMmany cI 240 M_many, rI aMtimes cI 15360 M_times, rI aMorder cI 96 M_order] := ⟨hP, hD, hS⟩
        clear hP hD hS hw20 H20 locs20
        refine lv_aload_n hx hb dX10_lookAt_40 rfl (lv_at hl17 0 rfl) ?_
        refine va_get (D := G) (ci := 10) (v := .int M_ratio) (C := RX10) (T := TX10) (N := 40) hx hb htc iX10 hown hK hw22.1 0 rfl rfl 3 (by decide) (htc _ mw_950) (fun _ h9 => h9) rfl dX10_lookAt_41 ?_
        refine lv_iload hx hb dX10_lookAt_44 (lv_at hl17 5 rfl) ?_
        refine lv_imul hx hb dX10_lookAt_46 ?_
        refine lv_istore (lv' := [(6, .int (M_ratio * v5_8)), (0, .ref aM), (1, .int p0), (2, .int p1), (3, .int p2), (4, .int r_4), (5, .int v5_8)]) hx hb dX10_lookAt_47 hl17 (by decide) rfl (fun ls23 hl23 => ?_)
        clear hl17 ls17
        refine lv_iload hx hb dX10_lookAt_49 (lv_at hl23 0 rfl) ?_
        refine lv_aload_n hx hb dX10_lookAt_51 rfl (lv_at hl23 1 rfl) ?_
        refine va_get (D := G) (ci := 10) (v := .int M_ratio) (C := RX10) (T := TX10) (N := 40) hx hb htc iX10 hown hK hw22.1 0 rfl rfl 3 (by decide) (htc _ mw_950) (fun _ h9 => h9) rfl dX10_lookAt_52 ?_
        refine lv_iadd hx hb dX10_lookAt_55 ?_
        refine lv_iload hx hb dX10_lookAt_56 (lv_at hl23 5 rfl) ?_
        replace hB_14 := ob1_some hB_14
        obtain ⟨s_24, hJ_25, hB_14⟩ := hB_14
        have kj_26 : ∀ (H : Heap) (locs : List Loc) (ls : Array Slot), wS G A s H locs [oX10 aM M_thrown M_series M_most M_ratio aMdisk M_writes M_fuse M_down M_recovers (M_looks_9 + (1 : Int32)) M_unpacked_10 aMits aMmany aMplace aMlength aMtimes aMvalues aMorder M_chunks M_epoch M_side aMheadOf aMheadTime aMheadValue M_logged aMnext aMisNew M_nexts aMcursorTime aMcursorValue M_hasCursor M_cursorMany M_cursorAt aMmade M_bits M_from M_askMany M_askLeast M_askGreatest M_askSum, rI aMits cI 240 M_its, rI aMmany cI 240 M_many, rI aMtimes cI 15360 M_times, rI aMorder cI 96 M_order] → lv_has ls 8 [(0, .ref aM), (1, .int p0), (2, .int p1), (3, .int p2), (4, .int r_4), (5, .int v5_8), (6, .int (M_ratio * v5_8))] → W p l e rm_X10_lookAt s m args below meth c H locs 0 0 QQ (F0 m 73 ls [.int s_24]) := by
          clear hw22 H22 locs22 hl23 ls23 hJ_25
          intro H28 locs28 ls28 hw28 hl28
          refine lv_istore (lv' := [(7, .int s_24), (0, .ref aM), (1, .int p0), (2, .int p1), (3, .int p2), (4, .int r_4), (5, .int v5_8), (6, .int (M_ratio * v5_8))]) hx hb dX10_lookAt_73 hl28 (by decide) rfl (fun ls29 hl29 => ?_)
          clear hl28 ls28
          refine lv_aload_n hx hb dX10_lookAt_75 rfl (lv_at hl29 1 rfl) ?_
          refine lv_aload_n hx hb dX10_lookAt_76 rfl (lv_at hl29 1 rfl) ?_
          refine lv_iload_n hx hb dX10_lookAt_77 rfl (lv_at hl29 2 rfl) ?_
          refine lv_iload hx hb dX10_lookAt_78 (lv_at hl29 7 rfl) ?_
          replace hB_14 := ob1_some hB_14
          obtain ⟨r_31, hE_30, hB_14⟩ := hB_14
          refine ctV (a := aM) (As := [.int p0, .int (M_ratio * v5_8)]) (rest := [.ref aM]) (st1 := [.int r_31, .ref aM]) (wc := [oX10 aM M_thrown M_series M_most M_ratio aMdisk M_writes M_fuse M_down M_recovers (M_looks_9 + (1 : Int32)) M_unpacked_10 aMits aMmany aMplace aMlength aMtimes aMvalues aMorder M_chunks M_epoch M_side aMheadOf aMheadTime aMheadValue M_logged aMnext aMisNew M_nexts aMcursorTime aMcursorValue M_hasCursor M_cursorMany M_cursorAt aMmade M_bits M_from M_askMany M_askLeast M_askGreatest M_askSum, rI aMits cI 240 M_its, rI aMorder cI 96 M_order]) (w1 := [oX10 aM M_thrown M_series M_most M_ratio aMdisk M_writes M_fuse M_down M_recovers (M_looks_9 + (1 : Int32)) M_unpacked_10 aMits aMmany aMplace aMlength aMtimes aMvalues aMorder M_chunks M_epoch M_side aMheadOf aMheadTime aMheadValue M_logged aMnext aMisNew M_nexts aMcursorTime aMcursorValue M_hasCursor M_cursorMany M_cursorAt aMmade M_bits M_from M_askMany M_askLeast M_askGreatest M_askSum, rI aMits cI 240 M_its, rI aMorder cI 96 M_order]) (wr := [rI aMmany cI 240 M_many, rI aMtimes cI 15360 M_times]) (wb := [oX10 aM M_thrown M_series M_most M_ratio aMdisk M_writes M_fuse M_down M_recovers (M_looks_9 + (1 : Int32)) M_unpacked_10 aMits aMmany aMplace aMlength aMtimes aMvalues aMorder M_chunks M_epoch M_side aMheadOf aMheadTime aMheadValue M_logged aMnext aMisNew M_nexts aMcursorTime aMcursorValue M_hasCursor M_cursorMany M_cursorAt aMmade M_bits M_from M_askMany M_askLeast M_askGreatest M_askSum, rI aMits cI 240 M_its, rI aMmany cI 240 M_many, rI aMtimes cI 15360 M_times, rI aMorder cI 96 M_order]) (v := (some (.int r_31))) hx hb hml hown htc hN (c_X10_slot l G cI cZ cJ aM aMdisk aMits aMmany aMplace aMlength aMtimes aMvalues aMorder aMheadOf aMheadTime aMheadValue aMnext aMisNew aMcursorTime aMcursorValue aMmade M_thrown M_series M_most M_ratio M_writes M_fuse M_down M_recovers (M_looks_9 + (1 : Int32)) M_unpacked_10 M_chunks M_epoch M_side M_logged M_nexts M_hasCursor M_cursorMany M_cursorAt M_bits M_from M_askMany M_askLeast M_askGreatest M_askSum M_its M_order p0 (M_ratio * v5_8) hE_30) mw_1237 mw_1239 mp_67 mw_12 mw_1240 hd_X10_slot ⟨rfl, rfl⟩ ⟨Nat.le_of_ble_eq_true rfl, Nat.le_of_ble_eq_true rfl⟩ hK hw28 hA [0, 1, 4] [2, 3] [2, 3, 0, 1, 4] rfl rfl rfl rfl rfl (by decide) rfl rfl rfl 0 rfl rfl rfl rfl hl29.1 rfl rfl (Nat.le_of_ble_eq_true rfl) dX10_lookAt_80 ⟨Nat.zero_le _, Nat.zero_le _⟩ (fun H32 locs32 hw32 => ?_)
          clear hw28 H28 locs28
          replace hB_14 := ob1_some hB_14
          obtain ⟨r_34, hE_33, hB_14⟩ := hB_14
          refine ctV (a := aM) (As := [.int r_31]) (rest := []) (st1 := [.int r_34]) (wc := [oX10 aM M_thrown M_series M_most M_ratio aMdisk M_writes M_fuse M_down M_recovers (M_looks_9 + (1 : Int32)) M_unpacked_10 aMits aMmany aMplace aMlength aMtimes aMvalues aMorder M_chunks M_epoch M_side aMheadOf aMheadTime aMheadValue M_logged aMnext aMisNew M_nexts aMcursorTime aMcursorValue M_hasCursor M_cursorMany M_cursorAt aMmade M_bits M_from M_askMany M_askLeast M_askGreatest M_askSum, rI aMtimes cI 15360 M_times]) (w1 := [oX10 aM M_thrown M_series M_most M_ratio aMdisk M_writes M_fuse M_down M_recovers (M_looks_9 + (1 : Int32)) M_unpacked_10 aMits aMmany aMplace aMlength aMtimes aMvalues aMorder M_chunks M_epoch M_side aMheadOf aMheadTime aMheadValue M_logged aMnext aMisNew M_nexts aMcursorTime aMcursorValue M_hasCursor M_cursorMany M_cursorAt aMmade M_bits M_from M_askMany M_askLeast M_askGreatest M_askSum, rI aMtimes cI 15360 M_times]) (wr := [rI aMits cI 240 M_its, rI aMmany cI 240 M_many, rI aMorder cI 96 M_order]) (wb := [oX10 aM M_thrown M_series M_most M_ratio aMdisk M_writes M_fuse M_down M_recovers (M_looks_9 + (1 : Int32)) M_unpacked_10 aMits aMmany aMplace aMlength aMtimes aMvalues aMorder M_chunks M_epoch M_side aMheadOf aMheadTime aMheadValue M_logged aMnext aMisNew M_nexts aMcursorTime aMcursorValue M_hasCursor M_cursorMany M_cursorAt aMmade M_bits M_from M_askMany M_askLeast M_askGreatest M_askSum, rI aMits cI 240 M_its, rI aMmany cI 240 M_many, rI aMtimes cI 15360 M_times, rI aMorder cI 96 M_order]) (v := (some (.int r_34))) hx hb hml hown htc hN (c_X10_firstTime l G cI cZ cJ aM aMdisk aMits aMmany aMplace aMlength aMtimes aMvalues aMorder aMheadOf aMheadTime aMheadValue aMnext aMisNew aMcursorTime aMcursorValue aMmade M_thrown M_series M_most M_ratio M_writes M_fuse M_down M_recovers (M_looks_9 + (1 : Int32)) M_unpacked_10 M_chunks M_epoch M_side M_logged M_nexts M_hasCursor M_cursorMany M_cursorAt M_bits M_from M_askMany M_askLeast M_askGreatest M_askSum M_times r_31 hE_33) mw_1181 mw_1183 mp_56 mw_12 mw_1184 hd_X10_firstTime ⟨rfl, rfl⟩ ⟨Nat.le_of_ble_eq_true rfl, Nat.le_of_ble_eq_true rfl⟩ hK hw32 hA [0, 3] [1, 2, 4] [3, 0, 1, 4, 2] rfl rfl rfl rfl rfl (by decide) rfl rfl rfl 0 rfl rfl rfl rfl hl29.1 rfl rfl (Nat.le_of_ble_eq_true rfl) dX10_lookAt_83 ⟨Nat.zero_le _, Nat.zero_le _⟩ (fun H35 locs35 hw35 => ?_)
          clear hw32 H32 locs32
          refine lv_aload_n hx hb dX10_lookAt_86 rfl (lv_at hl29 1 rfl) ?_
          refine lv_aload_n hx hb dX10_lookAt_87 rfl (lv_at hl29 1 rfl) ?_
          refine lv_iload_n hx hb dX10_lookAt_88 rfl (lv_at hl29 2 rfl) ?_
          refine lv_iload hx hb dX10_lookAt_89 (lv_at hl29 0 rfl) ?_
          refine lv_iconst (v := (1 : Int32)) hx hb dX10_lookAt_91 (by decide) ?_
          refine lv_isub hx hb dX10_lookAt_92 ?_
          replace hB_14 := ob1_some hB_14
          obtain ⟨r_37, hE_36, hB_14⟩ := hB_14
          refine ctV (a := aM) (As := [.int p0, .int (s_24 - (1 : Int32))]) (rest := [.ref aM, .int r_34]) (st1 := [.int r_37, .ref aM, .int r_34]) (wc := [oX10 aM M_thrown M_series M_most M_ratio aMdisk M_writes M_fuse M_down M_recovers (M_looks_9 + (1 : Int32)) M_unpacked_10 aMits aMmany aMplace aMlength aMtimes aMvalues aMorder M_chunks M_epoch M_side aMheadOf aMheadTime aMheadValue M_logged aMnext aMisNew M_nexts aMcursorTime aMcursorValue M_hasCursor M_cursorMany M_cursorAt aMmade M_bits M_from M_askMany M_askLeast M_askGreatest M_askSum, rI aMits cI 240 M_its, rI aMorder cI 96 M_order]) (w1 := [oX10 aM M_thrown M_series M_most M_ratio aMdisk M_writes M_fuse M_down M_recovers (M_looks_9 + (1 : Int32)) M_unpacked_10 aMits aMmany aMplace aMlength aMtimes aMvalues aMorder M_chunks M_epoch M_side aMheadOf aMheadTime aMheadValue M_logged aMnext aMisNew M_nexts aMcursorTime aMcursorValue M_hasCursor M_cursorMany M_cursorAt aMmade M_bits M_from M_askMany M_askLeast M_askGreatest M_askSum, rI aMits cI 240 M_its, rI aMorder cI 96 M_order]) (wr := [rI aMmany cI 240 M_many, rI aMtimes cI 15360 M_times]) (wb := [oX10 aM M_thrown M_series M_most M_ratio aMdisk M_writes M_fuse M_down M_recovers (M_looks_9 + (1 : Int32)) M_unpacked_10 aMits aMmany aMplace aMlength aMtimes aMvalues aMorder M_chunks M_epoch M_side aMheadOf aMheadTime aMheadValue M_logged aMnext aMisNew M_nexts aMcursorTime aMcursorValue M_hasCursor M_cursorMany M_cursorAt aMmade M_bits M_from M_askMany M_askLeast M_askGreatest M_askSum, rI aMits cI 240 M_its, rI aMmany cI 240 M_many, rI aMtimes cI 15360 M_times, rI aMorder cI 96 M_order]) (v := (some (.int r_37))) hx hb hml hown htc hN (c_X10_slot l G cI cZ cJ aM aMdisk aMits aMmany aMplace aMlength aMtimes aMvalues aMorder aMheadOf aMheadTime aMheadValue aMnext aMisNew aMcursorTime aMcursorValue aMmade M_thrown M_series M_most M_ratio M_writes M_fuse M_down M_recovers (M_looks_9 + (1 : Int32)) M_unpacked_10 M_chunks M_epoch M_side M_logged M_nexts M_hasCursor M_cursorMany M_cursorAt M_bits M_from M_askMany M_askLeast M_askGreatest M_askSum M_its M_order p0 (s_24 - (1 : Int32)) hE_36) mw_1237 mw_1239 mp_67 mw_12 mw_1240 hd_X10_slot ⟨rfl, rfl⟩ ⟨Nat.le_of_ble_eq_true rfl, Nat.le_of_ble_eq_true rfl⟩ hK hw35 hA [0, 1, 4] [2, 3] [2, 3, 0, 1, 4] rfl rfl rfl rfl rfl (by decide) rfl rfl rfl 0 rfl rfl rfl rfl hl29.1 rfl rfl (Nat.le_of_ble_eq_true rfl) dX10_lookAt_93 ⟨Nat.zero_le _, Nat.zero_le _⟩ (fun H38 locs38 hw38 => ?_)
          clear hw35 H35 locs35
          replace hB_14 := ob1_some hB_14
          obtain ⟨r_40, hE_39, hB_14⟩ := hB_14
          refine ctV (a := aM) (As := [.int r_37]) (rest := [.int r_34]) (st1 := [.int r_40, .int r_34]) (wc := [oX10 aM M_thrown M_series M_most M_ratio aMdisk M_writes M_fuse M_down M_recovers (M_looks_9 + (1 : Int32)) M_unpacked_10 aMits aMmany aMplace aMlength aMtimes aMvalues aMorder M_chunks M_epoch M_side aMheadOf aMheadTime aMheadValue M_logged aMnext aMisNew M_nexts aMcursorTime aMcursorValue M_hasCursor M_cursorMany M_cursorAt aMmade M_bits M_from M_askMany M_askLeast M_askGreatest M_askSum, rI aMmany cI 240 M_many, rI aMtimes cI 15360 M_times]) (w1 := [oX10 aM M_thrown M_series M_most M_ratio aMdisk M_writes M_fuse M_down M_recovers (M_looks_9 + (1 : Int32)) M_unpacked_10 aMits aMmany aMplace aMlength aMtimes aMvalues aMorder M_chunks M_epoch M_side aMheadOf aMheadTime aMheadValue M_logged aMnext aMisNew M_nexts aMcursorTime aMcursorValue M_hasCursor M_cursorMany M_cursorAt aMmade M_bits M_from M_askMany M_askLeast M_askGreatest M_askSum, rI aMmany cI 240 M_many, rI aMtimes cI 15360 M_times]) (wr := [rI aMits cI 240 M_its, rI aMorder cI 96 M_order]) (wb := [oX10 aM M_thrown M_series M_most M_ratio aMdisk M_writes M_fuse M_down M_recovers (M_looks_9 + (1 : Int32)) M_unpacked_10 aMits aMmany aMplace aMlength aMtimes aMvalues aMorder M_chunks M_epoch M_side aMheadOf aMheadTime aMheadValue M_logged aMnext aMisNew M_nexts aMcursorTime aMcursorValue M_hasCursor M_cursorMany M_cursorAt aMmade M_bits M_from M_askMany M_askLeast M_askGreatest M_askSum, rI aMits cI 240 M_its, rI aMmany cI 240 M_many, rI aMtimes cI 15360 M_times, rI aMorder cI 96 M_order]) (v := (some (.int r_40))) hx hb hml hown htc hN (c_X10_lastTime l G cI cZ cJ aM aMdisk aMits aMmany aMplace aMlength aMtimes aMvalues aMorder aMheadOf aMheadTime aMheadValue aMnext aMisNew aMcursorTime aMcursorValue aMmade M_thrown M_series M_most M_ratio M_writes M_fuse M_down M_recovers (M_looks_9 + (1 : Int32)) M_unpacked_10 M_chunks M_epoch M_side M_logged M_nexts M_hasCursor M_cursorMany M_cursorAt M_bits M_from M_askMany M_askLeast M_askGreatest M_askSum M_many M_times r_37 hE_39) mw_1185 mw_1187 mp_57 mw_12 mw_1188 hd_X10_lastTime ⟨rfl, rfl⟩ ⟨Nat.le_of_ble_eq_true rfl, Nat.le_of_ble_eq_true rfl⟩ hK hw38 hA [0, 2, 3] [1, 4] [2, 0, 3, 4, 1] rfl rfl rfl rfl rfl (by decide) rfl rfl rfl 0 rfl rfl rfl rfl hl29.1 rfl rfl (Nat.le_of_ble_eq_true rfl) dX10_lookAt_96 ⟨Nat.zero_le _, Nat.zero_le _⟩ (fun H41 locs41 hw41 => ?_)
          clear hw38 H38 locs38
          refine lv_iload_n hx hb dX10_lookAt_99 rfl (lv_at hl29 3 rfl) ?_
          refine lv_iload_n hx hb dX10_lookAt_100 rfl (lv_at hl29 4 rfl) ?_
          replace hB_14 := ob1_some hB_14
          obtain ⟨r_43, hE_42, hB_14⟩ := hB_14
          refine ctS (As := [.int r_34, .int r_40, .int p1, .int p2]) (rest := []) (st1 := [.int r_43]) (wc := []) (w1 := []) (wr := [oX10 aM M_thrown M_series M_most M_ratio aMdisk M_writes M_fuse M_down M_recovers (M_looks_9 + (1 : Int32)) M_unpacked_10 aMits aMmany aMplace aMlength aMtimes aMvalues aMorder M_chunks M_epoch M_side aMheadOf aMheadTime aMheadValue M_logged aMnext aMisNew M_nexts aMcursorTime aMcursorValue M_hasCursor M_cursorMany M_cursorAt aMmade M_bits M_from M_askMany M_askLeast M_askGreatest M_askSum, rI aMits cI 240 M_its, rI aMmany cI 240 M_many, rI aMtimes cI 15360 M_times, rI aMorder cI 96 M_order]) (wb := [oX10 aM M_thrown M_series M_most M_ratio aMdisk M_writes M_fuse M_down M_recovers (M_looks_9 + (1 : Int32)) M_unpacked_10 aMits aMmany aMplace aMlength aMtimes aMvalues aMorder M_chunks M_epoch M_side aMheadOf aMheadTime aMheadValue M_logged aMnext aMisNew M_nexts aMcursorTime aMcursorValue M_hasCursor M_cursorMany M_cursorAt aMmade M_bits M_from M_askMany M_askLeast M_askGreatest M_askSum, rI aMits cI 240 M_its, rI aMmany cI 240 M_many, rI aMtimes cI 15360 M_times, rI aMorder cI 96 M_order]) (v := (some (.int r_43))) hx hb hml hown htc hN (c_X10_isPart l G cI cZ cJ   r_34 r_40 p1 p2 hE_42) mw_1241 mw_1242 mw_12 mw_1243 hs_X10_isPart ⟨rfl, rfl⟩ ⟨Nat.le_of_ble_eq_true rfl, Nat.le_of_ble_eq_true rfl⟩ hK hw41 hA [] [0, 1, 2, 3, 4] [0, 1, 2, 3, 4] rfl rfl rfl rfl rfl (by decide) rfl rfl rfl rfl hl29.1 rfl rfl (Nat.le_of_ble_eq_true rfl) dX10_lookAt_101 ⟨Nat.zero_le _, Nat.zero_le _⟩ (fun H44 locs44 hw44 => ?_)
          clear hw41 H41 locs41
          replace hB_14 := ob2_some hB_14
          obtain ⟨M_looks_45, M_unpacked_46, hJ_47, hB_14⟩ := hB_14
          have kj_48 : ∀ (H : Heap) (locs : List Loc) (ls : Array Slot), wS G A s H locs [oX10 aM M_thrown M_series M_most M_ratio aMdisk M_writes M_fuse M_down M_recovers M_looks_45 M_unpacked_46 aMits aMmany aMplace aMlength aMtimes aMvalues aMorder M_chunks M_epoch M_side aMheadOf aMheadTime aMheadValue M_logged aMnext aMisNew M_nexts aMcursorTime aMcursorValue M_hasCursor M_cursorMany M_cursorAt aMmade M_bits M_from M_askMany M_askLeast M_askGreatest M_askSum, rI aMits cI 240 M_its, rI aMmany cI 240 M_many, rI aMtimes cI 15360 M_times, rI aMorder cI 96 M_order] → lv_has ls 8 [(0, .ref aM), (1, .int p0), (2, .int p1), (3, .int p2), (4, .int r_4), (5, .int v5_8)] → W p l e rm_X10_lookAt s m args below meth c H locs 0 0 QQ (F0 m 118 ls []) := by
            clear hw44 H44 locs44 hl29 ls29 hJ_47
            intro H54 locs54 ls54 hw54 hl54
            refine lv_iinc (v := (v5_8 + (1 : Int32))) (lv' := [(5, .int (v5_8 + (1 : Int32))), (0, .ref aM), (1, .int p0), (2, .int p1), (3, .int p2), (4, .int r_4)]) hx hb dX10_lookAt_118 hl54 (k := 5) rfl rfl (by decide) rfl (fun ls55 hl55 => ?_)
            clear hl54 ls54
            refine lv_goto (tgt := 20) hx hb dX10_lookAt_121 (by decide) ?_
            exact ih (v5_8 + (1 : Int32)) M_looks_45 M_unpacked_46 hB_14 _ _ _ hw54 (lv_sub hl55 [1, 2, 3, 4, 5, 0] rfl)
          clear hB_14
          refine lv_if_eq (tgt := 118) hx hb dX10_lookAt_104 (by decide) (fun c_49 => ?_) (fun c_49 => ?_)
          · replace hJ_47 := it_t c_49 hJ_47
            cases hJ_47
            exact kj_48 _ _ _ hw44 (lv_sub hl29 [1, 2, 3, 4, 5, 6] rfl)
          · replace hJ_47 := it_f c_49 hJ_47
            refine lv_aload_n hx hb dX10_lookAt_107 rfl (lv_at hl29 1 rfl) ?_
            refine lv_iload_n hx hb dX10_lookAt_108 rfl (lv_at hl29 2 rfl) ?_
            refine lv_iload hx hb dX10_lookAt_109 (lv_at hl29 7 rfl) ?_
            refine lv_iload hx hb dX10_lookAt_111 (lv_at hl29 0 rfl) ?_
            refine lv_iload_n hx hb dX10_lookAt_113 rfl (lv_at hl29 3 rfl) ?_
            refine lv_iload_n hx hb dX10_lookAt_114 rfl (lv_at hl29 4 rfl) ?_
            replace hJ_47 := ob2_some hJ_47
            obtain ⟨M_looks_51, M_unpacked_52, hE_50, hJ_47⟩ := hJ_47
            refine ctV (a := aM) (As := [.int p0, .int (M_ratio * v5_8), .int s_24, .int p1, .int p2]) (rest := []) (st1 := []) (wc := [oX10 aM M_thrown M_series M_most M_ratio aMdisk M_writes M_fuse M_down M_recovers (M_looks_9 + (1 : Int32)) M_unpacked_10 aMits aMmany aMplace aMlength aMtimes aMvalues aMorder M_chunks M_epoch M_side aMheadOf aMheadTime aMheadValue M_logged aMnext aMisNew M_nexts aMcursorTime aMcursorValue M_hasCursor M_cursorMany M_cursorAt aMmade M_bits M_from M_askMany M_askLeast M_askGreatest M_askSum, rI aMits cI 240 M_its, rI aMmany cI 240 M_many, rI aMtimes cI 15360 M_times, rI aMorder cI 96 M_order]) (w1 := [oX10 aM M_thrown M_series M_most M_ratio aMdisk M_writes M_fuse M_down M_recovers M_looks_51 M_unpacked_52 aMits aMmany aMplace aMlength aMtimes aMvalues aMorder M_chunks M_epoch M_side aMheadOf aMheadTime aMheadValue M_logged aMnext aMisNew M_nexts aMcursorTime aMcursorValue M_hasCursor M_cursorMany M_cursorAt aMmade M_bits M_from M_askMany M_askLeast M_askGreatest M_askSum, rI aMits cI 240 M_its, rI aMmany cI 240 M_many, rI aMtimes cI 15360 M_times, rI aMorder cI 96 M_order]) (wr := []) (wb := [oX10 aM M_thrown M_series M_most M_ratio aMdisk M_writes M_fuse M_down M_recovers M_looks_51 M_unpacked_52 aMits aMmany aMplace aMlength aMtimes aMvalues aMorder M_chunks M_epoch M_side aMheadOf aMheadTime aMheadValue M_logged aMnext aMisNew M_nexts aMcursorTime aMcursorValue M_hasCursor M_cursorMany M_cursorAt aMmade M_bits M_from M_askMany M_askLeast M_askGreatest M_askSum, rI aMits cI 240 M_its, rI aMmany cI 240 M_many, rI aMtimes cI 15360 M_times, rI aMorder cI 96 M_order]) (v := none) hx hb hml hown htc hN (c_X10_lookInto l G cI cZ cJ aM aMdisk aMits aMmany aMplace aMlength aMtimes aMvalues aMorder aMheadOf aMheadTime aMheadValue aMnext aMisNew aMcursorTime aMcursorValue aMmade M_thrown M_series M_most M_ratio M_writes M_fuse M_down M_recovers (M_looks_9 + (1 : Int32)) M_unpacked_10 M_chunks M_epoch M_side M_logged M_nexts M_hasCursor M_cursorMany M_cursorAt M_bits M_from M_askMany M_askLeast M_askGreatest M_askSum M_its M_many M_times M_order p0 (M_ratio * v5_8) s_24 p1 p2 hE_50) mw_1244 mw_1246 mp_68 mw_12 mw_1247 hd_X10_lookInto ⟨rfl, rfl⟩ ⟨Nat.le_of_ble_eq_true rfl, Nat.le_of_ble_eq_true rfl⟩ hK hw44 hA [0, 1, 2, 3, 4] [] [0, 1, 2, 3, 4] rfl rfl rfl rfl rfl (by decide) rfl rfl rfl 0 rfl rfl rfl rfl hl29.1 rfl rfl (Nat.le_of_ble_eq_true rfl) dX10_lookAt_115 ⟨Nat.zero_le _, Nat.zero_le _⟩ (fun H53 locs53 hw53 => ?_)
            clear hw44 H44 locs44
            cases hJ_47
            exact kj_48 _ _ _ hw53 (lv_sub hl29 [1, 2, 3, 4, 5, 6] rfl)
        clear hB_14
        refine lv_icmp_ge (tgt := 71) hx hb dX10_lookAt_58 (by decide) (fun c_27 => ?_) (fun c_27 => ?_)
        · replace hJ_25 := it_t c_27 hJ_25
          refine lv_iload hx hb dX10_lookAt_71 (lv_at hl23 5 rfl) ?_
          cases hJ_25
          exact kj_26 _ _ _ hw22 (lv_sub hl23 [1, 2, 3, 4, 5, 6, 0] rfl)
        · replace hJ_25 := it_f c_27 hJ_25
          refine lv_iload hx hb dX10_lookAt_61 (lv_at hl23 0 rfl) ?_
          refine lv_aload_n hx hb dX10_lookAt_63 rfl (lv_at hl23 1 rfl) ?_
          refine va_get (D := G) (ci := 10) (v := .int M_ratio) (C := RX10) (T := TX10) (N := 40) hx hb htc iX10 hown hK hw22.1 0 rfl rfl 3 (by decide) (htc _ mw_950) (fun _ h9 => h9) rfl dX10_lookAt_64 ?_
          refine lv_iadd hx hb dX10_lookAt_67 ?_
          refine lv_goto (tgt := 73) hx hb dX10_lookAt_68 (by decide) ?_
          cases hJ_25
          exact kj_26 _ _ _ hw22 (lv_sub hl23 [1, 2, 3, 4, 5, 6, 0] rfl)
  exact lp_13 NN (0 : Int32) (0 : Int32) (0 : Int32) hL_11 _ _ _ hw5 (lv_sub hl7 [2, 3, 4, 5, 1, 0] rfl)
abbrev rm_X10_ask : Room := { frames := 3, cells := 0, slots := 0, locals := 78 }
theorem hd_X10_ask : yX10_ask.cls = RX10 ∧ yX10_ask.cls ≠ "java/lang/invoke/MethodHandle" ∧ yX10_ask.cls ≠ "java/lang/invoke/VarHandle" ∧ (parseMethodDescriptor yX10_ask.desc).map (fun d => d.parameters.length) = some 4 := by decide +kernel
set_option maxHeartbeats 4000000 in
set_option maxRecDepth 100000 in
theorem c_X10_ask (l : Launch) (G : va_G) (cI cZ cJ : ClassId) (aM aMdisk aMits aMmany aMplace aMlength aMtimes aMvalues aMorder aMheadOf aMheadTime aMheadValue aMnext aMisNew aMcursorTime aMcursorValue aMmade : Nat) (M_thrown : Int32) (M_series : Int32) (M_most : Int32) (M_ratio : Int32) (M_writes : Int32) (M_fuse : Int32) (M_down : Int32) (M_recovers : Int32) (M_looks : Int32) (M_unpacked : Int32) (M_chunks : Int32) (M_epoch : Int32) (M_side : Int32) (M_logged : Int32) (M_nexts : Int32) (M_hasCursor : Int32) (M_cursorMany : Int32) (M_cursorAt : Int32) (M_bits : Int32) (M_from : Int32) (M_askMany : Int32) (M_askLeast : Int32) (M_askGreatest : Int32) (M_askSum : Int64) (M_its : Nat → Int32) (M_many : Nat → Int32) (M_times : Nat → Int32) (M_values : Nat → Int32) (M_order : Nat → Int32) (M_headOf : Nat → Int32) (M_headTime : Nat → Int32) (M_headValue : Nat → Int32) (M_cursorTime : Nat → Int32) (M_cursorValue : Nat → Int32) (p0 : Int32) (p1 : Int32) (p2 : Int32) (p3 : Int32) {o_M_looks : Int32} {o_M_unpacked : Int32} {o_M_askMany : Int32} {o_M_askLeast : Int32} {o_M_askGreatest : Int32} {o_M_askSum : Int64} {o_M_cursorTime : Nat → Int32} {o_M_cursorValue : Nat → Int32} (hfin : m_X10_ask M_ratio M_looks M_unpacked M_chunks M_logged M_askMany M_askLeast M_askGreatest M_askSum M_its M_many M_times M_values M_order M_headOf M_headTime M_headValue M_cursorTime M_cursorValue p0 p1 p2 p3 = some (o_M_looks, o_M_unpacked, o_M_askMany, o_M_askLeast, o_M_askGreatest, o_M_askSum, o_M_cursorTime, o_M_cursorValue)) : CT l yX10_ask cX10_ask 8 none rm_X10_ask G (tyC cI cZ cJ) [.ref aM, .int p0, .int p1, .int p2, .int p3] [oX10 aM M_thrown M_series M_most M_ratio aMdisk M_writes M_fuse M_down M_recovers M_looks M_unpacked aMits aMmany aMplace aMlength aMtimes aMvalues aMorder M_chunks M_epoch M_side aMheadOf aMheadTime aMheadValue M_logged aMnext aMisNew M_nexts aMcursorTime aMcursorValue M_hasCursor M_cursorMany M_cursorAt aMmade M_bits M_from M_askMany M_askLeast M_askGreatest M_askSum, rI aMits cI 240 M_its, rI aMmany cI 240 M_many, rI aMtimes cI 15360 M_times, rI aMvalues cI 15360 M_values, rI aMorder cI 96 M_order, rI aMheadOf cI 128 M_headOf, rI aMheadTime cI 128 M_headTime, rI aMheadValue cI 128 M_headValue, rI aMcursorTime cI 6300 M_cursorTime, rI aMcursorValue cI 6300 M_cursorValue] none [oX10 aM M_thrown M_series M_most M_ratio aMdisk M_writes M_fuse M_down M_recovers o_M_looks o_M_unpacked aMits aMmany aMplace aMlength aMtimes aMvalues aMorder M_chunks M_epoch M_side aMheadOf aMheadTime aMheadValue M_logged aMnext aMisNew M_nexts aMcursorTime aMcursorValue M_hasCursor M_cursorMany M_cursorAt aMmade M_bits M_from o_M_askMany o_M_askLeast o_M_askGreatest o_M_askSum, rI aMits cI 240 M_its, rI aMmany cI 240 M_many, rI aMtimes cI 15360 M_times, rI aMvalues cI 15360 M_values, rI aMorder cI 96 M_order, rI aMheadOf cI 128 M_headOf, rI aMheadTime cI 128 M_headTime, rI aMheadValue cI 128 M_headValue, rI aMcursorTime cI 6300 o_M_cursorTime, rI aMcursorValue cI 6300 o_M_cursorValue] := by
  refine CT.ofW (lvl := [(0, .ref aM), (1, .int p0), (2, .int p1), (3, .int p2), (4, .int p3)]) (by decide) (Nat.le_of_ble_eq_true rfl) rfl ?_
  intro p e s m args below meth c A ls0 QQ hQQ hx hb hml hr hlocks htc hN hown hK hA hw0 hl0
  rw [m_X10_ask] at hfin
  refine lv_aload_n hx hb dX10_ask_0 rfl (lv_at hl0 0 rfl) ?_
  refine lv_iconst (v := (0 : Int32)) hx hb dX10_ask_1 (by decide) ?_
  refine va_put (D := G) (ci := 10) (v := .int (0 : Int32)) (ty := .int) (C := RX10) (T := TX10) (N := 40) hx hb htc iX10 tyX10 tyX10_ok nmX10 hown hK hw0.1 hw0.2.1 hw0.2.2 0 rfl rfl 36 (by decide) (htc _ mw_983) (fun _ h9 => h9) rfl (tyX10_ok 36 (by decide)) rfl rfl (Nat.le_of_ble_eq_true rfl) dX10_ask_2 (fun H1 locs1 hP hD hS => ?_)
  have hw1 : wS G A s H1 locs1 [oX10 aM M_thrown M_series M_most M_ratio aMdisk M_writes M_fuse M_down M_recovers M_looks M_unpacked aMits aMmany aMplace aMlength aMtimes aMvalues aMorder M_chunks M_epoch M_side aMheadOf aMheadTime aMheadValue M_logged aMnext aMisNew M_nexts aMcursorTime aMcursorValue M_hasCursor M_cursorMany M_cursorAt aMmade M_bits M_from (0 : Int32) M_askLeast M_askGreatest M_askSum, rI aMits cI 240 M_its, rI aMmany cI 240 M_many, rI aMtimes cI 15360 M_times, rI aMvalues cI 15360 M_values, rI aMorder cI 96 M_order, rI aMheadOf cI 128 M_headOf, rI aMheadTime cI 128 M_headTime, rI aMheadValue cI 128 M_headValue, rI aMcursorTime cI 6300 M_cursorTime, rI aMcursorValue cI 6300 M_cursorValue] := ⟨hP, hD, hS⟩
  clear hP hD hS hw0
  refine lv_aload_n hx hb dX10_ask_5 rfl (lv_at hl0 0 rfl) ?_
  refine lv_iconst (v := (0 : Int32)) hx hb dX10_ask_6 (by decide) ?_
  refine va_put (D := G) (ci := 10) (v := .int (0 : Int32)) (ty := .int) (C := RX10) (T := TX10) (N := 40) hx hb htc iX10 tyX10 tyX10_ok nmX10 hown hK hw1.1 hw1.2.1 hw1.2.2 0 rfl rfl 37 (by decide) (htc _ mw_984) (fun _ h9 => h9) rfl (tyX10_ok 37 (by decide)) rfl rfl (Nat.le_of_ble_eq_true rfl) dX10_ask_7 (fun H2 locs2 hP hD hS => ?_)
  have hw2 : wS G A s H2 locs2 [oX10 aM M_thrown M_series M_most M_ratio aMdisk M_writes M_fuse M_down M_recovers M_looks M_unpacked aMits aMmany aMplace aMlength aMtimes aMvalues aMorder M_chunks M_epoch M_side aMheadOf aMheadTime aMheadValue M_logged aMnext aMisNew M_nexts aMcursorTime aMcursorValue M_hasCursor M_cursorMany M_cursorAt aMmade M_bits M_from (0 : Int32) (0 : Int32) M_askGreatest M_askSum, rI aMits cI 240 M_its, rI aMmany cI 240 M_many, rI aMtimes cI 15360 M_times, rI aMvalues cI 15360 M_values, rI aMorder cI 96 M_order, rI aMheadOf cI 128 M_headOf, rI aMheadTime cI 128 M_headTime, rI aMheadValue cI 128 M_headValue, rI aMcursorTime cI 6300 M_cursorTime, rI aMcursorValue cI 6300 M_cursorValue] := ⟨hP, hD, hS⟩
  clear hP hD hS hw1 H1 locs1
  refine lv_aload_n hx hb dX10_ask_10 rfl (lv_at hl0 0 rfl) ?_
  refine lv_iconst (v := (0 : Int32)) hx hb dX10_ask_11 (by decide) ?_
  refine va_put (D := G) (ci := 10) (v := .int (0 : Int32)) (ty := .int) (C := RX10) (T := TX10) (N := 40) hx hb htc iX10 tyX10 tyX10_ok nmX10 hown hK hw2.1 hw2.2.1 hw2.2.2 0 rfl rfl 38 (by decide) (htc _ mw_985) (fun _ h9 => h9) rfl (tyX10_ok 38 (by decide)) rfl rfl (Nat.le_of_ble_eq_true rfl) dX10_ask_12 (fun H3 locs3 hP hD hS => ?_)
  have hw3 : wS G A s H3 locs3 [oX10 aM M_thrown M_series M_most M_ratio aMdisk M_writes M_fuse M_down M_recovers M_looks M_unpacked aMits aMmany aMplace aMlength aMtimes aMvalues aMorder M_chunks M_epoch M_side aMheadOf aMheadTime aMheadValue M_logged aMnext aMisNew M_nexts aMcursorTime aMcursorValue M_hasCursor M_cursorMany M_cursorAt aMmade M_bits M_from (0 : Int32) (0 : Int32) (0 : Int32) M_askSum, rI aMits cI 240 M_its, rI aMmany cI 240 M_many, rI aMtimes cI 15360 M_times, rI aMvalues cI 15360 M_values, rI aMorder cI 96 M_order, rI aMheadOf cI 128 M_headOf, rI aMheadTime cI 128 M_headTime, rI aMheadValue cI 128 M_headValue, rI aMcursorTime cI 6300 M_cursorTime, rI aMcursorValue cI 6300 M_cursorValue] := ⟨hP, hD, hS⟩
  clear hP hD hS hw2 H2 locs2
  refine lv_aload_n hx hb dX10_ask_15 rfl (lv_at hl0 0 rfl) ?_
  refine lv_lconst (v := (0 : Int64)) hx hb dX10_ask_16 (by decide) ?_
  refine va_put (D := G) (ci := 10) (v := .long (0 : Int64)) (ty := .long) (C := RX10) (T := TX10) (N := 40) hx hb htc iX10 tyX10 tyX10_ok nmX10 hown hK hw3.1 hw3.2.1 hw3.2.2 0 rfl rfl 39 (by decide) (htc _ mw_986) (fun _ h9 => h9) rfl (tyX10_ok 39 (by decide)) rfl rfl (Nat.le_of_ble_eq_true rfl) dX10_ask_17 (fun H4 locs4 hP hD hS => ?_)
  have hw4 : wS G A s H4 locs4 [oX10 aM M_thrown M_series M_most M_ratio aMdisk M_writes M_fuse M_down M_recovers M_looks M_unpacked aMits aMmany aMplace aMlength aMtimes aMvalues aMorder M_chunks M_epoch M_side aMheadOf aMheadTime aMheadValue M_logged aMnext aMisNew M_nexts aMcursorTime aMcursorValue M_hasCursor M_cursorMany M_cursorAt aMmade M_bits M_from (0 : Int32) (0 : Int32) (0 : Int32) (0 : Int64), rI aMits cI 240 M_its, rI aMmany cI 240 M_many, rI aMtimes cI 15360 M_times, rI aMvalues cI 15360 M_values, rI aMorder cI 96 M_order, rI aMheadOf cI 128 M_headOf, rI aMheadTime cI 128 M_headTime, rI aMheadValue cI 128 M_headValue, rI aMcursorTime cI 6300 M_cursorTime, rI aMcursorValue cI 6300 M_cursorValue] := ⟨hP, hD, hS⟩
  clear hP hD hS hw3 H3 locs3
  refine lv_iconst (v := (0 : Int32)) hx hb dX10_ask_20 (by decide) ?_
  refine lv_istore (lv' := [(5, .int (0 : Int32)), (0, .ref aM), (1, .int p0), (2, .int p1), (3, .int p2), (4, .int p3)]) hx hb dX10_ask_21 hl0 (by decide) rfl (fun ls5 hl5 => ?_)
  clear hl0 ls0
  replace hfin := ob6_some hfin
  obtain ⟨M_askMany_17, M_askLeast_18, M_askGreatest_19, M_askSum_20, M_cursorTime_21, M_cursorValue_22, hL_13, hfin⟩ := hfin
  have kx_14 : ∀ (H : Heap) (locs : List Loc) (ls : Array Slot), wS G A s H locs [oX10 aM M_thrown M_series M_most M_ratio aMdisk M_writes M_fuse M_down M_recovers M_looks M_unpacked aMits aMmany aMplace aMlength aMtimes aMvalues aMorder M_chunks M_epoch M_side aMheadOf aMheadTime aMheadValue M_logged aMnext aMisNew M_nexts aMcursorTime aMcursorValue M_hasCursor M_cursorMany M_cursorAt aMmade M_bits M_from M_askMany_17 M_askLeast_18 M_askGreatest_19 M_askSum_20, rI aMits cI 240 M_its, rI aMmany cI 240 M_many, rI aMtimes cI 15360 M_times, rI aMvalues cI 15360 M_values, rI aMorder cI 96 M_order, rI aMheadOf cI 128 M_headOf, rI aMheadTime cI 128 M_headTime, rI aMheadValue cI 128 M_headValue, rI aMcursorTime cI 6300 M_cursorTime_21, rI aMcursorValue cI 6300 M_cursorValue_22] → lv_has ls 8 [(0, .ref aM), (1, .int p0), (2, .int p1), (3, .int p2), (4, .int p3)] → W p l e rm_X10_ask s m args below meth c H locs 0 0 QQ (F0 m 113 ls []) := by
    clear hw4 H4 locs4 hl5 ls5 hL_13
    intro H63 locs63 ls63 hw63 hl63
    refine lv_iconst (v := (0 : Int32)) hx hb dX10_ask_113 (by decide) ?_
    refine lv_istore (lv' := [(5, .int (0 : Int32)), (0, .ref aM), (1, .int p0), (2, .int p1), (3, .int p2), (4, .int p3)]) hx hb dX10_ask_114 hl63 (by decide) rfl (fun ls64 hl64 => ?_)
    clear hl63 ls63
    replace hfin := ob6_some hfin
    obtain ⟨M_askMany_76, M_askLeast_77, M_askGreatest_78, M_askSum_79, M_cursorTime_80, M_cursorValue_81, hL_72, hfin⟩ := hfin
    have kx_73 : ∀ (H : Heap) (locs : List Loc) (ls : Array Slot), wS G A s H locs [oX10 aM M_thrown M_series M_most M_ratio aMdisk M_writes M_fuse M_down M_recovers M_looks M_unpacked aMits aMmany aMplace aMlength aMtimes aMvalues aMorder M_chunks M_epoch M_side aMheadOf aMheadTime aMheadValue M_logged aMnext aMisNew M_nexts aMcursorTime aMcursorValue M_hasCursor M_cursorMany M_cursorAt aMmade M_bits M_from M_askMany_76 M_askLeast_77 M_askGreatest_78 M_askSum_79, rI aMits cI 240 M_its, rI aMmany cI 240 M_many, rI aMtimes cI 15360 M_times, rI aMvalues cI 15360 M_values, rI aMorder cI 96 M_order, rI aMheadOf cI 128 M_headOf, rI aMheadTime cI 128 M_headTime, rI aMheadValue cI 128 M_headValue, rI aMcursorTime cI 6300 M_cursorTime_80, rI aMcursorValue cI 6300 M_cursorValue_81] → lv_has ls 8 [(0, .ref aM), (1, .int p0), (2, .int p1), (3, .int p2)] → W p l e rm_X10_ask s m args below meth c H locs 0 0 QQ (F0 m 164 ls []) := by
      clear hw63 H63 locs63 hl64 ls64 hL_72
      intro H106 locs106 ls106 hw106 hl106
      refine lv_aload_n hx hb dX10_ask_164 rfl (lv_at hl106 0 rfl) ?_
      refine lv_iload_n hx hb dX10_ask_165 rfl (lv_at hl106 1 rfl) ?_
      refine lv_iload_n hx hb dX10_ask_166 rfl (lv_at hl106 2 rfl) ?_
      refine lv_iload_n hx hb dX10_ask_167 rfl (lv_at hl106 3 rfl) ?_
      replace hfin := ob2_some hfin
      obtain ⟨M_looks_108, M_unpacked_109, hE_107, hfin⟩ := hfin
      refine ctV (a := aM) (As := [.int p0, .int p1, .int p2]) (rest := []) (st1 := []) (wc := [oX10 aM M_thrown M_series M_most M_ratio aMdisk M_writes M_fuse M_down M_recovers M_looks M_unpacked aMits aMmany aMplace aMlength aMtimes aMvalues aMorder M_chunks M_epoch M_side aMheadOf aMheadTime aMheadValue M_logged aMnext aMisNew M_nexts aMcursorTime aMcursorValue M_hasCursor M_cursorMany M_cursorAt aMmade M_bits M_from M_askMany_76 M_askLeast_77 M_askGreatest_78 M_askSum_79, rI aMits cI 240 M_its, rI aMmany cI 240 M_many, rI aMtimes cI 15360 M_times, rI aMorder cI 96 M_order]) (w1 := [oX10 aM M_thrown M_series M_most M_ratio aMdisk M_writes M_fuse M_down M_recovers M_looks_108 M_unpacked_109 aMits aMmany aMplace aMlength aMtimes aMvalues aMorder M_chunks M_epoch M_side aMheadOf aMheadTime aMheadValue M_logged aMnext aMisNew M_nexts aMcursorTime aMcursorValue M_hasCursor M_cursorMany M_cursorAt aMmade M_bits M_from M_askMany_76 M_askLeast_77 M_askGreatest_78 M_askSum_79, rI aMits cI 240 M_its, rI aMmany cI 240 M_many, rI aMtimes cI 15360 M_times, rI aMorder cI 96 M_order]) (wr := [rI aMvalues cI 15360 M_values, rI aMheadOf cI 128 M_headOf, rI aMheadTime cI 128 M_headTime, rI aMheadValue cI 128 M_headValue, rI aMcursorTime cI 6300 M_cursorTime_80, rI aMcursorValue cI 6300 M_cursorValue_81]) (wb := [oX10 aM M_thrown M_series M_most M_ratio aMdisk M_writes M_fuse M_down M_recovers M_looks_108 M_unpacked_109 aMits aMmany aMplace aMlength aMtimes aMvalues aMorder M_chunks M_epoch M_side aMheadOf aMheadTime aMheadValue M_logged aMnext aMisNew M_nexts aMcursorTime aMcursorValue M_hasCursor M_cursorMany M_cursorAt aMmade M_bits M_from M_askMany_76 M_askLeast_77 M_askGreatest_78 M_askSum_79, rI aMits cI 240 M_its, rI aMmany cI 240 M_many, rI aMtimes cI 15360 M_times, rI aMvalues cI 15360 M_values, rI aMorder cI 96 M_order, rI aMheadOf cI 128 M_headOf, rI aMheadTime cI 128 M_headTime, rI aMheadValue cI 128 M_headValue, rI aMcursorTime cI 6300 M_cursorTime_80, rI aMcursorValue cI 6300 M_cursorValue_81]) (v := none) hx hb hml hown htc hN (c_X10_lookAt l G cI cZ cJ aM aMdisk aMits aMmany aMplace aMlength aMtimes aMvalues aMorder aMheadOf aMheadTime aMheadValue aMnext aMisNew aMcursorTime aMcursorValue aMmade M_thrown M_series M_most M_ratio M_writes M_fuse M_down M_recovers M_looks M_unpacked M_chunks M_epoch M_side M_logged M_nexts M_hasCursor M_cursorMany M_cursorAt M_bits M_from M_askMany_76 M_askLeast_77 M_askGreatest_78 M_askSum_79 M_its M_many M_times M_order p0 p1 p2 hE_107) mw_1225 mw_1227 mp_64 mw_12 mw_1228 hd_X10_lookAt ⟨rfl, rfl⟩ ⟨Nat.le_of_ble_eq_true rfl, Nat.le_of_ble_eq_true rfl⟩ hK hw106 hA [0, 1, 2, 3, 5] [4, 6, 7, 8, 9, 10] [6, 7, 8, 9, 0, 10, 1, 2, 3, 4, 5] rfl rfl rfl rfl rfl (by decide) rfl rfl rfl 0 rfl rfl rfl rfl hl106.1 rfl rfl (Nat.le_of_ble_eq_true rfl) dX10_ask_168 ⟨Nat.zero_le _, Nat.zero_le _⟩ (fun H110 locs110 hw110 => ?_)
      clear hw106 H106 locs106
      cases hfin
      rw [hQQ]
      exact ct_vret hx hb hr hlocks hw110.1 hw110.2.1 hw110.2.2 dX10_ask_171
    have lp_74 : ∀ (n : Nat) (v5_65 : Int32) (M_askMany_66 : Int32) (M_askLeast_67 : Int32) (M_askGreatest_68 : Int32) (M_askSum_69 : Int64) (M_cursorTime_70 : Nat → Int32) (M_cursorValue_71 : Nat → Int32), lp_X10_ask_116 M_logged M_headOf M_headTime M_headValue p0 p1 p2 p3 n v5_65 M_askMany_66 M_askLeast_67 M_askGreatest_68 M_askSum_69 M_cursorTime_70 M_cursorValue_71 = some (M_askMany_76, M_askLeast_77, M_askGreatest_78, M_askSum_79, M_cursorTime_80, M_cursorValue_81) → ∀ (H : Heap) (locs : List Loc) (ls : Array Slot), wS G A s H locs [oX10 aM M_thrown M_series M_most M_ratio aMdisk M_writes M_fuse M_down M_recovers M_looks M_unpacked aMits aMmany aMplace aMlength aMtimes aMvalues aMorder M_chunks M_epoch M_side aMheadOf aMheadTime aMheadValue M_logged aMnext aMisNew M_nexts aMcursorTime aMcursorValue M_hasCursor M_cursorMany M_cursorAt aMmade M_bits M_from M_askMany_66 M_askLeast_67 M_askGreatest_68 M_askSum_69, rI aMits cI 240 M_its, rI aMmany cI 240 M_many, rI aMtimes cI 15360 M_times, rI aMvalues cI 15360 M_values, rI aMorder cI 96 M_order, rI aMheadOf cI 128 M_headOf, rI aMheadTime cI 128 M_headTime, rI aMheadValue cI 128 M_headValue, rI aMcursorTime cI 6300 M_cursorTime_70, rI aMcursorValue cI 6300 M_cursorValue_71] → lv_has ls 8 [(0, .ref aM), (1, .int p0), (2, .int p1), (3, .int p2), (4, .int p3), (5, .int v5_65)] → W p l e rm_X10_ask s m args below meth c H locs 0 0 QQ (F0 m 116 ls []) := by
      clear hw63 H63 locs63 hl64 ls64 hfin
      intro n
      induction n with
      | zero =>
        intro v5_65 M_askMany_66 M_askLeast_67 M_askGreatest_68 M_askSum_69 M_cursorTime_70 M_cursorValue_71 hB_75
        exact absurd hB_75 (by rw [lp_X10_ask_116]; exact fun h9 => nomatch h9)
      | succ n ih =>
        intro v5_65 M_askMany_66 M_askLeast_67 M_askGreatest_68 M_askSum_69 M_cursorTime_70 M_cursorValue_71 hB_75 H82 locs82 ls82 hw82 hl82
        rw [lp_X10_ask_116] at hB_75
        refine lv_iload hx hb dX10_ask_116 (lv_at hl82 5 rfl) ?_
        refine lv_aload_n hx hb dX10_ask_118 rfl (lv_at hl82 0 rfl) ?_
        refine va_get (D := G) (ci := 10) (v := .int M_logged) (C := RX10) (T := TX10) (N := 40) hx hb htc iX10 hown hK hw82.1 0 rfl rfl 24 (by decide) (htc _ mw_971) (fun _ h9 => h9) rfl dX10_ask_119 ?_
        refine lv_icmp_ge (tgt := 164) hx hb dX10_ask_122 (by decide) (fun c_83 => ?_) (fun c_83 => ?_)
        · replace hB_75 := it_t c_83 hB_75
          cases hB_75
          exact kx_73 _ _ _ hw82 (lv_sub hl82 [0, 1, 2, 3] rfl)
        · replace hB_75 := it_f c_83 hB_75
          refine lv_aload_n hx hb dX10_ask_125 rfl (lv_at hl82 0 rfl) ?_
          refine va_get (D := G) (ci := 10) (v := .ref aMheadOf) (C := RX10) (T := TX10) (N := 40) hx hb htc iX10 hown hK hw82.1 0 rfl rfl 21 (by decide) (htc _ mw_968) (fun _ h9 => h9) rfl dX10_ask_126 ?_
          refine lv_iload hx hb dX10_ask_129 (lv_at hl82 5 rfl) ?_
          replace hB_75 := ckb_some hB_75
          obtain ⟨hin_84, hB_75⟩ := hB_75
          refine va_iald hx hb hK hw82.1 6 0 rfl rfl hin_84 dX10_ask_131 ?_
          refine lv_iload_n hx hb dX10_ask_132 rfl (lv_at hl82 1 rfl) ?_
          replace hB_75 := ob6_some hB_75
          obtain ⟨M_askMany_85, M_askLeast_86, M_askGreatest_87, M_askSum_88, M_cursorTime_89, M_cursorValue_90, hJ_91, hB_75⟩ := hB_75
          have kj_92 : ∀ (H : Heap) (locs : List Loc) (ls : Array Slot), wS G A s H locs [oX10 aM M_thrown M_series M_most M_ratio aMdisk M_writes M_fuse M_down M_recovers M_looks M_unpacked aMits aMmany aMplace aMlength aMtimes aMvalues aMorder M_chunks M_epoch M_side aMheadOf aMheadTime aMheadValue M_logged aMnext aMisNew M_nexts aMcursorTime aMcursorValue M_hasCursor M_cursorMany M_cursorAt aMmade M_bits M_from M_askMany_85 M_askLeast_86 M_askGreatest_87 M_askSum_88, rI aMits cI 240 M_its, rI aMmany cI 240 M_many, rI aMtimes cI 15360 M_times, rI aMvalues cI 15360 M_values, rI aMorder cI 96 M_order, rI aMheadOf cI 128 M_headOf, rI aMheadTime cI 128 M_headTime, rI aMheadValue cI 128 M_headValue, rI aMcursorTime cI 6300 M_cursorTime_89, rI aMcursorValue cI 6300 M_cursorValue_90] → lv_has ls 8 [(0, .ref aM), (1, .int p0), (2, .int p1), (3, .int p2), (4, .int p3), (5, .int v5_65)] → W p l e rm_X10_ask s m args below meth c H locs 0 0 QQ (F0 m 158 ls []) := by
            clear hw82 H82 locs82 hl82 ls82 hJ_91
            intro H104 locs104 ls104 hw104 hl104
            refine lv_iinc (v := (v5_65 + (1 : Int32))) (lv' := [(5, .int (v5_65 + (1 : Int32))), (0, .ref aM), (1, .int p0), (2, .int p1), (3, .int p2), (4, .int p3)]) hx hb dX10_ask_158 hl104 (k := 5) rfl rfl (by decide) rfl (fun ls105 hl105 => ?_)
            clear hl104 ls104
            refine lv_goto (tgt := 116) hx hb dX10_ask_161 (by decide) ?_
            exact ih (v5_65 + (1 : Int32)) M_askMany_85 M_askLeast_86 M_askGreatest_87 M_askSum_88 M_cursorTime_89 M_cursorValue_90 hB_75 _ _ _ hw104 (lv_sub hl105 [1, 2, 3, 4, 5, 0] rfl)
          clear hB_75
          refine lv_icmp_ne (tgt := 158) hx hb dX10_ask_133 (by decide) (fun c_93 => ?_) (fun c_93 => ?_)
          · replace hJ_91 := it_f c_93 hJ_91
            cases hJ_91
            exact kj_92 _ _ _ hw82 (lv_sub hl82 [0, 1, 2, 3, 4, 5] rfl)
          · replace hJ_91 := it_t c_93 hJ_91
            refine lv_aload_n hx hb dX10_ask_136 rfl (lv_at hl82 0 rfl) ?_
            refine lv_aload_n hx hb dX10_ask_137 rfl (lv_at hl82 0 rfl) ?_
            refine va_get (D := G) (ci := 10) (v := .ref aMheadTime) (C := RX10) (T := TX10) (N := 40) hx hb htc iX10 hown hK hw82.1 0 rfl rfl 22 (by decide) (htc _ mw_969) (fun _ h9 => h9) rfl dX10_ask_138 ?_
            refine lv_iload hx hb dX10_ask_141 (lv_at hl82 5 rfl) ?_
            replace hJ_91 := ckb_some hJ_91
            obtain ⟨hin_94, hJ_91⟩ := hJ_91
            refine va_iald hx hb hK hw82.1 7 0 rfl rfl hin_94 dX10_ask_143 ?_
            refine lv_aload_n hx hb dX10_ask_144 rfl (lv_at hl82 0 rfl) ?_
            refine va_get (D := G) (ci := 10) (v := .ref aMheadValue) (C := RX10) (T := TX10) (N := 40) hx hb htc iX10 hown hK hw82.1 0 rfl rfl 23 (by decide) (htc _ mw_970) (fun _ h9 => h9) rfl dX10_ask_145 ?_
            refine lv_iload hx hb dX10_ask_148 (lv_at hl82 5 rfl) ?_
            replace hJ_91 := ckb_some hJ_91
            obtain ⟨hin_95, hJ_91⟩ := hJ_91
            refine va_iald hx hb hK hw82.1 8 0 rfl rfl hin_95 dX10_ask_150 ?_
            refine lv_iload_n hx hb dX10_ask_151 rfl (lv_at hl82 2 rfl) ?_
            refine lv_iload_n hx hb dX10_ask_152 rfl (lv_at hl82 3 rfl) ?_
            refine lv_iload hx hb dX10_ask_153 (lv_at hl82 4 rfl) ?_
            replace hJ_91 := ob6_some hJ_91
            obtain ⟨M_askMany_97, M_askLeast_98, M_askGreatest_99, M_askSum_100, M_cursorTime_101, M_cursorValue_102, hE_96, hJ_91⟩ := hJ_91
            refine ctV (a := aM) (As := [.int (M_headTime (Int32.toNatClampNeg v5_65)), .int (M_headValue (Int32.toNatClampNeg v5_65)), .int p1, .int p2, .int p3]) (rest := []) (st1 := []) (wc := [oX10 aM M_thrown M_series M_most M_ratio aMdisk M_writes M_fuse M_down M_recovers M_looks M_unpacked aMits aMmany aMplace aMlength aMtimes aMvalues aMorder M_chunks M_epoch M_side aMheadOf aMheadTime aMheadValue M_logged aMnext aMisNew M_nexts aMcursorTime aMcursorValue M_hasCursor M_cursorMany M_cursorAt aMmade M_bits M_from M_askMany_66 M_askLeast_67 M_askGreatest_68 M_askSum_69, rI aMcursorTime cI 6300 M_cursorTime_70, rI aMcursorValue cI 6300 M_cursorValue_71]) (w1 := [oX10 aM M_thrown M_series M_most M_ratio aMdisk M_writes M_fuse M_down M_recovers M_looks M_unpacked aMits aMmany aMplace aMlength aMtimes aMvalues aMorder M_chunks M_epoch M_side aMheadOf aMheadTime aMheadValue M_logged aMnext aMisNew M_nexts aMcursorTime aMcursorValue M_hasCursor M_cursorMany M_cursorAt aMmade M_bits M_from M_askMany_97 M_askLeast_98 M_askGreatest_99 M_askSum_100, rI aMcursorTime cI 6300 M_cursorTime_101, rI aMcursorValue cI 6300 M_cursorValue_102]) (wr := [rI aMits cI 240 M_its, rI aMmany cI 240 M_many, rI aMtimes cI 15360 M_times, rI aMvalues cI 15360 M_values, rI aMorder cI 96 M_order, rI aMheadOf cI 128 M_headOf, rI aMheadTime cI 128 M_headTime, rI aMheadValue cI 128 M_headValue]) (wb := [oX10 aM M_thrown M_series M_most M_ratio aMdisk M_writes M_fuse M_down M_recovers M_looks M_unpacked aMits aMmany aMplace aMlength aMtimes aMvalues aMorder M_chunks M_epoch M_side aMheadOf aMheadTime aMheadValue M_logged aMnext aMisNew M_nexts aMcursorTime aMcursorValue M_hasCursor M_cursorMany M_cursorAt aMmade M_bits M_from M_askMany_97 M_askLeast_98 M_askGreatest_99 M_askSum_100, rI aMits cI 240 M_its, rI aMmany cI 240 M_many, rI aMtimes cI 15360 M_times, rI aMvalues cI 15360 M_values, rI aMorder cI 96 M_order, rI aMheadOf cI 128 M_headOf, rI aMheadTime cI 128 M_headTime, rI aMheadValue cI 128 M_headValue, rI aMcursorTime cI 6300 M_cursorTime_101, rI aMcursorValue cI 6300 M_cursorValue_102]) (v := none) hx hb hml hown htc hN (c_X10_meet l G cI cZ cJ aM aMdisk aMits aMmany aMplace aMlength aMtimes aMvalues aMorder aMheadOf aMheadTime aMheadValue aMnext aMisNew aMcursorTime aMcursorValue aMmade M_thrown M_series M_most M_ratio M_writes M_fuse M_down M_recovers M_looks M_unpacked M_chunks M_epoch M_side M_logged M_nexts M_hasCursor M_cursorMany M_cursorAt M_bits M_from M_askMany_66 M_askLeast_67 M_askGreatest_68 M_askSum_69 M_cursorTime_70 M_cursorValue_71 (M_headTime (Int32.toNatClampNeg v5_65)) (M_headValue (Int32.toNatClampNeg v5_65)) p1 p2 p3 hE_96) mw_1221 mw_1223 mp_63 mw_12 mw_1224 hd_X10_meet ⟨rfl, rfl⟩ ⟨Nat.le_of_ble_eq_true rfl, Nat.le_of_ble_eq_true rfl⟩ hK hw82 hA [0, 9, 10] [1, 2, 3, 4, 5, 6, 7, 8] [8, 0, 1, 2, 3, 4, 5, 6, 7, 9, 10] rfl rfl rfl rfl rfl (by decide) rfl rfl rfl 0 rfl rfl rfl rfl hl82.1 rfl rfl (Nat.le_of_ble_eq_true rfl) dX10_ask_155 ⟨Nat.zero_le _, Nat.zero_le _⟩ (fun H103 locs103 hw103 => ?_)
            clear hw82 H82 locs82
            cases hJ_91
            exact kj_92 _ _ _ hw103 (lv_sub hl82 [0, 1, 2, 3, 4, 5] rfl)
    exact lp_74 NN (0 : Int32) M_askMany_17 M_askLeast_18 M_askGreatest_19 M_askSum_20 M_cursorTime_21 M_cursorValue_22 hL_72 _ _ _ hw63 (lv_sub hl64 [1, 2, 3, 4, 5, 0] rfl)
  have lp_15 : ∀ (n : Nat) (v5_6 : Int32) (M_askMany_7 : Int32) (M_askLeast_8 : Int32) (M_askGreatest_9 : Int32) (M_askSum_10 : Int64) (M_cursorTime_11 : Nat → Int32) (M_cursorValue_12 : Nat → Int32), lp_X10_ask_23 M_chunks M_its M_many M_times M_values M_order p0 p1 p2 p3 n v5_6 M_askMany_7 M_askLeast_8 M_askGreatest_9 M_askSum_10 M_cursorTime_11 M_cursorValue_12 = some (M_askMany_17, M_askLeast_18, M_askGreatest_19, M_askSum_20, M_cursorTime_21, M_cursorValue_22) → ∀ (H : Heap) (locs : List Loc) (ls : Array Slot), wS G A s H locs [oX10 aM M_thrown M_series M_most M_ratio aMdisk M_writes M_fuse M_down M_recovers M_looks M_unpacked aMits aMmany aMplace aMlength aMtimes aMvalues aMorder M_chunks M_epoch M_side aMheadOf aMheadTime aMheadValue M_logged aMnext aMisNew M_nexts aMcursorTime aMcursorValue M_hasCursor M_cursorMany M_cursorAt aMmade M_bits M_from M_askMany_7 M_askLeast_8 M_askGreatest_9 M_askSum_10, rI aMits cI 240 M_its, rI aMmany cI 240 M_many, rI aMtimes cI 15360 M_times, rI aMvalues cI 15360 M_values, rI aMorder cI 96 M_order, rI aMheadOf cI 128 M_headOf, rI aMheadTime cI 128 M_headTime, rI aMheadValue cI 128 M_headValue, rI aMcursorTime cI 6300 M_cursorTime_11, rI aMcursorValue cI 6300 M_cursorValue_12] → lv_has ls 8 [(0, .ref aM), (1, .int p0), (2, .int p1), (3, .int p2), (4, .int p3), (5, .int v5_6)] → W p l e rm_X10_ask s m args below meth c H locs 0 0 QQ (F0 m 23 ls []) := by
    clear hw4 H4 locs4 hl5 ls5 hfin
    intro n
    induction n with
    | zero =>
      intro v5_6 M_askMany_7 M_askLeast_8 M_askGreatest_9 M_askSum_10 M_cursorTime_11 M_cursorValue_12 hB_16
      exact absurd hB_16 (by rw [lp_X10_ask_23]; exact fun h9 => nomatch h9)
    | succ n ih =>
      intro v5_6 M_askMany_7 M_askLeast_8 M_askGreatest_9 M_askSum_10 M_cursorTime_11 M_cursorValue_12 hB_16 H23 locs23 ls23 hw23 hl23
      rw [lp_X10_ask_23] at hB_16
      refine lv_iload hx hb dX10_ask_23 (lv_at hl23 5 rfl) ?_
      refine lv_aload_n hx hb dX10_ask_25 rfl (lv_at hl23 0 rfl) ?_
      refine va_get (D := G) (ci := 10) (v := .int M_chunks) (C := RX10) (T := TX10) (N := 40) hx hb htc iX10 hown hK hw23.1 0 rfl rfl 18 (by decide) (htc _ mw_965) (fun _ h9 => h9) rfl dX10_ask_26 ?_
      refine lv_icmp_ge (tgt := 113) hx hb dX10_ask_29 (by decide) (fun c_24 => ?_) (fun c_24 => ?_)
      · replace hB_16 := it_t c_24 hB_16
        cases hB_16
        exact kx_14 _ _ _ hw23 (lv_sub hl23 [0, 1, 2, 3, 4] rfl)
      · replace hB_16 := it_f c_24 hB_16
        refine lv_aload_n hx hb dX10_ask_32 rfl (lv_at hl23 0 rfl) ?_
        refine va_get (D := G) (ci := 10) (v := .ref aMorder) (C := RX10) (T := TX10) (N := 40) hx hb htc iX10 hown hK hw23.1 0 rfl rfl 17 (by decide) (htc _ mw_964) (fun _ h9 => h9) rfl dX10_ask_33 ?_
        refine lv_iload hx hb dX10_ask_36 (lv_at hl23 5 rfl) ?_
        replace hB_16 := ckb_some hB_16
        obtain ⟨hin_25, hB_16⟩ := hB_16
        refine va_iald hx hb hK hw23.1 5 0 rfl rfl hin_25 dX10_ask_38 ?_
        refine lv_istore (lv' := [(6, .int (M_order (Int32.toNatClampNeg v5_6))), (0, .ref aM), (1, .int p0), (2, .int p1), (3, .int p2), (4, .int p3), (5, .int v5_6)]) hx hb dX10_ask_39 hl23 (by decide) rfl (fun ls26 hl26 => ?_)
        clear hl23 ls23
        refine lv_iconst (v := (0 : Int32)) hx hb dX10_ask_41 (by decide) ?_
        refine lv_istore (lv' := [(7, .int (0 : Int32)), (6, .int (M_order (Int32.toNatClampNeg v5_6))), (0, .ref aM), (1, .int p0), (2, .int p1), (3, .int p2), (4, .int p3), (5, .int v5_6)]) hx hb dX10_ask_42 hl26 (by decide) rfl (fun ls27 hl27 => ?_)
        clear hl26 ls26
        replace hB_16 := ob6_some hB_16
        obtain ⟨M_askMany_39, M_askLeast_40, M_askGreatest_41, M_askSum_42, M_cursorTime_43, M_cursorValue_44, hL_35, hB_16⟩ := hB_16
        have kx_36 : ∀ (H : Heap) (locs : List Loc) (ls : Array Slot), wS G A s H locs [oX10 aM M_thrown M_series M_most M_ratio aMdisk M_writes M_fuse M_down M_recovers M_looks M_unpacked aMits aMmany aMplace aMlength aMtimes aMvalues aMorder M_chunks M_epoch M_side aMheadOf aMheadTime aMheadValue M_logged aMnext aMisNew M_nexts aMcursorTime aMcursorValue M_hasCursor M_cursorMany M_cursorAt aMmade M_bits M_from M_askMany_39 M_askLeast_40 M_askGreatest_41 M_askSum_42, rI aMits cI 240 M_its, rI aMmany cI 240 M_many, rI aMtimes cI 15360 M_times, rI aMvalues cI 15360 M_values, rI aMorder cI 96 M_order, rI aMheadOf cI 128 M_headOf, rI aMheadTime cI 128 M_headTime, rI aMheadValue cI 128 M_headValue, rI aMcursorTime cI 6300 M_cursorTime_43, rI aMcursorValue cI 6300 M_cursorValue_44] → lv_has ls 8 [(0, .ref aM), (1, .int p0), (2, .int p1), (3, .int p2), (4, .int p3), (5, .int v5_6)] → W p l e rm_X10_ask s m args below meth c H locs 0 0 QQ (F0 m 107 ls []) := by
          clear hw23 H23 locs23 hl27 ls27 hL_35
          intro H61 locs61 ls61 hw61 hl61
          refine lv_iinc (v := (v5_6 + (1 : Int32))) (lv' := [(5, .int (v5_6 + (1 : Int32))), (0, .ref aM), (1, .int p0), (2, .int p1), (3, .int p2), (4, .int p3)]) hx hb dX10_ask_107 hl61 (k := 5) rfl rfl (by decide) rfl (fun ls62 hl62 => ?_)
          clear hl61 ls61
          refine lv_goto (tgt := 23) hx hb dX10_ask_110 (by decide) ?_
          exact ih (v5_6 + (1 : Int32)) M_askMany_39 M_askLeast_40 M_askGreatest_41 M_askSum_42 M_cursorTime_43 M_cursorValue_44 hB_16 _ _ _ hw61 (lv_sub hl62 [1, 2, 3, 4, 5, 0] rfl)
        have lp_37 : ∀ (n : Nat) (v7_28 : Int32) (M_askMany_29 : Int32) (M_askLeast_30 : Int32) (M_askGreatest_31 : Int32) (M_askSum_32 : Int64) (M_cursorTime_33 : Nat → Int32) (M_cursorValue_34 : Nat → Int32), lp_X10_ask_44 M_its M_many M_times M_values M_order p0 p1 p2 p3 v5_6 n v7_28 M_askMany_29 M_askLeast_30 M_askGreatest_31 M_askSum_32 M_cursorTime_33 M_cursorValue_34 = some (M_askMany_39, M_askLeast_40, M_askGreatest_41, M_askSum_42, M_cursorTime_43, M_cursorValue_44) → ∀ (H : Heap) (locs : List Loc) (ls : Array Slot), wS G A s H locs [oX10 aM M_thrown M_series M_most M_ratio aMdisk M_writes M_fuse M_down M_recovers M_looks M_unpacked aMits aMmany aMplace aMlength aMtimes aMvalues aMorder M_chunks M_epoch M_side aMheadOf aMheadTime aMheadValue M_logged aMnext aMisNew M_nexts aMcursorTime aMcursorValue M_hasCursor M_cursorMany M_cursorAt aMmade M_bits M_from M_askMany_29 M_askLeast_30 M_askGreatest_31 M_askSum_32, rI aMits cI 240 M_its, rI aMmany cI 240 M_many, rI aMtimes cI 15360 M_times, rI aMvalues cI 15360 M_values, rI aMorder cI 96 M_order, rI aMheadOf cI 128 M_headOf, rI aMheadTime cI 128 M_headTime, rI aMheadValue cI 128 M_headValue, rI aMcursorTime cI 6300 M_cursorTime_33, rI aMcursorValue cI 6300 M_cursorValue_34] → lv_has ls 8 [(0, .ref aM), (1, .int p0), (2, .int p1), (3, .int p2), (4, .int p3), (5, .int v5_6), (6, .int (M_order (Int32.toNatClampNeg v5_6))), (7, .int v7_28)] → W p l e rm_X10_ask s m args below meth c H locs 0 0 QQ (F0 m 44 ls []) := by
          clear hw23 H23 locs23 hl27 ls27 hB_16
          intro n
          induction n with
          | zero =>
            intro v7_28 M_askMany_29 M_askLeast_30 M_askGreatest_31 M_askSum_32 M_cursorTime_33 M_cursorValue_34 hB_38
            exact absurd hB_38 (by rw [lp_X10_ask_44]; exact fun h9 => nomatch h9)
          | succ n ih =>
            intro v7_28 M_askMany_29 M_askLeast_30 M_askGreatest_31 M_askSum_32 M_cursorTime_33 M_cursorValue_34 hB_38 H45 locs45 ls45 hw45 hl45
            rw [lp_X10_ask_44] at hB_38
            refine lv_iload hx hb dX10_ask_44 (lv_at hl45 7 rfl) ?_
            refine lv_aload_n hx hb dX10_ask_46 rfl (lv_at hl45 0 rfl) ?_
            refine va_get (D := G) (ci := 10) (v := .ref aMmany) (C := RX10) (T := TX10) (N := 40) hx hb htc iX10 hown hK hw45.1 0 rfl rfl 12 (by decide) (htc _ mw_959) (fun _ h9 => h9) rfl dX10_ask_47 ?_
            refine lv_iload hx hb dX10_ask_50 (lv_at hl45 6 rfl) ?_
            replace hB_38 := ckb_some hB_38
            obtain ⟨hin_46, hB_38⟩ := hB_38
            refine va_iald hx hb hK hw45.1 2 0 rfl rfl hin_46 dX10_ask_52 ?_
            refine lv_icmp_ge (tgt := 107) hx hb dX10_ask_53 (by decide) (fun c_47 => ?_) (fun c_47 => ?_)
            · replace hB_38 := it_t c_47 hB_38
              cases hB_38
              exact kx_36 _ _ _ hw45 (lv_sub hl45 [0, 1, 2, 3, 4, 5] rfl)
            · replace hB_38 := it_f c_47 hB_38
              refine lv_aload_n hx hb dX10_ask_56 rfl (lv_at hl45 0 rfl) ?_
              refine va_get (D := G) (ci := 10) (v := .ref aMits) (C := RX10) (T := TX10) (N := 40) hx hb htc iX10 hown hK hw45.1 0 rfl rfl 11 (by decide) (htc _ mw_958) (fun _ h9 => h9) rfl dX10_ask_57 ?_
              refine lv_iload hx hb dX10_ask_60 (lv_at hl45 6 rfl) ?_
              replace hB_38 := ckb_some hB_38
              obtain ⟨hin_48, hB_38⟩ := hB_38
              refine va_iald hx hb hK hw45.1 1 0 rfl rfl hin_48 dX10_ask_62 ?_
              refine lv_iload_n hx hb dX10_ask_63 rfl (lv_at hl45 1 rfl) ?_
              refine lv_icmp_ne (tgt := 107) hx hb dX10_ask_64 (by decide) (fun c_49 => ?_) (fun c_49 => ?_)
              · replace hB_38 := it_f c_49 hB_38
                cases hB_38
                exact kx_36 _ _ _ hw45 (lv_sub hl45 [0, 1, 2, 3, 4, 5] rfl)
              · replace hB_38 := it_t c_49 hB_38
                refine lv_aload_n hx hb dX10_ask_67 rfl (lv_at hl45 0 rfl) ?_
                refine lv_aload_n hx hb dX10_ask_68 rfl (lv_at hl45 0 rfl) ?_
                refine va_get (D := G) (ci := 10) (v := .ref aMtimes) (C := RX10) (T := TX10) (N := 40) hx hb htc iX10 hown hK hw45.1 0 rfl rfl 15 (by decide) (htc _ mw_962) (fun _ h9 => h9) rfl dX10_ask_69 ?_
                refine lv_bipush (v := (64 : Int32)) hx hb dX10_ask_72 (by decide) ?_
                refine lv_iload hx hb dX10_ask_74 (lv_at hl45 6 rfl) ?_
                refine lv_imul hx hb dX10_ask_76 ?_
                refine lv_iload hx hb dX10_ask_77 (lv_at hl45 7 rfl) ?_
                refine lv_iadd hx hb dX10_ask_79 ?_
                replace hB_38 := ckb_some hB_38
                obtain ⟨hin_50, hB_38⟩ := hB_38
                refine va_iald hx hb hK hw45.1 3 0 rfl rfl hin_50 dX10_ask_80 ?_
                refine lv_aload_n hx hb dX10_ask_81 rfl (lv_at hl45 0 rfl) ?_
                refine va_get (D := G) (ci := 10) (v := .ref aMvalues) (C := RX10) (T := TX10) (N := 40) hx hb htc iX10 hown hK hw45.1 0 rfl rfl 16 (by decide) (htc _ mw_963) (fun _ h9 => h9) rfl dX10_ask_82 ?_
                refine lv_bipush (v := (64 : Int32)) hx hb dX10_ask_85 (by decide) ?_
                refine lv_iload hx hb dX10_ask_87 (lv_at hl45 6 rfl) ?_
                refine lv_imul hx hb dX10_ask_89 ?_
                refine lv_iload hx hb dX10_ask_90 (lv_at hl45 7 rfl) ?_
                refine lv_iadd hx hb dX10_ask_92 ?_
                replace hB_38 := ckb_some hB_38
                obtain ⟨hin_51, hB_38⟩ := hB_38
                refine va_iald hx hb hK hw45.1 4 0 rfl rfl hin_51 dX10_ask_93 ?_
                refine lv_iload_n hx hb dX10_ask_94 rfl (lv_at hl45 2 rfl) ?_
                refine lv_iload_n hx hb dX10_ask_95 rfl (lv_at hl45 3 rfl) ?_
                refine lv_iload hx hb dX10_ask_96 (lv_at hl45 4 rfl) ?_
                replace hB_38 := ob6_some hB_38
                obtain ⟨M_askMany_53, M_askLeast_54, M_askGreatest_55, M_askSum_56, M_cursorTime_57, M_cursorValue_58, hE_52, hB_38⟩ := hB_38
                refine ctV (a := aM) (As := [.int (M_times (Int32.toNatClampNeg (((64 : Int32) * (M_order (Int32.toNatClampNeg v5_6))) + v7_28))), .int (M_values (Int32.toNatClampNeg (((64 : Int32) * (M_order (Int32.toNatClampNeg v5_6))) + v7_28))), .int p1, .int p2, .int p3]) (rest := []) (st1 := []) (wc := [oX10 aM M_thrown M_series M_most M_ratio aMdisk M_writes M_fuse M_down M_recovers M_looks M_unpacked aMits aMmany aMplace aMlength aMtimes aMvalues aMorder M_chunks M_epoch M_side aMheadOf aMheadTime aMheadValue M_logged aMnext aMisNew M_nexts aMcursorTime aMcursorValue M_hasCursor M_cursorMany M_cursorAt aMmade M_bits M_from M_askMany_29 M_askLeast_30 M_askGreatest_31 M_askSum_32, rI aMcursorTime cI 6300 M_cursorTime_33, rI aMcursorValue cI 6300 M_cursorValue_34]) (w1 := [oX10 aM M_thrown M_series M_most M_ratio aMdisk M_writes M_fuse M_down M_recovers M_looks M_unpacked aMits aMmany aMplace aMlength aMtimes aMvalues aMorder M_chunks M_epoch M_side aMheadOf aMheadTime aMheadValue M_logged aMnext aMisNew M_nexts aMcursorTime aMcursorValue M_hasCursor M_cursorMany M_cursorAt aMmade M_bits M_from M_askMany_53 M_askLeast_54 M_askGreatest_55 M_askSum_56, rI aMcursorTime cI 6300 M_cursorTime_57, rI aMcursorValue cI 6300 M_cursorValue_58]) (wr := [rI aMits cI 240 M_its, rI aMmany cI 240 M_many, rI aMtimes cI 15360 M_times, rI aMvalues cI 15360 M_values, rI aMorder cI 96 M_order, rI aMheadOf cI 128 M_headOf, rI aMheadTime cI 128 M_headTime, rI aMheadValue cI 128 M_headValue]) (wb := [oX10 aM M_thrown M_series M_most M_ratio aMdisk M_writes M_fuse M_down M_recovers M_looks M_unpacked aMits aMmany aMplace aMlength aMtimes aMvalues aMorder M_chunks M_epoch M_side aMheadOf aMheadTime aMheadValue M_logged aMnext aMisNew M_nexts aMcursorTime aMcursorValue M_hasCursor M_cursorMany M_cursorAt aMmade M_bits M_from M_askMany_53 M_askLeast_54 M_askGreatest_55 M_askSum_56, rI aMits cI 240 M_its, rI aMmany cI 240 M_many, rI aMtimes cI 15360 M_times, rI aMvalues cI 15360 M_values, rI aMorder cI 96 M_order, rI aMheadOf cI 128 M_headOf, rI aMheadTime cI 128 M_headTime, rI aMheadValue cI 128 M_headValue, rI aMcursorTime cI 6300 M_cursorTime_57, rI aMcursorValue cI 6300 M_cursorValue_58]) (v := none) hx hb hml hown htc hN (c_X10_meet l G cI cZ cJ aM aMdisk aMits aMmany aMplace aMlength aMtimes aMvalues aMorder aMheadOf aMheadTime aMheadValue aMnext aMisNew aMcursorTime aMcursorValue aMmade M_thrown M_series M_most M_ratio M_writes M_fuse M_down M_recovers M_looks M_unpacked M_chunks M_epoch M_side M_logged M_nexts M_hasCursor M_cursorMany M_cursorAt M_bits M_from M_askMany_29 M_askLeast_30 M_askGreatest_31 M_askSum_32 M_cursorTime_33 M_cursorValue_34 (M_times (Int32.toNatClampNeg (((64 : Int32) * (M_order (Int32.toNatClampNeg v5_6))) + v7_28))) (M_values (Int32.toNatClampNeg (((64 : Int32) * (M_order (Int32.toNatClampNeg v5_6))) + v7_28))) p1 p2 p3 hE_52) mw_1221 mw_1223 mp_63 mw_12 mw_1224 hd_X10_meet ⟨rfl, rfl⟩ ⟨Nat.le_of_ble_eq_true rfl, Nat.le_of_ble_eq_true rfl⟩ hK hw45 hA [0, 9, 10] [1, 2, 3, 4, 5, 6, 7, 8] [8, 0, 1, 2, 3, 4, 5, 6, 7, 9, 10] rfl rfl rfl rfl rfl (by decide) rfl rfl rfl 0 rfl rfl rfl rfl hl45.1 rfl rfl (Nat.le_of_ble_eq_true rfl) dX10_ask_98 ⟨Nat.zero_le _, Nat.zero_le _⟩ (fun H59 locs59 hw59 => ?_)
                clear hw45 H45 locs45
                refine lv_iinc (v := (v7_28 + (1 : Int32))) (lv' := [(7, .int (v7_28 + (1 : Int32))), (0, .ref aM), (1, .int p0), (2, .int p1), (3, .int p2), (4, .int p3), (5, .int v5_6), (6, .int (M_order (Int32.toNatClampNeg v5_6)))]) hx hb dX10_ask_101 hl45 (k := 7) rfl rfl (by decide) rfl (fun ls60 hl60 => ?_)
                clear hl45 ls45
                refine lv_goto (tgt := 44) hx hb dX10_ask_104 (by decide) ?_
                exact ih (v7_28 + (1 : Int32)) M_askMany_53 M_askLeast_54 M_askGreatest_55 M_askSum_56 M_cursorTime_57 M_cursorValue_58 hB_38 _ _ _ hw59 (lv_sub hl60 [1, 2, 3, 4, 5, 6, 7, 0] rfl)
        exact lp_37 NN (0 : Int32) M_askMany_7 M_askLeast_8 M_askGreatest_9 M_askSum_10 M_cursorTime_11 M_cursorValue_12 hL_35 _ _ _ hw23 (lv_sub hl27 [2, 3, 4, 5, 6, 7, 1, 0] rfl)
  exact lp_15 NN (0 : Int32) (0 : Int32) (0 : Int32) (0 : Int32) (0 : Int64) M_cursorTime M_cursorValue hL_13 _ _ _ hw4 (lv_sub hl5 [1, 2, 3, 4, 5, 0] rfl)
abbrev rm_X10_seek : Room := { frames := 4, cells := 0, slots := 0, locals := 105 }
theorem hd_X10_seek : yX10_seek.cls = RX10 ∧ yX10_seek.cls ≠ "java/lang/invoke/MethodHandle" ∧ yX10_seek.cls ≠ "java/lang/invoke/VarHandle" ∧ (parseMethodDescriptor yX10_seek.desc).map (fun d => d.parameters.length) = some 3 := by decide +kernel
set_option maxHeartbeats 4000000 in
set_option maxRecDepth 100000 in
theorem c_X10_seek (l : Launch) (G : va_G) (cI cZ cJ : ClassId) (aM aMdisk aMits aMmany aMplace aMlength aMtimes aMvalues aMorder aMheadOf aMheadTime aMheadValue aMnext aMisNew aMcursorTime aMcursorValue aMmade : Nat) (M_thrown : Int32) (M_series : Int32) (M_most : Int32) (M_ratio : Int32) (M_writes : Int32) (M_fuse : Int32) (M_down : Int32) (M_recovers : Int32) (M_looks : Int32) (M_unpacked : Int32) (M_chunks : Int32) (M_epoch : Int32) (M_side : Int32) (M_logged : Int32) (M_nexts : Int32) (M_hasCursor : Int32) (M_cursorMany : Int32) (M_cursorAt : Int32) (M_bits : Int32) (M_from : Int32) (M_askMany : Int32) (M_askLeast : Int32) (M_askGreatest : Int32) (M_askSum : Int64) (M_its : Nat → Int32) (M_many : Nat → Int32) (M_times : Nat → Int32) (M_values : Nat → Int32) (M_order : Nat → Int32) (M_headOf : Nat → Int32) (M_headTime : Nat → Int32) (M_headValue : Nat → Int32) (M_cursorTime : Nat → Int32) (M_cursorValue : Nat → Int32) (p0 : Int32) (p1 : Int32) (p2 : Int32) {r : Int32} {o_M_thrown : Int32} {o_M_looks : Int32} {o_M_unpacked : Int32} {o_M_hasCursor : Int32} {o_M_cursorMany : Int32} {o_M_cursorAt : Int32} {o_M_askMany : Int32} {o_M_askLeast : Int32} {o_M_askGreatest : Int32} {o_M_askSum : Int64} {o_M_cursorTime : Nat → Int32} {o_M_cursorValue : Nat → Int32} (hfin : m_X10_seek M_thrown M_series M_ratio M_down M_looks M_unpacked M_chunks M_logged M_hasCursor M_cursorMany M_cursorAt M_askMany M_askLeast M_askGreatest M_askSum M_its M_many M_times M_values M_order M_headOf M_headTime M_headValue M_cursorTime M_cursorValue p0 p1 p2 = some (r, o_M_thrown, o_M_looks, o_M_unpacked, o_M_hasCursor, o_M_cursorMany, o_M_cursorAt, o_M_askMany, o_M_askLeast, o_M_askGreatest, o_M_askSum, o_M_cursorTime, o_M_cursorValue)) : CT l yX10_seek cX10_seek 4 (some .int) rm_X10_seek G (tyC cI cZ cJ) [.ref aM, .int p0, .int p1, .int p2] [oX10 aM M_thrown M_series M_most M_ratio aMdisk M_writes M_fuse M_down M_recovers M_looks M_unpacked aMits aMmany aMplace aMlength aMtimes aMvalues aMorder M_chunks M_epoch M_side aMheadOf aMheadTime aMheadValue M_logged aMnext aMisNew M_nexts aMcursorTime aMcursorValue M_hasCursor M_cursorMany M_cursorAt aMmade M_bits M_from M_askMany M_askLeast M_askGreatest M_askSum, rI aMits cI 240 M_its, rI aMmany cI 240 M_many, rI aMtimes cI 15360 M_times, rI aMvalues cI 15360 M_values, rI aMorder cI 96 M_order, rI aMheadOf cI 128 M_headOf, rI aMheadTime cI 128 M_headTime, rI aMheadValue cI 128 M_headValue, rI aMcursorTime cI 6300 M_cursorTime, rI aMcursorValue cI 6300 M_cursorValue] (some (.int r)) [oX10 aM o_M_thrown M_series M_most M_ratio aMdisk M_writes M_fuse M_down M_recovers o_M_looks o_M_unpacked aMits aMmany aMplace aMlength aMtimes aMvalues aMorder M_chunks M_epoch M_side aMheadOf aMheadTime aMheadValue M_logged aMnext aMisNew M_nexts aMcursorTime aMcursorValue o_M_hasCursor o_M_cursorMany o_M_cursorAt aMmade M_bits M_from o_M_askMany o_M_askLeast o_M_askGreatest o_M_askSum, rI aMits cI 240 M_its, rI aMmany cI 240 M_many, rI aMtimes cI 15360 M_times, rI aMvalues cI 15360 M_values, rI aMorder cI 96 M_order, rI aMheadOf cI 128 M_headOf, rI aMheadTime cI 128 M_headTime, rI aMheadValue cI 128 M_headValue, rI aMcursorTime cI 6300 o_M_cursorTime, rI aMcursorValue cI 6300 o_M_cursorValue] := by
  refine CT.ofW (lvl := [(0, .ref aM), (1, .int p0), (2, .int p1), (3, .int p2)]) (by decide) (Nat.le_of_ble_eq_true rfl) rfl ?_
  intro p e s m args below meth c A ls0 QQ hQQ hx hb hml hr hlocks htc hN hown hK hA hw0 hl0
  rw [m_X10_seek] at hfin
  refine lv_aload_n hx hb dX10_seek_0 rfl (lv_at hl0 0 rfl) ?_
  refine lv_iconst (v := (0 : Int32)) hx hb dX10_seek_1 (by decide) ?_
  refine va_put (D := G) (ci := 10) (v := .int (0 : Int32)) (ty := .int) (C := RX10) (T := TX10) (N := 40) hx hb htc iX10 tyX10 tyX10_ok nmX10 hown hK hw0.1 hw0.2.1 hw0.2.2 0 rfl rfl 0 (by decide) (htc _ mw_947) (fun _ h9 => h9) rfl (tyX10_ok 0 (by decide)) rfl rfl (Nat.le_of_ble_eq_true rfl) dX10_seek_2 (fun H1 locs1 hP hD hS => ?_)
  have hw1 : wS G A s H1 locs1 [oX10 aM (0 : Int32) M_series M_most M_ratio aMdisk M_writes M_fuse M_down M_recovers M_looks M_unpacked aMits aMmany aMplace aMlength aMtimes aMvalues aMorder M_chunks M_epoch M_side aMheadOf aMheadTime aMheadValue M_logged aMnext aMisNew M_nexts aMcursorTime aMcursorValue M_hasCursor M_cursorMany M_cursorAt aMmade M_bits M_from M_askMany M_askLeast M_askGreatest M_askSum, rI aMits cI 240 M_its, rI aMmany cI 240 M_many, rI aMtimes cI 15360 M_times, rI aMvalues cI 15360 M_values, rI aMorder cI 96 M_order, rI aMheadOf cI 128 M_headOf, rI aMheadTime cI 128 M_headTime, rI aMheadValue cI 128 M_headValue, rI aMcursorTime cI 6300 M_cursorTime, rI aMcursorValue cI 6300 M_cursorValue] := ⟨hP, hD, hS⟩
  clear hP hD hS hw0
  refine lv_aload_n hx hb dX10_seek_5 rfl (lv_at hl0 0 rfl) ?_
  replace hfin := ob3_some hfin
  obtain ⟨M_hasCursor_3, M_cursorMany_4, M_cursorAt_5, hE_2, hfin⟩ := hfin
  refine ctV (a := aM) (As := []) (rest := []) (st1 := []) (wc := [oX10 aM (0 : Int32) M_series M_most M_ratio aMdisk M_writes M_fuse M_down M_recovers M_looks M_unpacked aMits aMmany aMplace aMlength aMtimes aMvalues aMorder M_chunks M_epoch M_side aMheadOf aMheadTime aMheadValue M_logged aMnext aMisNew M_nexts aMcursorTime aMcursorValue M_hasCursor M_cursorMany M_cursorAt aMmade M_bits M_from M_askMany M_askLeast M_askGreatest M_askSum]) (w1 := [oX10 aM (0 : Int32) M_series M_most M_ratio aMdisk M_writes M_fuse M_down M_recovers M_looks M_unpacked aMits aMmany aMplace aMlength aMtimes aMvalues aMorder M_chunks M_epoch M_side aMheadOf aMheadTime aMheadValue M_logged aMnext aMisNew M_nexts aMcursorTime aMcursorValue M_hasCursor_3 M_cursorMany_4 M_cursorAt_5 aMmade M_bits M_from M_askMany M_askLeast M_askGreatest M_askSum]) (wr := [rI aMits cI 240 M_its, rI aMmany cI 240 M_many, rI aMtimes cI 15360 M_times, rI aMvalues cI 15360 M_values, rI aMorder cI 96 M_order, rI aMheadOf cI 128 M_headOf, rI aMheadTime cI 128 M_headTime, rI aMheadValue cI 128 M_headValue, rI aMcursorTime cI 6300 M_cursorTime, rI aMcursorValue cI 6300 M_cursorValue]) (wb := [oX10 aM (0 : Int32) M_series M_most M_ratio aMdisk M_writes M_fuse M_down M_recovers M_looks M_unpacked aMits aMmany aMplace aMlength aMtimes aMvalues aMorder M_chunks M_epoch M_side aMheadOf aMheadTime aMheadValue M_logged aMnext aMisNew M_nexts aMcursorTime aMcursorValue M_hasCursor_3 M_cursorMany_4 M_cursorAt_5 aMmade M_bits M_from M_askMany M_askLeast M_askGreatest M_askSum, rI aMits cI 240 M_its, rI aMmany cI 240 M_many, rI aMtimes cI 15360 M_times, rI aMvalues cI 15360 M_values, rI aMorder cI 96 M_order, rI aMheadOf cI 128 M_headOf, rI aMheadTime cI 128 M_headTime, rI aMheadValue cI 128 M_headValue, rI aMcursorTime cI 6300 M_cursorTime, rI aMcursorValue cI 6300 M_cursorValue]) (v := none) hx hb hml hown htc hN (c_X10_dropCursor l G cI cZ cJ aM aMdisk aMits aMmany aMplace aMlength aMtimes aMvalues aMorder aMheadOf aMheadTime aMheadValue aMnext aMisNew aMcursorTime aMcursorValue aMmade (0 : Int32) M_series M_most M_ratio M_writes M_fuse M_down M_recovers M_looks M_unpacked M_chunks M_epoch M_side M_logged M_nexts M_hasCursor M_cursorMany M_cursorAt M_bits M_from M_askMany M_askLeast M_askGreatest M_askSum  hE_2) mw_1076 mw_1078 mp_34 mw_12 mw_1079 hd_X10_dropCursor ⟨rfl, rfl⟩ ⟨Nat.le_of_ble_eq_true rfl, Nat.le_of_ble_eq_true rfl⟩ hK hw1 hA [0] [1, 2, 3, 4, 5, 6, 7, 8, 9, 10] [10, 0, 1, 2, 3, 4, 5, 6, 7, 8, 9] rfl rfl rfl rfl rfl (by decide) rfl rfl rfl 0 rfl rfl rfl rfl hl0.1 rfl rfl (Nat.le_of_ble_eq_true rfl) dX10_seek_6 ⟨Nat.zero_le _, Nat.zero_le _⟩ (fun H6 locs6 hw6 => ?_)
  clear hw1 H1 locs1
  refine lv_aload_n hx hb dX10_seek_9 rfl (lv_at hl0 0 rfl) ?_
  refine va_get (D := G) (ci := 10) (v := .int M_down) (C := RX10) (T := TX10) (N := 40) hx hb htc iX10 hown hK hw6.1 0 rfl rfl 7 (by decide) (htc _ mw_954) (fun _ h9 => h9) rfl dX10_seek_10 ?_
  refine lv_if_eq (tgt := 19) hx hb dX10_seek_13 (by decide) (fun c_7 => ?_) (fun c_7 => ?_)
  · replace hfin := it_t c_7 hfin
    refine lv_aload_n hx hb dX10_seek_19 rfl (lv_at hl0 0 rfl) ?_
    refine lv_iload_n hx hb dX10_seek_20 rfl (lv_at hl0 1 rfl) ?_
    replace hfin := ob1_some hfin
    obtain ⟨r_9, hE_8, hfin⟩ := hfin
    refine ctV (a := aM) (As := [.int p0]) (rest := []) (st1 := [.int r_9]) (wc := [oX10 aM (0 : Int32) M_series M_most M_ratio aMdisk M_writes M_fuse M_down M_recovers M_looks M_unpacked aMits aMmany aMplace aMlength aMtimes aMvalues aMorder M_chunks M_epoch M_side aMheadOf aMheadTime aMheadValue M_logged aMnext aMisNew M_nexts aMcursorTime aMcursorValue M_hasCursor_3 M_cursorMany_4 M_cursorAt_5 aMmade M_bits M_from M_askMany M_askLeast M_askGreatest M_askSum]) (w1 := [oX10 aM (0 : Int32) M_series M_most M_ratio aMdisk M_writes M_fuse M_down M_recovers M_looks M_unpacked aMits aMmany aMplace aMlength aMtimes aMvalues aMorder M_chunks M_epoch M_side aMheadOf aMheadTime aMheadValue M_logged aMnext aMisNew M_nexts aMcursorTime aMcursorValue M_hasCursor_3 M_cursorMany_4 M_cursorAt_5 aMmade M_bits M_from M_askMany M_askLeast M_askGreatest M_askSum]) (wr := [rI aMits cI 240 M_its, rI aMmany cI 240 M_many, rI aMtimes cI 15360 M_times, rI aMvalues cI 15360 M_values, rI aMorder cI 96 M_order, rI aMheadOf cI 128 M_headOf, rI aMheadTime cI 128 M_headTime, rI aMheadValue cI 128 M_headValue, rI aMcursorTime cI 6300 M_cursorTime, rI aMcursorValue cI 6300 M_cursorValue]) (wb := [oX10 aM (0 : Int32) M_series M_most M_ratio aMdisk M_writes M_fuse M_down M_recovers M_looks M_unpacked aMits aMmany aMplace aMlength aMtimes aMvalues aMorder M_chunks M_epoch M_side aMheadOf aMheadTime aMheadValue M_logged aMnext aMisNew M_nexts aMcursorTime aMcursorValue M_hasCursor_3 M_cursorMany_4 M_cursorAt_5 aMmade M_bits M_from M_askMany M_askLeast M_askGreatest M_askSum, rI aMits cI 240 M_its, rI aMmany cI 240 M_many, rI aMtimes cI 15360 M_times, rI aMvalues cI 15360 M_values, rI aMorder cI 96 M_order, rI aMheadOf cI 128 M_headOf, rI aMheadTime cI 128 M_headTime, rI aMheadValue cI 128 M_headValue, rI aMcursorTime cI 6300 M_cursorTime, rI aMcursorValue cI 6300 M_cursorValue]) (v := (some (.int r_9))) hx hb hml hown htc hN (c_X10_isSeries l G cI cZ cJ aM aMdisk aMits aMmany aMplace aMlength aMtimes aMvalues aMorder aMheadOf aMheadTime aMheadValue aMnext aMisNew aMcursorTime aMcursorValue aMmade (0 : Int32) M_series M_most M_ratio M_writes M_fuse M_down M_recovers M_looks M_unpacked M_chunks M_epoch M_side M_logged M_nexts M_hasCursor_3 M_cursorMany_4 M_cursorAt_5 M_bits M_from M_askMany M_askLeast M_askGreatest M_askSum p0 hE_8) mw_1080 mw_1082 mp_35 mw_12 mw_1083 hd_X10_isSeries ⟨rfl, rfl⟩ ⟨Nat.le_of_ble_eq_true rfl, Nat.le_of_ble_eq_true rfl⟩ hK hw6 hA [0] [1, 2, 3, 4, 5, 6, 7, 8, 9, 10] [10, 0, 1, 2, 3, 4, 5, 6, 7, 8, 9] rfl rfl rfl rfl rfl (by decide) rfl rfl rfl 0 rfl rfl rfl rfl hl0.1 rfl rfl (Nat.le_of_ble_eq_true rfl) dX10_seek_21 ⟨Nat.zero_le _, Nat.zero_le _⟩ (fun H10 locs10 hw10 => ?_)
    clear hw6 H6 locs6
    refine lv_if_ne (tgt := 30) hx hb dX10_seek_24 (by decide) (fun c_11 => ?_) (fun c_11 => ?_)
    · replace hfin := it_f c_11 hfin
      refine lv_aload_n hx hb dX10_seek_30 rfl (lv_at hl0 0 rfl) ?_
      refine lv_iload_n hx hb dX10_seek_31 rfl (lv_at hl0 1 rfl) ?_
      refine lv_iload_n hx hb dX10_seek_32 rfl (lv_at hl0 2 rfl) ?_
      refine lv_iload_n hx hb dX10_seek_33 rfl (lv_at hl0 3 rfl) ?_
      refine lv_iconst (v := (1 : Int32)) hx hb dX10_seek_34 (by decide) ?_
      replace hfin := ob8_some hfin
      obtain ⟨M_looks_13, M_unpacked_14, M_askMany_15, M_askLeast_16, M_askGreatest_17, M_askSum_18, M_cursorTime_19, M_cursorValue_20, hE_12, hfin⟩ := hfin
      refine ctV (a := aM) (As := [.int p0, .int p1, .int p2, .int (1 : Int32)]) (rest := []) (st1 := []) (wc := [oX10 aM (0 : Int32) M_series M_most M_ratio aMdisk M_writes M_fuse M_down M_recovers M_looks M_unpacked aMits aMmany aMplace aMlength aMtimes aMvalues aMorder M_chunks M_epoch M_side aMheadOf aMheadTime aMheadValue M_logged aMnext aMisNew M_nexts aMcursorTime aMcursorValue M_hasCursor_3 M_cursorMany_4 M_cursorAt_5 aMmade M_bits M_from M_askMany M_askLeast M_askGreatest M_askSum, rI aMits cI 240 M_its, rI aMmany cI 240 M_many, rI aMtimes cI 15360 M_times, rI aMvalues cI 15360 M_values, rI aMorder cI 96 M_order, rI aMheadOf cI 128 M_headOf, rI aMheadTime cI 128 M_headTime, rI aMheadValue cI 128 M_headValue, rI aMcursorTime cI 6300 M_cursorTime, rI aMcursorValue cI 6300 M_cursorValue]) (w1 := [oX10 aM (0 : Int32) M_series M_most M_ratio aMdisk M_writes M_fuse M_down M_recovers M_looks_13 M_unpacked_14 aMits aMmany aMplace aMlength aMtimes aMvalues aMorder M_chunks M_epoch M_side aMheadOf aMheadTime aMheadValue M_logged aMnext aMisNew M_nexts aMcursorTime aMcursorValue M_hasCursor_3 M_cursorMany_4 M_cursorAt_5 aMmade M_bits M_from M_askMany_15 M_askLeast_16 M_askGreatest_17 M_askSum_18, rI aMits cI 240 M_its, rI aMmany cI 240 M_many, rI aMtimes cI 15360 M_times, rI aMvalues cI 15360 M_values, rI aMorder cI 96 M_order, rI aMheadOf cI 128 M_headOf, rI aMheadTime cI 128 M_headTime, rI aMheadValue cI 128 M_headValue, rI aMcursorTime cI 6300 M_cursorTime_19, rI aMcursorValue cI 6300 M_cursorValue_20]) (wr := []) (wb := [oX10 aM (0 : Int32) M_series M_most M_ratio aMdisk M_writes M_fuse M_down M_recovers M_looks_13 M_unpacked_14 aMits aMmany aMplace aMlength aMtimes aMvalues aMorder M_chunks M_epoch M_side aMheadOf aMheadTime aMheadValue M_logged aMnext aMisNew M_nexts aMcursorTime aMcursorValue M_hasCursor_3 M_cursorMany_4 M_cursorAt_5 aMmade M_bits M_from M_askMany_15 M_askLeast_16 M_askGreatest_17 M_askSum_18, rI aMits cI 240 M_its, rI aMmany cI 240 M_many, rI aMtimes cI 15360 M_times, rI aMvalues cI 15360 M_values, rI aMorder cI 96 M_order, rI aMheadOf cI 128 M_headOf, rI aMheadTime cI 128 M_headTime, rI aMheadValue cI 128 M_headValue, rI aMcursorTime cI 6300 M_cursorTime_19, rI aMcursorValue cI 6300 M_cursorValue_20]) (v := none) hx hb hml hown htc hN (c_X10_ask l G cI cZ cJ aM aMdisk aMits aMmany aMplace aMlength aMtimes aMvalues aMorder aMheadOf aMheadTime aMheadValue aMnext aMisNew aMcursorTime aMcursorValue aMmade (0 : Int32) M_series M_most M_ratio M_writes M_fuse M_down M_recovers M_looks M_unpacked M_chunks M_epoch M_side M_logged M_nexts M_hasCursor_3 M_cursorMany_4 M_cursorAt_5 M_bits M_from M_askMany M_askLeast M_askGreatest M_askSum M_its M_many M_times M_values M_order M_headOf M_headTime M_headValue M_cursorTime M_cursorValue p0 p1 p2 (1 : Int32) hE_12) mw_1217 mw_1219 mp_62 mw_12 mw_1220 hd_X10_ask ⟨rfl, rfl⟩ ⟨Nat.le_of_ble_eq_true rfl, Nat.le_of_ble_eq_true rfl⟩ hK hw10 hA [0, 1, 2, 3, 4, 5, 6, 7, 8, 9, 10] [] [0, 1, 2, 3, 4, 5, 6, 7, 8, 9, 10] rfl rfl rfl rfl rfl (by decide) rfl rfl rfl 0 rfl rfl rfl rfl hl0.1 rfl rfl (Nat.le_of_ble_eq_true rfl) dX10_seek_35 ⟨Nat.zero_le _, Nat.zero_le _⟩ (fun H21 locs21 hw21 => ?_)
      clear hw10 H10 locs10
      refine lv_aload_n hx hb dX10_seek_38 rfl (lv_at hl0 0 rfl) ?_
      refine lv_iconst (v := (1 : Int32)) hx hb dX10_seek_39 (by decide) ?_
      refine va_put (D := G) (ci := 10) (v := .int (1 : Int32)) (ty := .boolean) (C := RX10) (T := TX10) (N := 40) hx hb htc iX10 tyX10 tyX10_ok nmX10 hown hK hw21.1 hw21.2.1 hw21.2.2 0 rfl rfl 30 (by decide) (htc _ mw_977) (fun _ h9 => h9) rfl (tyX10_ok 30 (by decide)) rfl rfl (Nat.le_of_ble_eq_true rfl) dX10_seek_40 (fun H22 locs22 hP hD hS => ?_)
      have hw22 : wS G A s H22 locs22 [oX10 aM (0 : Int32) M_series M_most M_ratio aMdisk M_writes M_fuse M_down M_recovers M_looks_13 M_unpacked_14 aMits aMmany aMplace aMlength aMtimes aMvalues aMorder M_chunks M_epoch M_side aMheadOf aMheadTime aMheadValue M_logged aMnext aMisNew M_nexts aMcursorTime aMcursorValue (1 : Int32) M_cursorMany_4 M_cursorAt_5 aMmade M_bits M_from M_askMany_15 M_askLeast_16 M_askGreatest_17 M_askSum_18, rI aMits cI 240 M_its, rI aMmany cI 240 M_many, rI aMtimes cI 15360 M_times, rI aMvalues cI 15360 M_values, rI aMorder cI 96 M_order, rI aMheadOf cI 128 M_headOf, rI aMheadTime cI 128 M_headTime, rI aMheadValue cI 128 M_headValue, rI aMcursorTime cI 6300 M_cursorTime_19, rI aMcursorValue cI 6300 M_cursorValue_20] := ⟨hP, hD, hS⟩
      clear hP hD hS hw21 H21 locs21
      refine lv_aload_n hx hb dX10_seek_43 rfl (lv_at hl0 0 rfl) ?_
      refine lv_aload_n hx hb dX10_seek_44 rfl (lv_at hl0 0 rfl) ?_
      refine va_get (D := G) (ci := 10) (v := .int M_askMany_15) (C := RX10) (T := TX10) (N := 40) hx hb htc iX10 hown hK hw22.1 0 rfl rfl 36 (by decide) (htc _ mw_983) (fun _ h9 => h9) rfl dX10_seek_45 ?_
      refine va_put (D := G) (ci := 10) (v := .int M_askMany_15) (ty := .int) (C := RX10) (T := TX10) (N := 40) hx hb htc iX10 tyX10 tyX10_ok nmX10 hown hK hw22.1 hw22.2.1 hw22.2.2 0 rfl rfl 31 (by decide) (htc _ mw_978) (fun _ h9 => h9) rfl (tyX10_ok 31 (by decide)) rfl rfl (Nat.le_of_ble_eq_true rfl) dX10_seek_48 (fun H23 locs23 hP hD hS => ?_)
      have hw23 : wS G A s H23 locs23 [oX10 aM (0 : Int32) M_series M_most M_ratio aMdisk M_writes M_fuse M_down M_recovers M_looks_13 M_unpacked_14 aMits aMmany aMplace aMlength aMtimes aMvalues aMorder M_chunks M_epoch M_side aMheadOf aMheadTime aMheadValue M_logged aMnext aMisNew M_nexts aMcursorTime aMcursorValue (1 : Int32) M_askMany_15 M_cursorAt_5 aMmade M_bits M_from M_askMany_15 M_askLeast_16 M_askGreatest_17 M_askSum_18, rI aMits cI 240 M_its, rI aMmany cI 240 M_many, rI aMtimes cI 15360 M_times, rI aMvalues cI 15360 M_values, rI aMorder cI 96 M_order, rI aMheadOf cI 128 M_headOf, rI aMheadTime cI 128 M_headTime, rI aMheadValue cI 128 M_headValue, rI aMcursorTime cI 6300 M_cursorTime_19, rI aMcursorValue cI 6300 M_cursorValue_20] := ⟨hP, hD, hS⟩
      clear hP hD hS hw22 H22 locs22
      refine lv_aload_n hx hb dX10_seek_51 rfl (lv_at hl0 0 rfl) ?_
      refine va_get (D := G) (ci := 10) (v := .int M_askMany_15) (C := RX10) (T := TX10) (N := 40) hx hb htc iX10 hown hK hw23.1 0 rfl rfl 36 (by decide) (htc _ mw_983) (fun _ h9 => h9) rfl dX10_seek_52 ?_
      cases hfin
      rw [hQQ]
      exact ct_iret hx hb hr hlocks hw23.1 hw23.2.1 hw23.2.2 dX10_seek_55
    · replace hfin := it_t c_11 hfin
      refine lv_bipush (v := (-2 : Int32)) hx hb dX10_seek_27 (by decide) ?_
      cases hfin
      rw [hQQ]
      exact ct_iret hx hb hr hlocks hw10.1 hw10.2.1 hw10.2.2 dX10_seek_29
  · replace hfin := it_f c_7 hfin
    refine lv_bipush (v := (-9 : Int32)) hx hb dX10_seek_16 (by decide) ?_
    cases hfin
    rw [hQQ]
    exact ct_iret hx hb hr hlocks hw6.1 hw6.2.1 hw6.2.2 dX10_seek_18
abbrev rm_X10_next : Room := { frames := 0, cells := 0, slots := 0, locals := 0 }
theorem hd_X10_next : yX10_next.cls = RX10 ∧ yX10_next.cls ≠ "java/lang/invoke/MethodHandle" ∧ yX10_next.cls ≠ "java/lang/invoke/VarHandle" ∧ (parseMethodDescriptor yX10_next.desc).map (fun d => d.parameters.length) = some 0 := by decide +kernel
set_option maxHeartbeats 4000000 in
set_option maxRecDepth 100000 in
theorem c_X10_next (l : Launch) (G : va_G) (cI cZ cJ : ClassId) (aM aMdisk aMits aMmany aMplace aMlength aMtimes aMvalues aMorder aMheadOf aMheadTime aMheadValue aMnext aMisNew aMcursorTime aMcursorValue aMmade : Nat) (M_thrown : Int32) (M_series : Int32) (M_most : Int32) (M_ratio : Int32) (M_writes : Int32) (M_fuse : Int32) (M_down : Int32) (M_recovers : Int32) (M_looks : Int32) (M_unpacked : Int32) (M_chunks : Int32) (M_epoch : Int32) (M_side : Int32) (M_logged : Int32) (M_nexts : Int32) (M_hasCursor : Int32) (M_cursorMany : Int32) (M_cursorAt : Int32) (M_bits : Int32) (M_from : Int32) (M_askMany : Int32) (M_askLeast : Int32) (M_askGreatest : Int32) (M_askSum : Int64)  {r : Int32} {o_M_thrown : Int32} {o_M_cursorAt : Int32} (hfin : m_X10_next M_thrown M_hasCursor M_cursorMany M_cursorAt = some (r, o_M_thrown, o_M_cursorAt)) : CT l yX10_next cX10_next 1 (some .boolean) rm_X10_next G (tyC cI cZ cJ) [.ref aM] [oX10 aM M_thrown M_series M_most M_ratio aMdisk M_writes M_fuse M_down M_recovers M_looks M_unpacked aMits aMmany aMplace aMlength aMtimes aMvalues aMorder M_chunks M_epoch M_side aMheadOf aMheadTime aMheadValue M_logged aMnext aMisNew M_nexts aMcursorTime aMcursorValue M_hasCursor M_cursorMany M_cursorAt aMmade M_bits M_from M_askMany M_askLeast M_askGreatest M_askSum] (some (.int r)) [oX10 aM o_M_thrown M_series M_most M_ratio aMdisk M_writes M_fuse M_down M_recovers M_looks M_unpacked aMits aMmany aMplace aMlength aMtimes aMvalues aMorder M_chunks M_epoch M_side aMheadOf aMheadTime aMheadValue M_logged aMnext aMisNew M_nexts aMcursorTime aMcursorValue M_hasCursor M_cursorMany o_M_cursorAt aMmade M_bits M_from M_askMany M_askLeast M_askGreatest M_askSum] := by
  refine CT.ofW (lvl := [(0, .ref aM)]) (by decide) (Nat.le_of_ble_eq_true rfl) rfl ?_
  intro p e s m args below meth c A ls0 QQ hQQ hx hb hml hr hlocks htc hN hown hK hA hw0 hl0
  rw [m_X10_next] at hfin
  refine lv_aload_n hx hb dX10_next_0 rfl (lv_at hl0 0 rfl) ?_
  refine lv_iconst (v := (0 : Int32)) hx hb dX10_next_1 (by decide) ?_
  refine va_put (D := G) (ci := 10) (v := .int (0 : Int32)) (ty := .int) (C := RX10) (T := TX10) (N := 40) hx hb htc iX10 tyX10 tyX10_ok nmX10 hown hK hw0.1 hw0.2.1 hw0.2.2 0 rfl rfl 0 (by decide) (htc _ mw_947) (fun _ h9 => h9) rfl (tyX10_ok 0 (by decide)) rfl rfl (Nat.le_of_ble_eq_true rfl) dX10_next_2 (fun H1 locs1 hP hD hS => ?_)
  have hw1 : wS G A s H1 locs1 [oX10 aM (0 : Int32) M_series M_most M_ratio aMdisk M_writes M_fuse M_down M_recovers M_looks M_unpacked aMits aMmany aMplace aMlength aMtimes aMvalues aMorder M_chunks M_epoch M_side aMheadOf aMheadTime aMheadValue M_logged aMnext aMisNew M_nexts aMcursorTime aMcursorValue M_hasCursor M_cursorMany M_cursorAt aMmade M_bits M_from M_askMany M_askLeast M_askGreatest M_askSum] := ⟨hP, hD, hS⟩
  clear hP hD hS hw0
  refine lv_aload_n hx hb dX10_next_5 rfl (lv_at hl0 0 rfl) ?_
  refine va_get (D := G) (ci := 10) (v := .int M_cursorAt) (C := RX10) (T := TX10) (N := 40) hx hb htc iX10 hown hK hw1.1 0 rfl rfl 32 (by decide) (htc _ mw_979) (fun _ h9 => h9) rfl dX10_next_6 ?_
  refine lv_aload_n hx hb dX10_next_9 rfl (lv_at hl0 0 rfl) ?_
  refine va_get (D := G) (ci := 10) (v := .int M_cursorMany) (C := RX10) (T := TX10) (N := 40) hx hb htc iX10 hown hK hw1.1 0 rfl rfl 31 (by decide) (htc _ mw_978) (fun _ h9 => h9) rfl dX10_next_10 ?_
  replace hfin := ob1_some hfin
  obtain ⟨M_cursorAt_2, hJ_3, hfin⟩ := hfin
  have kj_4 : ∀ (H : Heap) (locs : List Loc) (ls : Array Slot), wS G A s H locs [oX10 aM (0 : Int32) M_series M_most M_ratio aMdisk M_writes M_fuse M_down M_recovers M_looks M_unpacked aMits aMmany aMplace aMlength aMtimes aMvalues aMorder M_chunks M_epoch M_side aMheadOf aMheadTime aMheadValue M_logged aMnext aMisNew M_nexts aMcursorTime aMcursorValue M_hasCursor M_cursorMany M_cursorAt_2 aMmade M_bits M_from M_askMany M_askLeast M_askGreatest M_askSum] → lv_has ls 1 [(0, .ref aM)] → W p l e rm_X10_next s m args below meth c H locs 0 0 QQ (F0 m 26 ls []) := by
    clear hw1 H1 locs1 hl0 ls0 hJ_3
    intro H7 locs7 ls7 hw7 hl7
    refine lv_aload_n hx hb dX10_next_26 rfl (lv_at hl7 0 rfl) ?_
    refine va_get (D := G) (ci := 10) (v := .int M_hasCursor) (C := RX10) (T := TX10) (N := 40) hx hb htc iX10 hown hK hw7.1 0 rfl rfl 30 (by decide) (htc _ mw_977) (fun _ h9 => h9) rfl dX10_next_27 ?_
    replace hfin := ob1_some hfin
    obtain ⟨s_8, hJ_9, hfin⟩ := hfin
    have kj_10 : ∀ (H : Heap) (locs : List Loc) (ls : Array Slot), wS G A s H locs [oX10 aM (0 : Int32) M_series M_most M_ratio aMdisk M_writes M_fuse M_down M_recovers M_looks M_unpacked aMits aMmany aMplace aMlength aMtimes aMvalues aMorder M_chunks M_epoch M_side aMheadOf aMheadTime aMheadValue M_logged aMnext aMisNew M_nexts aMcursorTime aMcursorValue M_hasCursor M_cursorMany M_cursorAt_2 aMmade M_bits M_from M_askMany M_askLeast M_askGreatest M_askSum] → lv_has ls 1 [] → W p l e rm_X10_next s m args below meth c H locs 0 0 QQ (F0 m 49 ls [.int s_8]) := by
      clear hw7 H7 locs7 hl7 ls7 hJ_9
      intro H13 locs13 ls13 hw13 hl13
      replace hfin := ckz_some hfin
      obtain ⟨hz_14, hfin⟩ := hfin
      cases hfin
      rw [hQQ]
      exact ct_zret hx hb hr hlocks hz_14 hw13.1 hw13.2.1 hw13.2.2 dX10_next_49
    clear hfin
    refine lv_if_eq (tgt := 48) hx hb dX10_next_30 (by decide) (fun c_11 => ?_) (fun c_11 => ?_)
    · replace hJ_9 := it_t c_11 hJ_9
      refine lv_iconst (v := (0 : Int32)) hx hb dX10_next_48 (by decide) ?_
      cases hJ_9
      exact kj_10 _ _ _ hw7 (lv_sub hl7 [] rfl)
    · replace hJ_9 := it_f c_11 hJ_9
      refine lv_aload_n hx hb dX10_next_33 rfl (lv_at hl7 0 rfl) ?_
      refine va_get (D := G) (ci := 10) (v := .int M_cursorAt_2) (C := RX10) (T := TX10) (N := 40) hx hb htc iX10 hown hK hw7.1 0 rfl rfl 32 (by decide) (htc _ mw_979) (fun _ h9 => h9) rfl dX10_next_34 ?_
      refine lv_aload_n hx hb dX10_next_37 rfl (lv_at hl7 0 rfl) ?_
      refine va_get (D := G) (ci := 10) (v := .int M_cursorMany) (C := RX10) (T := TX10) (N := 40) hx hb htc iX10 hown hK hw7.1 0 rfl rfl 31 (by decide) (htc _ mw_978) (fun _ h9 => h9) rfl dX10_next_38 ?_
      refine lv_icmp_ge (tgt := 48) hx hb dX10_next_41 (by decide) (fun c_12 => ?_) (fun c_12 => ?_)
      · replace hJ_9 := it_t c_12 hJ_9
        refine lv_iconst (v := (0 : Int32)) hx hb dX10_next_48 (by decide) ?_
        cases hJ_9
        exact kj_10 _ _ _ hw7 (lv_sub hl7 [] rfl)
      · replace hJ_9 := it_f c_12 hJ_9
        refine lv_iconst (v := (1 : Int32)) hx hb dX10_next_44 (by decide) ?_
        refine lv_goto (tgt := 49) hx hb dX10_next_45 (by decide) ?_
        cases hJ_9
        exact kj_10 _ _ _ hw7 (lv_sub hl7 [] rfl)
  clear hfin
  refine lv_icmp_ge (tgt := 26) hx hb dX10_next_13 (by decide) (fun c_5 => ?_) (fun c_5 => ?_)
  · replace hJ_3 := it_t c_5 hJ_3
    cases hJ_3
    exact kj_4 _ _ _ hw1 (lv_sub hl0 [0] rfl)
  · replace hJ_3 := it_f c_5 hJ_3
    refine lv_aload_n hx hb dX10_next_16 rfl (lv_at hl0 0 rfl) ?_
    refine lv_dup hx hb dX10_next_17 rfl ?_
    refine va_get (D := G) (ci := 10) (v := .int M_cursorAt) (C := RX10) (T := TX10) (N := 40) hx hb htc iX10 hown hK hw1.1 0 rfl rfl 32 (by decide) (htc _ mw_979) (fun _ h9 => h9) rfl dX10_next_18 ?_
    refine lv_iconst (v := (1 : Int32)) hx hb dX10_next_21 (by decide) ?_
    refine lv_iadd hx hb dX10_next_22 ?_
    refine va_put (D := G) (ci := 10) (v := .int (M_cursorAt + (1 : Int32))) (ty := .int) (C := RX10) (T := TX10) (N := 40) hx hb htc iX10 tyX10 tyX10_ok nmX10 hown hK hw1.1 hw1.2.1 hw1.2.2 0 rfl rfl 32 (by decide) (htc _ mw_979) (fun _ h9 => h9) rfl (tyX10_ok 32 (by decide)) rfl rfl (Nat.le_of_ble_eq_true rfl) dX10_next_23 (fun H6 locs6 hP hD hS => ?_)
    have hw6 : wS G A s H6 locs6 [oX10 aM (0 : Int32) M_series M_most M_ratio aMdisk M_writes M_fuse M_down M_recovers M_looks M_unpacked aMits aMmany aMplace aMlength aMtimes aMvalues aMorder M_chunks M_epoch M_side aMheadOf aMheadTime aMheadValue M_logged aMnext aMisNew M_nexts aMcursorTime aMcursorValue M_hasCursor M_cursorMany (M_cursorAt + (1 : Int32)) aMmade M_bits M_from M_askMany M_askLeast M_askGreatest M_askSum] := ⟨hP, hD, hS⟩
    clear hP hD hS hw1 H1 locs1
    cases hJ_3
    exact kj_4 _ _ _ hw6 (lv_sub hl0 [0] rfl)
abbrev rm_X10_isAt : Room := { frames := 0, cells := 0, slots := 0, locals := 0 }
theorem hd_X10_isAt : yX10_isAt.cls = RX10 ∧ yX10_isAt.cls ≠ "java/lang/invoke/MethodHandle" ∧ yX10_isAt.cls ≠ "java/lang/invoke/VarHandle" ∧ (parseMethodDescriptor yX10_isAt.desc).map (fun d => d.parameters.length) = some 0 := by decide +kernel
set_option maxHeartbeats 4000000 in
set_option maxRecDepth 100000 in
theorem c_X10_isAt (l : Launch) (G : va_G) (cI cZ cJ : ClassId) (aM aMdisk aMits aMmany aMplace aMlength aMtimes aMvalues aMorder aMheadOf aMheadTime aMheadValue aMnext aMisNew aMcursorTime aMcursorValue aMmade : Nat) (M_thrown : Int32) (M_series : Int32) (M_most : Int32) (M_ratio : Int32) (M_writes : Int32) (M_fuse : Int32) (M_down : Int32) (M_recovers : Int32) (M_looks : Int32) (M_unpacked : Int32) (M_chunks : Int32) (M_epoch : Int32) (M_side : Int32) (M_logged : Int32) (M_nexts : Int32) (M_hasCursor : Int32) (M_cursorMany : Int32) (M_cursorAt : Int32) (M_bits : Int32) (M_from : Int32) (M_askMany : Int32) (M_askLeast : Int32) (M_askGreatest : Int32) (M_askSum : Int64)  {r : Int32} (hfin : m_X10_isAt M_hasCursor M_cursorMany M_cursorAt = some (r)) : CT l yX10_isAt cX10_isAt 1 (some .boolean) rm_X10_isAt G (tyC cI cZ cJ) [.ref aM] [oX10 aM M_thrown M_series M_most M_ratio aMdisk M_writes M_fuse M_down M_recovers M_looks M_unpacked aMits aMmany aMplace aMlength aMtimes aMvalues aMorder M_chunks M_epoch M_side aMheadOf aMheadTime aMheadValue M_logged aMnext aMisNew M_nexts aMcursorTime aMcursorValue M_hasCursor M_cursorMany M_cursorAt aMmade M_bits M_from M_askMany M_askLeast M_askGreatest M_askSum] (some (.int r)) [oX10 aM M_thrown M_series M_most M_ratio aMdisk M_writes M_fuse M_down M_recovers M_looks M_unpacked aMits aMmany aMplace aMlength aMtimes aMvalues aMorder M_chunks M_epoch M_side aMheadOf aMheadTime aMheadValue M_logged aMnext aMisNew M_nexts aMcursorTime aMcursorValue M_hasCursor M_cursorMany M_cursorAt aMmade M_bits M_from M_askMany M_askLeast M_askGreatest M_askSum] := by
  refine CT.ofW (lvl := [(0, .ref aM)]) (by decide) (Nat.le_of_ble_eq_true rfl) rfl ?_
  intro p e s m args below meth c A ls0 QQ hQQ hx hb hml hr hlocks htc hN hown hK hA hw0 hl0
  rw [m_X10_isAt] at hfin
  refine lv_aload_n hx hb dX10_isAt_0 rfl (lv_at hl0 0 rfl) ?_
  refine va_get (D := G) (ci := 10) (v := .int M_hasCursor) (C := RX10) (T := TX10) (N := 40) hx hb htc iX10 hown hK hw0.1 0 rfl rfl 30 (by decide) (htc _ mw_977) (fun _ h9 => h9) rfl dX10_isAt_1 ?_
  replace hfin := ob1_some hfin
  obtain ⟨s_1, hJ_2, hfin⟩ := hfin
  have kj_3 : ∀ (H : Heap) (locs : List Loc) (ls : Array Slot), wS G A s H locs [oX10 aM M_thrown M_series M_most M_ratio aMdisk M_writes M_fuse M_down M_recovers M_looks M_unpacked aMits aMmany aMplace aMlength aMtimes aMvalues aMorder M_chunks M_epoch M_side aMheadOf aMheadTime aMheadValue M_logged aMnext aMisNew M_nexts aMcursorTime aMcursorValue M_hasCursor M_cursorMany M_cursorAt aMmade M_bits M_from M_askMany M_askLeast M_askGreatest M_askSum] → lv_has ls 1 [] → W p l e rm_X10_isAt s m args below meth c H locs 0 0 QQ (F0 m 30 ls [.int s_1]) := by
    clear hw0 hl0 ls0 hJ_2
    intro H7 locs7 ls7 hw7 hl7
    replace hfin := ckz_some hfin
    obtain ⟨hz_8, hfin⟩ := hfin
    cases hfin
    rw [hQQ]
    exact ct_zret hx hb hr hlocks hz_8 hw7.1 hw7.2.1 hw7.2.2 dX10_isAt_30
  clear hfin
  refine lv_if_eq (tgt := 29) hx hb dX10_isAt_4 (by decide) (fun c_4 => ?_) (fun c_4 => ?_)
  · replace hJ_2 := it_t c_4 hJ_2
    refine lv_iconst (v := (0 : Int32)) hx hb dX10_isAt_29 (by decide) ?_
    cases hJ_2
    exact kj_3 _ _ _ hw0 (lv_sub hl0 [] rfl)
  · replace hJ_2 := it_f c_4 hJ_2
    refine lv_aload_n hx hb dX10_isAt_7 rfl (lv_at hl0 0 rfl) ?_
    refine va_get (D := G) (ci := 10) (v := .int M_cursorAt) (C := RX10) (T := TX10) (N := 40) hx hb htc iX10 hown hK hw0.1 0 rfl rfl 32 (by decide) (htc _ mw_979) (fun _ h9 => h9) rfl dX10_isAt_8 ?_
    refine lv_if_lt (tgt := 29) hx hb dX10_isAt_11 (by decide) (fun c_5 => ?_) (fun c_5 => ?_)
    · replace hJ_2 := it_t c_5 hJ_2
      refine lv_iconst (v := (0 : Int32)) hx hb dX10_isAt_29 (by decide) ?_
      cases hJ_2
      exact kj_3 _ _ _ hw0 (lv_sub hl0 [] rfl)
    · replace hJ_2 := it_f c_5 hJ_2
      refine lv_aload_n hx hb dX10_isAt_14 rfl (lv_at hl0 0 rfl) ?_
      refine va_get (D := G) (ci := 10) (v := .int M_cursorAt) (C := RX10) (T := TX10) (N := 40) hx hb htc iX10 hown hK hw0.1 0 rfl rfl 32 (by decide) (htc _ mw_979) (fun _ h9 => h9) rfl dX10_isAt_15 ?_
      refine lv_aload_n hx hb dX10_isAt_18 rfl (lv_at hl0 0 rfl) ?_
      refine va_get (D := G) (ci := 10) (v := .int M_cursorMany) (C := RX10) (T := TX10) (N := 40) hx hb htc iX10 hown hK hw0.1 0 rfl rfl 31 (by decide) (htc _ mw_978) (fun _ h9 => h9) rfl dX10_isAt_19 ?_
      refine lv_icmp_ge (tgt := 29) hx hb dX10_isAt_22 (by decide) (fun c_6 => ?_) (fun c_6 => ?_)
      · replace hJ_2 := it_t c_6 hJ_2
        refine lv_iconst (v := (0 : Int32)) hx hb dX10_isAt_29 (by decide) ?_
        cases hJ_2
        exact kj_3 _ _ _ hw0 (lv_sub hl0 [] rfl)
      · replace hJ_2 := it_f c_6 hJ_2
        refine lv_iconst (v := (1 : Int32)) hx hb dX10_isAt_25 (by decide) ?_
        refine lv_goto (tgt := 30) hx hb dX10_isAt_26 (by decide) ?_
        cases hJ_2
        exact kj_3 _ _ _ hw0 (lv_sub hl0 [] rfl)
