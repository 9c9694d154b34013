theorem dX10_turn_0 : decode cX10_turn 0 = .ok (.aload_n 0, 1) := by decide +kernel
theorem dX10_turn_1 : decode cX10_turn 1 = .ok (.getfield 174, 3) := by decide +kernel
theorem dX10_turn_4 : decode cX10_turn 4 = .ok (.bipush 96, 2) := by decide +kernel
theorem dX10_turn_6 : decode cX10_turn 6 = .ok (.if_icmp .le 6, 3) := by decide +kernel
theorem dX10_turn_9 : decode cX10_turn 9 = .ok (.bipush (-3), 2) := by decide +kernel
theorem dX10_turn_11 : decode cX10_turn 11 = .ok (.ireturn, 1) := by decide +kernel
theorem dX10_turn_12 : decode cX10_turn 12 = .ok (.iconst 0, 1) := by decide +kernel
theorem dX10_turn_13 : decode cX10_turn 13 = .ok (.istore_n 2, 1) := by decide +kernel
theorem dX10_turn_14 : decode cX10_turn 14 = .ok (.iload_n 2, 1) := by decide +kernel
theorem dX10_turn_15 : decode cX10_turn 15 = .ok (.aload_n 0, 1) := by decide +kernel
theorem dX10_turn_16 : decode cX10_turn 16 = .ok (.getfield 174, 3) := by decide +kernel
theorem dX10_turn_19 : decode cX10_turn 19 = .ok (.if_icmp .ge 74, 3) := by decide +kernel
theorem dX10_turn_22 : decode cX10_turn 22 = .ok (.aload_n 0, 1) := by decide +kernel
theorem dX10_turn_23 : decode cX10_turn 23 = .ok (.getfield 50, 3) := by decide +kernel
theorem dX10_turn_26 : decode cX10_turn 26 = .ok (.iload_n 2, 1) := by decide +kernel
theorem dX10_turn_27 : decode cX10_turn 27 = .ok (.baload, 1) := by decide +kernel
theorem dX10_turn_28 : decode cX10_turn 28 = .ok (.ifCond .ne 6, 3) := by decide +kernel
theorem dX10_turn_31 : decode cX10_turn 31 = .ok (.goto 56, 3) := by decide +kernel
theorem dX10_turn_34 : decode cX10_turn 34 = .ok (.aload_n 0, 1) := by decide +kernel
theorem dX10_turn_35 : decode cX10_turn 35 = .ok (.aload_n 0, 1) := by decide +kernel
theorem dX10_turn_36 : decode cX10_turn 36 = .ok (.getfield 47, 3) := by decide +kernel
theorem dX10_turn_39 : decode cX10_turn 39 = .ok (.iload_n 2, 1) := by decide +kernel
theorem dX10_turn_40 : decode cX10_turn 40 = .ok (.iaload, 1) := by decide +kernel
theorem dX10_turn_41 : decode cX10_turn 41 = .ok (.invokevirtual 186, 3) := by decide +kernel
theorem dX10_turn_44 : decode cX10_turn 44 = .ok (.istore_n 3, 1) := by decide +kernel
theorem dX10_turn_45 : decode cX10_turn 45 = .ok (.aload_n 0, 1) := by decide +kernel
theorem dX10_turn_46 : decode cX10_turn 46 = .ok (.iload_n 3, 1) := by decide +kernel
theorem dX10_turn_47 : decode cX10_turn 47 = .ok (.iload_n 2, 1) := by decide +kernel
theorem dX10_turn_48 : decode cX10_turn 48 = .ok (.invokevirtual 190, 3) := by decide +kernel
theorem dX10_turn_51 : decode cX10_turn 51 = .ok (.istore 4, 2) := by decide +kernel
theorem dX10_turn_53 : decode cX10_turn 53 = .ok (.iload 4, 2) := by decide +kernel
theorem dX10_turn_55 : decode cX10_turn 55 = .ok (.iconst (-1), 1) := by decide +kernel
theorem dX10_turn_56 : decode cX10_turn 56 = .ok (.if_icmp .ne 6, 3) := by decide +kernel
theorem dX10_turn_59 : decode cX10_turn 59 = .ok (.bipush (-3), 2) := by decide +kernel
theorem dX10_turn_61 : decode cX10_turn 61 = .ok (.ireturn, 1) := by decide +kernel
theorem dX10_turn_62 : decode cX10_turn 62 = .ok (.aload_n 0, 1) := by decide +kernel
theorem dX10_turn_63 : decode cX10_turn 63 = .ok (.getfield 23, 3) := by decide +kernel
theorem dX10_turn_66 : decode cX10_turn 66 = .ok (.aload_n 0, 1) := by decide +kernel
theorem dX10_turn_67 : decode cX10_turn 67 = .ok (.getfield 47, 3) := by decide +kernel
theorem dX10_turn_70 : decode cX10_turn 70 = .ok (.iload_n 2, 1) := by decide +kernel
theorem dX10_turn_71 : decode cX10_turn 71 = .ok (.iaload, 1) := by decide +kernel
theorem dX10_turn_72 : decode cX10_turn 72 = .ok (.iload 4, 2) := by decide +kernel
theorem dX10_turn_74 : decode cX10_turn 74 = .ok (.iastore, 1) := by decide +kernel
theorem dX10_turn_75 : decode cX10_turn 75 = .ok (.aload_n 0, 1) := by decide +kernel
theorem dX10_turn_76 : decode cX10_turn 76 = .ok (.getfield 26, 3) := by decide +kernel
theorem dX10_turn_79 : decode cX10_turn 79 = .ok (.aload_n 0, 1) := by decide +kernel
theorem dX10_turn_80 : decode cX10_turn 80 = .ok (.getfield 47, 3) := by decide +kernel
theorem dX10_turn_83 : decode cX10_turn 83 = .ok (.iload_n 2, 1) := by decide +kernel
theorem dX10_turn_84 : decode cX10_turn 84 = .ok (.iaload, 1) := by decide +kernel
theorem dX10_turn_85 : decode cX10_turn 85 = .ok (.iload_n 3, 1) := by decide +kernel
theorem dX10_turn_86 : decode cX10_turn 86 = .ok (.iastore, 1) := by decide +kernel
theorem dX10_turn_87 : decode cX10_turn 87 = .ok (.iinc 2 1, 3) := by decide +kernel
theorem dX10_turn_90 : decode cX10_turn 90 = .ok (.goto (-76), 3) := by decide +kernel
theorem dX10_turn_93 : decode cX10_turn 93 = .ok (.iconst 0, 1) := by decide +kernel
theorem dX10_turn_94 : decode cX10_turn 94 = .ok (.istore_n 2, 1) := by decide +kernel
theorem dX10_turn_95 : decode cX10_turn 95 = .ok (.iload_n 2, 1) := by decide +kernel
theorem dX10_turn_96 : decode cX10_turn 96 = .ok (.aload_n 0, 1) := by decide +kernel
theorem dX10_turn_97 : decode cX10_turn 97 = .ok (.getfield 174, 3) := by decide +kernel
theorem dX10_turn_100 : decode cX10_turn 100 = .ok (.if_icmp .ge 34, 3) := by decide +kernel
theorem dX10_turn_103 : decode cX10_turn 103 = .ok (.aload_n 0, 1) := by decide +kernel
theorem dX10_turn_104 : decode cX10_turn 104 = .ok (.getfield 50, 3) := by decide +kernel
theorem dX10_turn_107 : decode cX10_turn 107 = .ok (.iload_n 2, 1) := by decide +kernel
theorem dX10_turn_108 : decode cX10_turn 108 = .ok (.baload, 1) := by decide +kernel
theorem dX10_turn_109 : decode cX10_turn 109 = .ok (.ifCond .eq 19, 3) := by decide +kernel
theorem dX10_turn_112 : decode cX10_turn 112 = .ok (.aload_n 0, 1) := by decide +kernel
theorem dX10_turn_113 : decode cX10_turn 113 = .ok (.aload_n 0, 1) := by decide +kernel
theorem dX10_turn_114 : decode cX10_turn 114 = .ok (.getfield 47, 3) := by decide +kernel
theorem dX10_turn_117 : decode cX10_turn 117 = .ok (.iload_n 2, 1) := by decide +kernel
theorem dX10_turn_118 : decode cX10_turn 118 = .ok (.iaload, 1) := by decide +kernel
theorem dX10_turn_119 : decode cX10_turn 119 = .ok (.invokevirtual 194, 3) := by decide +kernel
theorem dX10_turn_122 : decode cX10_turn 122 = .ok (.ifCond .ne 6, 3) := by decide +kernel
theorem dX10_turn_125 : decode cX10_turn 125 = .ok (.bipush (-9), 2) := by decide +kernel
theorem dX10_turn_127 : decode cX10_turn 127 = .ok (.ireturn, 1) := by decide +kernel
theorem dX10_turn_128 : decode cX10_turn 128 = .ok (.iinc 2 1, 3) := by decide +kernel
theorem dX10_turn_131 : decode cX10_turn 131 = .ok (.goto (-36), 3) := by decide +kernel
theorem dX10_turn_134 : decode cX10_turn 134 = .ok (.aload_n 0, 1) := by decide +kernel
theorem dX10_turn_135 : decode cX10_turn 135 = .ok (.aload_n 0, 1) := by decide +kernel
theorem dX10_turn_136 : decode cX10_turn 136 = .ok (.iconst 1, 1) := by decide +kernel
theorem dX10_turn_137 : decode cX10_turn 137 = .ok (.aload_n 0, 1) := by decide +kernel
theorem dX10_turn_138 : decode cX10_turn 138 = .ok (.getfield 197, 3) := by decide +kernel
theorem dX10_turn_141 : decode cX10_turn 141 = .ok (.isub, 1) := by decide +kernel
theorem dX10_turn_142 : decode cX10_turn 142 = .ok (.invokevirtual 200, 3) := by decide +kernel
theorem dX10_turn_145 : decode cX10_turn 145 = .ok (.invokevirtual 203, 3) := by decide +kernel
theorem dX10_turn_148 : decode cX10_turn 148 = .ok (.ifCond .eq 21, 3) := by decide +kernel
theorem dX10_turn_151 : decode cX10_turn 151 = .ok (.aload_n 0, 1) := by decide +kernel
theorem dX10_turn_152 : decode cX10_turn 152 = .ok (.iconst 0, 1) := by decide +kernel
theorem dX10_turn_153 : decode cX10_turn 153 = .ok (.iconst 2, 1) := by decide +kernel
theorem dX10_turn_154 : decode cX10_turn 154 = .ok (.iload_n 1, 1) := by decide +kernel
theorem dX10_turn_155 : decode cX10_turn 155 = .ok (.imul, 1) := by decide +kernel
theorem dX10_turn_156 : decode cX10_turn 156 = .ok (.iconst 1, 1) := by decide +kernel
theorem dX10_turn_157 : decode cX10_turn 157 = .ok (.iadd, 1) := by decide +kernel
theorem dX10_turn_158 : decode cX10_turn 158 = .ok (.aload_n 0, 1) := by decide +kernel
theorem dX10_turn_159 : decode cX10_turn 159 = .ok (.getfield 197, 3) := by decide +kernel
theorem dX10_turn_162 : decode cX10_turn 162 = .ok (.isub, 1) := by decide +kernel
theorem dX10_turn_163 : decode cX10_turn 163 = .ok (.invokevirtual 109, 3) := by decide +kernel
theorem dX10_turn_166 : decode cX10_turn 166 = .ok (.ifCond .ne 6, 3) := by decide +kernel
theorem dX10_turn_169 : decode cX10_turn 169 = .ok (.bipush (-9), 2) := by decide +kernel
theorem dX10_turn_171 : decode cX10_turn 171 = .ok (.ireturn, 1) := by decide +kernel
theorem dX10_turn_172 : decode cX10_turn 172 = .ok (.iconst 0, 1) := by decide +kernel
theorem dX10_turn_173 : decode cX10_turn 173 = .ok (.istore_n 2, 1) := by decide +kernel
theorem dX10_turn_174 : decode cX10_turn 174 = .ok (.iload_n 2, 1) := by decide +kernel
theorem dX10_turn_175 : decode cX10_turn 175 = .ok (.aload_n 0, 1) := by decide +kernel
theorem dX10_turn_176 : decode cX10_turn 176 = .ok (.getfield 174, 3) := by decide +kernel
theorem dX10_turn_179 : decode cX10_turn 179 = .ok (.if_icmp .ge 21, 3) := by decide +kernel
theorem dX10_turn_182 : decode cX10_turn 182 = .ok (.aload_n 0, 1) := by decide +kernel
theorem dX10_turn_183 : decode cX10_turn 183 = .ok (.getfield 35, 3) := by decide +kernel
theorem dX10_turn_186 : decode cX10_turn 186 = .ok (.iload_n 2, 1) := by decide +kernel
theorem dX10_turn_187 : decode cX10_turn 187 = .ok (.aload_n 0, 1) := by decide +kernel
theorem dX10_turn_188 : decode cX10_turn 188 = .ok (.getfield 47, 3) := by decide +kernel
theorem dX10_turn_191 : decode cX10_turn 191 = .ok (.iload_n 2, 1) := by decide +kernel
theorem dX10_turn_192 : decode cX10_turn 192 = .ok (.iaload, 1) := by decide +kernel
theorem dX10_turn_193 : decode cX10_turn 193 = .ok (.iastore, 1) := by decide +kernel
theorem dX10_turn_194 : decode cX10_turn 194 = .ok (.iinc 2 1, 3) := by decide +kernel
theorem dX10_turn_197 : decode cX10_turn 197 = .ok (.goto (-23), 3) := by decide +kernel
theorem dX10_turn_200 : decode cX10_turn 200 = .ok (.aload_n 0, 1) := by decide +kernel
theorem dX10_turn_201 : decode cX10_turn 201 = .ok (.aload_n 0, 1) := by decide +kernel
theorem dX10_turn_202 : decode cX10_turn 202 = .ok (.getfield 174, 3) := by decide +kernel
theorem dX10_turn_205 : decode cX10_turn 205 = .ok (.putfield 115, 3) := by decide +kernel
theorem dX10_turn_208 : decode cX10_turn 208 = .ok (.aload_n 0, 1) := by decide +kernel
theorem dX10_turn_209 : decode cX10_turn 209 = .ok (.iload_n 1, 1) := by decide +kernel
theorem dX10_turn_210 : decode cX10_turn 210 = .ok (.putfield 112, 3) := by decide +kernel
theorem dX10_turn_213 : decode cX10_turn 213 = .ok (.aload_n 0, 1) := by decide +kernel
theorem dX10_turn_214 : decode cX10_turn 214 = .ok (.iconst 1, 1) := by decide +kernel
theorem dX10_turn_215 : decode cX10_turn 215 = .ok (.aload_n 0, 1) := by decide +kernel
theorem dX10_turn_216 : decode cX10_turn 216 = .ok (.getfield 197, 3) := by decide +kernel
theorem dX10_turn_219 : decode cX10_turn 219 = .ok (.isub, 1) := by decide +kernel
theorem dX10_turn_220 : decode cX10_turn 220 = .ok (.putfield 197, 3) := by decide +kernel
theorem dX10_turn_223 : decode cX10_turn 223 = .ok (.iconst 0, 1) := by decide +kernel
theorem dX10_turn_224 : decode cX10_turn 224 = .ok (.ireturn, 1) := by decide +kernel
theorem dX10_writeIndex_0 : decode cX10_writeIndex 0 = .ok (.aload_n 0, 1) := by decide +kernel
theorem dX10_writeIndex_1 : decode cX10_writeIndex 1 = .ok (.iload_n 1, 1) := by decide +kernel
theorem dX10_writeIndex_2 : decode cX10_writeIndex 2 = .ok (.aload_n 0, 1) := by decide +kernel
theorem dX10_writeIndex_3 : decode cX10_writeIndex 3 = .ok (.getfield 174, 3) := by decide +kernel
theorem dX10_writeIndex_6 : decode cX10_writeIndex 6 = .ok (.invokevirtual 109, 3) := by decide +kernel
theorem dX10_writeIndex_9 : decode cX10_writeIndex 9 = .ok (.istore_n 2, 1) := by decide +kernel
theorem dX10_writeIndex_10 : decode cX10_writeIndex 10 = .ok (.iconst 0, 1) := by decide +kernel
theorem dX10_writeIndex_11 : decode cX10_writeIndex 11 = .ok (.istore_n 3, 1) := by decide +kernel
theorem dX10_writeIndex_12 : decode cX10_writeIndex 12 = .ok (.iload_n 3, 1) := by decide +kernel
theorem dX10_writeIndex_13 : decode cX10_writeIndex 13 = .ok (.aload_n 0, 1) := by decide +kernel
theorem dX10_writeIndex_14 : decode cX10_writeIndex 14 = .ok (.getfield 174, 3) := by decide +kernel
theorem dX10_writeIndex_17 : decode cX10_writeIndex 17 = .ok (.if_icmp .ge 218, 3) := by decide +kernel
theorem dX10_writeIndex_20 : decode cX10_writeIndex 20 = .ok (.iload_n 2, 1) := by decide +kernel
theorem dX10_writeIndex_21 : decode cX10_writeIndex 21 = .ok (.ifCond .eq 214, 3) := by decide +kernel
theorem dX10_writeIndex_24 : decode cX10_writeIndex 24 = .ok (.aload_n 0, 1) := by decide +kernel
theorem dX10_writeIndex_25 : decode cX10_writeIndex 25 = .ok (.getfield 47, 3) := by decide +kernel
theorem dX10_writeIndex_28 : decode cX10_writeIndex 28 = .ok (.iload_n 3, 1) := by decide +kernel
theorem dX10_writeIndex_29 : decode cX10_writeIndex 29 = .ok (.iaload, 1) := by decide +kernel
theorem dX10_writeIndex_30 : decode cX10_writeIndex 30 = .ok (.istore 4, 2) := by decide +kernel
theorem dX10_writeIndex_32 : decode cX10_writeIndex 32 = .ok (.iload_n 1, 1) := by decide +kernel
theorem dX10_writeIndex_33 : decode cX10_writeIndex 33 = .ok (.iconst 1, 1) := by decide +kernel
theorem dX10_writeIndex_34 : decode cX10_writeIndex 34 = .ok (.iadd, 1) := by decide +kernel
theorem dX10_writeIndex_35 : decode cX10_writeIndex 35 = .ok (.bipush 10, 2) := by decide +kernel
theorem dX10_writeIndex_37 : decode cX10_writeIndex 37 = .ok (.iload_n 3, 1) := by decide +kernel
theorem dX10_writeIndex_38 : decode cX10_writeIndex 38 = .ok (.imul, 1) := by decide +kernel
theorem dX10_writeIndex_39 : decode cX10_writeIndex 39 = .ok (.iadd, 1) := by decide +kernel
theorem dX10_writeIndex_40 : decode cX10_writeIndex 40 = .ok (.istore 5, 2) := by decide +kernel
theorem dX10_writeIndex_42 : decode cX10_writeIndex 42 = .ok (.aload_n 0, 1) := by decide +kernel
theorem dX10_writeIndex_43 : decode cX10_writeIndex 43 = .ok (.iload 4, 2) := by decide +kernel
theorem dX10_writeIndex_45 : decode cX10_writeIndex 45 = .ok (.invokevirtual 206, 3) := by decide +kernel
theorem dX10_writeIndex_48 : decode cX10_writeIndex 48 = .ok (.lstore 6, 2) := by decide +kernel
theorem dX10_writeIndex_50 : decode cX10_writeIndex 50 = .ok (.aload_n 0, 1) := by decide +kernel
theorem dX10_writeIndex_51 : decode cX10_writeIndex 51 = .ok (.iload 5, 2) := by decide +kernel
theorem dX10_writeIndex_53 : decode cX10_writeIndex 53 = .ok (.aload_n 0, 1) := by decide +kernel
theorem dX10_writeIndex_54 : decode cX10_writeIndex 54 = .ok (.getfield 17, 3) := by decide +kernel
theorem dX10_writeIndex_57 : decode cX10_writeIndex 57 = .ok (.iload 4, 2) := by decide +kernel
theorem dX10_writeIndex_59 : decode cX10_writeIndex 59 = .ok (.iaload, 1) := by decide +kernel
theorem dX10_writeIndex_60 : decode cX10_writeIndex 60 = .ok (.invokevirtual 109, 3) := by decide +kernel
theorem dX10_writeIndex_63 : decode cX10_writeIndex 63 = .ok (.ifCond .eq 164, 3) := by decide +kernel
theorem dX10_writeIndex_66 : decode cX10_writeIndex 66 = .ok (.aload_n 0, 1) := by decide +kernel
theorem dX10_writeIndex_67 : decode cX10_writeIndex 67 = .ok (.iload 5, 2) := by decide +kernel
theorem dX10_writeIndex_69 : decode cX10_writeIndex 69 = .ok (.iconst 1, 1) := by decide +kernel
theorem dX10_writeIndex_70 : decode cX10_writeIndex 70 = .ok (.iadd, 1) := by decide +kernel
theorem dX10_writeIndex_71 : decode cX10_writeIndex 71 = .ok (.aload_n 0, 1) := by decide +kernel
theorem dX10_writeIndex_72 : decode cX10_writeIndex 72 = .ok (.iload 4, 2) := by decide +kernel
theorem dX10_writeIndex_74 : decode cX10_writeIndex 74 = .ok (.invokevirtual 209, 3) := by decide +kernel
theorem dX10_writeIndex_77 : decode cX10_writeIndex 77 = .ok (.invokevirtual 109, 3) := by decide +kernel
theorem dX10_writeIndex_80 : decode cX10_writeIndex 80 = .ok (.ifCond .eq 147, 3) := by decide +kernel
theorem dX10_writeIndex_83 : decode cX10_writeIndex 83 = .ok (.aload_n 0, 1) := by decide +kernel
theorem dX10_writeIndex_84 : decode cX10_writeIndex 84 = .ok (.iload 5, 2) := by decide +kernel
theorem dX10_writeIndex_86 : decode cX10_writeIndex 86 = .ok (.iconst 2, 1) := by decide +kernel
theorem dX10_writeIndex_87 : decode cX10_writeIndex 87 = .ok (.iadd, 1) := by decide +kernel
theorem dX10_writeIndex_88 : decode cX10_writeIndex 88 = .ok (.aload_n 0, 1) := by decide +kernel
theorem dX10_writeIndex_89 : decode cX10_writeIndex 89 = .ok (.iload 4, 2) := by decide +kernel
theorem dX10_writeIndex_91 : decode cX10_writeIndex 91 = .ok (.invokevirtual 212, 3) := by decide +kernel
theorem dX10_writeIndex_94 : decode cX10_writeIndex 94 = .ok (.invokevirtual 109, 3) := by decide +kernel
theorem dX10_writeIndex_97 : decode cX10_writeIndex 97 = .ok (.ifCond .eq 130, 3) := by decide +kernel
theorem dX10_writeIndex_100 : decode cX10_writeIndex 100 = .ok (.aload_n 0, 1) := by decide +kernel
theorem dX10_writeIndex_101 : decode cX10_writeIndex 101 = .ok (.iload 5, 2) := by decide +kernel
theorem dX10_writeIndex_103 : decode cX10_writeIndex 103 = .ok (.iconst 3, 1) := by decide +kernel
theorem dX10_writeIndex_104 : decode cX10_writeIndex 104 = .ok (.iadd, 1) := by decide +kernel
theorem dX10_writeIndex_105 : decode cX10_writeIndex 105 = .ok (.aload_n 0, 1) := by decide +kernel
theorem dX10_writeIndex_106 : decode cX10_writeIndex 106 = .ok (.getfield 20, 3) := by decide +kernel
theorem dX10_writeIndex_109 : decode cX10_writeIndex 109 = .ok (.iload 4, 2) := by decide +kernel
theorem dX10_writeIndex_111 : decode cX10_writeIndex 111 = .ok (.iaload, 1) := by decide +kernel
theorem dX10_writeIndex_112 : decode cX10_writeIndex 112 = .ok (.invokevirtual 109, 3) := by decide +kernel
theorem dX10_writeIndex_115 : decode cX10_writeIndex 115 = .ok (.ifCond .eq 112, 3) := by decide +kernel
theorem dX10_writeIndex_118 : decode cX10_writeIndex 118 = .ok (.aload_n 0, 1) := by decide +kernel
theorem dX10_writeIndex_119 : decode cX10_writeIndex 119 = .ok (.iload 5, 2) := by decide +kernel
theorem dX10_writeIndex_121 : decode cX10_writeIndex 121 = .ok (.iconst 4, 1) := by decide +kernel
theorem dX10_writeIndex_122 : decode cX10_writeIndex 122 = .ok (.iadd, 1) := by decide +kernel
theorem dX10_writeIndex_123 : decode cX10_writeIndex 123 = .ok (.aload_n 0, 1) := by decide +kernel
theorem dX10_writeIndex_124 : decode cX10_writeIndex 124 = .ok (.iload 4, 2) := by decide +kernel
theorem dX10_writeIndex_126 : decode cX10_writeIndex 126 = .ok (.invokevirtual 215, 3) := by decide +kernel
theorem dX10_writeIndex_129 : decode cX10_writeIndex 129 = .ok (.invokevirtual 109, 3) := by decide +kernel
theorem dX10_writeIndex_132 : decode cX10_writeIndex 132 = .ok (.ifCond .eq 95, 3) := by decide +kernel
theorem dX10_writeIndex_135 : decode cX10_writeIndex 135 = .ok (.aload_n 0, 1) := by decide +kernel
theorem dX10_writeIndex_136 : decode cX10_writeIndex 136 = .ok (.iload 5, 2) := by decide +kernel
theorem dX10_writeIndex_138 : decode cX10_writeIndex 138 = .ok (.iconst 5, 1) := by decide +kernel
theorem dX10_writeIndex_139 : decode cX10_writeIndex 139 = .ok (.iadd, 1) := by decide +kernel
theorem dX10_writeIndex_140 : decode cX10_writeIndex 140 = .ok (.aload_n 0, 1) := by decide +kernel
theorem dX10_writeIndex_141 : decode cX10_writeIndex 141 = .ok (.iload 4, 2) := by decide +kernel
theorem dX10_writeIndex_143 : decode cX10_writeIndex 143 = .ok (.invokevirtual 218, 3) := by decide +kernel
theorem dX10_writeIndex_146 : decode cX10_writeIndex 146 = .ok (.invokevirtual 109, 3) := by decide +kernel
theorem dX10_writeIndex_149 : decode cX10_writeIndex 149 = .ok (.ifCond .eq 78, 3) := by decide +kernel
theorem dX10_writeIndex_152 : decode cX10_writeIndex 152 = .ok (.aload_n 0, 1) := by decide +kernel
theorem dX10_writeIndex_153 : decode cX10_writeIndex 153 = .ok (.iload 5, 2) := by decide +kernel
theorem dX10_writeIndex_155 : decode cX10_writeIndex 155 = .ok (.bipush 6, 2) := by decide +kernel
theorem dX10_writeIndex_157 : decode cX10_writeIndex 157 = .ok (.iadd, 1) := by decide +kernel
theorem dX10_writeIndex_158 : decode cX10_writeIndex 158 = .ok (.lload 6, 2) := by decide +kernel
theorem dX10_writeIndex_160 : decode cX10_writeIndex 160 = .ok (.bipush 32, 2) := by decide +kernel
theorem dX10_writeIndex_162 : decode cX10_writeIndex 162 = .ok (.lshr, 1) := by decide +kernel
theorem dX10_writeIndex_163 : decode cX10_writeIndex 163 = .ok (.l2i, 1) := by decide +kernel
theorem dX10_writeIndex_164 : decode cX10_writeIndex 164 = .ok (.invokevirtual 109, 3) := by decide +kernel
theorem dX10_writeIndex_167 : decode cX10_writeIndex 167 = .ok (.ifCond .eq 60, 3) := by decide +kernel
theorem dX10_writeIndex_170 : decode cX10_writeIndex 170 = .ok (.aload_n 0, 1) := by decide +kernel
theorem dX10_writeIndex_171 : decode cX10_writeIndex 171 = .ok (.iload 5, 2) := by decide +kernel
theorem dX10_writeIndex_173 : decode cX10_writeIndex 173 = .ok (.bipush 7, 2) := by decide +kernel
theorem dX10_writeIndex_175 : decode cX10_writeIndex 175 = .ok (.iadd, 1) := by decide +kernel
theorem dX10_writeIndex_176 : decode cX10_writeIndex 176 = .ok (.lload 6, 2) := by decide +kernel
theorem dX10_writeIndex_178 : decode cX10_writeIndex 178 = .ok (.l2i, 1) := by decide +kernel
theorem dX10_writeIndex_179 : decode cX10_writeIndex 179 = .ok (.invokevirtual 109, 3) := by decide +kernel
theorem dX10_writeIndex_182 : decode cX10_writeIndex 182 = .ok (.ifCond .eq 45, 3) := by decide +kernel
theorem dX10_writeIndex_185 : decode cX10_writeIndex 185 = .ok (.aload_n 0, 1) := by decide +kernel
theorem dX10_writeIndex_186 : decode cX10_writeIndex 186 = .ok (.iload 5, 2) := by decide +kernel
theorem dX10_writeIndex_188 : decode cX10_writeIndex 188 = .ok (.bipush 8, 2) := by decide +kernel
theorem dX10_writeIndex_190 : decode cX10_writeIndex 190 = .ok (.iadd, 1) := by decide +kernel
theorem dX10_writeIndex_191 : decode cX10_writeIndex 191 = .ok (.aload_n 0, 1) := by decide +kernel
theorem dX10_writeIndex_192 : decode cX10_writeIndex 192 = .ok (.getfield 23, 3) := by decide +kernel
theorem dX10_writeIndex_195 : decode cX10_writeIndex 195 = .ok (.iload 4, 2) := by decide +kernel
theorem dX10_writeIndex_197 : decode cX10_writeIndex 197 = .ok (.iaload, 1) := by decide +kernel
theorem dX10_writeIndex_198 : decode cX10_writeIndex 198 = .ok (.invokevirtual 109, 3) := by decide +kernel
theorem dX10_writeIndex_201 : decode cX10_writeIndex 201 = .ok (.ifCond .eq 26, 3) := by decide +kernel
theorem dX10_writeIndex_204 : decode cX10_writeIndex 204 = .ok (.aload_n 0, 1) := by decide +kernel
theorem dX10_writeIndex_205 : decode cX10_writeIndex 205 = .ok (.iload 5, 2) := by decide +kernel
theorem dX10_writeIndex_207 : decode cX10_writeIndex 207 = .ok (.bipush 9, 2) := by decide +kernel
theorem dX10_writeIndex_209 : decode cX10_writeIndex 209 = .ok (.iadd, 1) := by decide +kernel
theorem dX10_writeIndex_210 : decode cX10_writeIndex 210 = .ok (.aload_n 0, 1) := by decide +kernel
theorem dX10_writeIndex_211 : decode cX10_writeIndex 211 = .ok (.getfield 26, 3) := by decide +kernel
theorem dX10_writeIndex_214 : decode cX10_writeIndex 214 = .ok (.iload 4, 2) := by decide +kernel
theorem dX10_writeIndex_216 : decode cX10_writeIndex 216 = .ok (.iaload, 1) := by decide +kernel
theorem dX10_writeIndex_217 : decode cX10_writeIndex 217 = .ok (.invokevirtual 109, 3) := by decide +kernel
theorem dX10_writeIndex_220 : decode cX10_writeIndex 220 = .ok (.ifCond .eq 7, 3) := by decide +kernel
theorem dX10_writeIndex_223 : decode cX10_writeIndex 223 = .ok (.iconst 1, 1) := by decide +kernel
theorem dX10_writeIndex_224 : decode cX10_writeIndex 224 = .ok (.goto 4, 3) := by decide +kernel
theorem dX10_writeIndex_227 : decode cX10_writeIndex 227 = .ok (.iconst 0, 1) := by decide +kernel
theorem dX10_writeIndex_228 : decode cX10_writeIndex 228 = .ok (.istore_n 2, 1) := by decide +kernel
theorem dX10_writeIndex_229 : decode cX10_writeIndex 229 = .ok (.iinc 3 1, 3) := by decide +kernel
theorem dX10_writeIndex_232 : decode cX10_writeIndex 232 = .ok (.goto (-220), 3) := by decide +kernel
theorem dX10_writeIndex_235 : decode cX10_writeIndex 235 = .ok (.iload_n 2, 1) := by decide +kernel
theorem dX10_writeIndex_236 : decode cX10_writeIndex 236 = .ok (.ireturn, 1) := by decide +kernel
theorem dX10_greatestOf_0 : decode cX10_greatestOf 0 = .ok (.aload_n 0, 1) := by decide +kernel
theorem dX10_greatestOf_1 : decode cX10_greatestOf 1 = .ok (.getfield 32, 3) := by decide +kernel
theorem dX10_greatestOf_4 : decode cX10_greatestOf 4 = .ok (.bipush 64, 2) := by decide +kernel
theorem dX10_greatestOf_6 : decode cX10_greatestOf 6 = .ok (.iload_n 1, 1) := by decide +kernel
theorem dX10_greatestOf_7 : decode cX10_greatestOf 7 = .ok (.imul, 1) := by decide +kernel
theorem dX10_greatestOf_8 : decode cX10_greatestOf 8 = .ok (.iaload, 1) := by decide +kernel
theorem dX10_greatestOf_9 : decode cX10_greatestOf 9 = .ok (.istore_n 2, 1) := by decide +kernel
theorem dX10_greatestOf_10 : decode cX10_greatestOf 10 = .ok (.iconst 1, 1) := by decide +kernel
theorem dX10_greatestOf_11 : decode cX10_greatestOf 11 = .ok (.istore_n 3, 1) := by decide +kernel
theorem dX10_greatestOf_12 : decode cX10_greatestOf 12 = .ok (.iload_n 3, 1) := by decide +kernel
theorem dX10_greatestOf_13 : decode cX10_greatestOf 13 = .ok (.aload_n 0, 1) := by decide +kernel
theorem dX10_greatestOf_14 : decode cX10_greatestOf 14 = .ok (.getfield 20, 3) := by decide +kernel
theorem dX10_greatestOf_17 : decode cX10_greatestOf 17 = .ok (.iload_n 1, 1) := by decide +kernel
theorem dX10_greatestOf_18 : decode cX10_greatestOf 18 = .ok (.iaload, 1) := by decide +kernel
theorem dX10_greatestOf_19 : decode cX10_greatestOf 19 = .ok (.if_icmp .ge 40, 3) := by decide +kernel
theorem dX10_greatestOf_22 : decode cX10_greatestOf 22 = .ok (.aload_n 0, 1) := by decide +kernel
theorem dX10_greatestOf_23 : decode cX10_greatestOf 23 = .ok (.getfield 32, 3) := by decide +kernel
theorem dX10_greatestOf_26 : decode cX10_greatestOf 26 = .ok (.bipush 64, 2) := by decide +kernel
theorem dX10_greatestOf_28 : decode cX10_greatestOf 28 = .ok (.iload_n 1, 1) := by decide +kernel
theorem dX10_greatestOf_29 : decode cX10_greatestOf 29 = .ok (.imul, 1) := by decide +kernel
theorem dX10_greatestOf_30 : decode cX10_greatestOf 30 = .ok (.iload_n 3, 1) := by decide +kernel
theorem dX10_greatestOf_31 : decode cX10_greatestOf 31 = .ok (.iadd, 1) := by decide +kernel
theorem dX10_greatestOf_32 : decode cX10_greatestOf 32 = .ok (.iaload, 1) := by decide +kernel
theorem dX10_greatestOf_33 : decode cX10_greatestOf 33 = .ok (.iload_n 2, 1) := by decide +kernel
theorem dX10_greatestOf_34 : decode cX10_greatestOf 34 = .ok (.if_icmp .le 17, 3) := by decide +kernel
theorem dX10_greatestOf_37 : decode cX10_greatestOf 37 = .ok (.aload_n 0, 1) := by decide +kernel
theorem dX10_greatestOf_38 : decode cX10_greatestOf 38 = .ok (.getfield 32, 3) := by decide +kernel
theorem dX10_greatestOf_41 : decode cX10_greatestOf 41 = .ok (.bipush 64, 2) := by decide +kernel
theorem dX10_greatestOf_43 : decode cX10_greatestOf 43 = .ok (.iload_n 1, 1) := by decide +kernel
theorem dX10_greatestOf_44 : decode cX10_greatestOf 44 = .ok (.imul, 1) := by decide +kernel
theorem dX10_greatestOf_45 : decode cX10_greatestOf 45 = .ok (.iload_n 3, 1) := by decide +kernel
theorem dX10_greatestOf_46 : decode cX10_greatestOf 46 = .ok (.iadd, 1) := by decide +kernel
theorem dX10_greatestOf_47 : decode cX10_greatestOf 47 = .ok (.iaload, 1) := by decide +kernel
theorem dX10_greatestOf_48 : decode cX10_greatestOf 48 = .ok (.goto 4, 3) := by decide +kernel
theorem dX10_greatestOf_51 : decode cX10_greatestOf 51 = .ok (.iload_n 2, 1) := by decide +kernel
theorem dX10_greatestOf_52 : decode cX10_greatestOf 52 = .ok (.istore_n 2, 1) := by decide +kernel
theorem dX10_greatestOf_53 : decode cX10_greatestOf 53 = .ok (.iinc 3 1, 3) := by decide +kernel
theorem dX10_greatestOf_56 : decode cX10_greatestOf 56 = .ok (.goto (-44), 3) := by decide +kernel
theorem dX10_greatestOf_59 : decode cX10_greatestOf 59 = .ok (.iload_n 2, 1) := by decide +kernel
theorem dX10_greatestOf_60 : decode cX10_greatestOf 60 = .ok (.ireturn, 1) := by decide +kernel
theorem dX10_flush_0 : decode cX10_flush 0 = .ok (.aload_n 0, 1) := by decide +kernel
theorem dX10_flush_1 : decode cX10_flush 1 = .ok (.iconst 0, 1) := by decide +kernel
theorem dX10_flush_2 : decode cX10_flush 2 = .ok (.putfield 76, 3) := by decide +kernel
theorem dX10_flush_5 : decode cX10_flush 5 = .ok (.aload_n 0, 1) := by decide +kernel
theorem dX10_flush_6 : decode cX10_flush 6 = .ok (.invokevirtual 95, 3) := by decide +kernel
theorem dX10_flush_9 : decode cX10_flush 9 = .ok (.aload_n 0, 1) := by decide +kernel
theorem dX10_flush_10 : decode cX10_flush 10 = .ok (.getfield 79, 3) := by decide +kernel
theorem dX10_flush_13 : decode cX10_flush 13 = .ok (.ifCond .eq 6, 3) := by decide +kernel
theorem dX10_flush_16 : decode cX10_flush 16 = .ok (.bipush (-9), 2) := by decide +kernel
theorem dX10_flush_18 : decode cX10_flush 18 = .ok (.ireturn, 1) := by decide +kernel
theorem dX10_flush_19 : decode cX10_flush 19 = .ok (.aload_n 0, 1) := by decide +kernel
theorem dX10_flush_20 : decode cX10_flush 20 = .ok (.getfield 106, 3) := by decide +kernel
theorem dX10_flush_23 : decode cX10_flush 23 = .ok (.ifCond .ne 5, 3) := by decide +kernel
theorem dX10_flush_26 : decode cX10_flush 26 = .ok (.iconst 0, 1) := by decide +kernel
theorem dX10_flush_27 : decode cX10_flush 27 = .ok (.ireturn, 1) := by decide +kernel
theorem dX10_flush_28 : decode cX10_flush 28 = .ok (.aload_n 0, 1) := by decide +kernel
theorem dX10_flush_29 : decode cX10_flush 29 = .ok (.invokevirtual 221, 3) := by decide +kernel
theorem dX10_flush_32 : decode cX10_flush 32 = .ok (.iconst 0, 1) := by decide +kernel
theorem dX10_flush_33 : decode cX10_flush 33 = .ok (.istore_n 1, 1) := by decide +kernel
theorem dX10_flush_34 : decode cX10_flush 34 = .ok (.iload_n 1, 1) := by decide +kernel
theorem dX10_flush_35 : decode cX10_flush 35 = .ok (.aload_n 0, 1) := by decide +kernel
theorem dX10_flush_36 : decode cX10_flush 36 = .ok (.getfield 67, 3) := by decide +kernel
theorem dX10_flush_39 : decode cX10_flush 39 = .ok (.if_icmp .ge 56, 3) := by decide +kernel
theorem dX10_flush_42 : decode cX10_flush 42 = .ok (.iconst 0, 1) := by decide +kernel
theorem dX10_flush_43 : decode cX10_flush 43 = .ok (.istore_n 2, 1) := by decide +kernel
theorem dX10_flush_44 : decode cX10_flush 44 = .ok (.iload_n 2, 1) := by decide +kernel
theorem dX10_flush_45 : decode cX10_flush 45 = .ok (.aload_n 0, 1) := by decide +kernel
theorem dX10_flush_46 : decode cX10_flush 46 = .ok (.getfield 115, 3) := by decide +kernel
theorem dX10_flush_49 : decode cX10_flush 49 = .ok (.if_icmp .ge 35, 3) := by decide +kernel
theorem dX10_flush_52 : decode cX10_flush 52 = .ok (.aload_n 0, 1) := by decide +kernel
theorem dX10_flush_53 : decode cX10_flush 53 = .ok (.getfield 17, 3) := by decide +kernel
theorem dX10_flush_56 : decode cX10_flush 56 = .ok (.aload_n 0, 1) := by decide +kernel
theorem dX10_flush_57 : decode cX10_flush 57 = .ok (.getfield 35, 3) := by decide +kernel
theorem dX10_flush_60 : decode cX10_flush 60 = .ok (.iload_n 2, 1) := by decide +kernel
theorem dX10_flush_61 : decode cX10_flush 61 = .ok (.iaload, 1) := by decide +kernel
theorem dX10_flush_62 : decode cX10_flush 62 = .ok (.iaload, 1) := by decide +kernel
theorem dX10_flush_63 : decode cX10_flush 63 = .ok (.iload_n 1, 1) := by decide +kernel
theorem dX10_flush_64 : decode cX10_flush 64 = .ok (.if_icmp .ne 14, 3) := by decide +kernel
theorem dX10_flush_67 : decode cX10_flush 67 = .ok (.aload_n 0, 1) := by decide +kernel
theorem dX10_flush_68 : decode cX10_flush 68 = .ok (.aload_n 0, 1) := by decide +kernel
theorem dX10_flush_69 : decode cX10_flush 69 = .ok (.getfield 35, 3) := by decide +kernel
theorem dX10_flush_72 : decode cX10_flush 72 = .ok (.iload_n 2, 1) := by decide +kernel
theorem dX10_flush_73 : decode cX10_flush 73 = .ok (.iaload, 1) := by decide +kernel
theorem dX10_flush_74 : decode cX10_flush 74 = .ok (.iconst 0, 1) := by decide +kernel
theorem dX10_flush_75 : decode cX10_flush 75 = .ok (.invokevirtual 224, 3) := by decide +kernel
theorem dX10_flush_78 : decode cX10_flush 78 = .ok (.iinc 2 1, 3) := by decide +kernel
theorem dX10_flush_81 : decode cX10_flush 81 = .ok (.goto (-37), 3) := by decide +kernel
theorem dX10_flush_84 : decode cX10_flush 84 = .ok (.aload_n 0, 1) := by decide +kernel
theorem dX10_flush_85 : decode cX10_flush 85 = .ok (.iload_n 1, 1) := by decide +kernel
theorem dX10_flush_86 : decode cX10_flush 86 = .ok (.invokevirtual 228, 3) := by decide +kernel
theorem dX10_flush_89 : decode cX10_flush 89 = .ok (.iinc 1 1, 3) := by decide +kernel
theorem dX10_flush_92 : decode cX10_flush 92 = .ok (.goto (-58), 3) := by decide +kernel
theorem dX10_flush_95 : decode cX10_flush 95 = .ok (.aload_n 0, 1) := by decide +kernel
theorem dX10_flush_96 : decode cX10_flush 96 = .ok (.getfield 174, 3) := by decide +kernel
theorem dX10_flush_99 : decode cX10_flush 99 = .ok (.aload_n 0, 1) := by decide +kernel
theorem dX10_flush_100 : decode cX10_flush 100 = .ok (.getfield 115, 3) := by decide +kernel
theorem dX10_flush_103 : decode cX10_flush 103 = .ok (.isub, 1) := by decide +kernel
theorem dX10_flush_104 : decode cX10_flush 104 = .ok (.istore_n 1, 1) := by decide +kernel
theorem dX10_flush_105 : decode cX10_flush 105 = .ok (.aload_n 0, 1) := by decide +kernel
theorem dX10_flush_106 : decode cX10_flush 106 = .ok (.aload_n 0, 1) := by decide +kernel
theorem dX10_flush_107 : decode cX10_flush 107 = .ok (.getfield 112, 3) := by decide +kernel
theorem dX10_flush_110 : decode cX10_flush 110 = .ok (.iconst 1, 1) := by decide +kernel
theorem dX10_flush_111 : decode cX10_flush 111 = .ok (.iadd, 1) := by decide +kernel
theorem dX10_flush_112 : decode cX10_flush 112 = .ok (.invokevirtual 231, 3) := by decide +kernel
theorem dX10_flush_115 : decode cX10_flush 115 = .ok (.istore_n 2, 1) := by decide +kernel
theorem dX10_flush_116 : decode cX10_flush 116 = .ok (.iload_n 2, 1) := by decide +kernel
theorem dX10_flush_117 : decode cX10_flush 117 = .ok (.ifCond .ne 8, 3) := by decide +kernel
theorem dX10_flush_120 : decode cX10_flush 120 = .ok (.aload_n 0, 1) := by decide +kernel
theorem dX10_flush_121 : decode cX10_flush 121 = .ok (.iconst 0, 1) := by decide +kernel
theorem dX10_flush_122 : decode cX10_flush 122 = .ok (.putfield 106, 3) := by decide +kernel
theorem dX10_flush_125 : decode cX10_flush 125 = .ok (.iload_n 2, 1) := by decide +kernel
theorem dX10_flush_126 : decode cX10_flush 126 = .ok (.ifCond .ne 7, 3) := by decide +kernel
theorem dX10_flush_129 : decode cX10_flush 129 = .ok (.iload_n 1, 1) := by decide +kernel
theorem dX10_flush_130 : decode cX10_flush 130 = .ok (.goto 4, 3) := by decide +kernel
theorem dX10_flush_133 : decode cX10_flush 133 = .ok (.iload_n 2, 1) := by decide +kernel
theorem dX10_flush_134 : decode cX10_flush 134 = .ok (.ireturn, 1) := by decide +kernel
theorem dX10_headsOf_0 : decode cX10_headsOf 0 = .ok (.iconst (-1), 1) := by decide +kernel
theorem dX10_headsOf_1 : decode cX10_headsOf 1 = .ok (.istore_n 2, 1) := by decide +kernel
theorem dX10_headsOf_2 : decode cX10_headsOf 2 = .ok (.iconst 0, 1) := by decide +kernel
theorem dX10_headsOf_3 : decode cX10_headsOf 3 = .ok (.istore_n 3, 1) := by decide +kernel
theorem dX10_headsOf_4 : decode cX10_headsOf 4 = .ok (.iload_n 3, 1) := by decide +kernel
theorem dX10_headsOf_5 : decode cX10_headsOf 5 = .ok (.aload_n 0, 1) := by decide +kernel
theorem dX10_headsOf_6 : decode cX10_headsOf 6 = .ok (.getfield 106, 3) := by decide +kernel
theorem dX10_headsOf_9 : decode cX10_headsOf 9 = .ok (.if_icmp .ge 82, 3) := by decide +kernel
theorem dX10_headsOf_12 : decode cX10_headsOf 12 = .ok (.aload_n 0, 1) := by decide +kernel
theorem dX10_headsOf_13 : decode cX10_headsOf 13 = .ok (.getfield 38, 3) := by decide +kernel
theorem dX10_headsOf_16 : decode cX10_headsOf 16 = .ok (.iload_n 3, 1) := by decide +kernel
theorem dX10_headsOf_17 : decode cX10_headsOf 17 = .ok (.iaload, 1) := by decide +kernel
theorem dX10_headsOf_18 : decode cX10_headsOf 18 = .ok (.iload_n 1, 1) := by decide +kernel
theorem dX10_headsOf_19 : decode cX10_headsOf 19 = .ok (.if_icmp .eq 6, 3) := by decide +kernel
theorem dX10_headsOf_22 : decode cX10_headsOf 22 = .ok (.goto 63, 3) := by decide +kernel
theorem dX10_headsOf_25 : decode cX10_headsOf 25 = .ok (.iload_n 2, 1) := by decide +kernel
theorem dX10_headsOf_26 : decode cX10_headsOf 26 = .ok (.iconst (-1), 1) := by decide +kernel
theorem dX10_headsOf_27 : decode cX10_headsOf 27 = .ok (.if_icmp .eq 16, 3) := by decide +kernel
theorem dX10_headsOf_30 : decode cX10_headsOf 30 = .ok (.aload_n 0, 1) := by decide +kernel
theorem dX10_headsOf_31 : decode cX10_headsOf 31 = .ok (.getfield 20, 3) := by decide +kernel
theorem dX10_headsOf_34 : decode cX10_headsOf 34 = .ok (.iload_n 2, 1) := by decide +kernel
theorem dX10_headsOf_35 : decode cX10_headsOf 35 = .ok (.iaload, 1) := by decide +kernel
theorem dX10_headsOf_36 : decode cX10_headsOf 36 = .ok (.aload_n 0, 1) := by decide +kernel
theorem dX10_headsOf_37 : decode cX10_headsOf 37 = .ok (.getfield 70, 3) := by decide +kernel
theorem dX10_headsOf_40 : decode cX10_headsOf 40 = .ok (.if_icmp .ne 28, 3) := by decide +kernel
theorem dX10_headsOf_43 : decode cX10_headsOf 43 = .ok (.aload_n 0, 1) := by decide +kernel
theorem dX10_headsOf_44 : decode cX10_headsOf 44 = .ok (.invokevirtual 234, 3) := by decide +kernel
theorem dX10_headsOf_47 : decode cX10_headsOf 47 = .ok (.istore_n 2, 1) := by decide +kernel
theorem dX10_headsOf_48 : decode cX10_headsOf 48 = .ok (.aload_n 0, 1) := by decide +kernel
theorem dX10_headsOf_49 : decode cX10_headsOf 49 = .ok (.getfield 17, 3) := by decide +kernel
theorem dX10_headsOf_52 : decode cX10_headsOf 52 = .ok (.iload_n 2, 1) := by decide +kernel
theorem dX10_headsOf_53 : decode cX10_headsOf 53 = .ok (.iload_n 1, 1) := by decide +kernel
theorem dX10_headsOf_54 : decode cX10_headsOf 54 = .ok (.iastore, 1) := by decide +kernel
theorem dX10_headsOf_55 : decode cX10_headsOf 55 = .ok (.aload_n 0, 1) := by decide +kernel
theorem dX10_headsOf_56 : decode cX10_headsOf 56 = .ok (.getfield 20, 3) := by decide +kernel
theorem dX10_headsOf_59 : decode cX10_headsOf 59 = .ok (.iload_n 2, 1) := by decide +kernel
theorem dX10_headsOf_60 : decode cX10_headsOf 60 = .ok (.iconst 0, 1) := by decide +kernel
theorem dX10_headsOf_61 : decode cX10_headsOf 61 = .ok (.iastore, 1) := by decide +kernel
theorem dX10_headsOf_62 : decode cX10_headsOf 62 = .ok (.aload_n 0, 1) := by decide +kernel
theorem dX10_headsOf_63 : decode cX10_headsOf 63 = .ok (.iload_n 2, 1) := by decide +kernel
theorem dX10_headsOf_64 : decode cX10_headsOf 64 = .ok (.iconst 1, 1) := by decide +kernel
theorem dX10_headsOf_65 : decode cX10_headsOf 65 = .ok (.invokevirtual 224, 3) := by decide +kernel
theorem dX10_headsOf_68 : decode cX10_headsOf 68 = .ok (.aload_n 0, 1) := by decide +kernel
theorem dX10_headsOf_69 : decode cX10_headsOf 69 = .ok (.iload_n 2, 1) := by decide +kernel
theorem dX10_headsOf_70 : decode cX10_headsOf 70 = .ok (.aload_n 0, 1) := by decide +kernel
theorem dX10_headsOf_71 : decode cX10_headsOf 71 = .ok (.getfield 41, 3) := by decide +kernel
theorem dX10_headsOf_74 : decode cX10_headsOf 74 = .ok (.iload_n 3, 1) := by decide +kernel
theorem dX10_headsOf_75 : decode cX10_headsOf 75 = .ok (.iaload, 1) := by decide +kernel
theorem dX10_headsOf_76 : decode cX10_headsOf 76 = .ok (.aload_n 0, 1) := by decide +kernel
theorem dX10_headsOf_77 : decode cX10_headsOf 77 = .ok (.getfield 44, 3) := by decide +kernel
theorem dX10_headsOf_80 : decode cX10_headsOf 80 = .ok (.iload_n 3, 1) := by decide +kernel
theorem dX10_headsOf_81 : decode cX10_headsOf 81 = .ok (.iaload, 1) := by decide +kernel
theorem dX10_headsOf_82 : decode cX10_headsOf 82 = .ok (.invokevirtual 237, 3) := by decide +kernel
theorem dX10_headsOf_85 : decode cX10_headsOf 85 = .ok (.iinc 3 1, 3) := by decide +kernel
theorem dX10_headsOf_88 : decode cX10_headsOf 88 = .ok (.goto (-84), 3) := by decide +kernel
theorem dX10_headsOf_91 : decode cX10_headsOf 91 = .ok (.return_, 1) := by decide +kernel
theorem dX10_add_0 : decode cX10_add 0 = .ok (.aload_n 0, 1) := by decide +kernel
theorem dX10_add_1 : decode cX10_add 1 = .ok (.getfield 29, 3) := by decide +kernel
theorem dX10_add_4 : decode cX10_add 4 = .ok (.bipush 64, 2) := by decide +kernel
theorem dX10_add_6 : decode cX10_add 6 = .ok (.iload_n 1, 1) := by decide +kernel
theorem dX10_add_7 : decode cX10_add 7 = .ok (.imul, 1) := by decide +kernel
theorem dX10_add_8 : decode cX10_add 8 = .ok (.aload_n 0, 1) := by decide +kernel
theorem dX10_add_9 : decode cX10_add 9 = .ok (.getfield 20, 3) := by decide +kernel
theorem dX10_add_12 : decode cX10_add 12 = .ok (.iload_n 1, 1) := by decide +kernel
theorem dX10_add_13 : decode cX10_add 13 = .ok (.iaload, 1) := by decide +kernel
theorem dX10_add_14 : decode cX10_add 14 = .ok (.iadd, 1) := by decide +kernel
theorem dX10_add_15 : decode cX10_add 15 = .ok (.iload_n 2, 1) := by decide +kernel
theorem dX10_add_16 : decode cX10_add 16 = .ok (.iastore, 1) := by decide +kernel
theorem dX10_add_17 : decode cX10_add 17 = .ok (.aload_n 0, 1) := by decide +kernel
theorem dX10_add_18 : decode cX10_add 18 = .ok (.getfield 32, 3) := by decide +kernel
theorem dX10_add_21 : decode cX10_add 21 = .ok (.bipush 64, 2) := by decide +kernel
theorem dX10_add_23 : decode cX10_add 23 = .ok (.iload_n 1, 1) := by decide +kernel
theorem dX10_add_24 : decode cX10_add 24 = .ok (.imul, 1) := by decide +kernel
theorem dX10_add_25 : decode cX10_add 25 = .ok (.aload_n 0, 1) := by decide +kernel
theorem dX10_add_26 : decode cX10_add 26 = .ok (.getfield 20, 3) := by decide +kernel
theorem dX10_add_29 : decode cX10_add 29 = .ok (.iload_n 1, 1) := by decide +kernel
theorem dX10_add_30 : decode cX10_add 30 = .ok (.iaload, 1) := by decide +kernel
theorem dX10_add_31 : decode cX10_add 31 = .ok (.iadd, 1) := by decide +kernel
theorem dX10_add_32 : decode cX10_add 32 = .ok (.iload_n 3, 1) := by decide +kernel
theorem dX10_add_33 : decode cX10_add 33 = .ok (.iastore, 1) := by decide +kernel
theorem dX10_add_34 : decode cX10_add 34 = .ok (.aload_n 0, 1) := by decide +kernel
theorem dX10_add_35 : decode cX10_add 35 = .ok (.getfield 20, 3) := by decide +kernel
theorem dX10_add_38 : decode cX10_add 38 = .ok (.iload_n 1, 1) := by decide +kernel
theorem dX10_add_39 : decode cX10_add 39 = .ok (.dup2, 1) := by decide +kernel
theorem dX10_add_40 : decode cX10_add 40 = .ok (.iaload, 1) := by decide +kernel
theorem dX10_add_41 : decode cX10_add 41 = .ok (.iconst 1, 1) := by decide +kernel
theorem dX10_add_42 : decode cX10_add 42 = .ok (.iadd, 1) := by decide +kernel
theorem dX10_add_43 : decode cX10_add 43 = .ok (.iastore, 1) := by decide +kernel
theorem dX10_add_44 : decode cX10_add 44 = .ok (.return_, 1) := by decide +kernel
theorem dX10_together_0 : decode cX10_together 0 = .ok (.iconst 1, 1) := by decide +kernel
theorem dX10_together_1 : decode cX10_together 1 = .ok (.istore_n 2, 1) := by decide +kernel
theorem dX10_together_2 : decode cX10_together 2 = .ok (.aload_n 0, 1) := by decide +kernel
theorem dX10_together_3 : decode cX10_together 3 = .ok (.getfield 20, 3) := by decide +kernel
theorem dX10_together_6 : decode cX10_together 6 = .ok (.aload_n 0, 1) := by decide +kernel
theorem dX10_together_7 : decode cX10_together 7 = .ok (.getfield 35, 3) := by decide +kernel
theorem dX10_together_10 : decode cX10_together 10 = .ok (.iload_n 1, 1) := by decide +kernel
theorem dX10_together_11 : decode cX10_together 11 = .ok (.iaload, 1) := by decide +kernel
theorem dX10_together_12 : decode cX10_together 12 = .ok (.iaload, 1) := by decide +kernel
theorem dX10_together_13 : decode cX10_together 13 = .ok (.istore_n 3, 1) := by decide +kernel
theorem dX10_together_14 : decode cX10_together 14 = .ok (.iload_n 1, 1) := by decide +kernel
theorem dX10_together_15 : decode cX10_together 15 = .ok (.iload_n 2, 1) := by decide +kernel
theorem dX10_together_16 : decode cX10_together 16 = .ok (.iadd, 1) := by decide +kernel
theorem dX10_together_17 : decode cX10_together 17 = .ok (.aload_n 0, 1) := by decide +kernel
theorem dX10_together_18 : decode cX10_together 18 = .ok (.getfield 115, 3) := by decide +kernel
theorem dX10_together_21 : decode cX10_together 21 = .ok (.if_icmp .ge 74, 3) := by decide +kernel
theorem dX10_together_24 : decode cX10_together 24 = .ok (.aload_n 0, 1) := by decide +kernel
theorem dX10_together_25 : decode cX10_together 25 = .ok (.getfield 17, 3) := by decide +kernel
theorem dX10_together_28 : decode cX10_together 28 = .ok (.aload_n 0, 1) := by decide +kernel
theorem dX10_together_29 : decode cX10_together 29 = .ok (.getfield 35, 3) := by decide +kernel
theorem dX10_together_32 : decode cX10_together 32 = .ok (.iload_n 1, 1) := by decide +kernel
theorem dX10_together_33 : decode cX10_together 33 = .ok (.iload_n 2, 1) := by decide +kernel
theorem dX10_together_34 : decode cX10_together 34 = .ok (.iadd, 1) := by decide +kernel
theorem dX10_together_35 : decode cX10_together 35 = .ok (.iaload, 1) := by decide +kernel
theorem dX10_together_36 : decode cX10_together 36 = .ok (.iaload, 1) := by decide +kernel
theorem dX10_together_37 : decode cX10_together 37 = .ok (.aload_n 0, 1) := by decide +kernel
theorem dX10_together_38 : decode cX10_together 38 = .ok (.getfield 17, 3) := by decide +kernel
theorem dX10_together_41 : decode cX10_together 41 = .ok (.aload_n 0, 1) := by decide +kernel
theorem dX10_together_42 : decode cX10_together 42 = .ok (.getfield 35, 3) := by decide +kernel
theorem dX10_together_45 : decode cX10_together 45 = .ok (.iload_n 1, 1) := by decide +kernel
theorem dX10_together_46 : decode cX10_together 46 = .ok (.iaload, 1) := by decide +kernel
theorem dX10_together_47 : decode cX10_together 47 = .ok (.iaload, 1) := by decide +kernel
theorem dX10_together_48 : decode cX10_together 48 = .ok (.if_icmp .ne 47, 3) := by decide +kernel
theorem dX10_together_51 : decode cX10_together 51 = .ok (.iload_n 3, 1) := by decide +kernel
theorem dX10_together_52 : decode cX10_together 52 = .ok (.aload_n 0, 1) := by decide +kernel
theorem dX10_together_53 : decode cX10_together 53 = .ok (.getfield 20, 3) := by decide +kernel
theorem dX10_together_56 : decode cX10_together 56 = .ok (.aload_n 0, 1) := by decide +kernel
theorem dX10_together_57 : decode cX10_together 57 = .ok (.getfield 35, 3) := by decide +kernel
theorem dX10_together_60 : decode cX10_together 60 = .ok (.iload_n 1, 1) := by decide +kernel
theorem dX10_together_61 : decode cX10_together 61 = .ok (.iload_n 2, 1) := by decide +kernel
theorem dX10_together_62 : decode cX10_together 62 = .ok (.iadd, 1) := by decide +kernel
theorem dX10_together_63 : decode cX10_together 63 = .ok (.iaload, 1) := by decide +kernel
theorem dX10_together_64 : decode cX10_together 64 = .ok (.iaload, 1) := by decide +kernel
theorem dX10_together_65 : decode cX10_together 65 = .ok (.iadd, 1) := by decide +kernel
theorem dX10_together_66 : decode cX10_together 66 = .ok (.aload_n 0, 1) := by decide +kernel
theorem dX10_together_67 : decode cX10_together 67 = .ok (.getfield 70, 3) := by decide +kernel
theorem dX10_together_70 : decode cX10_together 70 = .ok (.if_icmp .gt 25, 3) := by decide +kernel
theorem dX10_together_73 : decode cX10_together 73 = .ok (.iload_n 3, 1) := by decide +kernel
theorem dX10_together_74 : decode cX10_together 74 = .ok (.aload_n 0, 1) := by decide +kernel
theorem dX10_together_75 : decode cX10_together 75 = .ok (.getfield 20, 3) := by decide +kernel
theorem dX10_together_78 : decode cX10_together 78 = .ok (.aload_n 0, 1) := by decide +kernel
theorem dX10_together_79 : decode cX10_together 79 = .ok (.getfield 35, 3) := by decide +kernel
theorem dX10_together_82 : decode cX10_together 82 = .ok (.iload_n 1, 1) := by decide +kernel
theorem dX10_together_83 : decode cX10_together 83 = .ok (.iload_n 2, 1) := by decide +kernel
theorem dX10_together_84 : decode cX10_together 84 = .ok (.iadd, 1) := by decide +kernel
theorem dX10_together_85 : decode cX10_together 85 = .ok (.iaload, 1) := by decide +kernel
theorem dX10_together_86 : decode cX10_together 86 = .ok (.iaload, 1) := by decide +kernel
theorem dX10_together_87 : decode cX10_together 87 = .ok (.iadd, 1) := by decide +kernel
theorem dX10_together_88 : decode cX10_together 88 = .ok (.istore_n 3, 1) := by decide +kernel
theorem dX10_together_89 : decode cX10_together 89 = .ok (.iinc 2 1, 3) := by decide +kernel
theorem dX10_together_92 : decode cX10_together 92 = .ok (.goto (-78), 3) := by decide +kernel
theorem dX10_together_95 : decode cX10_together 95 = .ok (.iload_n 2, 1) := by decide +kernel
theorem dX10_together_96 : decode cX10_together 96 = .ok (.ireturn, 1) := by decide +kernel
abbrev rm_X10_greatestOf : Room := { frames := 0, cells := 0, slots := 0, locals := 0 }
theorem hd_X10_greatestOf : yX10_greatestOf.cls = RX10 ∧ yX10_greatestOf.cls ≠ "java/lang/invoke/MethodHandle" ∧ yX10_greatestOf.cls ≠ "java/lang/invoke/VarHandle" ∧ (parseMethodDescriptor yX10_greatestOf.desc).map (fun d => d.parameters.length) = some 1 := by decide +kernel
set_option maxHeartbeats 4000000 in
set_option maxRecDepth 100000 in
theorem c_X10_greatestOf (l : Launch) (G : va_G) (cI cZ cJ : ClassId) (aM aMdisk aMits aMmany aMplace aMlength aMtimes aMvalues aMorder aMheadOf aMheadTime aMheadValue aMnext aMisNew aMcursorTime aMcursorValue aMmade : Nat) (M_thrown : Int32) (M_series : Int32) (M_most : Int32) (M_ratio : Int32) (M_writes : Int32) (M_fuse : Int32) (M_down : Int32) (M_recovers : Int32) (M_looks : Int32) (M_unpacked : Int32) (M_chunks : Int32) (M_epoch : Int32) (M_side : Int32) (M_logged : Int32) (M_nexts : Int32) (M_hasCursor : Int32) (M_cursorMany : Int32) (M_cursorAt : Int32) (M_bits : Int32) (M_from : Int32) (M_askMany : Int32) (M_askLeast : Int32) (M_askGreatest : Int32) (M_askSum : Int64) (M_many : Nat → Int32) (M_values : Nat → Int32) (p0 : Int32) {r : Int32} (hfin : m_X10_greatestOf M_many M_values p0 = some (r)) : CT l yX10_greatestOf cX10_greatestOf 4 (some .int) rm_X10_greatestOf G (tyC cI cZ cJ) [.ref aM, .int p0] [oX10 aM M_thrown M_series M_most M_ratio aMdisk M_writes M_fuse M_down M_recovers M_looks M_unpacked aMits aMmany aMplace aMlength aMtimes aMvalues aMorder M_chunks M_epoch M_side aMheadOf aMheadTime aMheadValue M_logged aMnext aMisNew M_nexts aMcursorTime aMcursorValue M_hasCursor M_cursorMany M_cursorAt aMmade M_bits M_from M_askMany M_askLeast M_askGreatest M_askSum, rI aMmany cI 240 M_many, rI aMvalues cI 15360 M_values] (some (.int r)) [oX10 aM M_thrown M_series M_most M_ratio aMdisk M_writes M_fuse M_down M_recovers M_looks M_unpacked aMits aMmany aMplace aMlength aMtimes aMvalues aMorder M_chunks M_epoch M_side aMheadOf aMheadTime aMheadValue M_logged aMnext aMisNew M_nexts aMcursorTime aMcursorValue M_hasCursor M_cursorMany M_cursorAt aMmade M_bits M_from M_askMany M_askLeast M_askGreatest M_askSum, rI aMmany cI 240 M_many, rI aMvalues cI 15360 M_values] := by
  refine CT.ofW (lvl := [(0, .ref aM), (1, .int p0)]) (by decide) (Nat.le_of_ble_eq_true rfl) rfl ?_
  intro p e s m args below meth c A ls0 QQ hQQ hx hb hml hr hlocks htc hN hown hK hA hw0 hl0
  rw [m_X10_greatestOf] at hfin
  refine lv_aload_n hx hb dX10_greatestOf_0 rfl (lv_at hl0 0 rfl) ?_
  refine va_get (D := G) (ci := 10) (v := .ref aMvalues) (C := RX10) (T := TX10) (N := 40) hx hb htc iX10 hown hK hw0.1 0 rfl rfl 16 (by decide) (htc _ mw_963) (fun _ h9 => h9) rfl dX10_greatestOf_1 ?_
  refine lv_bipush (v := (64 : Int32)) hx hb dX10_greatestOf_4 (by decide) ?_
  refine lv_iload_n hx hb dX10_greatestOf_6 rfl (lv_at hl0 1 rfl) ?_
  refine lv_imul hx hb dX10_greatestOf_7 ?_
  replace hfin := ckb_some hfin
  obtain ⟨hin_1, hfin⟩ := hfin
  refine va_iald hx hb hK hw0.1 2 0 rfl rfl hin_1 dX10_greatestOf_8 ?_
  refine lv_istore_n (lv' := [(2, .int (M_values (Int32.toNatClampNeg ((64 : Int32) * p0)))), (0, .ref aM), (1, .int p0)]) hx hb dX10_greatestOf_9 rfl hl0 (by decide) rfl (fun ls2 hl2 => ?_)
  clear hl0 ls0
  refine lv_iconst (v := (1 : Int32)) hx hb dX10_greatestOf_10 (by decide) ?_
  refine lv_istore_n (lv' := [(3, .int (1 : Int32)), (2, .int (M_values (Int32.toNatClampNeg ((64 : Int32) * p0)))), (0, .ref aM), (1, .int p0)]) hx hb dX10_greatestOf_11 rfl hl2 (by decide) rfl (fun ls3 hl3 => ?_)
  clear hl2 ls2
  replace hfin := ob1_some hfin
  obtain ⟨v2_10, hL_6, hfin⟩ := hfin
  have kx_7 : ∀ (H : Heap) (locs : List Loc) (ls : Array Slot), wS G A s H locs [oX10 aM M_thrown M_series M_most M_ratio aMdisk M_writes M_fuse M_down M_recovers M_looks M_unpacked aMits aMmany aMplace aMlength aMtimes aMvalues aMorder M_chunks M_epoch M_side aMheadOf aMheadTime aMheadValue M_logged aMnext aMisNew M_nexts aMcursorTime aMcursorValue M_hasCursor M_cursorMany M_cursorAt aMmade M_bits M_from M_askMany M_askLeast M_askGreatest M_askSum, rI aMmany cI 240 M_many, rI aMvalues cI 15360 M_values] → lv_has ls 4 [(2, .int v2_10)] → W p l e rm_X10_greatestOf s m args below meth c H locs 0 0 QQ (F0 m 59 ls []) := by
    clear hw0 hl3 ls3 hL_6
    intro H23 locs23 ls23 hw23 hl23
    refine lv_iload_n hx hb dX10_greatestOf_59 rfl (lv_at hl23 0 rfl) ?_
    cases hfin
    rw [hQQ]
    exact ct_iret hx hb hr hlocks hw23.1 hw23.2.1 hw23.2.2 dX10_greatestOf_60
  have lp_8 : ∀ (n : Nat) (v2_4 : Int32) (v3_5 : Int32), lp_X10_greatestOf_12 M_many M_values p0 n v2_4 v3_5 = some (v2_10) → ∀ (H : Heap) (locs : List Loc) (ls : Array Slot), wS G A s H locs [oX10 aM M_thrown M_series M_most M_ratio aMdisk M_writes M_fuse M_down M_recovers M_looks M_unpacked aMits aMmany aMplace aMlength aMtimes aMvalues aMorder M_chunks M_epoch M_side aMheadOf aMheadTime aMheadValue M_logged aMnext aMisNew M_nexts aMcursorTime aMcursorValue M_hasCursor M_cursorMany M_cursorAt aMmade M_bits M_from M_askMany M_askLeast M_askGreatest M_askSum, rI aMmany cI 240 M_many, rI aMvalues cI 15360 M_values] → lv_has ls 4 [(0, .ref aM), (1, .int p0), (2, .int v2_4), (3, .int v3_5)] → W p l e rm_X10_greatestOf s m args below meth c H locs 0 0 QQ (F0 m 12 ls []) := by
    clear hw0 hl3 ls3 hfin
    intro n
    induction n with
    | zero =>
      intro v2_4 v3_5 hB_9
      exact absurd hB_9 (by rw [lp_X10_greatestOf_12]; exact fun h9 => nomatch h9)
    | succ n ih =>
      intro v2_4 v3_5 hB_9 H11 locs11 ls11 hw11 hl11
      rw [lp_X10_greatestOf_12] at hB_9
      refine lv_iload_n hx hb dX10_greatestOf_12 rfl (lv_at hl11 3 rfl) ?_
      refine lv_aload_n hx hb dX10_greatestOf_13 rfl (lv_at hl11 0 rfl) ?_
      refine va_get (D := G) (ci := 10) (v := .ref aMmany) (C := RX10) (T := TX10) (N := 40) hx hb htc iX10 hown hK hw11.1 0 rfl rfl 12 (by decide) (htc _ mw_959) (fun _ h9 => h9) rfl dX10_greatestOf_14 ?_
      refine lv_iload_n hx hb dX10_greatestOf_17 rfl (lv_at hl11 1 rfl) ?_
      replace hB_9 := ckb_some hB_9
      obtain ⟨hin_12, hB_9⟩ := hB_9
      refine va_iald hx hb hK hw11.1 1 0 rfl rfl hin_12 dX10_greatestOf_18 ?_
      refine lv_icmp_ge (tgt := 59) hx hb dX10_greatestOf_19 (by decide) (fun c_13 => ?_) (fun c_13 => ?_)
      · replace hB_9 := it_t c_13 hB_9
        cases hB_9
        exact kx_7 _ _ _ hw11 (lv_sub hl11 [2] rfl)
      · replace hB_9 := it_f c_13 hB_9
        refine lv_aload_n hx hb dX10_greatestOf_22 rfl (lv_at hl11 0 rfl) ?_
        refine va_get (D := G) (ci := 10) (v := .ref aMvalues) (C := RX10) (T := TX10) (N := 40) hx hb htc iX10 hown hK hw11.1 0 rfl rfl 16 (by decide) (htc _ mw_963) (fun _ h9 => h9) rfl dX10_greatestOf_23 ?_
        refine lv_bipush (v := (64 : Int32)) hx hb dX10_greatestOf_26 (by decide) ?_
        refine lv_iload_n hx hb dX10_greatestOf_28 rfl (lv_at hl11 1 rfl) ?_
        refine lv_imul hx hb dX10_greatestOf_29 ?_
        refine lv_iload_n hx hb dX10_greatestOf_30 rfl (lv_at hl11 3 rfl) ?_
        refine lv_iadd hx hb dX10_greatestOf_31 ?_
        replace hB_9 := ckb_some hB_9
        obtain ⟨hin_14, hB_9⟩ := hB_9
        refine va_iald hx hb hK hw11.1 2 0 rfl rfl hin_14 dX10_greatestOf_32 ?_
        refine lv_iload_n hx hb dX10_greatestOf_33 rfl (lv_at hl11 2 rfl) ?_
        replace hB_9 := ob1_some hB_9
        obtain ⟨s_15, hJ_16, hB_9⟩ := hB_9
        have kj_17 : ∀ (H : Heap) (locs : List Loc) (ls : Array Slot), wS G A s H locs [oX10 aM M_thrown M_series M_most M_ratio aMdisk M_writes M_fuse M_down M_recovers M_looks M_unpacked aMits aMmany aMplace aMlength aMtimes aMvalues aMorder M_chunks M_epoch M_side aMheadOf aMheadTime aMheadValue M_logged aMnext aMisNew M_nexts aMcursorTime aMcursorValue M_hasCursor M_cursorMany M_cursorAt aMmade M_bits M_from M_askMany M_askLeast M_askGreatest M_askSum, rI aMmany cI 240 M_many, rI aMvalues cI 15360 M_values] → lv_has ls 4 [(0, .ref aM), (1, .int p0), (3, .int v3_5)] → W p l e rm_X10_greatestOf s m args below meth c H locs 0 0 QQ (F0 m 52 ls [.int s_15]) := by
          clear hw11 H11 locs11 hl11 ls11 hJ_16
          intro H20 locs20 ls20 hw20 hl20
          refine lv_istore_n (lv' := [(2, .int s_15), (0, .ref aM), (1, .int p0), (3, .int v3_5)]) hx hb dX10_greatestOf_52 rfl hl20 (by decide) rfl (fun ls21 hl21 => ?_)
          clear hl20 ls20
          refine lv_iinc (v := (v3_5 + (1 : Int32))) (lv' := [(3, .int (v3_5 + (1 : Int32))), (2, .int s_15), (0, .ref aM), (1, .int p0)]) hx hb dX10_greatestOf_53 hl21 (k := 3) rfl rfl (by decide) rfl (fun ls22 hl22 => ?_)
          clear hl21 ls21
          refine lv_goto (tgt := 12) hx hb dX10_greatestOf_56 (by decide) ?_
          exact ih s_15 (v3_5 + (1 : Int32)) hB_9 _ _ _ hw20 (lv_sub hl22 [2, 3, 1, 0] rfl)
        clear hB_9
        refine lv_icmp_le (tgt := 51) hx hb dX10_greatestOf_34 (by decide) (fun c_18 => ?_) (fun c_18 => ?_)
        · replace hJ_16 := it_t c_18 hJ_16
          refine lv_iload_n hx hb dX10_greatestOf_51 rfl (lv_at hl11 2 rfl) ?_
          cases hJ_16
          exact kj_17 _ _ _ hw11 (lv_sub hl11 [0, 1, 3] rfl)
        · replace hJ_16 := it_f c_18 hJ_16
          refine lv_aload_n hx hb dX10_greatestOf_37 rfl (lv_at hl11 0 rfl) ?_
          refine va_get (D := G) (ci := 10) (v := .ref aMvalues) (C := RX10) (T := TX10) (N := 40) hx hb htc iX10 hown hK hw11.1 0 rfl rfl 16 (by decide) (htc _ mw_963) (fun _ h9 => h9) rfl dX10_greatestOf_38 ?_
          refine lv_bipush (v := (64 : Int32)) hx hb dX10_greatestOf_41 (by decide) ?_
          refine lv_iload_n hx hb dX10_greatestOf_43 rfl (lv_at hl11 1 rfl) ?_
          refine lv_imul hx hb dX10_greatestOf_44 ?_
          refine lv_iload_n hx hb dX10_greatestOf_45 rfl (lv_at hl11 3 rfl) ?_
          refine lv_iadd hx hb dX10_greatestOf_46 ?_
          replace hJ_16 := ckb_some hJ_16
          obtain ⟨hin_19, hJ_16⟩ := hJ_16
          refine va_iald hx hb hK hw11.1 2 0 rfl rfl hin_19 dX10_greatestOf_47 ?_
          refine lv_goto (tgt := 52) hx hb dX10_greatestOf_48 (by decide) ?_
          cases hJ_16
          exact kj_17 _ _ _ hw11 (lv_sub hl11 [0, 1, 3] rfl)
  exact lp_8 NN (M_values (Int32.toNatClampNeg ((64 : Int32) * p0))) (1 : Int32) hL_6 _ _ _ hw0 (lv_sub hl3 [2, 3, 1, 0] rfl)
abbrev rm_X10_writeIndex : Room := { frames := 1, cells := 0, slots := 0, locals := 24 }
theorem hd_X10_writeIndex : yX10_writeIndex.cls = RX10 ∧ yX10_writeIndex.cls ≠ "java/lang/invoke/MethodHandle" ∧ yX10_writeIndex.cls ≠ "java/lang/invoke/VarHandle" ∧ (parseMethodDescriptor yX10_writeIndex.desc).map (fun d => d.parameters.length) = some 1 := by decide +kernel
set_option maxHeartbeats 4000000 in
set_option maxRecDepth 100000 in
theorem c_X10_writeIndex (l : Launch) (G : va_G) (cI cZ cJ : ClassId) (aM aMdisk aMits aMmany aMplace aMlength aMtimes aMvalues aMorder aMheadOf aMheadTime aMheadValue aMnext aMisNew aMcursorTime aMcursorValue aMmade : Nat) (M_thrown : Int32) (M_series : Int32) (M_most : Int32) (M_ratio : Int32) (M_writes : Int32) (M_fuse : Int32) (M_down : Int32) (M_recovers : Int32) (M_looks : Int32) (M_unpacked : Int32) (M_chunks : Int32) (M_epoch : Int32) (M_side : Int32) (M_logged : Int32) (M_nexts : Int32) (M_hasCursor : Int32) (M_cursorMany : Int32) (M_cursorAt : Int32) (M_bits : Int32) (M_from : Int32) (M_askMany : Int32) (M_askLeast : Int32) (M_askGreatest : Int32) (M_askSum : Int64) (M_disk : Nat → Int32) (M_its : Nat → Int32) (M_many : Nat → Int32) (M_place : Nat → Int32) (M_length : Nat → Int32) (M_times : Nat → Int32) (M_values : Nat → Int32) (M_next : Nat → Int32) (p0 : Int32) {r : Int32} {o_M_writes : Int32} {o_M_fuse : Int32} {o_M_down : Int32} {o_M_disk : Nat → Int32} (hfin : m_X10_writeIndex M_writes M_fuse M_down M_nexts M_disk M_its M_many M_place M_length M_times M_values M_next p0 = some (r, o_M_writes, o_M_fuse, o_M_down, o_M_disk)) : CT l yX10_writeIndex cX10_writeIndex 8 (some .boolean) rm_X10_writeIndex G (tyC cI cZ cJ) [.ref aM, .int p0] [oX10 aM M_thrown M_series M_most M_ratio aMdisk M_writes M_fuse M_down M_recovers M_looks M_unpacked aMits aMmany aMplace aMlength aMtimes aMvalues aMorder M_chunks M_epoch M_side aMheadOf aMheadTime aMheadValue M_logged aMnext aMisNew M_nexts aMcursorTime aMcursorValue M_hasCursor M_cursorMany M_cursorAt aMmade M_bits M_from M_askMany M_askLeast M_askGreatest M_askSum, rI aMdisk cI 4096 M_disk, rI aMits cI 240 M_its, rI aMmany cI 240 M_many, rI aMplace cI 240 M_place, rI aMlength cI 240 M_length, rI aMtimes cI 15360 M_times, rI aMvalues cI 15360 M_values, rI aMnext cI 240 M_next] (some (.int r)) [oX10 aM M_thrown M_series M_most M_ratio aMdisk o_M_writes o_M_fuse o_M_down M_recovers M_looks M_unpacked aMits aMmany aMplace aMlength aMtimes aMvalues aMorder M_chunks M_epoch M_side aMheadOf aMheadTime aMheadValue M_logged aMnext aMisNew M_nexts aMcursorTime aMcursorValue M_hasCursor M_cursorMany M_cursorAt aMmade M_bits M_from M_askMany M_askLeast M_askGreatest M_askSum, rI aMdisk cI 4096 o_M_disk, rI aMits cI 240 M_its, rI aMmany cI 240 M_many, rI aMplace cI 240 M_place, rI aMlength cI 240 M_length, rI aMtimes cI 15360 M_times, rI aMvalues cI 15360 M_values, rI aMnext cI 240 M_next] := by
  refine CT.ofW (lvl := [(0, .ref aM), (1, .int p0)]) (by decide) (Nat.le_of_ble_eq_true rfl) rfl ?_
  intro p e s m args below meth c A ls0 QQ hQQ hx hb hml hr hlocks htc hN hown hK hA hw0 hl0
  rw [m_X10_writeIndex] at hfin
  refine lv_aload_n hx hb dX10_writeIndex_0 rfl (lv_at hl0 0 rfl) ?_
  refine lv_iload_n hx hb dX10_writeIndex_1 rfl (lv_at hl0 1 rfl) ?_
  refine lv_aload_n hx hb dX10_writeIndex_2 rfl (lv_at hl0 0 rfl) ?_
  refine va_get (D := G) (ci := 10) (v := .int M_nexts) (C := RX10) (T := TX10) (N := 40) hx hb htc iX10 hown hK hw0.1 0 rfl rfl 27 (by decide) (htc _ mw_974) (fun _ h9 => h9) rfl dX10_writeIndex_3 ?_
  replace hfin := ob5_some hfin
  obtain ⟨r_2, M_writes_3, M_fuse_4, M_down_5, M_disk_6, hE_1, hfin⟩ := hfin
  refine ctV (a := aM) (As := [.int p0, .int M_nexts]) (rest := []) (st1 := [.int r_2]) (wc := [oX10 aM M_thrown M_series M_most M_ratio aMdisk M_writes M_fuse M_down M_recovers M_looks M_unpacked aMits aMmany aMplace aMlength aMtimes aMvalues aMorder M_chunks M_epoch M_side aMheadOf aMheadTime aMheadValue M_logged aMnext aMisNew M_nexts aMcursorTime aMcursorValue M_hasCursor M_cursorMany M_cursorAt aMmade M_bits M_from M_askMany M_askLeast M_askGreatest M_askSum, rI aMdisk cI 4096 M_disk]) (w1 := [oX10 aM M_thrown M_series M_most M_ratio aMdisk M_writes_3 M_fuse_4 M_down_5 M_recovers M_looks M_unpacked aMits aMmany aMplace aMlength aMtimes aMvalues aMorder M_chunks M_epoch M_side aMheadOf aMheadTime aMheadValue M_logged aMnext aMisNew M_nexts aMcursorTime aMcursorValue M_hasCursor M_cursorMany M_cursorAt aMmade M_bits M_from M_askMany M_askLeast M_askGreatest M_askSum, rI aMdisk cI 4096 M_disk_6]) (wr := [rI aMits cI 240 M_its, rI aMmany cI 240 M_many, rI aMplace cI 240 M_place, rI aMlength cI 240 M_length, rI aMtimes cI 15360 M_times, rI aMvalues cI 15360 M_values, rI aMnext cI 240 M_next]) (wb := [oX10 aM M_thrown M_series M_most M_ratio aMdisk M_writes_3 M_fuse_4 M_down_5 M_recovers M_looks M_unpacked aMits aMmany aMplace aMlength aMtimes aMvalues aMorder M_chunks M_epoch M_side aMheadOf aMheadTime aMheadValue M_logged aMnext aMisNew M_nexts aMcursorTime aMcursorValue M_hasCursor M_cursorMany M_cursorAt aMmade M_bits M_from M_askMany M_askLeast M_askGreatest M_askSum, rI aMdisk cI 4096 M_disk_6, rI aMits cI 240 M_its, rI aMmany cI 240 M_many, rI aMplace cI 240 M_place, rI aMlength cI 240 M_length, rI aMtimes cI 15360 M_times, rI aMvalues cI 15360 M_values, rI aMnext cI 240 M_next]) (v := (some (.int r_2))) hx hb hml hown htc hN (c_X10_write l G cI cZ cJ aM aMdisk aMits aMmany aMplace aMlength aMtimes aMvalues aMorder aMheadOf aMheadTime aMheadValue aMnext aMisNew aMcursorTime aMcursorValue aMmade M_thrown M_series M_most M_ratio M_writes M_fuse M_down M_recovers M_looks M_unpacked M_chunks M_epoch M_side M_logged M_nexts M_hasCursor M_cursorMany M_cursorAt M_bits M_from M_askMany M_askLeast M_askGreatest M_askSum M_disk p0 M_nexts hE_1) mw_1088 mw_1090 mp_37 mw_12 mw_1091 hd_X10_write ⟨rfl, rfl⟩ ⟨Nat.le_of_ble_eq_true rfl, Nat.le_of_ble_eq_true rfl⟩ hK hw0 hA [0, 1] [2, 3, 4, 5, 6, 7, 8] [7, 8, 0, 1, 2, 3, 4, 5, 6] rfl rfl rfl rfl rfl (by decide) rfl rfl rfl 0 rfl rfl rfl rfl hl0.1 rfl rfl (Nat.le_of_ble_eq_true rfl) dX10_writeIndex_6 ⟨Nat.zero_le _, Nat.zero_le _⟩ (fun H7 locs7 hw7 => ?_)
  clear hw0
  refine lv_istore_n (lv' := [(2, .int r_2), (0, .ref aM), (1, .int p0)]) hx hb dX10_writeIndex_9 rfl hl0 (by decide) rfl (fun ls8 hl8 => ?_)
  clear hl0 ls0
  refine lv_iconst (v := (0 : Int32)) hx hb dX10_writeIndex_10 (by decide) ?_
  refine lv_istore_n (lv' := [(3, .int (0 : Int32)), (2, .int r_2), (0, .ref aM), (1, .int p0)]) hx hb dX10_writeIndex_11 rfl hl8 (by decide) rfl (fun ls9 hl9 => ?_)
  clear hl8 ls8
  replace hfin := ob5_some hfin
  obtain ⟨v2_20, M_writes_21, M_fuse_22, M_down_23, M_disk_24, hL_16, hfin⟩ := hfin
  have kx_17 : ∀ (H : Heap) (locs : List Loc) (ls : Array Slot), wS G A s H locs [oX10 aM M_thrown M_series M_most M_ratio aMdisk M_writes_21 M_fuse_22 M_down_23 M_recovers M_looks M_unpacked aMits aMmany aMplace aMlength aMtimes aMvalues aMorder M_chunks M_epoch M_side aMheadOf aMheadTime aMheadValue M_logged aMnext aMisNew M_nexts aMcursorTime aMcursorValue M_hasCursor M_cursorMany M_cursorAt aMmade M_bits M_from M_askMany M_askLeast M_askGreatest M_askSum, rI aMdisk cI 4096 M_disk_24, rI aMits cI 240 M_its, rI aMmany cI 240 M_many, rI aMplace cI 240 M_place, rI aMlength cI 240 M_length, rI aMtimes cI 15360 M_times, rI aMvalues cI 15360 M_values, rI aMnext cI 240 M_next] → lv_has ls 8 [(2, .int v2_20)] → W p l e rm_X10_writeIndex s m args below meth c H locs 0 0 QQ (F0 m 235 ls []) := by
    clear hw7 H7 locs7 hl9 ls9 hL_16
    intro H141 locs141 ls141 hw141 hl141
    refine lv_iload_n hx hb dX10_writeIndex_235 rfl (lv_at hl141 0 rfl) ?_
    replace hfin := ckz_some hfin
    obtain ⟨hz_142, hfin⟩ := hfin
    cases hfin
    rw [hQQ]
    exact ct_zret hx hb hr hlocks hz_142 hw141.1 hw141.2.1 hw141.2.2 dX10_writeIndex_236
  have lp_18 : ∀ (n : Nat) (v2_10 : Int32) (v3_11 : Int32) (M_writes_12 : Int32) (M_fuse_13 : Int32) (M_down_14 : Int32) (M_disk_15 : Nat → Int32), lp_X10_writeIndex_12 M_nexts M_its M_many M_place M_length M_times M_values M_next p0 n v2_10 v3_11 M_writes_12 M_fuse_13 M_down_14 M_disk_15 = some (v2_20, M_writes_21, M_fuse_22, M_down_23, M_disk_24) → ∀ (H : Heap) (locs : List Loc) (ls : Array Slot), wS G A s H locs [oX10 aM M_thrown M_series M_most M_ratio aMdisk M_writes_12 M_fuse_13 M_down_14 M_recovers M_looks M_unpacked aMits aMmany aMplace aMlength aMtimes aMvalues aMorder M_chunks M_epoch M_side aMheadOf aMheadTime aMheadValue M_logged aMnext aMisNew M_nexts aMcursorTime aMcursorValue M_hasCursor M_cursorMany M_cursorAt aMmade M_bits M_from M_askMany M_askLeast M_askGreatest M_askSum, rI aMdisk cI 4096 M_disk_15, rI aMits cI 240 M_its, rI aMmany cI 240 M_many, rI aMplace cI 240 M_place, rI aMlength cI 240 M_length, rI aMtimes cI 15360 M_times, rI aMvalues cI 15360 M_values, rI aMnext cI 240 M_next] → lv_has ls 8 [(0, .ref aM), (1, .int p0), (2, .int v2_10), (3, .int v3_11)] → W p l e rm_X10_writeIndex s m args below meth c H locs 0 0 QQ (F0 m 12 ls []) := by
    clear hw7 H7 locs7 hl9 ls9 hfin
    intro n
    induction n with
    | zero =>
      intro v2_10 v3_11 M_writes_12 M_fuse_13 M_down_14 M_disk_15 hB_19
      exact absurd hB_19 (by rw [lp_X10_writeIndex_12]; exact fun h9 => nomatch h9)
    | succ n ih =>
      intro v2_10 v3_11 M_writes_12 M_fuse_13 M_down_14 M_disk_15 hB_19 H25 locs25 ls25 hw25 hl25
      rw [lp_X10_writeIndex_12] at hB_19
      refine lv_iload_n hx hb dX10_writeIndex_12 rfl (lv_at hl25 3 rfl) ?_
      refine lv_aload_n hx hb dX10_writeIndex_13 rfl (lv_at hl25 0 rfl) ?_
      refine va_get (D := G) (ci := 10) (v := .int M_nexts) (C := RX10) (T := TX10) (N := 40) hx hb htc iX10 hown hK hw25.1 0 rfl rfl 27 (by decide) (htc _ mw_974) (fun _ h9 => h9) rfl dX10_writeIndex_14 ?_
      refine lv_icmp_ge (tgt := 235) hx hb dX10_writeIndex_17 (by decide) (fun c_26 => ?_) (fun c_26 => ?_)
      · replace hB_19 := it_t c_26 hB_19
        cases hB_19
        exact kx_17 _ _ _ hw25 (lv_sub hl25 [2] rfl)
      · replace hB_19 := it_f c_26 hB_19
        refine lv_iload_n hx hb dX10_writeIndex_20 rfl (lv_at hl25 2 rfl) ?_
        refine lv_if_eq (tgt := 235) hx hb dX10_writeIndex_21 (by decide) (fun c_27 => ?_) (fun c_27 => ?_)
        · replace hB_19 := it_t c_27 hB_19
          cases hB_19
          exact kx_17 _ _ _ hw25 (lv_sub hl25 [2] rfl)
        · replace hB_19 := it_f c_27 hB_19
          refine lv_aload_n hx hb dX10_writeIndex_24 rfl (lv_at hl25 0 rfl) ?_
          refine va_get (D := G) (ci := 10) (v := .ref aMnext) (C := RX10) (T := TX10) (N := 40) hx hb htc iX10 hown hK hw25.1 0 rfl rfl 25 (by decide) (htc _ mw_972) (fun _ h9 => h9) rfl dX10_writeIndex_25 ?_
          refine lv_iload_n hx hb dX10_writeIndex_28 rfl (lv_at hl25 3 rfl) ?_
          replace hB_19 := ckb_some hB_19
          obtain ⟨hin_28, hB_19⟩ := hB_19
          refine va_iald hx hb hK hw25.1 8 0 rfl rfl hin_28 dX10_writeIndex_29 ?_
          refine lv_istore (lv' := [(4, .int (M_next (Int32.toNatClampNeg v3_11))), (0, .ref aM), (1, .int p0), (2, .int v2_10), (3, .int v3_11)]) hx hb dX10_writeIndex_30 hl25 (by decide) rfl (fun ls29 hl29 => ?_)
          clear hl25 ls25
          refine lv_iload_n hx hb dX10_writeIndex_32 rfl (lv_at hl29 2 rfl) ?_
          refine lv_iconst (v := (1 : Int32)) hx hb dX10_writeIndex_33 (by decide) ?_
          refine lv_iadd hx hb dX10_writeIndex_34 ?_
          refine lv_bipush (v := (10 : Int32)) hx hb dX10_writeIndex_35 (by decide) ?_
          refine lv_iload_n hx hb dX10_writeIndex_37 rfl (lv_at hl29 4 rfl) ?_
          refine lv_imul hx hb dX10_writeIndex_38 ?_
          refine lv_iadd hx hb dX10_writeIndex_39 ?_
          refine lv_istore (lv' := [(5, .int ((p0 + (1 : Int32)) + ((10 : Int32) * v3_11))), (4, .int (M_next (Int32.toNatClampNeg v3_11))), (0, .ref aM), (1, .int p0), (2, .int v2_10), (3, .int v3_11)]) hx hb dX10_writeIndex_40 hl29 (by decide) rfl (fun ls30 hl30 => ?_)
          clear hl29 ls29
          refine lv_aload_n hx hb dX10_writeIndex_42 rfl (lv_at hl30 2 rfl) ?_
          refine lv_iload hx hb dX10_writeIndex_43 (lv_at hl30 1 rfl) ?_
          replace hB_19 := ob1_some hB_19
          obtain ⟨r_32, hE_31, hB_19⟩ := hB_19
          refine ctV (a := aM) (As := [.int (M_next (Int32.toNatClampNeg v3_11))]) (rest := []) (st1 := [.long r_32]) (wc := [oX10 aM M_thrown M_series M_most M_ratio aMdisk M_writes_12 M_fuse_13 M_down_14 M_recovers M_looks M_unpacked aMits aMmany aMplace aMlength aMtimes aMvalues aMorder M_chunks M_epoch M_side aMheadOf aMheadTime aMheadValue M_logged aMnext aMisNew M_nexts aMcursorTime aMcursorValue M_hasCursor M_cursorMany M_cursorAt aMmade M_bits M_from M_askMany M_askLeast M_askGreatest M_askSum, rI aMmany cI 240 M_many, rI aMvalues cI 15360 M_values]) (w1 := [oX10 aM M_thrown M_series M_most M_ratio aMdisk M_writes_12 M_fuse_13 M_down_14 M_recovers M_looks M_unpacked aMits aMmany aMplace aMlength aMtimes aMvalues aMorder M_chunks M_epoch M_side aMheadOf aMheadTime aMheadValue M_logged aMnext aMisNew M_nexts aMcursorTime aMcursorValue M_hasCursor M_cursorMany M_cursorAt aMmade M_bits M_from M_askMany M_askLeast M_askGreatest M_askSum, rI aMmany cI 240 M_many, rI aMvalues cI 15360 M_values]) (wr := [rI aMdisk cI 4096 M_disk_15, rI aMits cI 240 M_its, rI aMplace cI 240 M_place, rI aMlength cI 240 M_length, rI aMtimes cI 15360 M_times, rI aMnext cI 240 M_next]) (wb := [oX10 aM M_thrown M_series M_most M_ratio aMdisk M_writes_12 M_fuse_13 M_down_14 M_recovers M_looks M_unpacked aMits aMmany aMplace aMlength aMtimes aMvalues aMorder M_chunks M_epoch M_side aMheadOf aMheadTime aMheadValue M_logged aMnext aMisNew M_nexts aMcursorTime aMcursorValue M_hasCursor M_cursorMany M_cursorAt aMmade M_bits M_from M_askMany M_askLeast M_askGreatest M_askSum, rI aMdisk cI 4096 M_disk_15, rI aMits cI 240 M_its, rI aMmany cI 240 M_many, rI aMplace cI 240 M_place, rI aMlength cI 240 M_length, rI aMtimes cI 15360 M_times, rI aMvalues cI 15360 M_values, rI aMnext cI 240 M_next]) (v := (some (.long r_32))) hx hb hml hown htc hN (c_X10_sumOf l G cI cZ cJ aM aMdisk aMits aMmany aMplace aMlength aMtimes aMvalues aMorder aMheadOf aMheadTime aMheadValue aMnext aMisNew aMcursorTime aMcursorValue aMmade M_thrown M_series M_most M_ratio M_writes_12 M_fuse_13 M_down_14 M_recovers M_looks M_unpacked M_chunks M_epoch M_side M_logged M_nexts M_hasCursor M_cursorMany M_cursorAt M_bits M_from M_askMany M_askLeast M_askGreatest M_askSum M_many M_values (M_next (Int32.toNatClampNeg v3_11)) hE_31) mw_1177 mw_1179 mp_55 mw_12 mw_1180 hd_X10_sumOf ⟨rfl, rfl⟩ ⟨Nat.le_of_ble_eq_true rfl, Nat.le_of_ble_eq_true rfl⟩ hK hw25 hA [0, 3, 7] [1, 2, 4, 5, 6, 8] [6, 0, 1, 7, 2, 3, 4, 8, 5] rfl rfl rfl rfl rfl (by decide) rfl rfl rfl 0 rfl rfl rfl rfl hl30.1 rfl rfl (Nat.le_of_ble_eq_true rfl) dX10_writeIndex_45 ⟨Nat.zero_le _, Nat.zero_le _⟩ (fun H33 locs33 hw33 => ?_)
          clear hw25 H25 locs25
          refine lv_lstore (lv' := [(6, .long r_32), (5, .int ((p0 + (1 : Int32)) + ((10 : Int32) * v3_11))), (4, .int (M_next (Int32.toNatClampNeg v3_11))), (0, .ref aM), (1, .int p0), (2, .int v2_10), (3, .int v3_11)]) hx hb dX10_writeIndex_48 hl30 (by decide) rfl (fun ls34 hl34 => ?_)
          clear hl30 ls30
          refine lv_aload_n hx hb dX10_writeIndex_50 rfl (lv_at hl34 3 rfl) ?_
          refine lv_iload hx hb dX10_writeIndex_51 (lv_at hl34 1 rfl) ?_
          refine lv_aload_n hx hb dX10_writeIndex_53 rfl (lv_at hl34 3 rfl) ?_
          refine va_get (D := G) (ci := 10) (v := .ref aMits) (C := RX10) (T := TX10) (N := 40) hx hb htc iX10 hown hK hw33.1 0 rfl rfl 11 (by decide) (htc _ mw_958) (fun _ h9 => h9) rfl dX10_writeIndex_54 ?_
          refine lv_iload hx hb dX10_writeIndex_57 (lv_at hl34 2 rfl) ?_
          replace hB_19 := ckb_some hB_19
          obtain ⟨hin_35, hB_19⟩ := hB_19
          refine va_iald hx hb hK hw33.1 2 0 rfl rfl hin_35 dX10_writeIndex_59 ?_
          replace hB_19 := ob5_some hB_19
          obtain ⟨r_37, M_writes_38, M_fuse_39, M_down_40, M_disk_41, hE_36, hB_19⟩ := hB_19
          refine ctV (a := aM) (As := [.int ((p0 + (1 : Int32)) + ((10 : Int32) * v3_11)), .int (M_its (Int32.toNatClampNeg (M_next (Int32.toNatClampNeg v3_11))))]) (rest := []) (st1 := [.int r_37]) (wc := [oX10 aM M_thrown M_series M_most M_ratio aMdisk M_writes_12 M_fuse_13 M_down_14 M_recovers M_looks M_unpacked aMits aMmany aMplace aMlength aMtimes aMvalues aMorder M_chunks M_epoch M_side aMheadOf aMheadTime aMheadValue M_logged aMnext aMisNew M_nexts aMcursorTime aMcursorValue M_hasCursor M_cursorMany M_cursorAt aMmade M_bits M_from M_askMany M_askLeast M_askGreatest M_askSum, rI aMdisk cI 4096 M_disk_15]) (w1 := [oX10 aM M_thrown M_series M_most M_ratio aMdisk M_writes_38 M_fuse_39 M_down_40 M_recovers M_looks M_unpacked aMits aMmany aMplace aMlength aMtimes aMvalues aMorder M_chunks M_epoch M_side aMheadOf aMheadTime aMheadValue M_logged aMnext aMisNew M_nexts aMcursorTime aMcursorValue M_hasCursor M_cursorMany M_cursorAt aMmade M_bits M_from M_askMany M_askLeast M_askGreatest M_askSum, rI aMdisk cI 4096 M_disk_41]) (wr := [rI aMits cI 240 M_its, rI aMmany cI 240 M_many, rI aMplace cI 240 M_place, rI aMlength cI 240 M_length, rI aMtimes cI 15360 M_times, rI aMvalues cI 15360 M_values, rI aMnext cI 240 M_next]) (wb := [oX10 aM M_thrown M_series M_most M_ratio aMdisk M_writes_38 M_fuse_39 M_down_40 M_recovers M_looks M_unpacked aMits aMmany aMplace aMlength aMtimes aMvalues aMorder M_chunks M_epoch M_side aMheadOf aMheadTime aMheadValue M_logged aMnext aMisNew M_nexts aMcursorTime aMcursorValue M_hasCursor M_cursorMany M_cursorAt aMmade M_bits M_from M_askMany M_askLeast M_askGreatest M_askSum, rI aMdisk cI 4096 M_disk_41, rI aMits cI 240 M_its, rI aMmany cI 240 M_many, rI aMplace cI 240 M_place, rI aMlength cI 240 M_length, rI aMtimes cI 15360 M_times, rI aMvalues cI 15360 M_values, rI aMnext cI 240 M_next]) (v := (some (.int r_37))) hx hb hml hown htc hN (c_X10_write l G cI cZ cJ aM aMdisk aMits aMmany aMplace aMlength aMtimes aMvalues aMorder aMheadOf aMheadTime aMheadValue aMnext aMisNew aMcursorTime aMcursorValue aMmade M_thrown M_series M_most M_ratio M_writes_12 M_fuse_13 M_down_14 M_recovers M_looks M_unpacked M_chunks M_epoch M_side M_logged M_nexts M_hasCursor M_cursorMany M_cursorAt M_bits M_from M_askMany M_askLeast M_askGreatest M_askSum M_disk_15 ((p0 + (1 : Int32)) + ((10 : Int32) * v3_11)) (M_its (Int32.toNatClampNeg (M_next (Int32.toNatClampNeg v3_11)))) hE_36) mw_1088 mw_1090 mp_37 mw_12 mw_1091 hd_X10_write ⟨rfl, rfl⟩ ⟨Nat.le_of_ble_eq_true rfl, Nat.le_of_ble_eq_true rfl⟩ hK hw33 hA [0, 1] [2, 3, 4, 5, 6, 7, 8] [7, 8, 0, 1, 2, 3, 4, 5, 6] rfl rfl rfl rfl rfl (by decide) rfl rfl rfl 0 rfl rfl rfl rfl hl34.1 rfl rfl (Nat.le_of_ble_eq_true rfl) dX10_writeIndex_60 ⟨Nat.zero_le _, Nat.zero_le _⟩ (fun H42 locs42 hw42 => ?_)
          clear hw33 H33 locs33
          replace hB_19 := ob5_some hB_19
          obtain ⟨s_43, M_writes_44, M_fuse_45, M_down_46, M_disk_47, hJ_48, hB_19⟩ := hB_19
          have kj_49 : ∀ (H : Heap) (locs : List Loc) (ls : Array Slot), wS G A s H locs [oX10 aM M_thrown M_series M_most M_ratio aMdisk M_writes_44 M_fuse_45 M_down_46 M_recovers M_looks M_unpacked aMits aMmany aMplace aMlength aMtimes aMvalues aMorder M_chunks M_epoch M_side aMheadOf aMheadTime aMheadValue M_logged aMnext aMisNew M_nexts aMcursorTime aMcursorValue M_hasCursor M_cursorMany M_cursorAt aMmade M_bits M_from M_askMany M_askLeast M_askGreatest M_askSum, rI aMdisk cI 4096 M_disk_47, rI aMits cI 240 M_its, rI aMmany cI 240 M_many, rI aMplace cI 240 M_place, rI aMlength cI 240 M_length, rI aMtimes cI 15360 M_times, rI aMvalues cI 15360 M_values, rI aMnext cI 240 M_next] → lv_has ls 8 [(0, .ref aM), (1, .int p0), (3, .int v3_11)] → W p l e rm_X10_writeIndex s m args below meth c H locs 0 0 QQ (F0 m 228 ls [.int s_43]) := by
            clear hw42 H42 locs42 hl34 ls34 hJ_48
            intro H138 locs138 ls138 hw138 hl138
            refine lv_istore_n (lv' := [(2, .int s_43), (0, .ref aM), (1, .int p0), (3, .int v3_11)]) hx hb dX10_writeIndex_228 rfl hl138 (by decide) rfl (fun ls139 hl139 => ?_)
            clear hl138 ls138
            refine lv_iinc (v := (v3_11 + (1 : Int32))) (lv' := [(3, .int (v3_11 + (1 : Int32))), (2, .int s_43), (0, .ref aM), (1, .int p0)]) hx hb dX10_writeIndex_229 hl139 (k := 3) rfl rfl (by decide) rfl (fun ls140 hl140 => ?_)
            clear hl139 ls139
            refine lv_goto (tgt := 12) hx hb dX10_writeIndex_232 (by decide) ?_
            exact ih s_43 (v3_11 + (1 : Int32)) M_writes_44 M_fuse_45 M_down_46 M_disk_47 hB_19 _ _ _ hw138 (lv_sub hl140 [2, 3, 1, 0] rfl)
          clear hB_19
          refine lv_if_eq (tgt := 227) hx hb dX10_writeIndex_63 (by decide) (fun c_50 => ?_) (fun c_50 => ?_)
          · replace hJ_48 := it_t c_50 hJ_48
            refine lv_iconst (v := (0 : Int32)) hx hb dX10_writeIndex_227 (by decide) ?_
            cases hJ_48
            exact kj_49 _ _ _ hw42 (lv_sub hl34 [3, 4, 6] rfl)
          · replace hJ_48 := it_f c_50 hJ_48
            refine lv_aload_n hx hb dX10_writeIndex_66 rfl (lv_at hl34 3 rfl) ?_
            refine lv_iload hx hb dX10_writeIndex_67 (lv_at hl34 1 rfl) ?_
            refine lv_iconst (v := (1 : Int32)) hx hb dX10_writeIndex_69 (by decide) ?_
            refine lv_iadd hx hb dX10_writeIndex_70 ?_
            refine lv_aload_n hx hb dX10_writeIndex_71 rfl (lv_at hl34 3 rfl) ?_
            refine lv_iload hx hb dX10_writeIndex_72 (lv_at hl34 2 rfl) ?_
            replace hJ_48 := ob1_some hJ_48
            obtain ⟨r_52, hE_51, hJ_48⟩ := hJ_48
            refine ctV (a := aM) (As := [.int (M_next (Int32.toNatClampNeg v3_11))]) (rest := [.int (((p0 + (1 : Int32)) + ((10 : Int32) * v3_11)) + (1 : Int32)), .ref aM]) (st1 := [.int r_52, .int (((p0 + (1 : Int32)) + ((10 : Int32) * v3_11)) + (1 : Int32)), .ref aM]) (wc := [oX10 aM M_thrown M_series M_most M_ratio aMdisk M_writes_38 M_fuse_39 M_down_40 M_recovers M_looks M_unpacked aMits aMmany aMplace aMlength aMtimes aMvalues aMorder M_chunks M_epoch M_side aMheadOf aMheadTime aMheadValue M_logged aMnext aMisNew M_nexts aMcursorTime aMcursorValue M_hasCursor M_cursorMany M_cursorAt aMmade M_bits M_from M_askMany M_askLeast M_askGreatest M_askSum, rI aMtimes cI 15360 M_times]) (w1 := [oX10 aM M_thrown M_series M_most M_ratio aMdisk M_writes_38 M_fuse_39 M_down_40 M_recovers M_looks M_unpacked aMits aMmany aMplace aMlength aMtimes aMvalues aMorder M_chunks M_epoch M_side aMheadOf aMheadTime aMheadValue M_logged aMnext aMisNew M_nexts aMcursorTime aMcursorValue M_hasCursor M_cursorMany M_cursorAt aMmade M_bits M_from M_askMany M_askLeast M_askGreatest M_askSum, rI aMtimes cI 15360 M_times]) (wr := [rI aMdisk cI 4096 M_disk_41, rI aMits cI 240 M_its, rI aMmany cI 240 M_many, rI aMplace cI 240 M_place, rI aMlength cI 240 M_length, rI aMvalues cI 15360 M_values, rI aMnext cI 240 M_next]) (wb := [oX10 aM M_thrown M_series M_most M_ratio aMdisk M_writes_38 M_fuse_39 M_down_40 M_recovers M_looks M_unpacked aMits aMmany aMplace aMlength aMtimes aMvalues aMorder M_chunks M_epoch M_side aMheadOf aMheadTime aMheadValue M_logged aMnext aMisNew M_nexts aMcursorTime aMcursorValue M_hasCursor M_cursorMany M_cursorAt aMmade M_bits M_from M_askMany M_askLeast M_askGreatest M_askSum, rI aMdisk cI 4096 M_disk_41, rI aMits cI 240 M_its, rI aMmany cI 240 M_many, rI aMplace cI 240 M_place, rI aMlength cI 240 M_length, rI aMtimes cI 15360 M_times, rI aMvalues cI 15360 M_values, rI aMnext cI 240 M_next]) (v := (some (.int r_52))) hx hb hml hown htc hN (c_X10_firstTime l G cI cZ cJ aM aMdisk aMits aMmany aMplace aMlength aMtimes aMvalues aMorder aMheadOf aMheadTime aMheadValue aMnext aMisNew aMcursorTime aMcursorValue aMmade M_thrown M_series M_most M_ratio M_writes_38 M_fuse_39 M_down_40 M_recovers M_looks M_unpacked M_chunks M_epoch M_side M_logged M_nexts M_hasCursor M_cursorMany M_cursorAt M_bits M_from M_askMany M_askLeast M_askGreatest M_askSum M_times (M_next (Int32.toNatClampNeg v3_11)) hE_51) mw_1181 mw_1183 mp_56 mw_12 mw_1184 hd_X10_firstTime ⟨rfl, rfl⟩ ⟨Nat.le_of_ble_eq_true rfl, Nat.le_of_ble_eq_true rfl⟩ hK hw42 hA [0, 6] [1, 2, 3, 4, 5, 7, 8] [7, 0, 1, 2, 3, 4, 8, 5, 6] rfl rfl rfl rfl rfl (by decide) rfl rfl rfl 0 rfl rfl rfl rfl hl34.1 rfl rfl (Nat.le_of_ble_eq_true rfl) dX10_writeIndex_74 ⟨Nat.zero_le _, Nat.zero_le _⟩ (fun H53 locs53 hw53 => ?_)
            clear hw42 H42 locs42
            replace hJ_48 := ob5_some hJ_48
            obtain ⟨r_55, M_writes_56, M_fuse_57, M_down_58, M_disk_59, hE_54, hJ_48⟩ := hJ_48
            refine ctV (a := aM) (As := [.int (((p0 + (1 : Int32)) + ((10 : Int32) * v3_11)) + (1 : Int32)), .int r_52]) (rest := []) (st1 := [.int r_55]) (wc := [oX10 aM M_thrown M_series M_most M_ratio aMdisk M_writes_38 M_fuse_39 M_down_40 M_recovers M_looks M_unpacked aMits aMmany aMplace aMlength aMtimes aMvalues aMorder M_chunks M_epoch M_side aMheadOf aMheadTime aMheadValue M_logged aMnext aMisNew M_nexts aMcursorTime aMcursorValue M_hasCursor M_cursorMany M_cursorAt aMmade M_bits M_from M_askMany M_askLeast M_askGreatest M_askSum, rI aMdisk cI 4096 M_disk_41]) (w1 := [oX10 aM M_thrown M_series M_most M_ratio aMdisk M_writes_56 M_fuse_57 M_down_58 M_recovers M_looks M_unpacked aMits aMmany aMplace aMlength aMtimes aMvalues aMorder M_chunks M_epoch M_side aMheadOf aMheadTime aMheadValue M_logged aMnext aMisNew M_nexts aMcursorTime aMcursorValue M_hasCursor M_cursorMany M_cursorAt aMmade M_bits M_from M_askMany M_askLeast M_askGreatest M_askSum, rI aMdisk cI 4096 M_disk_59]) (wr := [rI aMits cI 240 M_its, rI aMmany cI 240 M_many, rI aMplace cI 240 M_place, rI aMlength cI 240 M_length, rI aMtimes cI 15360 M_times, rI aMvalues cI 15360 M_values, rI aMnext cI 240 M_next]) (wb := [oX10 aM M_thrown M_series M_most M_ratio aMdisk M_writes_56 M_fuse_57 M_down_58 M_recovers M_looks M_unpacked aMits aMmany aMplace aMlength aMtimes aMvalues aMorder M_chunks M_epoch M_side aMheadOf aMheadTime aMheadValue M_logged aMnext aMisNew M_nexts aMcursorTime aMcursorValue M_hasCursor M_cursorMany M_cursorAt aMmade M_bits M_from M_askMany M_askLeast M_askGreatest M_askSum, rI aMdisk cI 4096 M_disk_59, rI aMits cI 240 M_its, rI aMmany cI 240 M_many, rI aMplace cI 240 M_place, rI aMlength cI 240 M_length, rI aMtimes cI 15360 M_times, rI aMvalues cI 15360 M_values, rI aMnext cI 240 M_next]) (v := (some (.int r_55))) hx hb hml hown htc hN (c_X10_write l G cI cZ cJ aM aMdisk aMits aMmany aMplace aMlength aMtimes aMvalues aMorder aMheadOf aMheadTime aMheadValue aMnext aMisNew aMcursorTime aMcursorValue aMmade M_thrown M_series M_most M_ratio M_writes_38 M_fuse_39 M_down_40 M_recovers M_looks M_unpacked M_chunks M_epoch M_side M_logged M_nexts M_hasCursor M_cursorMany M_cursorAt M_bits M_from M_askMany M_askLeast M_askGreatest M_askSum M_disk_41 (((p0 + (1 : Int32)) + ((10 : Int32) * v3_11)) + (1 : Int32)) r_52 hE_54) mw_1088 mw_1090 mp_37 mw_12 mw_1091 hd_X10_write ⟨rfl, rfl⟩ ⟨Nat.le_of_ble_eq_true rfl, Nat.le_of_ble_eq_true rfl⟩ hK hw53 hA [0, 1] [2, 3, 4, 5, 6, 7, 8] [7, 8, 0, 1, 2, 3, 4, 5, 6] rfl rfl rfl rfl rfl (by decide) rfl rfl rfl 0 rfl rfl rfl rfl hl34.1 rfl rfl (Nat.le_of_ble_eq_true rfl) dX10_writeIndex_77 ⟨Nat.zero_le _, Nat.zero_le _⟩ (fun H60 locs60 hw60 => ?_)
            clear hw53 H53 locs53
            refine lv_if_eq (tgt := 227) hx hb dX10_writeIndex_80 (by decide) (fun c_61 => ?_) (fun c_61 => ?_)
            · replace hJ_48 := it_t c_61 hJ_48
              refine lv_iconst (v := (0 : Int32)) hx hb dX10_writeIndex_227 (by decide) ?_
              cases hJ_48
              exact kj_49 _ _ _ hw60 (lv_sub hl34 [3, 4, 6] rfl)
            · replace hJ_48 := it_f c_61 hJ_48
              refine lv_aload_n hx hb dX10_writeIndex_83 rfl (lv_at hl34 3 rfl) ?_
              refine lv_iload hx hb dX10_writeIndex_84 (lv_at hl34 1 rfl) ?_
              refine lv_iconst (v := (2 : Int32)) hx hb dX10_writeIndex_86 (by decide) ?_
              refine lv_iadd hx hb dX10_writeIndex_87 ?_
              refine lv_aload_n hx hb dX10_writeIndex_88 rfl (lv_at hl34 3 rfl) ?_
              refine lv_iload hx hb dX10_writeIndex_89 (lv_at hl34 2 rfl) ?_
              replace hJ_48 := ob1_some hJ_48
              obtain ⟨r_63, hE_62, hJ_48⟩ := hJ_48
              refine ctV (a := aM) (As := [.int (M_next (Int32.toNatClampNeg v3_11))]) (rest := [.int (((p0 + (1 : Int32)) + ((10 : Int32) * v3_11)) + (2 : Int32)), .ref aM]) (st1 := [.int r_63, .int (((p0 + (1 : Int32)) + ((10 : Int32) * v3_11)) + (2 : Int32)), .ref aM]) (wc := [oX10 aM M_thrown M_series M_most M_ratio aMdisk M_writes_56 M_fuse_57 M_down_58 M_recovers M_looks M_unpacked aMits aMmany aMplace aMlength aMtimes aMvalues aMorder M_chunks M_epoch M_side aMheadOf aMheadTime aMheadValue M_logged aMnext aMisNew M_nexts aMcursorTime aMcursorValue M_hasCursor M_cursorMany M_cursorAt aMmade M_bits M_from M_askMany M_askLeast M_askGreatest M_askSum, rI aMmany cI 240 M_many, rI aMtimes cI 15360 M_times]) (w1 := [oX10 aM M_thrown M_series M_most M_ratio aMdisk M_writes_56 M_fuse_57 M_down_58 M_recovers M_looks M_unpacked aMits aMmany aMplace aMlength aMtimes aMvalues aMorder M_chunks M_epoch M_side aMheadOf aMheadTime aMheadValue M_logged aMnext aMisNew M_nexts aMcursorTime aMcursorValue M_hasCursor M_cursorMany M_cursorAt aMmade M_bits M_from M_askMany M_askLeast M_askGreatest M_askSum, rI aMmany cI 240 M_many, rI aMtimes cI 15360 M_times]) (wr := [rI aMdisk cI 4096 M_disk_59, rI aMits cI 240 M_its, rI aMplace cI 240 M_place, rI aMlength cI 240 M_length, rI aMvalues cI 15360 M_values, rI aMnext cI 240 M_next]) (wb := [oX10 aM M_thrown M_series M_most M_ratio aMdisk M_writes_56 M_fuse_57 M_down_58 M_recovers M_looks M_unpacked aMits aMmany aMplace aMlength aMtimes aMvalues aMorder M_chunks M_epoch M_side aMheadOf aMheadTime aMheadValue M_logged aMnext aMisNew M_nexts aMcursorTime aMcursorValue M_hasCursor M_cursorMany M_cursorAt aMmade M_bits M_from M_askMany M_askLeast M_askGreatest M_askSum, rI aMdisk cI 4096 M_disk_59, rI aMits cI 240 M_its, rI aMmany cI 240 M_many, rI aMplace cI 240 M_place, rI aMlength cI 240 M_length, rI aMtimes cI 15360 M_times, rI aMvalues cI 15360 M_values, rI aMnext cI 240 M_next]) (v := (some (.int r_63))) hx hb hml hown htc hN (c_X10_lastTime l G cI cZ cJ aM aMdisk aMits aMmany aMplace aMlength aMtimes aMvalues aMorder aMheadOf aMheadTime aMheadValue aMnext aMisNew aMcursorTime aMcursorValue aMmade M_thrown M_series M_most M_ratio M_writes_56 M_fuse_57 M_down_58 M_recovers M_looks M_unpacked M_chunks M_epoch M_side M_logged M_nexts M_hasCursor M_cursorMany M_cursorAt M_bits M_from M_askMany M_askLeast M_askGreatest M_askSum M_many M_times (M_next (Int32.toNatClampNeg v3_11)) hE_62) mw_1185 mw_1187 mp_57 mw_12 mw_1188 hd_X10_lastTime ⟨rfl, rfl⟩ ⟨Nat.le_of_ble_eq_true rfl, Nat.le_of_ble_eq_true rfl⟩ hK hw60 hA [0, 3, 6] [1, 2, 4, 5, 7, 8] [6, 0, 1, 7, 2, 3, 8, 4, 5] rfl rfl rfl rfl rfl (by decide) rfl rfl rfl 0 rfl rfl rfl rfl hl34.1 rfl rfl (Nat.le_of_ble_eq_true rfl) dX10_writeIndex_91 ⟨Nat.zero_le _, Nat.zero_le _⟩ (fun H64 locs64 hw64 => ?_)
              clear hw60 H60 locs60
              replace hJ_48 := ob5_some hJ_48
              obtain ⟨r_66, M_writes_67, M_fuse_68, M_down_69, M_disk_70, hE_65, hJ_48⟩ := hJ_48
              refine ctV (a := aM) (As := [.int (((p0 + (1 : Int32)) + ((10 : Int32) * v3_11)) + (2 : Int32)), .int r_63]) (rest := []) (st1 := [.int r_66]) (wc := [oX10 aM M_thrown M_series M_most M_ratio aMdisk M_writes_56 M_fuse_57 M_down_58 M_recovers M_looks M_unpacked aMits aMmany aMplace aMlength aMtimes aMvalues aMorder M_chunks M_epoch M_side aMheadOf aMheadTime aMheadValue M_logged aMnext aMisNew M_nexts aMcursorTime aMcursorValue M_hasCursor M_cursorMany M_cursorAt aMmade M_bits M_from M_askMany M_askLeast M_askGreatest M_askSum, rI aMdisk cI 4096 M_disk_59]) (w1 := [oX10 aM M_thrown M_series M_most M_ratio aMdisk M_writes_67 M_fuse_68 M_down_69 M_recovers M_looks M_unpacked aMits aMmany aMplace aMlength aMtimes aMvalues aMorder M_chunks M_epoch M_side aMheadOf aMheadTime aMheadValue M_logged aMnext aMisNew M_nexts aMcursorTime aMcursorValue M_hasCursor M_cursorMany M_cursorAt aMmade M_bits M_from M_askMany M_askLeast M_askGreatest M_askSum, rI aMdisk cI 4096 M_disk_70]) (wr := [rI aMits cI 240 M_its, rI aMmany cI 240 M_many, rI aMplace cI 240 M_place, rI aMlength cI 240 M_length, rI aMtimes cI 15360 M_times, rI aMvalues cI 15360 M_values, rI aMnext cI 240 M_next]) (wb := [oX10 aM M_thrown M_series M_most M_ratio aMdisk M_writes_67 M_fuse_68 M_down_69 M_recovers M_looks M_unpacked aMits aMmany aMplace aMlength aMtimes aMvalues aMorder M_chunks M_epoch M_side aMheadOf aMheadTime aMheadValue M_logged aMnext aMisNew M_nexts aMcursorTime aMcursorValue M_hasCursor M_cursorMany M_cursorAt aMmade M_bits M_from M_askMany M_askLeast M_askGreatest M_askSum, rI aMdisk cI 4096 M_disk_70, rI aMits cI 240 M_its, rI aMmany cI 240 M_many, rI aMplace cI 240 M_place, rI aMlength cI 240 M_length, rI aMtimes cI 15360 M_times, rI aMvalues cI 15360 M_values, rI aMnext cI 240 M_next]) (v := (some (.int r_66))) hx hb hml hown htc hN (c_X10_write l G cI cZ cJ aM aMdisk aMits aMmany aMplace aMlength aMtimes aMvalues aMorder aMheadOf aMheadTime aMheadValue aMnext aMisNew aMcursorTime aMcursorValue aMmade M_thrown M_series M_most M_ratio M_writes_56 M_fuse_57 M_down_58 M_recovers M_looks M_unpacked M_chunks M_epoch M_side M_logged M_nexts M_hasCursor M_cursorMany M_cursorAt M_bits M_from M_askMany M_askLeast M_askGreatest M_askSum M_disk_59 (((p0 + (1 : Int32)) + ((10 : Int32) * v3_11)) + (2 : Int32)) r_63 hE_65) mw_1088 mw_1090 mp_37 mw_12 mw_1091 hd_X10_write ⟨rfl, rfl⟩ ⟨Nat.le_of_ble_eq_true rfl, Nat.le_of_ble_eq_true rfl⟩ hK hw64 hA [0, 1] [2, 3, 4, 5, 6, 7, 8] [7, 8, 0, 1, 2, 3, 4, 5, 6] rfl rfl rfl rfl rfl (by decide) rfl rfl rfl 0 rfl rfl rfl rfl hl34.1 rfl rfl (Nat.le_of_ble_eq_true rfl) dX10_writeIndex_94 ⟨Nat.zero_le _, Nat.zero_le _⟩ (fun H71 locs71 hw71 => ?_)
              clear hw64 H64 locs64
              refine lv_if_eq (tgt := 227) hx hb dX10_writeIndex_97 (by decide) (fun c_72 => ?_) (fun c_72 => ?_)
              · replace hJ_48 := it_t c_72 hJ_48
                refine lv_iconst (v := (0 : Int32)) hx hb dX10_writeIndex_227 (by decide) ?_
                cases hJ_48
                exact kj_49 _ _ _ hw71 (lv_sub hl34 [3, 4, 6] rfl)
              · replace hJ_48 := it_f c_72 hJ_48
                refine lv_aload_n hx hb dX10_writeIndex_100 rfl (lv_at hl34 3 rfl) ?_
                refine lv_iload hx hb dX10_writeIndex_101 (lv_at hl34 1 rfl) ?_
                refine lv_iconst (v := (3 : Int32)) hx hb dX10_writeIndex_103 (by decide) ?_
                refine lv_iadd hx hb dX10_writeIndex_104 ?_
                refine lv_aload_n hx hb dX10_writeIndex_105 rfl (lv_at hl34 3 rfl) ?_
                refine va_get (D := G) (ci := 10) (v := .ref aMmany) (C := RX10) (T := TX10) (N := 40) hx hb htc iX10 hown hK hw71.1 0 rfl rfl 12 (by decide) (htc _ mw_959) (fun _ h9 => h9) rfl dX10_writeIndex_106 ?_
                refine lv_iload hx hb dX10_writeIndex_109 (lv_at hl34 2 rfl) ?_
                replace hJ_48 := ckb_some hJ_48
                obtain ⟨hin_73, hJ_48⟩ := hJ_48
                refine va_iald hx hb hK hw71.1 3 0 rfl rfl hin_73 dX10_writeIndex_111 ?_
                replace hJ_48 := ob5_some hJ_48
                obtain ⟨r_75, M_writes_76, M_fuse_77, M_down_78, M_disk_79, hE_74, hJ_48⟩ := hJ_48
                refine ctV (a := aM) (As := [.int (((p0 + (1 : Int32)) + ((10 : Int32) * v3_11)) + (3 : Int32)), .int (M_many (Int32.toNatClampNeg (M_next (Int32.toNatClampNeg v3_11))))]) (rest := []) (st1 := [.int r_75]) (wc := [oX10 aM M_thrown M_series M_most M_ratio aMdisk M_writes_67 M_fuse_68 M_down_69 M_recovers M_looks M_unpacked aMits aMmany aMplace aMlength aMtimes aMvalues aMorder M_chunks M_epoch M_side aMheadOf aMheadTime aMheadValue M_logged aMnext aMisNew M_nexts aMcursorTime aMcursorValue M_hasCursor M_cursorMany M_cursorAt aMmade M_bits M_from M_askMany M_askLeast M_askGreatest M_askSum, rI aMdisk cI 4096 M_disk_70]) (w1 := [oX10 aM M_thrown M_series M_most M_ratio aMdisk M_writes_76 M_fuse_77 M_down_78 M_recovers M_looks M_unpacked aMits aMmany aMplace aMlength aMtimes aMvalues aMorder M_chunks M_epoch M_side aMheadOf aMheadTime aMheadValue M_logged aMnext aMisNew M_nexts aMcursorTime aMcursorValue M_hasCursor M_cursorMany M_cursorAt aMmade M_bits M_from M_askMany M_askLeast M_askGreatest M_askSum, rI aMdisk cI 4096 M_disk_79]) (wr := [rI aMits cI 240 M_its, rI aMmany cI 240 M_many, rI aMplace cI 240 M_place, rI aMlength cI 240 M_length, rI aMtimes cI 15360 M_times, rI aMvalues cI 15360 M_values, rI aMnext cI 240 M_next]) (wb := [oX10 aM M_thrown M_series M_most M_ratio aMdisk M_writes_76 M_fuse_77 M_down_78 M_recovers M_looks M_unpacked aMits aMmany aMplace aMlength aMtimes aMvalues aMorder M_chunks M_epoch M_side aMheadOf aMheadTime aMheadValue M_logged aMnext aMisNew M_nexts aMcursorTime aMcursorValue M_hasCursor M_cursorMany M_cursorAt aMmade M_bits M_from M_askMany M_askLeast M_askGreatest M_askSum, rI aMdisk cI 4096 M_disk_79, rI aMits cI 240 M_its, rI aMmany cI 240 M_many, rI aMplace cI 240 M_place, rI aMlength cI 240 M_length, rI aMtimes cI 15360 M_times, rI aMvalues cI 15360 M_values, rI aMnext cI 240 M_next]) (v := (some (.int r_75))) hx hb hml hown htc hN (c_X10_write l G cI cZ cJ aM aMdisk aMits aMmany aMplace aMlength aMtimes aMvalues aMorder aMheadOf aMheadTime aMheadValue aMnext aMisNew aMcursorTime aMcursorValue aMmade M_thrown M_series M_most M_ratio M_writes_67 M_fuse_68 M_down_69 M_recovers M_looks M_unpacked M_chunks M_epoch M_side M_logged M_nexts M_hasCursor M_cursorMany M_cursorAt M_bits M_from M_askMany M_askLeast M_askGreatest M_askSum M_disk_70 (((p0 + (1 : Int32)) + ((10 : Int32) * v3_11)) + (3 : Int32)) (M_many (Int32.toNatClampNeg (M_next (Int32.toNatClampNeg v3_11)))) hE_74) mw_1088 mw_1090 mp_37 mw_12 mw_1091 hd_X10_write ⟨rfl, rfl⟩ ⟨Nat.le_of_ble_eq_true rfl, Nat.le_of_ble_eq_true rfl⟩ hK hw71 hA [0, 1] [2, 3, 4, 5, 6, 7, 8] [7, 8, 0, 1, 2, 3, 4, 5, 6] rfl rfl rfl rfl rfl (by decide) rfl rfl rfl 0 rfl rfl rfl rfl hl34.1 rfl rfl (Nat.le_of_ble_eq_true rfl) dX10_writeIndex_112 ⟨Nat.zero_le _, Nat.zero_le _⟩ (fun H80 locs80 hw80 => ?_)
                clear hw71 H71 locs71
                refine lv_if_eq (tgt := 227) hx hb dX10_writeIndex_115 (by decide) (fun c_81 => ?_) (fun c_81 => ?_)
                · replace hJ_48 := it_t c_81 hJ_48
                  refine lv_iconst (v := (0 : Int32)) hx hb dX10_writeIndex_227 (by decide) ?_
                  cases hJ_48
                  exact kj_49 _ _ _ hw80 (lv_sub hl34 [3, 4, 6] rfl)
                · replace hJ_48 := it_f c_81 hJ_48
                  refine lv_aload_n hx hb dX10_writeIndex_118 rfl (lv_at hl34 3 rfl) ?_
                  refine lv_iload hx hb dX10_writeIndex_119 (lv_at hl34 1 rfl) ?_
                  refine lv_iconst (v := (4 : Int32)) hx hb dX10_writeIndex_121 (by decide) ?_
                  refine lv_iadd hx hb dX10_writeIndex_122 ?_
                  refine lv_aload_n hx hb dX10_writeIndex_123 rfl (lv_at hl34 3 rfl) ?_
                  refine lv_iload hx hb dX10_writeIndex_124 (lv_at hl34 2 rfl) ?_
                  replace hJ_48 := ob1_some hJ_48
                  obtain ⟨r_83, hE_82, hJ_48⟩ := hJ_48
                  refine ctV (a := aM) (As := [.int (M_next (Int32.toNatClampNeg v3_11))]) (rest := [.int (((p0 + (1 : Int32)) + ((10 : Int32) * v3_11)) + (4 : Int32)), .ref aM]) (st1 := [.int r_83, .int (((p0 + (1 : Int32)) + ((10 : Int32) * v3_11)) + (4 : Int32)), .ref aM]) (wc := [oX10 aM M_thrown M_series M_most M_ratio aMdisk M_writes_76 M_fuse_77 M_down_78 M_recovers M_looks M_unpacked aMits aMmany aMplace aMlength aMtimes aMvalues aMorder M_chunks M_epoch M_side aMheadOf aMheadTime aMheadValue M_logged aMnext aMisNew M_nexts aMcursorTime aMcursorValue M_hasCursor M_cursorMany M_cursorAt aMmade M_bits M_from M_askMany M_askLeast M_askGreatest M_askSum, rI aMmany cI 240 M_many, rI aMvalues cI 15360 M_values]) (w1 := [oX10 aM M_thrown M_series M_most M_ratio aMdisk M_writes_76 M_fuse_77 M_down_78 M_recovers M_looks M_unpacked aMits aMmany aMplace aMlength aMtimes aMvalues aMorder M_chunks M_epoch M_side aMheadOf aMheadTime aMheadValue M_logged aMnext aMisNew M_nexts aMcursorTime aMcursorValue M_hasCursor M_cursorMany M_cursorAt aMmade M_bits M_from M_askMany M_askLeast M_askGreatest M_askSum, rI aMmany cI 240 M_many, rI aMvalues cI 15360 M_values]) (wr := [rI aMdisk cI 4096 M_disk_79, rI aMits cI 240 M_its, rI aMplace cI 240 M_place, rI aMlength cI 240 M_length, rI aMtimes cI 15360 M_times, rI aMnext cI 240 M_next]) (wb := [oX10 aM M_thrown M_series M_most M_ratio aMdisk M_writes_76 M_fuse_77 M_down_78 M_recovers M_looks M_unpacked aMits aMmany aMplace aMlength aMtimes aMvalues aMorder M_chunks M_epoch M_side aMheadOf aMheadTime aMheadValue M_logged aMnext aMisNew M_nexts aMcursorTime aMcursorValue M_hasCursor M_cursorMany M_cursorAt aMmade M_bits M_from M_askMany M_askLeast M_askGreatest M_askSum, rI aMdisk cI 4096 M_disk_79, rI aMits cI 240 M_its, rI aMmany cI 240 M_many, rI aMplace cI 240 M_place, rI aMlength cI 240 M_length, rI aMtimes cI 15360 M_times, rI aMvalues cI 15360 M_values, rI aMnext cI 240 M_next]) (v := (some (.int r_83))) hx hb hml hown htc hN (c_X10_leastOf l G cI cZ cJ aM aMdisk aMits aMmany aMplace aMlength aMtimes aMvalues aMorder aMheadOf aMheadTime aMheadValue aMnext aMisNew aMcursorTime aMcursorValue aMmade M_thrown M_series M_most M_ratio M_writes_76 M_fuse_77 M_down_78 M_recovers M_looks M_unpacked M_chunks M_epoch M_side M_logged M_nexts M_hasCursor M_cursorMany M_cursorAt M_bits M_from M_askMany M_askLeast M_askGreatest M_askSum M_many M_values (M_next (Int32.toNatClampNeg v3_11)) hE_82) mw_1189 mw_1191 mp_58 mw_12 mw_1192 hd_X10_leastOf ⟨rfl, rfl⟩ ⟨Nat.le_of_ble_eq_true rfl, Nat.le_of_ble_eq_true rfl⟩ hK hw80 hA [0, 3, 7] [1, 2, 4, 5, 6, 8] [6, 0, 1, 7, 2, 3, 4, 8, 5] rfl rfl rfl rfl rfl (by decide) rfl rfl rfl 0 rfl rfl rfl rfl hl34.1 rfl rfl (Nat.le_of_ble_eq_true rfl) dX10_writeIndex_126 ⟨Nat.zero_le _, Nat.zero_le _⟩ (fun H84 locs84 hw84 => ?_)
                  clear hw80 H80 locs80
                  replace hJ_48 := ob5_some hJ_48
                  obtain ⟨r_86, M_writes_87, M_fuse_88, M_down_89, M_disk_90, hE_85, hJ_48⟩ := hJ_48
                  refine ctV (a := aM) (As := [.int (((p0 + (1 : Int32)) + ((10 : Int32) * v3_11)) + (4 : Int32)), .int r_83]) (rest := []) (st1 := [.int r_86]) (wc := [oX10 aM M_thrown M_series M_most M_ratio aMdisk M_writes_76 M_fuse_77 M_down_78 M_recovers M_looks M_unpacked aMits aMmany aMplace aMlength aMtimes aMvalues aMorder M_chunks M_epoch M_side aMheadOf aMheadTime aMheadValue M_logged aMnext aMisNew M_nexts aMcursorTime aMcursorValue M_hasCursor M_cursorMany M_cursorAt aMmade M_bits M_from M_askMany M_askLeast M_askGreatest M_askSum, rI aMdisk cI 4096 M_disk_79]) (w1 := [oX10 aM M_thrown M_series M_most M_ratio aMdisk M_writes_87 M_fuse_88 M_down_89 M_recovers M_looks M_unpacked aMits aMmany aMplace aMlength aMtimes aMvalues aMorder M_chunks M_epoch M_side aMheadOf aMheadTime aMheadValue M_logged aMnext aMisNew M_nexts aMcursorTime aMcursorValue M_hasCursor M_cursorMany M_cursorAt aMmade M_bits M_from M_askMany M_askLeast M_askGreatest M_askSum, rI aMdisk cI 4096 M_disk_90]) (wr := [rI aMits cI 240 M_its, rI aMmany cI 240 M_many, rI aMplace cI 240 M_place, rI aMlength cI 240 M_length, rI aMtimes cI 15360 M_times, rI aMvalues cI 15360 M_values, rI aMnext cI 240 M_next]) (wb := [oX10 aM M_thrown M_series M_most M_ratio aMdisk M_writes_87 M_fuse_88 M_down_89 M_recovers M_looks M_unpacked aMits aMmany aMplace aMlength aMtimes aMvalues aMorder M_chunks M_epoch M_side aMheadOf aMheadTime aMheadValue M_logged aMnext aMisNew M_nexts aMcursorTime aMcursorValue M_hasCursor M_cursorMany M_cursorAt aMmade M_bits M_from M_askMany M_askLeast M_askGreatest M_askSum, rI aMdisk cI 4096 M_disk_90, rI aMits cI 240 M_its, rI aMmany cI 240 M_many, rI aMplace cI 240 M_place, rI aMlength cI 240 M_length, rI aMtimes cI 15360 M_times, rI aMvalues cI 15360 M_values, rI aMnext cI 240 M_next]) (v := (some (.int r_86))) hx hb hml hown htc hN (c_X10_write l G cI cZ cJ aM aMdisk aMits aMmany aMplace aMlength aMtimes aMvalues aMorder aMheadOf aMheadTime aMheadValue aMnext aMisNew aMcursorTime aMcursorValue aMmade M_thrown M_series M_most M_ratio M_writes_76 M_fuse_77 M_down_78 M_recovers M_looks M_unpacked M_chunks M_epoch M_side M_logged M_nexts M_hasCursor M_cursorMany M_cursorAt M_bits M_from M_askMany M_askLeast M_askGreatest M_askSum M_disk_79 (((p0 + (1 : Int32)) + ((10 : Int32) * v3_11)) + (4 : Int32)) r_83 hE_85) mw_1088 mw_1090 mp_37 mw_12 mw_1091 hd_X10_write ⟨rfl, rfl⟩ ⟨Nat.le_of_ble_eq_true rfl, Nat.le_of_ble_eq_true rfl⟩ hK hw84 hA [0, 1] [2, 3, 4, 5, 6, 7, 8] [7, 8, 0, 1, 2, 3, 4, 5, 6] rfl rfl rfl rfl rfl (by decide) rfl rfl rfl 0 rfl rfl rfl rfl hl34.1 rfl rfl (Nat.le_of_ble_eq_true rfl) dX10_writeIndex_129 ⟨Nat.zero_le _, Nat.zero_le _⟩ (fun H91 locs91 hw91 => ?_)
                  clear hw84 H84 locs84
                  refine lv_if_eq (tgt := 227) hx hb dX10_writeIndex_132 (by decide) (fun c_92 => ?_) (fun c_92 => ?_)
                  · replace hJ_48 := it_t c_92 hJ_48
                    refine lv_iconst (v := (0 : Int32)) hx hb dX10_writeIndex_227 (by decide) ?_
                    cases hJ_48
                    exact kj_49 _ _ _ hw91 (lv_sub hl34 [3, 4, 6] rfl)
                  · replace hJ_48 := it_f c_92 hJ_48
                    refine lv_aload_n hx hb dX10_writeIndex_135 rfl (lv_at hl34 3 rfl) ?_
                    refine lv_iload hx hb dX10_writeIndex_136 (lv_at hl34 1 rfl) ?_
                    refine lv_iconst (v := (5 : Int32)) hx hb dX10_writeIndex_138 (by decide) ?_
                    refine lv_iadd hx hb dX10_writeIndex_139 ?_
                    refine lv_aload_n hx hb dX10_writeIndex_140 rfl (lv_at hl34 3 rfl) ?_
                    refine lv_iload hx hb dX10_writeIndex_141 (lv_at hl34 2 rfl) ?_
                    replace hJ_48 := ob1_some hJ_48
                    obtain ⟨r_94, hE_93, hJ_48⟩ := hJ_48
                    refine ctV (a := aM) (As := [.int (M_next (Int32.toNatClampNeg v3_11))]) (rest := [.int (((p0 + (1 : Int32)) + ((10 : Int32) * v3_11)) + (5 : Int32)), .ref aM]) (st1 := [.int r_94, .int (((p0 + (1 : Int32)) + ((10 : Int32) * v3_11)) + (5 : Int32)), .ref aM]) (wc := [oX10 aM M_thrown M_series M_most M_ratio aMdisk M_writes_87 M_fuse_88 M_down_89 M_recovers M_looks M_unpacked aMits aMmany aMplace aMlength aMtimes aMvalues aMorder M_chunks M_epoch M_side aMheadOf aMheadTime aMheadValue M_logged aMnext aMisNew M_nexts aMcursorTime aMcursorValue M_hasCursor M_cursorMany M_cursorAt aMmade M_bits M_from M_askMany M_askLeast M_askGreatest M_askSum, rI aMmany cI 240 M_many, rI aMvalues cI 15360 M_values]) (w1 := [oX10 aM M_thrown M_series M_most M_ratio aMdisk M_writes_87 M_fuse_88 M_down_89 M_recovers M_looks M_unpacked aMits aMmany aMplace aMlength aMtimes aMvalues aMorder M_chunks M_epoch M_side aMheadOf aMheadTime aMheadValue M_logged aMnext aMisNew M_nexts aMcursorTime aMcursorValue M_hasCursor M_cursorMany M_cursorAt aMmade M_bits M_from M_askMany M_askLeast M_askGreatest M_askSum, rI aMmany cI 240 M_many, rI aMvalues cI 15360 M_values]) (wr := [rI aMdisk cI 4096 M_disk_90, rI aMits cI 240 M_its, rI aMplace cI 240 M_place, rI aMlength cI 240 M_length, rI aMtimes cI 15360 M_times, rI aMnext cI 240 M_next]) (wb := [oX10 aM M_thrown M_series M_most M_ratio aMdisk M_writes_87 M_fuse_88 M_down_89 M_recovers M_looks M_unpacked aMits aMmany aMplace aMlength aMtimes aMvalues aMorder M_chunks M_epoch M_side aMheadOf aMheadTime aMheadValue M_logged aMnext aMisNew M_nexts aMcursorTime aMcursorValue M_hasCursor M_cursorMany M_cursorAt aMmade M_bits M_from M_askMany M_askLeast M_askGreatest M_askSum, rI aMdisk cI 4096 M_disk_90, rI aMits cI 240 M_its, rI aMmany cI 240 M_many, rI aMplace cI 240 M_place, rI aMlength cI 240 M_length, rI aMtimes cI 15360 M_times, rI aMvalues cI 15360 M_values, rI aMnext cI 240 M_next]) (v := (some (.int r_94))) hx hb hml hown htc hN (c_X10_greatestOf l G cI cZ cJ aM aMdisk aMits aMmany aMplace aMlength aMtimes aMvalues aMorder aMheadOf aMheadTime aMheadValue aMnext aMisNew aMcursorTime aMcursorValue aMmade M_thrown M_series M_most M_ratio M_writes_87 M_fuse_88 M_down_89 M_recovers M_looks M_unpacked M_chunks M_epoch M_side M_logged M_nexts M_hasCursor M_cursorMany M_cursorAt M_bits M_from M_askMany M_askLeast M_askGreatest M_askSum M_many M_values (M_next (Int32.toNatClampNeg v3_11)) hE_93) mw_1193 mw_1195 mp_59 mw_12 mw_1196 hd_X10_greatestOf ⟨rfl, rfl⟩ ⟨Nat.le_of_ble_eq_true rfl, Nat.le_of_ble_eq_true rfl⟩ hK hw91 hA [0, 3, 7] [1, 2, 4, 5, 6, 8] [6, 0, 1, 7, 2, 3, 4, 8, 5] rfl rfl rfl rfl rfl (by decide) rfl rfl rfl 0 rfl rfl rfl rfl hl34.1 rfl rfl (Nat.le_of_ble_eq_true rfl) dX10_writeIndex_143 ⟨Nat.zero_le _, Nat.zero_le _⟩ (fun H95 locs95 hw95 => ?_)
                    clear hw91 H91 locs91
                    replace hJ_48 := ob5_some hJ_48
                    obtain ⟨r_97, M_writes_98, M_fuse_99, M_down_100, M_disk_101, hE_96, hJ_48⟩ := hJ_48
                    refine ctV (a := aM) (As := [.int (((p0 + (1 : Int32)) + ((10 : Int32) * v3_11)) + (5 : Int32)), .int r_94]) (rest := []) (st1 := [.int r_97]) (wc := [oX10 aM M_thrown M_series M_most M_ratio aMdisk M_writes_87 M_fuse_88 M_down_89 M_recovers M_looks M_unpacked aMits aMmany aMplace aMlength aMtimes aMvalues aMorder M_chunks M_epoch M_side aMheadOf aMheadTime aMheadValue M_logged aMnext aMisNew M_nexts aMcursorTime aMcursorValue M_hasCursor M_cursorMany M_cursorAt aMmade M_bits M_from M_askMany M_askLeast M_askGreatest M_askSum, rI aMdisk cI 4096 M_disk_90]) (w1 := [oX10 aM M_thrown M_series M_most M_ratio aMdisk M_writes_98 M_fuse_99 M_down_100 M_recovers M_looks M_unpacked aMits aMmany aMplace aMlength aMtimes aMvalues aMorder M_chunks M_epoch M_side aMheadOf aMheadTime aMheadValue M_logged aMnext aMisNew M_nexts aMcursorTime aMcursorValue M_hasCursor M_cursorMany M_cursorAt aMmade M_bits M_from M_askMany M_askLeast M_askGreatest M_askSum, rI aMdisk cI 4096 M_disk_101]) (wr := [rI aMits cI 240 M_its, rI aMmany cI 240 M_many, rI aMplace cI 240 M_place, rI aMlength cI 240 M_length, rI aMtimes cI 15360 M_times, rI aMvalues cI 15360 M_values, rI aMnext cI 240 M_next]) (wb := [oX10 aM M_thrown M_series M_most M_ratio aMdisk M_writes_98 M_fuse_99 M_down_100 M_recovers M_looks M_unpacked aMits aMmany aMplace aMlength aMtimes aMvalues aMorder M_chunks M_epoch M_side aMheadOf aMheadTime aMheadValue M_logged aMnext aMisNew M_nexts aMcursorTime aMcursorValue M_hasCursor M_cursorMany M_cursorAt aMmade M_bits M_from M_askMany M_askLeast M_askGreatest M_askSum, rI aMdisk cI 4096 M_disk_101, rI aMits cI 240 M_its, rI aMmany cI 240 M_many, rI aMplace cI 240 M_place, rI aMlength cI 240 M_length, rI aMtimes cI 15360 M_times, rI aMvalues cI 15360 M_values, rI aMnext cI 240 M_next]) (v := (some (.int r_97))) hx hb hml hown htc hN (c_X10_write l G cI cZ cJ aM aMdisk aMits aMmany aMplace aMlength aMtimes aMvalues aMorder aMheadOf aMheadTime aMheadValue aMnext aMisNew aMcursorTime aMcursorValue aMmade M_thrown M_series M_most M_ratio M_writes_87 M_fuse_88 M_down_89 M_recovers M_looks M_unpacked M_chunks M_epoch M_side M_logged M_nexts M_hasCursor M_cursorMany M_cursorAt M_bits M_from M_askMany M_askLeast M_askGreatest M_askSum M_disk_90 (((p0 + (1 : Int32)) + ((10 : Int32) * v3_11)) + (5 : Int32)) r_94 hE_96) mw_1088 mw_1090 mp_37 mw_12 mw_1091 hd_X10_write ⟨rfl, rfl⟩ ⟨Nat.le_of_ble_eq_true rfl, Nat.le_of_ble_eq_true rfl⟩ hK hw95 hA [0, 1] [2, 3, 4, 5, 6, 7, 8] [7, 8, 0, 1, 2, 3, 4, 5, 6] rfl rfl rfl rfl rfl (by decide) rfl rfl rfl 0 rfl rfl rfl rfl hl34.1 rfl rfl (Nat.le_of_ble_eq_true rfl) dX10_writeIndex_146 ⟨Nat.zero_le _, Nat.zero_le _⟩ (fun H102 locs102 hw102 => ?_)
                    clear hw95 H95 locs95
                    refine lv_if_eq (tgt := 227) hx hb dX10_writeIndex_149 (by decide) (fun c_103 => ?_) (fun c_103 => ?_)
                    · replace hJ_48 := it_t c_103 hJ_48
                      refine lv_iconst (v := (0 : Int32)) hx hb dX10_writeIndex_227 (by decide) ?_
                      cases hJ_48
                      exact kj_49 _ _ _ hw102 (lv_sub hl34 [3, 4, 6] rfl)
                    · replace hJ_48 := it_f c_103 hJ_48
                      refine lv_aload_n hx hb dX10_writeIndex_152 rfl (lv_at hl34 3 rfl) ?_
                      refine lv_iload hx hb dX10_writeIndex_153 (lv_at hl34 1 rfl) ?_
                      refine lv_bipush (v := (6 : Int32)) hx hb dX10_writeIndex_155 (by decide) ?_
                      refine lv_iadd hx hb dX10_writeIndex_157 ?_
                      refine lv_lload hx hb dX10_writeIndex_158 (lv_at hl34 0 rfl) ?_
                      refine lv_bipush (v := (32 : Int32)) hx hb dX10_writeIndex_160 (by decide) ?_
                      refine lv_lshr hx hb dX10_writeIndex_162 rfl ?_
                      refine lv_l2i hx hb dX10_writeIndex_163 rfl ?_
                      replace hJ_48 := ob5_some hJ_48
                      obtain ⟨r_105, M_writes_106, M_fuse_107, M_down_108, M_disk_109, hE_104, hJ_48⟩ := hJ_48
                      refine ctV (a := aM) (As := [.int (((p0 + (1 : Int32)) + ((10 : Int32) * v3_11)) + (6 : Int32)), .int (Int64.toInt32 (r_32 >>> (Int32.toInt64 (32 : Int32) &&& 63)))]) (rest := []) (st1 := [.int r_105]) (wc := [oX10 aM M_thrown M_series M_most M_ratio aMdisk M_writes_98 M_fuse_99 M_down_100 M_recovers M_looks M_unpacked aMits aMmany aMplace aMlength aMtimes aMvalues aMorder M_chunks M_epoch M_side aMheadOf aMheadTime aMheadValue M_logged aMnext aMisNew M_nexts aMcursorTime aMcursorValue M_hasCursor M_cursorMany M_cursorAt aMmade M_bits M_from M_askMany M_askLeast M_askGreatest M_askSum, rI aMdisk cI 4096 M_disk_101]) (w1 := [oX10 aM M_thrown M_series M_most M_ratio aMdisk M_writes_106 M_fuse_107 M_down_108 M_recovers M_looks M_unpacked aMits aMmany aMplace aMlength aMtimes aMvalues aMorder M_chunks M_epoch M_side aMheadOf aMheadTime aMheadValue M_logged aMnext aMisNew M_nexts aMcursorTime aMcursorValue M_hasCursor M_cursorMany M_cursorAt aMmade M_bits M_from M_askMany M_askLeast M_askGreatest M_askSum, rI aMdisk cI 4096 M_disk_109]) (wr := [rI aMits cI 240 M_its, rI aMmany cI 240 M_many, rI aMplace cI 240 M_place, rI aMlength cI 240 M_length, rI aMtimes cI 15360 M_times, rI aMvalues cI 15360 M_values, rI aMnext cI 240 M_next]) (wb := [oX10 aM M_thrown M_series M_most M_ratio aMdisk M_writes_106 M_fuse_107 M_down_108 M_recovers M_looks M_unpacked aMits aMmany aMplace aMlength aMtimes aMvalues aMorder M_chunks M_epoch M_side aMheadOf aMheadTime aMheadValue M_logged aMnext aMisNew M_nexts aMcursorTime aMcursorValue M_hasCursor M_cursorMany M_cursorAt aMmade M_bits M_from M_askMany M_askLeast M_askGreatest M_askSum, rI aMdisk cI 4096 M_disk_109, rI aMits cI 240 M_its, rI aMmany cI 240 M_many, rI aMplace cI 240 M_place, rI aMlength cI 240 M_length, rI aMtimes cI 15360 M_times, rI aMvalues cI 15360 M_values, rI aMnext cI 240 M_next]) (v := (some (.int r_105))) hx hb hml hown htc hN (c_X10_write l G cI cZ cJ aM aMdisk aMits aMmany aMplace aMlength aMtimes aMvalues aMorder aMheadOf aMheadTime aMheadValue aMnext aMisNew aMcursorTime aMcursorValue aMmade M_thrown M_series M_most M_ratio M_writes_98 M_fuse_99 M_down_100 M_recovers M_looks M_unpacked M_chunks M_epoch M_side M_logged M_nexts M_hasCursor M_cursorMany M_cursorAt M_bits M_from M_askMany M_askLeast M_askGreatest M_askSum M_disk_101 (((p0 + (1 : Int32)) + ((10 : Int32) * v3_11)) + (6 : Int32)) (Int64.toInt32 (r_32 >>> (Int32.toInt64 (32 : Int32) &&& 63))) hE_104) mw_1088 mw_1090 mp_37 mw_12 mw_1091 hd_X10_write ⟨rfl, rfl⟩ ⟨Nat.le_of_ble_eq_true rfl, Nat.le_of_ble_eq_true rfl⟩ hK hw102 hA [0, 1] [2, 3, 4, 5, 6, 7, 8] [7, 8, 0, 1, 2, 3, 4, 5, 6] rfl rfl rfl rfl rfl (by decide) rfl rfl rfl 0 rfl rfl rfl rfl hl34.1 rfl rfl (Nat.le_of_ble_eq_true rfl) dX10_writeIndex_164 ⟨Nat.zero_le _, Nat.zero_le _⟩ (fun H110 locs110 hw110 => ?_)
                      clear hw102 H102 locs102
                      refine lv_if_eq (tgt := 227) hx hb dX10_writeIndex_167 (by decide) (fun c_111 => ?_) (fun c_111 => ?_)
                      · replace hJ_48 := it_t c_111 hJ_48
                        refine lv_iconst (v := (0 : Int32)) hx hb dX10_writeIndex_227 (by decide) ?_
                        cases hJ_48
                        exact kj_49 _ _ _ hw110 (lv_sub hl34 [3, 4, 6] rfl)
                      · replace hJ_48 := it_f c_111 hJ_48
                        refine lv_aload_n hx hb dX10_writeIndex_170 rfl (lv_at hl34 3 rfl) ?_
                        refine lv_iload hx hb dX10_writeIndex_171 (lv_at hl34 1 rfl) ?_
                        refine lv_bipush (v := (7 : Int32)) hx hb dX10_writeIndex_173 (by decide) ?_
                        refine lv_iadd hx hb dX10_writeIndex_175 ?_
                        refine lv_lload hx hb dX10_writeIndex_176 (lv_at hl34 0 rfl) ?_
                        refine lv_l2i hx hb dX10_writeIndex_178 rfl ?_
                        replace hJ_48 := ob5_some hJ_48
                        obtain ⟨r_113, M_writes_114, M_fuse_115, M_down_116, M_disk_117, hE_112, hJ_48⟩ := hJ_48
                        refine ctV (a := aM) (As := [.int (((p0 + (1 : Int32)) + ((10 : Int32) * v3_11)) + (7 : Int32)), .int (Int64.toInt32 r_32)]) (rest := []) (st1 := [.int r_113]) (wc := [oX10 aM M_thrown M_series M_most M_ratio aMdisk M_writes_106 M_fuse_107 M_down_108 M_recovers M_looks M_unpacked aMits aMmany aMplace aMlength aMtimes aMvalues aMorder M_chunks M_epoch M_side aMheadOf aMheadTime aMheadValue M_logged aMnext aMisNew M_nexts aMcursorTime aMcursorValue M_hasCursor M_cursorMany M_cursorAt aMmade M_bits M_from M_askMany M_askLeast M_askGreatest M_askSum, rI aMdisk cI 4096 M_disk_109]) (w1 := [oX10 aM M_thrown M_series M_most M_ratio aMdisk M_writes_114 M_fuse_115 M_down_116 M_recovers M_looks M_unpacked aMits aMmany aMplace aMlength aMtimes aMvalues aMorder M_chunks M_epoch M_side aMheadOf aMheadTime aMheadValue M_logged aMnext aMisNew M_nexts aMcursorTime aMcursorValue M_hasCursor M_cursorMany M_cursorAt aMmade M_bits M_from M_askMany M_askLeast M_askGreatest M_askSum, rI aMdisk cI 4096 M_disk_117]) (wr := [rI aMits cI 240 M_its, rI aMmany cI 240 M_many, rI aMplace cI 240 M_place, rI aMlength cI 240 M_length, rI aMtimes cI 15360 M_times, rI aMvalues cI 15360 M_values, rI aMnext cI 240 M_next]) (wb := [oX10 aM M_thrown M_series M_most M_ratio aMdisk M_writes_114 M_fuse_115 M_down_116 M_recovers M_looks M_unpacked aMits aMmany aMplace aMlength aMtimes aMvalues aMorder M_chunks M_epoch M_side aMheadOf aMheadTime aMheadValue M_logged aMnext aMisNew M_nexts aMcursorTime aMcursorValue M_hasCursor M_cursorMany M_cursorAt aMmade M_bits M_from M_askMany M_askLeast M_askGreatest M_askSum, rI aMdisk cI 4096 M_disk_117, rI aMits cI 240 M_its, rI aMmany cI 240 M_many, rI aMplace cI 240 M_place, rI aMlength cI 240 M_length, rI aMtimes cI 15360 M_times, rI aMvalues cI 15360 M_values, rI aMnext cI 240 M_next]) (v := (some (.int r_113))) hx hb hml hown htc hN (c_X10_write l G cI cZ cJ aM aMdisk aMits aMmany aMplace aMlength aMtimes aMvalues aMorder aMheadOf aMheadTime aMheadValue aMnext aMisNew aMcursorTime aMcursorValue aMmade M_thrown M_series M_most M_ratio M_writes_106 M_fuse_107 M_down_108 M_recovers M_looks M_unpacked M_chunks M_epoch M_side M_logged M_nexts M_hasCursor M_cursorMany M_cursorAt M_bits M_from M_askMany M_askLeast M_askGreatest M_askSum M_disk_109 (((p0 + (1 : Int32)) + ((10 : Int32) * v3_11)) + (7 : Int32)) (Int64.toInt32 r_32) hE_112) mw_1088 mw_1090 mp_37 mw_12 mw_1091 hd_X10_write ⟨rfl, rfl⟩ ⟨Nat.le_of_ble_eq_true rfl, Nat.le_of_ble_eq_true rfl⟩ hK hw110 hA [0, 1] [2, 3, 4, 5, 6, 7, 8] [7, 8, 0, 1, 2, 3, 4, 5, 6] rfl rfl rfl rfl rfl (by decide) rfl rfl rfl 0 rfl rfl rfl rfl hl34.1 rfl rfl (Nat.le_of_ble_eq_true rfl) dX10_writeIndex_179 ⟨Nat.zero_le _, Nat.zero_le _⟩ (fun H118 locs118 hw118 => ?_)
                        clear hw110 H110 locs110
                        refine lv_if_eq (tgt := 227) hx hb dX10_writeIndex_182 (by decide) (fun c_119 => ?_) (fun c_119 => ?_)
                        · replace hJ_48 := it_t c_119 hJ_48
                          refine lv_iconst (v := (0 : Int32)) hx hb dX10_writeIndex_227 (by decide) ?_
                          cases hJ_48
                          exact kj_49 _ _ _ hw118 (lv_sub hl34 [3, 4, 6] rfl)
                        · replace hJ_48 := it_f c_119 hJ_48
                          refine lv_aload_n hx hb dX10_writeIndex_185 rfl (lv_at hl34 3 rfl) ?_
                          refine lv_iload hx hb dX10_writeIndex_186 (lv_at hl34 1 rfl) ?_
                          refine lv_bipush (v := (8 : Int32)) hx hb dX10_writeIndex_188 (by decide) ?_
                          refine lv_iadd hx hb dX10_writeIndex_190 ?_
                          refine lv_aload_n hx hb dX10_writeIndex_191 rfl (lv_at hl34 3 rfl) ?_
                          refine va_get (D := G) (ci := 10) (v := .ref aMplace) (C := RX10) (T := TX10) (N := 40) hx hb htc iX10 hown hK hw118.1 0 rfl rfl 13 (by decide) (htc _ mw_960) (fun _ h9 => h9) rfl dX10_writeIndex_192 ?_
                          refine lv_iload hx hb dX10_writeIndex_195 (lv_at hl34 2 rfl) ?_
                          replace hJ_48 := ckb_some hJ_48
                          obtain ⟨hin_120, hJ_48⟩ := hJ_48
                          refine va_iald hx hb hK hw118.1 4 0 rfl rfl hin_120 dX10_writeIndex_197 ?_
                          replace hJ_48 := ob5_some hJ_48
                          obtain ⟨r_122, M_writes_123, M_fuse_124, M_down_125, M_disk_126, hE_121, hJ_48⟩ := hJ_48
                          refine ctV (a := aM) (As := [.int (((p0 + (1 : Int32)) + ((10 : Int32) * v3_11)) + (8 : Int32)), .int (M_place (Int32.toNatClampNeg (M_next (Int32.toNatClampNeg v3_11))))]) (rest := []) (st1 := [.int r_122]) (wc := [oX10 aM M_thrown M_series M_most M_ratio aMdisk M_writes_114 M_fuse_115 M_down_116 M_recovers M_looks M_unpacked aMits aMmany aMplace aMlength aMtimes aMvalues aMorder M_chunks M_epoch M_side aMheadOf aMheadTime aMheadValue M_logged aMnext aMisNew M_nexts aMcursorTime aMcursorValue M_hasCursor M_cursorMany M_cursorAt aMmade M_bits M_from M_askMany M_askLeast M_askGreatest M_askSum, rI aMdisk cI 4096 M_disk_117]) (w1 := [oX10 aM M_thrown M_series M_most M_ratio aMdisk M_writes_123 M_fuse_124 M_down_125 M_recovers M_looks M_unpacked aMits aMmany aMplace aMlength aMtimes aMvalues aMorder M_chunks M_epoch M_side aMheadOf aMheadTime aMheadValue M_logged aMnext aMisNew M_nexts aMcursorTime aMcursorValue M_hasCursor M_cursorMany M_cursorAt aMmade M_bits M_from M_askMany M_askLeast M_askGreatest M_askSum, rI aMdisk cI 4096 M_disk_126]) (wr := [rI aMits cI 240 M_its, rI aMmany cI 240 M_many, rI aMplace cI 240 M_place, rI aMlength cI 240 M_length, rI aMtimes cI 15360 M_times, rI aMvalues cI 15360 M_values, rI aMnext cI 240 M_next]) (wb := [oX10 aM M_thrown M_series M_most M_ratio aMdisk M_writes_123 M_fuse_124 M_down_125 M_recovers M_looks M_unpacked aMits aMmany aMplace aMlength aMtimes aMvalues aMorder M_chunks M_epoch M_side aMheadOf aMheadTime aMheadValue M_logged aMnext aMisNew M_nexts aMcursorTime aMcursorValue M_hasCursor M_cursorMany M_cursorAt aMmade M_bits M_from M_askMany M_askLeast M_askGreatest M_askSum, rI aMdisk cI 4096 M_disk_126, rI aMits cI 240 M_its, rI aMmany cI 240 M_many, rI aMplace cI 240 M_place, rI aMlength cI 240 M_length, rI aMtimes cI 15360 M_times, rI aMvalues cI 15360 M_values, rI aMnext cI 240 M_next]) (v := (some (.int r_122))) hx hb hml hown htc hN (c_X10_write l G cI cZ cJ aM aMdisk aMits aMmany aMplace aMlength aMtimes aMvalues aMorder aMheadOf aMheadTime aMheadValue aMnext aMisNew aMcursorTime aMcursorValue aMmade M_thrown M_series M_most M_ratio M_writes_114 M_fuse_115 M_down_116 M_recovers M_looks M_unpacked M_chunks M_epoch M_side M_logged M_nexts M_hasCursor M_cursorMany M_cursorAt M_bits M_from M_askMany M_askLeast M_askGreatest M_askSum M_disk_117 (((p0 + (1 : Int32)) + ((10 : Int32) * v3_11)) + (8 : Int32)) (M_place (Int32.toNatClampNeg (M_next (Int32.toNatClampNeg v3_11)))) hE_121) mw_1088 mw_1090 mp_37 mw_12 mw_1091 hd_X10_write ⟨rfl, rfl⟩ ⟨Nat.le_of_ble_eq_true rfl, Nat.le_of_ble_eq_true rfl⟩ hK hw118 hA [0, 1] [2, 3, 4, 5, 6, 7, 8] [7, 8, 0, 1, 2, 3, 4, 5, 6] rfl rfl rfl rfl rfl (by decide) rfl rfl rfl 0 rfl rfl rfl rfl hl34.1 rfl rfl (Nat.le_of_ble_eq_true rfl) dX10_writeIndex_198 ⟨Nat.zero_le _, Nat.zero_le _⟩ (fun H127 locs127 hw127 => ?_)
                          clear hw118 H118 locs118
                          refine lv_if_eq (tgt := 227) hx hb dX10_writeIndex_201 (by decide) (fun c_128 => ?_) (fun c_128 => ?_)
                          · replace hJ_48 := it_t c_128 hJ_48
                            refine lv_iconst (v := (0 : Int32)) hx hb dX10_writeIndex_227 (by decide) ?_
                            cases hJ_48
                            exact kj_49 _ _ _ hw127 (lv_sub hl34 [3, 4, 6] rfl)
                          · replace hJ_48 := it_f c_128 hJ_48
                            refine lv_aload_n hx hb dX10_writeIndex_204 rfl (lv_at hl34 3 rfl) ?_
                            refine lv_iload hx hb dX10_writeIndex_205 (lv_at hl34 1 rfl) ?_
                            refine lv_bipush (v := (9 : Int32)) hx hb dX10_writeIndex_207 (by decide) ?_
                            refine lv_iadd hx hb dX10_writeIndex_209 ?_
                            refine lv_aload_n hx hb dX10_writeIndex_210 rfl (lv_at hl34 3 rfl) ?_
                            refine va_get (D := G) (ci := 10) (v := .ref aMlength) (C := RX10) (T := TX10) (N := 40) hx hb htc iX10 hown hK hw127.1 0 rfl rfl 14 (by decide) (htc _ mw_961) (fun _ h9 => h9) rfl dX10_writeIndex_211 ?_
                            refine lv_iload hx hb dX10_writeIndex_214 (lv_at hl34 2 rfl) ?_
                            replace hJ_48 := ckb_some hJ_48
                            obtain ⟨hin_129, hJ_48⟩ := hJ_48
                            refine va_iald hx hb hK hw127.1 5 0 rfl rfl hin_129 dX10_writeIndex_216 ?_
                            replace hJ_48 := ob5_some hJ_48
                            obtain ⟨r_131, M_writes_132, M_fuse_133, M_down_134, M_disk_135, hE_130, hJ_48⟩ := hJ_48
                            refine ctV (a := aM) (As := [.int (((p0 + (1 : Int32)) + ((10 : Int32) * v3_11)) + (9 : Int32)), .int (M_length (Int32.toNatClampNeg (M_next (Int32.toNatClampNeg v3_11))))]) (rest := []) (st1 := [.int r_131]) (wc := [oX10 aM M_thrown M_series M_most M_ratio aMdisk M_writes_123 M_fuse_124 M_down_125 M_recovers M_looks M_unpacked aMits aMmany aMplace aMlength aMtimes aMvalues aMorder M_chunks M_epoch M_side aMheadOf aMheadTime aMheadValue M_logged aMnext aMisNew M_nexts aMcursorTime aMcursorValue M_hasCursor M_cursorMany M_cursorAt aMmade M_bits M_from M_askMany M_askLeast M_askGreatest M_askSum, rI aMdisk cI 4096 M_disk_126]) (w1 := [oX10 aM M_thrown M_series M_most M_ratio aMdisk M_writes_132 M_fuse_133 M_down_134 M_recovers M_looks M_unpacked aMits aMmany aMplace aMlength aMtimes aMvalues aMorder M_chunks M_epoch M_side aMheadOf aMheadTime aMheadValue M_logged aMnext aMisNew M_nexts aMcursorTime aMcursorValue M_hasCursor M_cursorMany M_cursorAt aMmade M_bits M_from M_askMany M_askLeast M_askGreatest M_askSum, rI aMdisk cI 4096 M_disk_135]) (wr := [rI aMits cI 240 M_its, rI aMmany cI 240 M_many, rI aMplace cI 240 M_place, rI aMlength cI 240 M_length, rI aMtimes cI 15360 M_times, rI aMvalues cI 15360 M_values, rI aMnext cI 240 M_next]) (wb := [oX10 aM M_thrown M_series M_most M_ratio aMdisk M_writes_132 M_fuse_133 M_down_134 M_recovers M_looks M_unpacked aMits aMmany aMplace aMlength aMtimes aMvalues aMorder M_chunks M_epoch M_side aMheadOf aMheadTime aMheadValue M_logged aMnext aMisNew M_nexts aMcursorTime aMcursorValue M_hasCursor M_cursorMany M_cursorAt aMmade M_bits M_from M_askMany M_askLeast M_askGreatest M_askSum, rI aMdisk cI 4096 M_disk_135, rI aMits cI 240 M_its, rI aMmany cI 240 M_many, rI aMplace cI 240 M_place, rI aMlength cI 240 M_length, rI aMtimes cI 15360 M_times, rI aMvalues cI 15360 M_values, rI aMnext cI 240 M_next]) (v := (some (.int r_131))) hx hb hml hown htc hN (c_X10_write l G cI cZ cJ aM aMdisk aMits aMmany aMplace aMlength aMtimes aMvalues aMorder aMheadOf aMheadTime aMheadValue aMnext aMisNew aMcursorTime aMcursorValue aMmade M_thrown M_series M_most M_ratio M_writes_123 M_fuse_124 M_down_125 M_recovers M_looks M_unpacked M_chunks M_epoch M_side M_logged M_nexts M_hasCursor M_cursorMany M_cursorAt M_bits M_from M_askMany M_askLeast M_askGreatest M_askSum M_disk_126 (((p0 + (1 : Int32)) + ((10 : Int32) * v3_11)) + (9 : Int32)) (M_length (Int32.toNatClampNeg (M_next (Int32.toNatClampNeg v3_11)))) hE_130) mw_1088 mw_1090 mp_37 mw_12 mw_1091 hd_X10_write ⟨rfl, rfl⟩ ⟨Nat.le_of_ble_eq_true rfl, Nat.le_of_ble_eq_true rfl⟩ hK hw127 hA [0, 1] [2, 3, 4, 5, 6, 7, 8] [7, 8, 0, 1, 2, 3, 4, 5, 6] rfl rfl rfl rfl rfl (by decide) rfl rfl rfl 0 rfl rfl rfl rfl hl34.1 rfl rfl (Nat.le_of_ble_eq_true rfl) dX10_writeIndex_217 ⟨Nat.zero_le _, Nat.zero_le _⟩ (fun H136 locs136 hw136 => ?_)
                            clear hw127 H127 locs127
                            refine lv_if_eq (tgt := 227) hx hb dX10_writeIndex_220 (by decide) (fun c_137 => ?_) (fun c_137 => ?_)
                            · replace hJ_48 := it_t c_137 hJ_48
                              refine lv_iconst (v := (0 : Int32)) hx hb dX10_writeIndex_227 (by decide) ?_
                              cases hJ_48
                              exact kj_49 _ _ _ hw136 (lv_sub hl34 [3, 4, 6] rfl)
                            · replace hJ_48 := it_f c_137 hJ_48
                              refine lv_iconst (v := (1 : Int32)) hx hb dX10_writeIndex_223 (by decide) ?_
                              refine lv_goto (tgt := 228) hx hb dX10_writeIndex_224 (by decide) ?_
                              cases hJ_48
                              exact kj_49 _ _ _ hw136 (lv_sub hl34 [3, 4, 6] rfl)
  exact lp_18 NN r_2 (0 : Int32) M_writes_3 M_fuse_4 M_down_5 M_disk_6 hL_16 _ _ _ hw7 (lv_sub hl9 [2, 3, 1, 0] rfl)
abbrev rm_X10_turn : Room := { frames := 4, cells := 0, slots := 0, locals := 98 }
theorem hd_X10_turn : yX10_turn.cls = RX10 ∧ yX10_turn.cls ≠ "java/lang/invoke/MethodHandle" ∧ yX10_turn.cls ≠ "java/lang/invoke/VarHandle" ∧ (parseMethodDescriptor yX10_turn.desc).map (fun d => d.parameters.length) = some 1 := by decide +kernel
set_option maxHeartbeats 4000000 in
set_option maxRecDepth 100000 in
theorem c_X10_turn (l : Launch) (G : va_G) (cI cZ cJ : ClassId) (aM aMdisk aMits aMmany aMplace aMlength aMtimes aMvalues aMorder aMheadOf aMheadTime aMheadValue aMnext aMisNew aMcursorTime aMcursorValue aMmade : Nat) (M_thrown : Int32) (M_series : Int32) (M_most : Int32) (M_ratio : Int32) (M_writes : Int32) (M_fuse : Int32) (M_down : Int32) (M_recovers : Int32) (M_looks : Int32) (M_unpacked : Int32) (M_chunks : Int32) (M_epoch : Int32) (M_side : Int32) (M_logged : Int32) (M_nexts : Int32) (M_hasCursor : Int32) (M_cursorMany : Int32) (M_cursorAt : Int32) (M_bits : Int32) (M_from : Int32) (M_askMany : Int32) (M_askLeast : Int32) (M_askGreatest : Int32) (M_askSum : Int64) (M_disk : Nat → Int32) (M_its : Nat → Int32) (M_many : Nat → Int32) (M_place : Nat → Int32) (M_length : Nat → Int32) (M_times : Nat → Int32) (M_values : Nat → Int32) (M_order : Nat → Int32) (M_next : Nat → Int32) (M_isNew : Nat → Int32) (M_made : Nat → Int32) (p0 : Int32) {r : Int32} {o_M_writes : Int32} {o_M_fuse : Int32} {o_M_down : Int32} {o_M_chunks : Int32} {o_M_epoch : Int32} {o_M_side : Int32} {o_M_bits : Int32} {o_M_disk : Nat → Int32} {o_M_place : Nat → Int32} {o_M_length : Nat → Int32} {o_M_order : Nat → Int32} {o_M_made : Nat → Int32} (hfin : m_X10_turn M_writes M_fuse M_down M_chunks M_epoch M_side M_nexts M_bits M_disk M_its M_many M_place M_length M_times M_values M_order M_next M_isNew M_made p0 = some (r, o_M_writes, o_M_fuse, o_M_down, o_M_chunks, o_M_epoch, o_M_side, o_M_bits, o_M_disk, o_M_place, o_M_length, o_M_order, o_M_made)) : CT l yX10_turn cX10_turn 5 (some .int) rm_X10_turn G (tyC cI cZ cJ) [.ref aM, .int p0] [oX10 aM M_thrown M_series M_most M_ratio aMdisk M_writes M_fuse M_down M_recovers M_looks M_unpacked aMits aMmany aMplace aMlength aMtimes aMvalues aMorder M_chunks M_epoch M_side aMheadOf aMheadTime aMheadValue M_logged aMnext aMisNew M_nexts aMcursorTime aMcursorValue M_hasCursor M_cursorMany M_cursorAt aMmade M_bits M_from M_askMany M_askLeast M_askGreatest M_askSum, rI aMdisk cI 4096 M_disk, rI aMits cI 240 M_its, rI aMmany cI 240 M_many, rI aMplace cI 240 M_place, rI aMlength cI 240 M_length, rI aMtimes cI 15360 M_times, rI aMvalues cI 15360 M_values, rI aMorder cI 96 M_order, rI aMnext cI 240 M_next, rI aMisNew cZ 240 M_isNew, rI aMmade cI 200 M_made] (some (.int r)) [oX10 aM M_thrown M_series M_most M_ratio aMdisk o_M_writes o_M_fuse o_M_down M_recovers M_looks M_unpacked aMits aMmany aMplace aMlength aMtimes aMvalues aMorder o_M_chunks o_M_epoch o_M_side aMheadOf aMheadTime aMheadValue M_logged aMnext aMisNew M_nexts aMcursorTime aMcursorValue M_hasCursor M_cursorMany M_cursorAt aMmade o_M_bits M_from M_askMany M_askLeast M_askGreatest M_askSum, rI aMdisk cI 4096 o_M_disk, rI aMits cI 240 M_its, rI aMmany cI 240 M_many, rI aMplace cI 240 o_M_place, rI aMlength cI 240 o_M_length, rI aMtimes cI 15360 M_times, rI aMvalues cI 15360 M_values, rI aMorder cI 96 o_M_order, rI aMnext cI 240 M_next, rI aMisNew cZ 240 M_isNew, rI aMmade cI 200 o_M_made] := by
  refine CT.ofW (lvl := [(0, .ref aM), (1, .int p0)]) (by decide) (Nat.le_of_ble_eq_true rfl) rfl ?_
  intro p e s m args below meth c A ls0 QQ hQQ hx hb hml hr hlocks htc hN hown hK hA hw0 hl0
  rw [m_X10_turn] at hfin
  refine lv_aload_n hx hb dX10_turn_0 rfl (lv_at hl0 0 rfl) ?_
  refine va_get (D := G) (ci := 10) (v := .int M_nexts) (C := RX10) (T := TX10) (N := 40) hx hb htc iX10 hown hK hw0.1 0 rfl rfl 27 (by decide) (htc _ mw_974) (fun _ h9 => h9) rfl dX10_turn_1 ?_
  refine lv_bipush (v := (96 : Int32)) hx hb dX10_turn_4 (by decide) ?_
  refine lv_icmp_le (tgt := 12) hx hb dX10_turn_6 (by decide) (fun c_1 => ?_) (fun c_1 => ?_)
  · replace hfin := it_t c_1 hfin
    refine lv_iconst (v := (0 : Int32)) hx hb dX10_turn_12 (by decide) ?_
    refine lv_istore_n (lv' := [(2, .int (0 : Int32)), (0, .ref aM), (1, .int p0)]) hx hb dX10_turn_13 rfl hl0 (by decide) rfl (fun ls2 hl2 => ?_)
    clear hl0 ls0
    have lp_10 : ∀ (n : Nat) (v2_3 : Int32) (M_bits_4 : Int32) (M_place_5 : Nat → Int32) (M_length_6 : Nat → Int32) (M_made_7 : Nat → Int32), lp_X10_turn_14 M_writes M_fuse M_down M_chunks M_epoch M_side M_nexts M_disk M_its M_many M_times M_values M_order M_next M_isNew p0 n v2_3 M_bits_4 M_place_5 M_length_6 M_made_7 = some (r, o_M_writes, o_M_fuse, o_M_down, o_M_chunks, o_M_epoch, o_M_side, o_M_bits, o_M_disk, o_M_place, o_M_length, o_M_order, o_M_made) → ∀ (H : Heap) (locs : List Loc) (ls : Array Slot), wS G A s H locs [oX10 aM M_thrown M_series M_most M_ratio aMdisk M_writes M_fuse M_down M_recovers M_looks M_unpacked aMits aMmany aMplace aMlength aMtimes aMvalues aMorder M_chunks M_epoch M_side aMheadOf aMheadTime aMheadValue M_logged aMnext aMisNew M_nexts aMcursorTime aMcursorValue M_hasCursor M_cursorMany M_cursorAt aMmade M_bits_4 M_from M_askMany M_askLeast M_askGreatest M_askSum, rI aMdisk cI 4096 M_disk, rI aMits cI 240 M_its, rI aMmany cI 240 M_many, rI aMplace cI 240 M_place_5, rI aMlength cI 240 M_length_6, rI aMtimes cI 15360 M_times, rI aMvalues cI 15360 M_values, rI aMorder cI 96 M_order, rI aMnext cI 240 M_next, rI aMisNew cZ 240 M_isNew, rI aMmade cI 200 M_made_7] → lv_has ls 5 [(0, .ref aM), (1, .int p0), (2, .int v2_3)] → W p l e rm_X10_turn s m args below meth c H locs 0 0 QQ (F0 m 14 ls []) := by
      clear hw0 hl2 ls2 hfin
      intro n
      induction n with
      | zero =>
        intro v2_3 M_bits_4 M_place_5 M_length_6 M_made_7 hB_11
        exact absurd hB_11 (by rw [lp_X10_turn_14]; exact fun h9 => nomatch h9)
      | succ n ih =>
        intro v2_3 M_bits_4 M_place_5 M_length_6 M_made_7 hB_11 H12 locs12 ls12 hw12 hl12
        rw [lp_X10_turn_14] at hB_11
        refine lv_iload_n hx hb dX10_turn_14 rfl (lv_at hl12 2 rfl) ?_
        refine lv_aload_n hx hb dX10_turn_15 rfl (lv_at hl12 0 rfl) ?_
        refine va_get (D := G) (ci := 10) (v := .int M_nexts) (C := RX10) (T := TX10) (N := 40) hx hb htc iX10 hown hK hw12.1 0 rfl rfl 27 (by decide) (htc _ mw_974) (fun _ h9 => h9) rfl dX10_turn_16 ?_
        refine lv_icmp_ge (tgt := 93) hx hb dX10_turn_19 (by decide) (fun c_13 => ?_) (fun c_13 => ?_)
        · replace hB_11 := it_t c_13 hB_11
          refine lv_iconst (v := (0 : Int32)) hx hb dX10_turn_93 (by decide) ?_
          refine lv_istore_n (lv' := [(2, .int (0 : Int32)), (0, .ref aM), (1, .int p0)]) hx hb dX10_turn_94 rfl hl12 (by decide) rfl (fun ls14 hl14 => ?_)
          clear hl12 ls12
          have lp_24 : ∀ (n : Nat) (v2_15 : Int32) (M_writes_16 : Int32) (M_fuse_17 : Int32) (M_down_18 : Int32) (M_bits_19 : Int32) (M_disk_20 : Nat → Int32) (M_made_21 : Nat → Int32), lp_X10_turn_95 M_chunks M_epoch M_side M_nexts M_its M_many M_times M_values M_order M_next M_isNew p0 M_place_5 M_length_6 n v2_15 M_writes_16 M_fuse_17 M_down_18 M_bits_19 M_disk_20 M_made_21 = some (r, o_M_writes, o_M_fuse, o_M_down, o_M_chunks, o_M_epoch, o_M_side, o_M_bits, o_M_disk, o_M_place, o_M_length, o_M_order, o_M_made) → ∀ (H : Heap) (locs : List Loc) (ls : Array Slot), wS G A s H locs [oX10 aM M_thrown M_series M_most M_ratio aMdisk M_writes_16 M_fuse_17 M_down_18 M_recovers M_looks M_unpacked aMits aMmany aMplace aMlength aMtimes aMvalues aMorder M_chunks M_epoch M_side aMheadOf aMheadTime aMheadValue M_logged aMnext aMisNew M_nexts aMcursorTime aMcursorValue M_hasCursor M_cursorMany M_cursorAt aMmade M_bits_19 M_from M_askMany M_askLeast M_askGreatest M_askSum, rI aMdisk cI 4096 M_disk_20, rI aMits cI 240 M_its, rI aMmany cI 240 M_many, rI aMplace cI 240 M_place_5, rI aMlength cI 240 M_length_6, rI aMtimes cI 15360 M_times, rI aMvalues cI 15360 M_values, rI aMorder cI 96 M_order, rI aMnext cI 240 M_next, rI aMisNew cZ 240 M_isNew, rI aMmade cI 200 M_made_21] → lv_has ls 5 [(0, .ref aM), (1, .int p0), (2, .int v2_15)] → W p l e rm_X10_turn s m args below meth c H locs 0 0 QQ (F0 m 95 ls []) := by
            clear hw12 H12 locs12 hl14 ls14 hB_11
            intro n
            induction n with
            | zero =>
              intro v2_15 M_writes_16 M_fuse_17 M_down_18 M_bits_19 M_disk_20 M_made_21 hB_25
              exact absurd hB_25 (by rw [lp_X10_turn_95]; exact fun h9 => nomatch h9)
            | succ n ih =>
              intro v2_15 M_writes_16 M_fuse_17 M_down_18 M_bits_19 M_disk_20 M_made_21 hB_25 H26 locs26 ls26 hw26 hl26
              rw [lp_X10_turn_95] at hB_25
              refine lv_iload_n hx hb dX10_turn_95 rfl (lv_at hl26 2 rfl) ?_
              refine lv_aload_n hx hb dX10_turn_96 rfl (lv_at hl26 0 rfl) ?_
              refine va_get (D := G) (ci := 10) (v := .int M_nexts) (C := RX10) (T := TX10) (N := 40) hx hb htc iX10 hown hK hw26.1 0 rfl rfl 27 (by decide) (htc _ mw_974) (fun _ h9 => h9) rfl dX10_turn_97 ?_
              refine lv_icmp_ge (tgt := 134) hx hb dX10_turn_100 (by decide) (fun c_27 => ?_) (fun c_27 => ?_)
              · replace hB_25 := it_t c_27 hB_25
                refine lv_aload_n hx hb dX10_turn_134 rfl (lv_at hl26 0 rfl) ?_
                refine lv_aload_n hx hb dX10_turn_135 rfl (lv_at hl26 0 rfl) ?_
                refine lv_iconst (v := (1 : Int32)) hx hb dX10_turn_136 (by decide) ?_
                refine lv_aload_n hx hb dX10_turn_137 rfl (lv_at hl26 0 rfl) ?_
                refine va_get (D := G) (ci := 10) (v := .int M_side) (C := RX10) (T := TX10) (N := 40) hx hb htc iX10 hown hK hw26.1 0 rfl rfl 20 (by decide) (htc _ mw_967) (fun _ h9 => h9) rfl dX10_turn_138 ?_
                refine lv_isub hx hb dX10_turn_141 ?_
                replace hB_25 := ob1_some hB_25
                obtain ⟨r_29, hE_28, hB_25⟩ := hB_25
                refine ctV (a := aM) (As := [.int ((1 : Int32) - M_side)]) (rest := [.ref aM]) (st1 := [.int r_29, .ref aM]) (wc := [oX10 aM M_thrown M_series M_most M_ratio aMdisk M_writes_16 M_fuse_17 M_down_18 M_recovers M_looks M_unpacked aMits aMmany aMplace aMlength aMtimes aMvalues aMorder M_chunks M_epoch M_side aMheadOf aMheadTime aMheadValue M_logged aMnext aMisNew M_nexts aMcursorTime aMcursorValue M_hasCursor M_cursorMany M_cursorAt aMmade M_bits_19 M_from M_askMany M_askLeast M_askGreatest M_askSum]) (w1 := [oX10 aM M_thrown M_series M_most M_ratio aMdisk M_writes_16 M_fuse_17 M_down_18 M_recovers M_looks M_unpacked aMits aMmany aMplace aMlength aMtimes aMvalues aMorder M_chunks M_epoch M_side aMheadOf aMheadTime aMheadValue M_logged aMnext aMisNew M_nexts aMcursorTime aMcursorValue M_hasCursor M_cursorMany M_cursorAt aMmade M_bits_19 M_from M_askMany M_askLeast M_askGreatest M_askSum]) (wr := [rI aMdisk cI 4096 M_disk_20, rI aMits cI 240 M_its, rI aMmany cI 240 M_many, rI aMplace cI 240 M_place_5, rI aMlength cI 240 M_length_6, rI aMtimes cI 15360 M_times, rI aMvalues cI 15360 M_values, rI aMorder cI 96 M_order, rI aMnext cI 240 M_next, rI aMisNew cZ 240 M_isNew, rI aMmade cI 200 M_made_21]) (wb := [oX10 aM M_thrown M_series M_most M_ratio aMdisk M_writes_16 M_fuse_17 M_down_18 M_recovers M_looks M_unpacked aMits aMmany aMplace aMlength aMtimes aMvalues aMorder M_chunks M_epoch M_side aMheadOf aMheadTime aMheadValue M_logged aMnext aMisNew M_nexts aMcursorTime aMcursorValue M_hasCursor M_cursorMany M_cursorAt aMmade M_bits_19 M_from M_askMany M_askLeast M_askGreatest M_askSum, rI aMdisk cI 4096 M_disk_20, rI aMits cI 240 M_its, rI aMmany cI 240 M_many, rI aMplace cI 240 M_place_5, rI aMlength cI 240 M_length_6, rI aMtimes cI 15360 M_times, rI aMvalues cI 15360 M_values, rI aMorder cI 96 M_order, rI aMnext cI 240 M_next, rI aMisNew cZ 240 M_isNew, rI aMmade cI 200 M_made_21]) (v := (some (.int r_29))) hx hb hml hown htc hN (c_X10_index l G cI cZ cJ aM aMdisk aMits aMmany aMplace aMlength aMtimes aMvalues aMorder aMheadOf aMheadTime aMheadValue aMnext aMisNew aMcursorTime aMcursorValue aMmade M_thrown M_series M_most M_ratio M_writes_16 M_fuse_17 M_down_18 M_recovers M_looks M_unpacked M_chunks M_epoch M_side M_logged M_nexts M_hasCursor M_cursorMany M_cursorAt M_bits_19 M_from M_askMany M_askLeast M_askGreatest M_askSum ((1 : Int32) - M_side) hE_28) mw_1169 mw_1171 mp_53 mw_12 mw_1172 hd_X10_index ⟨rfl, rfl⟩ ⟨Nat.le_of_ble_eq_true rfl, Nat.le_of_ble_eq_true rfl⟩ hK hw26 hA [0] [1, 2, 3, 4, 5, 6, 7, 8, 9, 10, 11] [11, 0, 1, 2, 3, 4, 5, 6, 7, 8, 9, 10] rfl rfl rfl rfl rfl (by decide) rfl rfl rfl 0 rfl rfl rfl rfl hl26.1 rfl rfl (Nat.le_of_ble_eq_true rfl) dX10_turn_142 ⟨Nat.zero_le _, Nat.zero_le _⟩ (fun H30 locs30 hw30 => ?_)
                clear hw26 H26 locs26
                replace hB_25 := ob5_some hB_25
                obtain ⟨r_32, M_writes_33, M_fuse_34, M_down_35, M_disk_36, hE_31, hB_25⟩ := hB_25
                refine ctV (a := aM) (As := [.int r_29]) (rest := []) (st1 := [.int r_32]) (wc := [oX10 aM M_thrown M_series M_most M_ratio aMdisk M_writes_16 M_fuse_17 M_down_18 M_recovers M_looks M_unpacked aMits aMmany aMplace aMlength aMtimes aMvalues aMorder M_chunks M_epoch M_side aMheadOf aMheadTime aMheadValue M_logged aMnext aMisNew M_nexts aMcursorTime aMcursorValue M_hasCursor M_cursorMany M_cursorAt aMmade M_bits_19 M_from M_askMany M_askLeast M_askGreatest M_askSum, rI aMdisk cI 4096 M_disk_20, rI aMits cI 240 M_its, rI aMmany cI 240 M_many, rI aMplace cI 240 M_place_5, rI aMlength cI 240 M_length_6, rI aMtimes cI 15360 M_times, rI aMvalues cI 15360 M_values, rI aMnext cI 240 M_next]) (w1 := [oX10 aM M_thrown M_series M_most M_ratio aMdisk M_writes_33 M_fuse_34 M_down_35 M_recovers M_looks M_unpacked aMits aMmany aMplace aMlength aMtimes aMvalues aMorder M_chunks M_epoch M_side aMheadOf aMheadTime aMheadValue M_logged aMnext aMisNew M_nexts aMcursorTime aMcursorValue M_hasCursor M_cursorMany M_cursorAt aMmade M_bits_19 M_from M_askMany M_askLeast M_askGreatest M_askSum, rI aMdisk cI 4096 M_disk_36, rI aMits cI 240 M_its, rI aMmany cI 240 M_many, rI aMplace cI 240 M_place_5, rI aMlength cI 240 M_length_6, rI aMtimes cI 15360 M_times, rI aMvalues cI 15360 M_values, rI aMnext cI 240 M_next]) (wr := [rI aMorder cI 96 M_order, rI aMisNew cZ 240 M_isNew, rI aMmade cI 200 M_made_21]) (wb := [oX10 aM M_thrown M_series M_most M_ratio aMdisk M_writes_33 M_fuse_34 M_down_35 M_recovers M_looks M_unpacked aMits aMmany aMplace aMlength aMtimes aMvalues aMorder M_chunks M_epoch M_side aMheadOf aMheadTime aMheadValue M_logged aMnext aMisNew M_nexts aMcursorTime aMcursorValue M_hasCursor M_cursorMany M_cursorAt aMmade M_bits_19 M_from M_askMany M_askLeast M_askGreatest M_askSum, rI aMdisk cI 4096 M_disk_36, rI aMits cI 240 M_its, rI aMmany cI 240 M_many, rI aMplace cI 240 M_place_5, rI aMlength cI 240 M_length_6, rI aMtimes cI 15360 M_times, rI aMvalues cI 15360 M_values, rI aMorder cI 96 M_order, rI aMnext cI 240 M_next, rI aMisNew cZ 240 M_isNew, rI aMmade cI 200 M_made_21]) (v := (some (.int r_32))) hx hb hml hown htc hN (c_X10_writeIndex l G cI cZ cJ aM aMdisk aMits aMmany aMplace aMlength aMtimes aMvalues aMorder aMheadOf aMheadTime aMheadValue aMnext aMisNew aMcursorTime aMcursorValue aMmade M_thrown M_series M_most M_ratio M_writes_16 M_fuse_17 M_down_18 M_recovers M_looks M_unpacked M_chunks M_epoch M_side M_logged M_nexts M_hasCursor M_cursorMany M_cursorAt M_bits_19 M_from M_askMany M_askLeast M_askGreatest M_askSum M_disk_20 M_its M_many M_place_5 M_length_6 M_times M_values M_next r_29 hE_31) mw_1173 mw_1175 mp_54 mw_12 mw_1176 hd_X10_writeIndex ⟨rfl, rfl⟩ ⟨Nat.le_of_ble_eq_true rfl, Nat.le_of_ble_eq_true rfl⟩ hK hw30 hA [0, 1, 2, 3, 4, 5, 6, 7, 9] [8, 10, 11] [3, 4, 5, 6, 7, 8, 9, 10, 0, 11, 1, 2] rfl rfl rfl rfl rfl (by decide) rfl rfl rfl 0 rfl rfl rfl rfl hl26.1 rfl rfl (Nat.le_of_ble_eq_true rfl) dX10_turn_145 ⟨Nat.zero_le _, Nat.zero_le _⟩ (fun H37 locs37 hw37 => ?_)
                clear hw30 H30 locs30
                refine lv_if_eq (tgt := 169) hx hb dX10_turn_148 (by decide) (fun c_38 => ?_) (fun c_38 => ?_)
                · replace hB_25 := it_t c_38 hB_25
                  refine lv_bipush (v := (-9 : Int32)) hx hb dX10_turn_169 (by decide) ?_
                  cases hB_25
                  rw [hQQ]
                  exact ct_iret hx hb hr hlocks hw37.1 hw37.2.1 hw37.2.2 dX10_turn_171
                · replace hB_25 := it_f c_38 hB_25
                  refine lv_aload_n hx hb dX10_turn_151 rfl (lv_at hl26 0 rfl) ?_
                  refine lv_iconst (v := (0 : Int32)) hx hb dX10_turn_152 (by decide) ?_
                  refine lv_iconst (v := (2 : Int32)) hx hb dX10_turn_153 (by decide) ?_
                  refine lv_iload_n hx hb dX10_turn_154 rfl (lv_at hl26 1 rfl) ?_
                  refine lv_imul hx hb dX10_turn_155 ?_
                  refine lv_iconst (v := (1 : Int32)) hx hb dX10_turn_156 (by decide) ?_
                  refine lv_iadd hx hb dX10_turn_157 ?_
                  refine lv_aload_n hx hb dX10_turn_158 rfl (lv_at hl26 0 rfl) ?_
                  refine va_get (D := G) (ci := 10) (v := .int M_side) (C := RX10) (T := TX10) (N := 40) hx hb htc iX10 hown hK hw37.1 0 rfl rfl 20 (by decide) (htc _ mw_967) (fun _ h9 => h9) rfl dX10_turn_159 ?_
                  refine lv_isub hx hb dX10_turn_162 ?_
                  replace hB_25 := ob5_some hB_25
                  obtain ⟨r_40, M_writes_41, M_fuse_42, M_down_43, M_disk_44, hE_39, hB_25⟩ := hB_25
                  refine ctV (a := aM) (As := [.int (0 : Int32), .int ((((2 : Int32) * p0) + (1 : Int32)) - M_side)]) (rest := []) (st1 := [.int r_40]) (wc := [oX10 aM M_thrown M_series M_most M_ratio aMdisk M_writes_33 M_fuse_34 M_down_35 M_recovers M_looks M_unpacked aMits aMmany aMplace aMlength aMtimes aMvalues aMorder M_chunks M_epoch M_side aMheadOf aMheadTime aMheadValue M_logged aMnext aMisNew M_nexts aMcursorTime aMcursorValue M_hasCursor M_cursorMany M_cursorAt aMmade M_bits_19 M_from M_askMany M_askLeast M_askGreatest M_askSum, rI aMdisk cI 4096 M_disk_36]) (w1 := [oX10 aM M_thrown M_series M_most M_ratio aMdisk M_writes_41 M_fuse_42 M_down_43 M_recovers M_looks M_unpacked aMits aMmany aMplace aMlength aMtimes aMvalues aMorder M_chunks M_epoch M_side aMheadOf aMheadTime aMheadValue M_logged aMnext aMisNew M_nexts aMcursorTime aMcursorValue M_hasCursor M_cursorMany M_cursorAt aMmade M_bits_19 M_from M_askMany M_askLeast M_askGreatest M_askSum, rI aMdisk cI 4096 M_disk_44]) (wr := [rI aMits cI 240 M_its, rI aMmany cI 240 M_many, rI aMplace cI 240 M_place_5, rI aMlength cI 240 M_length_6, rI aMtimes cI 15360 M_times, rI aMvalues cI 15360 M_values, rI aMorder cI 96 M_order, rI aMnext cI 240 M_next, rI aMisNew cZ 240 M_isNew, rI aMmade cI 200 M_made_21]) (wb := [oX10 aM M_thrown M_series M_most M_ratio aMdisk M_writes_41 M_fuse_42 M_down_43 M_recovers M_looks M_unpacked aMits aMmany aMplace aMlength aMtimes aMvalues aMorder M_chunks M_epoch M_side aMheadOf aMheadTime aMheadValue M_logged aMnext aMisNew M_nexts aMcursorTime aMcursorValue M_hasCursor M_cursorMany M_cursorAt aMmade M_bits_19 M_from M_askMany M_askLeast M_askGreatest M_askSum, rI aMdisk cI 4096 M_disk_44, rI aMits cI 240 M_its, rI aMmany cI 240 M_many, rI aMplace cI 240 M_place_5, rI aMlength cI 240 M_length_6, rI aMtimes cI 15360 M_times, rI aMvalues cI 15360 M_values, rI aMorder cI 96 M_order, rI aMnext cI 240 M_next, rI aMisNew cZ 240 M_isNew, rI aMmade cI 200 M_made_21]) (v := (some (.int r_40))) hx hb hml hown htc hN (c_X10_write l G cI cZ cJ aM aMdisk aMits aMmany aMplace aMlength aMtimes aMvalues aMorder aMheadOf aMheadTime aMheadValue aMnext aMisNew aMcursorTime aMcursorValue aMmade M_thrown M_series M_most M_ratio M_writes_33 M_fuse_34 M_down_35 M_recovers M_looks M_unpacked M_chunks M_epoch M_side M_logged M_nexts M_hasCursor M_cursorMany M_cursorAt M_bits_19 M_from M_askMany M_askLeast M_askGreatest M_askSum M_disk_36 (0 : Int32) ((((2 : Int32) * p0) + (1 : Int32)) - M_side) hE_39) mw_1088 mw_1090 mp_37 mw_12 mw_1091 hd_X10_write ⟨rfl, rfl⟩ ⟨Nat.le_of_ble_eq_true rfl, Nat.le_of_ble_eq_true rfl⟩ hK hw37 hA [0, 1] [2, 3, 4, 5, 6, 7, 8, 9, 10, 11] [10, 11, 0, 1, 2, 3, 4, 5, 6, 7, 8, 9] rfl rfl rfl rfl rfl (by decide) rfl rfl rfl 0 rfl rfl rfl rfl hl26.1 rfl rfl (Nat.le_of_ble_eq_true rfl) dX10_turn_163 ⟨Nat.zero_le _, Nat.zero_le _⟩ (fun H45 locs45 hw45 => ?_)
                  clear hw37 H37 locs37
                  refine lv_if_ne (tgt := 172) hx hb dX10_turn_166 (by decide) (fun c_46 => ?_) (fun c_46 => ?_)
                  · replace hB_25 := it_f c_46 hB_25
                    refine lv_iconst (v := (0 : Int32)) hx hb dX10_turn_172 (by decide) ?_
                    refine lv_istore_n (lv' := [(2, .int (0 : Int32)), (0, .ref aM), (1, .int p0)]) hx hb dX10_turn_173 rfl hl26 (by decide) rfl (fun ls47 hl47 => ?_)
                    clear hl26 ls26
                    replace hB_25 := ob1_some hB_25
                    obtain ⟨M_order_54, hL_50, hB_25⟩ := hB_25
                    have kx_51 : ∀ (H : Heap) (locs : List Loc) (ls : Array Slot), wS G A s H locs [oX10 aM M_thrown M_series M_most M_ratio aMdisk M_writes_41 M_fuse_42 M_down_43 M_recovers M_looks M_unpacked aMits aMmany aMplace aMlength aMtimes aMvalues aMorder M_chunks M_epoch M_side aMheadOf aMheadTime aMheadValue M_logged aMnext aMisNew M_nexts aMcursorTime aMcursorValue M_hasCursor M_cursorMany M_cursorAt aMmade M_bits_19 M_from M_askMany M_askLeast M_askGreatest M_askSum, rI aMdisk cI 4096 M_disk_44, rI aMits cI 240 M_its, rI aMmany cI 240 M_many, rI aMplace cI 240 M_place_5, rI aMlength cI 240 M_length_6, rI aMtimes cI 15360 M_times, rI aMvalues cI 15360 M_values, rI aMorder cI 96 M_order_54, rI aMnext cI 240 M_next, rI aMisNew cZ 240 M_isNew, rI aMmade cI 200 M_made_21] → lv_has ls 5 [(0, .ref aM), (1, .int p0)] → W p l e rm_X10_turn s m args below meth c H locs 0 0 QQ (F0 m 200 ls []) := by
                      clear hw45 H45 locs45 hl47 ls47 hL_50
                      intro H61 locs61 ls61 hw61 hl61
                      refine lv_aload_n hx hb dX10_turn_200 rfl (lv_at hl61 0 rfl) ?_
                      refine lv_aload_n hx hb dX10_turn_201 rfl (lv_at hl61 0 rfl) ?_
                      refine va_get (D := G) (ci := 10) (v := .int M_nexts) (C := RX10) (T := TX10) (N := 40) hx hb htc iX10 hown hK hw61.1 0 rfl rfl 27 (by decide) (htc _ mw_974) (fun _ h9 => h9) rfl dX10_turn_202 ?_
                      refine va_put (D := G) (ci := 10) (v := .int M_nexts) (ty := .int) (C := RX10) (T := TX10) (N := 40) hx hb htc iX10 tyX10 tyX10_ok nmX10 hown hK hw61.1 hw61.2.1 hw61.2.2 0 rfl rfl 18 (by decide) (htc _ mw_965) (fun _ h9 => h9) rfl (tyX10_ok 18 (by decide)) rfl rfl (Nat.le_of_ble_eq_true rfl) dX10_turn_205 (fun H62 locs62 hP hD hS => ?_)
                      have hw62 : wS G A s H62 locs62 [oX10 aM M_thrown M_series M_most M_ratio aMdisk M_writes_41 M_fuse_42 M_down_43 M_recovers M_looks M_unpacked aMits aMmany aMplace aMlength aMtimes aMvalues aMorder M_nexts M_epoch M_side aMheadOf aMheadTime aMheadValue M_logged aMnext aMisNew M_nexts aMcursorTime aMcursorValue M_hasCursor M_cursorMany M_cursorAt aMmade M_bits_19 M_from M_askMany M_askLeast M_askGreatest M_askSum, rI aMdisk cI 4096 M_disk_44, rI aMits cI 240 M_its, rI aMmany cI 240 M_many, rI aMplace cI 240 M_place_5, rI aMlength cI 240 M_length_6, rI aMtimes cI 15360 M_times, rI aMvalues cI 15360 M_values, rI aMorder cI 96 M_order_54, rI aMnext cI 240 M_next, rI aMisNew cZ 240 M_isNew, rI aMmade cI 200 M_made_21] := ⟨hP, hD, hS⟩
                      clear hP hD hS hw61 H61 locs61
                      refine lv_aload_n hx hb dX10_turn_208 rfl (lv_at hl61 0 rfl) ?_
                      refine lv_iload_n hx hb dX10_turn_209 rfl (lv_at hl61 1 rfl) ?_
                      refine va_put (D := G) (ci := 10) (v := .int p0) (ty := .int) (C := RX10) (T := TX10) (N := 40) hx hb htc iX10 tyX10 tyX10_ok nmX10 hown hK hw62.1 hw62.2.1 hw62.2.2 0 rfl rfl 19 (by decide) (htc _ mw_966) (fun _ h9 => h9) rfl (tyX10_ok 19 (by decide)) rfl rfl (Nat.le_of_ble_eq_true rfl) dX10_turn_210 (fun H63 locs63 hP hD hS => ?_)
                      have hw63 : wS G A s H63 locs63 [oX10 aM M_thrown M_series M_most M_ratio aMdisk M_writes_41 M_fuse_42 M_down_43 M_recovers M_looks M_unpacked aMits aMmany aMplace aMlength aMtimes aMvalues aMorder M_nexts p0 M_side aMheadOf aMheadTime aMheadValue M_logged aMnext aMisNew M_nexts aMcursorTime aMcursorValue M_hasCursor M_cursorMany M_cursorAt aMmade M_bits_19 M_from M_askMany M_askLeast M_askGreatest M_askSum, rI aMdisk cI 4096 M_disk_44, rI aMits cI 240 M_its, rI aMmany cI 240 M_many, rI aMplace cI 240 M_place_5, rI aMlength cI 240 M_length_6, rI aMtimes cI 15360 M_times, rI aMvalues cI 15360 M_values, rI aMorder cI 96 M_order_54, rI aMnext cI 240 M_next, rI aMisNew cZ 240 M_isNew, rI aMmade cI 200 M_made_21] := ⟨hP, hD, hS⟩
                      clear hP hD hS hw62 H62 locs62
                      refine lv_aload_n hx hb dX10_turn_213 rfl (lv_at hl61 0 rfl) ?_
                      refine lv_iconst (v := (1 : Int32)) hx hb dX10_turn_214 (by decide) ?_
                      refine lv_aload_n hx hb dX10_turn_215 rfl (lv_at hl61 0 rfl) ?_
                      refine va_get (D := G) (ci := 10) (v := .int M_side) (C := RX10) (T := TX10) (N := 40) hx hb htc iX10 hown hK hw63.1 0 rfl rfl 20 (by decide) (htc _ mw_967) (fun _ h9 => h9) rfl dX10_turn_216 ?_
                      refine lv_isub hx hb dX10_turn_219 ?_
                      refine va_put (D := G) (ci := 10) (v := .int ((1 : Int32) - M_side)) (ty := .int) (C := RX10) (T := TX10) (N := 40) hx hb htc iX10 tyX10 tyX10_ok nmX10 hown hK hw63.1 hw63.2.1 hw63.2.2 0 rfl rfl 20 (by decide) (htc _ mw_967) (fun _ h9 => h9) rfl (tyX10_ok 20 (by decide)) rfl rfl (Nat.le_of_ble_eq_true rfl) dX10_turn_220 (fun H64 locs64 hP hD hS => ?_)
                      have hw64 : wS G A s H64 locs64 [oX10 aM M_thrown M_series M_most M_ratio aMdisk M_writes_41 M_fuse_42 M_down_43 M_recovers M_looks M_unpacked aMits aMmany aMplace aMlength aMtimes aMvalues aMorder M_nexts p0 ((1 : Int32) - M_side) aMheadOf aMheadTime aMheadValue M_logged aMnext aMisNew M_nexts aMcursorTime aMcursorValue M_hasCursor M_cursorMany M_cursorAt aMmade M_bits_19 M_from M_askMany M_askLeast M_askGreatest M_askSum, rI aMdisk cI 4096 M_disk_44, rI aMits cI 240 M_its, rI aMmany cI 240 M_many, rI aMplace cI 240 M_place_5, rI aMlength cI 240 M_length_6, rI aMtimes cI 15360 M_times, rI aMvalues cI 15360 M_values, rI aMorder cI 96 M_order_54, rI aMnext cI 240 M_next, rI aMisNew cZ 240 M_isNew, rI aMmade cI 200 M_made_21] := ⟨hP, hD, hS⟩
                      clear hP hD hS hw63 H63 locs63
                      refine lv_iconst (v := (0 : Int32)) hx hb dX10_turn_223 (by decide) ?_
                      cases hB_25
                      rw [hQQ]
                      exact ct_iret hx hb hr hlocks hw64.1 hw64.2.1 hw64.2.2 dX10_turn_224
                    have lp_52 : ∀ (n : Nat) (v2_48 : Int32) (M_order_49 : Nat → Int32), lp_X10_turn_174 M_nexts M_next n v2_48 M_order_49 = some (M_order_54) → ∀ (H : Heap) (locs : List Loc) (ls : Array Slot), wS G A s H locs [oX10 aM M_thrown M_series M_most M_ratio aMdisk M_writes_41 M_fuse_42 M_down_43 M_recovers M_looks M_unpacked aMits aMmany aMplace aMlength aMtimes aMvalues aMorder M_chunks M_epoch M_side aMheadOf aMheadTime aMheadValue M_logged aMnext aMisNew M_nexts aMcursorTime aMcursorValue M_hasCursor M_cursorMany M_cursorAt aMmade M_bits_19 M_from M_askMany M_askLeast M_askGreatest M_askSum, rI aMdisk cI 4096 M_disk_44, rI aMits cI 240 M_its, rI aMmany cI 240 M_many, rI aMplace cI 240 M_place_5, rI aMlength cI 240 M_length_6, rI aMtimes cI 15360 M_times, rI aMvalues cI 15360 M_values, rI aMorder cI 96 M_order_49, rI aMnext cI 240 M_next, rI aMisNew cZ 240 M_isNew, rI aMmade cI 200 M_made_21] → lv_has ls 5 [(0, .ref aM), (1, .int p0), (2, .int v2_48)] → W p l e rm_X10_turn s m args below meth c H locs 0 0 QQ (F0 m 174 ls []) := by
                      clear hw45 H45 locs45 hl47 ls47 hB_25
                      intro n
                      induction n with
                      | zero =>
                        intro v2_48 M_order_49 hB_53
                        exact absurd hB_53 (by rw [lp_X10_turn_174]; exact fun h9 => nomatch h9)
                      | succ n ih =>
                        intro v2_48 M_order_49 hB_53 H55 locs55 ls55 hw55 hl55
                        rw [lp_X10_turn_174] at hB_53
                        refine lv_iload_n hx hb dX10_turn_174 rfl (lv_at hl55 2 rfl) ?_
                        refine lv_aload_n hx hb dX10_turn_175 rfl (lv_at hl55 0 rfl) ?_
                        refine va_get (D := G) (ci := 10) (v := .int M_nexts) (C := RX10) (T := TX10) (N := 40) hx hb htc iX10 hown hK hw55.1 0 rfl rfl 27 (by decide) (htc _ mw_974) (fun _ h9 => h9) rfl dX10_turn_176 ?_
                        refine lv_icmp_ge (tgt := 200) hx hb dX10_turn_179 (by decide) (fun c_56 => ?_) (fun c_56 => ?_)
                        · replace hB_53 := it_t c_56 hB_53
                          cases hB_53
                          exact kx_51 _ _ _ hw55 (lv_sub hl55 [0, 1] rfl)
                        · replace hB_53 := it_f c_56 hB_53
                          refine lv_aload_n hx hb dX10_turn_182 rfl (lv_at hl55 0 rfl) ?_
                          refine va_get (D := G) (ci := 10) (v := .ref aMorder) (C := RX10) (T := TX10) (N := 40) hx hb htc iX10 hown hK hw55.1 0 rfl rfl 17 (by decide) (htc _ mw_964) (fun _ h9 => h9) rfl dX10_turn_183 ?_
                          refine lv_iload_n hx hb dX10_turn_186 rfl (lv_at hl55 2 rfl) ?_
                          refine lv_aload_n hx hb dX10_turn_187 rfl (lv_at hl55 0 rfl) ?_
                          refine va_get (D := G) (ci := 10) (v := .ref aMnext) (C := RX10) (T := TX10) (N := 40) hx hb htc iX10 hown hK hw55.1 0 rfl rfl 25 (by decide) (htc _ mw_972) (fun _ h9 => h9) rfl dX10_turn_188 ?_
                          refine lv_iload_n hx hb dX10_turn_191 rfl (lv_at hl55 2 rfl) ?_
                          replace hB_53 := ckb_some hB_53
                          obtain ⟨hin_57, hB_53⟩ := hB_53
                          refine va_iald hx hb hK hw55.1 9 0 rfl rfl hin_57 dX10_turn_192 ?_
                          replace hB_53 := ckb_some hB_53
                          obtain ⟨hin_58, hB_53⟩ := hB_53
                          refine va_iast hx hb hK hw55.1 hw55.2.1 hw55.2.2 8 0 rfl rfl hin_58 dX10_turn_193 (fun H59 locs59 hP hD hS => ?_)
                          have hw59 : wS G A s H59 locs59 [oX10 aM M_thrown M_series M_most M_ratio aMdisk M_writes_41 M_fuse_42 M_down_43 M_recovers M_looks M_unpacked aMits aMmany aMplace aMlength aMtimes aMvalues aMorder M_chunks M_epoch M_side aMheadOf aMheadTime aMheadValue M_logged aMnext aMisNew M_nexts aMcursorTime aMcursorValue M_hasCursor M_cursorMany M_cursorAt aMmade M_bits_19 M_from M_askMany M_askLeast M_askGreatest M_askSum, rI aMdisk cI 4096 M_disk_44, rI aMits cI 240 M_its, rI aMmany cI 240 M_many, rI aMplace cI 240 M_place_5, rI aMlength cI 240 M_length_6, rI aMtimes cI 15360 M_times, rI aMvalues cI 15360 M_values, rI aMorder cI 96 (upd M_order_49 (Int32.toNatClampNeg v2_48) (M_next (Int32.toNatClampNeg v2_48))), rI aMnext cI 240 M_next, rI aMisNew cZ 240 M_isNew, rI aMmade cI 200 M_made_21] := ⟨hP, hD, hS⟩
                          clear hP hD hS hw55 H55 locs55
                          refine lv_iinc (v := (v2_48 + (1 : Int32))) (lv' := [(2, .int (v2_48 + (1 : Int32))), (0, .ref aM), (1, .int p0)]) hx hb dX10_turn_194 hl55 (k := 2) rfl rfl (by decide) rfl (fun ls60 hl60 => ?_)
                          clear hl55 ls55
                          refine lv_goto (tgt := 174) hx hb dX10_turn_197 (by decide) ?_
                          exact ih (v2_48 + (1 : Int32)) (upd M_order_49 (Int32.toNatClampNeg v2_48) (M_next (Int32.toNatClampNeg v2_48))) hB_53 _ _ _ hw59 (lv_sub hl60 [1, 2, 0] rfl)
                    exact lp_52 NN (0 : Int32) M_order hL_50 _ _ _ hw45 (lv_sub hl47 [1, 2, 0] rfl)
                  · replace hB_25 := it_t c_46 hB_25
                    refine lv_bipush (v := (-9 : Int32)) hx hb dX10_turn_169 (by decide) ?_
                    cases hB_25
                    rw [hQQ]
                    exact ct_iret hx hb hr hlocks hw45.1 hw45.2.1 hw45.2.2 dX10_turn_171
              · replace hB_25 := it_f c_27 hB_25
                refine lv_aload_n hx hb dX10_turn_103 rfl (lv_at hl26 0 rfl) ?_
                refine va_get (D := G) (ci := 10) (v := .ref aMisNew) (C := RX10) (T := TX10) (N := 40) hx hb htc iX10 hown hK hw26.1 0 rfl rfl 26 (by decide) (htc _ mw_973) (fun _ h9 => h9) rfl dX10_turn_104 ?_
                refine lv_iload_n hx hb dX10_turn_107 rfl (lv_at hl26 2 rfl) ?_
                replace hB_25 := ckb_some hB_25
                obtain ⟨hin_65, hB_25⟩ := hB_25
                refine va_zald hx hb hK hw26.1 10 1 rfl rfl hin_65 dX10_turn_108 ?_
                refine lv_if_eq (tgt := 128) hx hb dX10_turn_109 (by decide) (fun c_66 => ?_) (fun c_66 => ?_)
                · replace hB_25 := it_t c_66 hB_25
                  refine lv_iinc (v := (v2_15 + (1 : Int32))) (lv' := [(2, .int (v2_15 + (1 : Int32))), (0, .ref aM), (1, .int p0)]) hx hb dX10_turn_128 hl26 (k := 2) rfl rfl (by decide) rfl (fun ls67 hl67 => ?_)
                  clear hl26 ls26
                  refine lv_goto (tgt := 95) hx hb dX10_turn_131 (by decide) ?_
                  exact ih (v2_15 + (1 : Int32)) M_writes_16 M_fuse_17 M_down_18 M_bits_19 M_disk_20 M_made_21 hB_25 _ _ _ hw26 (lv_sub hl67 [1, 2, 0] rfl)
                · replace hB_25 := it_f c_66 hB_25
                  refine lv_aload_n hx hb dX10_turn_112 rfl (lv_at hl26 0 rfl) ?_
                  refine lv_aload_n hx hb dX10_turn_113 rfl (lv_at hl26 0 rfl) ?_
                  refine va_get (D := G) (ci := 10) (v := .ref aMnext) (C := RX10) (T := TX10) (N := 40) hx hb htc iX10 hown hK hw26.1 0 rfl rfl 25 (by decide) (htc _ mw_972) (fun _ h9 => h9) rfl dX10_turn_114 ?_
                  refine lv_iload_n hx hb dX10_turn_117 rfl (lv_at hl26 2 rfl) ?_
                  replace hB_25 := ckb_some hB_25
                  obtain ⟨hin_68, hB_25⟩ := hB_25
                  refine va_iald hx hb hK hw26.1 9 0 rfl rfl hin_68 dX10_turn_118 ?_
                  replace hB_25 := ob7_some hB_25
                  obtain ⟨r_70, M_writes_71, M_fuse_72, M_down_73, M_bits_74, M_disk_75, M_made_76, hE_69, hB_25⟩ := hB_25
                  refine ctV (a := aM) (As := [.int (M_next (Int32.toNatClampNeg v2_15))]) (rest := []) (st1 := [.int r_70]) (wc := [oX10 aM M_thrown M_series M_most M_ratio aMdisk M_writes_16 M_fuse_17 M_down_18 M_recovers M_looks M_unpacked aMits aMmany aMplace aMlength aMtimes aMvalues aMorder M_chunks M_epoch M_side aMheadOf aMheadTime aMheadValue M_logged aMnext aMisNew M_nexts aMcursorTime aMcursorValue M_hasCursor M_cursorMany M_cursorAt aMmade M_bits_19 M_from M_askMany M_askLeast M_askGreatest M_askSum, rI aMdisk cI 4096 M_disk_20, rI aMmany cI 240 M_many, rI aMplace cI 240 M_place_5, rI aMtimes cI 15360 M_times, rI aMvalues cI 15360 M_values, rI aMmade cI 200 M_made_21]) (w1 := [oX10 aM M_thrown M_series M_most M_ratio aMdisk M_writes_71 M_fuse_72 M_down_73 M_recovers M_looks M_unpacked aMits aMmany aMplace aMlength aMtimes aMvalues aMorder M_chunks M_epoch M_side aMheadOf aMheadTime aMheadValue M_logged aMnext aMisNew M_nexts aMcursorTime aMcursorValue M_hasCursor M_cursorMany M_cursorAt aMmade M_bits_74 M_from M_askMany M_askLeast M_askGreatest M_askSum, rI aMdisk cI 4096 M_disk_75, rI aMmany cI 240 M_many, rI aMplace cI 240 M_place_5, rI aMtimes cI 15360 M_times, rI aMvalues cI 15360 M_values, rI aMmade cI 200 M_made_76]) (wr := [rI aMits cI 240 M_its, rI aMlength cI 240 M_length_6, rI aMorder cI 96 M_order, rI aMnext cI 240 M_next, rI aMisNew cZ 240 M_isNew]) (wb := [oX10 aM M_thrown M_series M_most M_ratio aMdisk M_writes_71 M_fuse_72 M_down_73 M_recovers M_looks M_unpacked aMits aMmany aMplace aMlength aMtimes aMvalues aMorder M_chunks M_epoch M_side aMheadOf aMheadTime aMheadValue M_logged aMnext aMisNew M_nexts aMcursorTime aMcursorValue M_hasCursor M_cursorMany M_cursorAt aMmade M_bits_74 M_from M_askMany M_askLeast M_askGreatest M_askSum, rI aMdisk cI 4096 M_disk_75, rI aMits cI 240 M_its, rI aMmany cI 240 M_many, rI aMplace cI 240 M_place_5, rI aMlength cI 240 M_length_6, rI aMtimes cI 15360 M_times, rI aMvalues cI 15360 M_values, rI aMorder cI 96 M_order, rI aMnext cI 240 M_next, rI aMisNew cZ 240 M_isNew, rI aMmade cI 200 M_made_76]) (v := (some (.int r_70))) hx hb hml hown htc hN (c_X10_writeChunk l G cI cZ cJ aM aMdisk aMits aMmany aMplace aMlength aMtimes aMvalues aMorder aMheadOf aMheadTime aMheadValue aMnext aMisNew aMcursorTime aMcursorValue aMmade M_thrown M_series M_most M_ratio M_writes_16 M_fuse_17 M_down_18 M_recovers M_looks M_unpacked M_chunks M_epoch M_side M_logged M_nexts M_hasCursor M_cursorMany M_cursorAt M_bits_19 M_from M_askMany M_askLeast M_askGreatest M_askSum M_disk_20 M_many M_place_5 M_times M_values M_made_21 (M_next (Int32.toNatClampNeg v2_15)) hE_69) mw_1165 mw_1167 mp_52 mw_12 mw_1168 hd_X10_writeChunk ⟨rfl, rfl⟩ ⟨Nat.le_of_ble_eq_true rfl, Nat.le_of_ble_eq_true rfl⟩ hK hw26 hA [0, 1, 3, 4, 6, 7, 11] [2, 5, 8, 9, 10] [5, 6, 0, 7, 8, 1, 9, 10, 2, 3, 4, 11] rfl rfl rfl rfl rfl (by decide) rfl rfl rfl 0 rfl rfl rfl rfl hl26.1 rfl rfl (Nat.le_of_ble_eq_true rfl) dX10_turn_119 ⟨Nat.zero_le _, Nat.zero_le _⟩ (fun H77 locs77 hw77 => ?_)
                  clear hw26 H26 locs26
                  refine lv_if_ne (tgt := 128) hx hb dX10_turn_122 (by decide) (fun c_78 => ?_) (fun c_78 => ?_)
                  · replace hB_25 := it_f c_78 hB_25
                    refine lv_iinc (v := (v2_15 + (1 : Int32))) (lv' := [(2, .int (v2_15 + (1 : Int32))), (0, .ref aM), (1, .int p0)]) hx hb dX10_turn_128 hl26 (k := 2) rfl rfl (by decide) rfl (fun ls79 hl79 => ?_)
                    clear hl26 ls26
                    refine lv_goto (tgt := 95) hx hb dX10_turn_131 (by decide) ?_
                    exact ih (v2_15 + (1 : Int32)) M_writes_71 M_fuse_72 M_down_73 M_bits_74 M_disk_75 M_made_76 hB_25 _ _ _ hw77 (lv_sub hl79 [1, 2, 0] rfl)
                  · replace hB_25 := it_t c_78 hB_25
                    refine lv_bipush (v := (-9 : Int32)) hx hb dX10_turn_125 (by decide) ?_
                    cases hB_25
                    rw [hQQ]
                    exact ct_iret hx hb hr hlocks hw77.1 hw77.2.1 hw77.2.2 dX10_turn_127
          exact lp_24 NN (0 : Int32) M_writes M_fuse M_down M_bits_4 M_disk M_made_7 hB_11 _ _ _ hw12 (lv_sub hl14 [1, 2, 0] rfl)
        · replace hB_11 := it_f c_13 hB_11
          refine lv_aload_n hx hb dX10_turn_22 rfl (lv_at hl12 0 rfl) ?_
          refine va_get (D := G) (ci := 10) (v := .ref aMisNew) (C := RX10) (T := TX10) (N := 40) hx hb htc iX10 hown hK hw12.1 0 rfl rfl 26 (by decide) (htc _ mw_973) (fun _ h9 => h9) rfl dX10_turn_23 ?_
          refine lv_iload_n hx hb dX10_turn_26 rfl (lv_at hl12 2 rfl) ?_
          replace hB_11 := ckb_some hB_11
          obtain ⟨hin_80, hB_11⟩ := hB_11
          refine va_zald hx hb hK hw12.1 10 1 rfl rfl hin_80 dX10_turn_27 ?_
          refine lv_if_ne (tgt := 34) hx hb dX10_turn_28 (by decide) (fun c_81 => ?_) (fun c_81 => ?_)
          · replace hB_11 := it_f c_81 hB_11
            refine lv_aload_n hx hb dX10_turn_34 rfl (lv_at hl12 0 rfl) ?_
            refine lv_aload_n hx hb dX10_turn_35 rfl (lv_at hl12 0 rfl) ?_
            refine va_get (D := G) (ci := 10) (v := .ref aMnext) (C := RX10) (T := TX10) (N := 40) hx hb htc iX10 hown hK hw12.1 0 rfl rfl 25 (by decide) (htc _ mw_972) (fun _ h9 => h9) rfl dX10_turn_36 ?_
            refine lv_iload_n hx hb dX10_turn_39 rfl (lv_at hl12 2 rfl) ?_
            replace hB_11 := ckb_some hB_11
            obtain ⟨hin_82, hB_11⟩ := hB_11
            refine va_iald hx hb hK hw12.1 9 0 rfl rfl hin_82 dX10_turn_40 ?_
            replace hB_11 := ob3_some hB_11
            obtain ⟨r_84, M_bits_85, M_made_86, hE_83, hB_11⟩ := hB_11
            refine ctV (a := aM) (As := [.int (M_next (Int32.toNatClampNeg v2_3))]) (rest := []) (st1 := [.int r_84]) (wc := [oX10 aM M_thrown M_series M_most M_ratio aMdisk M_writes M_fuse M_down M_recovers M_looks M_unpacked aMits aMmany aMplace aMlength aMtimes aMvalues aMorder M_chunks M_epoch M_side aMheadOf aMheadTime aMheadValue M_logged aMnext aMisNew M_nexts aMcursorTime aMcursorValue M_hasCursor M_cursorMany M_cursorAt aMmade M_bits_4 M_from M_askMany M_askLeast M_askGreatest M_askSum, rI aMmany cI 240 M_many, rI aMtimes cI 15360 M_times, rI aMvalues cI 15360 M_values, rI aMmade cI 200 M_made_7]) (w1 := [oX10 aM M_thrown M_series M_most M_ratio aMdisk M_writes M_fuse M_down M_recovers M_looks M_unpacked aMits aMmany aMplace aMlength aMtimes aMvalues aMorder M_chunks M_epoch M_side aMheadOf aMheadTime aMheadValue M_logged aMnext aMisNew M_nexts aMcursorTime aMcursorValue M_hasCursor M_cursorMany M_cursorAt aMmade M_bits_85 M_from M_askMany M_askLeast M_askGreatest M_askSum, rI aMmany cI 240 M_many, rI aMtimes cI 15360 M_times, rI aMvalues cI 15360 M_values, rI aMmade cI 200 M_made_86]) (wr := [rI aMdisk cI 4096 M_disk, rI aMits cI 240 M_its, rI aMplace cI 240 M_place_5, rI aMlength cI 240 M_length_6, rI aMorder cI 96 M_order, rI aMnext cI 240 M_next, rI aMisNew cZ 240 M_isNew]) (wb := [oX10 aM M_thrown M_series M_most M_ratio aMdisk M_writes M_fuse M_down M_recovers M_looks M_unpacked aMits aMmany aMplace aMlength aMtimes aMvalues aMorder M_chunks M_epoch M_side aMheadOf aMheadTime aMheadValue M_logged aMnext aMisNew M_nexts aMcursorTime aMcursorValue M_hasCursor M_cursorMany M_cursorAt aMmade M_bits_85 M_from M_askMany M_askLeast M_askGreatest M_askSum, rI aMdisk cI 4096 M_disk, rI aMits cI 240 M_its, rI aMmany cI 240 M_many, rI aMplace cI 240 M_place_5, rI aMlength cI 240 M_length_6, rI aMtimes cI 15360 M_times, rI aMvalues cI 15360 M_values, rI aMorder cI 96 M_order, rI aMnext cI 240 M_next, rI aMisNew cZ 240 M_isNew, rI aMmade cI 200 M_made_86]) (v := (some (.int r_84))) hx hb hml hown htc hN (c_X10_make l G cI cZ cJ aM aMdisk aMits aMmany aMplace aMlength aMtimes aMvalues aMorder aMheadOf aMheadTime aMheadValue aMnext aMisNew aMcursorTime aMcursorValue aMmade M_thrown M_series M_most M_ratio M_writes M_fuse M_down M_recovers M_looks M_unpacked M_chunks M_epoch M_side M_logged M_nexts M_hasCursor M_cursorMany M_cursorAt M_bits_4 M_from M_askMany M_askLeast M_askGreatest M_askSum M_many M_times M_values M_made_7 (M_next (Int32.toNatClampNeg v2_3)) hE_83) mw_1124 mw_1126 mp_45 mw_12 mw_1127 hd_X10_make ⟨rfl, rfl⟩ ⟨Nat.le_of_ble_eq_true rfl, Nat.le_of_ble_eq_true rfl⟩ hK hw12 hA [0, 3, 6, 7, 11] [1, 2, 4, 5, 8, 9, 10] [7, 0, 1, 8, 2, 3, 9, 10, 4, 5, 6, 11] rfl rfl rfl rfl rfl (by decide) rfl rfl rfl 0 rfl rfl rfl rfl hl12.1 rfl rfl (Nat.le_of_ble_eq_true rfl) dX10_turn_41 ⟨Nat.zero_le _, Nat.zero_le _⟩ (fun H87 locs87 hw87 => ?_)
            clear hw12 H12 locs12
            refine lv_istore_n (lv' := [(3, .int r_84), (0, .ref aM), (1, .int p0), (2, .int v2_3)]) hx hb dX10_turn_44 rfl hl12 (by decide) rfl (fun ls88 hl88 => ?_)
            clear hl12 ls12
            refine lv_aload_n hx hb dX10_turn_45 rfl (lv_at hl88 1 rfl) ?_
            refine lv_iload_n hx hb dX10_turn_46 rfl (lv_at hl88 0 rfl) ?_
            refine lv_iload_n hx hb dX10_turn_47 rfl (lv_at hl88 3 rfl) ?_
            replace hB_11 := ob1_some hB_11
            obtain ⟨r_90, hE_89, hB_11⟩ := hB_11
            refine ctV (a := aM) (As := [.int r_84, .int v2_3]) (rest := []) (st1 := [.int r_90]) (wc := [oX10 aM M_thrown M_series M_most M_ratio aMdisk M_writes M_fuse M_down M_recovers M_looks M_unpacked aMits aMmany aMplace aMlength aMtimes aMvalues aMorder M_chunks M_epoch M_side aMheadOf aMheadTime aMheadValue M_logged aMnext aMisNew M_nexts aMcursorTime aMcursorValue M_hasCursor M_cursorMany M_cursorAt aMmade M_bits_85 M_from M_askMany M_askLeast M_askGreatest M_askSum, rI aMplace cI 240 M_place_5, rI aMlength cI 240 M_length_6, rI aMorder cI 96 M_order, rI aMnext cI 240 M_next, rI aMisNew cZ 240 M_isNew]) (w1 := [oX10 aM M_thrown M_series M_most M_ratio aMdisk M_writes M_fuse M_down M_recovers M_looks M_unpacked aMits aMmany aMplace aMlength aMtimes aMvalues aMorder M_chunks M_epoch M_side aMheadOf aMheadTime aMheadValue M_logged aMnext aMisNew M_nexts aMcursorTime aMcursorValue M_hasCursor M_cursorMany M_cursorAt aMmade M_bits_85 M_from M_askMany M_askLeast M_askGreatest M_askSum, rI aMplace cI 240 M_place_5, rI aMlength cI 240 M_length_6, rI aMorder cI 96 M_order, rI aMnext cI 240 M_next, rI aMisNew cZ 240 M_isNew]) (wr := [rI aMdisk cI 4096 M_disk, rI aMits cI 240 M_its, rI aMmany cI 240 M_many, rI aMtimes cI 15360 M_times, rI aMvalues cI 15360 M_values, rI aMmade cI 200 M_made_86]) (wb := [oX10 aM M_thrown M_series M_most M_ratio aMdisk M_writes M_fuse M_down M_recovers M_looks M_unpacked aMits aMmany aMplace aMlength aMtimes aMvalues aMorder M_chunks M_epoch M_side aMheadOf aMheadTime aMheadValue M_logged aMnext aMisNew M_nexts aMcursorTime aMcursorValue M_hasCursor M_cursorMany M_cursorAt aMmade M_bits_85 M_from M_askMany M_askLeast M_askGreatest M_askSum, rI aMdisk cI 4096 M_disk, rI aMits cI 240 M_its, rI aMmany cI 240 M_many, rI aMplace cI 240 M_place_5, rI aMlength cI 240 M_length_6, rI aMtimes cI 15360 M_times, rI aMvalues cI 15360 M_values, rI aMorder cI 96 M_order, rI aMnext cI 240 M_next, rI aMisNew cZ 240 M_isNew, rI aMmade cI 200 M_made_86]) (v := (some (.int r_90))) hx hb hml hown htc hN (c_X10_find l G cI cZ cJ aM aMdisk aMits aMmany aMplace aMlength aMtimes aMvalues aMorder aMheadOf aMheadTime aMheadValue aMnext aMisNew aMcursorTime aMcursorValue aMmade M_thrown M_series M_most M_ratio M_writes M_fuse M_down M_recovers M_looks M_unpacked M_chunks M_epoch M_side M_logged M_nexts M_hasCursor M_cursorMany M_cursorAt M_bits_85 M_from M_askMany M_askLeast M_askGreatest M_askSum M_place_5 M_length_6 M_order M_next M_isNew r_84 v2_3 hE_89) mw_1153 mw_1155 mp_49 mw_12 mw_1156 hd_X10_find ⟨rfl, rfl⟩ ⟨Nat.le_of_ble_eq_true rfl, Nat.le_of_ble_eq_true rfl⟩ hK hw87 hA [0, 4, 5, 8, 9, 10] [1, 2, 3, 6, 7, 11] [6, 0, 1, 2, 7, 8, 3, 4, 9, 10, 11, 5] rfl rfl rfl rfl rfl (by decide) rfl rfl rfl 0 rfl rfl rfl rfl hl88.1 rfl rfl (Nat.le_of_ble_eq_true rfl) dX10_turn_48 ⟨Nat.zero_le _, Nat.zero_le _⟩ (fun H91 locs91 hw91 => ?_)
            clear hw87 H87 locs87
            refine lv_istore (lv' := [(4, .int r_90), (3, .int r_84), (0, .ref aM), (1, .int p0), (2, .int v2_3)]) hx hb dX10_turn_51 hl88 (by decide) rfl (fun ls92 hl92 => ?_)
            clear hl88 ls88
            refine lv_iload hx hb dX10_turn_53 (lv_at hl92 0 rfl) ?_
            refine lv_iconst (v := (-1 : Int32)) hx hb dX10_turn_55 (by decide) ?_
            refine lv_icmp_ne (tgt := 62) hx hb dX10_turn_56 (by decide) (fun c_93 => ?_) (fun c_93 => ?_)
            · replace hB_11 := it_f c_93 hB_11
              refine lv_aload_n hx hb dX10_turn_62 rfl (lv_at hl92 2 rfl) ?_
              refine va_get (D := G) (ci := 10) (v := .ref aMplace) (C := RX10) (T := TX10) (N := 40) hx hb htc iX10 hown hK hw91.1 0 rfl rfl 13 (by decide) (htc _ mw_960) (fun _ h9 => h9) rfl dX10_turn_63 ?_
              refine lv_aload_n hx hb dX10_turn_66 rfl (lv_at hl92 2 rfl) ?_
              refine va_get (D := G) (ci := 10) (v := .ref aMnext) (C := RX10) (T := TX10) (N := 40) hx hb htc iX10 hown hK hw91.1 0 rfl rfl 25 (by decide) (htc _ mw_972) (fun _ h9 => h9) rfl dX10_turn_67 ?_
              refine lv_iload_n hx hb dX10_turn_70 rfl (lv_at hl92 4 rfl) ?_
              replace hB_11 := ckb_some hB_11
              obtain ⟨hin_94, hB_11⟩ := hB_11
              refine va_iald hx hb hK hw91.1 9 0 rfl rfl hin_94 dX10_turn_71 ?_
              refine lv_iload hx hb dX10_turn_72 (lv_at hl92 0 rfl) ?_
              replace hB_11 := ckb_some hB_11
              obtain ⟨hin_95, hB_11⟩ := hB_11
              refine va_iast hx hb hK hw91.1 hw91.2.1 hw91.2.2 4 0 rfl rfl hin_95 dX10_turn_74 (fun H96 locs96 hP hD hS => ?_)
              have hw96 : wS G A s H96 locs96 [oX10 aM M_thrown M_series M_most M_ratio aMdisk M_writes M_fuse M_down M_recovers M_looks M_unpacked aMits aMmany aMplace aMlength aMtimes aMvalues aMorder M_chunks M_epoch M_side aMheadOf aMheadTime aMheadValue M_logged aMnext aMisNew M_nexts aMcursorTime aMcursorValue M_hasCursor M_cursorMany M_cursorAt aMmade M_bits_85 M_from M_askMany M_askLeast M_askGreatest M_askSum, rI aMdisk cI 4096 M_disk, rI aMits cI 240 M_its, rI aMmany cI 240 M_many, rI aMplace cI 240 (upd M_place_5 (Int32.toNatClampNeg (M_next (Int32.toNatClampNeg v2_3))) r_90), rI aMlength cI 240 M_length_6, rI aMtimes cI 15360 M_times, rI aMvalues cI 15360 M_values, rI aMorder cI 96 M_order, rI aMnext cI 240 M_next, rI aMisNew cZ 240 M_isNew, rI aMmade cI 200 M_made_86] := ⟨hP, hD, hS⟩
              clear hP hD hS hw91 H91 locs91
              refine lv_aload_n hx hb dX10_turn_75 rfl (lv_at hl92 2 rfl) ?_
              refine va_get (D := G) (ci := 10) (v := .ref aMlength) (C := RX10) (T := TX10) (N := 40) hx hb htc iX10 hown hK hw96.1 0 rfl rfl 14 (by decide) (htc _ mw_961) (fun _ h9 => h9) rfl dX10_turn_76 ?_
              refine lv_aload_n hx hb dX10_turn_79 rfl (lv_at hl92 2 rfl) ?_
              refine va_get (D := G) (ci := 10) (v := .ref aMnext) (C := RX10) (T := TX10) (N := 40) hx hb htc iX10 hown hK hw96.1 0 rfl rfl 25 (by decide) (htc _ mw_972) (fun _ h9 => h9) rfl dX10_turn_80 ?_
              refine lv_iload_n hx hb dX10_turn_83 rfl (lv_at hl92 4 rfl) ?_
              replace hB_11 := ckb_some hB_11
              obtain ⟨hin_97, hB_11⟩ := hB_11
              refine va_iald hx hb hK hw96.1 9 0 rfl rfl hin_97 dX10_turn_84 ?_
              refine lv_iload_n hx hb dX10_turn_85 rfl (lv_at hl92 1 rfl) ?_
              replace hB_11 := ckb_some hB_11
              obtain ⟨hin_98, hB_11⟩ := hB_11
              refine va_iast hx hb hK hw96.1 hw96.2.1 hw96.2.2 5 0 rfl rfl hin_98 dX10_turn_86 (fun H99 locs99 hP hD hS => ?_)
              have hw99 : wS G A s H99 locs99 [oX10 aM M_thrown M_series M_most M_ratio aMdisk M_writes M_fuse M_down M_recovers M_looks M_unpacked aMits aMmany aMplace aMlength aMtimes aMvalues aMorder M_chunks M_epoch M_side aMheadOf aMheadTime aMheadValue M_logged aMnext aMisNew M_nexts aMcursorTime aMcursorValue M_hasCursor M_cursorMany M_cursorAt aMmade M_bits_85 M_from M_askMany M_askLeast M_askGreatest M_askSum, rI aMdisk cI 4096 M_disk, rI aMits cI 240 M_its, rI aMmany cI 240 M_many, rI aMplace cI 240 (upd M_place_5 (Int32.toNatClampNeg (M_next (Int32.toNatClampNeg v2_3))) r_90), rI aMlength cI 240 (upd M_length_6 (Int32.toNatClampNeg (M_next (Int32.toNatClampNeg v2_3))) r_84), rI aMtimes cI 15360 M_times, rI aMvalues cI 15360 M_values, rI aMorder cI 96 M_order, rI aMnext cI 240 M_next, rI aMisNew cZ 240 M_isNew, rI aMmade cI 200 M_made_86] := ⟨hP, hD, hS⟩
              clear hP hD hS hw96 H96 locs96
              refine lv_iinc (v := (v2_3 + (1 : Int32))) (lv' := [(2, .int (v2_3 + (1 : Int32))), (4, .int r_90), (3, .int r_84), (0, .ref aM), (1, .int p0)]) hx hb dX10_turn_87 hl92 (k := 4) rfl rfl (by decide) rfl (fun ls100 hl100 => ?_)
              clear hl92 ls92
              refine lv_goto (tgt := 14) hx hb dX10_turn_90 (by decide) ?_
              exact ih (v2_3 + (1 : Int32)) M_bits_85 (upd M_place_5 (Int32.toNatClampNeg (M_next (Int32.toNatClampNeg v2_3))) r_90) (upd M_length_6 (Int32.toNatClampNeg (M_next (Int32.toNatClampNeg v2_3))) r_84) M_made_86 hB_11 _ _ _ hw99 (lv_sub hl100 [3, 4, 0] rfl)
            · replace hB_11 := it_t c_93 hB_11
              refine lv_bipush (v := (-3 : Int32)) hx hb dX10_turn_59 (by decide) ?_
              cases hB_11
              rw [hQQ]
              exact ct_iret hx hb hr hlocks hw91.1 hw91.2.1 hw91.2.2 dX10_turn_61
          · replace hB_11 := it_t c_81 hB_11
            refine lv_goto (tgt := 87) hx hb dX10_turn_31 (by decide) ?_
            refine lv_iinc (v := (v2_3 + (1 : Int32))) (lv' := [(2, .int (v2_3 + (1 : Int32))), (0, .ref aM), (1, .int p0)]) hx hb dX10_turn_87 hl12 (k := 2) rfl rfl (by decide) rfl (fun ls101 hl101 => ?_)
            clear hl12 ls12
            refine lv_goto (tgt := 14) hx hb dX10_turn_90 (by decide) ?_
            exact ih (v2_3 + (1 : Int32)) M_bits_4 M_place_5 M_length_6 M_made_7 hB_11 _ _ _ hw12 (lv_sub hl101 [1, 2, 0] rfl)
    exact lp_10 NN (0 : Int32) M_bits M_place M_length M_made hfin _ _ _ hw0 (lv_sub hl2 [1, 2, 0] rfl)
  · replace hfin := it_f c_1 hfin
    refine lv_bipush (v := (-3 : Int32)) hx hb dX10_turn_9 (by decide) ?_
    cases hfin
    rw [hQQ]
    exact ct_iret hx hb hr hlocks hw0.1 hw0.2.1 hw0.2.2 dX10_turn_11
abbrev rm_X10_add : Room := { frames := 0, cells := 0, slots := 0, locals := 0 }
theorem hd_X10_add : yX10_add.cls = RX10 ∧ yX10_add.cls ≠ "java/lang/invoke/MethodHandle" ∧ yX10_add.cls ≠ "java/lang/invoke/VarHandle" ∧ (parseMethodDescriptor yX10_add.desc).map (fun d => d.parameters.length) = some 3 := by decide +kernel
set_option maxHeartbeats 4000000 in
set_option maxRecDepth 100000 in
theorem c_X10_add (l : Launch) (G : va_G) (cI cZ cJ : ClassId) (aM aMdisk aMits aMmany aMplace aMlength aMtimes aMvalues aMorder aMheadOf aMheadTime aMheadValue aMnext aMisNew aMcursorTime aMcursorValue aMmade : Nat) (M_thrown : Int32) (M_series : Int32) (M_most : Int32) (M_ratio : Int32) (M_writes : Int32) (M_fuse : Int32) (M_down : Int32) (M_recovers : Int32) (M_looks : Int32) (M_unpacked : Int32) (M_chunks : Int32) (M_epoch : Int32) (M_side : Int32) (M_logged : Int32) (M_nexts : Int32) (M_hasCursor : Int32) (M_cursorMany : Int32) (M_cursorAt : Int32) (M_bits : Int32) (M_from : Int32) (M_askMany : Int32) (M_askLeast : Int32) (M_askGreatest : Int32) (M_askSum : Int64) (M_many : Nat → Int32) (M_times : Nat → Int32) (M_values : Nat → Int32) (p0 : Int32) (p1 : Int32) (p2 : Int32) {o_M_many : Nat → Int32} {o_M_times : Nat → Int32} {o_M_values : Nat → Int32} (hfin : m_X10_add M_many M_times M_values p0 p1 p2 = some (o_M_many, o_M_times, o_M_values)) : CT l yX10_add cX10_add 4 none rm_X10_add G (tyC cI cZ cJ) [.ref aM, .int p0, .int p1, .int p2] [oX10 aM M_thrown M_series M_most M_ratio aMdisk M_writes M_fuse M_down M_recovers M_looks M_unpacked aMits aMmany aMplace aMlength aMtimes aMvalues aMorder M_chunks M_epoch M_side aMheadOf aMheadTime aMheadValue M_logged aMnext aMisNew M_nexts aMcursorTime aMcursorValue M_hasCursor M_cursorMany M_cursorAt aMmade M_bits M_from M_askMany M_askLeast M_askGreatest M_askSum, rI aMmany cI 240 M_many, rI aMtimes cI 15360 M_times, rI aMvalues cI 15360 M_values] none [oX10 aM M_thrown M_series M_most M_ratio aMdisk M_writes M_fuse M_down M_recovers M_looks M_unpacked aMits aMmany aMplace aMlength aMtimes aMvalues aMorder M_chunks M_epoch M_side aMheadOf aMheadTime aMheadValue M_logged aMnext aMisNew M_nexts aMcursorTime aMcursorValue M_hasCursor M_cursorMany M_cursorAt aMmade M_bits M_from M_askMany M_askLeast M_askGreatest M_askSum, rI aMmany cI 240 o_M_many, rI aMtimes cI 15360 o_M_times, rI aMvalues cI 15360 o_M_values] := by
  refine CT.ofW (lvl := [(0, .ref aM), (1, .int p0), (2, .int p1), (3, .int p2)]) (by decide) (Nat.le_of_ble_eq_true rfl) rfl ?_
  intro p e s m args below meth c A ls0 QQ hQQ hx hb hml hr hlocks htc hN hown hK hA hw0 hl0
  rw [m_X10_add] at hfin
  refine lv_aload_n hx hb dX10_add_0 rfl (lv_at hl0 0 rfl) ?_
  refine va_get (D := G) (ci := 10) (v := .ref aMtimes) (C := RX10) (T := TX10) (N := 40) hx hb htc iX10 hown hK hw0.1 0 rfl rfl 15 (by decide) (htc _ mw_962) (fun _ h9 => h9) rfl dX10_add_1 ?_
  refine lv_bipush (v := (64 : Int32)) hx hb dX10_add_4 (by decide) ?_
  refine lv_iload_n hx hb dX10_add_6 rfl (lv_at hl0 1 rfl) ?_
  refine lv_imul hx hb dX10_add_7 ?_
  refine lv_aload_n hx hb dX10_add_8 rfl (lv_at hl0 0 rfl) ?_
  refine va_get (D := G) (ci := 10) (v := .ref aMmany) (C := RX10) (T := TX10) (N := 40) hx hb htc iX10 hown hK hw0.1 0 rfl rfl 12 (by decide) (htc _ mw_959) (fun _ h9 => h9) rfl dX10_add_9 ?_
  refine lv_iload_n hx hb dX10_add_12 rfl (lv_at hl0 1 rfl) ?_
  replace hfin := ckb_some hfin
  obtain ⟨hin_1, hfin⟩ := hfin
  refine va_iald hx hb hK hw0.1 1 0 rfl rfl hin_1 dX10_add_13 ?_
  refine lv_iadd hx hb dX10_add_14 ?_
  refine lv_iload_n hx hb dX10_add_15 rfl (lv_at hl0 2 rfl) ?_
  replace hfin := ckb_some hfin
  obtain ⟨hin_2, hfin⟩ := hfin
  refine va_iast hx hb hK hw0.1 hw0.2.1 hw0.2.2 2 0 rfl rfl hin_2 dX10_add_16 (fun H3 locs3 hP hD hS => ?_)
  have hw3 : wS G A s H3 locs3 [oX10 aM M_thrown M_series M_most M_ratio aMdisk M_writes M_fuse M_down M_recovers M_looks M_unpacked aMits aMmany aMplace aMlength aMtimes aMvalues aMorder M_chunks M_epoch M_side aMheadOf aMheadTime aMheadValue M_logged aMnext aMisNew M_nexts aMcursorTime aMcursorValue M_hasCursor M_cursorMany M_cursorAt aMmade M_bits M_from M_askMany M_askLeast M_askGreatest M_askSum, rI aMmany cI 240 M_many, rI aMtimes cI 15360 (upd M_times (Int32.toNatClampNeg (((64 : Int32) * p0) + (M_many (Int32.toNatClampNeg p0)))) p1), rI aMvalues cI 15360 M_values] := ⟨hP, hD, hS⟩
  clear hP hD hS hw0
  refine lv_aload_n hx hb dX10_add_17 rfl (lv_at hl0 0 rfl) ?_
  refine va_get (D := G) (ci := 10) (v := .ref aMvalues) (C := RX10) (T := TX10) (N := 40) hx hb htc iX10 hown hK hw3.1 0 rfl rfl 16 (by decide) (htc _ mw_963) (fun _ h9 => h9) rfl dX10_add_18 ?_
  refine lv_bipush (v := (64 : Int32)) hx hb dX10_add_21 (by decide) ?_
  refine lv_iload_n hx hb dX10_add_23 rfl (lv_at hl0 1 rfl) ?_
  refine lv_imul hx hb dX10_add_24 ?_
  refine lv_aload_n hx hb dX10_add_25 rfl (lv_at hl0 0 rfl) ?_
  refine va_get (D := G) (ci := 10) (v := .ref aMmany) (C := RX10) (T := TX10) (N := 40) hx hb htc iX10 hown hK hw3.1 0 rfl rfl 12 (by decide) (htc _ mw_959) (fun _ h9 => h9) rfl dX10_add_26 ?_
  refine lv_iload_n hx hb dX10_add_29 rfl (lv_at hl0 1 rfl) ?_
  replace hfin := ckb_some hfin
  obtain ⟨hin_4, hfin⟩ := hfin
  refine va_iald hx hb hK hw3.1 1 0 rfl rfl hin_4 dX10_add_30 ?_
  refine lv_iadd hx hb dX10_add_31 ?_
  refine lv_iload_n hx hb dX10_add_32 rfl (lv_at hl0 3 rfl) ?_
  replace hfin := ckb_some hfin
  obtain ⟨hin_5, hfin⟩ := hfin
  refine va_iast hx hb hK hw3.1 hw3.2.1 hw3.2.2 3 0 rfl rfl hin_5 dX10_add_33 (fun H6 locs6 hP hD hS => ?_)
  have hw6 : wS G A s H6 locs6 [oX10 aM M_thrown M_series M_most M_ratio aMdisk M_writes M_fuse M_down M_recovers M_looks M_unpacked aMits aMmany aMplace aMlength aMtimes aMvalues aMorder M_chunks M_epoch M_side aMheadOf aMheadTime aMheadValue M_logged aMnext aMisNew M_nexts aMcursorTime aMcursorValue M_hasCursor M_cursorMany M_cursorAt aMmade M_bits M_from M_askMany M_askLeast M_askGreatest M_askSum, rI aMmany cI 240 M_many, rI aMtimes cI 15360 (upd M_times (Int32.toNatClampNeg (((64 : Int32) * p0) + (M_many (Int32.toNatClampNeg p0)))) p1), rI aMvalues cI 15360 (upd M_values (Int32.toNatClampNeg (((64 : Int32) * p0) + (M_many (Int32.toNatClampNeg p0)))) p2)] := ⟨hP, hD, hS⟩
  clear hP hD hS hw3 H3 locs3
  refine lv_aload_n hx hb dX10_add_34 rfl (lv_at hl0 0 rfl) ?_
  refine va_get (D := G) (ci := 10) (v := .ref aMmany) (C := RX10) (T := TX10) (N := 40) hx hb htc iX10 hown hK hw6.1 0 rfl rfl 12 (by decide) (htc _ mw_959) (fun _ h9 => h9) rfl dX10_add_35 ?_
  refine lv_iload_n hx hb dX10_add_38 rfl (lv_at hl0 1 rfl) ?_
  refine lv_dup2_11 hx hb dX10_add_39 rfl rfl ?_
  replace hfin := ckb_some hfin
  obtain ⟨hin_7, hfin⟩ := hfin
  refine va_iald hx hb hK hw6.1 1 0 rfl rfl hin_7 dX10_add_40 ?_
  refine lv_iconst (v := (1 : Int32)) hx hb dX10_add_41 (by decide) ?_
  refine lv_iadd hx hb dX10_add_42 ?_
  replace hfin := ckb_some hfin
  obtain ⟨hin_8, hfin⟩ := hfin
  refine va_iast hx hb hK hw6.1 hw6.2.1 hw6.2.2 1 0 rfl rfl hin_8 dX10_add_43 (fun H9 locs9 hP hD hS => ?_)
  have hw9 : wS G A s H9 locs9 [oX10 aM M_thrown M_series M_most M_ratio aMdisk M_writes M_fuse M_down M_recovers M_looks M_unpacked aMits aMmany aMplace aMlength aMtimes aMvalues aMorder M_chunks M_epoch M_side aMheadOf aMheadTime aMheadValue M_logged aMnext aMisNew M_nexts aMcursorTime aMcursorValue M_hasCursor M_cursorMany M_cursorAt aMmade M_bits M_from M_askMany M_askLeast M_askGreatest M_askSum, rI aMmany cI 240 (upd M_many (Int32.toNatClampNeg p0) ((M_many (Int32.toNatClampNeg p0)) + (1 : Int32))), rI aMtimes cI 15360 (upd M_times (Int32.toNatClampNeg (((64 : Int32) * p0) + (M_many (Int32.toNatClampNeg p0)))) p1), rI aMvalues cI 15360 (upd M_values (Int32.toNatClampNeg (((64 : Int32) * p0) + (M_many (Int32.toNatClampNeg p0)))) p2)] := ⟨hP, hD, hS⟩
  clear hP hD hS hw6 H6 locs6
  cases hfin
  rw [hQQ]
  exact ct_vret hx hb hr hlocks hw9.1 hw9.2.1 hw9.2.2 dX10_add_44
abbrev rm_X10_headsOf : Room := { frames := 2, cells := 0, slots := 0, locals := 44 }
theorem hd_X10_headsOf : yX10_headsOf.cls = RX10 ∧ yX10_headsOf.cls ≠ "java/lang/invoke/MethodHandle" ∧ yX10_headsOf.cls ≠ "java/lang/invoke/VarHandle" ∧ (parseMethodDescriptor yX10_headsOf.desc).map (fun d => d.parameters.length) = some 1 := by decide +kernel
set_option maxHeartbeats 4000000 in
set_option maxRecDepth 100000 in
theorem c_X10_headsOf (l : Launch) (G : va_G) (cI cZ cJ : ClassId) (aM aMdisk aMits aMmany aMplace aMlength aMtimes aMvalues aMorder aMheadOf aMheadTime aMheadValue aMnext aMisNew aMcursorTime aMcursorValue aMmade : Nat) (M_thrown : Int32) (M_series : Int32) (M_most : Int32) (M_ratio : Int32) (M_writes : Int32) (M_fuse : Int32) (M_down : Int32) (M_recovers : Int32) (M_looks : Int32) (M_unpacked : Int32) (M_chunks : Int32) (M_epoch : Int32) (M_side : Int32) (M_logged : Int32) (M_nexts : Int32) (M_hasCursor : Int32) (M_cursorMany : Int32) (M_cursorAt : Int32) (M_bits : Int32) (M_from : Int32) (M_askMany : Int32) (M_askLeast : Int32) (M_askGreatest : Int32) (M_askSum : Int64) (M_its : Nat → Int32) (M_many : Nat → Int32) (M_times : Nat → Int32) (M_values : Nat → Int32) (M_order : Nat → Int32) (M_headOf : Nat → Int32) (M_headTime : Nat → Int32) (M_headValue : Nat → Int32) (M_next : Nat → Int32) (M_isNew : Nat → Int32) (p0 : Int32) {o_M_nexts : Int32} {o_M_its : Nat → Int32} {o_M_many : Nat → Int32} {o_M_times : Nat → Int32} {o_M_values : Nat → Int32} {o_M_next : Nat → Int32} {o_M_isNew : Nat → Int32} (hfin : m_X10_headsOf M_most M_chunks M_logged M_nexts M_its M_many M_times M_values M_order M_headOf M_headTime M_headValue M_next M_isNew p0 = some (o_M_nexts, o_M_its, o_M_many, o_M_times, o_M_values, o_M_next, o_M_isNew)) : CT l yX10_headsOf cX10_headsOf 4 none rm_X10_headsOf G (tyC cI cZ cJ) [.ref aM, .int p0] [oX10 aM M_thrown M_series M_most M_ratio aMdisk M_writes M_fuse M_down M_recovers M_looks M_unpacked aMits aMmany aMplace aMlength aMtimes aMvalues aMorder M_chunks M_epoch M_side aMheadOf aMheadTime aMheadValue M_logged aMnext aMisNew M_nexts aMcursorTime aMcursorValue M_hasCursor M_cursorMany M_cursorAt aMmade M_bits M_from M_askMany M_askLeast M_askGreatest M_askSum, rI aMits cI 240 M_its, rI aMmany cI 240 M_many, rI aMtimes cI 15360 M_times, rI aMvalues cI 15360 M_values, rI aMorder cI 96 M_order, rI aMheadOf cI 128 M_headOf, rI aMheadTime cI 128 M_headTime, rI aMheadValue cI 128 M_headValue, rI aMnext cI 240 M_next, rI aMisNew cZ 240 M_isNew] none [oX10 aM M_thrown M_series M_most M_ratio aMdisk M_writes M_fuse M_down M_recovers M_looks M_unpacked aMits aMmany aMplace aMlength aMtimes aMvalues aMorder M_chunks M_epoch M_side aMheadOf aMheadTime aMheadValue M_logged aMnext aMisNew o_M_nexts aMcursorTime aMcursorValue M_hasCursor M_cursorMany M_cursorAt aMmade M_bits M_from M_askMany M_askLeast M_askGreatest M_askSum, rI aMits cI 240 o_M_its, rI aMmany cI 240 o_M_many, rI aMtimes cI 15360 o_M_times, rI aMvalues cI 15360 o_M_values, rI aMorder cI 96 M_order, rI aMheadOf cI 128 M_headOf, rI aMheadTime cI 128 M_headTime, rI aMheadValue cI 128 M_headValue, rI aMnext cI 240 o_M_next, rI aMisNew cZ 240 o_M_isNew] := by
  refine CT.ofW (lvl := [(0, .ref aM), (1, .int p0)]) (by decide) (Nat.le_of_ble_eq_true rfl) rfl ?_
  intro p e s m args below meth c A ls0 QQ hQQ hx hb hml hr hlocks htc hN hown hK hA hw0 hl0
  rw [m_X10_headsOf] at hfin
  refine lv_iconst (v := (-1 : Int32)) hx hb dX10_headsOf_0 (by decide) ?_
  refine lv_istore_n (lv' := [(2, .int (-1 : Int32)), (0, .ref aM), (1, .int p0)]) hx hb dX10_headsOf_1 rfl hl0 (by decide) rfl (fun ls1 hl1 => ?_)
  clear hl0 ls0
  refine lv_iconst (v := (0 : Int32)) hx hb dX10_headsOf_2 (by decide) ?_
  refine lv_istore_n (lv' := [(3, .int (0 : Int32)), (2, .int (-1 : Int32)), (0, .ref aM), (1, .int p0)]) hx hb dX10_headsOf_3 rfl hl1 (by decide) rfl (fun ls2 hl2 => ?_)
  clear hl1 ls1
  replace hfin := ob7_some hfin
  obtain ⟨M_nexts_16, M_its_17, M_many_18, M_times_19, M_values_20, M_next_21, M_isNew_22, hL_12, hfin⟩ := hfin
  have kx_13 : ∀ (H : Heap) (locs : List Loc) (ls : Array Slot), wS G A s H locs [oX10 aM M_thrown M_series M_most M_ratio aMdisk M_writes M_fuse M_down M_recovers M_looks M_unpacked aMits aMmany aMplace aMlength aMtimes aMvalues aMorder M_chunks M_epoch M_side aMheadOf aMheadTime aMheadValue M_logged aMnext aMisNew M_nexts_16 aMcursorTime aMcursorValue M_hasCursor M_cursorMany M_cursorAt aMmade M_bits M_from M_askMany M_askLeast M_askGreatest M_askSum, rI aMits cI 240 M_its_17, rI aMmany cI 240 M_many_18, rI aMtimes cI 15360 M_times_19, rI aMvalues cI 15360 M_values_20, rI aMorder cI 96 M_order, rI aMheadOf cI 128 M_headOf, rI aMheadTime cI 128 M_headTime, rI aMheadValue cI 128 M_headValue, rI aMnext cI 240 M_next_21, rI aMisNew cZ 240 M_isNew_22] → lv_has ls 4 [] → W p l e rm_X10_headsOf s m args below meth c H locs 0 0 QQ (F0 m 91 ls []) := by
    clear hw0 hl2 ls2 hL_12
    intro H84 locs84 ls84 hw84 hl84
    cases hfin
    rw [hQQ]
    exact ct_vret hx hb hr hlocks hw84.1 hw84.2.1 hw84.2.2 dX10_headsOf_91
  have lp_14 : ∀ (n : Nat) (v2_3 : Int32) (v3_4 : Int32) (M_nexts_5 : Int32) (M_its_6 : Nat → Int32) (M_many_7 : Nat → Int32) (M_times_8 : Nat → Int32) (M_values_9 : Nat → Int32) (M_next_10 : Nat → Int32) (M_isNew_11 : Nat → Int32), lp_X10_headsOf_4 M_most M_chunks M_logged M_order M_headOf M_headTime M_headValue p0 n v2_3 v3_4 M_nexts_5 M_its_6 M_many_7 M_times_8 M_values_9 M_next_10 M_isNew_11 = some (M_nexts_16, M_its_17, M_many_18, M_times_19, M_values_20, M_next_21, M_isNew_22) → ∀ (H : Heap) (locs : List Loc) (ls : Array Slot), wS G A s H locs [oX10 aM M_thrown M_series M_most M_ratio aMdisk M_writes M_fuse M_down M_recovers M_looks M_unpacked aMits aMmany aMplace aMlength aMtimes aMvalues aMorder M_chunks M_epoch M_side aMheadOf aMheadTime aMheadValue M_logged aMnext aMisNew M_nexts_5 aMcursorTime aMcursorValue M_hasCursor M_cursorMany M_cursorAt aMmade M_bits M_from M_askMany M_askLeast M_askGreatest M_askSum, rI aMits cI 240 M_its_6, rI aMmany cI 240 M_many_7, rI aMtimes cI 15360 M_times_8, rI aMvalues cI 15360 M_values_9, rI aMorder cI 96 M_order, rI aMheadOf cI 128 M_headOf, rI aMheadTime cI 128 M_headTime, rI aMheadValue cI 128 M_headValue, rI aMnext cI 240 M_next_10, rI aMisNew cZ 240 M_isNew_11] → lv_has ls 4 [(0, .ref aM), (1, .int p0), (2, .int v2_3), (3, .int v3_4)] → W p l e rm_X10_headsOf s m args below meth c H locs 0 0 QQ (F0 m 4 ls []) := by
    clear hw0 hl2 ls2 hfin
    intro n
    induction n with
    | zero =>
      intro v2_3 v3_4 M_nexts_5 M_its_6 M_many_7 M_times_8 M_values_9 M_next_10 M_isNew_11 hB_15
      exact absurd hB_15 (by rw [lp_X10_headsOf_4]; exact fun h9 => nomatch h9)
    | succ n ih =>
      intro v2_3 v3_4 M_nexts_5 M_its_6 M_many_7 M_times_8 M_values_9 M_next_10 M_isNew_11 hB_15 H23 locs23 ls23 hw23 hl23
      rw [lp_X10_headsOf_4] at hB_15
      refine lv_iload_n hx hb dX10_headsOf_4 rfl (lv_at hl23 3 rfl) ?_
      refine lv_aload_n hx hb dX10_headsOf_5 rfl (lv_at hl23 0 rfl) ?_
      refine va_get (D := G) (ci := 10) (v := .int M_logged) (C := RX10) (T := TX10) (N := 40) hx hb htc iX10 hown hK hw23.1 0 rfl rfl 24 (by decide) (htc _ mw_971) (fun _ h9 => h9) rfl dX10_headsOf_6 ?_
      refine lv_icmp_ge (tgt := 91) hx hb dX10_headsOf_9 (by decide) (fun c_24 => ?_) (fun c_24 => ?_)
      · replace hB_15 := it_t c_24 hB_15
        cases hB_15
        exact kx_13 _ _ _ hw23 (lv_sub hl23 [] rfl)
      · replace hB_15 := it_f c_24 hB_15
        refine lv_aload_n hx hb dX10_headsOf_12 rfl (lv_at hl23 0 rfl) ?_
        refine va_get (D := G) (ci := 10) (v := .ref aMheadOf) (C := RX10) (T := TX10) (N := 40) hx hb htc iX10 hown hK hw23.1 0 rfl rfl 21 (by decide) (htc _ mw_968) (fun _ h9 => h9) rfl dX10_headsOf_13 ?_
        refine lv_iload_n hx hb dX10_headsOf_16 rfl (lv_at hl23 3 rfl) ?_
        replace hB_15 := ckb_some hB_15
        obtain ⟨hin_25, hB_15⟩ := hB_15
        refine va_iald hx hb hK hw23.1 6 0 rfl rfl hin_25 dX10_headsOf_17 ?_
        refine lv_iload_n hx hb dX10_headsOf_18 rfl (lv_at hl23 1 rfl) ?_
        replace hB_15 := ob8_some hB_15
        obtain ⟨v2_26, M_nexts_27, M_its_28, M_many_29, M_times_30, M_values_31, M_next_32, M_isNew_33, hJ_34, hB_15⟩ := hB_15
        have kj_35 : ∀ (H : Heap) (locs : List Loc) (ls : Array Slot), wS G A s H locs [oX10 aM M_thrown M_series M_most M_ratio aMdisk M_writes M_fuse M_down M_recovers M_looks M_unpacked aMits aMmany aMplace aMlength aMtimes aMvalues aMorder M_chunks M_epoch M_side aMheadOf aMheadTime aMheadValue M_logged aMnext aMisNew M_nexts_27 aMcursorTime aMcursorValue M_hasCursor M_cursorMany M_cursorAt aMmade M_bits M_from M_askMany M_askLeast M_askGreatest M_askSum, rI aMits cI 240 M_its_28, rI aMmany cI 240 M_many_29, rI aMtimes cI 15360 M_times_30, rI aMvalues cI 15360 M_values_31, rI aMorder cI 96 M_order, rI aMheadOf cI 128 M_headOf, rI aMheadTime cI 128 M_headTime, rI aMheadValue cI 128 M_headValue, rI aMnext cI 240 M_next_32, rI aMisNew cZ 240 M_isNew_33] → lv_has ls 4 [(0, .ref aM), (1, .int p0), (2, .int v2_26), (3, .int v3_4)] → W p l e rm_X10_headsOf s m args below meth c H locs 0 0 QQ (F0 m 85 ls []) := by
          clear hw23 H23 locs23 hl23 ls23 hJ_34
          intro H82 locs82 ls82 hw82 hl82
          refine lv_iinc (v := (v3_4 + (1 : Int32))) (lv' := [(3, .int (v3_4 + (1 : Int32))), (0, .ref aM), (1, .int p0), (2, .int v2_26)]) hx hb dX10_headsOf_85 hl82 (k := 3) rfl rfl (by decide) rfl (fun ls83 hl83 => ?_)
          clear hl82 ls82
          refine lv_goto (tgt := 4) hx hb dX10_headsOf_88 (by decide) ?_
          exact ih v2_26 (v3_4 + (1 : Int32)) M_nexts_27 M_its_28 M_many_29 M_times_30 M_values_31 M_next_32 M_isNew_33 hB_15 _ _ _ hw82 (lv_sub hl83 [1, 2, 3, 0] rfl)
        clear hB_15
        refine lv_icmp_eq (tgt := 25) hx hb dX10_headsOf_19 (by decide) (fun c_36 => ?_) (fun c_36 => ?_)
        · replace hJ_34 := it_t c_36 hJ_34
          refine lv_iload_n hx hb dX10_headsOf_25 rfl (lv_at hl23 2 rfl) ?_
          refine lv_iconst (v := (-1 : Int32)) hx hb dX10_headsOf_26 (by decide) ?_
          replace hJ_34 := ob6_some hJ_34
          obtain ⟨v2_37, M_nexts_38, M_its_39, M_many_40, M_next_41, M_isNew_42, hJ_43, hJ_34⟩ := hJ_34
          have kj_44 : ∀ (H : Heap) (locs : List Loc) (ls : Array Slot), wS G A s H locs [oX10 aM M_thrown M_series M_most M_ratio aMdisk M_writes M_fuse M_down M_recovers M_looks M_unpacked aMits aMmany aMplace aMlength aMtimes aMvalues aMorder M_chunks M_epoch M_side aMheadOf aMheadTime aMheadValue M_logged aMnext aMisNew M_nexts_38 aMcursorTime aMcursorValue M_hasCursor M_cursorMany M_cursorAt aMmade M_bits M_from M_askMany M_askLeast M_askGreatest M_askSum, rI aMits cI 240 M_its_39, rI aMmany cI 240 M_many_40, rI aMtimes cI 15360 M_times_8, rI aMvalues cI 15360 M_values_9, rI aMorder cI 96 M_order, rI aMheadOf cI 128 M_headOf, rI aMheadTime cI 128 M_headTime, rI aMheadValue cI 128 M_headValue, rI aMnext cI 240 M_next_41, rI aMisNew cZ 240 M_isNew_42] → lv_has ls 4 [(0, .ref aM), (1, .int p0), (2, .int v2_37), (3, .int v3_4)] → W p l e rm_X10_headsOf s m args below meth c H locs 0 0 QQ (F0 m 68 ls []) := by
            clear hw23 H23 locs23 hl23 ls23 hJ_43
            intro H74 locs74 ls74 hw74 hl74
            refine lv_aload_n hx hb dX10_headsOf_68 rfl (lv_at hl74 0 rfl) ?_
            refine lv_iload_n hx hb dX10_headsOf_69 rfl (lv_at hl74 2 rfl) ?_
            refine lv_aload_n hx hb dX10_headsOf_70 rfl (lv_at hl74 0 rfl) ?_
            refine va_get (D := G) (ci := 10) (v := .ref aMheadTime) (C := RX10) (T := TX10) (N := 40) hx hb htc iX10 hown hK hw74.1 0 rfl rfl 22 (by decide) (htc _ mw_969) (fun _ h9 => h9) rfl dX10_headsOf_71 ?_
            refine lv_iload_n hx hb dX10_headsOf_74 rfl (lv_at hl74 3 rfl) ?_
            replace hJ_34 := ckb_some hJ_34
            obtain ⟨hin_75, hJ_34⟩ := hJ_34
            refine va_iald hx hb hK hw74.1 7 0 rfl rfl hin_75 dX10_headsOf_75 ?_
            refine lv_aload_n hx hb dX10_headsOf_76 rfl (lv_at hl74 0 rfl) ?_
            refine va_get (D := G) (ci := 10) (v := .ref aMheadValue) (C := RX10) (T := TX10) (N := 40) hx hb htc iX10 hown hK hw74.1 0 rfl rfl 23 (by decide) (htc _ mw_970) (fun _ h9 => h9) rfl dX10_headsOf_77 ?_
            refine lv_iload_n hx hb dX10_headsOf_80 rfl (lv_at hl74 3 rfl) ?_
            replace hJ_34 := ckb_some hJ_34
            obtain ⟨hin_76, hJ_34⟩ := hJ_34
            refine va_iald hx hb hK hw74.1 8 0 rfl rfl hin_76 dX10_headsOf_81 ?_
            replace hJ_34 := ob3_some hJ_34
            obtain ⟨M_many_78, M_times_79, M_values_80, hE_77, hJ_34⟩ := hJ_34
            refine ctV (a := aM) (As := [.int v2_37, .int (M_headTime (Int32.toNatClampNeg v3_4)), .int (M_headValue (Int32.toNatClampNeg v3_4))]) (rest := []) (st1 := []) (wc := [oX10 aM M_thrown M_series M_most M_ratio aMdisk M_writes M_fuse M_down M_recovers M_looks M_unpacked aMits aMmany aMplace aMlength aMtimes aMvalues aMorder M_chunks M_epoch M_side aMheadOf aMheadTime aMheadValue M_logged aMnext aMisNew M_nexts_38 aMcursorTime aMcursorValue M_hasCursor M_cursorMany M_cursorAt aMmade M_bits M_from M_askMany M_askLeast M_askGreatest M_askSum, rI aMmany cI 240 M_many_40, rI aMtimes cI 15360 M_times_8, rI aMvalues cI 15360 M_values_9]) (w1 := [oX10 aM M_thrown M_series M_most M_ratio aMdisk M_writes M_fuse M_down M_recovers M_looks M_unpacked aMits aMmany aMplace aMlength aMtimes aMvalues aMorder M_chunks M_epoch M_side aMheadOf aMheadTime aMheadValue M_logged aMnext aMisNew M_nexts_38 aMcursorTime aMcursorValue M_hasCursor M_cursorMany M_cursorAt aMmade M_bits M_from M_askMany M_askLeast M_askGreatest M_askSum, rI aMmany cI 240 M_many_78, rI aMtimes cI 15360 M_times_79, rI aMvalues cI 15360 M_values_80]) (wr := [rI aMits cI 240 M_its_39, rI aMorder cI 96 M_order, rI aMheadOf cI 128 M_headOf, rI aMheadTime cI 128 M_headTime, rI aMheadValue cI 128 M_headValue, rI aMnext cI 240 M_next_41, rI aMisNew cZ 240 M_isNew_42]) (wb := [oX10 aM M_thrown M_series M_most M_ratio aMdisk M_writes M_fuse M_down M_recovers M_looks M_unpacked aMits aMmany aMplace aMlength aMtimes aMvalues aMorder M_chunks M_epoch M_side aMheadOf aMheadTime aMheadValue M_logged aMnext aMisNew M_nexts_38 aMcursorTime aMcursorValue M_hasCursor M_cursorMany M_cursorAt aMmade M_bits M_from M_askMany M_askLeast M_askGreatest M_askSum, rI aMits cI 240 M_its_39, rI aMmany cI 240 M_many_78, rI aMtimes cI 15360 M_times_79, rI aMvalues cI 15360 M_values_80, rI aMorder cI 96 M_order, rI aMheadOf cI 128 M_headOf, rI aMheadTime cI 128 M_headTime, rI aMheadValue cI 128 M_headValue, rI aMnext cI 240 M_next_41, rI aMisNew cZ 240 M_isNew_42]) (v := none) hx hb hml hown htc hN (c_X10_add l G cI cZ cJ aM aMdisk aMits aMmany aMplace aMlength aMtimes aMvalues aMorder aMheadOf aMheadTime aMheadValue aMnext aMisNew aMcursorTime aMcursorValue aMmade M_thrown M_series M_most M_ratio M_writes M_fuse M_down M_recovers M_looks M_unpacked M_chunks M_epoch M_side M_logged M_nexts_38 M_hasCursor M_cursorMany M_cursorAt M_bits M_from M_askMany M_askLeast M_askGreatest M_askSum M_many_40 M_times_8 M_values_9 v2_37 (M_headTime (Int32.toNatClampNeg v3_4)) (M_headValue (Int32.toNatClampNeg v3_4)) hE_77) mw_1116 mw_1118 mp_43 mw_12 mw_1119 hd_X10_add ⟨rfl, rfl⟩ ⟨Nat.le_of_ble_eq_true rfl, Nat.le_of_ble_eq_true rfl⟩ hK hw74 hA [0, 2, 3, 4] [1, 5, 6, 7, 8, 9, 10] [7, 0, 8, 9, 10, 1, 2, 3, 4, 5, 6] rfl rfl rfl rfl rfl (by decide) rfl rfl rfl 0 rfl rfl rfl rfl hl74.1 rfl rfl (Nat.le_of_ble_eq_true rfl) dX10_headsOf_82 ⟨Nat.zero_le _, Nat.zero_le _⟩ (fun H81 locs81 hw81 => ?_)
            clear hw74 H74 locs74
            cases hJ_34
            exact kj_35 _ _ _ hw81 (lv_sub hl74 [0, 1, 2, 3] rfl)
          clear hJ_34
          refine lv_icmp_eq (tgt := 43) hx hb dX10_headsOf_27 (by decide) (fun c_45 => ?_) (fun c_45 => ?_)
          · replace hJ_43 := it_t c_45 hJ_43
            refine lv_aload_n hx hb dX10_headsOf_43 rfl (lv_at hl23 0 rfl) ?_
            replace hJ_43 := ob1_some hJ_43
            obtain ⟨r_47, hE_46, hJ_43⟩ := hJ_43
            refine ctV (a := aM) (As := []) (rest := []) (st1 := [.int r_47]) (wc := [oX10 aM M_thrown M_series M_most M_ratio aMdisk M_writes M_fuse M_down M_recovers M_looks M_unpacked aMits aMmany aMplace aMlength aMtimes aMvalues aMorder M_chunks M_epoch M_side aMheadOf aMheadTime aMheadValue M_logged aMnext aMisNew M_nexts_5 aMcursorTime aMcursorValue M_hasCursor M_cursorMany M_cursorAt aMmade M_bits M_from M_askMany M_askLeast M_askGreatest M_askSum, rI aMorder cI 96 M_order, rI aMnext cI 240 M_next_10]) (w1 := [oX10 aM M_thrown M_series M_most M_ratio aMdisk M_writes M_fuse M_down M_recovers M_looks M_unpacked aMits aMmany aMplace aMlength aMtimes aMvalues aMorder M_chunks M_epoch M_side aMheadOf aMheadTime aMheadValue M_logged aMnext aMisNew M_nexts_5 aMcursorTime aMcursorValue M_hasCursor M_cursorMany M_cursorAt aMmade M_bits M_from M_askMany M_askLeast M_askGreatest M_askSum, rI aMorder cI 96 M_order, rI aMnext cI 240 M_next_10]) (wr := [rI aMits cI 240 M_its_6, rI aMmany cI 240 M_many_7, rI aMtimes cI 15360 M_times_8, rI aMvalues cI 15360 M_values_9, rI aMheadOf cI 128 M_headOf, rI aMheadTime cI 128 M_headTime, rI aMheadValue cI 128 M_headValue, rI aMisNew cZ 240 M_isNew_11]) (wb := [oX10 aM M_thrown M_series M_most M_ratio aMdisk M_writes M_fuse M_down M_recovers M_looks M_unpacked aMits aMmany aMplace aMlength aMtimes aMvalues aMorder M_chunks M_epoch M_side aMheadOf aMheadTime aMheadValue M_logged aMnext aMisNew M_nexts_5 aMcursorTime aMcursorValue M_hasCursor M_cursorMany M_cursorAt aMmade M_bits M_from M_askMany M_askLeast M_askGreatest M_askSum, rI aMits cI 240 M_its_6, rI aMmany cI 240 M_many_7, rI aMtimes cI 15360 M_times_8, rI aMvalues cI 15360 M_values_9, rI aMorder cI 96 M_order, rI aMheadOf cI 128 M_headOf, rI aMheadTime cI 128 M_headTime, rI aMheadValue cI 128 M_headValue, rI aMnext cI 240 M_next_10, rI aMisNew cZ 240 M_isNew_11]) (v := (some (.int r_47))) hx hb hml hown htc hN (c_X10_freeSlot l G cI cZ cJ aM aMdisk aMits aMmany aMplace aMlength aMtimes aMvalues aMorder aMheadOf aMheadTime aMheadValue aMnext aMisNew aMcursorTime aMcursorValue aMmade M_thrown M_series M_most M_ratio M_writes M_fuse M_down M_recovers M_looks M_unpacked M_chunks M_epoch M_side M_logged M_nexts_5 M_hasCursor M_cursorMany M_cursorAt M_bits M_from M_askMany M_askLeast M_askGreatest M_askSum M_order M_next_10  hE_46) mw_1108 mw_1110 mp_41 mw_12 mw_1111 hd_X10_freeSlot ⟨rfl, rfl⟩ ⟨Nat.le_of_ble_eq_true rfl, Nat.le_of_ble_eq_true rfl⟩ hK hw23 hA [0, 5, 9] [1, 2, 3, 4, 6, 7, 8, 10] [8, 0, 1, 2, 3, 9, 4, 5, 6, 10, 7] rfl rfl rfl rfl rfl (by decide) rfl rfl rfl 0 rfl rfl rfl rfl hl23.1 rfl rfl (Nat.le_of_ble_eq_true rfl) dX10_headsOf_44 ⟨Nat.zero_le _, Nat.zero_le _⟩ (fun H48 locs48 hw48 => ?_)
            clear hw23 H23 locs23
            refine lv_istore_n (lv' := [(2, .int r_47), (0, .ref aM), (1, .int p0), (3, .int v3_4)]) hx hb dX10_headsOf_47 rfl hl23 (by decide) rfl (fun ls49 hl49 => ?_)
            clear hl23 ls23
            refine lv_aload_n hx hb dX10_headsOf_48 rfl (lv_at hl49 1 rfl) ?_
            refine va_get (D := G) (ci := 10) (v := .ref aMits) (C := RX10) (T := TX10) (N := 40) hx hb htc iX10 hown hK hw48.1 0 rfl rfl 11 (by decide) (htc _ mw_958) (fun _ h9 => h9) rfl dX10_headsOf_49 ?_
            refine lv_iload_n hx hb dX10_headsOf_52 rfl (lv_at hl49 0 rfl) ?_
            refine lv_iload_n hx hb dX10_headsOf_53 rfl (lv_at hl49 2 rfl) ?_
            replace hJ_43 := ckb_some hJ_43
            obtain ⟨hin_50, hJ_43⟩ := hJ_43
            refine va_iast hx hb hK hw48.1 hw48.2.1 hw48.2.2 1 0 rfl rfl hin_50 dX10_headsOf_54 (fun H51 locs51 hP hD hS => ?_)
            have hw51 : wS G A s H51 locs51 [oX10 aM M_thrown M_series M_most M_ratio aMdisk M_writes M_fuse M_down M_recovers M_looks M_unpacked aMits aMmany aMplace aMlength aMtimes aMvalues aMorder M_chunks M_epoch M_side aMheadOf aMheadTime aMheadValue M_logged aMnext aMisNew M_nexts_5 aMcursorTime aMcursorValue M_hasCursor M_cursorMany M_cursorAt aMmade M_bits M_from M_askMany M_askLeast M_askGreatest M_askSum, rI aMits cI 240 (upd M_its_6 (Int32.toNatClampNeg r_47) p0), rI aMmany cI 240 M_many_7, rI aMtimes cI 15360 M_times_8, rI aMvalues cI 15360 M_values_9, rI aMorder cI 96 M_order, rI aMheadOf cI 128 M_headOf, rI aMheadTime cI 128 M_headTime, rI aMheadValue cI 128 M_headValue, rI aMnext cI 240 M_next_10, rI aMisNew cZ 240 M_isNew_11] := ⟨hP, hD, hS⟩
            clear hP hD hS hw48 H48 locs48
            refine lv_aload_n hx hb dX10_headsOf_55 rfl (lv_at hl49 1 rfl) ?_
            refine va_get (D := G) (ci := 10) (v := .ref aMmany) (C := RX10) (T := TX10) (N := 40) hx hb htc iX10 hown hK hw51.1 0 rfl rfl 12 (by decide) (htc _ mw_959) (fun _ h9 => h9) rfl dX10_headsOf_56 ?_
            refine lv_iload_n hx hb dX10_headsOf_59 rfl (lv_at hl49 0 rfl) ?_
            refine lv_iconst (v := (0 : Int32)) hx hb dX10_headsOf_60 (by decide) ?_
            replace hJ_43 := ckb_some hJ_43
            obtain ⟨hin_52, hJ_43⟩ := hJ_43
            refine va_iast hx hb hK hw51.1 hw51.2.1 hw51.2.2 2 0 rfl rfl hin_52 dX10_headsOf_61 (fun H53 locs53 hP hD hS => ?_)
            have hw53 : wS G A s H53 locs53 [oX10 aM M_thrown M_series M_most M_ratio aMdisk M_writes M_fuse M_down M_recovers M_looks M_unpacked aMits aMmany aMplace aMlength aMtimes aMvalues aMorder M_chunks M_epoch M_side aMheadOf aMheadTime aMheadValue M_logged aMnext aMisNew M_nexts_5 aMcursorTime aMcursorValue M_hasCursor M_cursorMany M_cursorAt aMmade M_bits M_from M_askMany M_askLeast M_askGreatest M_askSum, rI aMits cI 240 (upd M_its_6 (Int32.toNatClampNeg r_47) p0), rI aMmany cI 240 (upd M_many_7 (Int32.toNatClampNeg r_47) (0 : Int32)), rI aMtimes cI 15360 M_times_8, rI aMvalues cI 15360 M_values_9, rI aMorder cI 96 M_order, rI aMheadOf cI 128 M_headOf, rI aMheadTime cI 128 M_headTime, rI aMheadValue cI 128 M_headValue, rI aMnext cI 240 M_next_10, rI aMisNew cZ 240 M_isNew_11] := ⟨hP, hD, hS⟩
            clear hP hD hS hw51 H51 locs51
            refine lv_aload_n hx hb dX10_headsOf_62 rfl (lv_at hl49 1 rfl) ?_
            refine lv_iload_n hx hb dX10_headsOf_63 rfl (lv_at hl49 0 rfl) ?_
            refine lv_iconst (v := (1 : Int32)) hx hb dX10_headsOf_64 (by decide) ?_
            replace hJ_43 := ob3_some hJ_43
            obtain ⟨M_nexts_55, M_next_56, M_isNew_57, hE_54, hJ_43⟩ := hJ_43
            refine ctV (a := aM) (As := [.int r_47, .int (1 : Int32)]) (rest := []) (st1 := []) (wc := [oX10 aM M_thrown M_series M_most M_ratio aMdisk M_writes M_fuse M_down M_recovers M_looks M_unpacked aMits aMmany aMplace aMlength aMtimes aMvalues aMorder M_chunks M_epoch M_side aMheadOf aMheadTime aMheadValue M_logged aMnext aMisNew M_nexts_5 aMcursorTime aMcursorValue M_hasCursor M_cursorMany M_cursorAt aMmade M_bits M_from M_askMany M_askLeast M_askGreatest M_askSum, rI aMnext cI 240 M_next_10, rI aMisNew cZ 240 M_isNew_11]) (w1 := [oX10 aM M_thrown M_series M_most M_ratio aMdisk M_writes M_fuse M_down M_recovers M_looks M_unpacked aMits aMmany aMplace aMlength aMtimes aMvalues aMorder M_chunks M_epoch M_side aMheadOf aMheadTime aMheadValue M_logged aMnext aMisNew M_nexts_55 aMcursorTime aMcursorValue M_hasCursor M_cursorMany M_cursorAt aMmade M_bits M_from M_askMany M_askLeast M_askGreatest M_askSum, rI aMnext cI 240 M_next_56, rI aMisNew cZ 240 M_isNew_57]) (wr := [rI aMits cI 240 (upd M_its_6 (Int32.toNatClampNeg r_47) p0), rI aMmany cI 240 (upd M_many_7 (Int32.toNatClampNeg r_47) (0 : Int32)), rI aMtimes cI 15360 M_times_8, rI aMvalues cI 15360 M_values_9, rI aMorder cI 96 M_order, rI aMheadOf cI 128 M_headOf, rI aMheadTime cI 128 M_headTime, rI aMheadValue cI 128 M_headValue]) (wb := [oX10 aM M_thrown M_series M_most M_ratio aMdisk M_writes M_fuse M_down M_recovers M_looks M_unpacked aMits aMmany aMplace aMlength aMtimes aMvalues aMorder M_chunks M_epoch M_side aMheadOf aMheadTime aMheadValue M_logged aMnext aMisNew M_nexts_55 aMcursorTime aMcursorValue M_hasCursor M_cursorMany M_cursorAt aMmade M_bits M_from M_askMany M_askLeast M_askGreatest M_askSum, rI aMits cI 240 (upd M_its_6 (Int32.toNatClampNeg r_47) p0), rI aMmany cI 240 (upd M_many_7 (Int32.toNatClampNeg r_47) (0 : Int32)), rI aMtimes cI 15360 M_times_8, rI aMvalues cI 15360 M_values_9, rI aMorder cI 96 M_order, rI aMheadOf cI 128 M_headOf, rI aMheadTime cI 128 M_headTime, rI aMheadValue cI 128 M_headValue, rI aMnext cI 240 M_next_56, rI aMisNew cZ 240 M_isNew_57]) (v := none) hx hb hml hown htc hN (c_X10_comes l G cI cZ cJ aM aMdisk aMits aMmany aMplace aMlength aMtimes aMvalues aMorder aMheadOf aMheadTime aMheadValue aMnext aMisNew aMcursorTime aMcursorValue aMmade M_thrown M_series M_most M_ratio M_writes M_fuse M_down M_recovers M_looks M_unpacked M_chunks M_epoch M_side M_logged M_nexts_5 M_hasCursor M_cursorMany M_cursorAt M_bits M_from M_askMany M_askLeast M_askGreatest M_askSum M_next_10 M_isNew_11 r_47 (1 : Int32) hE_54) mw_1100 mw_1102 mp_39 mw_12 mw_1103 hd_X10_comes ⟨rfl, rfl⟩ ⟨Nat.le_of_ble_eq_true rfl, Nat.le_of_ble_eq_true rfl⟩ hK hw53 hA [0, 9, 10] [1, 2, 3, 4, 5, 6, 7, 8] [8, 0, 1, 2, 3, 4, 5, 6, 7, 9, 10] rfl rfl rfl rfl rfl (by decide) rfl rfl rfl 0 rfl rfl rfl rfl hl49.1 rfl rfl (Nat.le_of_ble_eq_true rfl) dX10_headsOf_65 ⟨Nat.zero_le _, Nat.zero_le _⟩ (fun H58 locs58 hw58 => ?_)
            clear hw53 H53 locs53
            cases hJ_43
            exact kj_44 _ _ _ hw58 (lv_sub hl49 [1, 2, 0, 3] rfl)
          · replace hJ_43 := it_f c_45 hJ_43
            refine lv_aload_n hx hb dX10_headsOf_30 rfl (lv_at hl23 0 rfl) ?_
            refine va_get (D := G) (ci := 10) (v := .ref aMmany) (C := RX10) (T := TX10) (N := 40) hx hb htc iX10 hown hK hw23.1 0 rfl rfl 12 (by decide) (htc _ mw_959) (fun _ h9 => h9) rfl dX10_headsOf_31 ?_
            refine lv_iload_n hx hb dX10_headsOf_34 rfl (lv_at hl23 2 rfl) ?_
            replace hJ_43 := ckb_some hJ_43
            obtain ⟨hin_59, hJ_43⟩ := hJ_43
            refine va_iald hx hb hK hw23.1 2 0 rfl rfl hin_59 dX10_headsOf_35 ?_
            refine lv_aload_n hx hb dX10_headsOf_36 rfl (lv_at hl23 0 rfl) ?_
            refine va_get (D := G) (ci := 10) (v := .int M_most) (C := RX10) (T := TX10) (N := 40) hx hb htc iX10 hown hK hw23.1 0 rfl rfl 2 (by decide) (htc _ mw_949) (fun _ h9 => h9) rfl dX10_headsOf_37 ?_
            refine lv_icmp_ne (tgt := 68) hx hb dX10_headsOf_40 (by decide) (fun c_60 => ?_) (fun c_60 => ?_)
            · replace hJ_43 := it_f c_60 hJ_43
              cases hJ_43
              exact kj_44 _ _ _ hw23 (lv_sub hl23 [0, 1, 2, 3] rfl)
            · replace hJ_43 := it_t c_60 hJ_43
              refine lv_aload_n hx hb dX10_headsOf_43 rfl (lv_at hl23 0 rfl) ?_
              replace hJ_43 := ob1_some hJ_43
              obtain ⟨r_62, hE_61, hJ_43⟩ := hJ_43
              refine ctV (a := aM) (As := []) (rest := []) (st1 := [.int r_62]) (wc := [oX10 aM M_thrown M_series M_most M_ratio aMdisk M_writes M_fuse M_down M_recovers M_looks M_unpacked aMits aMmany aMplace aMlength aMtimes aMvalues aMorder M_chunks M_epoch M_side aMheadOf aMheadTime aMheadValue M_logged aMnext aMisNew M_nexts_5 aMcursorTime aMcursorValue M_hasCursor M_cursorMany M_cursorAt aMmade M_bits M_from M_askMany M_askLeast M_askGreatest M_askSum, rI aMorder cI 96 M_order, rI aMnext cI 240 M_next_10]) (w1 := [oX10 aM M_thrown M_series M_most M_ratio aMdisk M_writes M_fuse M_down M_recovers M_looks M_unpacked aMits aMmany aMplace aMlength aMtimes aMvalues aMorder M_chunks M_epoch M_side aMheadOf aMheadTime aMheadValue M_logged aMnext aMisNew M_nexts_5 aMcursorTime aMcursorValue M_hasCursor M_cursorMany M_cursorAt aMmade M_bits M_from M_askMany M_askLeast M_askGreatest M_askSum, rI aMorder cI 96 M_order, rI aMnext cI 240 M_next_10]) (wr := [rI aMits cI 240 M_its_6, rI aMmany cI 240 M_many_7, rI aMtimes cI 15360 M_times_8, rI aMvalues cI 15360 M_values_9, rI aMheadOf cI 128 M_headOf, rI aMheadTime cI 128 M_headTime, rI aMheadValue cI 128 M_headValue, rI aMisNew cZ 240 M_isNew_11]) (wb := [oX10 aM M_thrown M_series M_most M_ratio aMdisk M_writes M_fuse M_down M_recovers M_looks M_unpacked aMits aMmany aMplace aMlength aMtimes aMvalues aMorder M_chunks M_epoch M_side aMheadOf aMheadTime aMheadValue M_logged aMnext aMisNew M_nexts_5 aMcursorTime aMcursorValue M_hasCursor M_cursorMany M_cursorAt aMmade M_bits M_from M_askMany M_askLeast M_askGreatest M_askSum, rI aMits cI 240 M_its_6, rI aMmany cI 240 M_many_7, rI aMtimes cI 15360 M_times_8, rI aMvalues cI 15360 M_values_9, rI aMorder cI 96 M_order, rI aMheadOf cI 128 M_headOf, rI aMheadTime cI 128 M_headTime, rI aMheadValue cI 128 M_headValue, rI aMnext cI 240 M_next_10, rI aMisNew cZ 240 M_isNew_11]) (v := (some (.int r_62))) hx hb hml hown htc hN (c_X10_freeSlot l G cI cZ cJ aM aMdisk aMits aMmany aMplace aMlength aMtimes aMvalues aMorder aMheadOf aMheadTime aMheadValue aMnext aMisNew aMcursorTime aMcursorValue aMmade M_thrown M_series M_most M_ratio M_writes M_fuse M_down M_recovers M_looks M_unpacked M_chunks M_epoch M_side M_logged M_nexts_5 M_hasCursor M_cursorMany M_cursorAt M_bits M_from M_askMany M_askLeast M_askGreatest M_askSum M_order M_next_10  hE_61) mw_1108 mw_1110 mp_41 mw_12 mw_1111 hd_X10_freeSlot ⟨rfl, rfl⟩ ⟨Nat.le_of_ble_eq_true rfl, Nat.le_of_ble_eq_true rfl⟩ hK hw23 hA [0, 5, 9] [1, 2, 3, 4, 6, 7, 8, 10] [8, 0, 1, 2, 3, 9, 4, 5, 6, 10, 7] rfl rfl rfl rfl rfl (by decide) rfl rfl rfl 0 rfl rfl rfl rfl hl23.1 rfl rfl (Nat.le_of_ble_eq_true rfl) dX10_headsOf_44 ⟨Nat.zero_le _, Nat.zero_le _⟩ (fun H63 locs63 hw63 => ?_)
              clear hw23 H23 locs23
              refine lv_istore_n (lv' := [(2, .int r_62), (0, .ref aM), (1, .int p0), (3, .int v3_4)]) hx hb dX10_headsOf_47 rfl hl23 (by decide) rfl (fun ls64 hl64 => ?_)
              clear hl23 ls23
              refine lv_aload_n hx hb dX10_headsOf_48 rfl (lv_at hl64 1 rfl) ?_
              refine va_get (D := G) (ci := 10) (v := .ref aMits) (C := RX10) (T := TX10) (N := 40) hx hb htc iX10 hown hK hw63.1 0 rfl rfl 11 (by decide) (htc _ mw_958) (fun _ h9 => h9) rfl dX10_headsOf_49 ?_
              refine lv_iload_n hx hb dX10_headsOf_52 rfl (lv_at hl64 0 rfl) ?_
              refine lv_iload_n hx hb dX10_headsOf_53 rfl (lv_at hl64 2 rfl) ?_
              replace hJ_43 := ckb_some hJ_43
              obtain ⟨hin_65, hJ_43⟩ := hJ_43
              refine va_iast hx hb hK hw63.1 hw63.2.1 hw63.2.2 1 0 rfl rfl hin_65 dX10_headsOf_54 (fun H66 locs66 hP hD hS => ?_)
              have hw66 : wS G A s H66 locs66 [oX10 aM M_thrown M_series M_most M_ratio aMdisk M_writes M_fuse M_down M_recovers M_looks M_unpacked aMits aMmany aMplace aMlength aMtimes aMvalues aMorder M_chunks M_epoch M_side aMheadOf aMheadTime aMheadValue M_logged aMnext aMisNew M_nexts_5 aMcursorTime aMcursorValue M_hasCursor M_cursorMany M_cursorAt aMmade M_bits M_from M_askMany M_askLeast M_askGreatest M_askSum, rI aMits cI 240 (upd M_its_6 (Int32.toNatClampNeg r_62) p0), rI aMmany cI 240 M_many_7, rI aMtimes cI 15360 M_times_8, rI aMvalues cI 15360 M_values_9, rI aMorder cI 96 M_order, rI aMheadOf cI 128 M_headOf, rI aMheadTime cI 128 M_headTime, rI aMheadValue cI 128 M_headValue, rI aMnext cI 240 M_next_10, rI aMisNew cZ 240 M_isNew_11] := ⟨hP, hD, hS⟩
              clear hP hD hS hw63 H63 locs63
              refine lv_aload_n hx hb dX10_headsOf_55 rfl (lv_at hl64 1 rfl) ?_
              refine va_get (D := G) (ci := 10) (v := .ref aMmany) (C := RX10) (T := TX10) (N := 40) hx hb htc iX10 hown hK hw66.1 0 rfl rfl 12 (by decide) (htc _ mw_959) (fun _ h9 => h9) rfl dX10_headsOf_56 ?_
              refine lv_iload_n hx hb dX10_headsOf_59 rfl (lv_at hl64 0 rfl) ?_
              refine lv_iconst (v := (0 : Int32)) hx hb dX10_headsOf_60 (by decide) ?_
              replace hJ_43 := ckb_some hJ_43
              obtain ⟨hin_67, hJ_43⟩ := hJ_43
              refine va_iast hx hb hK hw66.1 hw66.2.1 hw66.2.2 2 0 rfl rfl hin_67 dX10_headsOf_61 (fun H68 locs68 hP hD hS => ?_)
              have hw68 : wS G A s H68 locs68 [oX10 aM M_thrown M_series M_most M_ratio aMdisk M_writes M_fuse M_down M_recovers M_looks M_unpacked aMits aMmany aMplace aMlength aMtimes aMvalues aMorder M_chunks M_epoch M_side aMheadOf aMheadTime aMheadValue M_logged aMnext aMisNew M_nexts_5 aMcursorTime aMcursorValue M_hasCursor M_cursorMany M_cursorAt aMmade M_bits M_from M_askMany M_askLeast M_askGreatest M_askSum, rI aMits cI 240 (upd M_its_6 (Int32.toNatClampNeg r_62) p0), rI aMmany cI 240 (upd M_many_7 (Int32.toNatClampNeg r_62) (0 : Int32)), rI aMtimes cI 15360 M_times_8, rI aMvalues cI 15360 M_values_9, rI aMorder cI 96 M_order, rI aMheadOf cI 128 M_headOf, rI aMheadTime cI 128 M_headTime, rI aMheadValue cI 128 M_headValue, rI aMnext cI 240 M_next_10, rI aMisNew cZ 240 M_isNew_11] := ⟨hP, hD, hS⟩
              clear hP hD hS hw66 H66 locs66
              refine lv_aload_n hx hb dX10_headsOf_62 rfl (lv_at hl64 1 rfl) ?_
              refine lv_iload_n hx hb dX10_headsOf_63 rfl (lv_at hl64 0 rfl) ?_
              refine lv_iconst (v := (1 : Int32)) hx hb dX10_headsOf_64 (by decide) ?_
              replace hJ_43 := ob3_some hJ_43
              obtain ⟨M_nexts_70, M_next_71, M_isNew_72, hE_69, hJ_43⟩ := hJ_43
              refine ctV (a := aM) (As := [.int r_62, .int (1 : Int32)]) (rest := []) (st1 := []) (wc := [oX10 aM M_thrown M_series M_most M_ratio aMdisk M_writes M_fuse M_down M_recovers M_looks M_unpacked aMits aMmany aMplace aMlength aMtimes aMvalues aMorder M_chunks M_epoch M_side aMheadOf aMheadTime aMheadValue M_logged aMnext aMisNew M_nexts_5 aMcursorTime aMcursorValue M_hasCursor M_cursorMany M_cursorAt aMmade M_bits M_from M_askMany M_askLeast M_askGreatest M_askSum, rI aMnext cI 240 M_next_10, rI aMisNew cZ 240 M_isNew_11]) (w1 := [oX10 aM M_thrown M_series M_most M_ratio aMdisk M_writes M_fuse M_down M_recovers M_looks M_unpacked aMits aMmany aMplace aMlength aMtimes aMvalues aMorder M_chunks M_epoch M_side aMheadOf aMheadTime aMheadValue M_logged aMnext aMisNew M_nexts_70 aMcursorTime aMcursorValue M_hasCursor M_cursorMany M_cursorAt aMmade M_bits M_from M_askMany M_askLeast M_askGreatest M_askSum, rI aMnext cI 240 M_next_71, rI aMisNew cZ 240 M_isNew_72]) (wr := [rI aMits cI 240 (upd M_its_6 (Int32.toNatClampNeg r_62) p0), rI aMmany cI 240 (upd M_many_7 (Int32.toNatClampNeg r_62) (0 : Int32)), rI aMtimes cI 15360 M_times_8, rI aMvalues cI 15360 M_values_9, rI aMorder cI 96 M_order, rI aMheadOf cI 128 M_headOf, rI aMheadTime cI 128 M_headTime, rI aMheadValue cI 128 M_headValue]) (wb := [oX10 aM M_thrown M_series M_most M_ratio aMdisk M_writes M_fuse M_down M_recovers M_looks M_unpacked aMits aMmany aMplace aMlength aMtimes aMvalues aMorder M_chunks M_epoch M_side aMheadOf aMheadTime aMheadValue M_logged aMnext aMisNew M_nexts_70 aMcursorTime aMcursorValue M_hasCursor M_cursorMany M_cursorAt aMmade M_bits M_from M_askMany M_askLeast M_askGreatest M_askSum, rI aMits cI 240 (upd M_its_6 (Int32.toNatClampNeg r_62) p0), rI aMmany cI 240 (upd M_many_7 (Int32.toNatClampNeg r_62) (0 : Int32)), rI aMtimes cI 15360 M_times_8, rI aMvalues cI 15360 M_values_9, rI aMorder cI 96 M_order, rI aMheadOf cI 128 M_headOf, rI aMheadTime cI 128 M_headTime, rI aMheadValue cI 128 M_headValue, rI aMnext cI 240 M_next_71, rI aMisNew cZ 240 M_isNew_72]) (v := none) hx hb hml hown htc hN (c_X10_comes l G cI cZ cJ aM aMdisk aMits aMmany aMplace aMlength aMtimes aMvalues aMorder aMheadOf aMheadTime aMheadValue aMnext aMisNew aMcursorTime aMcursorValue aMmade M_thrown M_series M_most M_ratio M_writes M_fuse M_down M_recovers M_looks M_unpacked M_chunks M_epoch M_side M_logged M_nexts_5 M_hasCursor M_cursorMany M_cursorAt M_bits M_from M_askMany M_askLeast M_askGreatest M_askSum M_next_10 M_isNew_11 r_62 (1 : Int32) hE_69) mw_1100 mw_1102 mp_39 mw_12 mw_1103 hd_X10_comes ⟨rfl, rfl⟩ ⟨Nat.le_of_ble_eq_true rfl, Nat.le_of_ble_eq_true rfl⟩ hK hw68 hA [0, 9, 10] [1, 2, 3, 4, 5, 6, 7, 8] [8, 0, 1, 2, 3, 4, 5, 6, 7, 9, 10] rfl rfl rfl rfl rfl (by decide) rfl rfl rfl 0 rfl rfl rfl rfl hl64.1 rfl rfl (Nat.le_of_ble_eq_true rfl) dX10_headsOf_65 ⟨Nat.zero_le _, Nat.zero_le _⟩ (fun H73 locs73 hw73 => ?_)
              clear hw68 H68 locs68
              cases hJ_43
              exact kj_44 _ _ _ hw73 (lv_sub hl64 [1, 2, 0, 3] rfl)
        · replace hJ_34 := it_f c_36 hJ_34
          refine lv_goto (tgt := 85) hx hb dX10_headsOf_22 (by decide) ?_
          cases hJ_34
          exact kj_35 _ _ _ hw23 (lv_sub hl23 [0, 1, 2, 3] rfl)
  exact lp_14 NN (-1 : Int32) (0 : Int32) M_nexts M_its M_many M_times M_values M_next M_isNew hL_12 _ _ _ hw0 (lv_sub hl2 [2, 3, 1, 0] rfl)
abbrev rm_X10_flush : Room := { frames := 5, cells := 0, slots := 0, locals := 122 }
theorem hd_X10_flush : yX10_flush.cls = RX10 ∧ yX10_flush.cls ≠ "java/lang/invoke/MethodHandle" ∧ yX10_flush.cls ≠ "java/lang/invoke/VarHandle" ∧ (parseMethodDescriptor yX10_flush.desc).map (fun d => d.parameters.length) = some 0 := by decide +kernel
set_option maxHeartbeats 4000000 in
set_option maxRecDepth 100000 in
theorem c_X10_flush (l : Launch) (G : va_G) (cI cZ cJ : ClassId) (aM aMdisk aMits aMmany aMplace aMlength aMtimes aMvalues aMorder aMheadOf aMheadTime aMheadValue aMnext aMisNew aMcursorTime aMcursorValue aMmade : Nat) (M_thrown : Int32) (M_series : Int32) (M_most : Int32) (M_ratio : Int32) (M_writes : Int32) (M_fuse : Int32) (M_down : Int32) (M_recovers : Int32) (M_looks : Int32) (M_unpacked : Int32) (M_chunks : Int32) (M_epoch : Int32) (M_side : Int32) (M_logged : Int32) (M_nexts : Int32) (M_hasCursor : Int32) (M_cursorMany : Int32) (M_cursorAt : Int32) (M_bits : Int32) (M_from : Int32) (M_askMany : Int32) (M_askLeast : Int32) (M_askGreatest : Int32) (M_askSum : Int64) (M_disk : Nat → Int32) (M_its : Nat → Int32) (M_many : Nat → Int32) (M_place : Nat → Int32) (M_length : Nat → Int32) (M_times : Nat → Int32) (M_values : Nat → Int32) (M_order : Nat → Int32) (M_headOf : Nat → Int32) (M_headTime : Nat → Int32) (M_headValue : Nat → Int32) (M_next : Nat → Int32) (M_isNew : Nat → Int32) (M_made : Nat → Int32)  {r : Int32} {o_M_thrown : Int32} {o_M_writes : Int32} {o_M_fuse : Int32} {o_M_down : Int32} {o_M_chunks : Int32} {o_M_epoch : Int32} {o_M_side : Int32} {o_M_logged : Int32} {o_M_nexts : Int32} {o_M_hasCursor : Int32} {o_M_cursorMany : Int32} {o_M_cursorAt : Int32} {o_M_bits : Int32} {o_M_disk : Nat → Int32} {o_M_its : Nat → Int32} {o_M_many : Nat → Int32} {o_M_place : Nat → Int32} {o_M_length : Nat → Int32} {o_M_times : Nat → Int32} {o_M_values : Nat → Int32} {o_M_order : Nat → Int32} {o_M_next : Nat → Int32} {o_M_isNew : Nat → Int32} {o_M_made : Nat → Int32} (hfin : m_X10_flush M_thrown M_series M_most M_writes M_fuse M_down M_chunks M_epoch M_side M_logged M_nexts M_hasCursor M_cursorMany M_cursorAt M_bits M_disk M_its M_many M_place M_length M_times M_values M_order M_headOf M_headTime M_headValue M_next M_isNew M_made = some (r, o_M_thrown, o_M_writes, o_M_fuse, o_M_down, o_M_chunks, o_M_epoch, o_M_side, o_M_logged, o_M_nexts, o_M_hasCursor, o_M_cursorMany, o_M_cursorAt, o_M_bits, o_M_disk, o_M_its, o_M_many, o_M_place, o_M_length, o_M_times, o_M_values, o_M_order, o_M_next, o_M_isNew, o_M_made)) : CT l yX10_flush cX10_flush 3 (some .int) rm_X10_flush G (tyC cI cZ cJ) [.ref aM] [oX10 aM M_thrown M_series M_most M_ratio aMdisk M_writes M_fuse M_down M_recovers M_looks M_unpacked aMits aMmany aMplace aMlength aMtimes aMvalues aMorder M_chunks M_epoch M_side aMheadOf aMheadTime aMheadValue M_logged aMnext aMisNew M_nexts aMcursorTime aMcursorValue M_hasCursor M_cursorMany M_cursorAt aMmade M_bits M_from M_askMany M_askLeast M_askGreatest M_askSum, rI aMdisk cI 4096 M_disk, rI aMits cI 240 M_its, rI aMmany cI 240 M_many, rI aMplace cI 240 M_place, rI aMlength cI 240 M_length, rI aMtimes cI 15360 M_times, rI aMvalues cI 15360 M_values, rI aMorder cI 96 M_order, rI aMheadOf cI 128 M_headOf, rI aMheadTime cI 128 M_headTime, rI aMheadValue cI 128 M_headValue, rI aMnext cI 240 M_next, rI aMisNew cZ 240 M_isNew, rI aMmade cI 200 M_made] (some (.int r)) [oX10 aM o_M_thrown M_series M_most M_ratio aMdisk o_M_writes o_M_fuse o_M_down M_recovers M_looks M_unpacked aMits aMmany aMplace aMlength aMtimes aMvalues aMorder o_M_chunks o_M_epoch o_M_side aMheadOf aMheadTime aMheadValue o_M_logged aMnext aMisNew o_M_nexts aMcursorTime aMcursorValue o_M_hasCursor o_M_cursorMany o_M_cursorAt aMmade o_M_bits M_from M_askMany M_askLeast M_askGreatest M_askSum, rI aMdisk cI 4096 o_M_disk, rI aMits cI 240 o_M_its, rI aMmany cI 240 o_M_many, rI aMplace cI 240 o_M_place, rI aMlength cI 240 o_M_length, rI aMtimes cI 15360 o_M_times, rI aMvalues cI 15360 o_M_values, rI aMorder cI 96 o_M_order, rI aMheadOf cI 128 M_headOf, rI aMheadTime cI 128 M_headTime, rI aMheadValue cI 128 M_headValue, rI aMnext cI 240 o_M_next, rI aMisNew cZ 240 o_M_isNew, rI aMmade cI 200 o_M_made] := by
  refine CT.ofW (lvl := [(0, .ref aM)]) (by decide) (Nat.le_of_ble_eq_true rfl) rfl ?_
  intro p e s m args below meth c A ls0 QQ hQQ hx hb hml hr hlocks htc hN hown hK hA hw0 hl0
  rw [m_X10_flush] at hfin
  refine lv_aload_n hx hb dX10_flush_0 rfl (lv_at hl0 0 rfl) ?_
  refine lv_iconst (v := (0 : Int32)) hx hb dX10_flush_1 (by decide) ?_
  refine va_put (D := G) (ci := 10) (v := .int (0 : Int32)) (ty := .int) (C := RX10) (T := TX10) (N := 40) hx hb htc iX10 tyX10 tyX10_ok nmX10 hown hK hw0.1 hw0.2.1 hw0.2.2 0 rfl rfl 0 (by decide) (htc _ mw_947) (fun _ h9 => h9) rfl (tyX10_ok 0 (by decide)) rfl rfl (Nat.le_of_ble_eq_true rfl) dX10_flush_2 (fun H1 locs1 hP hD hS => ?_)
  have hw1 : wS G A s H1 locs1 [oX10 aM (0 : Int32) M_series M_most M_ratio aMdisk M_writes M_fuse M_down M_recovers M_looks M_unpacked aMits aMmany aMplace aMlength aMtimes aMvalues aMorder M_chunks M_epoch M_side aMheadOf aMheadTime aMheadValue M_logged aMnext aMisNew M_nexts aMcursorTime aMcursorValue M_hasCursor M_cursorMany M_cursorAt aMmade M_bits M_from M_askMany M_askLeast M_askGreatest M_askSum, rI aMdisk cI 4096 M_disk, rI aMits cI 240 M_its, rI aMmany cI 240 M_many, rI aMplace cI 240 M_place, rI aMlength cI 240 M_length, rI aMtimes cI 15360 M_times, rI aMvalues cI 15360 M_values, rI aMorder cI 96 M_order, rI aMheadOf cI 128 M_headOf, rI aMheadTime cI 128 M_headTime, rI aMheadValue cI 128 M_headValue, rI aMnext cI 240 M_next, rI aMisNew cZ 240 M_isNew, rI aMmade cI 200 M_made] := ⟨hP, hD, hS⟩
  clear hP hD hS hw0
  refine lv_aload_n hx hb dX10_flush_5 rfl (lv_at hl0 0 rfl) ?_
  replace hfin := ob3_some hfin
  obtain ⟨M_hasCursor_3, M_cursorMany_4, M_cursorAt_5, hE_2, hfin⟩ := hfin
  refine ctV (a := aM) (As := []) (rest := []) (st1 := []) (wc := [oX10 aM (0 : Int32) M_series M_most M_ratio aMdisk M_writes M_fuse M_down M_recovers M_looks M_unpacked aMits aMmany aMplace aMlength aMtimes aMvalues aMorder M_chunks M_epoch M_side aMheadOf aMheadTime aMheadValue M_logged aMnext aMisNew M_nexts aMcursorTime aMcursorValue M_hasCursor M_cursorMany M_cursorAt aMmade M_bits M_from M_askMany M_askLeast M_askGreatest M_askSum]) (w1 := [oX10 aM (0 : Int32) M_series M_most M_ratio aMdisk M_writes M_fuse M_down M_recovers M_looks M_unpacked aMits aMmany aMplace aMlength aMtimes aMvalues aMorder M_chunks M_epoch M_side aMheadOf aMheadTime aMheadValue M_logged aMnext aMisNew M_nexts aMcursorTime aMcursorValue M_hasCursor_3 M_cursorMany_4 M_cursorAt_5 aMmade M_bits M_from M_askMany M_askLeast M_askGreatest M_askSum]) (wr := [rI aMdisk cI 4096 M_disk, rI aMits cI 240 M_its, rI aMmany cI 240 M_many, rI aMplace cI 240 M_place, rI aMlength cI 240 M_length, rI aMtimes cI 15360 M_times, rI aMvalues cI 15360 M_values, rI aMorder cI 96 M_order, rI aMheadOf cI 128 M_headOf, rI aMheadTime cI 128 M_headTime, rI aMheadValue cI 128 M_headValue, rI aMnext cI 240 M_next, rI aMisNew cZ 240 M_isNew, rI aMmade cI 200 M_made]) (wb := [oX10 aM (0 : Int32) M_series M_most M_ratio aMdisk M_writes M_fuse M_down M_recovers M_looks M_unpacked aMits aMmany aMplace aMlength aMtimes aMvalues aMorder M_chunks M_epoch M_side aMheadOf aMheadTime aMheadValue M_logged aMnext aMisNew M_nexts aMcursorTime aMcursorValue M_hasCursor_3 M_cursorMany_4 M_cursorAt_5 aMmade M_bits M_from M_askMany M_askLeast M_askGreatest M_askSum, rI aMdisk cI 4096 M_disk, rI aMits cI 240 M_its, rI aMmany cI 240 M_many, rI aMplace cI 240 M_place, rI aMlength cI 240 M_length, rI aMtimes cI 15360 M_times, rI aMvalues cI 15360 M_values, rI aMorder cI 96 M_order, rI aMheadOf cI 128 M_headOf, rI aMheadTime cI 128 M_headTime, rI aMheadValue cI 128 M_headValue, rI aMnext cI 240 M_next, rI aMisNew cZ 240 M_isNew, rI aMmade cI 200 M_made]) (v := none) hx hb hml hown htc hN (c_X10_dropCursor l G cI cZ cJ aM aMdisk aMits aMmany aMplace aMlength aMtimes aMvalues aMorder aMheadOf aMheadTime aMheadValue aMnext aMisNew aMcursorTime aMcursorValue aMmade (0 : Int32) M_series M_most M_ratio M_writes M_fuse M_down M_recovers M_looks M_unpacked M_chunks M_epoch M_side M_logged M_nexts M_hasCursor M_cursorMany M_cursorAt M_bits M_from M_askMany M_askLeast M_askGreatest M_askSum  hE_2) mw_1076 mw_1078 mp_34 mw_12 mw_1079 hd_X10_dropCursor ⟨rfl, rfl⟩ ⟨Nat.le_of_ble_eq_true rfl, Nat.le_of_ble_eq_true rfl⟩ hK hw1 hA [0] [1, 2, 3, 4, 5, 6, 7, 8, 9, 10, 11, 12, 13, 14] [14, 0, 1, 2, 3, 4, 5, 6, 7, 8, 9, 10, 11, 12, 13] rfl rfl rfl rfl rfl (by decide) rfl rfl rfl 0 rfl rfl rfl rfl hl0.1 rfl rfl (Nat.le_of_ble_eq_true rfl) dX10_flush_6 ⟨Nat.zero_le _, Nat.zero_le _⟩ (fun H6 locs6 hw6 => ?_)
  clear hw1 H1 locs1
  refine lv_aload_n hx hb dX10_flush_9 rfl (lv_at hl0 0 rfl) ?_
  refine va_get (D := G) (ci := 10) (v := .int M_down) (C := RX10) (T := TX10) (N := 40) hx hb htc iX10 hown hK hw6.1 0 rfl rfl 7 (by decide) (htc _ mw_954) (fun _ h9 => h9) rfl dX10_flush_10 ?_
  refine lv_if_eq (tgt := 19) hx hb dX10_flush_13 (by decide) (fun c_7 => ?_) (fun c_7 => ?_)
  · replace hfin := it_t c_7 hfin
    refine lv_aload_n hx hb dX10_flush_19 rfl (lv_at hl0 0 rfl) ?_
    refine va_get (D := G) (ci := 10) (v := .int M_logged) (C := RX10) (T := TX10) (N := 40) hx hb htc iX10 hown hK hw6.1 0 rfl rfl 24 (by decide) (htc _ mw_971) (fun _ h9 => h9) rfl dX10_flush_20 ?_
    refine lv_if_ne (tgt := 28) hx hb dX10_flush_23 (by decide) (fun c_8 => ?_) (fun c_8 => ?_)
    · replace hfin := it_f c_8 hfin
      refine lv_aload_n hx hb dX10_flush_28 rfl (lv_at hl0 0 rfl) ?_
      replace hfin := ob1_some hfin
      obtain ⟨M_nexts_10, hE_9, hfin⟩ := hfin
      refine ctV (a := aM) (As := []) (rest := []) (st1 := []) (wc := [oX10 aM (0 : Int32) M_series M_most M_ratio aMdisk M_writes M_fuse M_down M_recovers M_looks M_unpacked aMits aMmany aMplace aMlength aMtimes aMvalues aMorder M_chunks M_epoch M_side aMheadOf aMheadTime aMheadValue M_logged aMnext aMisNew M_nexts aMcursorTime aMcursorValue M_hasCursor_3 M_cursorMany_4 M_cursorAt_5 aMmade M_bits M_from M_askMany M_askLeast M_askGreatest M_askSum]) (w1 := [oX10 aM (0 : Int32) M_series M_most M_ratio aMdisk M_writes M_fuse M_down M_recovers M_looks M_unpacked aMits aMmany aMplace aMlength aMtimes aMvalues aMorder M_chunks M_epoch M_side aMheadOf aMheadTime aMheadValue M_logged aMnext aMisNew M_nexts_10 aMcursorTime aMcursorValue M_hasCursor_3 M_cursorMany_4 M_cursorAt_5 aMmade M_bits M_from M_askMany M_askLeast M_askGreatest M_askSum]) (wr := [rI aMdisk cI 4096 M_disk, rI aMits cI 240 M_its, rI aMmany cI 240 M_many, rI aMplace cI 240 M_place, rI aMlength cI 240 M_length, rI aMtimes cI 15360 M_times, rI aMvalues cI 15360 M_values, rI aMorder cI 96 M_order, rI aMheadOf cI 128 M_headOf, rI aMheadTime cI 128 M_headTime, rI aMheadValue cI 128 M_headValue, rI aMnext cI 240 M_next, rI aMisNew cZ 240 M_isNew, rI aMmade cI 200 M_made]) (wb := [oX10 aM (0 : Int32) M_series M_most M_ratio aMdisk M_writes M_fuse M_down M_recovers M_looks M_unpacked aMits aMmany aMplace aMlength aMtimes aMvalues aMorder M_chunks M_epoch M_side aMheadOf aMheadTime aMheadValue M_logged aMnext aMisNew M_nexts_10 aMcursorTime aMcursorValue M_hasCursor_3 M_cursorMany_4 M_cursorAt_5 aMmade M_bits M_from M_askMany M_askLeast M_askGreatest M_askSum, rI aMdisk cI 4096 M_disk, rI aMits cI 240 M_its, rI aMmany cI 240 M_many, rI aMplace cI 240 M_place, rI aMlength cI 240 M_length, rI aMtimes cI 15360 M_times, rI aMvalues cI 15360 M_values, rI aMorder cI 96 M_order, rI aMheadOf cI 128 M_headOf, rI aMheadTime cI 128 M_headTime, rI aMheadValue cI 128 M_headValue, rI aMnext cI 240 M_next, rI aMisNew cZ 240 M_isNew, rI aMmade cI 200 M_made]) (v := none) hx hb hml hown htc hN (c_X10_beginNext l G cI cZ cJ aM aMdisk aMits aMmany aMplace aMlength aMtimes aMvalues aMorder aMheadOf aMheadTime aMheadValue aMnext aMisNew aMcursorTime aMcursorValue aMmade (0 : Int32) M_series M_most M_ratio M_writes M_fuse M_down M_recovers M_looks M_unpacked M_chunks M_epoch M_side M_logged M_nexts M_hasCursor_3 M_cursorMany_4 M_cursorAt_5 M_bits M_from M_askMany M_askLeast M_askGreatest M_askSum  hE_9) mw_1096 mw_1098 mp_38 mw_12 mw_1099 hd_X10_beginNext ⟨rfl, rfl⟩ ⟨Nat.le_of_ble_eq_true rfl, Nat.le_of_ble_eq_true rfl⟩ hK hw6 hA [0] [1, 2, 3, 4, 5, 6, 7, 8, 9, 10, 11, 12, 13, 14] [14, 0, 1, 2, 3, 4, 5, 6, 7, 8, 9, 10, 11, 12, 13] rfl rfl rfl rfl rfl (by decide) rfl rfl rfl 0 rfl rfl rfl rfl hl0.1 rfl rfl (Nat.le_of_ble_eq_true rfl) dX10_flush_29 ⟨Nat.zero_le _, Nat.zero_le _⟩ (fun H11 locs11 hw11 => ?_)
      clear hw6 H6 locs6
      refine lv_iconst (v := (0 : Int32)) hx hb dX10_flush_32 (by decide) ?_
      refine lv_istore_n (lv' := [(1, .int (0 : Int32)), (0, .ref aM)]) hx hb dX10_flush_33 rfl hl0 (by decide) rfl (fun ls12 hl12 => ?_)
      clear hl0 ls0
      replace hfin := ob7_some hfin
      obtain ⟨M_nexts_25, M_its_26, M_many_27, M_times_28, M_values_29, M_next_30, M_isNew_31, hL_21, hfin⟩ := hfin
      have kx_22 : ∀ (H : Heap) (locs : List Loc) (ls : Array Slot), wS G A s H locs [oX10 aM (0 : Int32) M_series M_most M_ratio aMdisk M_writes M_fuse M_down M_recovers M_looks M_unpacked aMits aMmany aMplace aMlength aMtimes aMvalues aMorder M_chunks M_epoch M_side aMheadOf aMheadTime aMheadValue M_logged aMnext aMisNew M_nexts_25 aMcursorTime aMcursorValue M_hasCursor_3 M_cursorMany_4 M_cursorAt_5 aMmade M_bits M_from M_askMany M_askLeast M_askGreatest M_askSum, rI aMdisk cI 4096 M_disk, rI aMits cI 240 M_its_26, rI aMmany cI 240 M_many_27, rI aMplace cI 240 M_place, rI aMlength cI 240 M_length, rI aMtimes cI 15360 M_times_28, rI aMvalues cI 15360 M_values_29, rI aMorder cI 96 M_order, rI aMheadOf cI 128 M_headOf, rI aMheadTime cI 128 M_headTime, rI aMheadValue cI 128 M_headValue, rI aMnext cI 240 M_next_30, rI aMisNew cZ 240 M_isNew_31, rI aMmade cI 200 M_made] → lv_has ls 3 [(0, .ref aM)] → W p l e rm_X10_flush s m args below meth c H locs 0 0 QQ (F0 m 95 ls []) := by
        clear hw11 H11 locs11 hl12 ls12 hL_21
        intro H75 locs75 ls75 hw75 hl75
        refine lv_aload_n hx hb dX10_flush_95 rfl (lv_at hl75 0 rfl) ?_
        refine va_get (D := G) (ci := 10) (v := .int M_nexts_25) (C := RX10) (T := TX10) (N := 40) hx hb htc iX10 hown hK hw75.1 0 rfl rfl 27 (by decide) (htc _ mw_974) (fun _ h9 => h9) rfl dX10_flush_96 ?_
        refine lv_aload_n hx hb dX10_flush_99 rfl (lv_at hl75 0 rfl) ?_
        refine va_get (D := G) (ci := 10) (v := .int M_chunks) (C := RX10) (T := TX10) (N := 40) hx hb htc iX10 hown hK hw75.1 0 rfl rfl 18 (by decide) (htc _ mw_965) (fun _ h9 => h9) rfl dX10_flush_100 ?_
        refine lv_isub hx hb dX10_flush_103 ?_
        refine lv_istore_n (lv' := [(1, .int (M_nexts_25 - M_chunks)), (0, .ref aM)]) hx hb dX10_flush_104 rfl hl75 (by decide) rfl (fun ls76 hl76 => ?_)
        clear hl75 ls75
        refine lv_aload_n hx hb dX10_flush_105 rfl (lv_at hl76 1 rfl) ?_
        refine lv_aload_n hx hb dX10_flush_106 rfl (lv_at hl76 1 rfl) ?_
        refine va_get (D := G) (ci := 10) (v := .int M_epoch) (C := RX10) (T := TX10) (N := 40) hx hb htc iX10 hown hK hw75.1 0 rfl rfl 19 (by decide) (htc _ mw_966) (fun _ h9 => h9) rfl dX10_flush_107 ?_
        refine lv_iconst (v := (1 : Int32)) hx hb dX10_flush_110 (by decide) ?_
        refine lv_iadd hx hb dX10_flush_111 ?_
        replace hfin := ob13_some hfin
        obtain ⟨r_78, M_writes_79, M_fuse_80, M_down_81, M_chunks_82, M_epoch_83, M_side_84, M_bits_85, M_disk_86, M_place_87, M_length_88, M_order_89, M_made_90, hE_77, hfin⟩ := hfin
        refine ctV (a := aM) (As := [.int (M_epoch + (1 : Int32))]) (rest := []) (st1 := [.int r_78]) (wc := [oX10 aM (0 : Int32) M_series M_most M_ratio aMdisk M_writes M_fuse M_down M_recovers M_looks M_unpacked aMits aMmany aMplace aMlength aMtimes aMvalues aMorder M_chunks M_epoch M_side aMheadOf aMheadTime aMheadValue M_logged aMnext aMisNew M_nexts_25 aMcursorTime aMcursorValue M_hasCursor_3 M_cursorMany_4 M_cursorAt_5 aMmade M_bits M_from M_askMany M_askLeast M_askGreatest M_askSum, rI aMdisk cI 4096 M_disk, rI aMits cI 240 M_its_26, rI aMmany cI 240 M_many_27, rI aMplace cI 240 M_place, rI aMlength cI 240 M_length, rI aMtimes cI 15360 M_times_28, rI aMvalues cI 15360 M_values_29, rI aMorder cI 96 M_order, rI aMnext cI 240 M_next_30, rI aMisNew cZ 240 M_isNew_31, rI aMmade cI 200 M_made]) (w1 := [oX10 aM (0 : Int32) M_series M_most M_ratio aMdisk M_writes_79 M_fuse_80 M_down_81 M_recovers M_looks M_unpacked aMits aMmany aMplace aMlength aMtimes aMvalues aMorder M_chunks_82 M_epoch_83 M_side_84 aMheadOf aMheadTime aMheadValue M_logged aMnext aMisNew M_nexts_25 aMcursorTime aMcursorValue M_hasCursor_3 M_cursorMany_4 M_cursorAt_5 aMmade M_bits_85 M_from M_askMany M_askLeast M_askGreatest M_askSum, rI aMdisk cI 4096 M_disk_86, rI aMits cI 240 M_its_26, rI aMmany cI 240 M_many_27, rI aMplace cI 240 M_place_87, rI aMlength cI 240 M_length_88, rI aMtimes cI 15360 M_times_28, rI aMvalues cI 15360 M_values_29, rI aMorder cI 96 M_order_89, rI aMnext cI 240 M_next_30, rI aMisNew cZ 240 M_isNew_31, rI aMmade cI 200 M_made_90]) (wr := [rI aMheadOf cI 128 M_headOf, rI aMheadTime cI 128 M_headTime, rI aMheadValue cI 128 M_headValue]) (wb := [oX10 aM (0 : Int32) M_series M_most M_ratio aMdisk M_writes_79 M_fuse_80 M_down_81 M_recovers M_looks M_unpacked aMits aMmany aMplace aMlength aMtimes aMvalues aMorder M_chunks_82 M_epoch_83 M_side_84 aMheadOf aMheadTime aMheadValue M_logged aMnext aMisNew M_nexts_25 aMcursorTime aMcursorValue M_hasCursor_3 M_cursorMany_4 M_cursorAt_5 aMmade M_bits_85 M_from M_askMany M_askLeast M_askGreatest M_askSum, rI aMdisk cI 4096 M_disk_86, rI aMits cI 240 M_its_26, rI aMmany cI 240 M_many_27, rI aMplace cI 240 M_place_87, rI aMlength cI 240 M_length_88, rI aMtimes cI 15360 M_times_28, rI aMvalues cI 15360 M_values_29, rI aMorder cI 96 M_order_89, rI aMheadOf cI 128 M_headOf, rI aMheadTime cI 128 M_headTime, rI aMheadValue cI 128 M_headValue, rI aMnext cI 240 M_next_30, rI aMisNew cZ 240 M_isNew_31, rI aMmade cI 200 M_made_90]) (v := (some (.int r_78))) hx hb hml hown htc hN (c_X10_turn l G cI cZ cJ aM aMdisk aMits aMmany aMplace aMlength aMtimes aMvalues aMorder aMheadOf aMheadTime aMheadValue aMnext aMisNew aMcursorTime aMcursorValue aMmade (0 : Int32) M_series M_most M_ratio M_writes M_fuse M_down M_recovers M_looks M_unpacked M_chunks M_epoch M_side M_logged M_nexts_25 M_hasCursor_3 M_cursorMany_4 M_cursorAt_5 M_bits M_from M_askMany M_askLeast M_askGreatest M_askSum M_disk M_its_26 M_many_27 M_place M_length M_times_28 M_values_29 M_order M_next_30 M_isNew_31 M_made (M_epoch + (1 : Int32)) hE_77) mw_1120 mw_1122 mp_44 mw_12 mw_1123 hd_X10_turn ⟨rfl, rfl⟩ ⟨Nat.le_of_ble_eq_true rfl, Nat.le_of_ble_eq_true rfl⟩ hK hw75 hA [0, 1, 2, 3, 4, 5, 6, 7, 8, 12, 13, 14] [9, 10, 11] [3, 4, 5, 6, 7, 8, 9, 10, 11, 0, 1, 2, 12, 13, 14] rfl rfl rfl rfl rfl (by decide) rfl rfl rfl 0 rfl rfl rfl rfl hl76.1 rfl rfl (Nat.le_of_ble_eq_true rfl) dX10_flush_112 ⟨Nat.zero_le _, Nat.zero_le _⟩ (fun H91 locs91 hw91 => ?_)
        clear hw75 H75 locs75
        refine lv_istore_n (lv' := [(2, .int r_78), (1, .int (M_nexts_25 - M_chunks)), (0, .ref aM)]) hx hb dX10_flush_115 rfl hl76 (by decide) rfl (fun ls92 hl92 => ?_)
        clear hl76 ls76
        refine lv_iload_n hx hb dX10_flush_116 rfl (lv_at hl92 0 rfl) ?_
        replace hfin := ob1_some hfin
        obtain ⟨M_logged_93, hJ_94, hfin⟩ := hfin
        have kj_95 : ∀ (H : Heap) (locs : List Loc) (ls : Array Slot), wS G A s H locs [oX10 aM (0 : Int32) M_series M_most M_ratio aMdisk M_writes_79 M_fuse_80 M_down_81 M_recovers M_looks M_unpacked aMits aMmany aMplace aMlength aMtimes aMvalues aMorder M_chunks_82 M_epoch_83 M_side_84 aMheadOf aMheadTime aMheadValue M_logged_93 aMnext aMisNew M_nexts_25 aMcursorTime aMcursorValue M_hasCursor_3 M_cursorMany_4 M_cursorAt_5 aMmade M_bits_85 M_from M_askMany M_askLeast M_askGreatest M_askSum, rI aMdisk cI 4096 M_disk_86, rI aMits cI 240 M_its_26, rI aMmany cI 240 M_many_27, rI aMplace cI 240 M_place_87, rI aMlength cI 240 M_length_88, rI aMtimes cI 15360 M_times_28, rI aMvalues cI 15360 M_values_29, rI aMorder cI 96 M_order_89, rI aMheadOf cI 128 M_headOf, rI aMheadTime cI 128 M_headTime, rI aMheadValue cI 128 M_headValue, rI aMnext cI 240 M_next_30, rI aMisNew cZ 240 M_isNew_31, rI aMmade cI 200 M_made_90] → lv_has ls 3 [(1, .int (M_nexts_25 - M_chunks)), (2, .int r_78)] → W p l e rm_X10_flush s m args below meth c H locs 0 0 QQ (F0 m 125 ls []) := by
          clear hw91 H91 locs91 hl92 ls92 hJ_94
          intro H98 locs98 ls98 hw98 hl98
          refine lv_iload_n hx hb dX10_flush_125 rfl (lv_at hl98 1 rfl) ?_
          replace hfin := ob1_some hfin
          obtain ⟨s_99, hJ_100, hfin⟩ := hfin
          have kj_101 : ∀ (H : Heap) (locs : List Loc) (ls : Array Slot), wS G A s H locs [oX10 aM (0 : Int32) M_series M_most M_ratio aMdisk M_writes_79 M_fuse_80 M_down_81 M_recovers M_looks M_unpacked aMits aMmany aMplace aMlength aMtimes aMvalues aMorder M_chunks_82 M_epoch_83 M_side_84 aMheadOf aMheadTime aMheadValue M_logged_93 aMnext aMisNew M_nexts_25 aMcursorTime aMcursorValue M_hasCursor_3 M_cursorMany_4 M_cursorAt_5 aMmade M_bits_85 M_from M_askMany M_askLeast M_askGreatest M_askSum, rI aMdisk cI 4096 M_disk_86, rI aMits cI 240 M_its_26, rI aMmany cI 240 M_many_27, rI aMplace cI 240 M_place_87, rI aMlength cI 240 M_length_88, rI aMtimes cI 15360 M_times_28, rI aMvalues cI 15360 M_values_29, rI aMorder cI 96 M_order_89, rI aMheadOf cI 128 M_headOf, rI aMheadTime cI 128 M_headTime, rI aMheadValue cI 128 M_headValue, rI aMnext cI 240 M_next_30, rI aMisNew cZ 240 M_isNew_31, rI aMmade cI 200 M_made_90] → lv_has ls 3 [] → W p l e rm_X10_flush s m args below meth c H locs 0 0 QQ (F0 m 134 ls [.int s_99]) := by
            clear hw98 H98 locs98 hl98 ls98 hJ_100
            intro H103 locs103 ls103 hw103 hl103
            cases hfin
            rw [hQQ]
            exact ct_iret hx hb hr hlocks hw103.1 hw103.2.1 hw103.2.2 dX10_flush_134
          clear hfin
          refine lv_if_ne (tgt := 133) hx hb dX10_flush_126 (by decide) (fun c_102 => ?_) (fun c_102 => ?_)
          · replace hJ_100 := it_f c_102 hJ_100
            refine lv_iload_n hx hb dX10_flush_133 rfl (lv_at hl98 1 rfl) ?_
            cases hJ_100
            exact kj_101 _ _ _ hw98 (lv_sub hl98 [] rfl)
          · replace hJ_100 := it_t c_102 hJ_100
            refine lv_iload_n hx hb dX10_flush_129 rfl (lv_at hl98 0 rfl) ?_
            refine lv_goto (tgt := 134) hx hb dX10_flush_130 (by decide) ?_
            cases hJ_100
            exact kj_101 _ _ _ hw98 (lv_sub hl98 [] rfl)
        clear hfin
        refine lv_if_ne (tgt := 125) hx hb dX10_flush_117 (by decide) (fun c_96 => ?_) (fun c_96 => ?_)
        · replace hJ_94 := it_f c_96 hJ_94
          cases hJ_94
          exact kj_95 _ _ _ hw91 (lv_sub hl92 [1, 0] rfl)
        · replace hJ_94 := it_t c_96 hJ_94
          refine lv_aload_n hx hb dX10_flush_120 rfl (lv_at hl92 2 rfl) ?_
          refine lv_iconst (v := (0 : Int32)) hx hb dX10_flush_121 (by decide) ?_
          refine va_put (D := G) (ci := 10) (v := .int (0 : Int32)) (ty := .int) (C := RX10) (T := TX10) (N := 40) hx hb htc iX10 tyX10 tyX10_ok nmX10 hown hK hw91.1 hw91.2.1 hw91.2.2 0 rfl rfl 24 (by decide) (htc _ mw_971) (fun _ h9 => h9) rfl (tyX10_ok 24 (by decide)) rfl rfl (Nat.le_of_ble_eq_true rfl) dX10_flush_122 (fun H97 locs97 hP hD hS => ?_)
          have hw97 : wS G A s H97 locs97 [oX10 aM (0 : Int32) M_series M_most M_ratio aMdisk M_writes_79 M_fuse_80 M_down_81 M_recovers M_looks M_unpacked aMits aMmany aMplace aMlength aMtimes aMvalues aMorder M_chunks_82 M_epoch_83 M_side_84 aMheadOf aMheadTime aMheadValue (0 : Int32) aMnext aMisNew M_nexts_25 aMcursorTime aMcursorValue M_hasCursor_3 M_cursorMany_4 M_cursorAt_5 aMmade M_bits_85 M_from M_askMany M_askLeast M_askGreatest M_askSum, rI aMdisk cI 4096 M_disk_86, rI aMits cI 240 M_its_26, rI aMmany cI 240 M_many_27, rI aMplace cI 240 M_place_87, rI aMlength cI 240 M_length_88, rI aMtimes cI 15360 M_times_28, rI aMvalues cI 15360 M_values_29, rI aMorder cI 96 M_order_89, rI aMheadOf cI 128 M_headOf, rI aMheadTime cI 128 M_headTime, rI aMheadValue cI 128 M_headValue, rI aMnext cI 240 M_next_30, rI aMisNew cZ 240 M_isNew_31, rI aMmade cI 200 M_made_90] := ⟨hP, hD, hS⟩
          clear hP hD hS hw91 H91 locs91
          cases hJ_94
          exact kj_95 _ _ _ hw97 (lv_sub hl92 [1, 0] rfl)
      have lp_23 : ∀ (n : Nat) (v1_13 : Int32) (M_nexts_14 : Int32) (M_its_15 : Nat → Int32) (M_many_16 : Nat → Int32) (M_times_17 : Nat → Int32) (M_values_18 : Nat → Int32) (M_next_19 : Nat → Int32) (M_isNew_20 : Nat → Int32), lp_X10_flush_34 M_series M_most M_chunks M_logged M_order M_headOf M_headTime M_headValue n v1_13 M_nexts_14 M_its_15 M_many_16 M_times_17 M_values_18 M_next_19 M_isNew_20 = some (M_nexts_25, M_its_26, M_many_27, M_times_28, M_values_29, M_next_30, M_isNew_31) → ∀ (H : Heap) (locs : List Loc) (ls : Array Slot), wS G A s H locs [oX10 aM (0 : Int32) M_series M_most M_ratio aMdisk M_writes M_fuse M_down M_recovers M_looks M_unpacked aMits aMmany aMplace aMlength aMtimes aMvalues aMorder M_chunks M_epoch M_side aMheadOf aMheadTime aMheadValue M_logged aMnext aMisNew M_nexts_14 aMcursorTime aMcursorValue M_hasCursor_3 M_cursorMany_4 M_cursorAt_5 aMmade M_bits M_from M_askMany M_askLeast M_askGreatest M_askSum, rI aMdisk cI 4096 M_disk, rI aMits cI 240 M_its_15, rI aMmany cI 240 M_many_16, rI aMplace cI 240 M_place, rI aMlength cI 240 M_length, rI aMtimes cI 15360 M_times_17, rI aMvalues cI 15360 M_values_18, rI aMorder cI 96 M_order, rI aMheadOf cI 128 M_headOf, rI aMheadTime cI 128 M_headTime, rI aMheadValue cI 128 M_headValue, rI aMnext cI 240 M_next_19, rI aMisNew cZ 240 M_isNew_20, rI aMmade cI 200 M_made] → lv_has ls 3 [(0, .ref aM), (1, .int v1_13)] → W p l e rm_X10_flush s m args below meth c H locs 0 0 QQ (F0 m 34 ls []) := by
        clear hw11 H11 locs11 hl12 ls12 hfin
        intro n
        induction n with
        | zero =>
          intro v1_13 M_nexts_14 M_its_15 M_many_16 M_times_17 M_values_18 M_next_19 M_isNew_20 hB_24
          exact absurd hB_24 (by rw [lp_X10_flush_34]; exact fun h9 => nomatch h9)
        | succ n ih =>
          intro v1_13 M_nexts_14 M_its_15 M_many_16 M_times_17 M_values_18 M_next_19 M_isNew_20 hB_24 H32 locs32 ls32 hw32 hl32
          rw [lp_X10_flush_34] at hB_24
          refine lv_iload_n hx hb dX10_flush_34 rfl (lv_at hl32 1 rfl) ?_
          refine lv_aload_n hx hb dX10_flush_35 rfl (lv_at hl32 0 rfl) ?_
          refine va_get (D := G) (ci := 10) (v := .int M_series) (C := RX10) (T := TX10) (N := 40) hx hb htc iX10 hown hK hw32.1 0 rfl rfl 1 (by decide) (htc _ mw_948) (fun _ h9 => h9) rfl dX10_flush_36 ?_
          refine lv_icmp_ge (tgt := 95) hx hb dX10_flush_39 (by decide) (fun c_33 => ?_) (fun c_33 => ?_)
          · replace hB_24 := it_t c_33 hB_24
            cases hB_24
            exact kx_22 _ _ _ hw32 (lv_sub hl32 [0] rfl)
          · replace hB_24 := it_f c_33 hB_24
            refine lv_iconst (v := (0 : Int32)) hx hb dX10_flush_42 (by decide) ?_
            refine lv_istore_n (lv' := [(2, .int (0 : Int32)), (0, .ref aM), (1, .int v1_13)]) hx hb dX10_flush_43 rfl hl32 (by decide) rfl (fun ls34 hl34 => ?_)
            clear hl32 ls32
            replace hB_24 := ob3_some hB_24
            obtain ⟨M_nexts_43, M_next_44, M_isNew_45, hL_39, hB_24⟩ := hB_24
            have kx_40 : ∀ (H : Heap) (locs : List Loc) (ls : Array Slot), wS G A s H locs [oX10 aM (0 : Int32) M_series M_most M_ratio aMdisk M_writes M_fuse M_down M_recovers M_looks M_unpacked aMits aMmany aMplace aMlength aMtimes aMvalues aMorder M_chunks M_epoch M_side aMheadOf aMheadTime aMheadValue M_logged aMnext aMisNew M_nexts_43 aMcursorTime aMcursorValue M_hasCursor_3 M_cursorMany_4 M_cursorAt_5 aMmade M_bits M_from M_askMany M_askLeast M_askGreatest M_askSum, rI aMdisk cI 4096 M_disk, rI aMits cI 240 M_its_15, rI aMmany cI 240 M_many_16, rI aMplace cI 240 M_place, rI aMlength cI 240 M_length, rI aMtimes cI 15360 M_times_17, rI aMvalues cI 15360 M_values_18, rI aMorder cI 96 M_order, rI aMheadOf cI 128 M_headOf, rI aMheadTime cI 128 M_headTime, rI aMheadValue cI 128 M_headValue, rI aMnext cI 240 M_next_44, rI aMisNew cZ 240 M_isNew_45, rI aMmade cI 200 M_made] → lv_has ls 3 [(0, .ref aM), (1, .int v1_13)] → W p l e rm_X10_flush s m args below meth c H locs 0 0 QQ (F0 m 84 ls []) := by
              clear hw32 H32 locs32 hl34 ls34 hL_39
              intro H64 locs64 ls64 hw64 hl64
              refine lv_aload_n hx hb dX10_flush_84 rfl (lv_at hl64 0 rfl) ?_
              refine lv_iload_n hx hb dX10_flush_85 rfl (lv_at hl64 1 rfl) ?_
              replace hB_24 := ob7_some hB_24
              obtain ⟨M_nexts_66, M_its_67, M_many_68, M_times_69, M_values_70, M_next_71, M_isNew_72, hE_65, hB_24⟩ := hB_24
              refine ctV (a := aM) (As := [.int v1_13]) (rest := []) (st1 := []) (wc := [oX10 aM (0 : Int32) M_series M_most M_ratio aMdisk M_writes M_fuse M_down M_recovers M_looks M_unpacked aMits aMmany aMplace aMlength aMtimes aMvalues aMorder M_chunks M_epoch M_side aMheadOf aMheadTime aMheadValue M_logged aMnext aMisNew M_nexts_43 aMcursorTime aMcursorValue M_hasCursor_3 M_cursorMany_4 M_cursorAt_5 aMmade M_bits M_from M_askMany M_askLeast M_askGreatest M_askSum, rI aMits cI 240 M_its_15, rI aMmany cI 240 M_many_16, rI aMtimes cI 15360 M_times_17, rI aMvalues cI 15360 M_values_18, rI aMorder cI 96 M_order, rI aMheadOf cI 128 M_headOf, rI aMheadTime cI 128 M_headTime, rI aMheadValue cI 128 M_headValue, rI aMnext cI 240 M_next_44, rI aMisNew cZ 240 M_isNew_45]) (w1 := [oX10 aM (0 : Int32) M_series M_most M_ratio aMdisk M_writes M_fuse M_down M_recovers M_looks M_unpacked aMits aMmany aMplace aMlength aMtimes aMvalues aMorder M_chunks M_epoch M_side aMheadOf aMheadTime aMheadValue M_logged aMnext aMisNew M_nexts_66 aMcursorTime aMcursorValue M_hasCursor_3 M_cursorMany_4 M_cursorAt_5 aMmade M_bits M_from M_askMany M_askLeast M_askGreatest M_askSum, rI aMits cI 240 M_its_67, rI aMmany cI 240 M_many_68, rI aMtimes cI 15360 M_times_69, rI aMvalues cI 15360 M_values_70, rI aMorder cI 96 M_order, rI aMheadOf cI 128 M_headOf, rI aMheadTime cI 128 M_headTime, rI aMheadValue cI 128 M_headValue, rI aMnext cI 240 M_next_71, rI aMisNew cZ 240 M_isNew_72]) (wr := [rI aMdisk cI 4096 M_disk, rI aMplace cI 240 M_place, rI aMlength cI 240 M_length, rI aMmade cI 200 M_made]) (wb := [oX10 aM (0 : Int32) M_series M_most M_ratio aMdisk M_writes M_fuse M_down M_recovers M_looks M_unpacked aMits aMmany aMplace aMlength aMtimes aMvalues aMorder M_chunks M_epoch M_side aMheadOf aMheadTime aMheadValue M_logged aMnext aMisNew M_nexts_66 aMcursorTime aMcursorValue M_hasCursor_3 M_cursorMany_4 M_cursorAt_5 aMmade M_bits M_from M_askMany M_askLeast M_askGreatest M_askSum, rI aMdisk cI 4096 M_disk, rI aMits cI 240 M_its_67, rI aMmany cI 240 M_many_68, rI aMplace cI 240 M_place, rI aMlength cI 240 M_length, rI aMtimes cI 15360 M_times_69, rI aMvalues cI 15360 M_values_70, rI aMorder cI 96 M_order, rI aMheadOf cI 128 M_headOf, rI aMheadTime cI 128 M_headTime, rI aMheadValue cI 128 M_headValue, rI aMnext cI 240 M_next_71, rI aMisNew cZ 240 M_isNew_72, rI aMmade cI 200 M_made]) (v := none) hx hb hml hown htc hN (c_X10_headsOf l G cI cZ cJ aM aMdisk aMits aMmany aMplace aMlength aMtimes aMvalues aMorder aMheadOf aMheadTime aMheadValue aMnext aMisNew aMcursorTime aMcursorValue aMmade (0 : Int32) M_series M_most M_ratio M_writes M_fuse M_down M_recovers M_looks M_unpacked M_chunks M_epoch M_side M_logged M_nexts_43 M_hasCursor_3 M_cursorMany_4 M_cursorAt_5 M_bits M_from M_askMany M_askLeast M_askGreatest M_askSum M_its_15 M_many_16 M_times_17 M_values_18 M_order M_headOf M_headTime M_headValue M_next_44 M_isNew_45 v1_13 hE_65) mw_1104 mw_1106 mp_40 mw_12 mw_1107 hd_X10_headsOf ⟨rfl, rfl⟩ ⟨Nat.le_of_ble_eq_true rfl, Nat.le_of_ble_eq_true rfl⟩ hK hw64 hA [0, 2, 3, 6, 7, 8, 9, 10, 11, 12, 13] [1, 4, 5, 14] [4, 0, 5, 6, 1, 2, 7, 8, 9, 10, 11, 12, 13, 14, 3] rfl rfl rfl rfl rfl (by decide) rfl rfl rfl 0 rfl rfl rfl rfl hl64.1 rfl rfl (Nat.le_of_ble_eq_true rfl) dX10_flush_86 ⟨Nat.zero_le _, Nat.zero_le _⟩ (fun H73 locs73 hw73 => ?_)
              clear hw64 H64 locs64
              refine lv_iinc (v := (v1_13 + (1 : Int32))) (lv' := [(1, .int (v1_13 + (1 : Int32))), (0, .ref aM)]) hx hb dX10_flush_89 hl64 (k := 1) rfl rfl (by decide) rfl (fun ls74 hl74 => ?_)
              clear hl64 ls64
              refine lv_goto (tgt := 34) hx hb dX10_flush_92 (by decide) ?_
              exact ih (v1_13 + (1 : Int32)) M_nexts_66 M_its_67 M_many_68 M_times_69 M_values_70 M_next_71 M_isNew_72 hB_24 _ _ _ hw73 (lv_sub hl74 [1, 0] rfl)
            have lp_41 : ∀ (n : Nat) (v2_35 : Int32) (M_nexts_36 : Int32) (M_next_37 : Nat → Int32) (M_isNew_38 : Nat → Int32), lp_X10_flush_44 M_chunks M_order v1_13 M_its_15 n v2_35 M_nexts_36 M_next_37 M_isNew_38 = some (M_nexts_43, M_next_44, M_isNew_45) → ∀ (H : Heap) (locs : List Loc) (ls : Array Slot), wS G A s H locs [oX10 aM (0 : Int32) M_series M_most M_ratio aMdisk M_writes M_fuse M_down M_recovers M_looks M_unpacked aMits aMmany aMplace aMlength aMtimes aMvalues aMorder M_chunks M_epoch M_side aMheadOf aMheadTime aMheadValue M_logged aMnext aMisNew M_nexts_36 aMcursorTime aMcursorValue M_hasCursor_3 M_cursorMany_4 M_cursorAt_5 aMmade M_bits M_from M_askMany M_askLeast M_askGreatest M_askSum, rI aMdisk cI 4096 M_disk, rI aMits cI 240 M_its_15, rI aMmany cI 240 M_many_16, rI aMplace cI 240 M_place, rI aMlength cI 240 M_length, rI aMtimes cI 15360 M_times_17, rI aMvalues cI 15360 M_values_18, rI aMorder cI 96 M_order, rI aMheadOf cI 128 M_headOf, rI aMheadTime cI 128 M_headTime, rI aMheadValue cI 128 M_headValue, rI aMnext cI 240 M_next_37, rI aMisNew cZ 240 M_isNew_38, rI aMmade cI 200 M_made] → lv_has ls 3 [(0, .ref aM), (1, .int v1_13), (2, .int v2_35)] → W p l e rm_X10_flush s m args below meth c H locs 0 0 QQ (F0 m 44 ls []) := by
              clear hw32 H32 locs32 hl34 ls34 hB_24
              intro n
              induction n with
              | zero =>
                intro v2_35 M_nexts_36 M_next_37 M_isNew_38 hB_42
                exact absurd hB_42 (by rw [lp_X10_flush_44]; exact fun h9 => nomatch h9)
              | succ n ih =>
                intro v2_35 M_nexts_36 M_next_37 M_isNew_38 hB_42 H46 locs46 ls46 hw46 hl46
                rw [lp_X10_flush_44] at hB_42
                refine lv_iload_n hx hb dX10_flush_44 rfl (lv_at hl46 2 rfl) ?_
                refine lv_aload_n hx hb dX10_flush_45 rfl (lv_at hl46 0 rfl) ?_
                refine va_get (D := G) (ci := 10) (v := .int M_chunks) (C := RX10) (T := TX10) (N := 40) hx hb htc iX10 hown hK hw46.1 0 rfl rfl 18 (by decide) (htc _ mw_965) (fun _ h9 => h9) rfl dX10_flush_46 ?_
                refine lv_icmp_ge (tgt := 84) hx hb dX10_flush_49 (by decide) (fun c_47 => ?_) (fun c_47 => ?_)
                · replace hB_42 := it_t c_47 hB_42
                  cases hB_42
                  exact kx_40 _ _ _ hw46 (lv_sub hl46 [0, 1] rfl)
                · replace hB_42 := it_f c_47 hB_42
                  refine lv_aload_n hx hb dX10_flush_52 rfl (lv_at hl46 0 rfl) ?_
                  refine va_get (D := G) (ci := 10) (v := .ref aMits) (C := RX10) (T := TX10) (N := 40) hx hb htc iX10 hown hK hw46.1 0 rfl rfl 11 (by decide) (htc _ mw_958) (fun _ h9 => h9) rfl dX10_flush_53 ?_
                  refine lv_aload_n hx hb dX10_flush_56 rfl (lv_at hl46 0 rfl) ?_
                  refine va_get (D := G) (ci := 10) (v := .ref aMorder) (C := RX10) (T := TX10) (N := 40) hx hb htc iX10 hown hK hw46.1 0 rfl rfl 17 (by decide) (htc _ mw_964) (fun _ h9 => h9) rfl dX10_flush_57 ?_
                  refine lv_iload_n hx hb dX10_flush_60 rfl (lv_at hl46 2 rfl) ?_
                  replace hB_42 := ckb_some hB_42
                  obtain ⟨hin_48, hB_42⟩ := hB_42
                  refine va_iald hx hb hK hw46.1 8 0 rfl rfl hin_48 dX10_flush_61 ?_
                  replace hB_42 := ckb_some hB_42
                  obtain ⟨hin_49, hB_42⟩ := hB_42
                  refine va_iald hx hb hK hw46.1 2 0 rfl rfl hin_49 dX10_flush_62 ?_
                  refine lv_iload_n hx hb dX10_flush_63 rfl (lv_at hl46 1 rfl) ?_
                  replace hB_42 := ob3_some hB_42
                  obtain ⟨M_nexts_50, M_next_51, M_isNew_52, hJ_53, hB_42⟩ := hB_42
                  have kj_54 : ∀ (H : Heap) (locs : List Loc) (ls : Array Slot), wS G A s H locs [oX10 aM (0 : Int32) M_series M_most M_ratio aMdisk M_writes M_fuse M_down M_recovers M_looks M_unpacked aMits aMmany aMplace aMlength aMtimes aMvalues aMorder M_chunks M_epoch M_side aMheadOf aMheadTime aMheadValue M_logged aMnext aMisNew M_nexts_50 aMcursorTime aMcursorValue M_hasCursor_3 M_cursorMany_4 M_cursorAt_5 aMmade M_bits M_from M_askMany M_askLeast M_askGreatest M_askSum, rI aMdisk cI 4096 M_disk, rI aMits cI 240 M_its_15, rI aMmany cI 240 M_many_16, rI aMplace cI 240 M_place, rI aMlength cI 240 M_length, rI aMtimes cI 15360 M_times_17, rI aMvalues cI 15360 M_values_18, rI aMorder cI 96 M_order, rI aMheadOf cI 128 M_headOf, rI aMheadTime cI 128 M_headTime, rI aMheadValue cI 128 M_headValue, rI aMnext cI 240 M_next_51, rI aMisNew cZ 240 M_isNew_52, rI aMmade cI 200 M_made] → lv_has ls 3 [(0, .ref aM), (1, .int v1_13), (2, .int v2_35)] → W p l e rm_X10_flush s m args below meth c H locs 0 0 QQ (F0 m 78 ls []) := by
                    clear hw46 H46 locs46 hl46 ls46 hJ_53
                    intro H62 locs62 ls62 hw62 hl62
                    refine lv_iinc (v := (v2_35 + (1 : Int32))) (lv' := [(2, .int (v2_35 + (1 : Int32))), (0, .ref aM), (1, .int v1_13)]) hx hb dX10_flush_78 hl62 (k := 2) rfl rfl (by decide) rfl (fun ls63 hl63 => ?_)
                    clear hl62 ls62
                    refine lv_goto (tgt := 44) hx hb dX10_flush_81 (by decide) ?_
                    exact ih (v2_35 + (1 : Int32)) M_nexts_50 M_next_51 M_isNew_52 hB_42 _ _ _ hw62 (lv_sub hl63 [1, 2, 0] rfl)
                  clear hB_42
                  refine lv_icmp_ne (tgt := 78) hx hb dX10_flush_64 (by decide) (fun c_55 => ?_) (fun c_55 => ?_)
                  · replace hJ_53 := it_f c_55 hJ_53
                    cases hJ_53
                    exact kj_54 _ _ _ hw46 (lv_sub hl46 [0, 1, 2] rfl)
                  · replace hJ_53 := it_t c_55 hJ_53
                    refine lv_aload_n hx hb dX10_flush_67 rfl (lv_at hl46 0 rfl) ?_
                    refine lv_aload_n hx hb dX10_flush_68 rfl (lv_at hl46 0 rfl) ?_
                    refine va_get (D := G) (ci := 10) (v := .ref aMorder) (C := RX10) (T := TX10) (N := 40) hx hb htc iX10 hown hK hw46.1 0 rfl rfl 17 (by decide) (htc _ mw_964) (fun _ h9 => h9) rfl dX10_flush_69 ?_
                    refine lv_iload_n hx hb dX10_flush_72 rfl (lv_at hl46 2 rfl) ?_
                    replace hJ_53 := ckb_some hJ_53
                    obtain ⟨hin_56, hJ_53⟩ := hJ_53
                    refine va_iald hx hb hK hw46.1 8 0 rfl rfl hin_56 dX10_flush_73 ?_
                    refine lv_iconst (v := (0 : Int32)) hx hb dX10_flush_74 (by decide) ?_
                    replace hJ_53 := ob3_some hJ_53
                    obtain ⟨M_nexts_58, M_next_59, M_isNew_60, hE_57, hJ_53⟩ := hJ_53
                    refine ctV (a := aM) (As := [.int (M_order (Int32.toNatClampNeg v2_35)), .int (0 : Int32)]) (rest := []) (st1 := []) (wc := [oX10 aM (0 : Int32) M_series M_most M_ratio aMdisk M_writes M_fuse M_down M_recovers M_looks M_unpacked aMits aMmany aMplace aMlength aMtimes aMvalues aMorder M_chunks M_epoch M_side aMheadOf aMheadTime aMheadValue M_logged aMnext aMisNew M_nexts_36 aMcursorTime aMcursorValue M_hasCursor_3 M_cursorMany_4 M_cursorAt_5 aMmade M_bits M_from M_askMany M_askLeast M_askGreatest M_askSum, rI aMnext cI 240 M_next_37, rI aMisNew cZ 240 M_isNew_38]) (w1 := [oX10 aM (0 : Int32) M_series M_most M_ratio aMdisk M_writes M_fuse M_down M_recovers M_looks M_unpacked aMits aMmany aMplace aMlength aMtimes aMvalues aMorder M_chunks M_epoch M_side aMheadOf aMheadTime aMheadValue M_logged aMnext aMisNew M_nexts_58 aMcursorTime aMcursorValue M_hasCursor_3 M_cursorMany_4 M_cursorAt_5 aMmade M_bits M_from M_askMany M_askLeast M_askGreatest M_askSum, rI aMnext cI 240 M_next_59, rI aMisNew cZ 240 M_isNew_60]) (wr := [rI aMdisk cI 4096 M_disk, rI aMits cI 240 M_its_15, rI aMmany cI 240 M_many_16, rI aMplace cI 240 M_place, rI aMlength cI 240 M_length, rI aMtimes cI 15360 M_times_17, rI aMvalues cI 15360 M_values_18, rI aMorder cI 96 M_order, rI aMheadOf cI 128 M_headOf, rI aMheadTime cI 128 M_headTime, rI aMheadValue cI 128 M_headValue, rI aMmade cI 200 M_made]) (wb := [oX10 aM (0 : Int32) M_series M_most M_ratio aMdisk M_writes M_fuse M_down M_recovers M_looks M_unpacked aMits aMmany aMplace aMlength aMtimes aMvalues aMorder M_chunks M_epoch M_side aMheadOf aMheadTime aMheadValue M_logged aMnext aMisNew M_nexts_58 aMcursorTime aMcursorValue M_hasCursor_3 M_cursorMany_4 M_cursorAt_5 aMmade M_bits M_from M_askMany M_askLeast M_askGreatest M_askSum, rI aMdisk cI 4096 M_disk, rI aMits cI 240 M_its_15, rI aMmany cI 240 M_many_16, rI aMplace cI 240 M_place, rI aMlength cI 240 M_length, rI aMtimes cI 15360 M_times_17, rI aMvalues cI 15360 M_values_18, rI aMorder cI 96 M_order, rI aMheadOf cI 128 M_headOf, rI aMheadTime cI 128 M_headTime, rI aMheadValue cI 128 M_headValue, rI aMnext cI 240 M_next_59, rI aMisNew cZ 240 M_isNew_60, rI aMmade cI 200 M_made]) (v := none) hx hb hml hown htc hN (c_X10_comes l G cI cZ cJ aM aMdisk aMits aMmany aMplace aMlength aMtimes aMvalues aMorder aMheadOf aMheadTime aMheadValue aMnext aMisNew aMcursorTime aMcursorValue aMmade (0 : Int32) M_series M_most M_ratio M_writes M_fuse M_down M_recovers M_looks M_unpacked M_chunks M_epoch M_side M_logged M_nexts_36 M_hasCursor_3 M_cursorMany_4 M_cursorAt_5 M_bits M_from M_askMany M_askLeast M_askGreatest M_askSum M_next_37 M_isNew_38 (M_order (Int32.toNatClampNeg v2_35)) (0 : Int32) hE_57) mw_1100 mw_1102 mp_39 mw_12 mw_1103 hd_X10_comes ⟨rfl, rfl⟩ ⟨Nat.le_of_ble_eq_true rfl, Nat.le_of_ble_eq_true rfl⟩ hK hw46 hA [0, 12, 13] [1, 2, 3, 4, 5, 6, 7, 8, 9, 10, 11, 14] [12, 0, 1, 2, 3, 4, 5, 6, 7, 8, 9, 10, 13, 14, 11] rfl rfl rfl rfl rfl (by decide) rfl rfl rfl 0 rfl rfl rfl rfl hl46.1 rfl rfl (Nat.le_of_ble_eq_true rfl) dX10_flush_75 ⟨Nat.zero_le _, Nat.zero_le _⟩ (fun H61 locs61 hw61 => ?_)
                    clear hw46 H46 locs46
                    cases hJ_53
                    exact kj_54 _ _ _ hw61 (lv_sub hl46 [0, 1, 2] rfl)
            exact lp_41 NN (0 : Int32) M_nexts_14 M_next_19 M_isNew_20 hL_39 _ _ _ hw32 (lv_sub hl34 [1, 2, 0] rfl)
      exact lp_23 NN (0 : Int32) M_nexts_10 M_its M_many M_times M_values M_next M_isNew hL_21 _ _ _ hw11 (lv_sub hl12 [1, 0] rfl)
    · replace hfin := it_t c_8 hfin
      refine lv_iconst (v := (0 : Int32)) hx hb dX10_flush_26 (by decide) ?_
      cases hfin
      rw [hQQ]
      exact ct_iret hx hb hr hlocks hw6.1 hw6.2.1 hw6.2.2 dX10_flush_27
  · replace hfin := it_f c_7 hfin
    refine lv_bipush (v := (-9 : Int32)) hx hb dX10_flush_16 (by decide) ?_
    cases hfin
    rw [hQQ]
    exact ct_iret hx hb hr hlocks hw6.1 hw6.2.1 hw6.2.2 dX10_flush_18
abbrev rm_X10_together : Room := { frames := 0, cells := 0, slots := 0, locals := 0 }
theorem hd_X10_together : yX10_together.cls = RX10 ∧ yX10_together.cls ≠ "java/lang/invoke/MethodHandle" ∧ yX10_together.cls ≠ "java/lang/invoke/VarHandle" ∧ (parseMethodDescriptor yX10_together.desc).map (fun d => d.parameters.length) = some 1 := by decide +kernel
set_option maxHeartbeats 4000000 in
set_option maxRecDepth 100000 in
theorem c_X10_together (l : Launch) (G : va_G) (cI cZ cJ : ClassId) (aM aMdisk aMits aMmany aMplace aMlength aMtimes aMvalues aMorder aMheadOf aMheadTime aMheadValue aMnext aMisNew aMcursorTime aMcursorValue aMmade : Nat) (M_thrown : Int32) (M_series : Int32) (M_most : Int32) (M_ratio : Int32) (M_writes : Int32) (M_fuse : Int32) (M_down : Int32) (M_recovers : Int32) (M_looks : Int32) (M_unpacked : Int32) (M_chunks : Int32) (M_epoch : Int32) (M_side : Int32) (M_logged : Int32) (M_nexts : Int32) (M_hasCursor : Int32) (M_cursorMany : Int32) (M_cursorAt : Int32) (M_bits : Int32) (M_from : Int32) (M_askMany : Int32) (M_askLeast : Int32) (M_askGreatest : Int32) (M_askSum : Int64) (M_its : Nat → Int32) (M_many : Nat → Int32) (M_order : Nat → Int32) (p0 : Int32) {r : Int32} (hfin : m_X10_together M_most M_chunks M_its M_many M_order p0 = some (r)) : CT l yX10_together cX10_together 4 (some .int) rm_X10_together G (tyC cI cZ cJ) [.ref aM, .int p0] [oX10 aM M_thrown M_series M_most M_ratio aMdisk M_writes M_fuse M_down M_recovers M_looks M_unpacked aMits aMmany aMplace aMlength aMtimes aMvalues aMorder M_chunks M_epoch M_side aMheadOf aMheadTime aMheadValue M_logged aMnext aMisNew M_nexts aMcursorTime aMcursorValue M_hasCursor M_cursorMany M_cursorAt aMmade M_bits M_from M_askMany M_askLeast M_askGreatest M_askSum, rI aMits cI 240 M_its, rI aMmany cI 240 M_many, rI aMorder cI 96 M_order] (some (.int r)) [oX10 aM M_thrown M_series M_most M_ratio aMdisk M_writes M_fuse M_down M_recovers M_looks M_unpacked aMits aMmany aMplace aMlength aMtimes aMvalues aMorder M_chunks M_epoch M_side aMheadOf aMheadTime aMheadValue M_logged aMnext aMisNew M_nexts aMcursorTime aMcursorValue M_hasCursor M_cursorMany M_cursorAt aMmade M_bits M_from M_askMany M_askLeast M_askGreatest M_askSum, rI aMits cI 240 M_its, rI aMmany cI 240 M_many, rI aMorder cI 96 M_order] := by
  refine CT.ofW (lvl := [(0, .ref aM), (1, .int p0)]) (by decide) (Nat.le_of_ble_eq_true rfl) rfl ?_
  intro p e s m args below meth c A ls0 QQ hQQ hx hb hml hr hlocks htc hN hown hK hA hw0 hl0
  rw [m_X10_together] at hfin
  refine lv_iconst (v := (1 : Int32)) hx hb dX10_together_0 (by decide) ?_
  refine lv_istore_n (lv' := [(2, .int (1 : Int32)), (0, .ref aM), (1, .int p0)]) hx hb dX10_together_1 rfl hl0 (by decide) rfl (fun ls1 hl1 => ?_)
  clear hl0 ls0
  refine lv_aload_n hx hb dX10_together_2 rfl (lv_at hl1 1 rfl) ?_
  refine va_get (D := G) (ci := 10) (v := .ref aMmany) (C := RX10) (T := TX10) (N := 40) hx hb htc iX10 hown hK hw0.1 0 rfl rfl 12 (by decide) (htc _ mw_959) (fun _ h9 => h9) rfl dX10_together_3 ?_
  refine lv_aload_n hx hb dX10_together_6 rfl (lv_at hl1 1 rfl) ?_
  refine va_get (D := G) (ci := 10) (v := .ref aMorder) (C := RX10) (T := TX10) (N := 40) hx hb htc iX10 hown hK hw0.1 0 rfl rfl 17 (by decide) (htc _ mw_964) (fun _ h9 => h9) rfl dX10_together_7 ?_
  refine lv_iload_n hx hb dX10_together_10 rfl (lv_at hl1 2 rfl) ?_
  replace hfin := ckb_some hfin
  obtain ⟨hin_2, hfin⟩ := hfin
  refine va_iald hx hb hK hw0.1 3 0 rfl rfl hin_2 dX10_together_11 ?_
  replace hfin := ckb_some hfin
  obtain ⟨hin_3, hfin⟩ := hfin
  refine va_iald hx hb hK hw0.1 2 0 rfl rfl hin_3 dX10_together_12 ?_
  refine lv_istore_n (lv' := [(3, .int (M_many (Int32.toNatClampNeg (M_order (Int32.toNatClampNeg p0))))), (2, .int (1 : Int32)), (0, .ref aM), (1, .int p0)]) hx hb dX10_together_13 rfl hl1 (by decide) rfl (fun ls4 hl4 => ?_)
  clear hl1 ls1
  replace hfin := ob1_some hfin
  obtain ⟨v2_11, hL_7, hfin⟩ := hfin
  have kx_8 : ∀ (H : Heap) (locs : List Loc) (ls : Array Slot), wS G A s H locs [oX10 aM M_thrown M_series M_most M_ratio aMdisk M_writes M_fuse M_down M_recovers M_looks M_unpacked aMits aMmany aMplace aMlength aMtimes aMvalues aMorder M_chunks M_epoch M_side aMheadOf aMheadTime aMheadValue M_logged aMnext aMisNew M_nexts aMcursorTime aMcursorValue M_hasCursor M_cursorMany M_cursorAt aMmade M_bits M_from M_askMany M_askLeast M_askGreatest M_askSum, rI aMits cI 240 M_its, rI aMmany cI 240 M_many, rI aMorder cI 96 M_order] → lv_has ls 4 [(2, .int v2_11)] → W p l e rm_X10_together s m args below meth c H locs 0 0 QQ (F0 m 95 ls []) := by
    clear hw0 hl4 ls4 hL_7
    intro H26 locs26 ls26 hw26 hl26
    refine lv_iload_n hx hb dX10_together_95 rfl (lv_at hl26 0 rfl) ?_
    cases hfin
    rw [hQQ]
    exact ct_iret hx hb hr hlocks hw26.1 hw26.2.1 hw26.2.2 dX10_together_96
  have lp_9 : ∀ (n : Nat) (v2_5 : Int32) (v3_6 : Int32), lp_X10_together_14 M_most M_chunks M_its M_many M_order p0 n v2_5 v3_6 = some (v2_11) → ∀ (H : Heap) (locs : List Loc) (ls : Array Slot), wS G A s H locs [oX10 aM M_thrown M_series M_most M_ratio aMdisk M_writes M_fuse M_down M_recovers M_looks M_unpacked aMits aMmany aMplace aMlength aMtimes aMvalues aMorder M_chunks M_epoch M_side aMheadOf aMheadTime aMheadValue M_logged aMnext aMisNew M_nexts aMcursorTime aMcursorValue M_hasCursor M_cursorMany M_cursorAt aMmade M_bits M_from M_askMany M_askLeast M_askGreatest M_askSum, rI aMits cI 240 M_its, rI aMmany cI 240 M_many, rI aMorder cI 96 M_order] → lv_has ls 4 [(0, .ref aM), (1, .int p0), (2, .int v2_5), (3, .int v3_6)] → W p l e rm_X10_together s m args below meth c H locs 0 0 QQ (F0 m 14 ls []) := by
    clear hw0 hl4 ls4 hfin
    intro n
    induction n with
    | zero =>
      intro v2_5 v3_6 hB_10
      exact absurd hB_10 (by rw [lp_X10_together_14]; exact fun h9 => nomatch h9)
    | succ n ih =>
      intro v2_5 v3_6 hB_10 H12 locs12 ls12 hw12 hl12
      rw [lp_X10_together_14] at hB_10
      refine lv_iload_n hx hb dX10_together_14 rfl (lv_at hl12 1 rfl) ?_
      refine lv_iload_n hx hb dX10_together_15 rfl (lv_at hl12 2 rfl) ?_
      refine lv_iadd hx hb dX10_together_16 ?_
      refine lv_aload_n hx hb dX10_together_17 rfl (lv_at hl12 0 rfl) ?_
      refine va_get (D := G) (ci := 10) (v := .int M_chunks) (C := RX10) (T := TX10) (N := 40) hx hb htc iX10 hown hK hw12.1 0 rfl rfl 18 (by decide) (htc _ mw_965) (fun _ h9 => h9) rfl dX10_together_18 ?_
      refine lv_icmp_ge (tgt := 95) hx hb dX10_together_21 (by decide) (fun c_13 => ?_) (fun c_13 => ?_)
      · replace hB_10 := it_t c_13 hB_10
        cases hB_10
        exact kx_8 _ _ _ hw12 (lv_sub hl12 [2] rfl)
      · replace hB_10 := it_f c_13 hB_10
        refine lv_aload_n hx hb dX10_together_24 rfl (lv_at hl12 0 rfl) ?_
        refine va_get (D := G) (ci := 10) (v := .ref aMits) (C := RX10) (T := TX10) (N := 40) hx hb htc iX10 hown hK hw12.1 0 rfl rfl 11 (by decide) (htc _ mw_958) (fun _ h9 => h9) rfl dX10_together_25 ?_
        refine lv_aload_n hx hb dX10_together_28 rfl (lv_at hl12 0 rfl) ?_
        refine va_get (D := G) (ci := 10) (v := .ref aMorder) (C := RX10) (T := TX10) (N := 40) hx hb htc iX10 hown hK hw12.1 0 rfl rfl 17 (by decide) (htc _ mw_964) (fun _ h9 => h9) rfl dX10_together_29 ?_
        refine lv_iload_n hx hb dX10_together_32 rfl (lv_at hl12 1 rfl) ?_
        refine lv_iload_n hx hb dX10_together_33 rfl (lv_at hl12 2 rfl) ?_
        refine lv_iadd hx hb dX10_together_34 ?_
        replace hB_10 := ckb_some hB_10
        obtain ⟨hin_14, hB_10⟩ := hB_10
        refine va_iald hx hb hK hw12.1 3 0 rfl rfl hin_14 dX10_together_35 ?_
        replace hB_10 := ckb_some hB_10
        obtain ⟨hin_15, hB_10⟩ := hB_10
        refine va_iald hx hb hK hw12.1 1 0 rfl rfl hin_15 dX10_together_36 ?_
        refine lv_aload_n hx hb dX10_together_37 rfl (lv_at hl12 0 rfl) ?_
        refine va_get (D := G) (ci := 10) (v := .ref aMits) (C := RX10) (T := TX10) (N := 40) hx hb htc iX10 hown hK hw12.1 0 rfl rfl 11 (by decide) (htc _ mw_958) (fun _ h9 => h9) rfl dX10_together_38 ?_
        refine lv_aload_n hx hb dX10_together_41 rfl (lv_at hl12 0 rfl) ?_
        refine va_get (D := G) (ci := 10) (v := .ref aMorder) (C := RX10) (T := TX10) (N := 40) hx hb htc iX10 hown hK hw12.1 0 rfl rfl 17 (by decide) (htc _ mw_964) (fun _ h9 => h9) rfl dX10_together_42 ?_
        refine lv_iload_n hx hb dX10_together_45 rfl (lv_at hl12 1 rfl) ?_
        replace hB_10 := ckb_some hB_10
        obtain ⟨hin_16, hB_10⟩ := hB_10
        refine va_iald hx hb hK hw12.1 3 0 rfl rfl hin_16 dX10_together_46 ?_
        replace hB_10 := ckb_some hB_10
        obtain ⟨hin_17, hB_10⟩ := hB_10
        refine va_iald hx hb hK hw12.1 1 0 rfl rfl hin_17 dX10_together_47 ?_
        refine lv_icmp_ne (tgt := 95) hx hb dX10_together_48 (by decide) (fun c_18 => ?_) (fun c_18 => ?_)
        · replace hB_10 := it_f c_18 hB_10
          cases hB_10
          exact kx_8 _ _ _ hw12 (lv_sub hl12 [2] rfl)
        · replace hB_10 := it_t c_18 hB_10
          refine lv_iload_n hx hb dX10_together_51 rfl (lv_at hl12 3 rfl) ?_
          refine lv_aload_n hx hb dX10_together_52 rfl (lv_at hl12 0 rfl) ?_
          refine va_get (D := G) (ci := 10) (v := .ref aMmany) (C := RX10) (T := TX10) (N := 40) hx hb htc iX10 hown hK hw12.1 0 rfl rfl 12 (by decide) (htc _ mw_959) (fun _ h9 => h9) rfl dX10_together_53 ?_
          refine lv_aload_n hx hb dX10_together_56 rfl (lv_at hl12 0 rfl) ?_
          refine va_get (D := G) (ci := 10) (v := .ref aMorder) (C := RX10) (T := TX10) (N := 40) hx hb htc iX10 hown hK hw12.1 0 rfl rfl 17 (by decide) (htc _ mw_964) (fun _ h9 => h9) rfl dX10_together_57 ?_
          refine lv_iload_n hx hb dX10_together_60 rfl (lv_at hl12 1 rfl) ?_
          refine lv_iload_n hx hb dX10_together_61 rfl (lv_at hl12 2 rfl) ?_
          refine lv_iadd hx hb dX10_together_62 ?_
          replace hB_10 := ckb_some hB_10
          obtain ⟨hin_19, hB_10⟩ := hB_10
          refine va_iald hx hb hK hw12.1 3 0 rfl rfl hin_19 dX10_together_63 ?_
          replace hB_10 := ckb_some hB_10
          obtain ⟨hin_20, hB_10⟩ := hB_10
          refine va_iald hx hb hK hw12.1 2 0 rfl rfl hin_20 dX10_together_64 ?_
          refine lv_iadd hx hb dX10_together_65 ?_
          refine lv_aload_n hx hb dX10_together_66 rfl (lv_at hl12 0 rfl) ?_
          refine va_get (D := G) (ci := 10) (v := .int M_most) (C := RX10) (T := TX10) (N := 40) hx hb htc iX10 hown hK hw12.1 0 rfl rfl 2 (by decide) (htc _ mw_949) (fun _ h9 => h9) rfl dX10_together_67 ?_
          refine lv_icmp_gt (tgt := 95) hx hb dX10_together_70 (by decide) (fun c_21 => ?_) (fun c_21 => ?_)
          · replace hB_10 := it_t c_21 hB_10
            cases hB_10
            exact kx_8 _ _ _ hw12 (lv_sub hl12 [2] rfl)
          · replace hB_10 := it_f c_21 hB_10
            refine lv_iload_n hx hb dX10_together_73 rfl (lv_at hl12 3 rfl) ?_
            refine lv_aload_n hx hb dX10_together_74 rfl (lv_at hl12 0 rfl) ?_
            refine va_get (D := G) (ci := 10) (v := .ref aMmany) (C := RX10) (T := TX10) (N := 40) hx hb htc iX10 hown hK hw12.1 0 rfl rfl 12 (by decide) (htc _ mw_959) (fun _ h9 => h9) rfl dX10_together_75 ?_
            refine lv_aload_n hx hb dX10_together_78 rfl (lv_at hl12 0 rfl) ?_
            refine va_get (D := G) (ci := 10) (v := .ref aMorder) (C := RX10) (T := TX10) (N := 40) hx hb htc iX10 hown hK hw12.1 0 rfl rfl 17 (by decide) (htc _ mw_964) (fun _ h9 => h9) rfl dX10_together_79 ?_
            refine lv_iload_n hx hb dX10_together_82 rfl (lv_at hl12 1 rfl) ?_
            refine lv_iload_n hx hb dX10_together_83 rfl (lv_at hl12 2 rfl) ?_
            refine lv_iadd hx hb dX10_together_84 ?_
            replace hB_10 := ckb_some hB_10
            obtain ⟨hin_22, hB_10⟩ := hB_10
            refine va_iald hx hb hK hw12.1 3 0 rfl rfl hin_22 dX10_together_85 ?_
            replace hB_10 := ckb_some hB_10
            obtain ⟨hin_23, hB_10⟩ := hB_10
            refine va_iald hx hb hK hw12.1 2 0 rfl rfl hin_23 dX10_together_86 ?_
            refine lv_iadd hx hb dX10_together_87 ?_
            refine lv_istore_n (lv' := [(3, .int (v3_6 + (M_many (Int32.toNatClampNeg (M_order (Int32.toNatClampNeg (p0 + v2_5))))))), (0, .ref aM), (1, .int p0), (2, .int v2_5)]) hx hb dX10_together_88 rfl hl12 (by decide) rfl (fun ls24 hl24 => ?_)
            clear hl12 ls12
            refine lv_iinc (v := (v2_5 + (1 : Int32))) (lv' := [(2, .int (v2_5 + (1 : Int32))), (3, .int (v3_6 + (M_many (Int32.toNatClampNeg (M_order (Int32.toNatClampNeg (p0 + v2_5))))))), (0, .ref aM), (1, .int p0)]) hx hb dX10_together_89 hl24 (k := 3) rfl rfl (by decide) rfl (fun ls25 hl25 => ?_)
            clear hl24 ls24
            refine lv_goto (tgt := 14) hx hb dX10_together_92 (by decide) ?_
            exact ih (v2_5 + (1 : Int32)) (v3_6 + (M_many (Int32.toNatClampNeg (M_order (Int32.toNatClampNeg (p0 + v2_5)))))) hB_10 _ _ _ hw12 (lv_sub hl25 [2, 3, 0, 1] rfl)
  exact lp_9 NN (1 : Int32) (M_many (Int32.toNatClampNeg (M_order (Int32.toNatClampNeg p0)))) hL_7 _ _ _ hw0 (lv_sub hl4 [2, 3, 1, 0] rfl)
