theorem dX10_crashAfter_0 : decode cX10_crashAfter 0 = .ok (.aload_n 0, 1) := by decide +kernel
theorem dX10_crashAfter_1 : decode cX10_crashAfter 1 = .ok (.iconst 0, 1) := by decide +kernel
theorem dX10_crashAfter_2 : decode cX10_crashAfter 2 = .ok (.putfield 76, 3) := by decide +kernel
theorem dX10_crashAfter_5 : decode cX10_crashAfter 5 = .ok (.aload_n 0, 1) := by decide +kernel
theorem dX10_crashAfter_6 : decode cX10_crashAfter 6 = .ok (.getfield 79, 3) := by decide +kernel
theorem dX10_crashAfter_9 : decode cX10_crashAfter 9 = .ok (.ifCond .ne 14, 3) := by decide +kernel
theorem dX10_crashAfter_12 : decode cX10_crashAfter 12 = .ok (.iload_n 1, 1) := by decide +kernel
theorem dX10_crashAfter_13 : decode cX10_crashAfter 13 = .ok (.ifCond .lt 10, 3) := by decide +kernel
theorem dX10_crashAfter_16 : decode cX10_crashAfter 16 = .ok (.iload_n 1, 1) := by decide +kernel
theorem dX10_crashAfter_17 : decode cX10_crashAfter 17 = .ok (.ldc_w 303, 3) := by decide +kernel
theorem dX10_crashAfter_20 : decode cX10_crashAfter 20 = .ok (.if_icmp .le 5, 3) := by decide +kernel
theorem dX10_crashAfter_23 : decode cX10_crashAfter 23 = .ok (.iconst 0, 1) := by decide +kernel
theorem dX10_crashAfter_24 : decode cX10_crashAfter 24 = .ok (.ireturn, 1) := by decide +kernel
theorem dX10_crashAfter_25 : decode cX10_crashAfter 25 = .ok (.aload_n 0, 1) := by decide +kernel
theorem dX10_crashAfter_26 : decode cX10_crashAfter 26 = .ok (.iload_n 1, 1) := by decide +kernel
theorem dX10_crashAfter_27 : decode cX10_crashAfter 27 = .ok (.putfield 13, 3) := by decide +kernel
theorem dX10_crashAfter_30 : decode cX10_crashAfter 30 = .ok (.iconst 1, 1) := by decide +kernel
theorem dX10_crashAfter_31 : decode cX10_crashAfter 31 = .ok (.ireturn, 1) := by decide +kernel
theorem dX10_recover_0 : decode cX10_recover 0 = .ok (.aload_n 0, 1) := by decide +kernel
theorem dX10_recover_1 : decode cX10_recover 1 = .ok (.iconst 0, 1) := by decide +kernel
theorem dX10_recover_2 : decode cX10_recover 2 = .ok (.putfield 76, 3) := by decide +kernel
theorem dX10_recover_5 : decode cX10_recover 5 = .ok (.aload_n 0, 1) := by decide +kernel
theorem dX10_recover_6 : decode cX10_recover 6 = .ok (.invokevirtual 95, 3) := by decide +kernel
theorem dX10_recover_9 : decode cX10_recover 9 = .ok (.aload_n 0, 1) := by decide +kernel
theorem dX10_recover_10 : decode cX10_recover 10 = .ok (.dup, 1) := by decide +kernel
theorem dX10_recover_11 : decode cX10_recover 11 = .ok (.getfield 304, 3) := by decide +kernel
theorem dX10_recover_14 : decode cX10_recover 14 = .ok (.iconst 1, 1) := by decide +kernel
theorem dX10_recover_15 : decode cX10_recover 15 = .ok (.iadd, 1) := by decide +kernel
theorem dX10_recover_16 : decode cX10_recover 16 = .ok (.putfield 304, 3) := by decide +kernel
theorem dX10_recover_19 : decode cX10_recover 19 = .ok (.aload_n 0, 1) := by decide +kernel
theorem dX10_recover_20 : decode cX10_recover 20 = .ok (.iconst 0, 1) := by decide +kernel
theorem dX10_recover_21 : decode cX10_recover 21 = .ok (.putfield 79, 3) := by decide +kernel
theorem dX10_recover_24 : decode cX10_recover 24 = .ok (.aload_n 0, 1) := by decide +kernel
theorem dX10_recover_25 : decode cX10_recover 25 = .ok (.iconst (-1), 1) := by decide +kernel
theorem dX10_recover_26 : decode cX10_recover 26 = .ok (.putfield 13, 3) := by decide +kernel
theorem dX10_recover_29 : decode cX10_recover 29 = .ok (.aload_n 0, 1) := by decide +kernel
theorem dX10_recover_30 : decode cX10_recover 30 = .ok (.aload_n 0, 1) := by decide +kernel
theorem dX10_recover_31 : decode cX10_recover 31 = .ok (.getfield 7, 3) := by decide +kernel
theorem dX10_recover_34 : decode cX10_recover 34 = .ok (.iconst 0, 1) := by decide +kernel
theorem dX10_recover_35 : decode cX10_recover 35 = .ok (.iaload, 1) := by decide +kernel
theorem dX10_recover_36 : decode cX10_recover 36 = .ok (.iconst 1, 1) := by decide +kernel
theorem dX10_recover_37 : decode cX10_recover 37 = .ok (.iand, 1) := by decide +kernel
theorem dX10_recover_38 : decode cX10_recover 38 = .ok (.putfield 197, 3) := by decide +kernel
theorem dX10_recover_41 : decode cX10_recover 41 = .ok (.aload_n 0, 1) := by decide +kernel
theorem dX10_recover_42 : decode cX10_recover 42 = .ok (.aload_n 0, 1) := by decide +kernel
theorem dX10_recover_43 : decode cX10_recover 43 = .ok (.getfield 7, 3) := by decide +kernel
theorem dX10_recover_46 : decode cX10_recover 46 = .ok (.iconst 0, 1) := by decide +kernel
theorem dX10_recover_47 : decode cX10_recover 47 = .ok (.iaload, 1) := by decide +kernel
theorem dX10_recover_48 : decode cX10_recover 48 = .ok (.iconst 1, 1) := by decide +kernel
theorem dX10_recover_49 : decode cX10_recover 49 = .ok (.ishr, 1) := by decide +kernel
theorem dX10_recover_50 : decode cX10_recover 50 = .ok (.putfield 112, 3) := by decide +kernel
theorem dX10_recover_53 : decode cX10_recover 53 = .ok (.aload_n 0, 1) := by decide +kernel
theorem dX10_recover_54 : decode cX10_recover 54 = .ok (.aload_n 0, 1) := by decide +kernel
theorem dX10_recover_55 : decode cX10_recover 55 = .ok (.getfield 197, 3) := by decide +kernel
theorem dX10_recover_58 : decode cX10_recover 58 = .ok (.invokevirtual 200, 3) := by decide +kernel
theorem dX10_recover_61 : decode cX10_recover 61 = .ok (.istore_n 1, 1) := by decide +kernel
theorem dX10_recover_62 : decode cX10_recover 62 = .ok (.aload_n 0, 1) := by decide +kernel
theorem dX10_recover_63 : decode cX10_recover 63 = .ok (.aload_n 0, 1) := by decide +kernel
theorem dX10_recover_64 : decode cX10_recover 64 = .ok (.getfield 7, 3) := by decide +kernel
theorem dX10_recover_67 : decode cX10_recover 67 = .ok (.iload_n 1, 1) := by decide +kernel
theorem dX10_recover_68 : decode cX10_recover 68 = .ok (.iaload, 1) := by decide +kernel
theorem dX10_recover_69 : decode cX10_recover 69 = .ok (.putfield 115, 3) := by decide +kernel
theorem dX10_recover_72 : decode cX10_recover 72 = .ok (.iconst 0, 1) := by decide +kernel
theorem dX10_recover_73 : decode cX10_recover 73 = .ok (.istore_n 2, 1) := by decide +kernel
theorem dX10_recover_74 : decode cX10_recover 74 = .ok (.iconst 0, 1) := by decide +kernel
theorem dX10_recover_75 : decode cX10_recover 75 = .ok (.istore_n 3, 1) := by decide +kernel
theorem dX10_recover_76 : decode cX10_recover 76 = .ok (.iload_n 3, 1) := by decide +kernel
theorem dX10_recover_77 : decode cX10_recover 77 = .ok (.aload_n 0, 1) := by decide +kernel
theorem dX10_recover_78 : decode cX10_recover 78 = .ok (.getfield 115, 3) := by decide +kernel
theorem dX10_recover_81 : decode cX10_recover 81 = .ok (.if_icmp .ge 100, 3) := by decide +kernel
theorem dX10_recover_84 : decode cX10_recover 84 = .ok (.iload_n 1, 1) := by decide +kernel
theorem dX10_recover_85 : decode cX10_recover 85 = .ok (.iconst 1, 1) := by decide +kernel
theorem dX10_recover_86 : decode cX10_recover 86 = .ok (.iadd, 1) := by decide +kernel
theorem dX10_recover_87 : decode cX10_recover 87 = .ok (.bipush 10, 2) := by decide +kernel
theorem dX10_recover_89 : decode cX10_recover 89 = .ok (.iload_n 3, 1) := by decide +kernel
theorem dX10_recover_90 : decode cX10_recover 90 = .ok (.imul, 1) := by decide +kernel
theorem dX10_recover_91 : decode cX10_recover 91 = .ok (.iadd, 1) := by decide +kernel
theorem dX10_recover_92 : decode cX10_recover 92 = .ok (.istore 4, 2) := by decide +kernel
theorem dX10_recover_94 : decode cX10_recover 94 = .ok (.aload_n 0, 1) := by decide +kernel
theorem dX10_recover_95 : decode cX10_recover 95 = .ok (.getfield 35, 3) := by decide +kernel
theorem dX10_recover_98 : decode cX10_recover 98 = .ok (.iload_n 3, 1) := by decide +kernel
theorem dX10_recover_99 : decode cX10_recover 99 = .ok (.iload_n 3, 1) := by decide +kernel
theorem dX10_recover_100 : decode cX10_recover 100 = .ok (.iastore, 1) := by decide +kernel
theorem dX10_recover_101 : decode cX10_recover 101 = .ok (.aload_n 0, 1) := by decide +kernel
theorem dX10_recover_102 : decode cX10_recover 102 = .ok (.getfield 17, 3) := by decide +kernel
theorem dX10_recover_105 : decode cX10_recover 105 = .ok (.iload_n 3, 1) := by decide +kernel
theorem dX10_recover_106 : decode cX10_recover 106 = .ok (.aload_n 0, 1) := by decide +kernel
theorem dX10_recover_107 : decode cX10_recover 107 = .ok (.getfield 7, 3) := by decide +kernel
theorem dX10_recover_110 : decode cX10_recover 110 = .ok (.iload 4, 2) := by decide +kernel
theorem dX10_recover_112 : decode cX10_recover 112 = .ok (.iaload, 1) := by decide +kernel
theorem dX10_recover_113 : decode cX10_recover 113 = .ok (.iastore, 1) := by decide +kernel
theorem dX10_recover_114 : decode cX10_recover 114 = .ok (.aload_n 0, 1) := by decide +kernel
theorem dX10_recover_115 : decode cX10_recover 115 = .ok (.getfield 20, 3) := by decide +kernel
theorem dX10_recover_118 : decode cX10_recover 118 = .ok (.iload_n 3, 1) := by decide +kernel
theorem dX10_recover_119 : decode cX10_recover 119 = .ok (.aload_n 0, 1) := by decide +kernel
theorem dX10_recover_120 : decode cX10_recover 120 = .ok (.getfield 7, 3) := by decide +kernel
theorem dX10_recover_123 : decode cX10_recover 123 = .ok (.iload 4, 2) := by decide +kernel
theorem dX10_recover_125 : decode cX10_recover 125 = .ok (.iconst 3, 1) := by decide +kernel
theorem dX10_recover_126 : decode cX10_recover 126 = .ok (.iadd, 1) := by decide +kernel
theorem dX10_recover_127 : decode cX10_recover 127 = .ok (.iaload, 1) := by decide +kernel
theorem dX10_recover_128 : decode cX10_recover 128 = .ok (.iastore, 1) := by decide +kernel
theorem dX10_recover_129 : decode cX10_recover 129 = .ok (.aload_n 0, 1) := by decide +kernel
theorem dX10_recover_130 : decode cX10_recover 130 = .ok (.getfield 23, 3) := by decide +kernel
theorem dX10_recover_133 : decode cX10_recover 133 = .ok (.iload_n 3, 1) := by decide +kernel
theorem dX10_recover_134 : decode cX10_recover 134 = .ok (.aload_n 0, 1) := by decide +kernel
theorem dX10_recover_135 : decode cX10_recover 135 = .ok (.getfield 7, 3) := by decide +kernel
theorem dX10_recover_138 : decode cX10_recover 138 = .ok (.iload 4, 2) := by decide +kernel
theorem dX10_recover_140 : decode cX10_recover 140 = .ok (.bipush 8, 2) := by decide +kernel
theorem dX10_recover_142 : decode cX10_recover 142 = .ok (.iadd, 1) := by decide +kernel
theorem dX10_recover_143 : decode cX10_recover 143 = .ok (.iaload, 1) := by decide +kernel
theorem dX10_recover_144 : decode cX10_recover 144 = .ok (.iastore, 1) := by decide +kernel
theorem dX10_recover_145 : decode cX10_recover 145 = .ok (.aload_n 0, 1) := by decide +kernel
theorem dX10_recover_146 : decode cX10_recover 146 = .ok (.getfield 26, 3) := by decide +kernel
theorem dX10_recover_149 : decode cX10_recover 149 = .ok (.iload_n 3, 1) := by decide +kernel
theorem dX10_recover_150 : decode cX10_recover 150 = .ok (.aload_n 0, 1) := by decide +kernel
theorem dX10_recover_151 : decode cX10_recover 151 = .ok (.getfield 7, 3) := by decide +kernel
theorem dX10_recover_154 : decode cX10_recover 154 = .ok (.iload 4, 2) := by decide +kernel
theorem dX10_recover_156 : decode cX10_recover 156 = .ok (.bipush 9, 2) := by decide +kernel
theorem dX10_recover_158 : decode cX10_recover 158 = .ok (.iadd, 1) := by decide +kernel
theorem dX10_recover_159 : decode cX10_recover 159 = .ok (.iaload, 1) := by decide +kernel
theorem dX10_recover_160 : decode cX10_recover 160 = .ok (.iastore, 1) := by decide +kernel
theorem dX10_recover_161 : decode cX10_recover 161 = .ok (.aload_n 0, 1) := by decide +kernel
theorem dX10_recover_162 : decode cX10_recover 162 = .ok (.iload_n 3, 1) := by decide +kernel
theorem dX10_recover_163 : decode cX10_recover 163 = .ok (.invokevirtual 307, 3) := by decide +kernel
theorem dX10_recover_166 : decode cX10_recover 166 = .ok (.iload_n 2, 1) := by decide +kernel
theorem dX10_recover_167 : decode cX10_recover 167 = .ok (.aload_n 0, 1) := by decide +kernel
theorem dX10_recover_168 : decode cX10_recover 168 = .ok (.getfield 20, 3) := by decide +kernel
theorem dX10_recover_171 : decode cX10_recover 171 = .ok (.iload_n 3, 1) := by decide +kernel
theorem dX10_recover_172 : decode cX10_recover 172 = .ok (.iaload, 1) := by decide +kernel
theorem dX10_recover_173 : decode cX10_recover 173 = .ok (.iadd, 1) := by decide +kernel
theorem dX10_recover_174 : decode cX10_recover 174 = .ok (.istore_n 2, 1) := by decide +kernel
theorem dX10_recover_175 : decode cX10_recover 175 = .ok (.iinc 3 1, 3) := by decide +kernel
theorem dX10_recover_178 : decode cX10_recover 178 = .ok (.goto (-102), 3) := by decide +kernel
theorem dX10_recover_181 : decode cX10_recover 181 = .ok (.aload_n 0, 1) := by decide +kernel
theorem dX10_recover_182 : decode cX10_recover 182 = .ok (.iconst 0, 1) := by decide +kernel
theorem dX10_recover_183 : decode cX10_recover 183 = .ok (.putfield 106, 3) := by decide +kernel
theorem dX10_recover_186 : decode cX10_recover 186 = .ok (.aload_n 0, 1) := by decide +kernel
theorem dX10_recover_187 : decode cX10_recover 187 = .ok (.getfield 106, 3) := by decide +kernel
theorem dX10_recover_190 : decode cX10_recover 190 = .ok (.sipush 128, 3) := by decide +kernel
theorem dX10_recover_193 : decode cX10_recover 193 = .ok (.if_icmp .ge 118, 3) := by decide +kernel
theorem dX10_recover_196 : decode cX10_recover 196 = .ok (.aload_n 0, 1) := by decide +kernel
theorem dX10_recover_197 : decode cX10_recover 197 = .ok (.getfield 7, 3) := by decide +kernel
theorem dX10_recover_200 : decode cX10_recover 200 = .ok (.sipush 1923, 3) := by decide +kernel
theorem dX10_recover_203 : decode cX10_recover 203 = .ok (.iconst 4, 1) := by decide +kernel
theorem dX10_recover_204 : decode cX10_recover 204 = .ok (.aload_n 0, 1) := by decide +kernel
theorem dX10_recover_205 : decode cX10_recover 205 = .ok (.getfield 106, 3) := by decide +kernel
theorem dX10_recover_208 : decode cX10_recover 208 = .ok (.imul, 1) := by decide +kernel
theorem dX10_recover_209 : decode cX10_recover 209 = .ok (.iadd, 1) := by decide +kernel
theorem dX10_recover_210 : decode cX10_recover 210 = .ok (.iconst 3, 1) := by decide +kernel
theorem dX10_recover_211 : decode cX10_recover 211 = .ok (.iadd, 1) := by decide +kernel
theorem dX10_recover_212 : decode cX10_recover 212 = .ok (.iaload, 1) := by decide +kernel
theorem dX10_recover_213 : decode cX10_recover 213 = .ok (.aload_n 0, 1) := by decide +kernel
theorem dX10_recover_214 : decode cX10_recover 214 = .ok (.getfield 112, 3) := by decide +kernel
theorem dX10_recover_217 : decode cX10_recover 217 = .ok (.iconst 1, 1) := by decide +kernel
theorem dX10_recover_218 : decode cX10_recover 218 = .ok (.iadd, 1) := by decide +kernel
theorem dX10_recover_219 : decode cX10_recover 219 = .ok (.if_icmp .ne 92, 3) := by decide +kernel
theorem dX10_recover_222 : decode cX10_recover 222 = .ok (.aload_n 0, 1) := by decide +kernel
theorem dX10_recover_223 : decode cX10_recover 223 = .ok (.getfield 38, 3) := by decide +kernel
theorem dX10_recover_226 : decode cX10_recover 226 = .ok (.aload_n 0, 1) := by decide +kernel
theorem dX10_recover_227 : decode cX10_recover 227 = .ok (.getfield 106, 3) := by decide +kernel
theorem dX10_recover_230 : decode cX10_recover 230 = .ok (.aload_n 0, 1) := by decide +kernel
theorem dX10_recover_231 : decode cX10_recover 231 = .ok (.getfield 7, 3) := by decide +kernel
theorem dX10_recover_234 : decode cX10_recover 234 = .ok (.sipush 1923, 3) := by decide +kernel
theorem dX10_recover_237 : decode cX10_recover 237 = .ok (.iconst 4, 1) := by decide +kernel
theorem dX10_recover_238 : decode cX10_recover 238 = .ok (.aload_n 0, 1) := by decide +kernel
theorem dX10_recover_239 : decode cX10_recover 239 = .ok (.getfield 106, 3) := by decide +kernel
theorem dX10_recover_242 : decode cX10_recover 242 = .ok (.imul, 1) := by decide +kernel
theorem dX10_recover_243 : decode cX10_recover 243 = .ok (.iadd, 1) := by decide +kernel
theorem dX10_recover_244 : decode cX10_recover 244 = .ok (.iaload, 1) := by decide +kernel
theorem dX10_recover_245 : decode cX10_recover 245 = .ok (.iastore, 1) := by decide +kernel
theorem dX10_recover_246 : decode cX10_recover 246 = .ok (.aload_n 0, 1) := by decide +kernel
theorem dX10_recover_247 : decode cX10_recover 247 = .ok (.getfield 41, 3) := by decide +kernel
theorem dX10_recover_250 : decode cX10_recover 250 = .ok (.aload_n 0, 1) := by decide +kernel
theorem dX10_recover_251 : decode cX10_recover 251 = .ok (.getfield 106, 3) := by decide +kernel
theorem dX10_recover_254 : decode cX10_recover 254 = .ok (.aload_n 0, 1) := by decide +kernel
theorem dX10_recover_255 : decode cX10_recover 255 = .ok (.getfield 7, 3) := by decide +kernel
theorem dX10_recover_258 : decode cX10_recover 258 = .ok (.sipush 1923, 3) := by decide +kernel
theorem dX10_recover_261 : decode cX10_recover 261 = .ok (.iconst 4, 1) := by decide +kernel
theorem dX10_recover_262 : decode cX10_recover 262 = .ok (.aload_n 0, 1) := by decide +kernel
theorem dX10_recover_263 : decode cX10_recover 263 = .ok (.getfield 106, 3) := by decide +kernel
theorem dX10_recover_266 : decode cX10_recover 266 = .ok (.imul, 1) := by decide +kernel
theorem dX10_recover_267 : decode cX10_recover 267 = .ok (.iadd, 1) := by decide +kernel
theorem dX10_recover_268 : decode cX10_recover 268 = .ok (.iconst 1, 1) := by decide +kernel
theorem dX10_recover_269 : decode cX10_recover 269 = .ok (.iadd, 1) := by decide +kernel
theorem dX10_recover_270 : decode cX10_recover 270 = .ok (.iaload, 1) := by decide +kernel
theorem dX10_recover_271 : decode cX10_recover 271 = .ok (.iastore, 1) := by decide +kernel
theorem dX10_recover_272 : decode cX10_recover 272 = .ok (.aload_n 0, 1) := by decide +kernel
theorem dX10_recover_273 : decode cX10_recover 273 = .ok (.getfield 44, 3) := by decide +kernel
theorem dX10_recover_276 : decode cX10_recover 276 = .ok (.aload_n 0, 1) := by decide +kernel
theorem dX10_recover_277 : decode cX10_recover 277 = .ok (.getfield 106, 3) := by decide +kernel
theorem dX10_recover_280 : decode cX10_recover 280 = .ok (.aload_n 0, 1) := by decide +kernel
theorem dX10_recover_281 : decode cX10_recover 281 = .ok (.getfield 7, 3) := by decide +kernel
theorem dX10_recover_284 : decode cX10_recover 284 = .ok (.sipush 1923, 3) := by decide +kernel
theorem dX10_recover_287 : decode cX10_recover 287 = .ok (.iconst 4, 1) := by decide +kernel
theorem dX10_recover_288 : decode cX10_recover 288 = .ok (.aload_n 0, 1) := by decide +kernel
theorem dX10_recover_289 : decode cX10_recover 289 = .ok (.getfield 106, 3) := by decide +kernel
theorem dX10_recover_292 : decode cX10_recover 292 = .ok (.imul, 1) := by decide +kernel
theorem dX10_recover_293 : decode cX10_recover 293 = .ok (.iadd, 1) := by decide +kernel
theorem dX10_recover_294 : decode cX10_recover 294 = .ok (.iconst 2, 1) := by decide +kernel
theorem dX10_recover_295 : decode cX10_recover 295 = .ok (.iadd, 1) := by decide +kernel
theorem dX10_recover_296 : decode cX10_recover 296 = .ok (.iaload, 1) := by decide +kernel
theorem dX10_recover_297 : decode cX10_recover 297 = .ok (.iastore, 1) := by decide +kernel
theorem dX10_recover_298 : decode cX10_recover 298 = .ok (.aload_n 0, 1) := by decide +kernel
theorem dX10_recover_299 : decode cX10_recover 299 = .ok (.dup, 1) := by decide +kernel
theorem dX10_recover_300 : decode cX10_recover 300 = .ok (.getfield 106, 3) := by decide +kernel
theorem dX10_recover_303 : decode cX10_recover 303 = .ok (.iconst 1, 1) := by decide +kernel
theorem dX10_recover_304 : decode cX10_recover 304 = .ok (.iadd, 1) := by decide +kernel
theorem dX10_recover_305 : decode cX10_recover 305 = .ok (.putfield 106, 3) := by decide +kernel
theorem dX10_recover_308 : decode cX10_recover 308 = .ok (.goto (-122), 3) := by decide +kernel
theorem dX10_recover_311 : decode cX10_recover 311 = .ok (.iload_n 2, 1) := by decide +kernel
theorem dX10_recover_312 : decode cX10_recover 312 = .ok (.aload_n 0, 1) := by decide +kernel
theorem dX10_recover_313 : decode cX10_recover 313 = .ok (.getfield 106, 3) := by decide +kernel
theorem dX10_recover_316 : decode cX10_recover 316 = .ok (.iadd, 1) := by decide +kernel
theorem dX10_recover_317 : decode cX10_recover 317 = .ok (.ireturn, 1) := by decide +kernel
theorem dX10_cell_0 : decode cX10_cell 0 = .ok (.aload_n 0, 1) := by decide +kernel
theorem dX10_cell_1 : decode cX10_cell 1 = .ok (.iconst 0, 1) := by decide +kernel
theorem dX10_cell_2 : decode cX10_cell 2 = .ok (.putfield 76, 3) := by decide +kernel
theorem dX10_cell_5 : decode cX10_cell 5 = .ok (.iload_n 1, 1) := by decide +kernel
theorem dX10_cell_6 : decode cX10_cell 6 = .ok (.ifCond .lt 10, 3) := by decide +kernel
theorem dX10_cell_9 : decode cX10_cell 9 = .ok (.iload_n 1, 1) := by decide +kernel
theorem dX10_cell_10 : decode cX10_cell 10 = .ok (.sipush 4096, 3) := by decide +kernel
theorem dX10_cell_13 : decode cX10_cell 13 = .ok (.if_icmp .lt 7, 3) := by decide +kernel
theorem dX10_cell_16 : decode cX10_cell 16 = .ok (.iconst 0, 1) := by decide +kernel
theorem dX10_cell_17 : decode cX10_cell 17 = .ok (.goto 9, 3) := by decide +kernel
theorem dX10_cell_20 : decode cX10_cell 20 = .ok (.aload_n 0, 1) := by decide +kernel
theorem dX10_cell_21 : decode cX10_cell 21 = .ok (.getfield 7, 3) := by decide +kernel
theorem dX10_cell_24 : decode cX10_cell 24 = .ok (.iload_n 1, 1) := by decide +kernel
theorem dX10_cell_25 : decode cX10_cell 25 = .ok (.iaload, 1) := by decide +kernel
theorem dX10_cell_26 : decode cX10_cell 26 = .ok (.ireturn, 1) := by decide +kernel
theorem dX10_sizes_0 : decode cX10_sizes 0 = .ok (.aload_n 0, 1) := by decide +kernel
theorem dX10_sizes_1 : decode cX10_sizes 1 = .ok (.aload_n 0, 1) := by decide +kernel
theorem dX10_sizes_2 : decode cX10_sizes 2 = .ok (.getfield 79, 3) := by decide +kernel
theorem dX10_sizes_5 : decode cX10_sizes 5 = .ok (.ifCond .eq 7, 3) := by decide +kernel
theorem dX10_sizes_8 : decode cX10_sizes 8 = .ok (.iconst 1, 1) := by decide +kernel
theorem dX10_sizes_9 : decode cX10_sizes 9 = .ok (.goto 29, 3) := by decide +kernel
theorem dX10_sizes_12 : decode cX10_sizes 12 = .ok (.aload_n 0, 1) := by decide +kernel
theorem dX10_sizes_13 : decode cX10_sizes 13 = .ok (.iload_n 1, 1) := by decide +kernel
theorem dX10_sizes_14 : decode cX10_sizes 14 = .ok (.invokevirtual 98, 3) := by decide +kernel
theorem dX10_sizes_17 : decode cX10_sizes 17 = .ok (.ifCond .ne 7, 3) := by decide +kernel
theorem dX10_sizes_20 : decode cX10_sizes 20 = .ok (.iconst 2, 1) := by decide +kernel
theorem dX10_sizes_21 : decode cX10_sizes 21 = .ok (.goto 17, 3) := by decide +kernel
theorem dX10_sizes_24 : decode cX10_sizes 24 = .ok (.iload_n 2, 1) := by decide +kernel
theorem dX10_sizes_25 : decode cX10_sizes 25 = .ok (.ifCond .lt 8, 3) := by decide +kernel
theorem dX10_sizes_28 : decode cX10_sizes 28 = .ok (.iload_n 2, 1) := by decide +kernel
theorem dX10_sizes_29 : decode cX10_sizes 29 = .ok (.iconst 2, 1) := by decide +kernel
theorem dX10_sizes_30 : decode cX10_sizes 30 = .ok (.if_icmp .le 7, 3) := by decide +kernel
theorem dX10_sizes_33 : decode cX10_sizes 33 = .ok (.iconst 3, 1) := by decide +kernel
theorem dX10_sizes_34 : decode cX10_sizes 34 = .ok (.goto 4, 3) := by decide +kernel
theorem dX10_sizes_37 : decode cX10_sizes 37 = .ok (.iconst 0, 1) := by decide +kernel
theorem dX10_sizes_38 : decode cX10_sizes 38 = .ok (.putfield 76, 3) := by decide +kernel
theorem dX10_sizes_41 : decode cX10_sizes 41 = .ok (.aload_n 0, 1) := by decide +kernel
theorem dX10_sizes_42 : decode cX10_sizes 42 = .ok (.getfield 76, 3) := by decide +kernel
theorem dX10_sizes_45 : decode cX10_sizes 45 = .ok (.ifCond .le 5, 3) := by decide +kernel
theorem dX10_sizes_48 : decode cX10_sizes 48 = .ok (.iconst 0, 1) := by decide +kernel
theorem dX10_sizes_49 : decode cX10_sizes 49 = .ok (.ireturn, 1) := by decide +kernel
theorem dX10_sizes_50 : decode cX10_sizes 50 = .ok (.iload_n 2, 1) := by decide +kernel
theorem dX10_sizes_51 : decode cX10_sizes 51 = .ok (.ifCond .ne 9, 3) := by decide +kernel
theorem dX10_sizes_54 : decode cX10_sizes 54 = .ok (.aload_n 0, 1) := by decide +kernel
theorem dX10_sizes_55 : decode cX10_sizes 55 = .ok (.iload_n 1, 1) := by decide +kernel
theorem dX10_sizes_56 : decode cX10_sizes 56 = .ok (.invokevirtual 274, 3) := by decide +kernel
theorem dX10_sizes_59 : decode cX10_sizes 59 = .ok (.ireturn, 1) := by decide +kernel
theorem dX10_sizes_60 : decode cX10_sizes 60 = .ok (.iload_n 2, 1) := by decide +kernel
theorem dX10_sizes_61 : decode cX10_sizes 61 = .ok (.iconst 2, 1) := by decide +kernel
theorem dX10_sizes_62 : decode cX10_sizes 62 = .ok (.if_icmp .ne 9, 3) := by decide +kernel
theorem dX10_sizes_65 : decode cX10_sizes 65 = .ok (.aload_n 0, 1) := by decide +kernel
theorem dX10_sizes_66 : decode cX10_sizes 66 = .ok (.iload_n 1, 1) := by decide +kernel
theorem dX10_sizes_67 : decode cX10_sizes 67 = .ok (.invokevirtual 277, 3) := by decide +kernel
theorem dX10_sizes_70 : decode cX10_sizes 70 = .ok (.ireturn, 1) := by decide +kernel
theorem dX10_sizes_71 : decode cX10_sizes 71 = .ok (.iconst 0, 1) := by decide +kernel
theorem dX10_sizes_72 : decode cX10_sizes 72 = .ok (.istore_n 3, 1) := by decide +kernel
theorem dX10_sizes_73 : decode cX10_sizes 73 = .ok (.iconst 0, 1) := by decide +kernel
theorem dX10_sizes_74 : decode cX10_sizes 74 = .ok (.istore 4, 2) := by decide +kernel
theorem dX10_sizes_76 : decode cX10_sizes 76 = .ok (.iload 4, 2) := by decide +kernel
theorem dX10_sizes_78 : decode cX10_sizes 78 = .ok (.aload_n 0, 1) := by decide +kernel
theorem dX10_sizes_79 : decode cX10_sizes 79 = .ok (.getfield 106, 3) := by decide +kernel
theorem dX10_sizes_82 : decode cX10_sizes 82 = .ok (.if_icmp .ge 28, 3) := by decide +kernel
theorem dX10_sizes_85 : decode cX10_sizes 85 = .ok (.iload_n 3, 1) := by decide +kernel
theorem dX10_sizes_86 : decode cX10_sizes 86 = .ok (.aload_n 0, 1) := by decide +kernel
theorem dX10_sizes_87 : decode cX10_sizes 87 = .ok (.getfield 38, 3) := by decide +kernel
theorem dX10_sizes_90 : decode cX10_sizes 90 = .ok (.iload 4, 2) := by decide +kernel
theorem dX10_sizes_92 : decode cX10_sizes 92 = .ok (.iaload, 1) := by decide +kernel
theorem dX10_sizes_93 : decode cX10_sizes 93 = .ok (.iload_n 1, 1) := by decide +kernel
theorem dX10_sizes_94 : decode cX10_sizes 94 = .ok (.if_icmp .ne 7, 3) := by decide +kernel
theorem dX10_sizes_97 : decode cX10_sizes 97 = .ok (.iconst 1, 1) := by decide +kernel
theorem dX10_sizes_98 : decode cX10_sizes 98 = .ok (.goto 4, 3) := by decide +kernel
theorem dX10_sizes_101 : decode cX10_sizes 101 = .ok (.iconst 0, 1) := by decide +kernel
theorem dX10_sizes_102 : decode cX10_sizes 102 = .ok (.iadd, 1) := by decide +kernel
theorem dX10_sizes_103 : decode cX10_sizes 103 = .ok (.istore_n 3, 1) := by decide +kernel
theorem dX10_sizes_104 : decode cX10_sizes 104 = .ok (.iinc 4 1, 3) := by decide +kernel
theorem dX10_sizes_107 : decode cX10_sizes 107 = .ok (.goto (-31), 3) := by decide +kernel
theorem dX10_sizes_110 : decode cX10_sizes 110 = .ok (.iload_n 3, 1) := by decide +kernel
theorem dX10_sizes_111 : decode cX10_sizes 111 = .ok (.ireturn, 1) := by decide +kernel
theorem dX10_chunk_0 : decode cX10_chunk 0 = .ok (.aload_n 0, 1) := by decide +kernel
theorem dX10_chunk_1 : decode cX10_chunk 1 = .ok (.aload_n 0, 1) := by decide +kernel
theorem dX10_chunk_2 : decode cX10_chunk 2 = .ok (.getfield 79, 3) := by decide +kernel
theorem dX10_chunk_5 : decode cX10_chunk 5 = .ok (.ifCond .eq 7, 3) := by decide +kernel
theorem dX10_chunk_8 : decode cX10_chunk 8 = .ok (.iconst 1, 1) := by decide +kernel
theorem dX10_chunk_9 : decode cX10_chunk 9 = .ok (.goto 43, 3) := by decide +kernel
theorem dX10_chunk_12 : decode cX10_chunk 12 = .ok (.aload_n 0, 1) := by decide +kernel
theorem dX10_chunk_13 : decode cX10_chunk 13 = .ok (.iload_n 1, 1) := by decide +kernel
theorem dX10_chunk_14 : decode cX10_chunk 14 = .ok (.invokevirtual 98, 3) := by decide +kernel
theorem dX10_chunk_17 : decode cX10_chunk 17 = .ok (.ifCond .ne 7, 3) := by decide +kernel
theorem dX10_chunk_20 : decode cX10_chunk 20 = .ok (.iconst 2, 1) := by decide +kernel
theorem dX10_chunk_21 : decode cX10_chunk 21 = .ok (.goto 31, 3) := by decide +kernel
theorem dX10_chunk_24 : decode cX10_chunk 24 = .ok (.iload_n 3, 1) := by decide +kernel
theorem dX10_chunk_25 : decode cX10_chunk 25 = .ok (.ifCond .lt 22, 3) := by decide +kernel
theorem dX10_chunk_28 : decode cX10_chunk 28 = .ok (.iload_n 3, 1) := by decide +kernel
theorem dX10_chunk_29 : decode cX10_chunk 29 = .ok (.bipush 6, 2) := by decide +kernel
theorem dX10_chunk_31 : decode cX10_chunk 31 = .ok (.if_icmp .gt 16, 3) := by decide +kernel
theorem dX10_chunk_34 : decode cX10_chunk 34 = .ok (.iload_n 2, 1) := by decide +kernel
theorem dX10_chunk_35 : decode cX10_chunk 35 = .ok (.ifCond .lt 12, 3) := by decide +kernel
theorem dX10_chunk_38 : decode cX10_chunk 38 = .ok (.iload_n 2, 1) := by decide +kernel
theorem dX10_chunk_39 : decode cX10_chunk 39 = .ok (.aload_n 0, 1) := by decide +kernel
theorem dX10_chunk_40 : decode cX10_chunk 40 = .ok (.iload_n 1, 1) := by decide +kernel
theorem dX10_chunk_41 : decode cX10_chunk 41 = .ok (.invokevirtual 274, 3) := by decide +kernel
theorem dX10_chunk_44 : decode cX10_chunk 44 = .ok (.if_icmp .lt 7, 3) := by decide +kernel
theorem dX10_chunk_47 : decode cX10_chunk 47 = .ok (.iconst 3, 1) := by decide +kernel
theorem dX10_chunk_48 : decode cX10_chunk 48 = .ok (.goto 4, 3) := by decide +kernel
theorem dX10_chunk_51 : decode cX10_chunk 51 = .ok (.iconst 0, 1) := by decide +kernel
theorem dX10_chunk_52 : decode cX10_chunk 52 = .ok (.putfield 76, 3) := by decide +kernel
theorem dX10_chunk_55 : decode cX10_chunk 55 = .ok (.aload_n 0, 1) := by decide +kernel
theorem dX10_chunk_56 : decode cX10_chunk 56 = .ok (.getfield 76, 3) := by decide +kernel
theorem dX10_chunk_59 : decode cX10_chunk 59 = .ok (.ifCond .le 5, 3) := by decide +kernel
theorem dX10_chunk_62 : decode cX10_chunk 62 = .ok (.iconst 0, 1) := by decide +kernel
theorem dX10_chunk_63 : decode cX10_chunk 63 = .ok (.ireturn, 1) := by decide +kernel
theorem dX10_chunk_64 : decode cX10_chunk 64 = .ok (.aload_n 0, 1) := by decide +kernel
theorem dX10_chunk_65 : decode cX10_chunk 65 = .ok (.iload_n 1, 1) := by decide +kernel
theorem dX10_chunk_66 : decode cX10_chunk 66 = .ok (.iload_n 2, 1) := by decide +kernel
theorem dX10_chunk_67 : decode cX10_chunk 67 = .ok (.invokevirtual 280, 3) := by decide +kernel
theorem dX10_chunk_70 : decode cX10_chunk 70 = .ok (.istore 4, 2) := by decide +kernel
theorem dX10_chunk_72 : decode cX10_chunk 72 = .ok (.iload_n 3, 1) := by decide +kernel
theorem dX10_chunk_73 : decode cX10_chunk 73 = .ok (.tableswitch 83 0 5 #[39, 46, 53, 61, 68, 75], 39) := by decide +kernel
theorem dX10_chunk_112 : decode cX10_chunk 112 = .ok (.aload_n 0, 1) := by decide +kernel
theorem dX10_chunk_113 : decode cX10_chunk 113 = .ok (.iload 4, 2) := by decide +kernel
theorem dX10_chunk_115 : decode cX10_chunk 115 = .ok (.invokevirtual 209, 3) := by decide +kernel
theorem dX10_chunk_118 : decode cX10_chunk 118 = .ok (.ireturn, 1) := by decide +kernel
theorem dX10_chunk_119 : decode cX10_chunk 119 = .ok (.aload_n 0, 1) := by decide +kernel
theorem dX10_chunk_120 : decode cX10_chunk 120 = .ok (.iload 4, 2) := by decide +kernel
theorem dX10_chunk_122 : decode cX10_chunk 122 = .ok (.invokevirtual 212, 3) := by decide +kernel
theorem dX10_chunk_125 : decode cX10_chunk 125 = .ok (.ireturn, 1) := by decide +kernel
theorem dX10_chunk_126 : decode cX10_chunk 126 = .ok (.aload_n 0, 1) := by decide +kernel
theorem dX10_chunk_127 : decode cX10_chunk 127 = .ok (.getfield 20, 3) := by decide +kernel
theorem dX10_chunk_130 : decode cX10_chunk 130 = .ok (.iload 4, 2) := by decide +kernel
theorem dX10_chunk_132 : decode cX10_chunk 132 = .ok (.iaload, 1) := by decide +kernel
theorem dX10_chunk_133 : decode cX10_chunk 133 = .ok (.ireturn, 1) := by decide +kernel
theorem dX10_chunk_134 : decode cX10_chunk 134 = .ok (.aload_n 0, 1) := by decide +kernel
theorem dX10_chunk_135 : decode cX10_chunk 135 = .ok (.iload 4, 2) := by decide +kernel
theorem dX10_chunk_137 : decode cX10_chunk 137 = .ok (.invokevirtual 215, 3) := by decide +kernel
theorem dX10_chunk_140 : decode cX10_chunk 140 = .ok (.ireturn, 1) := by decide +kernel
theorem dX10_chunk_141 : decode cX10_chunk 141 = .ok (.aload_n 0, 1) := by decide +kernel
theorem dX10_chunk_142 : decode cX10_chunk 142 = .ok (.iload 4, 2) := by decide +kernel
theorem dX10_chunk_144 : decode cX10_chunk 144 = .ok (.invokevirtual 218, 3) := by decide +kernel
theorem dX10_chunk_147 : decode cX10_chunk 147 = .ok (.ireturn, 1) := by decide +kernel
theorem dX10_chunk_148 : decode cX10_chunk 148 = .ok (.aload_n 0, 1) := by decide +kernel
theorem dX10_chunk_149 : decode cX10_chunk 149 = .ok (.getfield 23, 3) := by decide +kernel
theorem dX10_chunk_152 : decode cX10_chunk 152 = .ok (.iload 4, 2) := by decide +kernel
theorem dX10_chunk_154 : decode cX10_chunk 154 = .ok (.iaload, 1) := by decide +kernel
theorem dX10_chunk_155 : decode cX10_chunk 155 = .ok (.ireturn, 1) := by decide +kernel
theorem dX10_chunk_156 : decode cX10_chunk 156 = .ok (.aload_n 0, 1) := by decide +kernel
theorem dX10_chunk_157 : decode cX10_chunk 157 = .ok (.getfield 26, 3) := by decide +kernel
theorem dX10_chunk_160 : decode cX10_chunk 160 = .ok (.iload 4, 2) := by decide +kernel
theorem dX10_chunk_162 : decode cX10_chunk 162 = .ok (.iaload, 1) := by decide +kernel
theorem dX10_chunk_163 : decode cX10_chunk 163 = .ok (.ireturn, 1) := by decide +kernel
theorem dX10_group_0 : decode cX10_group 0 = .ok (.aload_n 0, 1) := by decide +kernel
theorem dX10_group_1 : decode cX10_group 1 = .ok (.aload_n 0, 1) := by decide +kernel
theorem dX10_group_2 : decode cX10_group 2 = .ok (.getfield 79, 3) := by decide +kernel
theorem dX10_group_5 : decode cX10_group 5 = .ok (.ifCond .eq 7, 3) := by decide +kernel
theorem dX10_group_8 : decode cX10_group 8 = .ok (.iconst 1, 1) := by decide +kernel
theorem dX10_group_9 : decode cX10_group 9 = .ok (.goto 42, 3) := by decide +kernel
theorem dX10_group_12 : decode cX10_group 12 = .ok (.aload_n 0, 1) := by decide +kernel
theorem dX10_group_13 : decode cX10_group 13 = .ok (.iload_n 1, 1) := by decide +kernel
theorem dX10_group_14 : decode cX10_group 14 = .ok (.invokevirtual 98, 3) := by decide +kernel
theorem dX10_group_17 : decode cX10_group 17 = .ok (.ifCond .ne 7, 3) := by decide +kernel
theorem dX10_group_20 : decode cX10_group 20 = .ok (.iconst 2, 1) := by decide +kernel
theorem dX10_group_21 : decode cX10_group 21 = .ok (.goto 30, 3) := by decide +kernel
theorem dX10_group_24 : decode cX10_group 24 = .ok (.iload_n 3, 1) := by decide +kernel
theorem dX10_group_25 : decode cX10_group 25 = .ok (.ifCond .lt 21, 3) := by decide +kernel
theorem dX10_group_28 : decode cX10_group 28 = .ok (.iload_n 3, 1) := by decide +kernel
theorem dX10_group_29 : decode cX10_group 29 = .ok (.iconst 5, 1) := by decide +kernel
theorem dX10_group_30 : decode cX10_group 30 = .ok (.if_icmp .gt 16, 3) := by decide +kernel
theorem dX10_group_33 : decode cX10_group 33 = .ok (.iload_n 2, 1) := by decide +kernel
theorem dX10_group_34 : decode cX10_group 34 = .ok (.ifCond .lt 12, 3) := by decide +kernel
theorem dX10_group_37 : decode cX10_group 37 = .ok (.iload_n 2, 1) := by decide +kernel
theorem dX10_group_38 : decode cX10_group 38 = .ok (.aload_n 0, 1) := by decide +kernel
theorem dX10_group_39 : decode cX10_group 39 = .ok (.iload_n 1, 1) := by decide +kernel
theorem dX10_group_40 : decode cX10_group 40 = .ok (.invokevirtual 277, 3) := by decide +kernel
theorem dX10_group_43 : decode cX10_group 43 = .ok (.if_icmp .lt 7, 3) := by decide +kernel
theorem dX10_group_46 : decode cX10_group 46 = .ok (.iconst 3, 1) := by decide +kernel
theorem dX10_group_47 : decode cX10_group 47 = .ok (.goto 4, 3) := by decide +kernel
theorem dX10_group_50 : decode cX10_group 50 = .ok (.iconst 0, 1) := by decide +kernel
theorem dX10_group_51 : decode cX10_group 51 = .ok (.putfield 76, 3) := by decide +kernel
theorem dX10_group_54 : decode cX10_group 54 = .ok (.aload_n 0, 1) := by decide +kernel
theorem dX10_group_55 : decode cX10_group 55 = .ok (.getfield 76, 3) := by decide +kernel
theorem dX10_group_58 : decode cX10_group 58 = .ok (.ifCond .le 5, 3) := by decide +kernel
theorem dX10_group_61 : decode cX10_group 61 = .ok (.iconst 0, 1) := by decide +kernel
theorem dX10_group_62 : decode cX10_group 62 = .ok (.ireturn, 1) := by decide +kernel
theorem dX10_group_63 : decode cX10_group 63 = .ok (.aload_n 0, 1) := by decide +kernel
theorem dX10_group_64 : decode cX10_group 64 = .ok (.iload_n 1, 1) := by decide +kernel
theorem dX10_group_65 : decode cX10_group 65 = .ok (.invokevirtual 274, 3) := by decide +kernel
theorem dX10_group_68 : decode cX10_group 68 = .ok (.istore 4, 2) := by decide +kernel
theorem dX10_group_70 : decode cX10_group 70 = .ok (.aload_n 0, 1) := by decide +kernel
theorem dX10_group_71 : decode cX10_group 71 = .ok (.getfield 73, 3) := by decide +kernel
theorem dX10_group_74 : decode cX10_group 74 = .ok (.iload_n 2, 1) := by decide +kernel
theorem dX10_group_75 : decode cX10_group 75 = .ok (.imul, 1) := by decide +kernel
theorem dX10_group_76 : decode cX10_group 76 = .ok (.istore 5, 2) := by decide +kernel
theorem dX10_group_78 : decode cX10_group 78 = .ok (.iload 5, 2) := by decide +kernel
theorem dX10_group_80 : decode cX10_group 80 = .ok (.aload_n 0, 1) := by decide +kernel
theorem dX10_group_81 : decode cX10_group 81 = .ok (.getfield 73, 3) := by decide +kernel
theorem dX10_group_84 : decode cX10_group 84 = .ok (.iadd, 1) := by decide +kernel
theorem dX10_group_85 : decode cX10_group 85 = .ok (.iload 4, 2) := by decide +kernel
theorem dX10_group_87 : decode cX10_group 87 = .ok (.if_icmp .ge 13, 3) := by decide +kernel
theorem dX10_group_90 : decode cX10_group 90 = .ok (.iload 5, 2) := by decide +kernel
theorem dX10_group_92 : decode cX10_group 92 = .ok (.aload_n 0, 1) := by decide +kernel
theorem dX10_group_93 : decode cX10_group 93 = .ok (.getfield 73, 3) := by decide +kernel
theorem dX10_group_96 : decode cX10_group 96 = .ok (.iadd, 1) := by decide +kernel
theorem dX10_group_97 : decode cX10_group 97 = .ok (.goto 5, 3) := by decide +kernel
theorem dX10_group_100 : decode cX10_group 100 = .ok (.iload 4, 2) := by decide +kernel
theorem dX10_group_102 : decode cX10_group 102 = .ok (.istore 6, 2) := by decide +kernel
theorem dX10_group_104 : decode cX10_group 104 = .ok (.iload_n 3, 1) := by decide +kernel
theorem dX10_group_105 : decode cX10_group 105 = .ok (.ifCond .ne 15, 3) := by decide +kernel
theorem dX10_group_108 : decode cX10_group 108 = .ok (.aload_n 0, 1) := by decide +kernel
theorem dX10_group_109 : decode cX10_group 109 = .ok (.aload_n 0, 1) := by decide +kernel
theorem dX10_group_110 : decode cX10_group 110 = .ok (.iload_n 1, 1) := by decide +kernel
theorem dX10_group_111 : decode cX10_group 111 = .ok (.iload 5, 2) := by decide +kernel
theorem dX10_group_113 : decode cX10_group 113 = .ok (.invokevirtual 280, 3) := by decide +kernel
theorem dX10_group_116 : decode cX10_group 116 = .ok (.invokevirtual 209, 3) := by decide +kernel
theorem dX10_group_119 : decode cX10_group 119 = .ok (.ireturn, 1) := by decide +kernel
theorem dX10_group_120 : decode cX10_group 120 = .ok (.iload_n 3, 1) := by decide +kernel
theorem dX10_group_121 : decode cX10_group 121 = .ok (.iconst 1, 1) := by decide +kernel
theorem dX10_group_122 : decode cX10_group 122 = .ok (.if_icmp .ne 17, 3) := by decide +kernel
theorem dX10_group_125 : decode cX10_group 125 = .ok (.aload_n 0, 1) := by decide +kernel
theorem dX10_group_126 : decode cX10_group 126 = .ok (.aload_n 0, 1) := by decide +kernel
theorem dX10_group_127 : decode cX10_group 127 = .ok (.iload_n 1, 1) := by decide +kernel
theorem dX10_group_128 : decode cX10_group 128 = .ok (.iload 6, 2) := by decide +kernel
theorem dX10_group_130 : decode cX10_group 130 = .ok (.iconst 1, 1) := by decide +kernel
theorem dX10_group_131 : decode cX10_group 131 = .ok (.isub, 1) := by decide +kernel
theorem dX10_group_132 : decode cX10_group 132 = .ok (.invokevirtual 280, 3) := by decide +kernel
theorem dX10_group_135 : decode cX10_group 135 = .ok (.invokevirtual 212, 3) := by decide +kernel
theorem dX10_group_138 : decode cX10_group 138 = .ok (.ireturn, 1) := by decide +kernel
theorem dX10_group_139 : decode cX10_group 139 = .ok (.iload_n 3, 1) := by decide +kernel
theorem dX10_group_140 : decode cX10_group 140 = .ok (.iconst 5, 1) := by decide +kernel
theorem dX10_group_141 : decode cX10_group 141 = .ok (.if_icmp .ne 9, 3) := by decide +kernel
theorem dX10_group_144 : decode cX10_group 144 = .ok (.iload 6, 2) := by decide +kernel
theorem dX10_group_146 : decode cX10_group 146 = .ok (.iload 5, 2) := by decide +kernel
theorem dX10_group_148 : decode cX10_group 148 = .ok (.isub, 1) := by decide +kernel
theorem dX10_group_149 : decode cX10_group 149 = .ok (.ireturn, 1) := by decide +kernel
theorem dX10_group_150 : decode cX10_group 150 = .ok (.iload_n 3, 1) := by decide +kernel
theorem dX10_group_151 : decode cX10_group 151 = .ok (.iconst 2, 1) := by decide +kernel
theorem dX10_group_152 : decode cX10_group 152 = .ok (.if_icmp .ne 7, 3) := by decide +kernel
theorem dX10_group_155 : decode cX10_group 155 = .ok (.iconst 0, 1) := by decide +kernel
theorem dX10_group_156 : decode cX10_group 156 = .ok (.goto 33, 3) := by decide +kernel
theorem dX10_group_159 : decode cX10_group 159 = .ok (.iload_n 3, 1) := by decide +kernel
theorem dX10_group_160 : decode cX10_group 160 = .ok (.iconst 3, 1) := by decide +kernel
theorem dX10_group_161 : decode cX10_group 161 = .ok (.if_icmp .ne 17, 3) := by decide +kernel
theorem dX10_group_164 : decode cX10_group 164 = .ok (.aload_n 0, 1) := by decide +kernel
theorem dX10_group_165 : decode cX10_group 165 = .ok (.aload_n 0, 1) := by decide +kernel
theorem dX10_group_166 : decode cX10_group 166 = .ok (.iload_n 1, 1) := by decide +kernel
theorem dX10_group_167 : decode cX10_group 167 = .ok (.iload 5, 2) := by decide +kernel
theorem dX10_group_169 : decode cX10_group 169 = .ok (.invokevirtual 280, 3) := by decide +kernel
theorem dX10_group_172 : decode cX10_group 172 = .ok (.invokevirtual 215, 3) := by decide +kernel
theorem dX10_group_175 : decode cX10_group 175 = .ok (.goto 14, 3) := by decide +kernel
theorem dX10_group_178 : decode cX10_group 178 = .ok (.aload_n 0, 1) := by decide +kernel
theorem dX10_group_179 : decode cX10_group 179 = .ok (.aload_n 0, 1) := by decide +kernel
theorem dX10_group_180 : decode cX10_group 180 = .ok (.iload_n 1, 1) := by decide +kernel
theorem dX10_group_181 : decode cX10_group 181 = .ok (.iload 5, 2) := by decide +kernel
theorem dX10_group_183 : decode cX10_group 183 = .ok (.invokevirtual 280, 3) := by decide +kernel
theorem dX10_group_186 : decode cX10_group 186 = .ok (.invokevirtual 218, 3) := by decide +kernel
theorem dX10_group_189 : decode cX10_group 189 = .ok (.istore 7, 2) := by decide +kernel
theorem dX10_group_191 : decode cX10_group 191 = .ok (.iload 5, 2) := by decide +kernel
theorem dX10_group_193 : decode cX10_group 193 = .ok (.istore 8, 2) := by decide +kernel
theorem dX10_group_195 : decode cX10_group 195 = .ok (.iload 8, 2) := by decide +kernel
theorem dX10_group_197 : decode cX10_group 197 = .ok (.iload 6, 2) := by decide +kernel
theorem dX10_group_199 : decode cX10_group 199 = .ok (.if_icmp .ge 93, 3) := by decide +kernel
theorem dX10_group_202 : decode cX10_group 202 = .ok (.aload_n 0, 1) := by decide +kernel
theorem dX10_group_203 : decode cX10_group 203 = .ok (.iload_n 1, 1) := by decide +kernel
theorem dX10_group_204 : decode cX10_group 204 = .ok (.iload 8, 2) := by decide +kernel
theorem dX10_group_206 : decode cX10_group 206 = .ok (.invokevirtual 280, 3) := by decide +kernel
theorem dX10_group_209 : decode cX10_group 209 = .ok (.istore 9, 2) := by decide +kernel
theorem dX10_group_211 : decode cX10_group 211 = .ok (.iload_n 3, 1) := by decide +kernel
theorem dX10_group_212 : decode cX10_group 212 = .ok (.iconst 2, 1) := by decide +kernel
theorem dX10_group_213 : decode cX10_group 213 = .ok (.if_icmp .ne 15, 3) := by decide +kernel
theorem dX10_group_216 : decode cX10_group 216 = .ok (.iload 7, 2) := by decide +kernel
theorem dX10_group_218 : decode cX10_group 218 = .ok (.aload_n 0, 1) := by decide +kernel
theorem dX10_group_219 : decode cX10_group 219 = .ok (.getfield 20, 3) := by decide +kernel
theorem dX10_group_222 : decode cX10_group 222 = .ok (.iload 9, 2) := by decide +kernel
theorem dX10_group_224 : decode cX10_group 224 = .ok (.iaload, 1) := by decide +kernel
theorem dX10_group_225 : decode cX10_group 225 = .ok (.iadd, 1) := by decide +kernel
theorem dX10_group_226 : decode cX10_group 226 = .ok (.istore 7, 2) := by decide +kernel
theorem dX10_group_228 : decode cX10_group 228 = .ok (.iload_n 3, 1) := by decide +kernel
theorem dX10_group_229 : decode cX10_group 229 = .ok (.iconst 3, 1) := by decide +kernel
theorem dX10_group_230 : decode cX10_group 230 = .ok (.if_icmp .ne 27, 3) := by decide +kernel
theorem dX10_group_233 : decode cX10_group 233 = .ok (.aload_n 0, 1) := by decide +kernel
theorem dX10_group_234 : decode cX10_group 234 = .ok (.iload 9, 2) := by decide +kernel
theorem dX10_group_236 : decode cX10_group 236 = .ok (.invokevirtual 215, 3) := by decide +kernel
theorem dX10_group_239 : decode cX10_group 239 = .ok (.iload 7, 2) := by decide +kernel
theorem dX10_group_241 : decode cX10_group 241 = .ok (.if_icmp .ge 12, 3) := by decide +kernel
theorem dX10_group_244 : decode cX10_group 244 = .ok (.aload_n 0, 1) := by decide +kernel
theorem dX10_group_245 : decode cX10_group 245 = .ok (.iload 9, 2) := by decide +kernel
theorem dX10_group_247 : decode cX10_group 247 = .ok (.invokevirtual 215, 3) := by decide +kernel
theorem dX10_group_250 : decode cX10_group 250 = .ok (.goto 5, 3) := by decide +kernel
theorem dX10_group_253 : decode cX10_group 253 = .ok (.iload 7, 2) := by decide +kernel
theorem dX10_group_255 : decode cX10_group 255 = .ok (.istore 7, 2) := by decide +kernel
theorem dX10_group_257 : decode cX10_group 257 = .ok (.iload_n 3, 1) := by decide +kernel
theorem dX10_group_258 : decode cX10_group 258 = .ok (.iconst 4, 1) := by decide +kernel
theorem dX10_group_259 : decode cX10_group 259 = .ok (.if_icmp .ne 27, 3) := by decide +kernel
theorem dX10_group_262 : decode cX10_group 262 = .ok (.aload_n 0, 1) := by decide +kernel
theorem dX10_group_263 : decode cX10_group 263 = .ok (.iload 9, 2) := by decide +kernel
theorem dX10_group_265 : decode cX10_group 265 = .ok (.invokevirtual 218, 3) := by decide +kernel
theorem dX10_group_268 : decode cX10_group 268 = .ok (.iload 7, 2) := by decide +kernel
theorem dX10_group_270 : decode cX10_group 270 = .ok (.if_icmp .le 12, 3) := by decide +kernel
theorem dX10_group_273 : decode cX10_group 273 = .ok (.aload_n 0, 1) := by decide +kernel
theorem dX10_group_274 : decode cX10_group 274 = .ok (.iload 9, 2) := by decide +kernel
theorem dX10_group_276 : decode cX10_group 276 = .ok (.invokevirtual 218, 3) := by decide +kernel
theorem dX10_group_279 : decode cX10_group 279 = .ok (.goto 5, 3) := by decide +kernel
theorem dX10_group_282 : decode cX10_group 282 = .ok (.iload 7, 2) := by decide +kernel
theorem dX10_group_284 : decode cX10_group 284 = .ok (.istore 7, 2) := by decide +kernel
theorem dX10_group_286 : decode cX10_group 286 = .ok (.iinc 8 1, 3) := by decide +kernel
theorem dX10_group_289 : decode cX10_group 289 = .ok (.goto (-94), 3) := by decide +kernel
theorem dX10_group_292 : decode cX10_group 292 = .ok (.iload 7, 2) := by decide +kernel
theorem dX10_group_294 : decode cX10_group 294 = .ok (.ireturn, 1) := by decide +kernel
theorem dX10_taken_0 : decode cX10_taken 0 = .ok (.iconst 0, 1) := by decide +kernel
theorem dX10_taken_1 : decode cX10_taken 1 = .ok (.istore_n 1, 1) := by decide +kernel
theorem dX10_taken_2 : decode cX10_taken 2 = .ok (.iconst 0, 1) := by decide +kernel
theorem dX10_taken_3 : decode cX10_taken 3 = .ok (.istore_n 2, 1) := by decide +kernel
theorem dX10_taken_4 : decode cX10_taken 4 = .ok (.iload_n 2, 1) := by decide +kernel
theorem dX10_taken_5 : decode cX10_taken 5 = .ok (.aload_n 0, 1) := by decide +kernel
theorem dX10_taken_6 : decode cX10_taken 6 = .ok (.getfield 115, 3) := by decide +kernel
theorem dX10_taken_9 : decode cX10_taken 9 = .ok (.if_icmp .ge 23, 3) := by decide +kernel
theorem dX10_taken_12 : decode cX10_taken 12 = .ok (.iload_n 1, 1) := by decide +kernel
theorem dX10_taken_13 : decode cX10_taken 13 = .ok (.aload_n 0, 1) := by decide +kernel
theorem dX10_taken_14 : decode cX10_taken 14 = .ok (.getfield 26, 3) := by decide +kernel
theorem dX10_taken_17 : decode cX10_taken 17 = .ok (.aload_n 0, 1) := by decide +kernel
theorem dX10_taken_18 : decode cX10_taken 18 = .ok (.getfield 35, 3) := by decide +kernel
theorem dX10_taken_21 : decode cX10_taken 21 = .ok (.iload_n 2, 1) := by decide +kernel
theorem dX10_taken_22 : decode cX10_taken 22 = .ok (.iaload, 1) := by decide +kernel
theorem dX10_taken_23 : decode cX10_taken 23 = .ok (.iaload, 1) := by decide +kernel
theorem dX10_taken_24 : decode cX10_taken 24 = .ok (.iadd, 1) := by decide +kernel
theorem dX10_taken_25 : decode cX10_taken 25 = .ok (.istore_n 1, 1) := by decide +kernel
theorem dX10_taken_26 : decode cX10_taken 26 = .ok (.iinc 2 1, 3) := by decide +kernel
theorem dX10_taken_29 : decode cX10_taken 29 = .ok (.goto (-25), 3) := by decide +kernel
theorem dX10_taken_32 : decode cX10_taken 32 = .ok (.iload_n 1, 1) := by decide +kernel
theorem dX10_taken_33 : decode cX10_taken 33 = .ok (.ireturn, 1) := by decide +kernel
abbrev rm_X10_crashAfter : Room := { frames := 0, cells := 0, slots := 0, locals := 0 }
theorem hd_X10_crashAfter : yX10_crashAfter.cls = RX10 ∧ yX10_crashAfter.cls ≠ "java/lang/invoke/MethodHandle" ∧ yX10_crashAfter.cls ≠ "java/lang/invoke/VarHandle" ∧ (parseMethodDescriptor yX10_crashAfter.desc).map (fun d => d.parameters.length) = some 1 := by decide +kernel
set_option maxHeartbeats 4000000 in
set_option maxRecDepth 100000 in
theorem c_X10_crashAfter (l : Launch) (G : va_G) (cI cZ cJ : ClassId) (aM aMdisk aMits aMmany aMplace aMlength aMtimes aMvalues aMorder aMheadOf aMheadTime aMheadValue aMnext aMisNew aMcursorTime aMcursorValue aMmade : Nat) (M_thrown : Int32) (M_series : Int32) (M_most : Int32) (M_ratio : Int32) (M_writes : Int32) (M_fuse : Int32) (M_down : Int32) (M_recovers : Int32) (M_looks : Int32) (M_unpacked : Int32) (M_chunks : Int32) (M_epoch : Int32) (M_side : Int32) (M_logged : Int32) (M_nexts : Int32) (M_hasCursor : Int32) (M_cursorMany : Int32) (M_cursorAt : Int32) (M_bits : Int32) (M_from : Int32) (M_askMany : Int32) (M_askLeast : Int32) (M_askGreatest : Int32) (M_askSum : Int64) (p0 : Int32) {r : Int32} {o_M_thrown : Int32} {o_M_fuse : Int32} (hfin : m_X10_crashAfter M_thrown M_fuse M_down p0 = some (r, o_M_thrown, o_M_fuse)) : CT l yX10_crashAfter cX10_crashAfter 2 (some .boolean) rm_X10_crashAfter G (tyC cI cZ cJ) [.ref aM, .int p0] [oX10 aM M_thrown M_series M_most M_ratio aMdisk M_writes M_fuse M_down M_recovers M_looks M_unpacked aMits aMmany aMplace aMlength aMtimes aMvalues aMorder M_chunks M_epoch M_side aMheadOf aMheadTime aMheadValue M_logged aMnext aMisNew M_nexts aMcursorTime aMcursorValue M_hasCursor M_cursorMany M_cursorAt aMmade M_bits M_from M_askMany M_askLeast M_askGreatest M_askSum] (some (.int r)) [oX10 aM o_M_thrown M_series M_most M_ratio aMdisk M_writes o_M_fuse M_down M_recovers M_looks M_unpacked aMits aMmany aMplace aMlength aMtimes aMvalues aMorder M_chunks M_epoch M_side aMheadOf aMheadTime aMheadValue M_logged aMnext aMisNew M_nexts aMcursorTime aMcursorValue M_hasCursor M_cursorMany M_cursorAt aMmade M_bits M_from M_askMany M_askLeast M_askGreatest M_askSum] := by
  refine CT.ofW (lvl := [(0, .ref aM), (1, .int p0)]) (by decide) (Nat.le_of_ble_eq_true rfl) rfl ?_
  intro p e s m args below meth c A ls0 QQ hQQ hx hb hml hr hlocks htc hN hown hK hA hw0 hl0
  rw [m_X10_crashAfter] at hfin
  refine lv_aload_n hx hb dX10_crashAfter_0 rfl (lv_at hl0 0 rfl) ?_
  refine lv_iconst (v := (0 : Int32)) hx hb dX10_crashAfter_1 (by decide) ?_
  refine va_put (D := G) (ci := 10) (v := .int (0 : Int32)) (ty := .int) (C := RX10) (T := TX10) (N := 40) hx hb htc iX10 tyX10 tyX10_ok nmX10 hown hK hw0.1 hw0.2.1 hw0.2.2 0 rfl rfl 0 (by decide) (htc _ mw_947) (fun _ h9 => h9) rfl (tyX10_ok 0 (by decide)) rfl rfl (Nat.le_of_ble_eq_true rfl) dX10_crashAfter_2 (fun H1 locs1 hP hD hS => ?_)
  have hw1 : wS G A s H1 locs1 [oX10 aM (0 : Int32) M_series M_most M_ratio aMdisk M_writes M_fuse M_down M_recovers M_looks M_unpacked aMits aMmany aMplace aMlength aMtimes aMvalues aMorder M_chunks M_epoch M_side aMheadOf aMheadTime aMheadValue M_logged aMnext aMisNew M_nexts aMcursorTime aMcursorValue M_hasCursor M_cursorMany M_cursorAt aMmade M_bits M_from M_askMany M_askLeast M_askGreatest M_askSum] := ⟨hP, hD, hS⟩
  clear hP hD hS hw0
  refine lv_aload_n hx hb dX10_crashAfter_5 rfl (lv_at hl0 0 rfl) ?_
  refine va_get (D := G) (ci := 10) (v := .int M_down) (C := RX10) (T := TX10) (N := 40) hx hb htc iX10 hown hK hw1.1 0 rfl rfl 7 (by decide) (htc _ mw_954) (fun _ h9 => h9) rfl dX10_crashAfter_6 ?_
  refine lv_if_ne (tgt := 23) hx hb dX10_crashAfter_9 (by decide) (fun c_2 => ?_) (fun c_2 => ?_)
  · replace hfin := it_f c_2 hfin
    refine lv_iconst (v := (0 : Int32)) hx hb dX10_crashAfter_23 (by decide) ?_
    cases hfin
    rw [hQQ]
    exact ct_zret hx hb hr hlocks (Or.inl rfl) hw1.1 hw1.2.1 hw1.2.2 dX10_crashAfter_24
  · replace hfin := it_t c_2 hfin
    refine lv_iload_n hx hb dX10_crashAfter_12 rfl (lv_at hl0 1 rfl) ?_
    refine lv_if_lt (tgt := 23) hx hb dX10_crashAfter_13 (by decide) (fun c_3 => ?_) (fun c_3 => ?_)
    · replace hfin := it_t c_3 hfin
      refine lv_iconst (v := (0 : Int32)) hx hb dX10_crashAfter_23 (by decide) ?_
      cases hfin
      rw [hQQ]
      exact ct_zret hx hb hr hlocks (Or.inl rfl) hw1.1 hw1.2.1 hw1.2.2 dX10_crashAfter_24
    · replace hfin := it_f c_3 hfin
      refine lv_iload_n hx hb dX10_crashAfter_16 rfl (lv_at hl0 1 rfl) ?_
      refine lv_ldcw (v := (1000000 : Int32)) hx hb hown (htc _ mw_1288) dX10_crashAfter_17 ?_
      refine lv_icmp_le (tgt := 25) hx hb dX10_crashAfter_20 (by decide) (fun c_4 => ?_) (fun c_4 => ?_)
      · replace hfin := it_t c_4 hfin
        refine lv_aload_n hx hb dX10_crashAfter_25 rfl (lv_at hl0 0 rfl) ?_
        refine lv_iload_n hx hb dX10_crashAfter_26 rfl (lv_at hl0 1 rfl) ?_
        refine va_put (D := G) (ci := 10) (v := .int p0) (ty := .int) (C := RX10) (T := TX10) (N := 40) hx hb htc iX10 tyX10 tyX10_ok nmX10 hown hK hw1.1 hw1.2.1 hw1.2.2 0 rfl rfl 6 (by decide) (htc _ mw_953) (fun _ h9 => h9) rfl (tyX10_ok 6 (by decide)) rfl rfl (Nat.le_of_ble_eq_true rfl) dX10_crashAfter_27 (fun H5 locs5 hP hD hS => ?_)
        have hw5 : wS G A s H5 locs5 [oX10 aM (0 : Int32) M_series M_most M_ratio aMdisk M_writes p0 M_down M_recovers M_looks M_unpacked aMits aMmany aMplace aMlength aMtimes aMvalues aMorder M_chunks M_epoch M_side aMheadOf aMheadTime aMheadValue M_logged aMnext aMisNew M_nexts aMcursorTime aMcursorValue M_hasCursor M_cursorMany M_cursorAt aMmade M_bits M_from M_askMany M_askLeast M_askGreatest M_askSum] := ⟨hP, hD, hS⟩
        clear hP hD hS hw1 H1 locs1
        refine lv_iconst (v := (1 : Int32)) hx hb dX10_crashAfter_30 (by decide) ?_
        cases hfin
        rw [hQQ]
        exact ct_zret hx hb hr hlocks (Or.inr rfl) hw5.1 hw5.2.1 hw5.2.2 dX10_crashAfter_31
      · replace hfin := it_f c_4 hfin
        refine lv_iconst (v := (0 : Int32)) hx hb dX10_crashAfter_23 (by decide) ?_
        cases hfin
        rw [hQQ]
        exact ct_zret hx hb hr hlocks (Or.inl rfl) hw1.1 hw1.2.1 hw1.2.2 dX10_crashAfter_24
abbrev rm_X10_recover : Room := { frames := 3, cells := 0, slots := 0, locals := 72 }
theorem hd_X10_recover : yX10_recover.cls = RX10 ∧ yX10_recover.cls ≠ "java/lang/invoke/MethodHandle" ∧ yX10_recover.cls ≠ "java/lang/invoke/VarHandle" ∧ (parseMethodDescriptor yX10_recover.desc).map (fun d => d.parameters.length) = some 0 := by decide +kernel
set_option maxHeartbeats 4000000 in
set_option maxRecDepth 100000 in
theorem c_X10_recover (l : Launch) (G : va_G) (cI cZ cJ : ClassId) (aM aMdisk aMits aMmany aMplace aMlength aMtimes aMvalues aMorder aMheadOf aMheadTime aMheadValue aMnext aMisNew aMcursorTime aMcursorValue aMmade : Nat) (M_thrown : Int32) (M_series : Int32) (M_most : Int32) (M_ratio : Int32) (M_writes : Int32) (M_fuse : Int32) (M_down : Int32) (M_recovers : Int32) (M_looks : Int32) (M_unpacked : Int32) (M_chunks : Int32) (M_epoch : Int32) (M_side : Int32) (M_logged : Int32) (M_nexts : Int32) (M_hasCursor : Int32) (M_cursorMany : Int32) (M_cursorAt : Int32) (M_bits : Int32) (M_from : Int32) (M_askMany : Int32) (M_askLeast : Int32) (M_askGreatest : Int32) (M_askSum : Int64) (M_disk : Nat → Int32) (M_its : Nat → Int32) (M_many : Nat → Int32) (M_place : Nat → Int32) (M_length : Nat → Int32) (M_times : Nat → Int32) (M_values : Nat → Int32) (M_order : Nat → Int32) (M_headOf : Nat → Int32) (M_headTime : Nat → Int32) (M_headValue : Nat → Int32)  {r : Int32} {o_M_thrown : Int32} {o_M_fuse : Int32} {o_M_down : Int32} {o_M_recovers : Int32} {o_M_chunks : Int32} {o_M_epoch : Int32} {o_M_side : Int32} {o_M_logged : Int32} {o_M_hasCursor : Int32} {o_M_cursorMany : Int32} {o_M_cursorAt : Int32} {o_M_bits : Int32} {o_M_from : Int32} {o_M_its : Nat → Int32} {o_M_many : Nat → Int32} {o_M_place : Nat → Int32} {o_M_length : Nat → Int32} {o_M_times : Nat → Int32} {o_M_values : Nat → Int32} {o_M_order : Nat → Int32} {o_M_headOf : Nat → Int32} {o_M_headTime : Nat → Int32} {o_M_headValue : Nat → Int32} (hfin : m_X10_recover M_thrown M_fuse M_down M_recovers M_chunks M_epoch M_side M_logged M_hasCursor M_cursorMany M_cursorAt M_bits M_from M_disk M_its M_many M_place M_length M_times M_values M_order M_headOf M_headTime M_headValue = some (r, o_M_thrown, o_M_fuse, o_M_down, o_M_recovers, o_M_chunks, o_M_epoch, o_M_side, o_M_logged, o_M_hasCursor, o_M_cursorMany, o_M_cursorAt, o_M_bits, o_M_from, o_M_its, o_M_many, o_M_place, o_M_length, o_M_times, o_M_values, o_M_order, o_M_headOf, o_M_headTime, o_M_headValue)) : CT l yX10_recover cX10_recover 5 (some .int) rm_X10_recover G (tyC cI cZ cJ) [.ref aM] [oX10 aM M_thrown M_series M_most M_ratio aMdisk M_writes M_fuse M_down M_recovers M_looks M_unpacked aMits aMmany aMplace aMlength aMtimes aMvalues aMorder M_chunks M_epoch M_side aMheadOf aMheadTime aMheadValue M_logged aMnext aMisNew M_nexts aMcursorTime aMcursorValue M_hasCursor M_cursorMany M_cursorAt aMmade M_bits M_from M_askMany M_askLeast M_askGreatest M_askSum, rI aMdisk cI 4096 M_disk, rI aMits cI 240 M_its, rI aMmany cI 240 M_many, rI aMplace cI 240 M_place, rI aMlength cI 240 M_length, rI aMtimes cI 15360 M_times, rI aMvalues cI 15360 M_values, rI aMorder cI 96 M_order, rI aMheadOf cI 128 M_headOf, rI aMheadTime cI 128 M_headTime, rI aMheadValue cI 128 M_headValue] (some (.int r)) [oX10 aM o_M_thrown M_series M_most M_ratio aMdisk M_writes o_M_fuse o_M_down o_M_recovers M_looks M_unpacked aMits aMmany aMplace aMlength aMtimes aMvalues aMorder o_M_chunks o_M_epoch o_M_side aMheadOf aMheadTime aMheadValue o_M_logged aMnext aMisNew M_nexts aMcursorTime aMcursorValue o_M_hasCursor o_M_cursorMany o_M_cursorAt aMmade o_M_bits o_M_from M_askMany M_askLeast M_askGreatest M_askSum, rI aMdisk cI 4096 M_disk, rI aMits cI 240 o_M_its, rI aMmany cI 240 o_M_many, rI aMplace cI 240 o_M_place, rI aMlength cI 240 o_M_length, rI aMtimes cI 15360 o_M_times, rI aMvalues cI 15360 o_M_values, rI aMorder cI 96 o_M_order, rI aMheadOf cI 128 o_M_headOf, rI aMheadTime cI 128 o_M_headTime, rI aMheadValue cI 128 o_M_headValue] := by
  refine CT.ofW (lvl := [(0, .ref aM)]) (by decide) (Nat.le_of_ble_eq_true rfl) rfl ?_
  intro p e s m args below meth c A ls0 QQ hQQ hx hb hml hr hlocks htc hN hown hK hA hw0 hl0
  rw [m_X10_recover] at hfin
  refine lv_aload_n hx hb dX10_recover_0 rfl (lv_at hl0 0 rfl) ?_
  refine lv_iconst (v := (0 : Int32)) hx hb dX10_recover_1 (by decide) ?_
  refine va_put (D := G) (ci := 10) (v := .int (0 : Int32)) (ty := .int) (C := RX10) (T := TX10) (N := 40) hx hb htc iX10 tyX10 tyX10_ok nmX10 hown hK hw0.1 hw0.2.1 hw0.2.2 0 rfl rfl 0 (by decide) (htc _ mw_947) (fun _ h9 => h9) rfl (tyX10_ok 0 (by decide)) rfl rfl (Nat.le_of_ble_eq_true rfl) dX10_recover_2 (fun H1 locs1 hP hD hS => ?_)
  have hw1 : wS G A s H1 locs1 [oX10 aM (0 : Int32) M_series M_most M_ratio aMdisk M_writes M_fuse M_down M_recovers M_looks M_unpacked aMits aMmany aMplace aMlength aMtimes aMvalues aMorder M_chunks M_epoch M_side aMheadOf aMheadTime aMheadValue M_logged aMnext aMisNew M_nexts aMcursorTime aMcursorValue M_hasCursor M_cursorMany M_cursorAt aMmade M_bits M_from M_askMany M_askLeast M_askGreatest M_askSum, rI aMdisk cI 4096 M_disk, rI aMits cI 240 M_its, rI aMmany cI 240 M_many, rI aMplace cI 240 M_place, rI aMlength cI 240 M_length, rI aMtimes cI 15360 M_times, rI aMvalues cI 15360 M_values, rI aMorder cI 96 M_order, rI aMheadOf cI 128 M_headOf, rI aMheadTime cI 128 M_headTime, rI aMheadValue cI 128 M_headValue] := ⟨hP, hD, hS⟩
  clear hP hD hS hw0
  refine lv_aload_n hx hb dX10_recover_5 rfl (lv_at hl0 0 rfl) ?_
  replace hfin := ob3_some hfin
  obtain ⟨M_hasCursor_3, M_cursorMany_4, M_cursorAt_5, hE_2, hfin⟩ := hfin
  refine ctV (a := aM) (As := []) (rest := []) (st1 := []) (wc := [oX10 aM (0 : Int32) M_series M_most M_ratio aMdisk M_writes M_fuse M_down M_recovers M_looks M_unpacked aMits aMmany aMplace aMlength aMtimes aMvalues aMorder M_chunks M_epoch M_side aMheadOf aMheadTime aMheadValue M_logged aMnext aMisNew M_nexts aMcursorTime aMcursorValue M_hasCursor M_cursorMany M_cursorAt aMmade M_bits M_from M_askMany M_askLeast M_askGreatest M_askSum]) (w1 := [oX10 aM (0 : Int32) M_series M_most M_ratio aMdisk M_writes M_fuse M_down M_recovers M_looks M_unpacked aMits aMmany aMplace aMlength aMtimes aMvalues aMorder M_chunks M_epoch M_side aMheadOf aMheadTime aMheadValue M_logged aMnext aMisNew M_nexts aMcursorTime aMcursorValue M_hasCursor_3 M_cursorMany_4 M_cursorAt_5 aMmade M_bits M_from M_askMany M_askLeast M_askGreatest M_askSum]) (wr := [rI aMdisk cI 4096 M_disk, rI aMits cI 240 M_its, rI aMmany cI 240 M_many, rI aMplace cI 240 M_place, rI aMlength cI 240 M_length, rI aMtimes cI 15360 M_times, rI aMvalues cI 15360 M_values, rI aMorder cI 96 M_order, rI aMheadOf cI 128 M_headOf, rI aMheadTime cI 128 M_headTime, rI aMheadValue cI 128 M_headValue]) (wb := [oX10 aM (0 : Int32) M_series M_most M_ratio aMdisk M_writes M_fuse M_down M_recovers M_looks M_unpacked aMits aMmany aMplace aMlength aMtimes aMvalues aMorder M_chunks M_epoch M_side aMheadOf aMheadTime aMheadValue M_logged aMnext aMisNew M_nexts aMcursorTime aMcursorValue M_hasCursor_3 M_cursorMany_4 M_cursorAt_5 aMmade M_bits M_from M_askMany M_askLeast M_askGreatest M_askSum, rI aMdisk cI 4096 M_disk, rI aMits cI 240 M_its, rI aMmany cI 240 M_many, rI aMplace cI 240 M_place, rI aMlength cI 240 M_length, rI aMtimes cI 15360 M_times, rI aMvalues cI 15360 M_values, rI aMorder cI 96 M_order, rI aMheadOf cI 128 M_headOf, rI aMheadTime cI 128 M_headTime, rI aMheadValue cI 128 M_headValue]) (v := none) hx hb hml hown htc hN (c_X10_dropCursor l G cI cZ cJ aM aMdisk aMits aMmany aMplace aMlength aMtimes aMvalues aMorder aMheadOf aMheadTime aMheadValue aMnext aMisNew aMcursorTime aMcursorValue aMmade (0 : Int32) M_series M_most M_ratio M_writes M_fuse M_down M_recovers M_looks M_unpacked M_chunks M_epoch M_side M_logged M_nexts M_hasCursor M_cursorMany M_cursorAt M_bits M_from M_askMany M_askLeast M_askGreatest M_askSum  hE_2) mw_1076 mw_1078 mp_34 mw_12 mw_1079 hd_X10_dropCursor ⟨rfl, rfl⟩ ⟨Nat.le_of_ble_eq_true rfl, Nat.le_of_ble_eq_true rfl⟩ hK hw1 hA [0] [1, 2, 3, 4, 5, 6, 7, 8, 9, 10, 11] [11, 0, 1, 2, 3, 4, 5, 6, 7, 8, 9, 10] rfl rfl rfl rfl rfl (by decide) rfl rfl rfl 0 rfl rfl rfl rfl hl0.1 rfl rfl (Nat.le_of_ble_eq_true rfl) dX10_recover_6 ⟨Nat.zero_le _, Nat.zero_le _⟩ (fun H6 locs6 hw6 => ?_)
  clear hw1 H1 locs1
  refine lv_aload_n hx hb dX10_recover_9 rfl (lv_at hl0 0 rfl) ?_
  refine lv_dup hx hb dX10_recover_10 rfl ?_
  refine va_get (D := G) (ci := 10) (v := .int M_recovers) (C := RX10) (T := TX10) (N := 40) hx hb htc iX10 hown hK hw6.1 0 rfl rfl 8 (by decide) (htc _ mw_955) (fun _ h9 => h9) rfl dX10_recover_11 ?_
  refine lv_iconst (v := (1 : Int32)) hx hb dX10_recover_14 (by decide) ?_
  refine lv_iadd hx hb dX10_recover_15 ?_
  refine va_put (D := G) (ci := 10) (v := .int (M_recovers + (1 : Int32))) (ty := .int) (C := RX10) (T := TX10) (N := 40) hx hb htc iX10 tyX10 tyX10_ok nmX10 hown hK hw6.1 hw6.2.1 hw6.2.2 0 rfl rfl 8 (by decide) (htc _ mw_955) (fun _ h9 => h9) rfl (tyX10_ok 8 (by decide)) rfl rfl (Nat.le_of_ble_eq_true rfl) dX10_recover_16 (fun H7 locs7 hP hD hS => ?_)
  have hw7 : wS G A s H7 locs7 [oX10 aM (0 : Int32) M_series M_most M_ratio aMdisk M_writes M_fuse M_down (M_recovers + (1 : Int32)) M_looks M_unpacked aMits aMmany aMplace aMlength aMtimes aMvalues aMorder M_chunks M_epoch M_side aMheadOf aMheadTime aMheadValue M_logged aMnext aMisNew M_nexts aMcursorTime aMcursorValue M_hasCursor_3 M_cursorMany_4 M_cursorAt_5 aMmade M_bits M_from M_askMany M_askLeast M_askGreatest M_askSum, rI aMdisk cI 4096 M_disk, rI aMits cI 240 M_its, rI aMmany cI 240 M_many, rI aMplace cI 240 M_place, rI aMlength cI 240 M_length, rI aMtimes cI 15360 M_times, rI aMvalues cI 15360 M_values, rI aMorder cI 96 M_order, rI aMheadOf cI 128 M_headOf, rI aMheadTime cI 128 M_headTime, rI aMheadValue cI 128 M_headValue] := ⟨hP, hD, hS⟩
  clear hP hD hS hw6 H6 locs6
  refine lv_aload_n hx hb dX10_recover_19 rfl (lv_at hl0 0 rfl) ?_
  refine lv_iconst (v := (0 : Int32)) hx hb dX10_recover_20 (by decide) ?_
  refine va_put (D := G) (ci := 10) (v := .int (0 : Int32)) (ty := .boolean) (C := RX10) (T := TX10) (N := 40) hx hb htc iX10 tyX10 tyX10_ok nmX10 hown hK hw7.1 hw7.2.1 hw7.2.2 0 rfl rfl 7 (by decide) (htc _ mw_954) (fun _ h9 => h9) rfl (tyX10_ok 7 (by decide)) rfl rfl (Nat.le_of_ble_eq_true rfl) dX10_recover_21 (fun H8 locs8 hP hD hS => ?_)
  have hw8 : wS G A s H8 locs8 [oX10 aM (0 : Int32) M_series M_most M_ratio aMdisk M_writes M_fuse (0 : Int32) (M_recovers + (1 : Int32)) M_looks M_unpacked aMits aMmany aMplace aMlength aMtimes aMvalues aMorder M_chunks M_epoch M_side aMheadOf aMheadTime aMheadValue M_logged aMnext aMisNew M_nexts aMcursorTime aMcursorValue M_hasCursor_3 M_cursorMany_4 M_cursorAt_5 aMmade M_bits M_from M_askMany M_askLeast M_askGreatest M_askSum, rI aMdisk cI 4096 M_disk, rI aMits cI 240 M_its, rI aMmany cI 240 M_many, rI aMplace cI 240 M_place, rI aMlength cI 240 M_length, rI aMtimes cI 15360 M_times, rI aMvalues cI 15360 M_values, rI aMorder cI 96 M_order, rI aMheadOf cI 128 M_headOf, rI aMheadTime cI 128 M_headTime, rI aMheadValue cI 128 M_headValue] := ⟨hP, hD, hS⟩
  clear hP hD hS hw7 H7 locs7
  refine lv_aload_n hx hb dX10_recover_24 rfl (lv_at hl0 0 rfl) ?_
  refine lv_iconst (v := (-1 : Int32)) hx hb dX10_recover_25 (by decide) ?_
  refine va_put (D := G) (ci := 10) (v := .int (-1 : Int32)) (ty := .int) (C := RX10) (T := TX10) (N := 40) hx hb htc iX10 tyX10 tyX10_ok nmX10 hown hK hw8.1 hw8.2.1 hw8.2.2 0 rfl rfl 6 (by decide) (htc _ mw_953) (fun _ h9 => h9) rfl (tyX10_ok 6 (by decide)) rfl rfl (Nat.le_of_ble_eq_true rfl) dX10_recover_26 (fun H9 locs9 hP hD hS => ?_)
  have hw9 : wS G A s H9 locs9 [oX10 aM (0 : Int32) M_series M_most M_ratio aMdisk M_writes (-1 : Int32) (0 : Int32) (M_recovers + (1 : Int32)) M_looks M_unpacked aMits aMmany aMplace aMlength aMtimes aMvalues aMorder M_chunks M_epoch M_side aMheadOf aMheadTime aMheadValue M_logged aMnext aMisNew M_nexts aMcursorTime aMcursorValue M_hasCursor_3 M_cursorMany_4 M_cursorAt_5 aMmade M_bits M_from M_askMany M_askLeast M_askGreatest M_askSum, rI aMdisk cI 4096 M_disk, rI aMits cI 240 M_its, rI aMmany cI 240 M_many, rI aMplace cI 240 M_place, rI aMlength cI 240 M_length, rI aMtimes cI 15360 M_times, rI aMvalues cI 15360 M_values, rI aMorder cI 96 M_order, rI aMheadOf cI 128 M_headOf, rI aMheadTime cI 128 M_headTime, rI aMheadValue cI 128 M_headValue] := ⟨hP, hD, hS⟩
  clear hP hD hS hw8 H8 locs8
  refine lv_aload_n hx hb dX10_recover_29 rfl (lv_at hl0 0 rfl) ?_
  refine lv_aload_n hx hb dX10_recover_30 rfl (lv_at hl0 0 rfl) ?_
  refine va_get (D := G) (ci := 10) (v := .ref aMdisk) (C := RX10) (T := TX10) (N := 40) hx hb htc iX10 hown hK hw9.1 0 rfl rfl 4 (by decide) (htc _ mw_951) (fun _ h9 => h9) rfl dX10_recover_31 ?_
  refine lv_iconst (v := (0 : Int32)) hx hb dX10_recover_34 (by decide) ?_
  replace hfin := ckb_some hfin
  obtain ⟨hin_10, hfin⟩ := hfin
  refine va_iald hx hb hK hw9.1 1 0 rfl rfl hin_10 dX10_recover_35 ?_
  refine lv_iconst (v := (1 : Int32)) hx hb dX10_recover_36 (by decide) ?_
  refine lv_iand hx hb dX10_recover_37 ?_
  refine va_put (D := G) (ci := 10) (v := .int ((M_disk (Int32.toNatClampNeg (0 : Int32))) &&& (1 : Int32))) (ty := .int) (C := RX10) (T := TX10) (N := 40) hx hb htc iX10 tyX10 tyX10_ok nmX10 hown hK hw9.1 hw9.2.1 hw9.2.2 0 rfl rfl 20 (by decide) (htc _ mw_967) (fun _ h9 => h9) rfl (tyX10_ok 20 (by decide)) rfl rfl (Nat.le_of_ble_eq_true rfl) dX10_recover_38 (fun H11 locs11 hP hD hS => ?_)
  have hw11 : wS G A s H11 locs11 [oX10 aM (0 : Int32) M_series M_most M_ratio aMdisk M_writes (-1 : Int32) (0 : Int32) (M_recovers + (1 : Int32)) M_looks M_unpacked aMits aMmany aMplace aMlength aMtimes aMvalues aMorder M_chunks M_epoch ((M_disk (Int32.toNatClampNeg (0 : Int32))) &&& (1 : Int32)) aMheadOf aMheadTime aMheadValue M_logged aMnext aMisNew M_nexts aMcursorTime aMcursorValue M_hasCursor_3 M_cursorMany_4 M_cursorAt_5 aMmade M_bits M_from M_askMany M_askLeast M_askGreatest M_askSum, rI aMdisk cI 4096 M_disk, rI aMits cI 240 M_its, rI aMmany cI 240 M_many, rI aMplace cI 240 M_place, rI aMlength cI 240 M_length, rI aMtimes cI 15360 M_times, rI aMvalues cI 15360 M_values, rI aMorder cI 96 M_order, rI aMheadOf cI 128 M_headOf, rI aMheadTime cI 128 M_headTime, rI aMheadValue cI 128 M_headValue] := ⟨hP, hD, hS⟩
  clear hP hD hS hw9 H9 locs9
  refine lv_aload_n hx hb dX10_recover_41 rfl (lv_at hl0 0 rfl) ?_
  refine lv_aload_n hx hb dX10_recover_42 rfl (lv_at hl0 0 rfl) ?_
  refine va_get (D := G) (ci := 10) (v := .ref aMdisk) (C := RX10) (T := TX10) (N := 40) hx hb htc iX10 hown hK hw11.1 0 rfl rfl 4 (by decide) (htc _ mw_951) (fun _ h9 => h9) rfl dX10_recover_43 ?_
  refine lv_iconst (v := (0 : Int32)) hx hb dX10_recover_46 (by decide) ?_
  replace hfin := ckb_some hfin
  obtain ⟨hin_12, hfin⟩ := hfin
  refine va_iald hx hb hK hw11.1 1 0 rfl rfl hin_12 dX10_recover_47 ?_
  refine lv_iconst (v := (1 : Int32)) hx hb dX10_recover_48 (by decide) ?_
  refine lv_ishr hx hb dX10_recover_49 ?_
  refine va_put (D := G) (ci := 10) (v := .int ((M_disk (Int32.toNatClampNeg (0 : Int32))) >>> ((1 : Int32) &&& 31))) (ty := .int) (C := RX10) (T := TX10) (N := 40) hx hb htc iX10 tyX10 tyX10_ok nmX10 hown hK hw11.1 hw11.2.1 hw11.2.2 0 rfl rfl 19 (by decide) (htc _ mw_966) (fun _ h9 => h9) rfl (tyX10_ok 19 (by decide)) rfl rfl (Nat.le_of_ble_eq_true rfl) dX10_recover_50 (fun H13 locs13 hP hD hS => ?_)
  have hw13 : wS G A s H13 locs13 [oX10 aM (0 : Int32) M_series M_most M_ratio aMdisk M_writes (-1 : Int32) (0 : Int32) (M_recovers + (1 : Int32)) M_looks M_unpacked aMits aMmany aMplace aMlength aMtimes aMvalues aMorder M_chunks ((M_disk (Int32.toNatClampNeg (0 : Int32))) >>> ((1 : Int32) &&& 31)) ((M_disk (Int32.toNatClampNeg (0 : Int32))) &&& (1 : Int32)) aMheadOf aMheadTime aMheadValue M_logged aMnext aMisNew M_nexts aMcursorTime aMcursorValue M_hasCursor_3 M_cursorMany_4 M_cursorAt_5 aMmade M_bits M_from M_askMany M_askLeast M_askGreatest M_askSum, rI aMdisk cI 4096 M_disk, rI aMits cI 240 M_its, rI aMmany cI 240 M_many, rI aMplace cI 240 M_place, rI aMlength cI 240 M_length, rI aMtimes cI 15360 M_times, rI aMvalues cI 15360 M_values, rI aMorder cI 96 M_order, rI aMheadOf cI 128 M_headOf, rI aMheadTime cI 128 M_headTime, rI aMheadValue cI 128 M_headValue] := ⟨hP, hD, hS⟩
  clear hP hD hS hw11 H11 locs11
  refine lv_aload_n hx hb dX10_recover_53 rfl (lv_at hl0 0 rfl) ?_
  refine lv_aload_n hx hb dX10_recover_54 rfl (lv_at hl0 0 rfl) ?_
  refine va_get (D := G) (ci := 10) (v := .int ((M_disk (Int32.toNatClampNeg (0 : Int32))) &&& (1 : Int32))) (C := RX10) (T := TX10) (N := 40) hx hb htc iX10 hown hK hw13.1 0 rfl rfl 20 (by decide) (htc _ mw_967) (fun _ h9 => h9) rfl dX10_recover_55 ?_
  replace hfin := ob1_some hfin
  obtain ⟨r_15, hE_14, hfin⟩ := hfin
  refine ctV (a := aM) (As := [.int ((M_disk (Int32.toNatClampNeg (0 : Int32))) &&& (1 : Int32))]) (rest := []) (st1 := [.int r_15]) (wc := [oX10 aM (0 : Int32) M_series M_most M_ratio aMdisk M_writes (-1 : Int32) (0 : Int32) (M_recovers + (1 : Int32)) M_looks M_unpacked aMits aMmany aMplace aMlength aMtimes aMvalues aMorder M_chunks ((M_disk (Int32.toNatClampNeg (0 : Int32))) >>> ((1 : Int32) &&& 31)) ((M_disk (Int32.toNatClampNeg (0 : Int32))) &&& (1 : Int32)) aMheadOf aMheadTime aMheadValue M_logged aMnext aMisNew M_nexts aMcursorTime aMcursorValue M_hasCursor_3 M_cursorMany_4 M_cursorAt_5 aMmade M_bits M_from M_askMany M_askLeast M_askGreatest M_askSum]) (w1 := [oX10 aM (0 : Int32) M_series M_most M_ratio aMdisk M_writes (-1 : Int32) (0 : Int32) (M_recovers + (1 : Int32)) M_looks M_unpacked aMits aMmany aMplace aMlength aMtimes aMvalues aMorder M_chunks ((M_disk (Int32.toNatClampNeg (0 : Int32))) >>> ((1 : Int32) &&& 31)) ((M_disk (Int32.toNatClampNeg (0 : Int32))) &&& (1 : Int32)) aMheadOf aMheadTime aMheadValue M_logged aMnext aMisNew M_nexts aMcursorTime aMcursorValue M_hasCursor_3 M_cursorMany_4 M_cursorAt_5 aMmade M_bits M_from M_askMany M_askLeast M_askGreatest M_askSum]) (wr := [rI aMdisk cI 4096 M_disk, rI aMits cI 240 M_its, rI aMmany cI 240 M_many, rI aMplace cI 240 M_place, rI aMlength cI 240 M_length, rI aMtimes cI 15360 M_times, rI aMvalues cI 15360 M_values, rI aMorder cI 96 M_order, rI aMheadOf cI 128 M_headOf, rI aMheadTime cI 128 M_headTime, rI aMheadValue cI 128 M_headValue]) (wb := [oX10 aM (0 : Int32) M_series M_most M_ratio aMdisk M_writes (-1 : Int32) (0 : Int32) (M_recovers + (1 : Int32)) M_looks M_unpacked aMits aMmany aMplace aMlength aMtimes aMvalues aMorder M_chunks ((M_disk (Int32.toNatClampNeg (0 : Int32))) >>> ((1 : Int32) &&& 31)) ((M_disk (Int32.toNatClampNeg (0 : Int32))) &&& (1 : Int32)) aMheadOf aMheadTime aMheadValue M_logged aMnext aMisNew M_nexts aMcursorTime aMcursorValue M_hasCursor_3 M_cursorMany_4 M_cursorAt_5 aMmade M_bits M_from M_askMany M_askLeast M_askGreatest M_askSum, rI aMdisk cI 4096 M_disk, rI aMits cI 240 M_its, rI aMmany cI 240 M_many, rI aMplace cI 240 M_place, rI aMlength cI 240 M_length, rI aMtimes cI 15360 M_times, rI aMvalues cI 15360 M_values, rI aMorder cI 96 M_order, rI aMheadOf cI 128 M_headOf, rI aMheadTime cI 128 M_headTime, rI aMheadValue cI 128 M_headValue]) (v := (some (.int r_15))) hx hb hml hown htc hN (c_X10_index l G cI cZ cJ aM aMdisk aMits aMmany aMplace aMlength aMtimes aMvalues aMorder aMheadOf aMheadTime aMheadValue aMnext aMisNew aMcursorTime aMcursorValue aMmade (0 : Int32) M_series M_most M_ratio M_writes (-1 : Int32) (0 : Int32) (M_recovers + (1 : Int32)) M_looks M_unpacked M_chunks ((M_disk (Int32.toNatClampNeg (0 : Int32))) >>> ((1 : Int32) &&& 31)) ((M_disk (Int32.toNatClampNeg (0 : Int32))) &&& (1 : Int32)) M_logged M_nexts M_hasCursor_3 M_cursorMany_4 M_cursorAt_5 M_bits M_from M_askMany M_askLeast M_askGreatest M_askSum ((M_disk (Int32.toNatClampNeg (0 : Int32))) &&& (1 : Int32)) hE_14) mw_1169 mw_1171 mp_53 mw_12 mw_1172 hd_X10_index ⟨rfl, rfl⟩ ⟨Nat.le_of_ble_eq_true rfl, Nat.le_of_ble_eq_true rfl⟩ hK hw13 hA [0] [1, 2, 3, 4, 5, 6, 7, 8, 9, 10, 11] [11, 0, 1, 2, 3, 4, 5, 6, 7, 8, 9, 10] rfl rfl rfl rfl rfl (by decide) rfl rfl rfl 0 rfl rfl rfl rfl hl0.1 rfl rfl (Nat.le_of_ble_eq_true rfl) dX10_recover_58 ⟨Nat.zero_le _, Nat.zero_le _⟩ (fun H16 locs16 hw16 => ?_)
  clear hw13 H13 locs13
  refine lv_istore_n (lv' := [(1, .int r_15), (0, .ref aM)]) hx hb dX10_recover_61 rfl hl0 (by decide) rfl (fun ls17 hl17 => ?_)
  clear hl0 ls0
  refine lv_aload_n hx hb dX10_recover_62 rfl (lv_at hl17 1 rfl) ?_
  refine lv_aload_n hx hb dX10_recover_63 rfl (lv_at hl17 1 rfl) ?_
  refine va_get (D := G) (ci := 10) (v := .ref aMdisk) (C := RX10) (T := TX10) (N := 40) hx hb htc iX10 hown hK hw16.1 0 rfl rfl 4 (by decide) (htc _ mw_951) (fun _ h9 => h9) rfl dX10_recover_64 ?_
  refine lv_iload_n hx hb dX10_recover_67 rfl (lv_at hl17 0 rfl) ?_
  replace hfin := ckb_some hfin
  obtain ⟨hin_18, hfin⟩ := hfin
  refine va_iald hx hb hK hw16.1 1 0 rfl rfl hin_18 dX10_recover_68 ?_
  refine va_put (D := G) (ci := 10) (v := .int (M_disk (Int32.toNatClampNeg r_15))) (ty := .int) (C := RX10) (T := TX10) (N := 40) hx hb htc iX10 tyX10 tyX10_ok nmX10 hown hK hw16.1 hw16.2.1 hw16.2.2 0 rfl rfl 18 (by decide) (htc _ mw_965) (fun _ h9 => h9) rfl (tyX10_ok 18 (by decide)) rfl rfl (Nat.le_of_ble_eq_true rfl) dX10_recover_69 (fun H19 locs19 hP hD hS => ?_)
  have hw19 : wS G A s H19 locs19 [oX10 aM (0 : Int32) M_series M_most M_ratio aMdisk M_writes (-1 : Int32) (0 : Int32) (M_recovers + (1 : Int32)) M_looks M_unpacked aMits aMmany aMplace aMlength aMtimes aMvalues aMorder (M_disk (Int32.toNatClampNeg r_15)) ((M_disk (Int32.toNatClampNeg (0 : Int32))) >>> ((1 : Int32) &&& 31)) ((M_disk (Int32.toNatClampNeg (0 : Int32))) &&& (1 : Int32)) aMheadOf aMheadTime aMheadValue M_logged aMnext aMisNew M_nexts aMcursorTime aMcursorValue M_hasCursor_3 M_cursorMany_4 M_cursorAt_5 aMmade M_bits M_from M_askMany M_askLeast M_askGreatest M_askSum, rI aMdisk cI 4096 M_disk, rI aMits cI 240 M_its, rI aMmany cI 240 M_many, rI aMplace cI 240 M_place, rI aMlength cI 240 M_length, rI aMtimes cI 15360 M_times, rI aMvalues cI 15360 M_values, rI aMorder cI 96 M_order, rI aMheadOf cI 128 M_headOf, rI aMheadTime cI 128 M_headTime, rI aMheadValue cI 128 M_headValue] := ⟨hP, hD, hS⟩
  clear hP hD hS hw16 H16 locs16
  refine lv_iconst (v := (0 : Int32)) hx hb dX10_recover_72 (by decide) ?_
  refine lv_istore_n (lv' := [(2, .int (0 : Int32)), (1, .int r_15), (0, .ref aM)]) hx hb dX10_recover_73 rfl hl17 (by decide) rfl (fun ls20 hl20 => ?_)
  clear hl17 ls17
  refine lv_iconst (v := (0 : Int32)) hx hb dX10_recover_74 (by decide) ?_
  refine lv_istore_n (lv' := [(3, .int (0 : Int32)), (2, .int (0 : Int32)), (1, .int r_15), (0, .ref aM)]) hx hb dX10_recover_75 rfl hl20 (by decide) rfl (fun ls21 hl21 => ?_)
  clear hl20 ls20
  replace hfin := ob10_some hfin
  obtain ⟨v2_37, M_bits_38, M_from_39, M_its_40, M_many_41, M_place_42, M_length_43, M_times_44, M_values_45, M_order_46, hL_33, hfin⟩ := hfin
  have kx_34 : ∀ (H : Heap) (locs : List Loc) (ls : Array Slot), wS G A s H locs [oX10 aM (0 : Int32) M_series M_most M_ratio aMdisk M_writes (-1 : Int32) (0 : Int32) (M_recovers + (1 : Int32)) M_looks M_unpacked aMits aMmany aMplace aMlength aMtimes aMvalues aMorder (M_disk (Int32.toNatClampNeg r_15)) ((M_disk (Int32.toNatClampNeg (0 : Int32))) >>> ((1 : Int32) &&& 31)) ((M_disk (Int32.toNatClampNeg (0 : Int32))) &&& (1 : Int32)) aMheadOf aMheadTime aMheadValue M_logged aMnext aMisNew M_nexts aMcursorTime aMcursorValue M_hasCursor_3 M_cursorMany_4 M_cursorAt_5 aMmade M_bits_38 M_from_39 M_askMany M_askLeast M_askGreatest M_askSum, rI aMdisk cI 4096 M_disk, rI aMits cI 240 M_its_40, rI aMmany cI 240 M_many_41, rI aMplace cI 240 M_place_42, rI aMlength cI 240 M_length_43, rI aMtimes cI 15360 M_times_44, rI aMvalues cI 15360 M_values_45, rI aMorder cI 96 M_order_46, rI aMheadOf cI 128 M_headOf, rI aMheadTime cI 128 M_headTime, rI aMheadValue cI 128 M_headValue] → lv_has ls 5 [(0, .ref aM), (2, .int v2_37)] → W p l e rm_X10_recover s m args below meth c H locs 0 0 QQ (F0 m 181 ls []) := by
    clear hw19 H19 locs19 hl21 ls21 hL_33
    intro H73 locs73 ls73 hw73 hl73
    refine lv_aload_n hx hb dX10_recover_181 rfl (lv_at hl73 0 rfl) ?_
    refine lv_iconst (v := (0 : Int32)) hx hb dX10_recover_182 (by decide) ?_
    refine va_put (D := G) (ci := 10) (v := .int (0 : Int32)) (ty := .int) (C := RX10) (T := TX10) (N := 40) hx hb htc iX10 tyX10 tyX10_ok nmX10 hown hK hw73.1 hw73.2.1 hw73.2.2 0 rfl rfl 24 (by decide) (htc _ mw_971) (fun _ h9 => h9) rfl (tyX10_ok 24 (by decide)) rfl rfl (Nat.le_of_ble_eq_true rfl) dX10_recover_183 (fun H74 locs74 hP hD hS => ?_)
    have hw74 : wS G A s H74 locs74 [oX10 aM (0 : Int32) M_series M_most M_ratio aMdisk M_writes (-1 : Int32) (0 : Int32) (M_recovers + (1 : Int32)) M_looks M_unpacked aMits aMmany aMplace aMlength aMtimes aMvalues aMorder (M_disk (Int32.toNatClampNeg r_15)) ((M_disk (Int32.toNatClampNeg (0 : Int32))) >>> ((1 : Int32) &&& 31)) ((M_disk (Int32.toNatClampNeg (0 : Int32))) &&& (1 : Int32)) aMheadOf aMheadTime aMheadValue (0 : Int32) aMnext aMisNew M_nexts aMcursorTime aMcursorValue M_hasCursor_3 M_cursorMany_4 M_cursorAt_5 aMmade M_bits_38 M_from_39 M_askMany M_askLeast M_askGreatest M_askSum, rI aMdisk cI 4096 M_disk, rI aMits cI 240 M_its_40, rI aMmany cI 240 M_many_41, rI aMplace cI 240 M_place_42, rI aMlength cI 240 M_length_43, rI aMtimes cI 15360 M_times_44, rI aMvalues cI 15360 M_values_45, rI aMorder cI 96 M_order_46, rI aMheadOf cI 128 M_headOf, rI aMheadTime cI 128 M_headTime, rI aMheadValue cI 128 M_headValue] := ⟨hP, hD, hS⟩
    clear hP hD hS hw73 H73 locs73
    replace hfin := ob4_some hfin
    obtain ⟨M_logged_83, M_headOf_84, M_headTime_85, M_headValue_86, hL_79, hfin⟩ := hfin
    have kx_80 : ∀ (H : Heap) (locs : List Loc) (ls : Array Slot), wS G A s H locs [oX10 aM (0 : Int32) M_series M_most M_ratio aMdisk M_writes (-1 : Int32) (0 : Int32) (M_recovers + (1 : Int32)) M_looks M_unpacked aMits aMmany aMplace aMlength aMtimes aMvalues aMorder (M_disk (Int32.toNatClampNeg r_15)) ((M_disk (Int32.toNatClampNeg (0 : Int32))) >>> ((1 : Int32) &&& 31)) ((M_disk (Int32.toNatClampNeg (0 : Int32))) &&& (1 : Int32)) aMheadOf aMheadTime aMheadValue M_logged_83 aMnext aMisNew M_nexts aMcursorTime aMcursorValue M_hasCursor_3 M_cursorMany_4 M_cursorAt_5 aMmade M_bits_38 M_from_39 M_askMany M_askLeast M_askGreatest M_askSum, rI aMdisk cI 4096 M_disk, rI aMits cI 240 M_its_40, rI aMmany cI 240 M_many_41, rI aMplace cI 240 M_place_42, rI aMlength cI 240 M_length_43, rI aMtimes cI 15360 M_times_44, rI aMvalues cI 15360 M_values_45, rI aMorder cI 96 M_order_46, rI aMheadOf cI 128 M_headOf_84, rI aMheadTime cI 128 M_headTime_85, rI aMheadValue cI 128 M_headValue_86] → lv_has ls 5 [(0, .ref aM), (2, .int v2_37)] → W p l e rm_X10_recover s m args below meth c H locs 0 0 QQ (F0 m 311 ls []) := by
      clear hw74 H74 locs74 hl73 ls73 hL_79
      intro H101 locs101 ls101 hw101 hl101
      refine lv_iload_n hx hb dX10_recover_311 rfl (lv_at hl101 1 rfl) ?_
      refine lv_aload_n hx hb dX10_recover_312 rfl (lv_at hl101 0 rfl) ?_
      refine va_get (D := G) (ci := 10) (v := .int M_logged_83) (C := RX10) (T := TX10) (N := 40) hx hb htc iX10 hown hK hw101.1 0 rfl rfl 24 (by decide) (htc _ mw_971) (fun _ h9 => h9) rfl dX10_recover_313 ?_
      refine lv_iadd hx hb dX10_recover_316 ?_
      cases hfin
      rw [hQQ]
      exact ct_iret hx hb hr hlocks hw101.1 hw101.2.1 hw101.2.2 dX10_recover_317
    have lp_81 : ∀ (n : Nat) (M_logged_75 : Int32) (M_headOf_76 : Nat → Int32) (M_headTime_77 : Nat → Int32) (M_headValue_78 : Nat → Int32), lp_X10_recover_186 M_disk n M_logged_75 M_headOf_76 M_headTime_77 M_headValue_78 = some (M_logged_83, M_headOf_84, M_headTime_85, M_headValue_86) → ∀ (H : Heap) (locs : List Loc) (ls : Array Slot), wS G A s H locs [oX10 aM (0 : Int32) M_series M_most M_ratio aMdisk M_writes (-1 : Int32) (0 : Int32) (M_recovers + (1 : Int32)) M_looks M_unpacked aMits aMmany aMplace aMlength aMtimes aMvalues aMorder (M_disk (Int32.toNatClampNeg r_15)) ((M_disk (Int32.toNatClampNeg (0 : Int32))) >>> ((1 : Int32) &&& 31)) ((M_disk (Int32.toNatClampNeg (0 : Int32))) &&& (1 : Int32)) aMheadOf aMheadTime aMheadValue M_logged_75 aMnext aMisNew M_nexts aMcursorTime aMcursorValue M_hasCursor_3 M_cursorMany_4 M_cursorAt_5 aMmade M_bits_38 M_from_39 M_askMany M_askLeast M_askGreatest M_askSum, rI aMdisk cI 4096 M_disk, rI aMits cI 240 M_its_40, rI aMmany cI 240 M_many_41, rI aMplace cI 240 M_place_42, rI aMlength cI 240 M_length_43, rI aMtimes cI 15360 M_times_44, rI aMvalues cI 15360 M_values_45, rI aMorder cI 96 M_order_46, rI aMheadOf cI 128 M_headOf_76, rI aMheadTime cI 128 M_headTime_77, rI aMheadValue cI 128 M_headValue_78] → lv_has ls 5 [(0, .ref aM), (2, .int v2_37)] → W p l e rm_X10_recover s m args below meth c H locs 0 0 QQ (F0 m 186 ls []) := by
      clear hw74 H74 locs74 hl73 ls73 hfin
      intro n
      induction n with
      | zero =>
        intro M_logged_75 M_headOf_76 M_headTime_77 M_headValue_78 hB_82
        exact absurd hB_82 (by rw [lp_X10_recover_186]; exact fun h9 => nomatch h9)
      | succ n ih =>
        intro M_logged_75 M_headOf_76 M_headTime_77 M_headValue_78 hB_82 H87 locs87 ls87 hw87 hl87
        rw [lp_X10_recover_186] at hB_82
        refine lv_aload_n hx hb dX10_recover_186 rfl (lv_at hl87 0 rfl) ?_
        refine va_get (D := G) (ci := 10) (v := .int M_logged_75) (C := RX10) (T := TX10) (N := 40) hx hb htc iX10 hown hK hw87.1 0 rfl rfl 24 (by decide) (htc _ mw_971) (fun _ h9 => h9) rfl dX10_recover_187 ?_
        refine lv_sipush (v := (128 : Int32)) hx hb dX10_recover_190 (by decide) ?_
        refine lv_icmp_ge (tgt := 311) hx hb dX10_recover_193 (by decide) (fun c_88 => ?_) (fun c_88 => ?_)
        · replace hB_82 := it_t c_88 hB_82
          cases hB_82
          exact kx_80 _ _ _ hw87 (lv_sub hl87 [0, 1] rfl)
        · replace hB_82 := it_f c_88 hB_82
          refine lv_aload_n hx hb dX10_recover_196 rfl (lv_at hl87 0 rfl) ?_
          refine va_get (D := G) (ci := 10) (v := .ref aMdisk) (C := RX10) (T := TX10) (N := 40) hx hb htc iX10 hown hK hw87.1 0 rfl rfl 4 (by decide) (htc _ mw_951) (fun _ h9 => h9) rfl dX10_recover_197 ?_
          refine lv_sipush (v := (1923 : Int32)) hx hb dX10_recover_200 (by decide) ?_
          refine lv_iconst (v := (4 : Int32)) hx hb dX10_recover_203 (by decide) ?_
          refine lv_aload_n hx hb dX10_recover_204 rfl (lv_at hl87 0 rfl) ?_
          refine va_get (D := G) (ci := 10) (v := .int M_logged_75) (C := RX10) (T := TX10) (N := 40) hx hb htc iX10 hown hK hw87.1 0 rfl rfl 24 (by decide) (htc _ mw_971) (fun _ h9 => h9) rfl dX10_recover_205 ?_
          refine lv_imul hx hb dX10_recover_208 ?_
          refine lv_iadd hx hb dX10_recover_209 ?_
          refine lv_iconst (v := (3 : Int32)) hx hb dX10_recover_210 (by decide) ?_
          refine lv_iadd hx hb dX10_recover_211 ?_
          replace hB_82 := ckb_some hB_82
          obtain ⟨hin_89, hB_82⟩ := hB_82
          refine va_iald hx hb hK hw87.1 1 0 rfl rfl hin_89 dX10_recover_212 ?_
          refine lv_aload_n hx hb dX10_recover_213 rfl (lv_at hl87 0 rfl) ?_
          refine va_get (D := G) (ci := 10) (v := .int ((M_disk (Int32.toNatClampNeg (0 : Int32))) >>> ((1 : Int32) &&& 31))) (C := RX10) (T := TX10) (N := 40) hx hb htc iX10 hown hK hw87.1 0 rfl rfl 19 (by decide) (htc _ mw_966) (fun _ h9 => h9) rfl dX10_recover_214 ?_
          refine lv_iconst (v := (1 : Int32)) hx hb dX10_recover_217 (by decide) ?_
          refine lv_iadd hx hb dX10_recover_218 ?_
          refine lv_icmp_ne (tgt := 311) hx hb dX10_recover_219 (by decide) (fun c_90 => ?_) (fun c_90 => ?_)
          · replace hB_82 := it_f c_90 hB_82
            cases hB_82
            exact kx_80 _ _ _ hw87 (lv_sub hl87 [0, 1] rfl)
          · replace hB_82 := it_t c_90 hB_82
            refine lv_aload_n hx hb dX10_recover_222 rfl (lv_at hl87 0 rfl) ?_
            refine va_get (D := G) (ci := 10) (v := .ref aMheadOf) (C := RX10) (T := TX10) (N := 40) hx hb htc iX10 hown hK hw87.1 0 rfl rfl 21 (by decide) (htc _ mw_968) (fun _ h9 => h9) rfl dX10_recover_223 ?_
            refine lv_aload_n hx hb dX10_recover_226 rfl (lv_at hl87 0 rfl) ?_
            refine va_get (D := G) (ci := 10) (v := .int M_logged_75) (C := RX10) (T := TX10) (N := 40) hx hb htc iX10 hown hK hw87.1 0 rfl rfl 24 (by decide) (htc _ mw_971) (fun _ h9 => h9) rfl dX10_recover_227 ?_
            refine lv_aload_n hx hb dX10_recover_230 rfl (lv_at hl87 0 rfl) ?_
            refine va_get (D := G) (ci := 10) (v := .ref aMdisk) (C := RX10) (T := TX10) (N := 40) hx hb htc iX10 hown hK hw87.1 0 rfl rfl 4 (by decide) (htc _ mw_951) (fun _ h9 => h9) rfl dX10_recover_231 ?_
            refine lv_sipush (v := (1923 : Int32)) hx hb dX10_recover_234 (by decide) ?_
            refine lv_iconst (v := (4 : Int32)) hx hb dX10_recover_237 (by decide) ?_
            refine lv_aload_n hx hb dX10_recover_238 rfl (lv_at hl87 0 rfl) ?_
            refine va_get (D := G) (ci := 10) (v := .int M_logged_75) (C := RX10) (T := TX10) (N := 40) hx hb htc iX10 hown hK hw87.1 0 rfl rfl 24 (by decide) (htc _ mw_971) (fun _ h9 => h9) rfl dX10_recover_239 ?_
            refine lv_imul hx hb dX10_recover_242 ?_
            refine lv_iadd hx hb dX10_recover_243 ?_
            replace hB_82 := ckb_some hB_82
            obtain ⟨hin_91, hB_82⟩ := hB_82
            refine va_iald hx hb hK hw87.1 1 0 rfl rfl hin_91 dX10_recover_244 ?_
            replace hB_82 := ckb_some hB_82
            obtain ⟨hin_92, hB_82⟩ := hB_82
            refine va_iast hx hb hK hw87.1 hw87.2.1 hw87.2.2 9 0 rfl rfl hin_92 dX10_recover_245 (fun H93 locs93 hP hD hS => ?_)
            have hw93 : wS G A s H93 locs93 [oX10 aM (0 : Int32) M_series M_most M_ratio aMdisk M_writes (-1 : Int32) (0 : Int32) (M_recovers + (1 : Int32)) M_looks M_unpacked aMits aMmany aMplace aMlength aMtimes aMvalues aMorder (M_disk (Int32.toNatClampNeg r_15)) ((M_disk (Int32.toNatClampNeg (0 : Int32))) >>> ((1 : Int32) &&& 31)) ((M_disk (Int32.toNatClampNeg (0 : Int32))) &&& (1 : Int32)) aMheadOf aMheadTime aMheadValue M_logged_75 aMnext aMisNew M_nexts aMcursorTime aMcursorValue M_hasCursor_3 M_cursorMany_4 M_cursorAt_5 aMmade M_bits_38 M_from_39 M_askMany M_askLeast M_askGreatest M_askSum, rI aMdisk cI 4096 M_disk, rI aMits cI 240 M_its_40, rI aMmany cI 240 M_many_41, rI aMplace cI 240 M_place_42, rI aMlength cI 240 M_length_43, rI aMtimes cI 15360 M_times_44, rI aMvalues cI 15360 M_values_45, rI aMorder cI 96 M_order_46, rI aMheadOf cI 128 (upd M_headOf_76 (Int32.toNatClampNeg M_logged_75) (M_disk (Int32.toNatClampNeg ((1923 : Int32) + ((4 : Int32) * M_logged_75))))), rI aMheadTime cI 128 M_headTime_77, rI aMheadValue cI 128 M_headValue_78] := ⟨hP, hD, hS⟩
            clear hP hD hS hw87 H87 locs87
            refine lv_aload_n hx hb dX10_recover_246 rfl (lv_at hl87 0 rfl) ?_
            refine va_get (D := G) (ci := 10) (v := .ref aMheadTime) (C := RX10) (T := TX10) (N := 40) hx hb htc iX10 hown hK hw93.1 0 rfl rfl 22 (by decide) (htc _ mw_969) (fun _ h9 => h9) rfl dX10_recover_247 ?_
            refine lv_aload_n hx hb dX10_recover_250 rfl (lv_at hl87 0 rfl) ?_
            refine va_get (D := G) (ci := 10) (v := .int M_logged_75) (C := RX10) (T := TX10) (N := 40) hx hb htc iX10 hown hK hw93.1 0 rfl rfl 24 (by decide) (htc _ mw_971) (fun _ h9 => h9) rfl dX10_recover_251 ?_
            refine lv_aload_n hx hb dX10_recover_254 rfl (lv_at hl87 0 rfl) ?_
            refine va_get (D := G) (ci := 10) (v := .ref aMdisk) (C := RX10) (T := TX10) (N := 40) hx hb htc iX10 hown hK hw93.1 0 rfl rfl 4 (by decide) (htc _ mw_951) (fun _ h9 => h9) rfl dX10_recover_255 ?_
            refine lv_sipush (v := (1923 : Int32)) hx hb dX10_recover_258 (by decide) ?_
            refine lv_iconst (v := (4 : Int32)) hx hb dX10_recover_261 (by decide) ?_
            refine lv_aload_n hx hb dX10_recover_262 rfl (lv_at hl87 0 rfl) ?_
            refine va_get (D := G) (ci := 10) (v := .int M_logged_75) (C := RX10) (T := TX10) (N := 40) hx hb htc iX10 hown hK hw93.1 0 rfl rfl 24 (by decide) (htc _ mw_971) (fun _ h9 => h9) rfl dX10_recover_263 ?_
            refine lv_imul hx hb dX10_recover_266 ?_
            refine lv_iadd hx hb dX10_recover_267 ?_
            refine lv_iconst (v := (1 : Int32)) hx hb dX10_recover_268 (by decide) ?_
            refine lv_iadd hx hb dX10_recover_269 ?_
            replace hB_82 := ckb_some hB_82
            obtain ⟨hin_94, hB_82⟩ := hB_82
            refine va_iald hx hb hK hw93.1 1 0 rfl rfl hin_94 dX10_recover_270 ?_
            replace hB_82 := ckb_some hB_82
            obtain ⟨hin_95, hB_82⟩ := hB_82
            refine va_iast hx hb hK hw93.1 hw93.2.1 hw93.2.2 10 0 rfl rfl hin_95 dX10_recover_271 (fun H96 locs96 hP hD hS => ?_)
            have hw96 : wS G A s H96 locs96 [oX10 aM (0 : Int32) M_series M_most M_ratio aMdisk M_writes (-1 : Int32) (0 : Int32) (M_recovers + (1 : Int32)) M_looks M_unpacked aMits aMmany aMplace aMlength aMtimes aMvalues aMorder (M_disk (Int32.toNatClampNeg r_15)) ((M_disk (Int32.toNatClampNeg (0 : Int32))) >>> ((1 : Int32) &&& 31)) ((M_disk (Int32.toNatClampNeg (0 : Int32))) &&& (1 : Int32)) aMheadOf aMheadTime aMheadValue M_logged_75 aMnext aMisNew M_nexts aMcursorTime aMcursorValue M_hasCursor_3 M_cursorMany_4 M_cursorAt_5 aMmade M_bits_38 M_from_39 M_askMany M_askLeast M_askGreatest M_askSum, rI aMdisk cI 4096 M_disk, rI aMits cI 240 M_its_40, rI aMmany cI 240 M_many_41, rI aMplace cI 240 M_place_42, rI aMlength cI 240 M_length_43, rI aMtimes cI 15360 M_times_44, rI aMvalues cI 15360 M_values_45, rI aMorder cI 96 M_order_46, rI aMheadOf cI 128 (upd M_headOf_76 (Int32.toNatClampNeg M_logged_75) (M_disk (Int32.toNatClampNeg ((1923 : Int32) + ((4 : Int32) * M_logged_75))))), rI aMheadTime cI 128 (upd M_headTime_77 (Int32.toNatClampNeg M_logged_75) (M_disk (Int32.toNatClampNeg (((1923 : Int32) + ((4 : Int32) * M_logged_75)) + (1 : Int32))))), rI aMheadValue cI 128 M_headValue_78] := ⟨hP, hD, hS⟩
            clear hP hD hS hw93 H93 locs93
            refine lv_aload_n hx hb dX10_recover_272 rfl (lv_at hl87 0 rfl) ?_
            refine va_get (D := G) (ci := 10) (v := .ref aMheadValue) (C := RX10) (T := TX10) (N := 40) hx hb htc iX10 hown hK hw96.1 0 rfl rfl 23 (by decide) (htc _ mw_970) (fun _ h9 => h9) rfl dX10_recover_273 ?_
            refine lv_aload_n hx hb dX10_recover_276 rfl (lv_at hl87 0 rfl) ?_
            refine va_get (D := G) (ci := 10) (v := .int M_logged_75) (C := RX10) (T := TX10) (N := 40) hx hb htc iX10 hown hK hw96.1 0 rfl rfl 24 (by decide) (htc _ mw_971) (fun _ h9 => h9) rfl dX10_recover_277 ?_
            refine lv_aload_n hx hb dX10_recover_280 rfl (lv_at hl87 0 rfl) ?_
            refine va_get (D := G) (ci := 10) (v := .ref aMdisk) (C := RX10) (T := TX10) (N := 40) hx hb htc iX10 hown hK hw96.1 0 rfl rfl 4 (by decide) (htc _ mw_951) (fun _ h9 => h9) rfl dX10_recover_281 ?_
            refine lv_sipush (v := (1923 : Int32)) hx hb dX10_recover_284 (by decide) ?_
            refine lv_iconst (v := (4 : Int32)) hx hb dX10_recover_287 (by decide) ?_
            refine lv_aload_n hx hb dX10_recover_288 rfl (lv_at hl87 0 rfl) ?_
            refine va_get (D := G) (ci := 10) (v := .int M_logged_75) (C := RX10) (T := TX10) (N := 40) hx hb htc iX10 hown hK hw96.1 0 rfl rfl 24 (by decide) (htc _ mw_971) (fun _ h9 => h9) rfl dX10_recover_289 ?_
            refine lv_imul hx hb dX10_recover_292 ?_
            refine lv_iadd hx hb dX10_recover_293 ?_
            refine lv_iconst (v := (2 : Int32)) hx hb dX10_recover_294 (by decide) ?_
            refine lv_iadd hx hb dX10_recover_295 ?_
            replace hB_82 := ckb_some hB_82
            obtain ⟨hin_97, hB_82⟩ := hB_82
            refine va_iald hx hb hK hw96.1 1 0 rfl rfl hin_97 dX10_recover_296 ?_
            replace hB_82 := ckb_some hB_82
            obtain ⟨hin_98, hB_82⟩ := hB_82
            refine va_iast hx hb hK hw96.1 hw96.2.1 hw96.2.2 11 0 rfl rfl hin_98 dX10_recover_297 (fun H99 locs99 hP hD hS => ?_)
            have hw99 : wS G A s H99 locs99 [oX10 aM (0 : Int32) M_series M_most M_ratio aMdisk M_writes (-1 : Int32) (0 : Int32) (M_recovers + (1 : Int32)) M_looks M_unpacked aMits aMmany aMplace aMlength aMtimes aMvalues aMorder (M_disk (Int32.toNatClampNeg r_15)) ((M_disk (Int32.toNatClampNeg (0 : Int32))) >>> ((1 : Int32) &&& 31)) ((M_disk (Int32.toNatClampNeg (0 : Int32))) &&& (1 : Int32)) aMheadOf aMheadTime aMheadValue M_logged_75 aMnext aMisNew M_nexts aMcursorTime aMcursorValue M_hasCursor_3 M_cursorMany_4 M_cursorAt_5 aMmade M_bits_38 M_from_39 M_askMany M_askLeast M_askGreatest M_askSum, rI aMdisk cI 4096 M_disk, rI aMits cI 240 M_its_40, rI aMmany cI 240 M_many_41, rI aMplace cI 240 M_place_42, rI aMlength cI 240 M_length_43, rI aMtimes cI 15360 M_times_44, rI aMvalues cI 15360 M_values_45, rI aMorder cI 96 M_order_46, rI aMheadOf cI 128 (upd M_headOf_76 (Int32.toNatClampNeg M_logged_75) (M_disk (Int32.toNatClampNeg ((1923 : Int32) + ((4 : Int32) * M_logged_75))))), rI aMheadTime cI 128 (upd M_headTime_77 (Int32.toNatClampNeg M_logged_75) (M_disk (Int32.toNatClampNeg (((1923 : Int32) + ((4 : Int32) * M_logged_75)) + (1 : Int32))))), rI aMheadValue cI 128 (upd M_headValue_78 (Int32.toNatClampNeg M_logged_75) (M_disk (Int32.toNatClampNeg (((1923 : Int32) + ((4 : Int32) * M_logged_75)) + (2 : Int32)))))] := ⟨hP, hD, hS⟩
            clear hP hD hS hw96 H96 locs96
            refine lv_aload_n hx hb dX10_recover_298 rfl (lv_at hl87 0 rfl) ?_
            refine lv_dup hx hb dX10_recover_299 rfl ?_
            refine va_get (D := G) (ci := 10) (v := .int M_logged_75) (C := RX10) (T := TX10) (N := 40) hx hb htc iX10 hown hK hw99.1 0 rfl rfl 24 (by decide) (htc _ mw_971) (fun _ h9 => h9) rfl dX10_recover_300 ?_
            refine lv_iconst (v := (1 : Int32)) hx hb dX10_recover_303 (by decide) ?_
            refine lv_iadd hx hb dX10_recover_304 ?_
            refine va_put (D := G) (ci := 10) (v := .int (M_logged_75 + (1 : Int32))) (ty := .int) (C := RX10) (T := TX10) (N := 40) hx hb htc iX10 tyX10 tyX10_ok nmX10 hown hK hw99.1 hw99.2.1 hw99.2.2 0 rfl rfl 24 (by decide) (htc _ mw_971) (fun _ h9 => h9) rfl (tyX10_ok 24 (by decide)) rfl rfl (Nat.le_of_ble_eq_true rfl) dX10_recover_305 (fun H100 locs100 hP hD hS => ?_)
            have hw100 : wS G A s H100 locs100 [oX10 aM (0 : Int32) M_series M_most M_ratio aMdisk M_writes (-1 : Int32) (0 : Int32) (M_recovers + (1 : Int32)) M_looks M_unpacked aMits aMmany aMplace aMlength aMtimes aMvalues aMorder (M_disk (Int32.toNatClampNeg r_15)) ((M_disk (Int32.toNatClampNeg (0 : Int32))) >>> ((1 : Int32) &&& 31)) ((M_disk (Int32.toNatClampNeg (0 : Int32))) &&& (1 : Int32)) aMheadOf aMheadTime aMheadValue (M_logged_75 + (1 : Int32)) aMnext aMisNew M_nexts aMcursorTime aMcursorValue M_hasCursor_3 M_cursorMany_4 M_cursorAt_5 aMmade M_bits_38 M_from_39 M_askMany M_askLeast M_askGreatest M_askSum, rI aMdisk cI 4096 M_disk, rI aMits cI 240 M_its_40, rI aMmany cI 240 M_many_41, rI aMplace cI 240 M_place_42, rI aMlength cI 240 M_length_43, rI aMtimes cI 15360 M_times_44, rI aMvalues cI 15360 M_values_45, rI aMorder cI 96 M_order_46, rI aMheadOf cI 128 (upd M_headOf_76 (Int32.toNatClampNeg M_logged_75) (M_disk (Int32.toNatClampNeg ((1923 : Int32) + ((4 : Int32) * M_logged_75))))), rI aMheadTime cI 128 (upd M_headTime_77 (Int32.toNatClampNeg M_logged_75) (M_disk (Int32.toNatClampNeg (((1923 : Int32) + ((4 : Int32) * M_logged_75)) + (1 : Int32))))), rI aMheadValue cI 128 (upd M_headValue_78 (Int32.toNatClampNeg M_logged_75) (M_disk (Int32.toNatClampNeg (((1923 : Int32) + ((4 : Int32) * M_logged_75)) + (2 : Int32)))))] := ⟨hP, hD, hS⟩
            clear hP hD hS hw99 H99 locs99
            refine lv_goto (tgt := 186) hx hb dX10_recover_308 (by decide) ?_
            exact ih (M_logged_75 + (1 : Int32)) (upd M_headOf_76 (Int32.toNatClampNeg M_logged_75) (M_disk (Int32.toNatClampNeg ((1923 : Int32) + ((4 : Int32) * M_logged_75))))) (upd M_headTime_77 (Int32.toNatClampNeg M_logged_75) (M_disk (Int32.toNatClampNeg (((1923 : Int32) + ((4 : Int32) * M_logged_75)) + (1 : Int32))))) (upd M_headValue_78 (Int32.toNatClampNeg M_logged_75) (M_disk (Int32.toNatClampNeg (((1923 : Int32) + ((4 : Int32) * M_logged_75)) + (2 : Int32))))) hB_82 _ _ _ hw100 (lv_sub hl87 [0, 1] rfl)
    exact lp_81 NN (0 : Int32) M_headOf M_headTime M_headValue hL_79 _ _ _ hw74 (lv_sub hl73 [0, 1] rfl)
  have lp_35 : ∀ (n : Nat) (v2_22 : Int32) (v3_23 : Int32) (M_bits_24 : Int32) (M_from_25 : Int32) (M_its_26 : Nat → Int32) (M_many_27 : Nat → Int32) (M_place_28 : Nat → Int32) (M_length_29 : Nat → Int32) (M_times_30 : Nat → Int32) (M_values_31 : Nat → Int32) (M_order_32 : Nat → Int32), lp_X10_recover_76 M_disk r_15 n v2_22 v3_23 M_bits_24 M_from_25 M_its_26 M_many_27 M_place_28 M_length_29 M_times_30 M_values_31 M_order_32 = some (v2_37, M_bits_38, M_from_39, M_its_40, M_many_41, M_place_42, M_length_43, M_times_44, M_values_45, M_order_46) → ∀ (H : Heap) (locs : List Loc) (ls : Array Slot), wS G A s H locs [oX10 aM (0 : Int32) M_series M_most M_ratio aMdisk M_writes (-1 : Int32) (0 : Int32) (M_recovers + (1 : Int32)) M_looks M_unpacked aMits aMmany aMplace aMlength aMtimes aMvalues aMorder (M_disk (Int32.toNatClampNeg r_15)) ((M_disk (Int32.toNatClampNeg (0 : Int32))) >>> ((1 : Int32) &&& 31)) ((M_disk (Int32.toNatClampNeg (0 : Int32))) &&& (1 : Int32)) aMheadOf aMheadTime aMheadValue M_logged aMnext aMisNew M_nexts aMcursorTime aMcursorValue M_hasCursor_3 M_cursorMany_4 M_cursorAt_5 aMmade M_bits_24 M_from_25 M_askMany M_askLeast M_askGreatest M_askSum, rI aMdisk cI 4096 M_disk, rI aMits cI 240 M_its_26, rI aMmany cI 240 M_many_27, rI aMplace cI 240 M_place_28, rI aMlength cI 240 M_length_29, rI aMtimes cI 15360 M_times_30, rI aMvalues cI 15360 M_values_31, rI aMorder cI 96 M_order_32, rI aMheadOf cI 128 M_headOf, rI aMheadTime cI 128 M_headTime, rI aMheadValue cI 128 M_headValue] → lv_has ls 5 [(0, .ref aM), (1, .int r_15), (2, .int v2_22), (3, .int v3_23)] → W p l e rm_X10_recover s m args below meth c H locs 0 0 QQ (F0 m 76 ls []) := by
    clear hw19 H19 locs19 hl21 ls21 hfin
    intro n
    induction n with
    | zero =>
      intro v2_22 v3_23 M_bits_24 M_from_25 M_its_26 M_many_27 M_place_28 M_length_29 M_times_30 M_values_31 M_order_32 hB_36
      exact absurd hB_36 (by rw [lp_X10_recover_76]; exact fun h9 => nomatch h9)
    | succ n ih =>
      intro v2_22 v3_23 M_bits_24 M_from_25 M_its_26 M_many_27 M_place_28 M_length_29 M_times_30 M_values_31 M_order_32 hB_36 H47 locs47 ls47 hw47 hl47
      rw [lp_X10_recover_76] at hB_36
      refine lv_iload_n hx hb dX10_recover_76 rfl (lv_at hl47 3 rfl) ?_
      refine lv_aload_n hx hb dX10_recover_77 rfl (lv_at hl47 0 rfl) ?_
      refine va_get (D := G) (ci := 10) (v := .int (M_disk (Int32.toNatClampNeg r_15))) (C := RX10) (T := TX10) (N := 40) hx hb htc iX10 hown hK hw47.1 0 rfl rfl 18 (by decide) (htc _ mw_965) (fun _ h9 => h9) rfl dX10_recover_78 ?_
      refine lv_icmp_ge (tgt := 181) hx hb dX10_recover_81 (by decide) (fun c_48 => ?_) (fun c_48 => ?_)
      · replace hB_36 := it_t c_48 hB_36
        cases hB_36
        exact kx_34 _ _ _ hw47 (lv_sub hl47 [0, 2] rfl)
      · replace hB_36 := it_f c_48 hB_36
        refine lv_iload_n hx hb dX10_recover_84 rfl (lv_at hl47 1 rfl) ?_
        refine lv_iconst (v := (1 : Int32)) hx hb dX10_recover_85 (by decide) ?_
        refine lv_iadd hx hb dX10_recover_86 ?_
        refine lv_bipush (v := (10 : Int32)) hx hb dX10_recover_87 (by decide) ?_
        refine lv_iload_n hx hb dX10_recover_89 rfl (lv_at hl47 3 rfl) ?_
        refine lv_imul hx hb dX10_recover_90 ?_
        refine lv_iadd hx hb dX10_recover_91 ?_
        refine lv_istore (lv' := [(4, .int ((r_15 + (1 : Int32)) + ((10 : Int32) * v3_23))), (0, .ref aM), (1, .int r_15), (2, .int v2_22), (3, .int v3_23)]) hx hb dX10_recover_92 hl47 (by decide) rfl (fun ls49 hl49 => ?_)
        clear hl47 ls47
        refine lv_aload_n hx hb dX10_recover_94 rfl (lv_at hl49 1 rfl) ?_
        refine va_get (D := G) (ci := 10) (v := .ref aMorder) (C := RX10) (T := TX10) (N := 40) hx hb htc iX10 hown hK hw47.1 0 rfl rfl 17 (by decide) (htc _ mw_964) (fun _ h9 => h9) rfl dX10_recover_95 ?_
        refine lv_iload_n hx hb dX10_recover_98 rfl (lv_at hl49 4 rfl) ?_
        refine lv_iload_n hx hb dX10_recover_99 rfl (lv_at hl49 4 rfl) ?_
        replace hB_36 := ckb_some hB_36
        obtain ⟨hin_50, hB_36⟩ := hB_36
        refine va_iast hx hb hK hw47.1 hw47.2.1 hw47.2.2 8 0 rfl rfl hin_50 dX10_recover_100 (fun H51 locs51 hP hD hS => ?_)
        have hw51 : wS G A s H51 locs51 [oX10 aM (0 : Int32) M_series M_most M_ratio aMdisk M_writes (-1 : Int32) (0 : Int32) (M_recovers + (1 : Int32)) M_looks M_unpacked aMits aMmany aMplace aMlength aMtimes aMvalues aMorder (M_disk (Int32.toNatClampNeg r_15)) ((M_disk (Int32.toNatClampNeg (0 : Int32))) >>> ((1 : Int32) &&& 31)) ((M_disk (Int32.toNatClampNeg (0 : Int32))) &&& (1 : Int32)) aMheadOf aMheadTime aMheadValue M_logged aMnext aMisNew M_nexts aMcursorTime aMcursorValue M_hasCursor_3 M_cursorMany_4 M_cursorAt_5 aMmade M_bits_24 M_from_25 M_askMany M_askLeast M_askGreatest M_askSum, rI aMdisk cI 4096 M_disk, rI aMits cI 240 M_its_26, rI aMmany cI 240 M_many_27, rI aMplace cI 240 M_place_28, rI aMlength cI 240 M_length_29, rI aMtimes cI 15360 M_times_30, rI aMvalues cI 15360 M_values_31, rI aMorder cI 96 (upd M_order_32 (Int32.toNatClampNeg v3_23) v3_23), rI aMheadOf cI 128 M_headOf, rI aMheadTime cI 128 M_headTime, rI aMheadValue cI 128 M_headValue] := ⟨hP, hD, hS⟩
        clear hP hD hS hw47 H47 locs47
        refine lv_aload_n hx hb dX10_recover_101 rfl (lv_at hl49 1 rfl) ?_
        refine va_get (D := G) (ci := 10) (v := .ref aMits) (C := RX10) (T := TX10) (N := 40) hx hb htc iX10 hown hK hw51.1 0 rfl rfl 11 (by decide) (htc _ mw_958) (fun _ h9 => h9) rfl dX10_recover_102 ?_
        refine lv_iload_n hx hb dX10_recover_105 rfl (lv_at hl49 4 rfl) ?_
        refine lv_aload_n hx hb dX10_recover_106 rfl (lv_at hl49 1 rfl) ?_
        refine va_get (D := G) (ci := 10) (v := .ref aMdisk) (C := RX10) (T := TX10) (N := 40) hx hb htc iX10 hown hK hw51.1 0 rfl rfl 4 (by decide) (htc _ mw_951) (fun _ h9 => h9) rfl dX10_recover_107 ?_
        refine lv_iload hx hb dX10_recover_110 (lv_at hl49 0 rfl) ?_
        replace hB_36 := ckb_some hB_36
        obtain ⟨hin_52, hB_36⟩ := hB_36
        refine va_iald hx hb hK hw51.1 1 0 rfl rfl hin_52 dX10_recover_112 ?_
        replace hB_36 := ckb_some hB_36
        obtain ⟨hin_53, hB_36⟩ := hB_36
        refine va_iast hx hb hK hw51.1 hw51.2.1 hw51.2.2 2 0 rfl rfl hin_53 dX10_recover_113 (fun H54 locs54 hP hD hS => ?_)
        have hw54 : wS G A s H54 locs54 [oX10 aM (0 : Int32) M_series M_most M_ratio aMdisk M_writes (-1 : Int32) (0 : Int32) (M_recovers + (1 : Int32)) M_looks M_unpacked aMits aMmany aMplace aMlength aMtimes aMvalues aMorder (M_disk (Int32.toNatClampNeg r_15)) ((M_disk (Int32.toNatClampNeg (0 : Int32))) >>> ((1 : Int32) &&& 31)) ((M_disk (Int32.toNatClampNeg (0 : Int32))) &&& (1 : Int32)) aMheadOf aMheadTime aMheadValue M_logged aMnext aMisNew M_nexts aMcursorTime aMcursorValue M_hasCursor_3 M_cursorMany_4 M_cursorAt_5 aMmade M_bits_24 M_from_25 M_askMany M_askLeast M_askGreatest M_askSum, rI aMdisk cI 4096 M_disk, rI aMits cI 240 (upd M_its_26 (Int32.toNatClampNeg v3_23) (M_disk (Int32.toNatClampNeg ((r_15 + (1 : Int32)) + ((10 : Int32) * v3_23))))), rI aMmany cI 240 M_many_27, rI aMplace cI 240 M_place_28, rI aMlength cI 240 M_length_29, rI aMtimes cI 15360 M_times_30, rI aMvalues cI 15360 M_values_31, rI aMorder cI 96 (upd M_order_32 (Int32.toNatClampNeg v3_23) v3_23), rI aMheadOf cI 128 M_headOf, rI aMheadTime cI 128 M_headTime, rI aMheadValue cI 128 M_headValue] := ⟨hP, hD, hS⟩
        clear hP hD hS hw51 H51 locs51
        refine lv_aload_n hx hb dX10_recover_114 rfl (lv_at hl49 1 rfl) ?_
        refine va_get (D := G) (ci := 10) (v := .ref aMmany) (C := RX10) (T := TX10) (N := 40) hx hb htc iX10 hown hK hw54.1 0 rfl rfl 12 (by decide) (htc _ mw_959) (fun _ h9 => h9) rfl dX10_recover_115 ?_
        refine lv_iload_n hx hb dX10_recover_118 rfl (lv_at hl49 4 rfl) ?_
        refine lv_aload_n hx hb dX10_recover_119 rfl (lv_at hl49 1 rfl) ?_
        refine va_get (D := G) (ci := 10) (v := .ref aMdisk) (C := RX10) (T := TX10) (N := 40) hx hb htc iX10 hown hK hw54.1 0 rfl rfl 4 (by decide) (htc _ mw_951) (fun _ h9 => h9) rfl dX10_recover_120 ?_
        refine lv_iload hx hb dX10_recover_123 (lv_at hl49 0 rfl) ?_
        refine lv_iconst (v := (3 : Int32)) hx hb dX10_recover_125 (by decide) ?_
        refine lv_iadd hx hb dX10_recover_126 ?_
        replace hB_36 := ckb_some hB_36
        obtain ⟨hin_55, hB_36⟩ := hB_36
        refine va_iald hx hb hK hw54.1 1 0 rfl rfl hin_55 dX10_recover_127 ?_
        replace hB_36 := ckb_some hB_36
        obtain ⟨hin_56, hB_36⟩ := hB_36
        refine va_iast hx hb hK hw54.1 hw54.2.1 hw54.2.2 3 0 rfl rfl hin_56 dX10_recover_128 (fun H57 locs57 hP hD hS => ?_)
        have hw57 : wS G A s H57 locs57 [oX10 aM (0 : Int32) M_series M_most M_ratio aMdisk M_writes (-1 : Int32) (0 : Int32) (M_recovers + (1 : Int32)) M_looks M_unpacked aMits aMmany aMplace aMlength aMtimes aMvalues aMorder (M_disk (Int32.toNatClampNeg r_15)) ((M_disk (Int32.toNatClampNeg (0 : Int32))) >>> ((1 : Int32) &&& 31)) ((M_disk (Int32.toNatClampNeg (0 : Int32))) &&& (1 : Int32)) aMheadOf aMheadTime aMheadValue M_logged aMnext aMisNew M_nexts aMcursorTime aMcursorValue M_hasCursor_3 M_cursorMany_4 M_cursorAt_5 aMmade M_bits_24 M_from_25 M_askMany M_askLeast M_askGreatest M_askSum, rI aMdisk cI 4096 M_disk, rI aMits cI 240 (upd M_its_26 (Int32.toNatClampNeg v3_23) (M_disk (Int32.toNatClampNeg ((r_15 + (1 : Int32)) + ((10 : Int32) * v3_23))))), rI aMmany cI 240 (upd M_many_27 (Int32.toNatClampNeg v3_23) (M_disk (Int32.toNatClampNeg (((r_15 + (1 : Int32)) + ((10 : Int32) * v3_23)) + (3 : Int32))))), rI aMplace cI 240 M_place_28, rI aMlength cI 240 M_length_29, rI aMtimes cI 15360 M_times_30, rI aMvalues cI 15360 M_values_31, rI aMorder cI 96 (upd M_order_32 (Int32.toNatClampNeg v3_23) v3_23), rI aMheadOf cI 128 M_headOf, rI aMheadTime cI 128 M_headTime, rI aMheadValue cI 128 M_headValue] := ⟨hP, hD, hS⟩
        clear hP hD hS hw54 H54 locs54
        refine lv_aload_n hx hb dX10_recover_129 rfl (lv_at hl49 1 rfl) ?_
        refine va_get (D := G) (ci := 10) (v := .ref aMplace) (C := RX10) (T := TX10) (N := 40) hx hb htc iX10 hown hK hw57.1 0 rfl rfl 13 (by decide) (htc _ mw_960) (fun _ h9 => h9) rfl dX10_recover_130 ?_
        refine lv_iload_n hx hb dX10_recover_133 rfl (lv_at hl49 4 rfl) ?_
        refine lv_aload_n hx hb dX10_recover_134 rfl (lv_at hl49 1 rfl) ?_
        refine va_get (D := G) (ci := 10) (v := .ref aMdisk) (C := RX10) (T := TX10) (N := 40) hx hb htc iX10 hown hK hw57.1 0 rfl rfl 4 (by decide) (htc _ mw_951) (fun _ h9 => h9) rfl dX10_recover_135 ?_
        refine lv_iload hx hb dX10_recover_138 (lv_at hl49 0 rfl) ?_
        refine lv_bipush (v := (8 : Int32)) hx hb dX10_recover_140 (by decide) ?_
        refine lv_iadd hx hb dX10_recover_142 ?_
        replace hB_36 := ckb_some hB_36
        obtain ⟨hin_58, hB_36⟩ := hB_36
        refine va_iald hx hb hK hw57.1 1 0 rfl rfl hin_58 dX10_recover_143 ?_
        replace hB_36 := ckb_some hB_36
        obtain ⟨hin_59, hB_36⟩ := hB_36
        refine va_iast hx hb hK hw57.1 hw57.2.1 hw57.2.2 4 0 rfl rfl hin_59 dX10_recover_144 (fun H60 locs60 hP hD hS => ?_)
        have hw60 : wS G A s H60 locs60 [oX10 aM (0 : Int32) M_series M_most M_ratio aMdisk M_writes (-1 : Int32) (0 : Int32) (M_recovers + (1 : Int32)) M_looks M_unpacked aMits aMmany aMplace aMlength aMtimes aMvalues aMorder (M_disk (Int32.toNatClampNeg r_15)) ((M_disk (Int32.toNatClampNeg (0 : Int32))) >>> ((1 : Int32) &&& 31)) ((M_disk (Int32.toNatClampNeg (0 : Int32))) &&& (1 : Int32)) aMheadOf aMheadTime aMheadValue M_logged aMnext aMisNew M_nexts aMcursorTime aMcursorValue M_hasCursor_3 M_cursorMany_4 M_cursorAt_5 aMmade M_bits_24 M_from_25 M_askMany M_askLeast M_askGreatest M_askSum, rI aMdisk cI 4096 M_disk, rI aMits cI 240 (upd M_its_26 (Int32.toNatClampNeg v3_23) (M_disk (Int32.toNatClampNeg ((r_15 + (1 : Int32)) + ((10 : Int32) * v3_23))))), rI aMmany cI 240 (upd M_many_27 (Int32.toNatClampNeg v3_23) (M_disk (Int32.toNatClampNeg (((r_15 + (1 : Int32)) + ((10 : Int32) * v3_23)) + (3 : Int32))))), rI aMplace cI 240 (upd M_place_28 (Int32.toNatClampNeg v3_23) (M_disk (Int32.toNatClampNeg (((r_15 + (1 : Int32)) + ((10 : Int32) * v3_23)) + (8 : Int32))))), rI aMlength cI 240 M_length_29, rI aMtimes cI 15360 M_times_30, rI aMvalues cI 15360 M_values_31, rI aMorder cI 96 (upd M_order_32 (Int32.toNatClampNeg v3_23) v3_23), rI aMheadOf cI 128 M_headOf, rI aMheadTime cI 128 M_headTime, rI aMheadValue cI 128 M_headValue] := ⟨hP, hD, hS⟩
        clear hP hD hS hw57 H57 locs57
        refine lv_aload_n hx hb dX10_recover_145 rfl (lv_at hl49 1 rfl) ?_
        refine va_get (D := G) (ci := 10) (v := .ref aMlength) (C := RX10) (T := TX10) (N := 40) hx hb htc iX10 hown hK hw60.1 0 rfl rfl 14 (by decide) (htc _ mw_961) (fun _ h9 => h9) rfl dX10_recover_146 ?_
        refine lv_iload_n hx hb dX10_recover_149 rfl (lv_at hl49 4 rfl) ?_
        refine lv_aload_n hx hb dX10_recover_150 rfl (lv_at hl49 1 rfl) ?_
        refine va_get (D := G) (ci := 10) (v := .ref aMdisk) (C := RX10) (T := TX10) (N := 40) hx hb htc iX10 hown hK hw60.1 0 rfl rfl 4 (by decide) (htc _ mw_951) (fun _ h9 => h9) rfl dX10_recover_151 ?_
        refine lv_iload hx hb dX10_recover_154 (lv_at hl49 0 rfl) ?_
        refine lv_bipush (v := (9 : Int32)) hx hb dX10_recover_156 (by decide) ?_
        refine lv_iadd hx hb dX10_recover_158 ?_
        replace hB_36 := ckb_some hB_36
        obtain ⟨hin_61, hB_36⟩ := hB_36
        refine va_iald hx hb hK hw60.1 1 0 rfl rfl hin_61 dX10_recover_159 ?_
        replace hB_36 := ckb_some hB_36
        obtain ⟨hin_62, hB_36⟩ := hB_36
        refine va_iast hx hb hK hw60.1 hw60.2.1 hw60.2.2 5 0 rfl rfl hin_62 dX10_recover_160 (fun H63 locs63 hP hD hS => ?_)
        have hw63 : wS G A s H63 locs63 [oX10 aM (0 : Int32) M_series M_most M_ratio aMdisk M_writes (-1 : Int32) (0 : Int32) (M_recovers + (1 : Int32)) M_looks M_unpacked aMits aMmany aMplace aMlength aMtimes aMvalues aMorder (M_disk (Int32.toNatClampNeg r_15)) ((M_disk (Int32.toNatClampNeg (0 : Int32))) >>> ((1 : Int32) &&& 31)) ((M_disk (Int32.toNatClampNeg (0 : Int32))) &&& (1 : Int32)) aMheadOf aMheadTime aMheadValue M_logged aMnext aMisNew M_nexts aMcursorTime aMcursorValue M_hasCursor_3 M_cursorMany_4 M_cursorAt_5 aMmade M_bits_24 M_from_25 M_askMany M_askLeast M_askGreatest M_askSum, rI aMdisk cI 4096 M_disk, rI aMits cI 240 (upd M_its_26 (Int32.toNatClampNeg v3_23) (M_disk (Int32.toNatClampNeg ((r_15 + (1 : Int32)) + ((10 : Int32) * v3_23))))), rI aMmany cI 240 (upd M_many_27 (Int32.toNatClampNeg v3_23) (M_disk (Int32.toNatClampNeg (((r_15 + (1 : Int32)) + ((10 : Int32) * v3_23)) + (3 : Int32))))), rI aMplace cI 240 (upd M_place_28 (Int32.toNatClampNeg v3_23) (M_disk (Int32.toNatClampNeg (((r_15 + (1 : Int32)) + ((10 : Int32) * v3_23)) + (8 : Int32))))), rI aMlength cI 240 (upd M_length_29 (Int32.toNatClampNeg v3_23) (M_disk (Int32.toNatClampNeg (((r_15 + (1 : Int32)) + ((10 : Int32) * v3_23)) + (9 : Int32))))), rI aMtimes cI 15360 M_times_30, rI aMvalues cI 15360 M_values_31, rI aMorder cI 96 (upd M_order_32 (Int32.toNatClampNeg v3_23) v3_23), rI aMheadOf cI 128 M_headOf, rI aMheadTime cI 128 M_headTime, rI aMheadValue cI 128 M_headValue] := ⟨hP, hD, hS⟩
        clear hP hD hS hw60 H60 locs60
        refine lv_aload_n hx hb dX10_recover_161 rfl (lv_at hl49 1 rfl) ?_
        refine lv_iload_n hx hb dX10_recover_162 rfl (lv_at hl49 4 rfl) ?_
        replace hB_36 := ob4_some hB_36
        obtain ⟨M_bits_65, M_from_66, M_times_67, M_values_68, hE_64, hB_36⟩ := hB_36
        refine ctV (a := aM) (As := [.int v3_23]) (rest := []) (st1 := []) (wc := [oX10 aM (0 : Int32) M_series M_most M_ratio aMdisk M_writes (-1 : Int32) (0 : Int32) (M_recovers + (1 : Int32)) M_looks M_unpacked aMits aMmany aMplace aMlength aMtimes aMvalues aMorder (M_disk (Int32.toNatClampNeg r_15)) ((M_disk (Int32.toNatClampNeg (0 : Int32))) >>> ((1 : Int32) &&& 31)) ((M_disk (Int32.toNatClampNeg (0 : Int32))) &&& (1 : Int32)) aMheadOf aMheadTime aMheadValue M_logged aMnext aMisNew M_nexts aMcursorTime aMcursorValue M_hasCursor_3 M_cursorMany_4 M_cursorAt_5 aMmade M_bits_24 M_from_25 M_askMany M_askLeast M_askGreatest M_askSum, rI aMdisk cI 4096 M_disk, rI aMmany cI 240 (upd M_many_27 (Int32.toNatClampNeg v3_23) (M_disk (Int32.toNatClampNeg (((r_15 + (1 : Int32)) + ((10 : Int32) * v3_23)) + (3 : Int32))))), rI aMplace cI 240 (upd M_place_28 (Int32.toNatClampNeg v3_23) (M_disk (Int32.toNatClampNeg (((r_15 + (1 : Int32)) + ((10 : Int32) * v3_23)) + (8 : Int32))))), rI aMtimes cI 15360 M_times_30, rI aMvalues cI 15360 M_values_31]) (w1 := [oX10 aM (0 : Int32) M_series M_most M_ratio aMdisk M_writes (-1 : Int32) (0 : Int32) (M_recovers + (1 : Int32)) M_looks M_unpacked aMits aMmany aMplace aMlength aMtimes aMvalues aMorder (M_disk (Int32.toNatClampNeg r_15)) ((M_disk (Int32.toNatClampNeg (0 : Int32))) >>> ((1 : Int32) &&& 31)) ((M_disk (Int32.toNatClampNeg (0 : Int32))) &&& (1 : Int32)) aMheadOf aMheadTime aMheadValue M_logged aMnext aMisNew M_nexts aMcursorTime aMcursorValue M_hasCursor_3 M_cursorMany_4 M_cursorAt_5 aMmade M_bits_65 M_from_66 M_askMany M_askLeast M_askGreatest M_askSum, rI aMdisk cI 4096 M_disk, rI aMmany cI 240 (upd M_many_27 (Int32.toNatClampNeg v3_23) (M_disk (Int32.toNatClampNeg (((r_15 + (1 : Int32)) + ((10 : Int32) * v3_23)) + (3 : Int32))))), rI aMplace cI 240 (upd M_place_28 (Int32.toNatClampNeg v3_23) (M_disk (Int32.toNatClampNeg (((r_15 + (1 : Int32)) + ((10 : Int32) * v3_23)) + (8 : Int32))))), rI aMtimes cI 15360 M_times_67, rI aMvalues cI 15360 M_values_68]) (wr := [rI aMits cI 240 (upd M_its_26 (Int32.toNatClampNeg v3_23) (M_disk (Int32.toNatClampNeg ((r_15 + (1 : Int32)) + ((10 : Int32) * v3_23))))), rI aMlength cI 240 (upd M_length_29 (Int32.toNatClampNeg v3_23) (M_disk (Int32.toNatClampNeg (((r_15 + (1 : Int32)) + ((10 : Int32) * v3_23)) + (9 : Int32))))), rI aMorder cI 96 (upd M_order_32 (Int32.toNatClampNeg v3_23) v3_23), rI aMheadOf cI 128 M_headOf, rI aMheadTime cI 128 M_headTime, rI aMheadValue cI 128 M_headValue]) (wb := [oX10 aM (0 : Int32) M_series M_most M_ratio aMdisk M_writes (-1 : Int32) (0 : Int32) (M_recovers + (1 : Int32)) M_looks M_unpacked aMits aMmany aMplace aMlength aMtimes aMvalues aMorder (M_disk (Int32.toNatClampNeg r_15)) ((M_disk (Int32.toNatClampNeg (0 : Int32))) >>> ((1 : Int32) &&& 31)) ((M_disk (Int32.toNatClampNeg (0 : Int32))) &&& (1 : Int32)) aMheadOf aMheadTime aMheadValue M_logged aMnext aMisNew M_nexts aMcursorTime aMcursorValue M_hasCursor_3 M_cursorMany_4 M_cursorAt_5 aMmade M_bits_65 M_from_66 M_askMany M_askLeast M_askGreatest M_askSum, rI aMdisk cI 4096 M_disk, rI aMits cI 240 (upd M_its_26 (Int32.toNatClampNeg v3_23) (M_disk (Int32.toNatClampNeg ((r_15 + (1 : Int32)) + ((10 : Int32) * v3_23))))), rI aMmany cI 240 (upd M_many_27 (Int32.toNatClampNeg v3_23) (M_disk (Int32.toNatClampNeg (((r_15 + (1 : Int32)) + ((10 : Int32) * v3_23)) + (3 : Int32))))), rI aMplace cI 240 (upd M_place_28 (Int32.toNatClampNeg v3_23) (M_disk (Int32.toNatClampNeg (((r_15 + (1 : Int32)) + ((10 : Int32) * v3_23)) + (8 : Int32))))), rI aMlength cI 240 (upd M_length_29 (Int32.toNatClampNeg v3_23) (M_disk (Int32.toNatClampNeg (((r_15 + (1 : Int32)) + ((10 : Int32) * v3_23)) + (9 : Int32))))), rI aMtimes cI 15360 M_times_67, rI aMvalues cI 15360 M_values_68, rI aMorder cI 96 (upd M_order_32 (Int32.toNatClampNeg v3_23) v3_23), rI aMheadOf cI 128 M_headOf, rI aMheadTime cI 128 M_headTime, rI aMheadValue cI 128 M_headValue]) (v := none) hx hb hml hown htc hN (c_X10_read l G cI cZ cJ aM aMdisk aMits aMmany aMplace aMlength aMtimes aMvalues aMorder aMheadOf aMheadTime aMheadValue aMnext aMisNew aMcursorTime aMcursorValue aMmade (0 : Int32) M_series M_most M_ratio M_writes (-1 : Int32) (0 : Int32) (M_recovers + (1 : Int32)) M_looks M_unpacked (M_disk (Int32.toNatClampNeg r_15)) ((M_disk (Int32.toNatClampNeg (0 : Int32))) >>> ((1 : Int32) &&& 31)) ((M_disk (Int32.toNatClampNeg (0 : Int32))) &&& (1 : Int32)) M_logged M_nexts M_hasCursor_3 M_cursorMany_4 M_cursorAt_5 M_bits_24 M_from_25 M_askMany M_askLeast M_askGreatest M_askSum M_disk (upd M_many_27 (Int32.toNatClampNeg v3_23) (M_disk (Int32.toNatClampNeg (((r_15 + (1 : Int32)) + ((10 : Int32) * v3_23)) + (3 : Int32))))) (upd M_place_28 (Int32.toNatClampNeg v3_23) (M_disk (Int32.toNatClampNeg (((r_15 + (1 : Int32)) + ((10 : Int32) * v3_23)) + (8 : Int32))))) M_times_30 M_values_31 v3_23 hE_64) mw_1293 mw_1295 mp_71 mw_12 mw_1296 hd_X10_read ⟨rfl, rfl⟩ ⟨Nat.le_of_ble_eq_true rfl, Nat.le_of_ble_eq_true rfl⟩ hK hw63 hA [0, 1, 3, 4, 6, 7] [2, 5, 8, 9, 10, 11] [6, 7, 0, 8, 9, 1, 10, 11, 2, 3, 4, 5] rfl rfl rfl rfl rfl (by decide) rfl rfl rfl 0 rfl rfl rfl rfl hl49.1 rfl rfl (Nat.le_of_ble_eq_true rfl) dX10_recover_163 ⟨Nat.zero_le _, Nat.zero_le _⟩ (fun H69 locs69 hw69 => ?_)
        clear hw63 H63 locs63
        refine lv_iload_n hx hb dX10_recover_166 rfl (lv_at hl49 3 rfl) ?_
        refine lv_aload_n hx hb dX10_recover_167 rfl (lv_at hl49 1 rfl) ?_
        refine va_get (D := G) (ci := 10) (v := .ref aMmany) (C := RX10) (T := TX10) (N := 40) hx hb htc iX10 hown hK hw69.1 0 rfl rfl 12 (by decide) (htc _ mw_959) (fun _ h9 => h9) rfl dX10_recover_168 ?_
        refine lv_iload_n hx hb dX10_recover_171 rfl (lv_at hl49 4 rfl) ?_
        replace hB_36 := ckb_some hB_36
        obtain ⟨hin_70, hB_36⟩ := hB_36
        refine va_iald hx hb hK hw69.1 3 0 rfl rfl hin_70 dX10_recover_172 ?_
        refine lv_iadd hx hb dX10_recover_173 ?_
        refine lv_istore_n (lv' := [(2, .int (v2_22 + ((upd M_many_27 (Int32.toNatClampNeg v3_23) (M_disk (Int32.toNatClampNeg (((r_15 + (1 : Int32)) + ((10 : Int32) * v3_23)) + (3 : Int32))))) (Int32.toNatClampNeg v3_23)))), (4, .int ((r_15 + (1 : Int32)) + ((10 : Int32) * v3_23))), (0, .ref aM), (1, .int r_15), (3, .int v3_23)]) hx hb dX10_recover_174 rfl hl49 (by decide) rfl (fun ls71 hl71 => ?_)
        clear hl49 ls49
        refine lv_iinc (v := (v3_23 + (1 : Int32))) (lv' := [(3, .int (v3_23 + (1 : Int32))), (2, .int (v2_22 + ((upd M_many_27 (Int32.toNatClampNeg v3_23) (M_disk (Int32.toNatClampNeg (((r_15 + (1 : Int32)) + ((10 : Int32) * v3_23)) + (3 : Int32))))) (Int32.toNatClampNeg v3_23)))), (4, .int ((r_15 + (1 : Int32)) + ((10 : Int32) * v3_23))), (0, .ref aM), (1, .int r_15)]) hx hb dX10_recover_175 hl71 (k := 4) rfl rfl (by decide) rfl (fun ls72 hl72 => ?_)
        clear hl71 ls71
        refine lv_goto (tgt := 76) hx hb dX10_recover_178 (by decide) ?_
        exact ih (v2_22 + ((upd M_many_27 (Int32.toNatClampNeg v3_23) (M_disk (Int32.toNatClampNeg (((r_15 + (1 : Int32)) + ((10 : Int32) * v3_23)) + (3 : Int32))))) (Int32.toNatClampNeg v3_23))) (v3_23 + (1 : Int32)) M_bits_65 M_from_66 (upd M_its_26 (Int32.toNatClampNeg v3_23) (M_disk (Int32.toNatClampNeg ((r_15 + (1 : Int32)) + ((10 : Int32) * v3_23))))) (upd M_many_27 (Int32.toNatClampNeg v3_23) (M_disk (Int32.toNatClampNeg (((r_15 + (1 : Int32)) + ((10 : Int32) * v3_23)) + (3 : Int32))))) (upd M_place_28 (Int32.toNatClampNeg v3_23) (M_disk (Int32.toNatClampNeg (((r_15 + (1 : Int32)) + ((10 : Int32) * v3_23)) + (8 : Int32))))) (upd M_length_29 (Int32.toNatClampNeg v3_23) (M_disk (Int32.toNatClampNeg (((r_15 + (1 : Int32)) + ((10 : Int32) * v3_23)) + (9 : Int32))))) M_times_67 M_values_68 (upd M_order_32 (Int32.toNatClampNeg v3_23) v3_23) hB_36 _ _ _ hw69 (lv_sub hl72 [3, 4, 1, 0] rfl)
  exact lp_35 NN (0 : Int32) (0 : Int32) M_bits M_from M_its M_many M_place M_length M_times M_values M_order hL_33 _ _ _ hw19 (lv_sub hl21 [3, 2, 1, 0] rfl)
abbrev rm_X10_cell : Room := { frames := 0, cells := 0, slots := 0, locals := 0 }
theorem hd_X10_cell : yX10_cell.cls = RX10 ∧ yX10_cell.cls ≠ "java/lang/invoke/MethodHandle" ∧ yX10_cell.cls ≠ "java/lang/invoke/VarHandle" ∧ (parseMethodDescriptor yX10_cell.desc).map (fun d => d.parameters.length) = some 1 := by decide +kernel
set_option maxHeartbeats 4000000 in
set_option maxRecDepth 100000 in
theorem c_X10_cell (l : Launch) (G : va_G) (cI cZ cJ : ClassId) (aM aMdisk aMits aMmany aMplace aMlength aMtimes aMvalues aMorder aMheadOf aMheadTime aMheadValue aMnext aMisNew aMcursorTime aMcursorValue aMmade : Nat) (M_thrown : Int32) (M_series : Int32) (M_most : Int32) (M_ratio : Int32) (M_writes : Int32) (M_fuse : Int32) (M_down : Int32) (M_recovers : Int32) (M_looks : Int32) (M_unpacked : Int32) (M_chunks : Int32) (M_epoch : Int32) (M_side : Int32) (M_logged : Int32) (M_nexts : Int32) (M_hasCursor : Int32) (M_cursorMany : Int32) (M_cursorAt : Int32) (M_bits : Int32) (M_from : Int32) (M_askMany : Int32) (M_askLeast : Int32) (M_askGreatest : Int32) (M_askSum : Int64) (M_disk : Nat → Int32) (p0 : Int32) {r : Int32} {o_M_thrown : Int32} (hfin : m_X10_cell M_thrown M_disk p0 = some (r, o_M_thrown)) : CT l yX10_cell cX10_cell 2 (some .int) rm_X10_cell G (tyC cI cZ cJ) [.ref aM, .int p0] [oX10 aM M_thrown M_series M_most M_ratio aMdisk M_writes M_fuse M_down M_recovers M_looks M_unpacked aMits aMmany aMplace aMlength aMtimes aMvalues aMorder M_chunks M_epoch M_side aMheadOf aMheadTime aMheadValue M_logged aMnext aMisNew M_nexts aMcursorTime aMcursorValue M_hasCursor M_cursorMany M_cursorAt aMmade M_bits M_from M_askMany M_askLeast M_askGreatest M_askSum, rI aMdisk cI 4096 M_disk] (some (.int r)) [oX10 aM o_M_thrown M_series M_most M_ratio aMdisk M_writes M_fuse M_down M_recovers M_looks M_unpacked aMits aMmany aMplace aMlength aMtimes aMvalues aMorder M_chunks M_epoch M_side aMheadOf aMheadTime aMheadValue M_logged aMnext aMisNew M_nexts aMcursorTime aMcursorValue M_hasCursor M_cursorMany M_cursorAt aMmade M_bits M_from M_askMany M_askLeast M_askGreatest M_askSum, rI aMdisk cI 4096 M_disk] := by
  refine CT.ofW (lvl := [(0, .ref aM), (1, .int p0)]) (by decide) (Nat.le_of_ble_eq_true rfl) rfl ?_
  intro p e s m args below meth c A ls0 QQ hQQ hx hb hml hr hlocks htc hN hown hK hA hw0 hl0
  rw [m_X10_cell] at hfin
  refine lv_aload_n hx hb dX10_cell_0 rfl (lv_at hl0 0 rfl) ?_
  refine lv_iconst (v := (0 : Int32)) hx hb dX10_cell_1 (by decide) ?_
  refine va_put (D := G) (ci := 10) (v := .int (0 : Int32)) (ty := .int) (C := RX10) (T := TX10) (N := 40) hx hb htc iX10 tyX10 tyX10_ok nmX10 hown hK hw0.1 hw0.2.1 hw0.2.2 0 rfl rfl 0 (by decide) (htc _ mw_947) (fun _ h9 => h9) rfl (tyX10_ok 0 (by decide)) rfl rfl (Nat.le_of_ble_eq_true rfl) dX10_cell_2 (fun H1 locs1 hP hD hS => ?_)
  have hw1 : wS G A s H1 locs1 [oX10 aM (0 : Int32) M_series M_most M_ratio aMdisk M_writes M_fuse M_down M_recovers M_looks M_unpacked aMits aMmany aMplace aMlength aMtimes aMvalues aMorder M_chunks M_epoch M_side aMheadOf aMheadTime aMheadValue M_logged aMnext aMisNew M_nexts aMcursorTime aMcursorValue M_hasCursor M_cursorMany M_cursorAt aMmade M_bits M_from M_askMany M_askLeast M_askGreatest M_askSum, rI aMdisk cI 4096 M_disk] := ⟨hP, hD, hS⟩
  clear hP hD hS hw0
  refine lv_iload_n hx hb dX10_cell_5 rfl (lv_at hl0 1 rfl) ?_
  replace hfin := ob1_some hfin
  obtain ⟨s_2, hJ_3, hfin⟩ := hfin
  have kj_4 : ∀ (H : Heap) (locs : List Loc) (ls : Array Slot), wS G A s H locs [oX10 aM (0 : Int32) M_series M_most M_ratio aMdisk M_writes M_fuse M_down M_recovers M_looks M_unpacked aMits aMmany aMplace aMlength aMtimes aMvalues aMorder M_chunks M_epoch M_side aMheadOf aMheadTime aMheadValue M_logged aMnext aMisNew M_nexts aMcursorTime aMcursorValue M_hasCursor M_cursorMany M_cursorAt aMmade M_bits M_from M_askMany M_askLeast M_askGreatest M_askSum, rI aMdisk cI 4096 M_disk] → lv_has ls 2 [] → W p l e rm_X10_cell s m args below meth c H locs 0 0 QQ (F0 m 26 ls [.int s_2]) := by
    clear hw1 H1 locs1 hl0 ls0 hJ_3
    intro H8 locs8 ls8 hw8 hl8
    cases hfin
    rw [hQQ]
    exact ct_iret hx hb hr hlocks hw8.1 hw8.2.1 hw8.2.2 dX10_cell_26
  clear hfin
  refine lv_if_lt (tgt := 16) hx hb dX10_cell_6 (by decide) (fun c_5 => ?_) (fun c_5 => ?_)
  · replace hJ_3 := it_t c_5 hJ_3
    refine lv_iconst (v := (0 : Int32)) hx hb dX10_cell_16 (by decide) ?_
    refine lv_goto (tgt := 26) hx hb dX10_cell_17 (by decide) ?_
    cases hJ_3
    exact kj_4 _ _ _ hw1 (lv_sub hl0 [] rfl)
  · replace hJ_3 := it_f c_5 hJ_3
    refine lv_iload_n hx hb dX10_cell_9 rfl (lv_at hl0 1 rfl) ?_
    refine lv_sipush (v := (4096 : Int32)) hx hb dX10_cell_10 (by decide) ?_
    refine lv_icmp_lt (tgt := 20) hx hb dX10_cell_13 (by decide) (fun c_6 => ?_) (fun c_6 => ?_)
    · replace hJ_3 := it_t c_6 hJ_3
      refine lv_aload_n hx hb dX10_cell_20 rfl (lv_at hl0 0 rfl) ?_
      refine va_get (D := G) (ci := 10) (v := .ref aMdisk) (C := RX10) (T := TX10) (N := 40) hx hb htc iX10 hown hK hw1.1 0 rfl rfl 4 (by decide) (htc _ mw_951) (fun _ h9 => h9) rfl dX10_cell_21 ?_
      refine lv_iload_n hx hb dX10_cell_24 rfl (lv_at hl0 1 rfl) ?_
      replace hJ_3 := ckb_some hJ_3
      obtain ⟨hin_7, hJ_3⟩ := hJ_3
      refine va_iald hx hb hK hw1.1 1 0 rfl rfl hin_7 dX10_cell_25 ?_
      cases hJ_3
      exact kj_4 _ _ _ hw1 (lv_sub hl0 [] rfl)
    · replace hJ_3 := it_f c_6 hJ_3
      refine lv_iconst (v := (0 : Int32)) hx hb dX10_cell_16 (by decide) ?_
      refine lv_goto (tgt := 26) hx hb dX10_cell_17 (by decide) ?_
      cases hJ_3
      exact kj_4 _ _ _ hw1 (lv_sub hl0 [] rfl)
abbrev rm_X10_sizes : Room := { frames := 2, cells := 0, slots := 0, locals := 44 }
theorem hd_X10_sizes : yX10_sizes.cls = RX10 ∧ yX10_sizes.cls ≠ "java/lang/invoke/MethodHandle" ∧ yX10_sizes.cls ≠ "java/lang/invoke/VarHandle" ∧ (parseMethodDescriptor yX10_sizes.desc).map (fun d => d.parameters.length) = some 2 := by decide +kernel
set_option maxHeartbeats 4000000 in
set_option maxRecDepth 100000 in
theorem c_X10_sizes (l : Launch) (G : va_G) (cI cZ cJ : ClassId) (aM aMdisk aMits aMmany aMplace aMlength aMtimes aMvalues aMorder aMheadOf aMheadTime aMheadValue aMnext aMisNew aMcursorTime aMcursorValue aMmade : Nat) (M_thrown : Int32) (M_series : Int32) (M_most : Int32) (M_ratio : Int32) (M_writes : Int32) (M_fuse : Int32) (M_down : Int32) (M_recovers : Int32) (M_looks : Int32) (M_unpacked : Int32) (M_chunks : Int32) (M_epoch : Int32) (M_side : Int32) (M_logged : Int32) (M_nexts : Int32) (M_hasCursor : Int32) (M_cursorMany : Int32) (M_cursorAt : Int32) (M_bits : Int32) (M_from : Int32) (M_askMany : Int32) (M_askLeast : Int32) (M_askGreatest : Int32) (M_askSum : Int64) (M_its : Nat → Int32) (M_order : Nat → Int32) (M_headOf : Nat → Int32) (p0 : Int32) (p1 : Int32) {r : Int32} {o_M_thrown : Int32} (hfin : m_X10_sizes M_thrown M_series M_ratio M_down M_chunks M_logged M_its M_order M_headOf p0 p1 = some (r, o_M_thrown)) : CT l yX10_sizes cX10_sizes 5 (some .int) rm_X10_sizes G (tyC cI cZ cJ) [.ref aM, .int p0, .int p1] [oX10 aM M_thrown M_series M_most M_ratio aMdisk M_writes M_fuse M_down M_recovers M_looks M_unpacked aMits aMmany aMplace aMlength aMtimes aMvalues aMorder M_chunks M_epoch M_side aMheadOf aMheadTime aMheadValue M_logged aMnext aMisNew M_nexts aMcursorTime aMcursorValue M_hasCursor M_cursorMany M_cursorAt aMmade M_bits M_from M_askMany M_askLeast M_askGreatest M_askSum, rI aMits cI 240 M_its, rI aMorder cI 96 M_order, rI aMheadOf cI 128 M_headOf] (some (.int r)) [oX10 aM o_M_thrown M_series M_most M_ratio aMdisk M_writes M_fuse M_down M_recovers M_looks M_unpacked aMits aMmany aMplace aMlength aMtimes aMvalues aMorder M_chunks M_epoch M_side aMheadOf aMheadTime aMheadValue M_logged aMnext aMisNew M_nexts aMcursorTime aMcursorValue M_hasCursor M_cursorMany M_cursorAt aMmade M_bits M_from M_askMany M_askLeast M_askGreatest M_askSum, rI aMits cI 240 M_its, rI aMorder cI 96 M_order, rI aMheadOf cI 128 M_headOf] := by
  refine CT.ofW (lvl := [(0, .ref aM), (1, .int p0), (2, .int p1)]) (by decide) (Nat.le_of_ble_eq_true rfl) rfl ?_
  intro p e s m args below meth c A ls0 QQ hQQ hx hb hml hr hlocks htc hN hown hK hA hw0 hl0
  rw [m_X10_sizes] at hfin
  refine lv_aload_n hx hb dX10_sizes_0 rfl (lv_at hl0 0 rfl) ?_
  refine lv_aload_n hx hb dX10_sizes_1 rfl (lv_at hl0 0 rfl) ?_
  refine va_get (D := G) (ci := 10) (v := .int M_down) (C := RX10) (T := TX10) (N := 40) hx hb htc iX10 hown hK hw0.1 0 rfl rfl 7 (by decide) (htc _ mw_954) (fun _ h9 => h9) rfl dX10_sizes_2 ?_
  replace hfin := ob1_some hfin
  obtain ⟨s_1, hJ_2, hfin⟩ := hfin
  have kj_3 : ∀ (H : Heap) (locs : List Loc) (ls : Array Slot), wS G A s H locs [oX10 aM M_thrown M_series M_most M_ratio aMdisk M_writes M_fuse M_down M_recovers M_looks M_unpacked aMits aMmany aMplace aMlength aMtimes aMvalues aMorder M_chunks M_epoch M_side aMheadOf aMheadTime aMheadValue M_logged aMnext aMisNew M_nexts aMcursorTime aMcursorValue M_hasCursor M_cursorMany M_cursorAt aMmade M_bits M_from M_askMany M_askLeast M_askGreatest M_askSum, rI aMits cI 240 M_its, rI aMorder cI 96 M_order, rI aMheadOf cI 128 M_headOf] → lv_has ls 5 [(0, .ref aM), (1, .int p0), (2, .int p1)] → W p l e rm_X10_sizes s m args below meth c H locs 0 0 QQ (F0 m 38 ls [.int s_1, .ref aM]) := by
    clear hw0 hl0 ls0 hJ_2
    intro H11 locs11 ls11 hw11 hl11
    refine va_put (D := G) (ci := 10) (v := .int s_1) (ty := .int) (C := RX10) (T := TX10) (N := 40) hx hb htc iX10 tyX10 tyX10_ok nmX10 hown hK hw11.1 hw11.2.1 hw11.2.2 0 rfl rfl 0 (by decide) (htc _ mw_947) (fun _ h9 => h9) rfl (tyX10_ok 0 (by decide)) rfl rfl (Nat.le_of_ble_eq_true rfl) dX10_sizes_38 (fun H12 locs12 hP hD hS => ?_)
    have hw12 : wS G A s H12 locs12 [oX10 aM s_1 M_series M_most M_ratio aMdisk M_writes M_fuse M_down M_recovers M_looks M_unpacked aMits aMmany aMplace aMlength aMtimes aMvalues aMorder M_chunks M_epoch M_side aMheadOf aMheadTime aMheadValue M_logged aMnext aMisNew M_nexts aMcursorTime aMcursorValue M_hasCursor M_cursorMany M_cursorAt aMmade M_bits M_from M_askMany M_askLeast M_askGreatest M_askSum, rI aMits cI 240 M_its, rI aMorder cI 96 M_order, rI aMheadOf cI 128 M_headOf] := ⟨hP, hD, hS⟩
    clear hP hD hS hw11 H11 locs11
    refine lv_aload_n hx hb dX10_sizes_41 rfl (lv_at hl11 0 rfl) ?_
    refine va_get (D := G) (ci := 10) (v := .int s_1) (C := RX10) (T := TX10) (N := 40) hx hb htc iX10 hown hK hw12.1 0 rfl rfl 0 (by decide) (htc _ mw_947) (fun _ h9 => h9) rfl dX10_sizes_42 ?_
    refine lv_if_le (tgt := 50) hx hb dX10_sizes_45 (by decide) (fun c_13 => ?_) (fun c_13 => ?_)
    · replace hfin := it_t c_13 hfin
      refine lv_iload_n hx hb dX10_sizes_50 rfl (lv_at hl11 2 rfl) ?_
      refine lv_if_ne (tgt := 60) hx hb dX10_sizes_51 (by decide) (fun c_14 => ?_) (fun c_14 => ?_)
      · replace hfin := it_f c_14 hfin
        refine lv_iload_n hx hb dX10_sizes_60 rfl (lv_at hl11 2 rfl) ?_
        refine lv_iconst (v := (2 : Int32)) hx hb dX10_sizes_61 (by decide) ?_
        refine lv_icmp_ne (tgt := 71) hx hb dX10_sizes_62 (by decide) (fun c_15 => ?_) (fun c_15 => ?_)
        · replace hfin := it_f c_15 hfin
          refine lv_iconst (v := (0 : Int32)) hx hb dX10_sizes_71 (by decide) ?_
          refine lv_istore_n (lv' := [(3, .int (0 : Int32)), (0, .ref aM), (1, .int p0), (2, .int p1)]) hx hb dX10_sizes_72 rfl hl11 (by decide) rfl (fun ls16 hl16 => ?_)
          clear hl11 ls11
          refine lv_iconst (v := (0 : Int32)) hx hb dX10_sizes_73 (by decide) ?_
          refine lv_istore (lv' := [(4, .int (0 : Int32)), (3, .int (0 : Int32)), (0, .ref aM), (1, .int p0), (2, .int p1)]) hx hb dX10_sizes_74 hl16 (by decide) rfl (fun ls17 hl17 => ?_)
          clear hl16 ls16
          replace hfin := ob1_some hfin
          obtain ⟨v3_24, hL_20, hfin⟩ := hfin
          have kx_21 : ∀ (H : Heap) (locs : List Loc) (ls : Array Slot), wS G A s H locs [oX10 aM s_1 M_series M_most M_ratio aMdisk M_writes M_fuse M_down M_recovers M_looks M_unpacked aMits aMmany aMplace aMlength aMtimes aMvalues aMorder M_chunks M_epoch M_side aMheadOf aMheadTime aMheadValue M_logged aMnext aMisNew M_nexts aMcursorTime aMcursorValue M_hasCursor M_cursorMany M_cursorAt aMmade M_bits M_from M_askMany M_askLeast M_askGreatest M_askSum, rI aMits cI 240 M_its, rI aMorder cI 96 M_order, rI aMheadOf cI 128 M_headOf] → lv_has ls 5 [(3, .int v3_24)] → W p l e rm_X10_sizes s m args below meth c H locs 0 0 QQ (F0 m 110 ls []) := by
            clear hw12 H12 locs12 hl17 ls17 hL_20
            intro H35 locs35 ls35 hw35 hl35
            refine lv_iload_n hx hb dX10_sizes_110 rfl (lv_at hl35 0 rfl) ?_
            cases hfin
            rw [hQQ]
            exact ct_iret hx hb hr hlocks hw35.1 hw35.2.1 hw35.2.2 dX10_sizes_111
          have lp_22 : ∀ (n : Nat) (v3_18 : Int32) (v4_19 : Int32), lp_X10_sizes_76 M_logged M_headOf p0 n v3_18 v4_19 = some (v3_24) → ∀ (H : Heap) (locs : List Loc) (ls : Array Slot), wS G A s H locs [oX10 aM s_1 M_series M_most M_ratio aMdisk M_writes M_fuse M_down M_recovers M_looks M_unpacked aMits aMmany aMplace aMlength aMtimes aMvalues aMorder M_chunks M_epoch M_side aMheadOf aMheadTime aMheadValue M_logged aMnext aMisNew M_nexts aMcursorTime aMcursorValue M_hasCursor M_cursorMany M_cursorAt aMmade M_bits M_from M_askMany M_askLeast M_askGreatest M_askSum, rI aMits cI 240 M_its, rI aMorder cI 96 M_order, rI aMheadOf cI 128 M_headOf] → lv_has ls 5 [(0, .ref aM), (1, .int p0), (3, .int v3_18), (4, .int v4_19)] → W p l e rm_X10_sizes s m args below meth c H locs 0 0 QQ (F0 m 76 ls []) := by
            clear hw12 H12 locs12 hl17 ls17 hfin
            intro n
            induction n with
            | zero =>
              intro v3_18 v4_19 hB_23
              exact absurd hB_23 (by rw [lp_X10_sizes_76]; exact fun h9 => nomatch h9)
            | succ n ih =>
              intro v3_18 v4_19 hB_23 H25 locs25 ls25 hw25 hl25
              rw [lp_X10_sizes_76] at hB_23
              refine lv_iload hx hb dX10_sizes_76 (lv_at hl25 3 rfl) ?_
              refine lv_aload_n hx hb dX10_sizes_78 rfl (lv_at hl25 0 rfl) ?_
              refine va_get (D := G) (ci := 10) (v := .int M_logged) (C := RX10) (T := TX10) (N := 40) hx hb htc iX10 hown hK hw25.1 0 rfl rfl 24 (by decide) (htc _ mw_971) (fun _ h9 => h9) rfl dX10_sizes_79 ?_
              refine lv_icmp_ge (tgt := 110) hx hb dX10_sizes_82 (by decide) (fun c_26 => ?_) (fun c_26 => ?_)
              · replace hB_23 := it_t c_26 hB_23
                cases hB_23
                exact kx_21 _ _ _ hw25 (lv_sub hl25 [2] rfl)
              · replace hB_23 := it_f c_26 hB_23
                refine lv_iload_n hx hb dX10_sizes_85 rfl (lv_at hl25 2 rfl) ?_
                refine lv_aload_n hx hb dX10_sizes_86 rfl (lv_at hl25 0 rfl) ?_
                refine va_get (D := G) (ci := 10) (v := .ref aMheadOf) (C := RX10) (T := TX10) (N := 40) hx hb htc iX10 hown hK hw25.1 0 rfl rfl 21 (by decide) (htc _ mw_968) (fun _ h9 => h9) rfl dX10_sizes_87 ?_
                refine lv_iload hx hb dX10_sizes_90 (lv_at hl25 3 rfl) ?_
                replace hB_23 := ckb_some hB_23
                obtain ⟨hin_27, hB_23⟩ := hB_23
                refine va_iald hx hb hK hw25.1 3 0 rfl rfl hin_27 dX10_sizes_92 ?_
                refine lv_iload_n hx hb dX10_sizes_93 rfl (lv_at hl25 1 rfl) ?_
                replace hB_23 := ob1_some hB_23
                obtain ⟨s_28, hJ_29, hB_23⟩ := hB_23
                have kj_30 : ∀ (H : Heap) (locs : List Loc) (ls : Array Slot), wS G A s H locs [oX10 aM s_1 M_series M_most M_ratio aMdisk M_writes M_fuse M_down M_recovers M_looks M_unpacked aMits aMmany aMplace aMlength aMtimes aMvalues aMorder M_chunks M_epoch M_side aMheadOf aMheadTime aMheadValue M_logged aMnext aMisNew M_nexts aMcursorTime aMcursorValue M_hasCursor M_cursorMany M_cursorAt aMmade M_bits M_from M_askMany M_askLeast M_askGreatest M_askSum, rI aMits cI 240 M_its, rI aMorder cI 96 M_order, rI aMheadOf cI 128 M_headOf] → lv_has ls 5 [(0, .ref aM), (1, .int p0), (4, .int v4_19)] → W p l e rm_X10_sizes s m args below meth c H locs 0 0 QQ (F0 m 102 ls [.int s_28, .int v3_18]) := by
                  clear hw25 H25 locs25 hl25 ls25 hJ_29
                  intro H32 locs32 ls32 hw32 hl32
                  refine lv_iadd hx hb dX10_sizes_102 ?_
                  refine lv_istore_n (lv' := [(3, .int (v3_18 + s_28)), (0, .ref aM), (1, .int p0), (4, .int v4_19)]) hx hb dX10_sizes_103 rfl hl32 (by decide) rfl (fun ls33 hl33 => ?_)
                  clear hl32 ls32
                  refine lv_iinc (v := (v4_19 + (1 : Int32))) (lv' := [(4, .int (v4_19 + (1 : Int32))), (3, .int (v3_18 + s_28)), (0, .ref aM), (1, .int p0)]) hx hb dX10_sizes_104 hl33 (k := 3) rfl rfl (by decide) rfl (fun ls34 hl34 => ?_)
                  clear hl33 ls33
                  refine lv_goto (tgt := 76) hx hb dX10_sizes_107 (by decide) ?_
                  exact ih (v3_18 + s_28) (v4_19 + (1 : Int32)) hB_23 _ _ _ hw32 (lv_sub hl34 [2, 3, 1, 0] rfl)
                clear hB_23
                refine lv_icmp_ne (tgt := 101) hx hb dX10_sizes_94 (by decide) (fun c_31 => ?_) (fun c_31 => ?_)
                · replace hJ_29 := it_f c_31 hJ_29
                  refine lv_iconst (v := (0 : Int32)) hx hb dX10_sizes_101 (by decide) ?_
                  cases hJ_29
                  exact kj_30 _ _ _ hw25 (lv_sub hl25 [0, 1, 3] rfl)
                · replace hJ_29 := it_t c_31 hJ_29
                  refine lv_iconst (v := (1 : Int32)) hx hb dX10_sizes_97 (by decide) ?_
                  refine lv_goto (tgt := 102) hx hb dX10_sizes_98 (by decide) ?_
                  cases hJ_29
                  exact kj_30 _ _ _ hw25 (lv_sub hl25 [0, 1, 3] rfl)
          exact lp_22 NN (0 : Int32) (0 : Int32) hL_20 _ _ _ hw12 (lv_sub hl17 [2, 3, 1, 0] rfl)
        · replace hfin := it_t c_15 hfin
          refine lv_aload_n hx hb dX10_sizes_65 rfl (lv_at hl11 0 rfl) ?_
          refine lv_iload_n hx hb dX10_sizes_66 rfl (lv_at hl11 1 rfl) ?_
          replace hfin := ob1_some hfin
          obtain ⟨r_37, hE_36, hfin⟩ := hfin
          refine ctV (a := aM) (As := [.int p0]) (rest := []) (st1 := [.int r_37]) (wc := [oX10 aM s_1 M_series M_most M_ratio aMdisk M_writes M_fuse M_down M_recovers M_looks M_unpacked aMits aMmany aMplace aMlength aMtimes aMvalues aMorder M_chunks M_epoch M_side aMheadOf aMheadTime aMheadValue M_logged aMnext aMisNew M_nexts aMcursorTime aMcursorValue M_hasCursor M_cursorMany M_cursorAt aMmade M_bits M_from M_askMany M_askLeast M_askGreatest M_askSum, rI aMits cI 240 M_its, rI aMorder cI 96 M_order]) (w1 := [oX10 aM s_1 M_series M_most M_ratio aMdisk M_writes M_fuse M_down M_recovers M_looks M_unpacked aMits aMmany aMplace aMlength aMtimes aMvalues aMorder M_chunks M_epoch M_side aMheadOf aMheadTime aMheadValue M_logged aMnext aMisNew M_nexts aMcursorTime aMcursorValue M_hasCursor M_cursorMany M_cursorAt aMmade M_bits M_from M_askMany M_askLeast M_askGreatest M_askSum, rI aMits cI 240 M_its, rI aMorder cI 96 M_order]) (wr := [rI aMheadOf cI 128 M_headOf]) (wb := [oX10 aM s_1 M_series M_most M_ratio aMdisk M_writes M_fuse M_down M_recovers M_looks M_unpacked aMits aMmany aMplace aMlength aMtimes aMvalues aMorder M_chunks M_epoch M_side aMheadOf aMheadTime aMheadValue M_logged aMnext aMisNew M_nexts aMcursorTime aMcursorValue M_hasCursor M_cursorMany M_cursorAt aMmade M_bits M_from M_askMany M_askLeast M_askGreatest M_askSum, rI aMits cI 240 M_its, rI aMorder cI 96 M_order, rI aMheadOf cI 128 M_headOf]) (v := (some (.int r_37))) hx hb hml hown htc hN (c_X10_groupsOf l G cI cZ cJ aM aMdisk aMits aMmany aMplace aMlength aMtimes aMvalues aMorder aMheadOf aMheadTime aMheadValue aMnext aMisNew aMcursorTime aMcursorValue aMmade s_1 M_series M_most M_ratio M_writes M_fuse M_down M_recovers M_looks M_unpacked M_chunks M_epoch M_side M_logged M_nexts M_hasCursor M_cursorMany M_cursorAt M_bits M_from M_askMany M_askLeast M_askGreatest M_askSum M_its M_order p0 hE_36) mw_1233 mw_1235 mp_66 mw_12 mw_1236 hd_X10_groupsOf ⟨rfl, rfl⟩ ⟨Nat.le_of_ble_eq_true rfl, Nat.le_of_ble_eq_true rfl⟩ hK hw12 hA [0, 1, 2] [3] [1, 2, 3, 0] rfl rfl rfl rfl rfl (by decide) rfl rfl rfl 0 rfl rfl rfl rfl hl11.1 rfl rfl (Nat.le_of_ble_eq_true rfl) dX10_sizes_67 ⟨Nat.zero_le _, Nat.zero_le _⟩ (fun H38 locs38 hw38 => ?_)
          clear hw12 H12 locs12
          cases hfin
          rw [hQQ]
          exact ct_iret hx hb hr hlocks hw38.1 hw38.2.1 hw38.2.2 dX10_sizes_70
      · replace hfin := it_t c_14 hfin
        refine lv_aload_n hx hb dX10_sizes_54 rfl (lv_at hl11 0 rfl) ?_
        refine lv_iload_n hx hb dX10_sizes_55 rfl (lv_at hl11 1 rfl) ?_
        replace hfin := ob1_some hfin
        obtain ⟨r_40, hE_39, hfin⟩ := hfin
        refine ctV (a := aM) (As := [.int p0]) (rest := []) (st1 := [.int r_40]) (wc := [oX10 aM s_1 M_series M_most M_ratio aMdisk M_writes M_fuse M_down M_recovers M_looks M_unpacked aMits aMmany aMplace aMlength aMtimes aMvalues aMorder M_chunks M_epoch M_side aMheadOf aMheadTime aMheadValue M_logged aMnext aMisNew M_nexts aMcursorTime aMcursorValue M_hasCursor M_cursorMany M_cursorAt aMmade M_bits M_from M_askMany M_askLeast M_askGreatest M_askSum, rI aMits cI 240 M_its, rI aMorder cI 96 M_order]) (w1 := [oX10 aM s_1 M_series M_most M_ratio aMdisk M_writes M_fuse M_down M_recovers M_looks M_unpacked aMits aMmany aMplace aMlength aMtimes aMvalues aMorder M_chunks M_epoch M_side aMheadOf aMheadTime aMheadValue M_logged aMnext aMisNew M_nexts aMcursorTime aMcursorValue M_hasCursor M_cursorMany M_cursorAt aMmade M_bits M_from M_askMany M_askLeast M_askGreatest M_askSum, rI aMits cI 240 M_its, rI aMorder cI 96 M_order]) (wr := [rI aMheadOf cI 128 M_headOf]) (wb := [oX10 aM s_1 M_series M_most M_ratio aMdisk M_writes M_fuse M_down M_recovers M_looks M_unpacked aMits aMmany aMplace aMlength aMtimes aMvalues aMorder M_chunks M_epoch M_side aMheadOf aMheadTime aMheadValue M_logged aMnext aMisNew M_nexts aMcursorTime aMcursorValue M_hasCursor M_cursorMany M_cursorAt aMmade M_bits M_from M_askMany M_askLeast M_askGreatest M_askSum, rI aMits cI 240 M_its, rI aMorder cI 96 M_order, rI aMheadOf cI 128 M_headOf]) (v := (some (.int r_40))) hx hb hml hown htc hN (c_X10_chunksOf l G cI cZ cJ aM aMdisk aMits aMmany aMplace aMlength aMtimes aMvalues aMorder aMheadOf aMheadTime aMheadValue aMnext aMisNew aMcursorTime aMcursorValue aMmade s_1 M_series M_most M_ratio M_writes M_fuse M_down M_recovers M_looks M_unpacked M_chunks M_epoch M_side M_logged M_nexts M_hasCursor M_cursorMany M_cursorAt M_bits M_from M_askMany M_askLeast M_askGreatest M_askSum M_its M_order p0 hE_39) mw_1229 mw_1231 mp_65 mw_12 mw_1232 hd_X10_chunksOf ⟨rfl, rfl⟩ ⟨Nat.le_of_ble_eq_true rfl, Nat.le_of_ble_eq_true rfl⟩ hK hw12 hA [0, 1, 2] [3] [1, 2, 3, 0] rfl rfl rfl rfl rfl (by decide) rfl rfl rfl 0 rfl rfl rfl rfl hl11.1 rfl rfl (Nat.le_of_ble_eq_true rfl) dX10_sizes_56 ⟨Nat.zero_le _, Nat.zero_le _⟩ (fun H41 locs41 hw41 => ?_)
        clear hw12 H12 locs12
        cases hfin
        rw [hQQ]
        exact ct_iret hx hb hr hlocks hw41.1 hw41.2.1 hw41.2.2 dX10_sizes_59
    · replace hfin := it_f c_13 hfin
      refine lv_iconst (v := (0 : Int32)) hx hb dX10_sizes_48 (by decide) ?_
      cases hfin
      rw [hQQ]
      exact ct_iret hx hb hr hlocks hw12.1 hw12.2.1 hw12.2.2 dX10_sizes_49
  clear hfin
  refine lv_if_eq (tgt := 12) hx hb dX10_sizes_5 (by decide) (fun c_4 => ?_) (fun c_4 => ?_)
  · replace hJ_2 := it_t c_4 hJ_2
    refine lv_aload_n hx hb dX10_sizes_12 rfl (lv_at hl0 0 rfl) ?_
    refine lv_iload_n hx hb dX10_sizes_13 rfl (lv_at hl0 1 rfl) ?_
    replace hJ_2 := ob1_some hJ_2
    obtain ⟨r_6, hE_5, hJ_2⟩ := hJ_2
    refine ctV (a := aM) (As := [.int p0]) (rest := [.ref aM]) (st1 := [.int r_6, .ref aM]) (wc := [oX10 aM M_thrown M_series M_most M_ratio aMdisk M_writes M_fuse M_down M_recovers M_looks M_unpacked aMits aMmany aMplace aMlength aMtimes aMvalues aMorder M_chunks M_epoch M_side aMheadOf aMheadTime aMheadValue M_logged aMnext aMisNew M_nexts aMcursorTime aMcursorValue M_hasCursor M_cursorMany M_cursorAt aMmade M_bits M_from M_askMany M_askLeast M_askGreatest M_askSum]) (w1 := [oX10 aM M_thrown M_series M_most M_ratio aMdisk M_writes M_fuse M_down M_recovers M_looks M_unpacked aMits aMmany aMplace aMlength aMtimes aMvalues aMorder M_chunks M_epoch M_side aMheadOf aMheadTime aMheadValue M_logged aMnext aMisNew M_nexts aMcursorTime aMcursorValue M_hasCursor M_cursorMany M_cursorAt aMmade M_bits M_from M_askMany M_askLeast M_askGreatest M_askSum]) (wr := [rI aMits cI 240 M_its, rI aMorder cI 96 M_order, rI aMheadOf cI 128 M_headOf]) (wb := [oX10 aM M_thrown M_series M_most M_ratio aMdisk M_writes M_fuse M_down M_recovers M_looks M_unpacked aMits aMmany aMplace aMlength aMtimes aMvalues aMorder M_chunks M_epoch M_side aMheadOf aMheadTime aMheadValue M_logged aMnext aMisNew M_nexts aMcursorTime aMcursorValue M_hasCursor M_cursorMany M_cursorAt aMmade M_bits M_from M_askMany M_askLeast M_askGreatest M_askSum, rI aMits cI 240 M_its, rI aMorder cI 96 M_order, rI aMheadOf cI 128 M_headOf]) (v := (some (.int r_6))) hx hb hml hown htc hN (c_X10_isSeries l G cI cZ cJ aM aMdisk aMits aMmany aMplace aMlength aMtimes aMvalues aMorder aMheadOf aMheadTime aMheadValue aMnext aMisNew aMcursorTime aMcursorValue aMmade M_thrown M_series M_most M_ratio M_writes M_fuse M_down M_recovers M_looks M_unpacked M_chunks M_epoch M_side M_logged M_nexts M_hasCursor M_cursorMany M_cursorAt M_bits M_from M_askMany M_askLeast M_askGreatest M_askSum p0 hE_5) mw_1080 mw_1082 mp_35 mw_12 mw_1083 hd_X10_isSeries ⟨rfl, rfl⟩ ⟨Nat.le_of_ble_eq_true rfl, Nat.le_of_ble_eq_true rfl⟩ hK hw0 hA [0] [1, 2, 3] [3, 0, 1, 2] rfl rfl rfl rfl rfl (by decide) rfl rfl rfl 0 rfl rfl rfl rfl hl0.1 rfl rfl (Nat.le_of_ble_eq_true rfl) dX10_sizes_14 ⟨Nat.zero_le _, Nat.zero_le _⟩ (fun H7 locs7 hw7 => ?_)
    clear hw0
    refine lv_if_ne (tgt := 24) hx hb dX10_sizes_17 (by decide) (fun c_8 => ?_) (fun c_8 => ?_)
    · replace hJ_2 := it_f c_8 hJ_2
      refine lv_iload_n hx hb dX10_sizes_24 rfl (lv_at hl0 2 rfl) ?_
      refine lv_if_lt (tgt := 33) hx hb dX10_sizes_25 (by decide) (fun c_9 => ?_) (fun c_9 => ?_)
      · replace hJ_2 := it_t c_9 hJ_2
        refine lv_iconst (v := (3 : Int32)) hx hb dX10_sizes_33 (by decide) ?_
        refine lv_goto (tgt := 38) hx hb dX10_sizes_34 (by decide) ?_
        cases hJ_2
        exact kj_3 _ _ _ hw7 (lv_sub hl0 [0, 1, 2] rfl)
      · replace hJ_2 := it_f c_9 hJ_2
        refine lv_iload_n hx hb dX10_sizes_28 rfl (lv_at hl0 2 rfl) ?_
        refine lv_iconst (v := (2 : Int32)) hx hb dX10_sizes_29 (by decide) ?_
        refine lv_icmp_le (tgt := 37) hx hb dX10_sizes_30 (by decide) (fun c_10 => ?_) (fun c_10 => ?_)
        · replace hJ_2 := it_t c_10 hJ_2
          refine lv_iconst (v := (0 : Int32)) hx hb dX10_sizes_37 (by decide) ?_
          cases hJ_2
          exact kj_3 _ _ _ hw7 (lv_sub hl0 [0, 1, 2] rfl)
        · replace hJ_2 := it_f c_10 hJ_2
          refine lv_iconst (v := (3 : Int32)) hx hb dX10_sizes_33 (by decide) ?_
          refine lv_goto (tgt := 38) hx hb dX10_sizes_34 (by decide) ?_
          cases hJ_2
          exact kj_3 _ _ _ hw7 (lv_sub hl0 [0, 1, 2] rfl)
    · replace hJ_2 := it_t c_8 hJ_2
      refine lv_iconst (v := (2 : Int32)) hx hb dX10_sizes_20 (by decide) ?_
      refine lv_goto (tgt := 38) hx hb dX10_sizes_21 (by decide) ?_
      cases hJ_2
      exact kj_3 _ _ _ hw7 (lv_sub hl0 [0, 1, 2] rfl)
  · replace hJ_2 := it_f c_4 hJ_2
    refine lv_iconst (v := (1 : Int32)) hx hb dX10_sizes_8 (by decide) ?_
    refine lv_goto (tgt := 38) hx hb dX10_sizes_9 (by decide) ?_
    cases hJ_2
    exact kj_3 _ _ _ hw0 (lv_sub hl0 [0, 1, 2] rfl)
abbrev rm_X10_chunk : Room := { frames := 1, cells := 0, slots := 0, locals := 24 }
theorem hd_X10_chunk : yX10_chunk.cls = RX10 ∧ yX10_chunk.cls ≠ "java/lang/invoke/MethodHandle" ∧ yX10_chunk.cls ≠ "java/lang/invoke/VarHandle" ∧ (parseMethodDescriptor yX10_chunk.desc).map (fun d => d.parameters.length) = some 3 := by decide +kernel
set_option maxHeartbeats 4000000 in
set_option maxRecDepth 100000 in
theorem c_X10_chunk (l : Launch) (G : va_G) (cI cZ cJ : ClassId) (aM aMdisk aMits aMmany aMplace aMlength aMtimes aMvalues aMorder aMheadOf aMheadTime aMheadValue aMnext aMisNew aMcursorTime aMcursorValue aMmade : Nat) (M_thrown : Int32) (M_series : Int32) (M_most : Int32) (M_ratio : Int32) (M_writes : Int32) (M_fuse : Int32) (M_down : Int32) (M_recovers : Int32) (M_looks : Int32) (M_unpacked : Int32) (M_chunks : Int32) (M_epoch : Int32) (M_side : Int32) (M_logged : Int32) (M_nexts : Int32) (M_hasCursor : Int32) (M_cursorMany : Int32) (M_cursorAt : Int32) (M_bits : Int32) (M_from : Int32) (M_askMany : Int32) (M_askLeast : Int32) (M_askGreatest : Int32) (M_askSum : Int64) (M_its : Nat → Int32) (M_many : Nat → Int32) (M_place : Nat → Int32) (M_length : Nat → Int32) (M_times : Nat → Int32) (M_values : Nat → Int32) (M_order : Nat → Int32) (p0 : Int32) (p1 : Int32) (p2 : Int32) {r : Int32} {o_M_thrown : Int32} (hfin : m_X10_chunk M_thrown M_series M_down M_chunks M_its M_many M_place M_length M_times M_values M_order p0 p1 p2 = some (r, o_M_thrown)) : CT l yX10_chunk cX10_chunk 5 (some .int) rm_X10_chunk G (tyC cI cZ cJ) [.ref aM, .int p0, .int p1, .int p2] [oX10 aM M_thrown M_series M_most M_ratio aMdisk M_writes M_fuse M_down M_recovers M_looks M_unpacked aMits aMmany aMplace aMlength aMtimes aMvalues aMorder M_chunks M_epoch M_side aMheadOf aMheadTime aMheadValue M_logged aMnext aMisNew M_nexts aMcursorTime aMcursorValue M_hasCursor M_cursorMany M_cursorAt aMmade M_bits M_from M_askMany M_askLeast M_askGreatest M_askSum, rI aMits cI 240 M_its, rI aMmany cI 240 M_many, rI aMplace cI 240 M_place, rI aMlength cI 240 M_length, rI aMtimes cI 15360 M_times, rI aMvalues cI 15360 M_values, rI aMorder cI 96 M_order] (some (.int r)) [oX10 aM o_M_thrown M_series M_most M_ratio aMdisk M_writes M_fuse M_down M_recovers M_looks M_unpacked aMits aMmany aMplace aMlength aMtimes aMvalues aMorder M_chunks M_epoch M_side aMheadOf aMheadTime aMheadValue M_logged aMnext aMisNew M_nexts aMcursorTime aMcursorValue M_hasCursor M_cursorMany M_cursorAt aMmade M_bits M_from M_askMany M_askLeast M_askGreatest M_askSum, rI aMits cI 240 M_its, rI aMmany cI 240 M_many, rI aMplace cI 240 M_place, rI aMlength cI 240 M_length, rI aMtimes cI 15360 M_times, rI aMvalues cI 15360 M_values, rI aMorder cI 96 M_order] := by
  refine CT.ofW (lvl := [(0, .ref aM), (1, .int p0), (2, .int p1), (3, .int p2)]) (by decide) (Nat.le_of_ble_eq_true rfl) rfl ?_
  intro p e s m args below meth c A ls0 QQ hQQ hx hb hml hr hlocks htc hN hown hK hA hw0 hl0
  rw [m_X10_chunk] at hfin
  refine lv_aload_n hx hb dX10_chunk_0 rfl (lv_at hl0 0 rfl) ?_
  refine lv_aload_n hx hb dX10_chunk_1 rfl (lv_at hl0 0 rfl) ?_
  refine va_get (D := G) (ci := 10) (v := .int M_down) (C := RX10) (T := TX10) (N := 40) hx hb htc iX10 hown hK hw0.1 0 rfl rfl 7 (by decide) (htc _ mw_954) (fun _ h9 => h9) rfl dX10_chunk_2 ?_
  replace hfin := ob1_some hfin
  obtain ⟨s_1, hJ_2, hfin⟩ := hfin
  have kj_3 : ∀ (H : Heap) (locs : List Loc) (ls : Array Slot), wS G A s H locs [oX10 aM M_thrown M_series M_most M_ratio aMdisk M_writes M_fuse M_down M_recovers M_looks M_unpacked aMits aMmany aMplace aMlength aMtimes aMvalues aMorder M_chunks M_epoch M_side aMheadOf aMheadTime aMheadValue M_logged aMnext aMisNew M_nexts aMcursorTime aMcursorValue M_hasCursor M_cursorMany M_cursorAt aMmade M_bits M_from M_askMany M_askLeast M_askGreatest M_askSum, rI aMits cI 240 M_its, rI aMmany cI 240 M_many, rI aMplace cI 240 M_place, rI aMlength cI 240 M_length, rI aMtimes cI 15360 M_times, rI aMvalues cI 15360 M_values, rI aMorder cI 96 M_order] → lv_has ls 5 [(0, .ref aM), (1, .int p0), (2, .int p1), (3, .int p2)] → W p l e rm_X10_chunk s m args below meth c H locs 0 0 QQ (F0 m 52 ls [.int s_1, .ref aM]) := by
    clear hw0 hl0 ls0 hJ_2
    intro H16 locs16 ls16 hw16 hl16
    refine va_put (D := G) (ci := 10) (v := .int s_1) (ty := .int) (C := RX10) (T := TX10) (N := 40) hx hb htc iX10 tyX10 tyX10_ok nmX10 hown hK hw16.1 hw16.2.1 hw16.2.2 0 rfl rfl 0 (by decide) (htc _ mw_947) (fun _ h9 => h9) rfl (tyX10_ok 0 (by decide)) rfl rfl (Nat.le_of_ble_eq_true rfl) dX10_chunk_52 (fun H17 locs17 hP hD hS => ?_)
    have hw17 : wS G A s H17 locs17 [oX10 aM s_1 M_series M_most M_ratio aMdisk M_writes M_fuse M_down M_recovers M_looks M_unpacked aMits aMmany aMplace aMlength aMtimes aMvalues aMorder M_chunks M_epoch M_side aMheadOf aMheadTime aMheadValue M_logged aMnext aMisNew M_nexts aMcursorTime aMcursorValue M_hasCursor M_cursorMany M_cursorAt aMmade M_bits M_from M_askMany M_askLeast M_askGreatest M_askSum, rI aMits cI 240 M_its, rI aMmany cI 240 M_many, rI aMplace cI 240 M_place, rI aMlength cI 240 M_length, rI aMtimes cI 15360 M_times, rI aMvalues cI 15360 M_values, rI aMorder cI 96 M_order] := ⟨hP, hD, hS⟩
    clear hP hD hS hw16 H16 locs16
    refine lv_aload_n hx hb dX10_chunk_55 rfl (lv_at hl16 0 rfl) ?_
    refine va_get (D := G) (ci := 10) (v := .int s_1) (C := RX10) (T := TX10) (N := 40) hx hb htc iX10 hown hK hw17.1 0 rfl rfl 0 (by decide) (htc _ mw_947) (fun _ h9 => h9) rfl dX10_chunk_56 ?_
    refine lv_if_le (tgt := 64) hx hb dX10_chunk_59 (by decide) (fun c_18 => ?_) (fun c_18 => ?_)
    · replace hfin := it_t c_18 hfin
      refine lv_aload_n hx hb dX10_chunk_64 rfl (lv_at hl16 0 rfl) ?_
      refine lv_iload_n hx hb dX10_chunk_65 rfl (lv_at hl16 1 rfl) ?_
      refine lv_iload_n hx hb dX10_chunk_66 rfl (lv_at hl16 2 rfl) ?_
      replace hfin := ob1_some hfin
      obtain ⟨r_20, hE_19, hfin⟩ := hfin
      refine ctV (a := aM) (As := [.int p0, .int p1]) (rest := []) (st1 := [.int r_20]) (wc := [oX10 aM s_1 M_series M_most M_ratio aMdisk M_writes M_fuse M_down M_recovers M_looks M_unpacked aMits aMmany aMplace aMlength aMtimes aMvalues aMorder M_chunks M_epoch M_side aMheadOf aMheadTime aMheadValue M_logged aMnext aMisNew M_nexts aMcursorTime aMcursorValue M_hasCursor M_cursorMany M_cursorAt aMmade M_bits M_from M_askMany M_askLeast M_askGreatest M_askSum, rI aMits cI 240 M_its, rI aMorder cI 96 M_order]) (w1 := [oX10 aM s_1 M_series M_most M_ratio aMdisk M_writes M_fuse M_down M_recovers M_looks M_unpacked aMits aMmany aMplace aMlength aMtimes aMvalues aMorder M_chunks M_epoch M_side aMheadOf aMheadTime aMheadValue M_logged aMnext aMisNew M_nexts aMcursorTime aMcursorValue M_hasCursor M_cursorMany M_cursorAt aMmade M_bits M_from M_askMany M_askLeast M_askGreatest M_askSum, rI aMits cI 240 M_its, rI aMorder cI 96 M_order]) (wr := [rI aMmany cI 240 M_many, rI aMplace cI 240 M_place, rI aMlength cI 240 M_length, rI aMtimes cI 15360 M_times, rI aMvalues cI 15360 M_values]) (wb := [oX10 aM s_1 M_series M_most M_ratio aMdisk M_writes M_fuse M_down M_recovers M_looks M_unpacked aMits aMmany aMplace aMlength aMtimes aMvalues aMorder M_chunks M_epoch M_side aMheadOf aMheadTime aMheadValue M_logged aMnext aMisNew M_nexts aMcursorTime aMcursorValue M_hasCursor M_cursorMany M_cursorAt aMmade M_bits M_from M_askMany M_askLeast M_askGreatest M_askSum, rI aMits cI 240 M_its, rI aMmany cI 240 M_many, rI aMplace cI 240 M_place, rI aMlength cI 240 M_length, rI aMtimes cI 15360 M_times, rI aMvalues cI 15360 M_values, rI aMorder cI 96 M_order]) (v := (some (.int r_20))) hx hb hml hown htc hN (c_X10_slot l G cI cZ cJ aM aMdisk aMits aMmany aMplace aMlength aMtimes aMvalues aMorder aMheadOf aMheadTime aMheadValue aMnext aMisNew aMcursorTime aMcursorValue aMmade s_1 M_series M_most M_ratio M_writes M_fuse M_down M_recovers M_looks M_unpacked M_chunks M_epoch M_side M_logged M_nexts M_hasCursor M_cursorMany M_cursorAt M_bits M_from M_askMany M_askLeast M_askGreatest M_askSum M_its M_order p0 p1 hE_19) mw_1237 mw_1239 mp_67 mw_12 mw_1240 hd_X10_slot ⟨rfl, rfl⟩ ⟨Nat.le_of_ble_eq_true rfl, Nat.le_of_ble_eq_true rfl⟩ hK hw17 hA [0, 1, 7] [2, 3, 4, 5, 6] [5, 6, 0, 1, 2, 3, 4, 7] rfl rfl rfl rfl rfl (by decide) rfl rfl rfl 0 rfl rfl rfl rfl hl16.1 rfl rfl (Nat.le_of_ble_eq_true rfl) dX10_chunk_67 ⟨Nat.zero_le _, Nat.zero_le _⟩ (fun H21 locs21 hw21 => ?_)
      clear hw17 H17 locs17
      refine lv_istore (lv' := [(4, .int r_20), (0, .ref aM), (1, .int p0), (2, .int p1), (3, .int p2)]) hx hb dX10_chunk_70 hl16 (by decide) rfl (fun ls22 hl22 => ?_)
      clear hl16 ls16
      refine lv_iload_n hx hb dX10_chunk_72 rfl (lv_at hl22 4 rfl) ?_
      by_cases c_23 : p2 = (0 : Int32)
      · replace hfin := it_t c_23 hfin
        refine lv_tableIn (tgt := 112) hx hb dX10_chunk_73 (by rw [c_23]; decide) (by rw [c_23]; decide) (by rw [c_23]; rfl) (by decide) ?_
        refine lv_aload_n hx hb dX10_chunk_112 rfl (lv_at hl22 1 rfl) ?_
        refine lv_iload hx hb dX10_chunk_113 (lv_at hl22 0 rfl) ?_
        replace hfin := ob1_some hfin
        obtain ⟨r_25, hE_24, hfin⟩ := hfin
        refine ctV (a := aM) (As := [.int r_20]) (rest := []) (st1 := [.int r_25]) (wc := [oX10 aM s_1 M_series M_most M_ratio aMdisk M_writes M_fuse M_down M_recovers M_looks M_unpacked aMits aMmany aMplace aMlength aMtimes aMvalues aMorder M_chunks M_epoch M_side aMheadOf aMheadTime aMheadValue M_logged aMnext aMisNew M_nexts aMcursorTime aMcursorValue M_hasCursor M_cursorMany M_cursorAt aMmade M_bits M_from M_askMany M_askLeast M_askGreatest M_askSum, rI aMtimes cI 15360 M_times]) (w1 := [oX10 aM s_1 M_series M_most M_ratio aMdisk M_writes M_fuse M_down M_recovers M_looks M_unpacked aMits aMmany aMplace aMlength aMtimes aMvalues aMorder M_chunks M_epoch M_side aMheadOf aMheadTime aMheadValue M_logged aMnext aMisNew M_nexts aMcursorTime aMcursorValue M_hasCursor M_cursorMany M_cursorAt aMmade M_bits M_from M_askMany M_askLeast M_askGreatest M_askSum, rI aMtimes cI 15360 M_times]) (wr := [rI aMits cI 240 M_its, rI aMmany cI 240 M_many, rI aMplace cI 240 M_place, rI aMlength cI 240 M_length, rI aMvalues cI 15360 M_values, rI aMorder cI 96 M_order]) (wb := [oX10 aM s_1 M_series M_most M_ratio aMdisk M_writes M_fuse M_down M_recovers M_looks M_unpacked aMits aMmany aMplace aMlength aMtimes aMvalues aMorder M_chunks M_epoch M_side aMheadOf aMheadTime aMheadValue M_logged aMnext aMisNew M_nexts aMcursorTime aMcursorValue M_hasCursor M_cursorMany M_cursorAt aMmade M_bits M_from M_askMany M_askLeast M_askGreatest M_askSum, rI aMits cI 240 M_its, rI aMmany cI 240 M_many, rI aMplace cI 240 M_place, rI aMlength cI 240 M_length, rI aMtimes cI 15360 M_times, rI aMvalues cI 15360 M_values, rI aMorder cI 96 M_order]) (v := (some (.int r_25))) hx hb hml hown htc hN (c_X10_firstTime l G cI cZ cJ aM aMdisk aMits aMmany aMplace aMlength aMtimes aMvalues aMorder aMheadOf aMheadTime aMheadValue aMnext aMisNew aMcursorTime aMcursorValue aMmade s_1 M_series M_most M_ratio M_writes M_fuse M_down M_recovers M_looks M_unpacked M_chunks M_epoch M_side M_logged M_nexts M_hasCursor M_cursorMany M_cursorAt M_bits M_from M_askMany M_askLeast M_askGreatest M_askSum M_times r_20 hE_24) mw_1181 mw_1183 mp_56 mw_12 mw_1184 hd_X10_firstTime ⟨rfl, rfl⟩ ⟨Nat.le_of_ble_eq_true rfl, Nat.le_of_ble_eq_true rfl⟩ hK hw21 hA [0, 5] [1, 2, 3, 4, 6, 7] [6, 0, 1, 2, 3, 7, 4, 5] rfl rfl rfl rfl rfl (by decide) rfl rfl rfl 0 rfl rfl rfl rfl hl22.1 rfl rfl (Nat.le_of_ble_eq_true rfl) dX10_chunk_115 ⟨Nat.zero_le _, Nat.zero_le _⟩ (fun H26 locs26 hw26 => ?_)
        clear hw21 H21 locs21
        cases hfin
        rw [hQQ]
        exact ct_iret hx hb hr hlocks hw26.1 hw26.2.1 hw26.2.2 dX10_chunk_118
      · replace hfin := it_f c_23 hfin
        by_cases c_27 : p2 = (1 : Int32)
        · replace hfin := it_t c_27 hfin
          refine lv_tableIn (tgt := 119) hx hb dX10_chunk_73 (by rw [c_27]; decide) (by rw [c_27]; decide) (by rw [c_27]; rfl) (by decide) ?_
          refine lv_aload_n hx hb dX10_chunk_119 rfl (lv_at hl22 1 rfl) ?_
          refine lv_iload hx hb dX10_chunk_120 (lv_at hl22 0 rfl) ?_
          replace hfin := ob1_some hfin
          obtain ⟨r_29, hE_28, hfin⟩ := hfin
          refine ctV (a := aM) (As := [.int r_20]) (rest := []) (st1 := [.int r_29]) (wc := [oX10 aM s_1 M_series M_most M_ratio aMdisk M_writes M_fuse M_down M_recovers M_looks M_unpacked aMits aMmany aMplace aMlength aMtimes aMvalues aMorder M_chunks M_epoch M_side aMheadOf aMheadTime aMheadValue M_logged aMnext aMisNew M_nexts aMcursorTime aMcursorValue M_hasCursor M_cursorMany M_cursorAt aMmade M_bits M_from M_askMany M_askLeast M_askGreatest M_askSum, rI aMmany cI 240 M_many, rI aMtimes cI 15360 M_times]) (w1 := [oX10 aM s_1 M_series M_most M_ratio aMdisk M_writes M_fuse M_down M_recovers M_looks M_unpacked aMits aMmany aMplace aMlength aMtimes aMvalues aMorder M_chunks M_epoch M_side aMheadOf aMheadTime aMheadValue M_logged aMnext aMisNew M_nexts aMcursorTime aMcursorValue M_hasCursor M_cursorMany M_cursorAt aMmade M_bits M_from M_askMany M_askLeast M_askGreatest M_askSum, rI aMmany cI 240 M_many, rI aMtimes cI 15360 M_times]) (wr := [rI aMits cI 240 M_its, rI aMplace cI 240 M_place, rI aMlength cI 240 M_length, rI aMvalues cI 15360 M_values, rI aMorder cI 96 M_order]) (wb := [oX10 aM s_1 M_series M_most M_ratio aMdisk M_writes M_fuse M_down M_recovers M_looks M_unpacked aMits aMmany aMplace aMlength aMtimes aMvalues aMorder M_chunks M_epoch M_side aMheadOf aMheadTime aMheadValue M_logged aMnext aMisNew M_nexts aMcursorTime aMcursorValue M_hasCursor M_cursorMany M_cursorAt aMmade M_bits M_from M_askMany M_askLeast M_askGreatest M_askSum, rI aMits cI 240 M_its, rI aMmany cI 240 M_many, rI aMplace cI 240 M_place, rI aMlength cI 240 M_length, rI aMtimes cI 15360 M_times, rI aMvalues cI 15360 M_values, rI aMorder cI 96 M_order]) (v := (some (.int r_29))) hx hb hml hown htc hN (c_X10_lastTime l G cI cZ cJ aM aMdisk aMits aMmany aMplace aMlength aMtimes aMvalues aMorder aMheadOf aMheadTime aMheadValue aMnext aMisNew aMcursorTime aMcursorValue aMmade s_1 M_series M_most M_ratio M_writes M_fuse M_down M_recovers M_looks M_unpacked M_chunks M_epoch M_side M_logged M_nexts M_hasCursor M_cursorMany M_cursorAt M_bits M_from M_askMany M_askLeast M_askGreatest M_askSum M_many M_times r_20 hE_28) mw_1185 mw_1187 mp_57 mw_12 mw_1188 hd_X10_lastTime ⟨rfl, rfl⟩ ⟨Nat.le_of_ble_eq_true rfl, Nat.le_of_ble_eq_true rfl⟩ hK hw21 hA [0, 2, 5] [1, 3, 4, 6, 7] [5, 0, 6, 1, 2, 7, 3, 4] rfl rfl rfl rfl rfl (by decide) rfl rfl rfl 0 rfl rfl rfl rfl hl22.1 rfl rfl (Nat.le_of_ble_eq_true rfl) dX10_chunk_122 ⟨Nat.zero_le _, Nat.zero_le _⟩ (fun H30 locs30 hw30 => ?_)
          clear hw21 H21 locs21
          cases hfin
          rw [hQQ]
          exact ct_iret hx hb hr hlocks hw30.1 hw30.2.1 hw30.2.2 dX10_chunk_125
        · replace hfin := it_f c_27 hfin
          by_cases c_31 : p2 = (2 : Int32)
          · replace hfin := it_t c_31 hfin
            refine lv_tableIn (tgt := 126) hx hb dX10_chunk_73 (by rw [c_31]; decide) (by rw [c_31]; decide) (by rw [c_31]; rfl) (by decide) ?_
            refine lv_aload_n hx hb dX10_chunk_126 rfl (lv_at hl22 1 rfl) ?_
            refine va_get (D := G) (ci := 10) (v := .ref aMmany) (C := RX10) (T := TX10) (N := 40) hx hb htc iX10 hown hK hw21.1 0 rfl rfl 12 (by decide) (htc _ mw_959) (fun _ h9 => h9) rfl dX10_chunk_127 ?_
            refine lv_iload hx hb dX10_chunk_130 (lv_at hl22 0 rfl) ?_
            replace hfin := ckb_some hfin
            obtain ⟨hin_32, hfin⟩ := hfin
            refine va_iald hx hb hK hw21.1 2 0 rfl rfl hin_32 dX10_chunk_132 ?_
            cases hfin
            rw [hQQ]
            exact ct_iret hx hb hr hlocks hw21.1 hw21.2.1 hw21.2.2 dX10_chunk_133
          · replace hfin := it_f c_31 hfin
            by_cases c_33 : p2 = (3 : Int32)
            · replace hfin := it_t c_33 hfin
              refine lv_tableIn (tgt := 134) hx hb dX10_chunk_73 (by rw [c_33]; decide) (by rw [c_33]; decide) (by rw [c_33]; rfl) (by decide) ?_
              refine lv_aload_n hx hb dX10_chunk_134 rfl (lv_at hl22 1 rfl) ?_
              refine lv_iload hx hb dX10_chunk_135 (lv_at hl22 0 rfl) ?_
              replace hfin := ob1_some hfin
              obtain ⟨r_35, hE_34, hfin⟩ := hfin
              refine ctV (a := aM) (As := [.int r_20]) (rest := []) (st1 := [.int r_35]) (wc := [oX10 aM s_1 M_series M_most M_ratio aMdisk M_writes M_fuse M_down M_recovers M_looks M_unpacked aMits aMmany aMplace aMlength aMtimes aMvalues aMorder M_chunks M_epoch M_side aMheadOf aMheadTime aMheadValue M_logged aMnext aMisNew M_nexts aMcursorTime aMcursorValue M_hasCursor M_cursorMany M_cursorAt aMmade M_bits M_from M_askMany M_askLeast M_askGreatest M_askSum, rI aMmany cI 240 M_many, rI aMvalues cI 15360 M_values]) (w1 := [oX10 aM s_1 M_series M_most M_ratio aMdisk M_writes M_fuse M_down M_recovers M_looks M_unpacked aMits aMmany aMplace aMlength aMtimes aMvalues aMorder M_chunks M_epoch M_side aMheadOf aMheadTime aMheadValue M_logged aMnext aMisNew M_nexts aMcursorTime aMcursorValue M_hasCursor M_cursorMany M_cursorAt aMmade M_bits M_from M_askMany M_askLeast M_askGreatest M_askSum, rI aMmany cI 240 M_many, rI aMvalues cI 15360 M_values]) (wr := [rI aMits cI 240 M_its, rI aMplace cI 240 M_place, rI aMlength cI 240 M_length, rI aMtimes cI 15360 M_times, rI aMorder cI 96 M_order]) (wb := [oX10 aM s_1 M_series M_most M_ratio aMdisk M_writes M_fuse M_down M_recovers M_looks M_unpacked aMits aMmany aMplace aMlength aMtimes aMvalues aMorder M_chunks M_epoch M_side aMheadOf aMheadTime aMheadValue M_logged aMnext aMisNew M_nexts aMcursorTime aMcursorValue M_hasCursor M_cursorMany M_cursorAt aMmade M_bits M_from M_askMany M_askLeast M_askGreatest M_askSum, rI aMits cI 240 M_its, rI aMmany cI 240 M_many, rI aMplace cI 240 M_place, rI aMlength cI 240 M_length, rI aMtimes cI 15360 M_times, rI aMvalues cI 15360 M_values, rI aMorder cI 96 M_order]) (v := (some (.int r_35))) hx hb hml hown htc hN (c_X10_leastOf l G cI cZ cJ aM aMdisk aMits aMmany aMplace aMlength aMtimes aMvalues aMorder aMheadOf aMheadTime aMheadValue aMnext aMisNew aMcursorTime aMcursorValue aMmade s_1 M_series M_most M_ratio M_writes M_fuse M_down M_recovers M_looks M_unpacked M_chunks M_epoch M_side M_logged M_nexts M_hasCursor M_cursorMany M_cursorAt M_bits M_from M_askMany M_askLeast M_askGreatest M_askSum M_many M_values r_20 hE_34) mw_1189 mw_1191 mp_58 mw_12 mw_1192 hd_X10_leastOf ⟨rfl, rfl⟩ ⟨Nat.le_of_ble_eq_true rfl, Nat.le_of_ble_eq_true rfl⟩ hK hw21 hA [0, 2, 6] [1, 3, 4, 5, 7] [5, 0, 6, 1, 2, 3, 7, 4] rfl rfl rfl rfl rfl (by decide) rfl rfl rfl 0 rfl rfl rfl rfl hl22.1 rfl rfl (Nat.le_of_ble_eq_true rfl) dX10_chunk_137 ⟨Nat.zero_le _, Nat.zero_le _⟩ (fun H36 locs36 hw36 => ?_)
              clear hw21 H21 locs21
              cases hfin
              rw [hQQ]
              exact ct_iret hx hb hr hlocks hw36.1 hw36.2.1 hw36.2.2 dX10_chunk_140
            · replace hfin := it_f c_33 hfin
              by_cases c_37 : p2 = (4 : Int32)
              · replace hfin := it_t c_37 hfin
                refine lv_tableIn (tgt := 141) hx hb dX10_chunk_73 (by rw [c_37]; decide) (by rw [c_37]; decide) (by rw [c_37]; rfl) (by decide) ?_
                refine lv_aload_n hx hb dX10_chunk_141 rfl (lv_at hl22 1 rfl) ?_
                refine lv_iload hx hb dX10_chunk_142 (lv_at hl22 0 rfl) ?_
                replace hfin := ob1_some hfin
                obtain ⟨r_39, hE_38, hfin⟩ := hfin
                refine ctV (a := aM) (As := [.int r_20]) (rest := []) (st1 := [.int r_39]) (wc := [oX10 aM s_1 M_series M_most M_ratio aMdisk M_writes M_fuse M_down M_recovers M_looks M_unpacked aMits aMmany aMplace aMlength aMtimes aMvalues aMorder M_chunks M_epoch M_side aMheadOf aMheadTime aMheadValue M_logged aMnext aMisNew M_nexts aMcursorTime aMcursorValue M_hasCursor M_cursorMany M_cursorAt aMmade M_bits M_from M_askMany M_askLeast M_askGreatest M_askSum, rI aMmany cI 240 M_many, rI aMvalues cI 15360 M_values]) (w1 := [oX10 aM s_1 M_series M_most M_ratio aMdisk M_writes M_fuse M_down M_recovers M_looks M_unpacked aMits aMmany aMplace aMlength aMtimes aMvalues aMorder M_chunks M_epoch M_side aMheadOf aMheadTime aMheadValue M_logged aMnext aMisNew M_nexts aMcursorTime aMcursorValue M_hasCursor M_cursorMany M_cursorAt aMmade M_bits M_from M_askMany M_askLeast M_askGreatest M_askSum, rI aMmany cI 240 M_many, rI aMvalues cI 15360 M_values]) (wr := [rI aMits cI 240 M_its, rI aMplace cI 240 M_place, rI aMlength cI 240 M_length, rI aMtimes cI 15360 M_times, rI aMorder cI 96 M_order]) (wb := [oX10 aM s_1 M_series M_most M_ratio aMdisk M_writes M_fuse M_down M_recovers M_looks M_unpacked aMits aMmany aMplace aMlength aMtimes aMvalues aMorder M_chunks M_epoch M_side aMheadOf aMheadTime aMheadValue M_logged aMnext aMisNew M_nexts aMcursorTime aMcursorValue M_hasCursor M_cursorMany M_cursorAt aMmade M_bits M_from M_askMany M_askLeast M_askGreatest M_askSum, rI aMits cI 240 M_its, rI aMmany cI 240 M_many, rI aMplace cI 240 M_place, rI aMlength cI 240 M_length, rI aMtimes cI 15360 M_times, rI aMvalues cI 15360 M_values, rI aMorder cI 96 M_order]) (v := (some (.int r_39))) hx hb hml hown htc hN (c_X10_greatestOf l G cI cZ cJ aM aMdisk aMits aMmany aMplace aMlength aMtimes aMvalues aMorder aMheadOf aMheadTime aMheadValue aMnext aMisNew aMcursorTime aMcursorValue aMmade s_1 M_series M_most M_ratio M_writes M_fuse M_down M_recovers M_looks M_unpacked M_chunks M_epoch M_side M_logged M_nexts M_hasCursor M_cursorMany M_cursorAt M_bits M_from M_askMany M_askLeast M_askGreatest M_askSum M_many M_values r_20 hE_38) mw_1193 mw_1195 mp_59 mw_12 mw_1196 hd_X10_greatestOf ⟨rfl, rfl⟩ ⟨Nat.le_of_ble_eq_true rfl, Nat.le_of_ble_eq_true rfl⟩ hK hw21 hA [0, 2, 6] [1, 3, 4, 5, 7] [5, 0, 6, 1, 2, 3, 7, 4] rfl rfl rfl rfl rfl (by decide) rfl rfl rfl 0 rfl rfl rfl rfl hl22.1 rfl rfl (Nat.le_of_ble_eq_true rfl) dX10_chunk_144 ⟨Nat.zero_le _, Nat.zero_le _⟩ (fun H40 locs40 hw40 => ?_)
                clear hw21 H21 locs21
                cases hfin
                rw [hQQ]
                exact ct_iret hx hb hr hlocks hw40.1 hw40.2.1 hw40.2.2 dX10_chunk_147
              · replace hfin := it_f c_37 hfin
                by_cases c_41 : p2 = (5 : Int32)
                · replace hfin := it_t c_41 hfin
                  refine lv_tableIn (tgt := 148) hx hb dX10_chunk_73 (by rw [c_41]; decide) (by rw [c_41]; decide) (by rw [c_41]; rfl) (by decide) ?_
                  refine lv_aload_n hx hb dX10_chunk_148 rfl (lv_at hl22 1 rfl) ?_
                  refine va_get (D := G) (ci := 10) (v := .ref aMplace) (C := RX10) (T := TX10) (N := 40) hx hb htc iX10 hown hK hw21.1 0 rfl rfl 13 (by decide) (htc _ mw_960) (fun _ h9 => h9) rfl dX10_chunk_149 ?_
                  refine lv_iload hx hb dX10_chunk_152 (lv_at hl22 0 rfl) ?_
                  replace hfin := ckb_some hfin
                  obtain ⟨hin_42, hfin⟩ := hfin
                  refine va_iald hx hb hK hw21.1 3 0 rfl rfl hin_42 dX10_chunk_154 ?_
                  cases hfin
                  rw [hQQ]
                  exact ct_iret hx hb hr hlocks hw21.1 hw21.2.1 hw21.2.2 dX10_chunk_155
                · replace hfin := it_f c_41 hfin
                  refine lv_tableOut (tgt := 156) hx hb dX10_chunk_73 (sw_out5 c_23 c_27 c_31 c_33 c_37 c_41) (by decide) ?_
                  refine lv_aload_n hx hb dX10_chunk_156 rfl (lv_at hl22 1 rfl) ?_
                  refine va_get (D := G) (ci := 10) (v := .ref aMlength) (C := RX10) (T := TX10) (N := 40) hx hb htc iX10 hown hK hw21.1 0 rfl rfl 14 (by decide) (htc _ mw_961) (fun _ h9 => h9) rfl dX10_chunk_157 ?_
                  refine lv_iload hx hb dX10_chunk_160 (lv_at hl22 0 rfl) ?_
                  replace hfin := ckb_some hfin
                  obtain ⟨hin_43, hfin⟩ := hfin
                  refine va_iald hx hb hK hw21.1 4 0 rfl rfl hin_43 dX10_chunk_162 ?_
                  cases hfin
                  rw [hQQ]
                  exact ct_iret hx hb hr hlocks hw21.1 hw21.2.1 hw21.2.2 dX10_chunk_163
    · replace hfin := it_f c_18 hfin
      refine lv_iconst (v := (0 : Int32)) hx hb dX10_chunk_62 (by decide) ?_
      cases hfin
      rw [hQQ]
      exact ct_iret hx hb hr hlocks hw17.1 hw17.2.1 hw17.2.2 dX10_chunk_63
  clear hfin
  refine lv_if_eq (tgt := 12) hx hb dX10_chunk_5 (by decide) (fun c_4 => ?_) (fun c_4 => ?_)
  · replace hJ_2 := it_t c_4 hJ_2
    refine lv_aload_n hx hb dX10_chunk_12 rfl (lv_at hl0 0 rfl) ?_
    refine lv_iload_n hx hb dX10_chunk_13 rfl (lv_at hl0 1 rfl) ?_
    replace hJ_2 := ob1_some hJ_2
    obtain ⟨r_6, hE_5, hJ_2⟩ := hJ_2
    refine ctV (a := aM) (As := [.int p0]) (rest := [.ref aM]) (st1 := [.int r_6, .ref aM]) (wc := [oX10 aM M_thrown M_series M_most M_ratio aMdisk M_writes M_fuse M_down M_recovers M_looks M_unpacked aMits aMmany aMplace aMlength aMtimes aMvalues aMorder M_chunks M_epoch M_side aMheadOf aMheadTime aMheadValue M_logged aMnext aMisNew M_nexts aMcursorTime aMcursorValue M_hasCursor M_cursorMany M_cursorAt aMmade M_bits M_from M_askMany M_askLeast M_askGreatest M_askSum]) (w1 := [oX10 aM M_thrown M_series M_most M_ratio aMdisk M_writes M_fuse M_down M_recovers M_looks M_unpacked aMits aMmany aMplace aMlength aMtimes aMvalues aMorder M_chunks M_epoch M_side aMheadOf aMheadTime aMheadValue M_logged aMnext aMisNew M_nexts aMcursorTime aMcursorValue M_hasCursor M_cursorMany M_cursorAt aMmade M_bits M_from M_askMany M_askLeast M_askGreatest M_askSum]) (wr := [rI aMits cI 240 M_its, rI aMmany cI 240 M_many, rI aMplace cI 240 M_place, rI aMlength cI 240 M_length, rI aMtimes cI 15360 M_times, rI aMvalues cI 15360 M_values, rI aMorder cI 96 M_order]) (wb := [oX10 aM M_thrown M_series M_most M_ratio aMdisk M_writes M_fuse M_down M_recovers M_looks M_unpacked aMits aMmany aMplace aMlength aMtimes aMvalues aMorder M_chunks M_epoch M_side aMheadOf aMheadTime aMheadValue M_logged aMnext aMisNew M_nexts aMcursorTime aMcursorValue M_hasCursor M_cursorMany M_cursorAt aMmade M_bits M_from M_askMany M_askLeast M_askGreatest M_askSum, rI aMits cI 240 M_its, rI aMmany cI 240 M_many, rI aMplace cI 240 M_place, rI aMlength cI 240 M_length, rI aMtimes cI 15360 M_times, rI aMvalues cI 15360 M_values, rI aMorder cI 96 M_order]) (v := (some (.int r_6))) hx hb hml hown htc hN (c_X10_isSeries l G cI cZ cJ aM aMdisk aMits aMmany aMplace aMlength aMtimes aMvalues aMorder aMheadOf aMheadTime aMheadValue aMnext aMisNew aMcursorTime aMcursorValue aMmade M_thrown M_series M_most M_ratio M_writes M_fuse M_down M_recovers M_looks M_unpacked M_chunks M_epoch M_side M_logged M_nexts M_hasCursor M_cursorMany M_cursorAt M_bits M_from M_askMany M_askLeast M_askGreatest M_askSum p0 hE_5) mw_1080 mw_1082 mp_35 mw_12 mw_1083 hd_X10_isSeries ⟨rfl, rfl⟩ ⟨Nat.le_of_ble_eq_true rfl, Nat.le_of_ble_eq_true rfl⟩ hK hw0 hA [0] [1, 2, 3, 4, 5, 6, 7] [7, 0, 1, 2, 3, 4, 5, 6] rfl rfl rfl rfl rfl (by decide) rfl rfl rfl 0 rfl rfl rfl rfl hl0.1 rfl rfl (Nat.le_of_ble_eq_true rfl) dX10_chunk_14 ⟨Nat.zero_le _, Nat.zero_le _⟩ (fun H7 locs7 hw7 => ?_)
    clear hw0
    refine lv_if_ne (tgt := 24) hx hb dX10_chunk_17 (by decide) (fun c_8 => ?_) (fun c_8 => ?_)
    · replace hJ_2 := it_f c_8 hJ_2
      refine lv_iload_n hx hb dX10_chunk_24 rfl (lv_at hl0 3 rfl) ?_
      refine lv_if_lt (tgt := 47) hx hb dX10_chunk_25 (by decide) (fun c_9 => ?_) (fun c_9 => ?_)
      · replace hJ_2 := it_t c_9 hJ_2
        refine lv_iconst (v := (3 : Int32)) hx hb dX10_chunk_47 (by decide) ?_
        refine lv_goto (tgt := 52) hx hb dX10_chunk_48 (by decide) ?_
        cases hJ_2
        exact kj_3 _ _ _ hw7 (lv_sub hl0 [0, 1, 2, 3] rfl)
      · replace hJ_2 := it_f c_9 hJ_2
        refine lv_iload_n hx hb dX10_chunk_28 rfl (lv_at hl0 3 rfl) ?_
        refine lv_bipush (v := (6 : Int32)) hx hb dX10_chunk_29 (by decide) ?_
        refine lv_icmp_gt (tgt := 47) hx hb dX10_chunk_31 (by decide) (fun c_10 => ?_) (fun c_10 => ?_)
        · replace hJ_2 := it_t c_10 hJ_2
          refine lv_iconst (v := (3 : Int32)) hx hb dX10_chunk_47 (by decide) ?_
          refine lv_goto (tgt := 52) hx hb dX10_chunk_48 (by decide) ?_
          cases hJ_2
          exact kj_3 _ _ _ hw7 (lv_sub hl0 [0, 1, 2, 3] rfl)
        · replace hJ_2 := it_f c_10 hJ_2
          refine lv_iload_n hx hb dX10_chunk_34 rfl (lv_at hl0 2 rfl) ?_
          refine lv_if_lt (tgt := 47) hx hb dX10_chunk_35 (by decide) (fun c_11 => ?_) (fun c_11 => ?_)
          · replace hJ_2 := it_t c_11 hJ_2
            refine lv_iconst (v := (3 : Int32)) hx hb dX10_chunk_47 (by decide) ?_
            refine lv_goto (tgt := 52) hx hb dX10_chunk_48 (by decide) ?_
            cases hJ_2
            exact kj_3 _ _ _ hw7 (lv_sub hl0 [0, 1, 2, 3] rfl)
          · replace hJ_2 := it_f c_11 hJ_2
            refine lv_iload_n hx hb dX10_chunk_38 rfl (lv_at hl0 2 rfl) ?_
            refine lv_aload_n hx hb dX10_chunk_39 rfl (lv_at hl0 0 rfl) ?_
            refine lv_iload_n hx hb dX10_chunk_40 rfl (lv_at hl0 1 rfl) ?_
            replace hJ_2 := ob1_some hJ_2
            obtain ⟨r_13, hE_12, hJ_2⟩ := hJ_2
            refine ctV (a := aM) (As := [.int p0]) (rest := [.int p1, .ref aM]) (st1 := [.int r_13, .int p1, .ref aM]) (wc := [oX10 aM M_thrown M_series M_most M_ratio aMdisk M_writes M_fuse M_down M_recovers M_looks M_unpacked aMits aMmany aMplace aMlength aMtimes aMvalues aMorder M_chunks M_epoch M_side aMheadOf aMheadTime aMheadValue M_logged aMnext aMisNew M_nexts aMcursorTime aMcursorValue M_hasCursor M_cursorMany M_cursorAt aMmade M_bits M_from M_askMany M_askLeast M_askGreatest M_askSum, rI aMits cI 240 M_its, rI aMorder cI 96 M_order]) (w1 := [oX10 aM M_thrown M_series M_most M_ratio aMdisk M_writes M_fuse M_down M_recovers M_looks M_unpacked aMits aMmany aMplace aMlength aMtimes aMvalues aMorder M_chunks M_epoch M_side aMheadOf aMheadTime aMheadValue M_logged aMnext aMisNew M_nexts aMcursorTime aMcursorValue M_hasCursor M_cursorMany M_cursorAt aMmade M_bits M_from M_askMany M_askLeast M_askGreatest M_askSum, rI aMits cI 240 M_its, rI aMorder cI 96 M_order]) (wr := [rI aMmany cI 240 M_many, rI aMplace cI 240 M_place, rI aMlength cI 240 M_length, rI aMtimes cI 15360 M_times, rI aMvalues cI 15360 M_values]) (wb := [oX10 aM M_thrown M_series M_most M_ratio aMdisk M_writes M_fuse M_down M_recovers M_looks M_unpacked aMits aMmany aMplace aMlength aMtimes aMvalues aMorder M_chunks M_epoch M_side aMheadOf aMheadTime aMheadValue M_logged aMnext aMisNew M_nexts aMcursorTime aMcursorValue M_hasCursor M_cursorMany M_cursorAt aMmade M_bits M_from M_askMany M_askLeast M_askGreatest M_askSum, rI aMits cI 240 M_its, rI aMmany cI 240 M_many, rI aMplace cI 240 M_place, rI aMlength cI 240 M_length, rI aMtimes cI 15360 M_times, rI aMvalues cI 15360 M_values, rI aMorder cI 96 M_order]) (v := (some (.int r_13))) hx hb hml hown htc hN (c_X10_chunksOf l G cI cZ cJ aM aMdisk aMits aMmany aMplace aMlength aMtimes aMvalues aMorder aMheadOf aMheadTime aMheadValue aMnext aMisNew aMcursorTime aMcursorValue aMmade M_thrown M_series M_most M_ratio M_writes M_fuse M_down M_recovers M_looks M_unpacked M_chunks M_epoch M_side M_logged M_nexts M_hasCursor M_cursorMany M_cursorAt M_bits M_from M_askMany M_askLeast M_askGreatest M_askSum M_its M_order p0 hE_12) mw_1229 mw_1231 mp_65 mw_12 mw_1232 hd_X10_chunksOf ⟨rfl, rfl⟩ ⟨Nat.le_of_ble_eq_true rfl, Nat.le_of_ble_eq_true rfl⟩ hK hw7 hA [0, 1, 7] [2, 3, 4, 5, 6] [5, 6, 0, 1, 2, 3, 4, 7] rfl rfl rfl rfl rfl (by decide) rfl rfl rfl 0 rfl rfl rfl rfl hl0.1 rfl rfl (Nat.le_of_ble_eq_true rfl) dX10_chunk_41 ⟨Nat.zero_le _, Nat.zero_le _⟩ (fun H14 locs14 hw14 => ?_)
            clear hw7 H7 locs7
            refine lv_icmp_lt (tgt := 51) hx hb dX10_chunk_44 (by decide) (fun c_15 => ?_) (fun c_15 => ?_)
            · replace hJ_2 := it_t c_15 hJ_2
              refine lv_iconst (v := (0 : Int32)) hx hb dX10_chunk_51 (by decide) ?_
              cases hJ_2
              exact kj_3 _ _ _ hw14 (lv_sub hl0 [0, 1, 2, 3] rfl)
            · replace hJ_2 := it_f c_15 hJ_2
              refine lv_iconst (v := (3 : Int32)) hx hb dX10_chunk_47 (by decide) ?_
              refine lv_goto (tgt := 52) hx hb dX10_chunk_48 (by decide) ?_
              cases hJ_2
              exact kj_3 _ _ _ hw14 (lv_sub hl0 [0, 1, 2, 3] rfl)
    · replace hJ_2 := it_t c_8 hJ_2
      refine lv_iconst (v := (2 : Int32)) hx hb dX10_chunk_20 (by decide) ?_
      refine lv_goto (tgt := 52) hx hb dX10_chunk_21 (by decide) ?_
      cases hJ_2
      exact kj_3 _ _ _ hw7 (lv_sub hl0 [0, 1, 2, 3] rfl)
  · replace hJ_2 := it_f c_4 hJ_2
    refine lv_iconst (v := (1 : Int32)) hx hb dX10_chunk_8 (by decide) ?_
    refine lv_goto (tgt := 52) hx hb dX10_chunk_9 (by decide) ?_
    cases hJ_2
    exact kj_3 _ _ _ hw0 (lv_sub hl0 [0, 1, 2, 3] rfl)
abbrev rm_X10_group : Room := { frames := 2, cells := 0, slots := 0, locals := 44 }
theorem hd_X10_group : yX10_group.cls = RX10 ∧ yX10_group.cls ≠ "java/lang/invoke/MethodHandle" ∧ yX10_group.cls ≠ "java/lang/invoke/VarHandle" ∧ (parseMethodDescriptor yX10_group.desc).map (fun d => d.parameters.length) = some 3 := by decide +kernel
set_option maxHeartbeats 4000000 in
set_option maxRecDepth 100000 in
theorem c_X10_group (l : Launch) (G : va_G) (cI cZ cJ : ClassId) (aM aMdisk aMits aMmany aMplace aMlength aMtimes aMvalues aMorder aMheadOf aMheadTime aMheadValue aMnext aMisNew aMcursorTime aMcursorValue aMmade : Nat) (M_thrown : Int32) (M_series : Int32) (M_most : Int32) (M_ratio : Int32) (M_writes : Int32) (M_fuse : Int32) (M_down : Int32) (M_recovers : Int32) (M_looks : Int32) (M_unpacked : Int32) (M_chunks : Int32) (M_epoch : Int32) (M_side : Int32) (M_logged : Int32) (M_nexts : Int32) (M_hasCursor : Int32) (M_cursorMany : Int32) (M_cursorAt : Int32) (M_bits : Int32) (M_from : Int32) (M_askMany : Int32) (M_askLeast : Int32) (M_askGreatest : Int32) (M_askSum : Int64) (M_its : Nat → Int32) (M_many : Nat → Int32) (M_times : Nat → Int32) (M_values : Nat → Int32) (M_order : Nat → Int32) (p0 : Int32) (p1 : Int32) (p2 : Int32) {r : Int32} {o_M_thrown : Int32} (hfin : m_X10_group M_thrown M_series M_ratio M_down M_chunks M_its M_many M_times M_values M_order p0 p1 p2 = some (r, o_M_thrown)) : CT l yX10_group cX10_group 10 (some .int) rm_X10_group G (tyC cI cZ cJ) [.ref aM, .int p0, .int p1, .int p2] [oX10 aM M_thrown M_series M_most M_ratio aMdisk M_writes M_fuse M_down M_recovers M_looks M_unpacked aMits aMmany aMplace aMlength aMtimes aMvalues aMorder M_chunks M_epoch M_side aMheadOf aMheadTime aMheadValue M_logged aMnext aMisNew M_nexts aMcursorTime aMcursorValue M_hasCursor M_cursorMany M_cursorAt aMmade M_bits M_from M_askMany M_askLeast M_askGreatest M_askSum, rI aMits cI 240 M_its, rI aMmany cI 240 M_many, rI aMtimes cI 15360 M_times, rI aMvalues cI 15360 M_values, rI aMorder cI 96 M_order] (some (.int r)) [oX10 aM o_M_thrown M_series M_most M_ratio aMdisk M_writes M_fuse M_down M_recovers M_looks M_unpacked aMits aMmany aMplace aMlength aMtimes aMvalues aMorder M_chunks M_epoch M_side aMheadOf aMheadTime aMheadValue M_logged aMnext aMisNew M_nexts aMcursorTime aMcursorValue M_hasCursor M_cursorMany M_cursorAt aMmade M_bits M_from M_askMany M_askLeast M_askGreatest M_askSum, rI aMits cI 240 M_its, rI aMmany cI 240 M_many, rI aMtimes cI 15360 M_times, rI aMvalues cI 15360 M_values, rI aMorder cI 96 M_order] := by
  refine CT.ofW (lvl := [(0, .ref aM), (1, .int p0), (2, .int p1), (3, .int p2)]) (by decide) (Nat.le_of_ble_eq_true rfl) rfl ?_
  intro p e s m args below meth c A ls0 QQ hQQ hx hb hml hr hlocks htc hN hown hK hA hw0 hl0
  rw [m_X10_group] at hfin
  refine lv_aload_n hx hb dX10_group_0 rfl (lv_at hl0 0 rfl) ?_
  refine lv_aload_n hx hb dX10_group_1 rfl (lv_at hl0 0 rfl) ?_
  refine va_get (D := G) (ci := 10) (v := .int M_down) (C := RX10) (T := TX10) (N := 40) hx hb htc iX10 hown hK hw0.1 0 rfl rfl 7 (by decide) (htc _ mw_954) (fun _ h9 => h9) rfl dX10_group_2 ?_
  replace hfin := ob1_some hfin
  obtain ⟨s_1, hJ_2, hfin⟩ := hfin
  have kj_3 : ∀ (H : Heap) (locs : List Loc) (ls : Array Slot), wS G A s H locs [oX10 aM M_thrown M_series M_most M_ratio aMdisk M_writes M_fuse M_down M_recovers M_looks M_unpacked aMits aMmany aMplace aMlength aMtimes aMvalues aMorder M_chunks M_epoch M_side aMheadOf aMheadTime aMheadValue M_logged aMnext aMisNew M_nexts aMcursorTime aMcursorValue M_hasCursor M_cursorMany M_cursorAt aMmade M_bits M_from M_askMany M_askLeast M_askGreatest M_askSum, rI aMits cI 240 M_its, rI aMmany cI 240 M_many, rI aMtimes cI 15360 M_times, rI aMvalues cI 15360 M_values, rI aMorder cI 96 M_order] → lv_has ls 10 [(0, .ref aM), (1, .int p0), (2, .int p1), (3, .int p2)] → W p l e rm_X10_group s m args below meth c H locs 0 0 QQ (F0 m 51 ls [.int s_1, .ref aM]) := by
    clear hw0 hl0 ls0 hJ_2
    intro H16 locs16 ls16 hw16 hl16
    refine va_put (D := G) (ci := 10) (v := .int s_1) (ty := .int) (C := RX10) (T := TX10) (N := 40) hx hb htc iX10 tyX10 tyX10_ok nmX10 hown hK hw16.1 hw16.2.1 hw16.2.2 0 rfl rfl 0 (by decide) (htc _ mw_947) (fun _ h9 => h9) rfl (tyX10_ok 0 (by decide)) rfl rfl (Nat.le_of_ble_eq_true rfl) dX10_group_51 (fun H17 locs17 hP hD hS => ?_)
    have hw17 : wS G A s H17 locs17 [oX10 aM s_1 M_series M_most M_ratio aMdisk M_writes M_fuse M_down M_recovers M_looks M_unpacked aMits aMmany aMplace aMlength aMtimes aMvalues aMorder M_chunks M_epoch M_side aMheadOf aMheadTime aMheadValue M_logged aMnext aMisNew M_nexts aMcursorTime aMcursorValue M_hasCursor M_cursorMany M_cursorAt aMmade M_bits M_from M_askMany M_askLeast M_askGreatest M_askSum, rI aMits cI 240 M_its, rI aMmany cI 240 M_many, rI aMtimes cI 15360 M_times, rI aMvalues cI 15360 M_values, rI aMorder cI 96 M_order] := ⟨hP, hD, hS⟩
    clear hP hD hS hw16 H16 locs16
    refine lv_aload_n hx hb dX10_group_54 rfl (lv_at hl16 0 rfl) ?_
    refine va_get (D := G) (ci := 10) (v := .int s_1) (C := RX10) (T := TX10) (N := 40) hx hb htc iX10 hown hK hw17.1 0 rfl rfl 0 (by decide) (htc _ mw_947) (fun _ h9 => h9) rfl dX10_group_55 ?_
    refine lv_if_le (tgt := 63) hx hb dX10_group_58 (by decide) (fun c_18 => ?_) (fun c_18 => ?_)
    · replace hfin := it_t c_18 hfin
      refine lv_aload_n hx hb dX10_group_63 rfl (lv_at hl16 0 rfl) ?_
      refine lv_iload_n hx hb dX10_group_64 rfl (lv_at hl16 1 rfl) ?_
      replace hfin := ob1_some hfin
      obtain ⟨r_20, hE_19, hfin⟩ := hfin
      refine ctV (a := aM) (As := [.int p0]) (rest := []) (st1 := [.int r_20]) (wc := [oX10 aM s_1 M_series M_most M_ratio aMdisk M_writes M_fuse M_down M_recovers M_looks M_unpacked aMits aMmany aMplace aMlength aMtimes aMvalues aMorder M_chunks M_epoch M_side aMheadOf aMheadTime aMheadValue M_logged aMnext aMisNew M_nexts aMcursorTime aMcursorValue M_hasCursor M_cursorMany M_cursorAt aMmade M_bits M_from M_askMany M_askLeast M_askGreatest M_askSum, rI aMits cI 240 M_its, rI aMorder cI 96 M_order]) (w1 := [oX10 aM s_1 M_series M_most M_ratio aMdisk M_writes M_fuse M_down M_recovers M_looks M_unpacked aMits aMmany aMplace aMlength aMtimes aMvalues aMorder M_chunks M_epoch M_side aMheadOf aMheadTime aMheadValue M_logged aMnext aMisNew M_nexts aMcursorTime aMcursorValue M_hasCursor M_cursorMany M_cursorAt aMmade M_bits M_from M_askMany M_askLeast M_askGreatest M_askSum, rI aMits cI 240 M_its, rI aMorder cI 96 M_order]) (wr := [rI aMmany cI 240 M_many, rI aMtimes cI 15360 M_times, rI aMvalues cI 15360 M_values]) (wb := [oX10 aM s_1 M_series M_most M_ratio aMdisk M_writes M_fuse M_down M_recovers M_looks M_unpacked aMits aMmany aMplace aMlength aMtimes aMvalues aMorder M_chunks M_epoch M_side aMheadOf aMheadTime aMheadValue M_logged aMnext aMisNew M_nexts aMcursorTime aMcursorValue M_hasCursor M_cursorMany M_cursorAt aMmade M_bits M_from M_askMany M_askLeast M_askGreatest M_askSum, rI aMits cI 240 M_its, rI aMmany cI 240 M_many, rI aMtimes cI 15360 M_times, rI aMvalues cI 15360 M_values, rI aMorder cI 96 M_order]) (v := (some (.int r_20))) hx hb hml hown htc hN (c_X10_chunksOf l G cI cZ cJ aM aMdisk aMits aMmany aMplace aMlength aMtimes aMvalues aMorder aMheadOf aMheadTime aMheadValue aMnext aMisNew aMcursorTime aMcursorValue aMmade s_1 M_series M_most M_ratio M_writes M_fuse M_down M_recovers M_looks M_unpacked M_chunks M_epoch M_side M_logged M_nexts M_hasCursor M_cursorMany M_cursorAt M_bits M_from M_askMany M_askLeast M_askGreatest M_askSum M_its M_order p0 hE_19) mw_1229 mw_1231 mp_65 mw_12 mw_1232 hd_X10_chunksOf ⟨rfl, rfl⟩ ⟨Nat.le_of_ble_eq_true rfl, Nat.le_of_ble_eq_true rfl⟩ hK hw17 hA [0, 1, 5] [2, 3, 4] [3, 4, 0, 1, 2, 5] rfl rfl rfl rfl rfl (by decide) rfl rfl rfl 0 rfl rfl rfl rfl hl16.1 rfl rfl (Nat.le_of_ble_eq_true rfl) dX10_group_65 ⟨Nat.zero_le _, Nat.zero_le _⟩ (fun H21 locs21 hw21 => ?_)
      clear hw17 H17 locs17
      refine lv_istore (lv' := [(4, .int r_20), (0, .ref aM), (1, .int p0), (2, .int p1), (3, .int p2)]) hx hb dX10_group_68 hl16 (by decide) rfl (fun ls22 hl22 => ?_)
      clear hl16 ls16
      refine lv_aload_n hx hb dX10_group_70 rfl (lv_at hl22 1 rfl) ?_
      refine va_get (D := G) (ci := 10) (v := .int M_ratio) (C := RX10) (T := TX10) (N := 40) hx hb htc iX10 hown hK hw21.1 0 rfl rfl 3 (by decide) (htc _ mw_950) (fun _ h9 => h9) rfl dX10_group_71 ?_
      refine lv_iload_n hx hb dX10_group_74 rfl (lv_at hl22 3 rfl) ?_
      refine lv_imul hx hb dX10_group_75 ?_
      refine lv_istore (lv' := [(5, .int (M_ratio * p1)), (4, .int r_20), (0, .ref aM), (1, .int p0), (2, .int p1), (3, .int p2)]) hx hb dX10_group_76 hl22 (by decide) rfl (fun ls23 hl23 => ?_)
      clear hl22 ls22
      refine lv_iload hx hb dX10_group_78 (lv_at hl23 0 rfl) ?_
      refine lv_aload_n hx hb dX10_group_80 rfl (lv_at hl23 2 rfl) ?_
      refine va_get (D := G) (ci := 10) (v := .int M_ratio) (C := RX10) (T := TX10) (N := 40) hx hb htc iX10 hown hK hw21.1 0 rfl rfl 3 (by decide) (htc _ mw_950) (fun _ h9 => h9) rfl dX10_group_81 ?_
      refine lv_iadd hx hb dX10_group_84 ?_
      refine lv_iload hx hb dX10_group_85 (lv_at hl23 1 rfl) ?_
      replace hfin := ob1_some hfin
      obtain ⟨s_24, hJ_25, hfin⟩ := hfin
      have kj_26 : ∀ (H : Heap) (locs : List Loc) (ls : Array Slot), wS G A s H locs [oX10 aM s_1 M_series M_most M_ratio aMdisk M_writes M_fuse M_down M_recovers M_looks M_unpacked aMits aMmany aMplace aMlength aMtimes aMvalues aMorder M_chunks M_epoch M_side aMheadOf aMheadTime aMheadValue M_logged aMnext aMisNew M_nexts aMcursorTime aMcursorValue M_hasCursor M_cursorMany M_cursorAt aMmade M_bits M_from M_askMany M_askLeast M_askGreatest M_askSum, rI aMits cI 240 M_its, rI aMmany cI 240 M_many, rI aMtimes cI 15360 M_times, rI aMvalues cI 15360 M_values, rI aMorder cI 96 M_order] → lv_has ls 10 [(0, .ref aM), (1, .int p0), (3, .int p2), (5, .int (M_ratio * p1))] → W p l e rm_X10_group s m args below meth c H locs 0 0 QQ (F0 m 102 ls [.int s_24]) := by
        clear hw21 H21 locs21 hl23 ls23 hJ_25
        intro H28 locs28 ls28 hw28 hl28
        refine lv_istore (lv' := [(6, .int s_24), (0, .ref aM), (1, .int p0), (3, .int p2), (5, .int (M_ratio * p1))]) hx hb dX10_group_102 hl28 (by decide) rfl (fun ls29 hl29 => ?_)
        clear hl28 ls28
        refine lv_iload_n hx hb dX10_group_104 rfl (lv_at hl29 3 rfl) ?_
        refine lv_if_ne (tgt := 120) hx hb dX10_group_105 (by decide) (fun c_30 => ?_) (fun c_30 => ?_)
        · replace hfin := it_f c_30 hfin
          refine lv_iload_n hx hb dX10_group_120 rfl (lv_at hl29 3 rfl) ?_
          refine lv_iconst (v := (1 : Int32)) hx hb dX10_group_121 (by decide) ?_
          refine lv_icmp_ne (tgt := 139) hx hb dX10_group_122 (by decide) (fun c_31 => ?_) (fun c_31 => ?_)
          · replace hfin := it_f c_31 hfin
            refine lv_iload_n hx hb dX10_group_139 rfl (lv_at hl29 3 rfl) ?_
            refine lv_iconst (v := (5 : Int32)) hx hb dX10_group_140 (by decide) ?_
            refine lv_icmp_ne (tgt := 150) hx hb dX10_group_141 (by decide) (fun c_32 => ?_) (fun c_32 => ?_)
            · replace hfin := it_f c_32 hfin
              refine lv_iload_n hx hb dX10_group_150 rfl (lv_at hl29 3 rfl) ?_
              refine lv_iconst (v := (2 : Int32)) hx hb dX10_group_151 (by decide) ?_
              replace hfin := ob1_some hfin
              obtain ⟨s_33, hJ_34, hfin⟩ := hfin
              have kj_35 : ∀ (H : Heap) (locs : List Loc) (ls : Array Slot), wS G A s H locs [oX10 aM s_1 M_series M_most M_ratio aMdisk M_writes M_fuse M_down M_recovers M_looks M_unpacked aMits aMmany aMplace aMlength aMtimes aMvalues aMorder M_chunks M_epoch M_side aMheadOf aMheadTime aMheadValue M_logged aMnext aMisNew M_nexts aMcursorTime aMcursorValue M_hasCursor M_cursorMany M_cursorAt aMmade M_bits M_from M_askMany M_askLeast M_askGreatest M_askSum, rI aMits cI 240 M_its, rI aMmany cI 240 M_many, rI aMtimes cI 15360 M_times, rI aMvalues cI 15360 M_values, rI aMorder cI 96 M_order] → lv_has ls 10 [(0, .ref aM), (1, .int p0), (3, .int p2), (5, .int (M_ratio * p1)), (6, .int s_24)] → W p l e rm_X10_group s m args below meth c H locs 0 0 QQ (F0 m 189 ls [.int s_33]) := by
                clear hw28 H28 locs28 hl29 ls29 hJ_34
                intro H50 locs50 ls50 hw50 hl50
                refine lv_istore (lv' := [(7, .int s_33), (0, .ref aM), (1, .int p0), (3, .int p2), (5, .int (M_ratio * p1)), (6, .int s_24)]) hx hb dX10_group_189 hl50 (by decide) rfl (fun ls51 hl51 => ?_)
                clear hl50 ls50
                refine lv_iload hx hb dX10_group_191 (lv_at hl51 4 rfl) ?_
                refine lv_istore (lv' := [(8, .int (M_ratio * p1)), (7, .int s_33), (0, .ref aM), (1, .int p0), (3, .int p2), (5, .int (M_ratio * p1)), (6, .int s_24)]) hx hb dX10_group_193 hl51 (by decide) rfl (fun ls52 hl52 => ?_)
                clear hl51 ls51
                replace hfin := ob1_some hfin
                obtain ⟨v7_59, hL_55, hfin⟩ := hfin
                have kx_56 : ∀ (H : Heap) (locs : List Loc) (ls : Array Slot), wS G A s H locs [oX10 aM s_1 M_series M_most M_ratio aMdisk M_writes M_fuse M_down M_recovers M_looks M_unpacked aMits aMmany aMplace aMlength aMtimes aMvalues aMorder M_chunks M_epoch M_side aMheadOf aMheadTime aMheadValue M_logged aMnext aMisNew M_nexts aMcursorTime aMcursorValue M_hasCursor M_cursorMany M_cursorAt aMmade M_bits M_from M_askMany M_askLeast M_askGreatest M_askSum, rI aMits cI 240 M_its, rI aMmany cI 240 M_many, rI aMtimes cI 15360 M_times, rI aMvalues cI 15360 M_values, rI aMorder cI 96 M_order] → lv_has ls 10 [(7, .int v7_59)] → W p l e rm_X10_group s m args below meth c H locs 0 0 QQ (F0 m 292 ls []) := by
                  clear hw50 H50 locs50 hl52 ls52 hL_55
                  intro H108 locs108 ls108 hw108 hl108
                  refine lv_iload hx hb dX10_group_292 (lv_at hl108 0 rfl) ?_
                  cases hfin
                  rw [hQQ]
                  exact ct_iret hx hb hr hlocks hw108.1 hw108.2.1 hw108.2.2 dX10_group_294
                have lp_57 : ∀ (n : Nat) (v7_53 : Int32) (v8_54 : Int32), lp_X10_group_195 M_chunks M_its M_many M_values M_order p0 p2 s_24 n v7_53 v8_54 = some (v7_59) → ∀ (H : Heap) (locs : List Loc) (ls : Array Slot), wS G A s H locs [oX10 aM s_1 M_series M_most M_ratio aMdisk M_writes M_fuse M_down M_recovers M_looks M_unpacked aMits aMmany aMplace aMlength aMtimes aMvalues aMorder M_chunks M_epoch M_side aMheadOf aMheadTime aMheadValue M_logged aMnext aMisNew M_nexts aMcursorTime aMcursorValue M_hasCursor M_cursorMany M_cursorAt aMmade M_bits M_from M_askMany M_askLeast M_askGreatest M_askSum, rI aMits cI 240 M_its, rI aMmany cI 240 M_many, rI aMtimes cI 15360 M_times, rI aMvalues cI 15360 M_values, rI aMorder cI 96 M_order] → lv_has ls 10 [(0, .ref aM), (1, .int p0), (3, .int p2), (6, .int s_24), (7, .int v7_53), (8, .int v8_54)] → W p l e rm_X10_group s m args below meth c H locs 0 0 QQ (F0 m 195 ls []) := by
                  clear hw50 H50 locs50 hl52 ls52 hfin
                  intro n
                  induction n with
                  | zero =>
                    intro v7_53 v8_54 hB_58
                    exact absurd hB_58 (by rw [lp_X10_group_195]; exact fun h9 => nomatch h9)
                  | succ n ih =>
                    intro v7_53 v8_54 hB_58 H60 locs60 ls60 hw60 hl60
                    rw [lp_X10_group_195] at hB_58
                    refine lv_iload hx hb dX10_group_195 (lv_at hl60 5 rfl) ?_
                    refine lv_iload hx hb dX10_group_197 (lv_at hl60 3 rfl) ?_
                    refine lv_icmp_ge (tgt := 292) hx hb dX10_group_199 (by decide) (fun c_61 => ?_) (fun c_61 => ?_)
                    · replace hB_58 := it_t c_61 hB_58
                      cases hB_58
                      exact kx_56 _ _ _ hw60 (lv_sub hl60 [4] rfl)
                    · replace hB_58 := it_f c_61 hB_58
                      refine lv_aload_n hx hb dX10_group_202 rfl (lv_at hl60 0 rfl) ?_
                      refine lv_iload_n hx hb dX10_group_203 rfl (lv_at hl60 1 rfl) ?_
                      refine lv_iload hx hb dX10_group_204 (lv_at hl60 5 rfl) ?_
                      replace hB_58 := ob1_some hB_58
                      obtain ⟨r_63, hE_62, hB_58⟩ := hB_58
                      refine ctV (a := aM) (As := [.int p0, .int v8_54]) (rest := []) (st1 := [.int r_63]) (wc := [oX10 aM s_1 M_series M_most M_ratio aMdisk M_writes M_fuse M_down M_recovers M_looks M_unpacked aMits aMmany aMplace aMlength aMtimes aMvalues aMorder M_chunks M_epoch M_side aMheadOf aMheadTime aMheadValue M_logged aMnext aMisNew M_nexts aMcursorTime aMcursorValue M_hasCursor M_cursorMany M_cursorAt aMmade M_bits M_from M_askMany M_askLeast M_askGreatest M_askSum, rI aMits cI 240 M_its, rI aMorder cI 96 M_order]) (w1 := [oX10 aM s_1 M_series M_most M_ratio aMdisk M_writes M_fuse M_down M_recovers M_looks M_unpacked aMits aMmany aMplace aMlength aMtimes aMvalues aMorder M_chunks M_epoch M_side aMheadOf aMheadTime aMheadValue M_logged aMnext aMisNew M_nexts aMcursorTime aMcursorValue M_hasCursor M_cursorMany M_cursorAt aMmade M_bits M_from M_askMany M_askLeast M_askGreatest M_askSum, rI aMits cI 240 M_its, rI aMorder cI 96 M_order]) (wr := [rI aMmany cI 240 M_many, rI aMtimes cI 15360 M_times, rI aMvalues cI 15360 M_values]) (wb := [oX10 aM s_1 M_series M_most M_ratio aMdisk M_writes M_fuse M_down M_recovers M_looks M_unpacked aMits aMmany aMplace aMlength aMtimes aMvalues aMorder M_chunks M_epoch M_side aMheadOf aMheadTime aMheadValue M_logged aMnext aMisNew M_nexts aMcursorTime aMcursorValue M_hasCursor M_cursorMany M_cursorAt aMmade M_bits M_from M_askMany M_askLeast M_askGreatest M_askSum, rI aMits cI 240 M_its, rI aMmany cI 240 M_many, rI aMtimes cI 15360 M_times, rI aMvalues cI 15360 M_values, rI aMorder cI 96 M_order]) (v := (some (.int r_63))) hx hb hml hown htc hN (c_X10_slot l G cI cZ cJ aM aMdisk aMits aMmany aMplace aMlength aMtimes aMvalues aMorder aMheadOf aMheadTime aMheadValue aMnext aMisNew aMcursorTime aMcursorValue aMmade s_1 M_series M_most M_ratio M_writes M_fuse M_down M_recovers M_looks M_unpacked M_chunks M_epoch M_side M_logged M_nexts M_hasCursor M_cursorMany M_cursorAt M_bits M_from M_askMany M_askLeast M_askGreatest M_askSum M_its M_order p0 v8_54 hE_62) mw_1237 mw_1239 mp_67 mw_12 mw_1240 hd_X10_slot ⟨rfl, rfl⟩ ⟨Nat.le_of_ble_eq_true rfl, Nat.le_of_ble_eq_true rfl⟩ hK hw60 hA [0, 1, 5] [2, 3, 4] [3, 4, 0, 1, 2, 5] rfl rfl rfl rfl rfl (by decide) rfl rfl rfl 0 rfl rfl rfl rfl hl60.1 rfl rfl (Nat.le_of_ble_eq_true rfl) dX10_group_206 ⟨Nat.zero_le _, Nat.zero_le _⟩ (fun H64 locs64 hw64 => ?_)
                      clear hw60 H60 locs60
                      refine lv_istore (lv' := [(9, .int r_63), (0, .ref aM), (1, .int p0), (3, .int p2), (6, .int s_24), (7, .int v7_53), (8, .int v8_54)]) hx hb dX10_group_209 hl60 (by decide) rfl (fun ls65 hl65 => ?_)
                      clear hl60 ls60
                      refine lv_iload_n hx hb dX10_group_211 rfl (lv_at hl65 3 rfl) ?_
                      refine lv_iconst (v := (2 : Int32)) hx hb dX10_group_212 (by decide) ?_
                      replace hB_58 := ob1_some hB_58
                      obtain ⟨v7_66, hJ_67, hB_58⟩ := hB_58
                      have kj_68 : ∀ (H : Heap) (locs : List Loc) (ls : Array Slot), wS G A s H locs [oX10 aM s_1 M_series M_most M_ratio aMdisk M_writes M_fuse M_down M_recovers M_looks M_unpacked aMits aMmany aMplace aMlength aMtimes aMvalues aMorder M_chunks M_epoch M_side aMheadOf aMheadTime aMheadValue M_logged aMnext aMisNew M_nexts aMcursorTime aMcursorValue M_hasCursor M_cursorMany M_cursorAt aMmade M_bits M_from M_askMany M_askLeast M_askGreatest M_askSum, rI aMits cI 240 M_its, rI aMmany cI 240 M_many, rI aMtimes cI 15360 M_times, rI aMvalues cI 15360 M_values, rI aMorder cI 96 M_order] → lv_has ls 10 [(0, .ref aM), (1, .int p0), (3, .int p2), (6, .int s_24), (7, .int v7_66), (8, .int v8_54), (9, .int r_63)] → W p l e rm_X10_group s m args below meth c H locs 0 0 QQ (F0 m 228 ls []) := by
                        clear hw64 H64 locs64 hl65 ls65 hJ_67
                        intro H72 locs72 ls72 hw72 hl72
                        refine lv_iload_n hx hb dX10_group_228 rfl (lv_at hl72 2 rfl) ?_
                        refine lv_iconst (v := (3 : Int32)) hx hb dX10_group_229 (by decide) ?_
                        replace hB_58 := ob1_some hB_58
                        obtain ⟨v7_73, hJ_74, hB_58⟩ := hB_58
                        have kj_75 : ∀ (H : Heap) (locs : List Loc) (ls : Array Slot), wS G A s H locs [oX10 aM s_1 M_series M_most M_ratio aMdisk M_writes M_fuse M_down M_recovers M_looks M_unpacked aMits aMmany aMplace aMlength aMtimes aMvalues aMorder M_chunks M_epoch M_side aMheadOf aMheadTime aMheadValue M_logged aMnext aMisNew M_nexts aMcursorTime aMcursorValue M_hasCursor M_cursorMany M_cursorAt aMmade M_bits M_from M_askMany M_askLeast M_askGreatest M_askSum, rI aMits cI 240 M_its, rI aMmany cI 240 M_many, rI aMtimes cI 15360 M_times, rI aMvalues cI 15360 M_values, rI aMorder cI 96 M_order] → lv_has ls 10 [(0, .ref aM), (1, .int p0), (3, .int p2), (6, .int s_24), (7, .int v7_73), (8, .int v8_54), (9, .int r_63)] → W p l e rm_X10_group s m args below meth c H locs 0 0 QQ (F0 m 257 ls []) := by
                          clear hw72 H72 locs72 hl72 ls72 hJ_74
                          intro H89 locs89 ls89 hw89 hl89
                          refine lv_iload_n hx hb dX10_group_257 rfl (lv_at hl89 2 rfl) ?_
                          refine lv_iconst (v := (4 : Int32)) hx hb dX10_group_258 (by decide) ?_
                          replace hB_58 := ob1_some hB_58
                          obtain ⟨v7_90, hJ_91, hB_58⟩ := hB_58
                          have kj_92 : ∀ (H : Heap) (locs : List Loc) (ls : Array Slot), wS G A s H locs [oX10 aM s_1 M_series M_most M_ratio aMdisk M_writes M_fuse M_down M_recovers M_looks M_unpacked aMits aMmany aMplace aMlength aMtimes aMvalues aMorder M_chunks M_epoch M_side aMheadOf aMheadTime aMheadValue M_logged aMnext aMisNew M_nexts aMcursorTime aMcursorValue M_hasCursor M_cursorMany M_cursorAt aMmade M_bits M_from M_askMany M_askLeast M_askGreatest M_askSum, rI aMits cI 240 M_its, rI aMmany cI 240 M_many, rI aMtimes cI 15360 M_times, rI aMvalues cI 15360 M_values, rI aMorder cI 96 M_order] → lv_has ls 10 [(0, .ref aM), (1, .int p0), (3, .int p2), (6, .int s_24), (7, .int v7_90), (8, .int v8_54)] → W p l e rm_X10_group s m args below meth c H locs 0 0 QQ (F0 m 286 ls []) := by
                            clear hw89 H89 locs89 hl89 ls89 hJ_91
                            intro H106 locs106 ls106 hw106 hl106
                            refine lv_iinc (v := (v8_54 + (1 : Int32))) (lv' := [(8, .int (v8_54 + (1 : Int32))), (0, .ref aM), (1, .int p0), (3, .int p2), (6, .int s_24), (7, .int v7_90)]) hx hb dX10_group_286 hl106 (k := 5) rfl rfl (by decide) rfl (fun ls107 hl107 => ?_)
                            clear hl106 ls106
                            refine lv_goto (tgt := 195) hx hb dX10_group_289 (by decide) ?_
                            exact ih v7_90 (v8_54 + (1 : Int32)) hB_58 _ _ _ hw106 (lv_sub hl107 [1, 2, 3, 4, 5, 0] rfl)
                          clear hB_58
                          refine lv_icmp_ne (tgt := 286) hx hb dX10_group_259 (by decide) (fun c_93 => ?_) (fun c_93 => ?_)
                          · replace hJ_91 := it_f c_93 hJ_91
                            cases hJ_91
                            exact kj_92 _ _ _ hw89 (lv_sub hl89 [0, 1, 2, 3, 4, 5] rfl)
                          · replace hJ_91 := it_t c_93 hJ_91
                            refine lv_aload_n hx hb dX10_group_262 rfl (lv_at hl89 0 rfl) ?_
                            refine lv_iload hx hb dX10_group_263 (lv_at hl89 6 rfl) ?_
                            replace hJ_91 := ob1_some hJ_91
                            obtain ⟨r_95, hE_94, hJ_91⟩ := hJ_91
                            refine ctV (a := aM) (As := [.int r_63]) (rest := []) (st1 := [.int r_95]) (wc := [oX10 aM s_1 M_series M_most M_ratio aMdisk M_writes M_fuse M_down M_recovers M_looks M_unpacked aMits aMmany aMplace aMlength aMtimes aMvalues aMorder M_chunks M_epoch M_side aMheadOf aMheadTime aMheadValue M_logged aMnext aMisNew M_nexts aMcursorTime aMcursorValue M_hasCursor M_cursorMany M_cursorAt aMmade M_bits M_from M_askMany M_askLeast M_askGreatest M_askSum, rI aMmany cI 240 M_many, rI aMvalues cI 15360 M_values]) (w1 := [oX10 aM s_1 M_series M_most M_ratio aMdisk M_writes M_fuse M_down M_recovers M_looks M_unpacked aMits aMmany aMplace aMlength aMtimes aMvalues aMorder M_chunks M_epoch M_side aMheadOf aMheadTime aMheadValue M_logged aMnext aMisNew M_nexts aMcursorTime aMcursorValue M_hasCursor M_cursorMany M_cursorAt aMmade M_bits M_from M_askMany M_askLeast M_askGreatest M_askSum, rI aMmany cI 240 M_many, rI aMvalues cI 15360 M_values]) (wr := [rI aMits cI 240 M_its, rI aMtimes cI 15360 M_times, rI aMorder cI 96 M_order]) (wb := [oX10 aM s_1 M_series M_most M_ratio aMdisk M_writes M_fuse M_down M_recovers M_looks M_unpacked aMits aMmany aMplace aMlength aMtimes aMvalues aMorder M_chunks M_epoch M_side aMheadOf aMheadTime aMheadValue M_logged aMnext aMisNew M_nexts aMcursorTime aMcursorValue M_hasCursor M_cursorMany M_cursorAt aMmade M_bits M_from M_askMany M_askLeast M_askGreatest M_askSum, rI aMits cI 240 M_its, rI aMmany cI 240 M_many, rI aMtimes cI 15360 M_times, rI aMvalues cI 15360 M_values, rI aMorder cI 96 M_order]) (v := (some (.int r_95))) hx hb hml hown htc hN (c_X10_greatestOf l G cI cZ cJ aM aMdisk aMits aMmany aMplace aMlength aMtimes aMvalues aMorder aMheadOf aMheadTime aMheadValue aMnext aMisNew aMcursorTime aMcursorValue aMmade s_1 M_series M_most M_ratio M_writes M_fuse M_down M_recovers M_looks M_unpacked M_chunks M_epoch M_side M_logged M_nexts M_hasCursor M_cursorMany M_cursorAt M_bits M_from M_askMany M_askLeast M_askGreatest M_askSum M_many M_values r_63 hE_94) mw_1193 mw_1195 mp_59 mw_12 mw_1196 hd_X10_greatestOf ⟨rfl, rfl⟩ ⟨Nat.le_of_ble_eq_true rfl, Nat.le_of_ble_eq_true rfl⟩ hK hw89 hA [0, 2, 4] [1, 3, 5] [3, 0, 4, 1, 5, 2] rfl rfl rfl rfl rfl (by decide) rfl rfl rfl 0 rfl rfl rfl rfl hl89.1 rfl rfl (Nat.le_of_ble_eq_true rfl) dX10_group_265 ⟨Nat.zero_le _, Nat.zero_le _⟩ (fun H96 locs96 hw96 => ?_)
                            clear hw89 H89 locs89
                            refine lv_iload hx hb dX10_group_268 (lv_at hl89 4 rfl) ?_
                            replace hJ_91 := ob1_some hJ_91
                            obtain ⟨s_97, hJ_98, hJ_91⟩ := hJ_91
                            have kj_99 : ∀ (H : Heap) (locs : List Loc) (ls : Array Slot), wS G A s H locs [oX10 aM s_1 M_series M_most M_ratio aMdisk M_writes M_fuse M_down M_recovers M_looks M_unpacked aMits aMmany aMplace aMlength aMtimes aMvalues aMorder M_chunks M_epoch M_side aMheadOf aMheadTime aMheadValue M_logged aMnext aMisNew M_nexts aMcursorTime aMcursorValue M_hasCursor M_cursorMany M_cursorAt aMmade M_bits M_from M_askMany M_askLeast M_askGreatest M_askSum, rI aMits cI 240 M_its, rI aMmany cI 240 M_many, rI aMtimes cI 15360 M_times, rI aMvalues cI 15360 M_values, rI aMorder cI 96 M_order] → lv_has ls 10 [(0, .ref aM), (1, .int p0), (3, .int p2), (6, .int s_24), (8, .int v8_54)] → W p l e rm_X10_group s m args below meth c H locs 0 0 QQ (F0 m 284 ls [.int s_97]) := by
                              clear hw96 H96 locs96 hl89 ls89 hJ_98
                              intro H104 locs104 ls104 hw104 hl104
                              refine lv_istore (lv' := [(7, .int s_97), (0, .ref aM), (1, .int p0), (3, .int p2), (6, .int s_24), (8, .int v8_54)]) hx hb dX10_group_284 hl104 (by decide) rfl (fun ls105 hl105 => ?_)
                              clear hl104 ls104
                              cases hJ_91
                              exact kj_92 _ _ _ hw104 (lv_sub hl105 [1, 2, 3, 4, 0, 5] rfl)
                            clear hJ_91
                            refine lv_icmp_le (tgt := 282) hx hb dX10_group_270 (by decide) (fun c_100 => ?_) (fun c_100 => ?_)
                            · replace hJ_98 := it_t c_100 hJ_98
                              refine lv_iload hx hb dX10_group_282 (lv_at hl89 4 rfl) ?_
                              cases hJ_98
                              exact kj_99 _ _ _ hw96 (lv_sub hl89 [0, 1, 2, 3, 5] rfl)
                            · replace hJ_98 := it_f c_100 hJ_98
                              refine lv_aload_n hx hb dX10_group_273 rfl (lv_at hl89 0 rfl) ?_
                              refine lv_iload hx hb dX10_group_274 (lv_at hl89 6 rfl) ?_
                              replace hJ_98 := ob1_some hJ_98
                              obtain ⟨r_102, hE_101, hJ_98⟩ := hJ_98
                              refine ctV (a := aM) (As := [.int r_63]) (rest := []) (st1 := [.int r_102]) (wc := [oX10 aM s_1 M_series M_most M_ratio aMdisk M_writes M_fuse M_down M_recovers M_looks M_unpacked aMits aMmany aMplace aMlength aMtimes aMvalues aMorder M_chunks M_epoch M_side aMheadOf aMheadTime aMheadValue M_logged aMnext aMisNew M_nexts aMcursorTime aMcursorValue M_hasCursor M_cursorMany M_cursorAt aMmade M_bits M_from M_askMany M_askLeast M_askGreatest M_askSum, rI aMmany cI 240 M_many, rI aMvalues cI 15360 M_values]) (w1 := [oX10 aM s_1 M_series M_most M_ratio aMdisk M_writes M_fuse M_down M_recovers M_looks M_unpacked aMits aMmany aMplace aMlength aMtimes aMvalues aMorder M_chunks M_epoch M_side aMheadOf aMheadTime aMheadValue M_logged aMnext aMisNew M_nexts aMcursorTime aMcursorValue M_hasCursor M_cursorMany M_cursorAt aMmade M_bits M_from M_askMany M_askLeast M_askGreatest M_askSum, rI aMmany cI 240 M_many, rI aMvalues cI 15360 M_values]) (wr := [rI aMits cI 240 M_its, rI aMtimes cI 15360 M_times, rI aMorder cI 96 M_order]) (wb := [oX10 aM s_1 M_series M_most M_ratio aMdisk M_writes M_fuse M_down M_recovers M_looks M_unpacked aMits aMmany aMplace aMlength aMtimes aMvalues aMorder M_chunks M_epoch M_side aMheadOf aMheadTime aMheadValue M_logged aMnext aMisNew M_nexts aMcursorTime aMcursorValue M_hasCursor M_cursorMany M_cursorAt aMmade M_bits M_from M_askMany M_askLeast M_askGreatest M_askSum, rI aMits cI 240 M_its, rI aMmany cI 240 M_many, rI aMtimes cI 15360 M_times, rI aMvalues cI 15360 M_values, rI aMorder cI 96 M_order]) (v := (some (.int r_102))) hx hb hml hown htc hN (c_X10_greatestOf l G cI cZ cJ aM aMdisk aMits aMmany aMplace aMlength aMtimes aMvalues aMorder aMheadOf aMheadTime aMheadValue aMnext aMisNew aMcursorTime aMcursorValue aMmade s_1 M_series M_most M_ratio M_writes M_fuse M_down M_recovers M_looks M_unpacked M_chunks M_epoch M_side M_logged M_nexts M_hasCursor M_cursorMany M_cursorAt M_bits M_from M_askMany M_askLeast M_askGreatest M_askSum M_many M_values r_63 hE_101) mw_1193 mw_1195 mp_59 mw_12 mw_1196 hd_X10_greatestOf ⟨rfl, rfl⟩ ⟨Nat.le_of_ble_eq_true rfl, Nat.le_of_ble_eq_true rfl⟩ hK hw96 hA [0, 2, 4] [1, 3, 5] [3, 0, 4, 1, 5, 2] rfl rfl rfl rfl rfl (by decide) rfl rfl rfl 0 rfl rfl rfl rfl hl89.1 rfl rfl (Nat.le_of_ble_eq_true rfl) dX10_group_276 ⟨Nat.zero_le _, Nat.zero_le _⟩ (fun H103 locs103 hw103 => ?_)
                              clear hw96 H96 locs96
                              refine lv_goto (tgt := 284) hx hb dX10_group_279 (by decide) ?_
                              cases hJ_98
                              exact kj_99 _ _ _ hw103 (lv_sub hl89 [0, 1, 2, 3, 5] rfl)
                        clear hB_58
                        refine lv_icmp_ne (tgt := 257) hx hb dX10_group_230 (by decide) (fun c_76 => ?_) (fun c_76 => ?_)
                        · replace hJ_74 := it_f c_76 hJ_74
                          cases hJ_74
                          exact kj_75 _ _ _ hw72 (lv_sub hl72 [0, 1, 2, 3, 4, 5, 6] rfl)
                        · replace hJ_74 := it_t c_76 hJ_74
                          refine lv_aload_n hx hb dX10_group_233 rfl (lv_at hl72 0 rfl) ?_
                          refine lv_iload hx hb dX10_group_234 (lv_at hl72 6 rfl) ?_
                          replace hJ_74 := ob1_some hJ_74
                          obtain ⟨r_78, hE_77, hJ_74⟩ := hJ_74
                          refine ctV (a := aM) (As := [.int r_63]) (rest := []) (st1 := [.int r_78]) (wc := [oX10 aM s_1 M_series M_most M_ratio aMdisk M_writes M_fuse M_down M_recovers M_looks M_unpacked aMits aMmany aMplace aMlength aMtimes aMvalues aMorder M_chunks M_epoch M_side aMheadOf aMheadTime aMheadValue M_logged aMnext aMisNew M_nexts aMcursorTime aMcursorValue M_hasCursor M_cursorMany M_cursorAt aMmade M_bits M_from M_askMany M_askLeast M_askGreatest M_askSum, rI aMmany cI 240 M_many, rI aMvalues cI 15360 M_values]) (w1 := [oX10 aM s_1 M_series M_most M_ratio aMdisk M_writes M_fuse M_down M_recovers M_looks M_unpacked aMits aMmany aMplace aMlength aMtimes aMvalues aMorder M_chunks M_epoch M_side aMheadOf aMheadTime aMheadValue M_logged aMnext aMisNew M_nexts aMcursorTime aMcursorValue M_hasCursor M_cursorMany M_cursorAt aMmade M_bits M_from M_askMany M_askLeast M_askGreatest M_askSum, rI aMmany cI 240 M_many, rI aMvalues cI 15360 M_values]) (wr := [rI aMits cI 240 M_its, rI aMtimes cI 15360 M_times, rI aMorder cI 96 M_order]) (wb := [oX10 aM s_1 M_series M_most M_ratio aMdisk M_writes M_fuse M_down M_recovers M_looks M_unpacked aMits aMmany aMplace aMlength aMtimes aMvalues aMorder M_chunks M_epoch M_side aMheadOf aMheadTime aMheadValue M_logged aMnext aMisNew M_nexts aMcursorTime aMcursorValue M_hasCursor M_cursorMany M_cursorAt aMmade M_bits M_from M_askMany M_askLeast M_askGreatest M_askSum, rI aMits cI 240 M_its, rI aMmany cI 240 M_many, rI aMtimes cI 15360 M_times, rI aMvalues cI 15360 M_values, rI aMorder cI 96 M_order]) (v := (some (.int r_78))) hx hb hml hown htc hN (c_X10_leastOf l G cI cZ cJ aM aMdisk aMits aMmany aMplace aMlength aMtimes aMvalues aMorder aMheadOf aMheadTime aMheadValue aMnext aMisNew aMcursorTime aMcursorValue aMmade s_1 M_series M_most M_ratio M_writes M_fuse M_down M_recovers M_looks M_unpacked M_chunks M_epoch M_side M_logged M_nexts M_hasCursor M_cursorMany M_cursorAt M_bits M_from M_askMany M_askLeast M_askGreatest M_askSum M_many M_values r_63 hE_77) mw_1189 mw_1191 mp_58 mw_12 mw_1192 hd_X10_leastOf ⟨rfl, rfl⟩ ⟨Nat.le_of_ble_eq_true rfl, Nat.le_of_ble_eq_true rfl⟩ hK hw72 hA [0, 2, 4] [1, 3, 5] [3, 0, 4, 1, 5, 2] rfl rfl rfl rfl rfl (by decide) rfl rfl rfl 0 rfl rfl rfl rfl hl72.1 rfl rfl (Nat.le_of_ble_eq_true rfl) dX10_group_236 ⟨Nat.zero_le _, Nat.zero_le _⟩ (fun H79 locs79 hw79 => ?_)
                          clear hw72 H72 locs72
                          refine lv_iload hx hb dX10_group_239 (lv_at hl72 4 rfl) ?_
                          replace hJ_74 := ob1_some hJ_74
                          obtain ⟨s_80, hJ_81, hJ_74⟩ := hJ_74
                          have kj_82 : ∀ (H : Heap) (locs : List Loc) (ls : Array Slot), wS G A s H locs [oX10 aM s_1 M_series M_most M_ratio aMdisk M_writes M_fuse M_down M_recovers M_looks M_unpacked aMits aMmany aMplace aMlength aMtimes aMvalues aMorder M_chunks M_epoch M_side aMheadOf aMheadTime aMheadValue M_logged aMnext aMisNew M_nexts aMcursorTime aMcursorValue M_hasCursor M_cursorMany M_cursorAt aMmade M_bits M_from M_askMany M_askLeast M_askGreatest M_askSum, rI aMits cI 240 M_its, rI aMmany cI 240 M_many, rI aMtimes cI 15360 M_times, rI aMvalues cI 15360 M_values, rI aMorder cI 96 M_order] → lv_has ls 10 [(0, .ref aM), (1, .int p0), (3, .int p2), (6, .int s_24), (8, .int v8_54), (9, .int r_63)] → W p l e rm_X10_group s m args below meth c H locs 0 0 QQ (F0 m 255 ls [.int s_80]) := by
                            clear hw79 H79 locs79 hl72 ls72 hJ_81
                            intro H87 locs87 ls87 hw87 hl87
                            refine lv_istore (lv' := [(7, .int s_80), (0, .ref aM), (1, .int p0), (3, .int p2), (6, .int s_24), (8, .int v8_54), (9, .int r_63)]) hx hb dX10_group_255 hl87 (by decide) rfl (fun ls88 hl88 => ?_)
                            clear hl87 ls87
                            cases hJ_74
                            exact kj_75 _ _ _ hw87 (lv_sub hl88 [1, 2, 3, 4, 0, 5, 6] rfl)
                          clear hJ_74
                          refine lv_icmp_ge (tgt := 253) hx hb dX10_group_241 (by decide) (fun c_83 => ?_) (fun c_83 => ?_)
                          · replace hJ_81 := it_t c_83 hJ_81
                            refine lv_iload hx hb dX10_group_253 (lv_at hl72 4 rfl) ?_
                            cases hJ_81
                            exact kj_82 _ _ _ hw79 (lv_sub hl72 [0, 1, 2, 3, 5, 6] rfl)
                          · replace hJ_81 := it_f c_83 hJ_81
                            refine lv_aload_n hx hb dX10_group_244 rfl (lv_at hl72 0 rfl) ?_
                            refine lv_iload hx hb dX10_group_245 (lv_at hl72 6 rfl) ?_
                            replace hJ_81 := ob1_some hJ_81
                            obtain ⟨r_85, hE_84, hJ_81⟩ := hJ_81
                            refine ctV (a := aM) (As := [.int r_63]) (rest := []) (st1 := [.int r_85]) (wc := [oX10 aM s_1 M_series M_most M_ratio aMdisk M_writes M_fuse M_down M_recovers M_looks M_unpacked aMits aMmany aMplace aMlength aMtimes aMvalues aMorder M_chunks M_epoch M_side aMheadOf aMheadTime aMheadValue M_logged aMnext aMisNew M_nexts aMcursorTime aMcursorValue M_hasCursor M_cursorMany M_cursorAt aMmade M_bits M_from M_askMany M_askLeast M_askGreatest M_askSum, rI aMmany cI 240 M_many, rI aMvalues cI 15360 M_values]) (w1 := [oX10 aM s_1 M_series M_most M_ratio aMdisk M_writes M_fuse M_down M_recovers M_looks M_unpacked aMits aMmany aMplace aMlength aMtimes aMvalues aMorder M_chunks M_epoch M_side aMheadOf aMheadTime aMheadValue M_logged aMnext aMisNew M_nexts aMcursorTime aMcursorValue M_hasCursor M_cursorMany M_cursorAt aMmade M_bits M_from M_askMany M_askLeast M_askGreatest M_askSum, rI aMmany cI 240 M_many, rI aMvalues cI 15360 M_values]) (wr := [rI aMits cI 240 M_its, rI aMtimes cI 15360 M_times, rI aMorder cI 96 M_order]) (wb := [oX10 aM s_1 M_series M_most M_ratio aMdisk M_writes M_fuse M_down M_recovers M_looks M_unpacked aMits aMmany aMplace aMlength aMtimes aMvalues aMorder M_chunks M_epoch M_side aMheadOf aMheadTime aMheadValue M_logged aMnext aMisNew M_nexts aMcursorTime aMcursorValue M_hasCursor M_cursorMany M_cursorAt aMmade M_bits M_from M_askMany M_askLeast M_askGreatest M_askSum, rI aMits cI 240 M_its, rI aMmany cI 240 M_many, rI aMtimes cI 15360 M_times, rI aMvalues cI 15360 M_values, rI aMorder cI 96 M_order]) (v := (some (.int r_85))) hx hb hml hown htc hN (c_X10_leastOf l G cI cZ cJ aM aMdisk aMits aMmany aMplace aMlength aMtimes aMvalues aMorder aMheadOf aMheadTime aMheadValue aMnext aMisNew aMcursorTime aMcursorValue aMmade s_1 M_series M_most M_ratio M_writes M_fuse M_down M_recovers M_looks M_unpacked M_chunks M_epoch M_side M_logged M_nexts M_hasCursor M_cursorMany M_cursorAt M_bits M_from M_askMany M_askLeast M_askGreatest M_askSum M_many M_values r_63 hE_84) mw_1189 mw_1191 mp_58 mw_12 mw_1192 hd_X10_leastOf ⟨rfl, rfl⟩ ⟨Nat.le_of_ble_eq_true rfl, Nat.le_of_ble_eq_true rfl⟩ hK hw79 hA [0, 2, 4] [1, 3, 5] [3, 0, 4, 1, 5, 2] rfl rfl rfl rfl rfl (by decide) rfl rfl rfl 0 rfl rfl rfl rfl hl72.1 rfl rfl (Nat.le_of_ble_eq_true rfl) dX10_group_247 ⟨Nat.zero_le _, Nat.zero_le _⟩ (fun H86 locs86 hw86 => ?_)
                            clear hw79 H79 locs79
                            refine lv_goto (tgt := 255) hx hb dX10_group_250 (by decide) ?_
                            cases hJ_81
                            exact kj_82 _ _ _ hw86 (lv_sub hl72 [0, 1, 2, 3, 5, 6] rfl)
                      clear hB_58
                      refine lv_icmp_ne (tgt := 228) hx hb dX10_group_213 (by decide) (fun c_69 => ?_) (fun c_69 => ?_)
                      · replace hJ_67 := it_f c_69 hJ_67
                        cases hJ_67
                        exact kj_68 _ _ _ hw64 (lv_sub hl65 [1, 2, 3, 4, 5, 6, 0] rfl)
                      · replace hJ_67 := it_t c_69 hJ_67
                        refine lv_iload hx hb dX10_group_216 (lv_at hl65 5 rfl) ?_
                        refine lv_aload_n hx hb dX10_group_218 rfl (lv_at hl65 1 rfl) ?_
                        refine va_get (D := G) (ci := 10) (v := .ref aMmany) (C := RX10) (T := TX10) (N := 40) hx hb htc iX10 hown hK hw64.1 0 rfl rfl 12 (by decide) (htc _ mw_959) (fun _ h9 => h9) rfl dX10_group_219 ?_
                        refine lv_iload hx hb dX10_group_222 (lv_at hl65 0 rfl) ?_
                        replace hJ_67 := ckb_some hJ_67
                        obtain ⟨hin_70, hJ_67⟩ := hJ_67
                        refine va_iald hx hb hK hw64.1 2 0 rfl rfl hin_70 dX10_group_224 ?_
                        refine lv_iadd hx hb dX10_group_225 ?_
                        refine lv_istore (lv' := [(7, .int (v7_53 + (M_many (Int32.toNatClampNeg r_63)))), (9, .int r_63), (0, .ref aM), (1, .int p0), (3, .int p2), (6, .int s_24), (8, .int v8_54)]) hx hb dX10_group_226 hl65 (by decide) rfl (fun ls71 hl71 => ?_)
                        clear hl65 ls65
                        cases hJ_67
                        exact kj_68 _ _ _ hw64 (lv_sub hl71 [2, 3, 4, 5, 0, 6, 1] rfl)
                exact lp_57 NN s_33 (M_ratio * p1) hL_55 _ _ _ hw50 (lv_sub hl52 [2, 3, 4, 6, 1, 0] rfl)
              clear hfin
              refine lv_icmp_ne (tgt := 159) hx hb dX10_group_152 (by decide) (fun c_36 => ?_) (fun c_36 => ?_)
              · replace hJ_34 := it_f c_36 hJ_34
                refine lv_iload_n hx hb dX10_group_159 rfl (lv_at hl29 3 rfl) ?_
                refine lv_iconst (v := (3 : Int32)) hx hb dX10_group_160 (by decide) ?_
                refine lv_icmp_ne (tgt := 178) hx hb dX10_group_161 (by decide) (fun c_37 => ?_) (fun c_37 => ?_)
                · replace hJ_34 := it_f c_37 hJ_34
                  refine lv_aload_n hx hb dX10_group_178 rfl (lv_at hl29 1 rfl) ?_
                  refine lv_aload_n hx hb dX10_group_179 rfl (lv_at hl29 1 rfl) ?_
                  refine lv_iload_n hx hb dX10_group_180 rfl (lv_at hl29 2 rfl) ?_
                  refine lv_iload hx hb dX10_group_181 (lv_at hl29 4 rfl) ?_
                  replace hJ_34 := ob1_some hJ_34
                  obtain ⟨r_39, hE_38, hJ_34⟩ := hJ_34
                  refine ctV (a := aM) (As := [.int p0, .int (M_ratio * p1)]) (rest := [.ref aM]) (st1 := [.int r_39, .ref aM]) (wc := [oX10 aM s_1 M_series M_most M_ratio aMdisk M_writes M_fuse M_down M_recovers M_looks M_unpacked aMits aMmany aMplace aMlength aMtimes aMvalues aMorder M_chunks M_epoch M_side aMheadOf aMheadTime aMheadValue M_logged aMnext aMisNew M_nexts aMcursorTime aMcursorValue M_hasCursor M_cursorMany M_cursorAt aMmade M_bits M_from M_askMany M_askLeast M_askGreatest M_askSum, rI aMits cI 240 M_its, rI aMorder cI 96 M_order]) (w1 := [oX10 aM s_1 M_series M_most M_ratio aMdisk M_writes M_fuse M_down M_recovers M_looks M_unpacked aMits aMmany aMplace aMlength aMtimes aMvalues aMorder M_chunks M_epoch M_side aMheadOf aMheadTime aMheadValue M_logged aMnext aMisNew M_nexts aMcursorTime aMcursorValue M_hasCursor M_cursorMany M_cursorAt aMmade M_bits M_from M_askMany M_askLeast M_askGreatest M_askSum, rI aMits cI 240 M_its, rI aMorder cI 96 M_order]) (wr := [rI aMmany cI 240 M_many, rI aMtimes cI 15360 M_times, rI aMvalues cI 15360 M_values]) (wb := [oX10 aM s_1 M_series M_most M_ratio aMdisk M_writes M_fuse M_down M_recovers M_looks M_unpacked aMits aMmany aMplace aMlength aMtimes aMvalues aMorder M_chunks M_epoch M_side aMheadOf aMheadTime aMheadValue M_logged aMnext aMisNew M_nexts aMcursorTime aMcursorValue M_hasCursor M_cursorMany M_cursorAt aMmade M_bits M_from M_askMany M_askLeast M_askGreatest M_askSum, rI aMits cI 240 M_its, rI aMmany cI 240 M_many, rI aMtimes cI 15360 M_times, rI aMvalues cI 15360 M_values, rI aMorder cI 96 M_order]) (v := (some (.int r_39))) hx hb hml hown htc hN (c_X10_slot l G cI cZ cJ aM aMdisk aMits aMmany aMplace aMlength aMtimes aMvalues aMorder aMheadOf aMheadTime aMheadValue aMnext aMisNew aMcursorTime aMcursorValue aMmade s_1 M_series M_most M_ratio M_writes M_fuse M_down M_recovers M_looks M_unpacked M_chunks M_epoch M_side M_logged M_nexts M_hasCursor M_cursorMany M_cursorAt M_bits M_from M_askMany M_askLeast M_askGreatest M_askSum M_its M_order p0 (M_ratio * p1) hE_38) mw_1237 mw_1239 mp_67 mw_12 mw_1240 hd_X10_slot ⟨rfl, rfl⟩ ⟨Nat.le_of_ble_eq_true rfl, Nat.le_of_ble_eq_true rfl⟩ hK hw28 hA [0, 1, 5] [2, 3, 4] [3, 4, 0, 1, 2, 5] rfl rfl rfl rfl rfl (by decide) rfl rfl rfl 0 rfl rfl rfl rfl hl29.1 rfl rfl (Nat.le_of_ble_eq_true rfl) dX10_group_183 ⟨Nat.zero_le _, Nat.zero_le _⟩ (fun H40 locs40 hw40 => ?_)
                  clear hw28 H28 locs28
                  replace hJ_34 := ob1_some hJ_34
                  obtain ⟨r_42, hE_41, hJ_34⟩ := hJ_34
                  refine ctV (a := aM) (As := [.int r_39]) (rest := []) (st1 := [.int r_42]) (wc := [oX10 aM s_1 M_series M_most M_ratio aMdisk M_writes M_fuse M_down M_recovers M_looks M_unpacked aMits aMmany aMplace aMlength aMtimes aMvalues aMorder M_chunks M_epoch M_side aMheadOf aMheadTime aMheadValue M_logged aMnext aMisNew M_nexts aMcursorTime aMcursorValue M_hasCursor M_cursorMany M_cursorAt aMmade M_bits M_from M_askMany M_askLeast M_askGreatest M_askSum, rI aMmany cI 240 M_many, rI aMvalues cI 15360 M_values]) (w1 := [oX10 aM s_1 M_series M_most M_ratio aMdisk M_writes M_fuse M_down M_recovers M_looks M_unpacked aMits aMmany aMplace aMlength aMtimes aMvalues aMorder M_chunks M_epoch M_side aMheadOf aMheadTime aMheadValue M_logged aMnext aMisNew M_nexts aMcursorTime aMcursorValue M_hasCursor M_cursorMany M_cursorAt aMmade M_bits M_from M_askMany M_askLeast M_askGreatest M_askSum, rI aMmany cI 240 M_many, rI aMvalues cI 15360 M_values]) (wr := [rI aMits cI 240 M_its, rI aMtimes cI 15360 M_times, rI aMorder cI 96 M_order]) (wb := [oX10 aM s_1 M_series M_most M_ratio aMdisk M_writes M_fuse M_down M_recovers M_looks M_unpacked aMits aMmany aMplace aMlength aMtimes aMvalues aMorder M_chunks M_epoch M_side aMheadOf aMheadTime aMheadValue M_logged aMnext aMisNew M_nexts aMcursorTime aMcursorValue M_hasCursor M_cursorMany M_cursorAt aMmade M_bits M_from M_askMany M_askLeast M_askGreatest M_askSum, rI aMits cI 240 M_its, rI aMmany cI 240 M_many, rI aMtimes cI 15360 M_times, rI aMvalues cI 15360 M_values, rI aMorder cI 96 M_order]) (v := (some (.int r_42))) hx hb hml hown htc hN (c_X10_greatestOf l G cI cZ cJ aM aMdisk aMits aMmany aMplace aMlength aMtimes aMvalues aMorder aMheadOf aMheadTime aMheadValue aMnext aMisNew aMcursorTime aMcursorValue aMmade s_1 M_series M_most M_ratio M_writes M_fuse M_down M_recovers M_looks M_unpacked M_chunks M_epoch M_side M_logged M_nexts M_hasCursor M_cursorMany M_cursorAt M_bits M_from M_askMany M_askLeast M_askGreatest M_askSum M_many M_values r_39 hE_41) mw_1193 mw_1195 mp_59 mw_12 mw_1196 hd_X10_greatestOf ⟨rfl, rfl⟩ ⟨Nat.le_of_ble_eq_true rfl, Nat.le_of_ble_eq_true rfl⟩ hK hw40 hA [0, 2, 4] [1, 3, 5] [3, 0, 4, 1, 5, 2] rfl rfl rfl rfl rfl (by decide) rfl rfl rfl 0 rfl rfl rfl rfl hl29.1 rfl rfl (Nat.le_of_ble_eq_true rfl) dX10_group_186 ⟨Nat.zero_le _, Nat.zero_le _⟩ (fun H43 locs43 hw43 => ?_)
                  clear hw40 H40 locs40
                  cases hJ_34
                  exact kj_35 _ _ _ hw43 (lv_sub hl29 [1, 2, 3, 4, 0] rfl)
                · replace hJ_34 := it_t c_37 hJ_34
                  refine lv_aload_n hx hb dX10_group_164 rfl (lv_at hl29 1 rfl) ?_
                  refine lv_aload_n hx hb dX10_group_165 rfl (lv_at hl29 1 rfl) ?_
                  refine lv_iload_n hx hb dX10_group_166 rfl (lv_at hl29 2 rfl) ?_
                  refine lv_iload hx hb dX10_group_167 (lv_at hl29 4 rfl) ?_
                  replace hJ_34 := ob1_some hJ_34
                  obtain ⟨r_45, hE_44, hJ_34⟩ := hJ_34
                  refine ctV (a := aM) (As := [.int p0, .int (M_ratio * p1)]) (rest := [.ref aM]) (st1 := [.int r_45, .ref aM]) (wc := [oX10 aM s_1 M_series M_most M_ratio aMdisk M_writes M_fuse M_down M_recovers M_looks M_unpacked aMits aMmany aMplace aMlength aMtimes aMvalues aMorder M_chunks M_epoch M_side aMheadOf aMheadTime aMheadValue M_logged aMnext aMisNew M_nexts aMcursorTime aMcursorValue M_hasCursor M_cursorMany M_cursorAt aMmade M_bits M_from M_askMany M_askLeast M_askGreatest M_askSum, rI aMits cI 240 M_its, rI aMorder cI 96 M_order]) (w1 := [oX10 aM s_1 M_series M_most M_ratio aMdisk M_writes M_fuse M_down M_recovers M_looks M_unpacked aMits aMmany aMplace aMlength aMtimes aMvalues aMorder M_chunks M_epoch M_side aMheadOf aMheadTime aMheadValue M_logged aMnext aMisNew M_nexts aMcursorTime aMcursorValue M_hasCursor M_cursorMany M_cursorAt aMmade M_bits M_from M_askMany M_askLeast M_askGreatest M_askSum, rI aMits cI 240 M_its, rI aMorder cI 96 M_order]) (wr := [rI aMmany cI 240 M_many, rI aMtimes cI 15360 M_times, rI aMvalues cI 15360 M_values]) (wb := [oX10 aM s_1 M_series M_most M_ratio aMdisk M_writes M_fuse M_down M_recovers M_looks M_unpacked aMits aMmany aMplace aMlength aMtimes aMvalues aMorder M_chunks M_epoch M_side aMheadOf aMheadTime aMheadValue M_logged aMnext aMisNew M_nexts aMcursorTime aMcursorValue M_hasCursor M_cursorMany M_cursorAt aMmade M_bits M_from M_askMany M_askLeast M_askGreatest M_askSum, rI aMits cI 240 M_its, rI aMmany cI 240 M_many, rI aMtimes cI 15360 M_times, rI aMvalues cI 15360 M_values, rI aMorder cI 96 M_order]) (v := (some (.int r_45))) hx hb hml hown htc hN (c_X10_slot l G cI cZ cJ aM aMdisk aMits aMmany aMplace aMlength aMtimes aMvalues aMorder aMheadOf aMheadTime aMheadValue aMnext aMisNew aMcursorTime aMcursorValue aMmade s_1 M_series M_most M_ratio M_writes M_fuse M_down M_recovers M_looks M_unpacked M_chunks M_epoch M_side M_logged M_nexts M_hasCursor M_cursorMany M_cursorAt M_bits M_from M_askMany M_askLeast M_askGreatest M_askSum M_its M_order p0 (M_ratio * p1) hE_44) mw_1237 mw_1239 mp_67 mw_12 mw_1240 hd_X10_slot ⟨rfl, rfl⟩ ⟨Nat.le_of_ble_eq_true rfl, Nat.le_of_ble_eq_true rfl⟩ hK hw28 hA [0, 1, 5] [2, 3, 4] [3, 4, 0, 1, 2, 5] rfl rfl rfl rfl rfl (by decide) rfl rfl rfl 0 rfl rfl rfl rfl hl29.1 rfl rfl (Nat.le_of_ble_eq_true rfl) dX10_group_169 ⟨Nat.zero_le _, Nat.zero_le _⟩ (fun H46 locs46 hw46 => ?_)
                  clear hw28 H28 locs28
                  replace hJ_34 := ob1_some hJ_34
                  obtain ⟨r_48, hE_47, hJ_34⟩ := hJ_34
                  refine ctV (a := aM) (As := [.int r_45]) (rest := []) (st1 := [.int r_48]) (wc := [oX10 aM s_1 M_series M_most M_ratio aMdisk M_writes M_fuse M_down M_recovers M_looks M_unpacked aMits aMmany aMplace aMlength aMtimes aMvalues aMorder M_chunks M_epoch M_side aMheadOf aMheadTime aMheadValue M_logged aMnext aMisNew M_nexts aMcursorTime aMcursorValue M_hasCursor M_cursorMany M_cursorAt aMmade M_bits M_from M_askMany M_askLeast M_askGreatest M_askSum, rI aMmany cI 240 M_many, rI aMvalues cI 15360 M_values]) (w1 := [oX10 aM s_1 M_series M_most M_ratio aMdisk M_writes M_fuse M_down M_recovers M_looks M_unpacked aMits aMmany aMplace aMlength aMtimes aMvalues aMorder M_chunks M_epoch M_side aMheadOf aMheadTime aMheadValue M_logged aMnext aMisNew M_nexts aMcursorTime aMcursorValue M_hasCursor M_cursorMany M_cursorAt aMmade M_bits M_from M_askMany M_askLeast M_askGreatest M_askSum, rI aMmany cI 240 M_many, rI aMvalues cI 15360 M_values]) (wr := [rI aMits cI 240 M_its, rI aMtimes cI 15360 M_times, rI aMorder cI 96 M_order]) (wb := [oX10 aM s_1 M_series M_most M_ratio aMdisk M_writes M_fuse M_down M_recovers M_looks M_unpacked aMits aMmany aMplace aMlength aMtimes aMvalues aMorder M_chunks M_epoch M_side aMheadOf aMheadTime aMheadValue M_logged aMnext aMisNew M_nexts aMcursorTime aMcursorValue M_hasCursor M_cursorMany M_cursorAt aMmade M_bits M_from M_askMany M_askLeast M_askGreatest M_askSum, rI aMits cI 240 M_its, rI aMmany cI 240 M_many, rI aMtimes cI 15360 M_times, rI aMvalues cI 15360 M_values, rI aMorder cI 96 M_order]) (v := (some (.int r_48))) hx hb hml hown htc hN (c_X10_leastOf l G cI cZ cJ aM aMdisk aMits aMmany aMplace aMlength aMtimes aMvalues aMorder aMheadOf aMheadTime aMheadValue aMnext aMisNew aMcursorTime aMcursorValue aMmade s_1 M_series M_most M_ratio M_writes M_fuse M_down M_recovers M_looks M_unpacked M_chunks M_epoch M_side M_logged M_nexts M_hasCursor M_cursorMany M_cursorAt M_bits M_from M_askMany M_askLeast M_askGreatest M_askSum M_many M_values r_45 hE_47) mw_1189 mw_1191 mp_58 mw_12 mw_1192 hd_X10_leastOf ⟨rfl, rfl⟩ ⟨Nat.le_of_ble_eq_true rfl, Nat.le_of_ble_eq_true rfl⟩ hK hw46 hA [0, 2, 4] [1, 3, 5] [3, 0, 4, 1, 5, 2] rfl rfl rfl rfl rfl (by decide) rfl rfl rfl 0 rfl rfl rfl rfl hl29.1 rfl rfl (Nat.le_of_ble_eq_true rfl) dX10_group_172 ⟨Nat.zero_le _, Nat.zero_le _⟩ (fun H49 locs49 hw49 => ?_)
                  clear hw46 H46 locs46
                  refine lv_goto (tgt := 189) hx hb dX10_group_175 (by decide) ?_
                  cases hJ_34
                  exact kj_35 _ _ _ hw49 (lv_sub hl29 [1, 2, 3, 4, 0] rfl)
              · replace hJ_34 := it_t c_36 hJ_34
                refine lv_iconst (v := (0 : Int32)) hx hb dX10_group_155 (by decide) ?_
                refine lv_goto (tgt := 189) hx hb dX10_group_156 (by decide) ?_
                cases hJ_34
                exact kj_35 _ _ _ hw28 (lv_sub hl29 [1, 2, 3, 4, 0] rfl)
            · replace hfin := it_t c_32 hfin
              refine lv_iload hx hb dX10_group_144 (lv_at hl29 0 rfl) ?_
              refine lv_iload hx hb dX10_group_146 (lv_at hl29 4 rfl) ?_
              refine lv_isub hx hb dX10_group_148 ?_
              cases hfin
              rw [hQQ]
              exact ct_iret hx hb hr hlocks hw28.1 hw28.2.1 hw28.2.2 dX10_group_149
          · replace hfin := it_t c_31 hfin
            refine lv_aload_n hx hb dX10_group_125 rfl (lv_at hl29 1 rfl) ?_
            refine lv_aload_n hx hb dX10_group_126 rfl (lv_at hl29 1 rfl) ?_
            refine lv_iload_n hx hb dX10_group_127 rfl (lv_at hl29 2 rfl) ?_
            refine lv_iload hx hb dX10_group_128 (lv_at hl29 0 rfl) ?_
            refine lv_iconst (v := (1 : Int32)) hx hb dX10_group_130 (by decide) ?_
            refine lv_isub hx hb dX10_group_131 ?_
            replace hfin := ob1_some hfin
            obtain ⟨r_110, hE_109, hfin⟩ := hfin
            refine ctV (a := aM) (As := [.int p0, .int (s_24 - (1 : Int32))]) (rest := [.ref aM]) (st1 := [.int r_110, .ref aM]) (wc := [oX10 aM s_1 M_series M_most M_ratio aMdisk M_writes M_fuse M_down M_recovers M_looks M_unpacked aMits aMmany aMplace aMlength aMtimes aMvalues aMorder M_chunks M_epoch M_side aMheadOf aMheadTime aMheadValue M_logged aMnext aMisNew M_nexts aMcursorTime aMcursorValue M_hasCursor M_cursorMany M_cursorAt aMmade M_bits M_from M_askMany M_askLeast M_askGreatest M_askSum, rI aMits cI 240 M_its, rI aMorder cI 96 M_order]) (w1 := [oX10 aM s_1 M_series M_most M_ratio aMdisk M_writes M_fuse M_down M_recovers M_looks M_unpacked aMits aMmany aMplace aMlength aMtimes aMvalues aMorder M_chunks M_epoch M_side aMheadOf aMheadTime aMheadValue M_logged aMnext aMisNew M_nexts aMcursorTime aMcursorValue M_hasCursor M_cursorMany M_cursorAt aMmade M_bits M_from M_askMany M_askLeast M_askGreatest M_askSum, rI aMits cI 240 M_its, rI aMorder cI 96 M_order]) (wr := [rI aMmany cI 240 M_many, rI aMtimes cI 15360 M_times, rI aMvalues cI 15360 M_values]) (wb := [oX10 aM s_1 M_series M_most M_ratio aMdisk M_writes M_fuse M_down M_recovers M_looks M_unpacked aMits aMmany aMplace aMlength aMtimes aMvalues aMorder M_chunks M_epoch M_side aMheadOf aMheadTime aMheadValue M_logged aMnext aMisNew M_nexts aMcursorTime aMcursorValue M_hasCursor M_cursorMany M_cursorAt aMmade M_bits M_from M_askMany M_askLeast M_askGreatest M_askSum, rI aMits cI 240 M_its, rI aMmany cI 240 M_many, rI aMtimes cI 15360 M_times, rI aMvalues cI 15360 M_values, rI aMorder cI 96 M_order]) (v := (some (.int r_110))) hx hb hml hown htc hN (c_X10_slot l G cI cZ cJ aM aMdisk aMits aMmany aMplace aMlength aMtimes aMvalues aMorder aMheadOf aMheadTime aMheadValue aMnext aMisNew aMcursorTime aMcursorValue aMmade s_1 M_series M_most M_ratio M_writes M_fuse M_down M_recovers M_looks M_unpacked M_chunks M_epoch M_side M_logged M_nexts M_hasCursor M_cursorMany M_cursorAt M_bits M_from M_askMany M_askLeast M_askGreatest M_askSum M_its M_order p0 (s_24 - (1 : Int32)) hE_109) mw_1237 mw_1239 mp_67 mw_12 mw_1240 hd_X10_slot ⟨rfl, rfl⟩ ⟨Nat.le_of_ble_eq_true rfl, Nat.le_of_ble_eq_true rfl⟩ hK hw28 hA [0, 1, 5] [2, 3, 4] [3, 4, 0, 1, 2, 5] rfl rfl rfl rfl rfl (by decide) rfl rfl rfl 0 rfl rfl rfl rfl hl29.1 rfl rfl (Nat.le_of_ble_eq_true rfl) dX10_group_132 ⟨Nat.zero_le _, Nat.zero_le _⟩ (fun H111 locs111 hw111 => ?_)
            clear hw28 H28 locs28
            replace hfin := ob1_some hfin
            obtain ⟨r_113, hE_112, hfin⟩ := hfin
            refine ctV (a := aM) (As := [.int r_110]) (rest := []) (st1 := [.int r_113]) (wc := [oX10 aM s_1 M_series M_most M_ratio aMdisk M_writes M_fuse M_down M_recovers M_looks M_unpacked aMits aMmany aMplace aMlength aMtimes aMvalues aMorder M_chunks M_epoch M_side aMheadOf aMheadTime aMheadValue M_logged aMnext aMisNew M_nexts aMcursorTime aMcursorValue M_hasCursor M_cursorMany M_cursorAt aMmade M_bits M_from M_askMany M_askLeast M_askGreatest M_askSum, rI aMmany cI 240 M_many, rI aMtimes cI 15360 M_times]) (w1 := [oX10 aM s_1 M_series M_most M_ratio aMdisk M_writes M_fuse M_down M_recovers M_looks M_unpacked aMits aMmany aMplace aMlength aMtimes aMvalues aMorder M_chunks M_epoch M_side aMheadOf aMheadTime aMheadValue M_logged aMnext aMisNew M_nexts aMcursorTime aMcursorValue M_hasCursor M_cursorMany M_cursorAt aMmade M_bits M_from M_askMany M_askLeast M_askGreatest M_askSum, rI aMmany cI 240 M_many, rI aMtimes cI 15360 M_times]) (wr := [rI aMits cI 240 M_its, rI aMvalues cI 15360 M_values, rI aMorder cI 96 M_order]) (wb := [oX10 aM s_1 M_series M_most M_ratio aMdisk M_writes M_fuse M_down M_recovers M_looks M_unpacked aMits aMmany aMplace aMlength aMtimes aMvalues aMorder M_chunks M_epoch M_side aMheadOf aMheadTime aMheadValue M_logged aMnext aMisNew M_nexts aMcursorTime aMcursorValue M_hasCursor M_cursorMany M_cursorAt aMmade M_bits M_from M_askMany M_askLeast M_askGreatest M_askSum, rI aMits cI 240 M_its, rI aMmany cI 240 M_many, rI aMtimes cI 15360 M_times, rI aMvalues cI 15360 M_values, rI aMorder cI 96 M_order]) (v := (some (.int r_113))) hx hb hml hown htc hN (c_X10_lastTime l G cI cZ cJ aM aMdisk aMits aMmany aMplace aMlength aMtimes aMvalues aMorder aMheadOf aMheadTime aMheadValue aMnext aMisNew aMcursorTime aMcursorValue aMmade s_1 M_series M_most M_ratio M_writes M_fuse M_down M_recovers M_looks M_unpacked M_chunks M_epoch M_side M_logged M_nexts M_hasCursor M_cursorMany M_cursorAt M_bits M_from M_askMany M_askLeast M_askGreatest M_askSum M_many M_times r_110 hE_112) mw_1185 mw_1187 mp_57 mw_12 mw_1188 hd_X10_lastTime ⟨rfl, rfl⟩ ⟨Nat.le_of_ble_eq_true rfl, Nat.le_of_ble_eq_true rfl⟩ hK hw111 hA [0, 2, 3] [1, 4, 5] [3, 0, 4, 5, 1, 2] rfl rfl rfl rfl rfl (by decide) rfl rfl rfl 0 rfl rfl rfl rfl hl29.1 rfl rfl (Nat.le_of_ble_eq_true rfl) dX10_group_135 ⟨Nat.zero_le _, Nat.zero_le _⟩ (fun H114 locs114 hw114 => ?_)
            clear hw111 H111 locs111
            cases hfin
            rw [hQQ]
            exact ct_iret hx hb hr hlocks hw114.1 hw114.2.1 hw114.2.2 dX10_group_138
        · replace hfin := it_t c_30 hfin
          refine lv_aload_n hx hb dX10_group_108 rfl (lv_at hl29 1 rfl) ?_
          refine lv_aload_n hx hb dX10_group_109 rfl (lv_at hl29 1 rfl) ?_
          refine lv_iload_n hx hb dX10_group_110 rfl (lv_at hl29 2 rfl) ?_
          refine lv_iload hx hb dX10_group_111 (lv_at hl29 4 rfl) ?_
          replace hfin := ob1_some hfin
          obtain ⟨r_116, hE_115, hfin⟩ := hfin
          refine ctV (a := aM) (As := [.int p0, .int (M_ratio * p1)]) (rest := [.ref aM]) (st1 := [.int r_116, .ref aM]) (wc := [oX10 aM s_1 M_series M_most M_ratio aMdisk M_writes M_fuse M_down M_recovers M_looks M_unpacked aMits aMmany aMplace aMlength aMtimes aMvalues aMorder M_chunks M_epoch M_side aMheadOf aMheadTime aMheadValue M_logged aMnext aMisNew M_nexts aMcursorTime aMcursorValue M_hasCursor M_cursorMany M_cursorAt aMmade M_bits M_from M_askMany M_askLeast M_askGreatest M_askSum, rI aMits cI 240 M_its, rI aMorder cI 96 M_order]) (w1 := [oX10 aM s_1 M_series M_most M_ratio aMdisk M_writes M_fuse M_down M_recovers M_looks M_unpacked aMits aMmany aMplace aMlength aMtimes aMvalues aMorder M_chunks M_epoch M_side aMheadOf aMheadTime aMheadValue M_logged aMnext aMisNew M_nexts aMcursorTime aMcursorValue M_hasCursor M_cursorMany M_cursorAt aMmade M_bits M_from M_askMany M_askLeast M_askGreatest M_askSum, rI aMits cI 240 M_its, rI aMorder cI 96 M_order]) (wr := [rI aMmany cI 240 M_many, rI aMtimes cI 15360 M_times, rI aMvalues cI 15360 M_values]) (wb := [oX10 aM s_1 M_series M_most M_ratio aMdisk M_writes M_fuse M_down M_recovers M_looks M_unpacked aMits aMmany aMplace aMlength aMtimes aMvalues aMorder M_chunks M_epoch M_side aMheadOf aMheadTime aMheadValue M_logged aMnext aMisNew M_nexts aMcursorTime aMcursorValue M_hasCursor M_cursorMany M_cursorAt aMmade M_bits M_from M_askMany M_askLeast M_askGreatest M_askSum, rI aMits cI 240 M_its, rI aMmany cI 240 M_many, rI aMtimes cI 15360 M_times, rI aMvalues cI 15360 M_values, rI aMorder cI 96 M_order]) (v := (some (.int r_116))) hx hb hml hown htc hN (c_X10_slot l G cI cZ cJ aM aMdisk aMits aMmany aMplace aMlength aMtimes aMvalues aMorder aMheadOf aMheadTime aMheadValue aMnext aMisNew aMcursorTime aMcursorValue aMmade s_1 M_series M_most M_ratio M_writes M_fuse M_down M_recovers M_looks M_unpacked M_chunks M_epoch M_side M_logged M_nexts M_hasCursor M_cursorMany M_cursorAt M_bits M_from M_askMany M_askLeast M_askGreatest M_askSum M_its M_order p0 (M_ratio * p1) hE_115) mw_1237 mw_1239 mp_67 mw_12 mw_1240 hd_X10_slot ⟨rfl, rfl⟩ ⟨Nat.le_of_ble_eq_true rfl, Nat.le_of_ble_eq_true rfl⟩ hK hw28 hA [0, 1, 5] [2, 3, 4] [3, 4, 0, 1, 2, 5] rfl rfl rfl rfl rfl (by decide) rfl rfl rfl 0 rfl rfl rfl rfl hl29.1 rfl rfl (Nat.le_of_ble_eq_true rfl) dX10_group_113 ⟨Nat.zero_le _, Nat.zero_le _⟩ (fun H117 locs117 hw117 => ?_)
          clear hw28 H28 locs28
          replace hfin := ob1_some hfin
          obtain ⟨r_119, hE_118, hfin⟩ := hfin
          refine ctV (a := aM) (As := [.int r_116]) (rest := []) (st1 := [.int r_119]) (wc := [oX10 aM s_1 M_series M_most M_ratio aMdisk M_writes M_fuse M_down M_recovers M_looks M_unpacked aMits aMmany aMplace aMlength aMtimes aMvalues aMorder M_chunks M_epoch M_side aMheadOf aMheadTime aMheadValue M_logged aMnext aMisNew M_nexts aMcursorTime aMcursorValue M_hasCursor M_cursorMany M_cursorAt aMmade M_bits M_from M_askMany M_askLeast M_askGreatest M_askSum, rI aMtimes cI 15360 M_times]) (w1 := [oX10 aM s_1 M_series M_most M_ratio aMdisk M_writes M_fuse M_down M_recovers M_looks M_unpacked aMits aMmany aMplace aMlength aMtimes aMvalues aMorder M_chunks M_epoch M_side aMheadOf aMheadTime aMheadValue M_logged aMnext aMisNew M_nexts aMcursorTime aMcursorValue M_hasCursor M_cursorMany M_cursorAt aMmade M_bits M_from M_askMany M_askLeast M_askGreatest M_askSum, rI aMtimes cI 15360 M_times]) (wr := [rI aMits cI 240 M_its, rI aMmany cI 240 M_many, rI aMvalues cI 15360 M_values, rI aMorder cI 96 M_order]) (wb := [oX10 aM s_1 M_series M_most M_ratio aMdisk M_writes M_fuse M_down M_recovers M_looks M_unpacked aMits aMmany aMplace aMlength aMtimes aMvalues aMorder M_chunks M_epoch M_side aMheadOf aMheadTime aMheadValue M_logged aMnext aMisNew M_nexts aMcursorTime aMcursorValue M_hasCursor M_cursorMany M_cursorAt aMmade M_bits M_from M_askMany M_askLeast M_askGreatest M_askSum, rI aMits cI 240 M_its, rI aMmany cI 240 M_many, rI aMtimes cI 15360 M_times, rI aMvalues cI 15360 M_values, rI aMorder cI 96 M_order]) (v := (some (.int r_119))) hx hb hml hown htc hN (c_X10_firstTime l G cI cZ cJ aM aMdisk aMits aMmany aMplace aMlength aMtimes aMvalues aMorder aMheadOf aMheadTime aMheadValue aMnext aMisNew aMcursorTime aMcursorValue aMmade s_1 M_series M_most M_ratio M_writes M_fuse M_down M_recovers M_looks M_unpacked M_chunks M_epoch M_side M_logged M_nexts M_hasCursor M_cursorMany M_cursorAt M_bits M_from M_askMany M_askLeast M_askGreatest M_askSum M_times r_116 hE_118) mw_1181 mw_1183 mp_56 mw_12 mw_1184 hd_X10_firstTime ⟨rfl, rfl⟩ ⟨Nat.le_of_ble_eq_true rfl, Nat.le_of_ble_eq_true rfl⟩ hK hw117 hA [0, 3] [1, 2, 4, 5] [4, 0, 1, 5, 2, 3] rfl rfl rfl rfl rfl (by decide) rfl rfl rfl 0 rfl rfl rfl rfl hl29.1 rfl rfl (Nat.le_of_ble_eq_true rfl) dX10_group_116 ⟨Nat.zero_le _, Nat.zero_le _⟩ (fun H120 locs120 hw120 => ?_)
          clear hw117 H117 locs117
          cases hfin
          rw [hQQ]
          exact ct_iret hx hb hr hlocks hw120.1 hw120.2.1 hw120.2.2 dX10_group_119
      clear hfin
      refine lv_icmp_ge (tgt := 100) hx hb dX10_group_87 (by decide) (fun c_27 => ?_) (fun c_27 => ?_)
      · replace hJ_25 := it_t c_27 hJ_25
        refine lv_iload hx hb dX10_group_100 (lv_at hl23 1 rfl) ?_
        cases hJ_25
        exact kj_26 _ _ _ hw21 (lv_sub hl23 [2, 3, 5, 0] rfl)
      · replace hJ_25 := it_f c_27 hJ_25
        refine lv_iload hx hb dX10_group_90 (lv_at hl23 0 rfl) ?_
        refine lv_aload_n hx hb dX10_group_92 rfl (lv_at hl23 2 rfl) ?_
        refine va_get (D := G) (ci := 10) (v := .int M_ratio) (C := RX10) (T := TX10) (N := 40) hx hb htc iX10 hown hK hw21.1 0 rfl rfl 3 (by decide) (htc _ mw_950) (fun _ h9 => h9) rfl dX10_group_93 ?_
        refine lv_iadd hx hb dX10_group_96 ?_
        refine lv_goto (tgt := 102) hx hb dX10_group_97 (by decide) ?_
        cases hJ_25
        exact kj_26 _ _ _ hw21 (lv_sub hl23 [2, 3, 5, 0] rfl)
    · replace hfin := it_f c_18 hfin
      refine lv_iconst (v := (0 : Int32)) hx hb dX10_group_61 (by decide) ?_
      cases hfin
      rw [hQQ]
      exact ct_iret hx hb hr hlocks hw17.1 hw17.2.1 hw17.2.2 dX10_group_62
  clear hfin
  refine lv_if_eq (tgt := 12) hx hb dX10_group_5 (by decide) (fun c_4 => ?_) (fun c_4 => ?_)
  · replace hJ_2 := it_t c_4 hJ_2
    refine lv_aload_n hx hb dX10_group_12 rfl (lv_at hl0 0 rfl) ?_
    refine lv_iload_n hx hb dX10_group_13 rfl (lv_at hl0 1 rfl) ?_
    replace hJ_2 := ob1_some hJ_2
    obtain ⟨r_6, hE_5, hJ_2⟩ := hJ_2
    refine ctV (a := aM) (As := [.int p0]) (rest := [.ref aM]) (st1 := [.int r_6, .ref aM]) (wc := [oX10 aM M_thrown M_series M_most M_ratio aMdisk M_writes M_fuse M_down M_recovers M_looks M_unpacked aMits aMmany aMplace aMlength aMtimes aMvalues aMorder M_chunks M_epoch M_side aMheadOf aMheadTime aMheadValue M_logged aMnext aMisNew M_nexts aMcursorTime aMcursorValue M_hasCursor M_cursorMany M_cursorAt aMmade M_bits M_from M_askMany M_askLeast M_askGreatest M_askSum]) (w1 := [oX10 aM M_thrown M_series M_most M_ratio aMdisk M_writes M_fuse M_down M_recovers M_looks M_unpacked aMits aMmany aMplace aMlength aMtimes aMvalues aMorder M_chunks M_epoch M_side aMheadOf aMheadTime aMheadValue M_logged aMnext aMisNew M_nexts aMcursorTime aMcursorValue M_hasCursor M_cursorMany M_cursorAt aMmade M_bits M_from M_askMany M_askLeast M_askGreatest M_askSum]) (wr := [rI aMits cI 240 M_its, rI aMmany cI 240 M_many, rI aMtimes cI 15360 M_times, rI aMvalues cI 15360 M_values, rI aMorder cI 96 M_order]) (wb := [oX10 aM M_thrown M_series M_most M_ratio aMdisk M_writes M_fuse M_down M_recovers M_looks M_unpacked aMits aMmany aMplace aMlength aMtimes aMvalues aMorder M_chunks M_epoch M_side aMheadOf aMheadTime aMheadValue M_logged aMnext aMisNew M_nexts aMcursorTime aMcursorValue M_hasCursor M_cursorMany M_cursorAt aMmade M_bits M_from M_askMany M_askLeast M_askGreatest M_askSum, rI aMits cI 240 M_its, rI aMmany cI 240 M_many, rI aMtimes cI 15360 M_times, rI aMvalues cI 15360 M_values, rI aMorder cI 96 M_order]) (v := (some (.int r_6))) hx hb hml hown htc hN (c_X10_isSeries l G cI cZ cJ aM aMdisk aMits aMmany aMplace aMlength aMtimes aMvalues aMorder aMheadOf aMheadTime aMheadValue aMnext aMisNew aMcursorTime aMcursorValue aMmade M_thrown M_series M_most M_ratio M_writes M_fuse M_down M_recovers M_looks M_unpacked M_chunks M_epoch M_side M_logged M_nexts M_hasCursor M_cursorMany M_cursorAt M_bits M_from M_askMany M_askLeast M_askGreatest M_askSum p0 hE_5) mw_1080 mw_1082 mp_35 mw_12 mw_1083 hd_X10_isSeries ⟨rfl, rfl⟩ ⟨Nat.le_of_ble_eq_true rfl, Nat.le_of_ble_eq_true rfl⟩ hK hw0 hA [0] [1, 2, 3, 4, 5] [5, 0, 1, 2, 3, 4] rfl rfl rfl rfl rfl (by decide) rfl rfl rfl 0 rfl rfl rfl rfl hl0.1 rfl rfl (Nat.le_of_ble_eq_true rfl) dX10_group_14 ⟨Nat.zero_le _, Nat.zero_le _⟩ (fun H7 locs7 hw7 => ?_)
    clear hw0
    refine lv_if_ne (tgt := 24) hx hb dX10_group_17 (by decide) (fun c_8 => ?_) (fun c_8 => ?_)
    · replace hJ_2 := it_f c_8 hJ_2
      refine lv_iload_n hx hb dX10_group_24 rfl (lv_at hl0 3 rfl) ?_
      refine lv_if_lt (tgt := 46) hx hb dX10_group_25 (by decide) (fun c_9 => ?_) (fun c_9 => ?_)
      · replace hJ_2 := it_t c_9 hJ_2
        refine lv_iconst (v := (3 : Int32)) hx hb dX10_group_46 (by decide) ?_
        refine lv_goto (tgt := 51) hx hb dX10_group_47 (by decide) ?_
        cases hJ_2
        exact kj_3 _ _ _ hw7 (lv_sub hl0 [0, 1, 2, 3] rfl)
      · replace hJ_2 := it_f c_9 hJ_2
        refine lv_iload_n hx hb dX10_group_28 rfl (lv_at hl0 3 rfl) ?_
        refine lv_iconst (v := (5 : Int32)) hx hb dX10_group_29 (by decide) ?_
        refine lv_icmp_gt (tgt := 46) hx hb dX10_group_30 (by decide) (fun c_10 => ?_) (fun c_10 => ?_)
        · replace hJ_2 := it_t c_10 hJ_2
          refine lv_iconst (v := (3 : Int32)) hx hb dX10_group_46 (by decide) ?_
          refine lv_goto (tgt := 51) hx hb dX10_group_47 (by decide) ?_
          cases hJ_2
          exact kj_3 _ _ _ hw7 (lv_sub hl0 [0, 1, 2, 3] rfl)
        · replace hJ_2 := it_f c_10 hJ_2
          refine lv_iload_n hx hb dX10_group_33 rfl (lv_at hl0 2 rfl) ?_
          refine lv_if_lt (tgt := 46) hx hb dX10_group_34 (by decide) (fun c_11 => ?_) (fun c_11 => ?_)
          · replace hJ_2 := it_t c_11 hJ_2
            refine lv_iconst (v := (3 : Int32)) hx hb dX10_group_46 (by decide) ?_
            refine lv_goto (tgt := 51) hx hb dX10_group_47 (by decide) ?_
            cases hJ_2
            exact kj_3 _ _ _ hw7 (lv_sub hl0 [0, 1, 2, 3] rfl)
          · replace hJ_2 := it_f c_11 hJ_2
            refine lv_iload_n hx hb dX10_group_37 rfl (lv_at hl0 2 rfl) ?_
            refine lv_aload_n hx hb dX10_group_38 rfl (lv_at hl0 0 rfl) ?_
            refine lv_iload_n hx hb dX10_group_39 rfl (lv_at hl0 1 rfl) ?_
            replace hJ_2 := ob1_some hJ_2
            obtain ⟨r_13, hE_12, hJ_2⟩ := hJ_2
            refine ctV (a := aM) (As := [.int p0]) (rest := [.int p1, .ref aM]) (st1 := [.int r_13, .int p1, .ref aM]) (wc := [oX10 aM M_thrown M_series M_most M_ratio aMdisk M_writes M_fuse M_down M_recovers M_looks M_unpacked aMits aMmany aMplace aMlength aMtimes aMvalues aMorder M_chunks M_epoch M_side aMheadOf aMheadTime aMheadValue M_logged aMnext aMisNew M_nexts aMcursorTime aMcursorValue M_hasCursor M_cursorMany M_cursorAt aMmade M_bits M_from M_askMany M_askLeast M_askGreatest M_askSum, rI aMits cI 240 M_its, rI aMorder cI 96 M_order]) (w1 := [oX10 aM M_thrown M_series M_most M_ratio aMdisk M_writes M_fuse M_down M_recovers M_looks M_unpacked aMits aMmany aMplace aMlength aMtimes aMvalues aMorder M_chunks M_epoch M_side aMheadOf aMheadTime aMheadValue M_logged aMnext aMisNew M_nexts aMcursorTime aMcursorValue M_hasCursor M_cursorMany M_cursorAt aMmade M_bits M_from M_askMany M_askLeast M_askGreatest M_askSum, rI aMits cI 240 M_its, rI aMorder cI 96 M_order]) (wr := [rI aMmany cI 240 M_many, rI aMtimes cI 15360 M_times, rI aMvalues cI 15360 M_values]) (wb := [oX10 aM M_thrown M_series M_most M_ratio aMdisk M_writes M_fuse M_down M_recovers M_looks M_unpacked aMits aMmany aMplace aMlength aMtimes aMvalues aMorder M_chunks M_epoch M_side aMheadOf aMheadTime aMheadValue M_logged aMnext aMisNew M_nexts aMcursorTime aMcursorValue M_hasCursor M_cursorMany M_cursorAt aMmade M_bits M_from M_askMany M_askLeast M_askGreatest M_askSum, rI aMits cI 240 M_its, rI aMmany cI 240 M_many, rI aMtimes cI 15360 M_times, rI aMvalues cI 15360 M_values, rI aMorder cI 96 M_order]) (v := (some (.int r_13))) hx hb hml hown htc hN (c_X10_groupsOf l G cI cZ cJ aM aMdisk aMits aMmany aMplace aMlength aMtimes aMvalues aMorder aMheadOf aMheadTime aMheadValue aMnext aMisNew aMcursorTime aMcursorValue aMmade M_thrown M_series M_most M_ratio M_writes M_fuse M_down M_recovers M_looks M_unpacked M_chunks M_epoch M_side M_logged M_nexts M_hasCursor M_cursorMany M_cursorAt M_bits M_from M_askMany M_askLeast M_askGreatest M_askSum M_its M_order p0 hE_12) mw_1233 mw_1235 mp_66 mw_12 mw_1236 hd_X10_groupsOf ⟨rfl, rfl⟩ ⟨Nat.le_of_ble_eq_true rfl, Nat.le_of_ble_eq_true rfl⟩ hK hw7 hA [0, 1, 5] [2, 3, 4] [3, 4, 0, 1, 2, 5] rfl rfl rfl rfl rfl (by decide) rfl rfl rfl 0 rfl rfl rfl rfl hl0.1 rfl rfl (Nat.le_of_ble_eq_true rfl) dX10_group_40 ⟨Nat.zero_le _, Nat.zero_le _⟩ (fun H14 locs14 hw14 => ?_)
            clear hw7 H7 locs7
            refine lv_icmp_lt (tgt := 50) hx hb dX10_group_43 (by decide) (fun c_15 => ?_) (fun c_15 => ?_)
            · replace hJ_2 := it_t c_15 hJ_2
              refine lv_iconst (v := (0 : Int32)) hx hb dX10_group_50 (by decide) ?_
              cases hJ_2
              exact kj_3 _ _ _ hw14 (lv_sub hl0 [0, 1, 2, 3] rfl)
            · replace hJ_2 := it_f c_15 hJ_2
              refine lv_iconst (v := (3 : Int32)) hx hb dX10_group_46 (by decide) ?_
              refine lv_goto (tgt := 51) hx hb dX10_group_47 (by decide) ?_
              cases hJ_2
              exact kj_3 _ _ _ hw14 (lv_sub hl0 [0, 1, 2, 3] rfl)
    · replace hJ_2 := it_t c_8 hJ_2
      refine lv_iconst (v := (2 : Int32)) hx hb dX10_group_20 (by decide) ?_
      refine lv_goto (tgt := 51) hx hb dX10_group_21 (by decide) ?_
      cases hJ_2
      exact kj_3 _ _ _ hw7 (lv_sub hl0 [0, 1, 2, 3] rfl)
  · replace hJ_2 := it_f c_4 hJ_2
    refine lv_iconst (v := (1 : Int32)) hx hb dX10_group_8 (by decide) ?_
    refine lv_goto (tgt := 51) hx hb dX10_group_9 (by decide) ?_
    cases hJ_2
    exact kj_3 _ _ _ hw0 (lv_sub hl0 [0, 1, 2, 3] rfl)
abbrev rm_X10_taken : Room := { frames := 0, cells := 0, slots := 0, locals := 0 }
theorem hd_X10_taken : yX10_taken.cls = RX10 ∧ yX10_taken.cls ≠ "java/lang/invoke/MethodHandle" ∧ yX10_taken.cls ≠ "java/lang/invoke/VarHandle" ∧ (parseMethodDescriptor yX10_taken.desc).map (fun d => d.parameters.length) = some 0 := by decide +kernel
set_option maxHeartbeats 4000000 in
set_option maxRecDepth 100000 in
theorem c_X10_taken (l : Launch) (G : va_G) (cI cZ cJ : ClassId) (aM aMdisk aMits aMmany aMplace aMlength aMtimes aMvalues aMorder aMheadOf aMheadTime aMheadValue aMnext aMisNew aMcursorTime aMcursorValue aMmade : Nat) (M_thrown : Int32) (M_series : Int32) (M_most : Int32) (M_ratio : Int32) (M_writes : Int32) (M_fuse : Int32) (M_down : Int32) (M_recovers : Int32) (M_looks : Int32) (M_unpacked : Int32) (M_chunks : Int32) (M_epoch : Int32) (M_side : Int32) (M_logged : Int32) (M_nexts : Int32) (M_hasCursor : Int32) (M_cursorMany : Int32) (M_cursorAt : Int32) (M_bits : Int32) (M_from : Int32) (M_askMany : Int32) (M_askLeast : Int32) (M_askGreatest : Int32) (M_askSum : Int64) (M_length : Nat → Int32) (M_order : Nat → Int32)  {r : Int32} (hfin : m_X10_taken M_chunks M_length M_order = some (r)) : CT l yX10_taken cX10_taken 3 (some .int) rm_X10_taken G (tyC cI cZ cJ) [.ref aM] [oX10 aM M_thrown M_series M_most M_ratio aMdisk M_writes M_fuse M_down M_recovers M_looks M_unpacked aMits aMmany aMplace aMlength aMtimes aMvalues aMorder M_chunks M_epoch M_side aMheadOf aMheadTime aMheadValue M_logged aMnext aMisNew M_nexts aMcursorTime aMcursorValue M_hasCursor M_cursorMany M_cursorAt aMmade M_bits M_from M_askMany M_askLeast M_askGreatest M_askSum, rI aMlength cI 240 M_length, rI aMorder cI 96 M_order] (some (.int r)) [oX10 aM M_thrown M_series M_most M_ratio aMdisk M_writes M_fuse M_down M_recovers M_looks M_unpacked aMits aMmany aMplace aMlength aMtimes aMvalues aMorder M_chunks M_epoch M_side aMheadOf aMheadTime aMheadValue M_logged aMnext aMisNew M_nexts aMcursorTime aMcursorValue M_hasCursor M_cursorMany M_cursorAt aMmade M_bits M_from M_askMany M_askLeast M_askGreatest M_askSum, rI aMlength cI 240 M_length, rI aMorder cI 96 M_order] := by
  refine CT.ofW (lvl := [(0, .ref aM)]) (by decide) (Nat.le_of_ble_eq_true rfl) rfl ?_
  intro p e s m args below meth c A ls0 QQ hQQ hx hb hml hr hlocks htc hN hown hK hA hw0 hl0
  rw [m_X10_taken] at hfin
  refine lv_iconst (v := (0 : Int32)) hx hb dX10_taken_0 (by decide) ?_
  refine lv_istore_n (lv' := [(1, .int (0 : Int32)), (0, .ref aM)]) hx hb dX10_taken_1 rfl hl0 (by decide) rfl (fun ls1 hl1 => ?_)
  clear hl0 ls0
  refine lv_iconst (v := (0 : Int32)) hx hb dX10_taken_2 (by decide) ?_
  refine lv_istore_n (lv' := [(2, .int (0 : Int32)), (1, .int (0 : Int32)), (0, .ref aM)]) hx hb dX10_taken_3 rfl hl1 (by decide) rfl (fun ls2 hl2 => ?_)
  clear hl1 ls1
  replace hfin := ob1_some hfin
  obtain ⟨v1_9, hL_5, hfin⟩ := hfin
  have kx_6 : ∀ (H : Heap) (locs : List Loc) (ls : Array Slot), wS G A s H locs [oX10 aM M_thrown M_series M_most M_ratio aMdisk M_writes M_fuse M_down M_recovers M_looks M_unpacked aMits aMmany aMplace aMlength aMtimes aMvalues aMorder M_chunks M_epoch M_side aMheadOf aMheadTime aMheadValue M_logged aMnext aMisNew M_nexts aMcursorTime aMcursorValue M_hasCursor M_cursorMany M_cursorAt aMmade M_bits M_from M_askMany M_askLeast M_askGreatest M_askSum, rI aMlength cI 240 M_length, rI aMorder cI 96 M_order] → lv_has ls 3 [(1, .int v1_9)] → W p l e rm_X10_taken s m args below meth c H locs 0 0 QQ (F0 m 32 ls []) := by
    clear hw0 hl2 ls2 hL_5
    intro H16 locs16 ls16 hw16 hl16
    refine lv_iload_n hx hb dX10_taken_32 rfl (lv_at hl16 0 rfl) ?_
    cases hfin
    rw [hQQ]
    exact ct_iret hx hb hr hlocks hw16.1 hw16.2.1 hw16.2.2 dX10_taken_33
  have lp_7 : ∀ (n : Nat) (v1_3 : Int32) (v2_4 : Int32), lp_X10_taken_4 M_chunks M_length M_order n v1_3 v2_4 = some (v1_9) → ∀ (H : Heap) (locs : List Loc) (ls : Array Slot), wS G A s H locs [oX10 aM M_thrown M_series M_most M_ratio aMdisk M_writes M_fuse M_down M_recovers M_looks M_unpacked aMits aMmany aMplace aMlength aMtimes aMvalues aMorder M_chunks M_epoch M_side aMheadOf aMheadTime aMheadValue M_logged aMnext aMisNew M_nexts aMcursorTime aMcursorValue M_hasCursor M_cursorMany M_cursorAt aMmade M_bits M_from M_askMany M_askLeast M_askGreatest M_askSum, rI aMlength cI 240 M_length, rI aMorder cI 96 M_order] → lv_has ls 3 [(0, .ref aM), (1, .int v1_3), (2, .int v2_4)] → W p l e rm_X10_taken s m args below meth c H locs 0 0 QQ (F0 m 4 ls []) := by
    clear hw0 hl2 ls2 hfin
    intro n
    induction n with
    | zero =>
      intro v1_3 v2_4 hB_8
      exact absurd hB_8 (by rw [lp_X10_taken_4]; exact fun h9 => nomatch h9)
    | succ n ih =>
      intro v1_3 v2_4 hB_8 H10 locs10 ls10 hw10 hl10
      rw [lp_X10_taken_4] at hB_8
      refine lv_iload_n hx hb dX10_taken_4 rfl (lv_at hl10 2 rfl) ?_
      refine lv_aload_n hx hb dX10_taken_5 rfl (lv_at hl10 0 rfl) ?_
      refine va_get (D := G) (ci := 10) (v := .int M_chunks) (C := RX10) (T := TX10) (N := 40) hx hb htc iX10 hown hK hw10.1 0 rfl rfl 18 (by decide) (htc _ mw_965) (fun _ h9 => h9) rfl dX10_taken_6 ?_
      refine lv_icmp_ge (tgt := 32) hx hb dX10_taken_9 (by decide) (fun c_11 => ?_) (fun c_11 => ?_)
      · replace hB_8 := it_t c_11 hB_8
        cases hB_8
        exact kx_6 _ _ _ hw10 (lv_sub hl10 [1] rfl)
      · replace hB_8 := it_f c_11 hB_8
        refine lv_iload_n hx hb dX10_taken_12 rfl (lv_at hl10 1 rfl) ?_
        refine lv_aload_n hx hb dX10_taken_13 rfl (lv_at hl10 0 rfl) ?_
        refine va_get (D := G) (ci := 10) (v := .ref aMlength) (C := RX10) (T := TX10) (N := 40) hx hb htc iX10 hown hK hw10.1 0 rfl rfl 14 (by decide) (htc _ mw_961) (fun _ h9 => h9) rfl dX10_taken_14 ?_
        refine lv_aload_n hx hb dX10_taken_17 rfl (lv_at hl10 0 rfl) ?_
        refine va_get (D := G) (ci := 10) (v := .ref aMorder) (C := RX10) (T := TX10) (N := 40) hx hb htc iX10 hown hK hw10.1 0 rfl rfl 17 (by decide) (htc _ mw_964) (fun _ h9 => h9) rfl dX10_taken_18 ?_
        refine lv_iload_n hx hb dX10_taken_21 rfl (lv_at hl10 2 rfl) ?_
        replace hB_8 := ckb_some hB_8
        obtain ⟨hin_12, hB_8⟩ := hB_8
        refine va_iald hx hb hK hw10.1 2 0 rfl rfl hin_12 dX10_taken_22 ?_
        replace hB_8 := ckb_some hB_8
        obtain ⟨hin_13, hB_8⟩ := hB_8
        refine va_iald hx hb hK hw10.1 1 0 rfl rfl hin_13 dX10_taken_23 ?_
        refine lv_iadd hx hb dX10_taken_24 ?_
        refine lv_istore_n (lv' := [(1, .int (v1_3 + (M_length (Int32.toNatClampNeg (M_order (Int32.toNatClampNeg v2_4)))))), (0, .ref aM), (2, .int v2_4)]) hx hb dX10_taken_25 rfl hl10 (by decide) rfl (fun ls14 hl14 => ?_)
        clear hl10 ls10
        refine lv_iinc (v := (v2_4 + (1 : Int32))) (lv' := [(2, .int (v2_4 + (1 : Int32))), (1, .int (v1_3 + (M_length (Int32.toNatClampNeg (M_order (Int32.toNatClampNeg v2_4)))))), (0, .ref aM)]) hx hb dX10_taken_26 hl14 (k := 2) rfl rfl (by decide) rfl (fun ls15 hl15 => ?_)
        clear hl14 ls14
        refine lv_goto (tgt := 4) hx hb dX10_taken_29 (by decide) ?_
        exact ih (v1_3 + (M_length (Int32.toNatClampNeg (M_order (Int32.toNatClampNeg v2_4))))) (v2_4 + (1 : Int32)) hB_8 _ _ _ hw10 (lv_sub hl15 [2, 1, 0] rfl)
  exact lp_7 NN (0 : Int32) (0 : Int32) hL_5 _ _ _ hw0 (lv_sub hl2 [2, 1, 0] rfl)
