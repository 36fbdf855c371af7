theorem d_LAW_0 : decode m_LAW.2.1 0 = .ok (.new 9, 3) := by decide +kernel
theorem d_LAW_3 : decode m_LAW.2.1 3 = .ok (.dup, 1) := by decide +kernel
theorem d_LAW_4 : decode m_LAW.2.1 4 = .ok (.invokespecial 208, 3) := by decide +kernel
theorem d_LAW_7 : decode m_LAW.2.1 7 = .ok (.astore_n 1, 1) := by decide +kernel
theorem d_LAW_8 : decode m_LAW.2.1 8 = .ok (.new 9, 3) := by decide +kernel
theorem d_LAW_11 : decode m_LAW.2.1 11 = .ok (.dup, 1) := by decide +kernel
theorem d_LAW_12 : decode m_LAW.2.1 12 = .ok (.invokespecial 208, 3) := by decide +kernel
theorem d_LAW_15 : decode m_LAW.2.1 15 = .ok (.astore_n 2, 1) := by decide +kernel
theorem d_LAW_16 : decode m_LAW.2.1 16 = .ok (.aload_n 1, 1) := by decide +kernel
theorem d_LAW_17 : decode m_LAW.2.1 17 = .ok (.invokestatic 209, 3) := by decide +kernel
theorem d_LAW_20 : decode m_LAW.2.1 20 = .ok (.ifCond .eq 14, 3) := by decide +kernel
theorem d_LAW_23 : decode m_LAW.2.1 23 = .ok (.aload_n 2, 1) := by decide +kernel
theorem d_LAW_24 : decode m_LAW.2.1 24 = .ok (.invokestatic 209, 3) := by decide +kernel
theorem d_LAW_27 : decode m_LAW.2.1 27 = .ok (.ifCond .eq 7, 3) := by decide +kernel
theorem d_LAW_30 : decode m_LAW.2.1 30 = .ok (.iconst 1, 1) := by decide +kernel
theorem d_LAW_31 : decode m_LAW.2.1 31 = .ok (.goto 4, 3) := by decide +kernel
theorem d_LAW_34 : decode m_LAW.2.1 34 = .ok (.iconst 0, 1) := by decide +kernel
theorem d_LAW_35 : decode m_LAW.2.1 35 = .ok (.istore_n 3, 1) := by decide +kernel
theorem d_LAW_36 : decode m_LAW.2.1 36 = .ok (.iconst 0, 1) := by decide +kernel
theorem d_LAW_37 : decode m_LAW.2.1 37 = .ok (.istore 4, 2) := by decide +kernel
theorem d_LAW_39 : decode m_LAW.2.1 39 = .ok (.iload 4, 2) := by decide +kernel
theorem d_LAW_41 : decode m_LAW.2.1 41 = .ok (.bipush 100, 2) := by decide +kernel
theorem d_LAW_43 : decode m_LAW.2.1 43 = .ok (.if_icmp .ge 273, 3) := by decide +kernel
theorem d_LAW_46 : decode m_LAW.2.1 46 = .ok (.iload_n 3, 1) := by decide +kernel
theorem d_LAW_47 : decode m_LAW.2.1 47 = .ok (.ifCond .eq 269, 3) := by decide +kernel
theorem d_LAW_50 : decode m_LAW.2.1 50 = .ok (.aload_n 0, 1) := by decide +kernel
theorem d_LAW_51 : decode m_LAW.2.1 51 = .ok (.iload 4, 2) := by decide +kernel
theorem d_LAW_53 : decode m_LAW.2.1 53 = .ok (.bipush 61, 2) := by decide +kernel
theorem d_LAW_55 : decode m_LAW.2.1 55 = .ok (.irem, 1) := by decide +kernel
theorem d_LAW_56 : decode m_LAW.2.1 56 = .ok (.invokestatic 213, 3) := by decide +kernel
theorem d_LAW_59 : decode m_LAW.2.1 59 = .ok (.sipush 1429, 3) := by decide +kernel
theorem d_LAW_62 : decode m_LAW.2.1 62 = .ok (.iload 4, 2) := by decide +kernel
theorem d_LAW_64 : decode m_LAW.2.1 64 = .ok (.bipush 61, 2) := by decide +kernel
theorem d_LAW_66 : decode m_LAW.2.1 66 = .ok (.idiv, 1) := by decide +kernel
theorem d_LAW_67 : decode m_LAW.2.1 67 = .ok (.imul, 1) := by decide +kernel
theorem d_LAW_68 : decode m_LAW.2.1 68 = .ok (.iadd, 1) := by decide +kernel
theorem d_LAW_69 : decode m_LAW.2.1 69 = .ok (.istore 5, 2) := by decide +kernel
theorem d_LAW_71 : decode m_LAW.2.1 71 = .ok (.aload_n 1, 1) := by decide +kernel
theorem d_LAW_72 : decode m_LAW.2.1 72 = .ok (.iload 5, 2) := by decide +kernel
theorem d_LAW_74 : decode m_LAW.2.1 74 = .ok (.invokestatic 216, 3) := by decide +kernel
theorem d_LAW_77 : decode m_LAW.2.1 77 = .ok (.istore 6, 2) := by decide +kernel
theorem d_LAW_79 : decode m_LAW.2.1 79 = .ok (.iload 6, 2) := by decide +kernel
theorem d_LAW_81 : decode m_LAW.2.1 81 = .ok (.ldc 57, 2) := by decide +kernel
theorem d_LAW_83 : decode m_LAW.2.1 83 = .ok (.if_icmp .eq 14, 3) := by decide +kernel
theorem d_LAW_86 : decode m_LAW.2.1 86 = .ok (.aload_n 2, 1) := by decide +kernel
theorem d_LAW_87 : decode m_LAW.2.1 87 = .ok (.iload 5, 2) := by decide +kernel
theorem d_LAW_89 : decode m_LAW.2.1 89 = .ok (.invokestatic 216, 3) := by decide +kernel
theorem d_LAW_92 : decode m_LAW.2.1 92 = .ok (.iload 6, 2) := by decide +kernel
theorem d_LAW_94 : decode m_LAW.2.1 94 = .ok (.if_icmp .ne 39, 3) := by decide +kernel
theorem d_LAW_97 : decode m_LAW.2.1 97 = .ok (.iload 4, 2) := by decide +kernel
theorem d_LAW_99 : decode m_LAW.2.1 99 = .ok (.iconst 5, 1) := by decide +kernel
theorem d_LAW_100 : decode m_LAW.2.1 100 = .ok (.irem, 1) := by decide +kernel
theorem d_LAW_101 : decode m_LAW.2.1 101 = .ok (.iconst 3, 1) := by decide +kernel
theorem d_LAW_102 : decode m_LAW.2.1 102 = .ok (.if_icmp .ne 11, 3) := by decide +kernel
theorem d_LAW_105 : decode m_LAW.2.1 105 = .ok (.aload_n 1, 1) := by decide +kernel
theorem d_LAW_106 : decode m_LAW.2.1 106 = .ok (.aload_n 2, 1) := by decide +kernel
theorem d_LAW_107 : decode m_LAW.2.1 107 = .ok (.invokestatic 204, 3) := by decide +kernel
theorem d_LAW_110 : decode m_LAW.2.1 110 = .ok (.ifCond .eq 23, 3) := by decide +kernel
theorem d_LAW_113 : decode m_LAW.2.1 113 = .ok (.iload 4, 2) := by decide +kernel
theorem d_LAW_115 : decode m_LAW.2.1 115 = .ok (.bipush 6, 2) := by decide +kernel
theorem d_LAW_117 : decode m_LAW.2.1 117 = .ok (.irem, 1) := by decide +kernel
theorem d_LAW_118 : decode m_LAW.2.1 118 = .ok (.iconst 1, 1) := by decide +kernel
theorem d_LAW_119 : decode m_LAW.2.1 119 = .ok (.if_icmp .ne 10, 3) := by decide +kernel
theorem d_LAW_122 : decode m_LAW.2.1 122 = .ok (.aload_n 1, 1) := by decide +kernel
theorem d_LAW_123 : decode m_LAW.2.1 123 = .ok (.invokestatic 219, 3) := by decide +kernel
theorem d_LAW_126 : decode m_LAW.2.1 126 = .ok (.ifCond .eq 7, 3) := by decide +kernel
theorem d_LAW_129 : decode m_LAW.2.1 129 = .ok (.iconst 1, 1) := by decide +kernel
theorem d_LAW_130 : decode m_LAW.2.1 130 = .ok (.goto 4, 3) := by decide +kernel
theorem d_LAW_133 : decode m_LAW.2.1 133 = .ok (.iconst 0, 1) := by decide +kernel
theorem d_LAW_134 : decode m_LAW.2.1 134 = .ok (.istore_n 3, 1) := by decide +kernel
theorem d_LAW_135 : decode m_LAW.2.1 135 = .ok (.iload 4, 2) := by decide +kernel
theorem d_LAW_137 : decode m_LAW.2.1 137 = .ok (.bipush 7, 2) := by decide +kernel
theorem d_LAW_139 : decode m_LAW.2.1 139 = .ok (.irem, 1) := by decide +kernel
theorem d_LAW_140 : decode m_LAW.2.1 140 = .ok (.iconst 4, 1) := by decide +kernel
theorem d_LAW_141 : decode m_LAW.2.1 141 = .ok (.if_icmp .ne 36, 3) := by decide +kernel
theorem d_LAW_144 : decode m_LAW.2.1 144 = .ok (.iload_n 3, 1) := by decide +kernel
theorem d_LAW_145 : decode m_LAW.2.1 145 = .ok (.ifCond .eq 30, 3) := by decide +kernel
theorem d_LAW_148 : decode m_LAW.2.1 148 = .ok (.aload_n 1, 1) := by decide +kernel
theorem d_LAW_149 : decode m_LAW.2.1 149 = .ok (.aload_n 2, 1) := by decide +kernel
theorem d_LAW_150 : decode m_LAW.2.1 150 = .ok (.iload 5, 2) := by decide +kernel
theorem d_LAW_152 : decode m_LAW.2.1 152 = .ok (.bipush 6, 2) := by decide +kernel
theorem d_LAW_154 : decode m_LAW.2.1 154 = .ok (.ishr, 1) := by decide +kernel
theorem d_LAW_155 : decode m_LAW.2.1 155 = .ok (.bipush 6, 2) := by decide +kernel
theorem d_LAW_157 : decode m_LAW.2.1 157 = .ok (.invokestatic 156, 3) := by decide +kernel
theorem d_LAW_160 : decode m_LAW.2.1 160 = .ok (.iload 5, 2) := by decide +kernel
theorem d_LAW_162 : decode m_LAW.2.1 162 = .ok (.bipush 9, 2) := by decide +kernel
theorem d_LAW_164 : decode m_LAW.2.1 164 = .ok (.ishr, 1) := by decide +kernel
theorem d_LAW_165 : decode m_LAW.2.1 165 = .ok (.invokestatic 222, 3) := by decide +kernel
theorem d_LAW_168 : decode m_LAW.2.1 168 = .ok (.ifCond .eq 7, 3) := by decide +kernel
theorem d_LAW_171 : decode m_LAW.2.1 171 = .ok (.iconst 1, 1) := by decide +kernel
theorem d_LAW_172 : decode m_LAW.2.1 172 = .ok (.goto 4, 3) := by decide +kernel
theorem d_LAW_175 : decode m_LAW.2.1 175 = .ok (.iconst 0, 1) := by decide +kernel
theorem d_LAW_176 : decode m_LAW.2.1 176 = .ok (.istore_n 3, 1) := by decide +kernel
theorem d_LAW_177 : decode m_LAW.2.1 177 = .ok (.iload 4, 2) := by decide +kernel
theorem d_LAW_179 : decode m_LAW.2.1 179 = .ok (.bipush 9, 2) := by decide +kernel
theorem d_LAW_181 : decode m_LAW.2.1 181 = .ok (.irem, 1) := by decide +kernel
theorem d_LAW_182 : decode m_LAW.2.1 182 = .ok (.iconst 5, 1) := by decide +kernel
theorem d_LAW_183 : decode m_LAW.2.1 183 = .ok (.if_icmp .ne 38, 3) := by decide +kernel
theorem d_LAW_186 : decode m_LAW.2.1 186 = .ok (.iload_n 3, 1) := by decide +kernel
theorem d_LAW_187 : decode m_LAW.2.1 187 = .ok (.ifCond .eq 32, 3) := by decide +kernel
theorem d_LAW_190 : decode m_LAW.2.1 190 = .ok (.aload_n 1, 1) := by decide +kernel
theorem d_LAW_191 : decode m_LAW.2.1 191 = .ok (.aload_n 2, 1) := by decide +kernel
theorem d_LAW_192 : decode m_LAW.2.1 192 = .ok (.iload 5, 2) := by decide +kernel
theorem d_LAW_194 : decode m_LAW.2.1 194 = .ok (.bipush 6, 2) := by decide +kernel
theorem d_LAW_196 : decode m_LAW.2.1 196 = .ok (.ishr, 1) := by decide +kernel
theorem d_LAW_197 : decode m_LAW.2.1 197 = .ok (.iconst 1, 1) := by decide +kernel
theorem d_LAW_198 : decode m_LAW.2.1 198 = .ok (.iand, 1) := by decide +kernel
theorem d_LAW_199 : decode m_LAW.2.1 199 = .ok (.iload 5, 2) := by decide +kernel
theorem d_LAW_201 : decode m_LAW.2.1 201 = .ok (.bipush 8, 2) := by decide +kernel
theorem d_LAW_203 : decode m_LAW.2.1 203 = .ok (.ishr, 1) := by decide +kernel
theorem d_LAW_204 : decode m_LAW.2.1 204 = .ok (.iconst 5, 1) := by decide +kernel
theorem d_LAW_205 : decode m_LAW.2.1 205 = .ok (.invokestatic 156, 3) := by decide +kernel
theorem d_LAW_208 : decode m_LAW.2.1 208 = .ok (.iconst 1, 1) := by decide +kernel
theorem d_LAW_209 : decode m_LAW.2.1 209 = .ok (.invokestatic 226, 3) := by decide +kernel
theorem d_LAW_212 : decode m_LAW.2.1 212 = .ok (.ifCond .eq 7, 3) := by decide +kernel
theorem d_LAW_215 : decode m_LAW.2.1 215 = .ok (.iconst 1, 1) := by decide +kernel
theorem d_LAW_216 : decode m_LAW.2.1 216 = .ok (.goto 4, 3) := by decide +kernel
theorem d_LAW_219 : decode m_LAW.2.1 219 = .ok (.iconst 0, 1) := by decide +kernel
theorem d_LAW_220 : decode m_LAW.2.1 220 = .ok (.istore_n 3, 1) := by decide +kernel
theorem d_LAW_221 : decode m_LAW.2.1 221 = .ok (.iload 4, 2) := by decide +kernel
theorem d_LAW_223 : decode m_LAW.2.1 223 = .ok (.bipush 8, 2) := by decide +kernel
theorem d_LAW_225 : decode m_LAW.2.1 225 = .ok (.irem, 1) := by decide +kernel
theorem d_LAW_226 : decode m_LAW.2.1 226 = .ok (.bipush 6, 2) := by decide +kernel
theorem d_LAW_228 : decode m_LAW.2.1 228 = .ok (.if_icmp .ne 30, 3) := by decide +kernel
theorem d_LAW_231 : decode m_LAW.2.1 231 = .ok (.iload_n 3, 1) := by decide +kernel
theorem d_LAW_232 : decode m_LAW.2.1 232 = .ok (.ifCond .eq 24, 3) := by decide +kernel
theorem d_LAW_235 : decode m_LAW.2.1 235 = .ok (.aload_n 1, 1) := by decide +kernel
theorem d_LAW_236 : decode m_LAW.2.1 236 = .ok (.aload_n 2, 1) := by decide +kernel
theorem d_LAW_237 : decode m_LAW.2.1 237 = .ok (.iload 5, 2) := by decide +kernel
theorem d_LAW_239 : decode m_LAW.2.1 239 = .ok (.bipush 6, 2) := by decide +kernel
theorem d_LAW_241 : decode m_LAW.2.1 241 = .ok (.ishr, 1) := by decide +kernel
theorem d_LAW_242 : decode m_LAW.2.1 242 = .ok (.iconst 3, 1) := by decide +kernel
theorem d_LAW_243 : decode m_LAW.2.1 243 = .ok (.invokestatic 156, 3) := by decide +kernel
theorem d_LAW_246 : decode m_LAW.2.1 246 = .ok (.invokestatic 230, 3) := by decide +kernel
theorem d_LAW_249 : decode m_LAW.2.1 249 = .ok (.ifCond .eq 7, 3) := by decide +kernel
theorem d_LAW_252 : decode m_LAW.2.1 252 = .ok (.iconst 1, 1) := by decide +kernel
theorem d_LAW_253 : decode m_LAW.2.1 253 = .ok (.goto 4, 3) := by decide +kernel
theorem d_LAW_256 : decode m_LAW.2.1 256 = .ok (.iconst 0, 1) := by decide +kernel
theorem d_LAW_257 : decode m_LAW.2.1 257 = .ok (.istore_n 3, 1) := by decide +kernel
theorem d_LAW_258 : decode m_LAW.2.1 258 = .ok (.iload 4, 2) := by decide +kernel
theorem d_LAW_260 : decode m_LAW.2.1 260 = .ok (.bipush 13, 2) := by decide +kernel
theorem d_LAW_262 : decode m_LAW.2.1 262 = .ok (.irem, 1) := by decide +kernel
theorem d_LAW_263 : decode m_LAW.2.1 263 = .ok (.bipush 10, 2) := by decide +kernel
theorem d_LAW_265 : decode m_LAW.2.1 265 = .ok (.if_icmp .ne 45, 3) := by decide +kernel
theorem d_LAW_268 : decode m_LAW.2.1 268 = .ok (.iload_n 3, 1) := by decide +kernel
theorem d_LAW_269 : decode m_LAW.2.1 269 = .ok (.ifCond .eq 39, 3) := by decide +kernel
theorem d_LAW_272 : decode m_LAW.2.1 272 = .ok (.aload_n 1, 1) := by decide +kernel
theorem d_LAW_273 : decode m_LAW.2.1 273 = .ok (.aload_n 2, 1) := by decide +kernel
theorem d_LAW_274 : decode m_LAW.2.1 274 = .ok (.iload 5, 2) := by decide +kernel
theorem d_LAW_276 : decode m_LAW.2.1 276 = .ok (.bipush 6, 2) := by decide +kernel
theorem d_LAW_278 : decode m_LAW.2.1 278 = .ok (.ishr, 1) := by decide +kernel
theorem d_LAW_279 : decode m_LAW.2.1 279 = .ok (.iconst 3, 1) := by decide +kernel
theorem d_LAW_280 : decode m_LAW.2.1 280 = .ok (.invokestatic 156, 3) := by decide +kernel
theorem d_LAW_283 : decode m_LAW.2.1 283 = .ok (.iload 5, 2) := by decide +kernel
theorem d_LAW_285 : decode m_LAW.2.1 285 = .ok (.bipush 9, 2) := by decide +kernel
theorem d_LAW_287 : decode m_LAW.2.1 287 = .ok (.ishr, 1) := by decide +kernel
theorem d_LAW_288 : decode m_LAW.2.1 288 = .ok (.bipush 6, 2) := by decide +kernel
theorem d_LAW_290 : decode m_LAW.2.1 290 = .ok (.invokestatic 156, 3) := by decide +kernel
theorem d_LAW_293 : decode m_LAW.2.1 293 = .ok (.iload 5, 2) := by decide +kernel
theorem d_LAW_295 : decode m_LAW.2.1 295 = .ok (.bipush 11, 2) := by decide +kernel
theorem d_LAW_297 : decode m_LAW.2.1 297 = .ok (.ishr, 1) := by decide +kernel
theorem d_LAW_298 : decode m_LAW.2.1 298 = .ok (.invokestatic 234, 3) := by decide +kernel
theorem d_LAW_301 : decode m_LAW.2.1 301 = .ok (.ifCond .eq 7, 3) := by decide +kernel
theorem d_LAW_304 : decode m_LAW.2.1 304 = .ok (.iconst 1, 1) := by decide +kernel
theorem d_LAW_305 : decode m_LAW.2.1 305 = .ok (.goto 4, 3) := by decide +kernel
theorem d_LAW_308 : decode m_LAW.2.1 308 = .ok (.iconst 0, 1) := by decide +kernel
theorem d_LAW_309 : decode m_LAW.2.1 309 = .ok (.istore_n 3, 1) := by decide +kernel
theorem d_LAW_310 : decode m_LAW.2.1 310 = .ok (.iinc 4 1, 3) := by decide +kernel
theorem d_LAW_313 : decode m_LAW.2.1 313 = .ok (.goto (-274), 3) := by decide +kernel
theorem d_LAW_316 : decode m_LAW.2.1 316 = .ok (.iload_n 3, 1) := by decide +kernel
theorem d_LAW_317 : decode m_LAW.2.1 317 = .ok (.ifCond .eq 22, 3) := by decide +kernel
theorem d_LAW_320 : decode m_LAW.2.1 320 = .ok (.aload_n 1, 1) := by decide +kernel
theorem d_LAW_321 : decode m_LAW.2.1 321 = .ok (.aload_n 2, 1) := by decide +kernel
theorem d_LAW_322 : decode m_LAW.2.1 322 = .ok (.invokestatic 204, 3) := by decide +kernel
theorem d_LAW_325 : decode m_LAW.2.1 325 = .ok (.ifCond .eq 14, 3) := by decide +kernel
theorem d_LAW_328 : decode m_LAW.2.1 328 = .ok (.aload_n 1, 1) := by decide +kernel
theorem d_LAW_329 : decode m_LAW.2.1 329 = .ok (.invokestatic 219, 3) := by decide +kernel
theorem d_LAW_332 : decode m_LAW.2.1 332 = .ok (.ifCond .eq 7, 3) := by decide +kernel
theorem d_LAW_335 : decode m_LAW.2.1 335 = .ok (.iconst 1, 1) := by decide +kernel
theorem d_LAW_336 : decode m_LAW.2.1 336 = .ok (.goto 4, 3) := by decide +kernel
theorem d_LAW_339 : decode m_LAW.2.1 339 = .ok (.iconst 0, 1) := by decide +kernel
theorem d_LAW_340 : decode m_LAW.2.1 340 = .ok (.ireturn, 1) := by decide +kernel
