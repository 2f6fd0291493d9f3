theorem dc_M_one_135 : decode cd_M_one 135 = .ok (.aload_n 0, 1) := by decide +kernel
theorem dc_M_one_136 : decode cd_M_one 136 = .ok (.getfield 21, 3) := by decide +kernel
theorem dc_M_one_139 : decode cd_M_one 139 = .ok (.iload 5, 2) := by decide +kernel
theorem dc_M_one_141 : decode cd_M_one 141 = .ok (.baload, 1) := by decide +kernel
theorem dc_M_one_142 : decode cd_M_one 142 = .ok (.invokestatic 98, 3) := by decide +kernel
theorem dc_M_one_145 : decode cd_M_one 145 = .ok (.i2b, 1) := by decide +kernel
theorem dc_M_one_146 : decode cd_M_one 146 = .ok (.bastore, 1) := by decide +kernel
theorem dc_M_one_147 : decode cd_M_one 147 = .ok (.iinc 5 1, 3) := by decide +kernel
theorem dc_M_one_150 : decode cd_M_one 150 = .ok (.goto (-27), 3) := by decide +kernel
theorem dc_M_one_153 : decode cd_M_one 153 = .ok (.aload_n 0, 1) := by decide +kernel
theorem dc_M_one_154 : decode cd_M_one 154 = .ok (.aload_n 0, 1) := by decide +kernel
theorem dc_M_one_155 : decode cd_M_one 155 = .ok (.getfield 21, 3) := by decide +kernel
theorem dc_M_one_158 : decode cd_M_one 158 = .ok (.iload_n 3, 1) := by decide +kernel
theorem dc_M_one_159 : decode cd_M_one 159 = .ok (.iload 4, 2) := by decide +kernel
theorem dc_M_one_161 : decode cd_M_one 161 = .ok (.invokevirtual 60, 3) := by decide +kernel
theorem dc_M_one_164 : decode cd_M_one 164 = .ok (.return_, 1) := by decide +kernel
theorem dc_M_one_165 : decode cd_M_one 165 = .ok (.iload_n 1, 1) := by decide +kernel
theorem dc_M_one_166 : decode cd_M_one 166 = .ok (.iconst 2, 1) := by decide +kernel
theorem dc_M_one_167 : decode cd_M_one 167 = .ok (.if_icmp .ne 17, 3) := by decide +kernel
theorem dc_M_one_170 : decode cd_M_one 170 = .ok (.aload_n 0, 1) := by decide +kernel
theorem dc_M_one_171 : decode cd_M_one 171 = .ok (.getfield 21, 3) := by decide +kernel
theorem dc_M_one_174 : decode cd_M_one 174 = .ok (.iload_n 3, 1) := by decide +kernel
theorem dc_M_one_175 : decode cd_M_one 175 = .ok (.invokestatic 104, 3) := by decide +kernel
theorem dc_M_one_178 : decode cd_M_one 178 = .ok (.invokestatic 98, 3) := by decide +kernel
theorem dc_M_one_181 : decode cd_M_one 181 = .ok (.goto 9, 3) := by decide +kernel
theorem dc_M_one_184 : decode cd_M_one 184 = .ok (.aload_n 0, 1) := by decide +kernel
theorem dc_M_one_185 : decode cd_M_one 185 = .ok (.getfield 21, 3) := by decide +kernel
theorem dc_M_one_188 : decode cd_M_one 188 = .ok (.iconst 0, 1) := by decide +kernel
theorem dc_M_one_189 : decode cd_M_one 189 = .ok (.baload, 1) := by decide +kernel
theorem dc_M_one_190 : decode cd_M_one 190 = .ok (.istore 5, 2) := by decide +kernel
theorem dc_M_one_192 : decode cd_M_one 192 = .ok (.iconst 1, 1) := by decide +kernel
theorem dc_M_one_193 : decode cd_M_one 193 = .ok (.istore 6, 2) := by decide +kernel
theorem dc_M_one_195 : decode cd_M_one 195 = .ok (.iload 6, 2) := by decide +kernel
theorem dc_M_one_197 : decode cd_M_one 197 = .ok (.iload_n 3, 1) := by decide +kernel
theorem dc_M_one_198 : decode cd_M_one 198 = .ok (.if_icmp .ge 50, 3) := by decide +kernel
theorem dc_M_one_201 : decode cd_M_one 201 = .ok (.iload_n 1, 1) := by decide +kernel
theorem dc_M_one_202 : decode cd_M_one 202 = .ok (.iconst 2, 1) := by decide +kernel
theorem dc_M_one_203 : decode cd_M_one 203 = .ok (.if_icmp .le 45, 3) := by decide +kernel
theorem dc_M_one_206 : decode cd_M_one 206 = .ok (.iload_n 1, 1) := by decide +kernel
theorem dc_M_one_207 : decode cd_M_one 207 = .ok (.iconst 5, 1) := by decide +kernel
theorem dc_M_one_208 : decode cd_M_one 208 = .ok (.if_icmp .ge 7, 3) := by decide +kernel
theorem dc_M_one_211 : decode cd_M_one 211 = .ok (.iconst 5, 1) := by decide +kernel
theorem dc_M_one_212 : decode cd_M_one 212 = .ok (.goto 16, 3) := by decide +kernel
theorem dc_M_one_215 : decode cd_M_one 215 = .ok (.iload_n 1, 1) := by decide +kernel
theorem dc_M_one_216 : decode cd_M_one 216 = .ok (.bipush 7, 2) := by decide +kernel
theorem dc_M_one_218 : decode cd_M_one 218 = .ok (.if_icmp .ge 8, 3) := by decide +kernel
theorem dc_M_one_221 : decode cd_M_one 221 = .ok (.bipush 6, 2) := by decide +kernel
theorem dc_M_one_223 : decode cd_M_one 223 = .ok (.goto 5, 3) := by decide +kernel
theorem dc_M_one_226 : decode cd_M_one 226 = .ok (.bipush 7, 2) := by decide +kernel
theorem dc_M_one_228 : decode cd_M_one 228 = .ok (.iload 5, 2) := by decide +kernel
theorem dc_M_one_230 : decode cd_M_one 230 = .ok (.aload_n 0, 1) := by decide +kernel
theorem dc_M_one_231 : decode cd_M_one 231 = .ok (.getfield 21, 3) := by decide +kernel
theorem dc_M_one_234 : decode cd_M_one 234 = .ok (.iload 6, 2) := by decide +kernel
theorem dc_M_one_236 : decode cd_M_one 236 = .ok (.baload, 1) := by decide +kernel
theorem dc_M_one_237 : decode cd_M_one 237 = .ok (.invokestatic 108, 3) := by decide +kernel
theorem dc_M_one_240 : decode cd_M_one 240 = .ok (.istore 5, 2) := by decide +kernel
theorem dc_M_one_242 : decode cd_M_one 242 = .ok (.iinc 6 1, 3) := by decide +kernel
theorem dc_M_one_245 : decode cd_M_one 245 = .ok (.goto (-50), 3) := by decide +kernel
theorem dc_M_one_248 : decode cd_M_one 248 = .ok (.iload 5, 2) := by decide +kernel
theorem dc_M_one_250 : decode cd_M_one 250 = .ok (.iconst 2, 1) := by decide +kernel
theorem dc_M_one_251 : decode cd_M_one 251 = .ok (.if_icmp .ne 6, 3) := by decide +kernel
theorem dc_M_one_254 : decode cd_M_one 254 = .ok (.iconst 3, 1) := by decide +kernel
theorem dc_M_one_255 : decode cd_M_one 255 = .ok (.istore 5, 2) := by decide +kernel
theorem dc_M_one_257 : decode cd_M_one 257 = .ok (.iload_n 1, 1) := by decide +kernel
theorem dc_M_one_258 : decode cd_M_one 258 = .ok (.iconst 4, 1) := by decide +kernel
theorem dc_M_one_259 : decode cd_M_one 259 = .ok (.if_icmp .eq 15, 3) := by decide +kernel
theorem dc_M_one_262 : decode cd_M_one 262 = .ok (.iload_n 1, 1) := by decide +kernel
theorem dc_M_one_263 : decode cd_M_one 263 = .ok (.bipush 6, 2) := by decide +kernel
theorem dc_M_one_265 : decode cd_M_one 265 = .ok (.if_icmp .eq 9, 3) := by decide +kernel
theorem dc_M_one_268 : decode cd_M_one 268 = .ok (.iload_n 1, 1) := by decide +kernel
theorem dc_M_one_269 : decode cd_M_one 269 = .ok (.bipush 8, 2) := by decide +kernel
theorem dc_M_one_271 : decode cd_M_one 271 = .ok (.if_icmp .ne 10, 3) := by decide +kernel
theorem dc_M_one_274 : decode cd_M_one 274 = .ok (.iload 5, 2) := by decide +kernel
theorem dc_M_one_276 : decode cd_M_one 276 = .ok (.invokestatic 98, 3) := by decide +kernel
theorem dc_M_one_279 : decode cd_M_one 279 = .ok (.istore 5, 2) := by decide +kernel
theorem dc_M_one_281 : decode cd_M_one 281 = .ok (.aload_n 0, 1) := by decide +kernel
theorem dc_M_one_282 : decode cd_M_one 282 = .ok (.getfield 27, 3) := by decide +kernel
theorem dc_M_one_285 : decode cd_M_one 285 = .ok (.iconst 0, 1) := by decide +kernel
theorem dc_M_one_286 : decode cd_M_one 286 = .ok (.iload 5, 2) := by decide +kernel
theorem dc_M_one_288 : decode cd_M_one 288 = .ok (.i2b, 1) := by decide +kernel
theorem dc_M_one_289 : decode cd_M_one 289 = .ok (.bastore, 1) := by decide +kernel
theorem dc_M_one_290 : decode cd_M_one 290 = .ok (.aload_n 0, 1) := by decide +kernel
theorem dc_M_one_291 : decode cd_M_one 291 = .ok (.aload_n 0, 1) := by decide +kernel
theorem dc_M_one_292 : decode cd_M_one 292 = .ok (.getfield 27, 3) := by decide +kernel
theorem dc_M_one_295 : decode cd_M_one 295 = .ok (.iconst 1, 1) := by decide +kernel
theorem dc_M_one_296 : decode cd_M_one 296 = .ok (.iconst 0, 1) := by decide +kernel
theorem dc_M_one_297 : decode cd_M_one 297 = .ok (.invokevirtual 60, 3) := by decide +kernel
theorem dc_M_one_300 : decode cd_M_one 300 = .ok (.return_, 1) := by decide +kernel
theorem dc_M_choose_0 : decode cd_M_choose 0 = .ok (.aload_n 0, 1) := by decide +kernel
theorem dc_M_choose_1 : decode cd_M_choose 1 = .ok (.iconst 0, 1) := by decide +kernel
theorem dc_M_choose_2 : decode cd_M_choose 2 = .ok (.iconst 3, 1) := by decide +kernel
theorem dc_M_choose_3 : decode cd_M_choose 3 = .ok (.iconst 1, 1) := by decide +kernel
theorem dc_M_choose_4 : decode cd_M_choose 4 = .ok (.invokevirtual 54, 3) := by decide +kernel
theorem dc_M_choose_7 : decode cd_M_choose 7 = .ok (.ifCond .eq 9, 3) := by decide +kernel
theorem dc_M_choose_10 : decode cd_M_choose 10 = .ok (.aload_n 0, 1) := by decide +kernel
theorem dc_M_choose_11 : decode cd_M_choose 11 = .ok (.iconst 1, 1) := by decide +kernel
theorem dc_M_choose_12 : decode cd_M_choose 12 = .ok (.putfield 39, 3) := by decide +kernel
theorem dc_M_choose_15 : decode cd_M_choose 15 = .ok (.return_, 1) := by decide +kernel
theorem dc_M_choose_16 : decode cd_M_choose 16 = .ok (.aload_n 0, 1) := by decide +kernel
theorem dc_M_choose_17 : decode cd_M_choose 17 = .ok (.invokevirtual 116, 3) := by decide +kernel
theorem dc_M_choose_20 : decode cd_M_choose 20 = .ok (.istore_n 1, 1) := by decide +kernel
theorem dc_M_choose_21 : decode cd_M_choose 21 = .ok (.aload_n 0, 1) := by decide +kernel
theorem dc_M_choose_22 : decode cd_M_choose 22 = .ok (.getfield 43, 3) := by decide +kernel
theorem dc_M_choose_25 : decode cd_M_choose 25 = .ok (.iconst 3, 1) := by decide +kernel
theorem dc_M_choose_26 : decode cd_M_choose 26 = .ok (.isub, 1) := by decide +kernel
theorem dc_M_choose_27 : decode cd_M_choose 27 = .ok (.istore_n 2, 1) := by decide +kernel
theorem dc_M_choose_28 : decode cd_M_choose 28 = .ok (.aload_n 0, 1) := by decide +kernel
theorem dc_M_choose_29 : decode cd_M_choose 29 = .ok (.getfield 17, 3) := by decide +kernel
theorem dc_M_choose_32 : decode cd_M_choose 32 = .ok (.aload_n 0, 1) := by decide +kernel
theorem dc_M_choose_33 : decode cd_M_choose 33 = .ok (.getfield 43, 3) := by decide +kernel
theorem dc_M_choose_36 : decode cd_M_choose 36 = .ok (.iconst 1, 1) := by decide +kernel
theorem dc_M_choose_37 : decode cd_M_choose 37 = .ok (.isub, 1) := by decide +kernel
theorem dc_M_choose_38 : decode cd_M_choose 38 = .ok (.baload, 1) := by decide +kernel
theorem dc_M_choose_39 : decode cd_M_choose 39 = .ok (.ifCond .eq 21, 3) := by decide +kernel
theorem dc_M_choose_42 : decode cd_M_choose 42 = .ok (.aload_n 0, 1) := by decide +kernel
theorem dc_M_choose_43 : decode cd_M_choose 43 = .ok (.getfield 17, 3) := by decide +kernel
theorem dc_M_choose_46 : decode cd_M_choose 46 = .ok (.aload_n 0, 1) := by decide +kernel
theorem dc_M_choose_47 : decode cd_M_choose 47 = .ok (.getfield 43, 3) := by decide +kernel
theorem dc_M_choose_50 : decode cd_M_choose 50 = .ok (.iconst 2, 1) := by decide +kernel
theorem dc_M_choose_51 : decode cd_M_choose 51 = .ok (.isub, 1) := by decide +kernel
theorem dc_M_choose_52 : decode cd_M_choose 52 = .ok (.baload, 1) := by decide +kernel
theorem dc_M_choose_53 : decode cd_M_choose 53 = .ok (.ifCond .eq 7, 3) := by decide +kernel
theorem dc_M_choose_56 : decode cd_M_choose 56 = .ok (.iconst 1, 1) := by decide +kernel
theorem dc_M_choose_57 : decode cd_M_choose 57 = .ok (.goto 4, 3) := by decide +kernel
theorem dc_M_choose_60 : decode cd_M_choose 60 = .ok (.iconst 0, 1) := by decide +kernel
theorem dc_M_choose_61 : decode cd_M_choose 61 = .ok (.istore_n 3, 1) := by decide +kernel
theorem dc_M_choose_62 : decode cd_M_choose 62 = .ok (.aload_n 0, 1) := by decide +kernel
theorem dc_M_choose_63 : decode cd_M_choose 63 = .ok (.iload_n 3, 1) := by decide +kernel
theorem dc_M_choose_64 : decode cd_M_choose 64 = .ok (.iload_n 1, 1) := by decide +kernel
theorem dc_M_choose_65 : decode cd_M_choose 65 = .ok (.invokevirtual 131, 3) := by decide +kernel
theorem dc_M_choose_68 : decode cd_M_choose 68 = .ok (.aload_n 0, 1) := by decide +kernel
theorem dc_M_choose_69 : decode cd_M_choose 69 = .ok (.iload_n 2, 1) := by decide +kernel
theorem dc_M_choose_70 : decode cd_M_choose 70 = .ok (.aload_n 0, 1) := by decide +kernel
theorem dc_M_choose_71 : decode cd_M_choose 71 = .ok (.getfield 27, 3) := by decide +kernel
theorem dc_M_choose_74 : decode cd_M_choose 74 = .ok (.aload_n 0, 1) := by decide +kernel
theorem dc_M_choose_75 : decode cd_M_choose 75 = .ok (.getfield 13, 3) := by decide +kernel
theorem dc_M_choose_78 : decode cd_M_choose 78 = .ok (.iload_n 2, 1) := by decide +kernel
theorem dc_M_choose_79 : decode cd_M_choose 79 = .ok (.iaload, 1) := by decide +kernel
theorem dc_M_choose_80 : decode cd_M_choose 80 = .ok (.iconst 0, 1) := by decide +kernel
theorem dc_M_choose_81 : decode cd_M_choose 81 = .ok (.invokevirtual 50, 3) := by decide +kernel
theorem dc_M_choose_84 : decode cd_M_choose 84 = .ok (.aload_n 0, 1) := by decide +kernel
theorem dc_M_choose_85 : decode cd_M_choose 85 = .ok (.getfield 27, 3) := by decide +kernel
theorem dc_M_choose_88 : decode cd_M_choose 88 = .ok (.aload_n 0, 1) := by decide +kernel
theorem dc_M_choose_89 : decode cd_M_choose 89 = .ok (.getfield 13, 3) := by decide +kernel
theorem dc_M_choose_92 : decode cd_M_choose 92 = .ok (.iload_n 2, 1) := by decide +kernel
theorem dc_M_choose_93 : decode cd_M_choose 93 = .ok (.iaload, 1) := by decide +kernel
theorem dc_M_choose_94 : decode cd_M_choose 94 = .ok (.invokestatic 104, 3) := by decide +kernel
theorem dc_M_choose_97 : decode cd_M_choose 97 = .ok (.istore 4, 2) := by decide +kernel
theorem dc_M_choose_99 : decode cd_M_choose 99 = .ok (.iconst 0, 1) := by decide +kernel
theorem dc_M_choose_100 : decode cd_M_choose 100 = .ok (.istore 5, 2) := by decide +kernel
theorem dc_M_choose_102 : decode cd_M_choose 102 = .ok (.iload 5, 2) := by decide +kernel
theorem dc_M_choose_104 : decode cd_M_choose 104 = .ok (.iload_n 1, 1) := by decide +kernel
theorem dc_M_choose_105 : decode cd_M_choose 105 = .ok (.if_icmp .ge 86, 3) := by decide +kernel
theorem dc_M_choose_108 : decode cd_M_choose 108 = .ok (.aload_n 0, 1) := by decide +kernel
theorem dc_M_choose_109 : decode cd_M_choose 109 = .ok (.getfield 27, 3) := by decide +kernel
theorem dc_M_choose_112 : decode cd_M_choose 112 = .ok (.iload 5, 2) := by decide +kernel
theorem dc_M_choose_114 : decode cd_M_choose 114 = .ok (.iload 4, 2) := by decide +kernel
theorem dc_M_choose_116 : decode cd_M_choose 116 = .ok (.iconst 1, 1) := by decide +kernel
theorem dc_M_choose_117 : decode cd_M_choose 117 = .ok (.if_icmp .ne 13, 3) := by decide +kernel
theorem dc_M_choose_120 : decode cd_M_choose 120 = .ok (.aload_n 0, 1) := by decide +kernel
theorem dc_M_choose_121 : decode cd_M_choose 121 = .ok (.getfield 21, 3) := by decide +kernel
theorem dc_M_choose_124 : decode cd_M_choose 124 = .ok (.iload 5, 2) := by decide +kernel
theorem dc_M_choose_126 : decode cd_M_choose 126 = .ok (.baload, 1) := by decide +kernel
theorem dc_M_choose_127 : decode cd_M_choose 127 = .ok (.goto 57, 3) := by decide +kernel
theorem dc_M_choose_130 : decode cd_M_choose 130 = .ok (.iload 4, 2) := by decide +kernel
theorem dc_M_choose_132 : decode cd_M_choose 132 = .ok (.ifCond .ne 13, 3) := by decide +kernel
theorem dc_M_choose_135 : decode cd_M_choose 135 = .ok (.aload_n 0, 1) := by decide +kernel
theorem dc_M_choose_136 : decode cd_M_choose 136 = .ok (.getfield 24, 3) := by decide +kernel
theorem dc_M_choose_139 : decode cd_M_choose 139 = .ok (.iload 5, 2) := by decide +kernel
theorem dc_M_choose_141 : decode cd_M_choose 141 = .ok (.baload, 1) := by decide +kernel
theorem dc_M_choose_142 : decode cd_M_choose 142 = .ok (.goto 42, 3) := by decide +kernel
theorem dc_M_choose_145 : decode cd_M_choose 145 = .ok (.aload_n 0, 1) := by decide +kernel
theorem dc_M_choose_146 : decode cd_M_choose 146 = .ok (.getfield 21, 3) := by decide +kernel
theorem dc_M_choose_149 : decode cd_M_choose 149 = .ok (.iload 5, 2) := by decide +kernel
theorem dc_M_choose_151 : decode cd_M_choose 151 = .ok (.baload, 1) := by decide +kernel
theorem dc_M_choose_152 : decode cd_M_choose 152 = .ok (.aload_n 0, 1) := by decide +kernel
theorem dc_M_choose_153 : decode cd_M_choose 153 = .ok (.getfield 24, 3) := by decide +kernel
theorem dc_M_choose_156 : decode cd_M_choose 156 = .ok (.iload 5, 2) := by decide +kernel
theorem dc_M_choose_158 : decode cd_M_choose 158 = .ok (.baload, 1) := by decide +kernel
theorem dc_M_choose_159 : decode cd_M_choose 159 = .ok (.if_icmp .ne 24, 3) := by decide +kernel
theorem dc_M_choose_162 : decode cd_M_choose 162 = .ok (.aload_n 0, 1) := by decide +kernel
theorem dc_M_choose_163 : decode cd_M_choose 163 = .ok (.getfield 21, 3) := by decide +kernel
theorem dc_M_choose_166 : decode cd_M_choose 166 = .ok (.iload 5, 2) := by decide +kernel
theorem dc_M_choose_168 : decode cd_M_choose 168 = .ok (.baload, 1) := by decide +kernel
theorem dc_M_choose_169 : decode cd_M_choose 169 = .ok (.iconst 2, 1) := by decide +kernel
theorem dc_M_choose_170 : decode cd_M_choose 170 = .ok (.if_icmp .ge 13, 3) := by decide +kernel
theorem dc_M_choose_173 : decode cd_M_choose 173 = .ok (.aload_n 0, 1) := by decide +kernel
theorem dc_M_choose_174 : decode cd_M_choose 174 = .ok (.getfield 21, 3) := by decide +kernel
theorem dc_M_choose_177 : decode cd_M_choose 177 = .ok (.iload 5, 2) := by decide +kernel
theorem dc_M_choose_179 : decode cd_M_choose 179 = .ok (.baload, 1) := by decide +kernel
theorem dc_M_choose_180 : decode cd_M_choose 180 = .ok (.goto 4, 3) := by decide +kernel
theorem dc_M_choose_183 : decode cd_M_choose 183 = .ok (.iconst 3, 1) := by decide +kernel
theorem dc_M_choose_184 : decode cd_M_choose 184 = .ok (.bastore, 1) := by decide +kernel
theorem dc_M_choose_185 : decode cd_M_choose 185 = .ok (.iinc 5 1, 3) := by decide +kernel
theorem dc_M_choose_188 : decode cd_M_choose 188 = .ok (.goto (-86), 3) := by decide +kernel
theorem dc_M_choose_191 : decode cd_M_choose 191 = .ok (.aload_n 0, 1) := by decide +kernel
theorem dc_M_choose_192 : decode cd_M_choose 192 = .ok (.dup, 1) := by decide +kernel
theorem dc_M_choose_193 : decode cd_M_choose 193 = .ok (.getfield 43, 3) := by decide +kernel
theorem dc_M_choose_196 : decode cd_M_choose 196 = .ok (.iconst 3, 1) := by decide +kernel
theorem dc_M_choose_197 : decode cd_M_choose 197 = .ok (.isub, 1) := by decide +kernel
theorem dc_M_choose_198 : decode cd_M_choose 198 = .ok (.putfield 43, 3) := by decide +kernel
theorem dc_M_choose_201 : decode cd_M_choose 201 = .ok (.aload_n 0, 1) := by decide +kernel
theorem dc_M_choose_202 : decode cd_M_choose 202 = .ok (.aload_n 0, 1) := by decide +kernel
theorem dc_M_choose_203 : decode cd_M_choose 203 = .ok (.getfield 27, 3) := by decide +kernel
theorem dc_M_choose_206 : decode cd_M_choose 206 = .ok (.iload_n 1, 1) := by decide +kernel
theorem dc_M_choose_207 : decode cd_M_choose 207 = .ok (.iload_n 3, 1) := by decide +kernel
theorem dc_M_choose_208 : decode cd_M_choose 208 = .ok (.invokevirtual 60, 3) := by decide +kernel
theorem dc_M_choose_211 : decode cd_M_choose 211 = .ok (.return_, 1) := by decide +kernel
theorem dc_M_join_0 : decode cd_M_join 0 = .ok (.aload_n 0, 1) := by decide +kernel
theorem dc_M_join_1 : decode cd_M_join 1 = .ok (.iconst 0, 1) := by decide +kernel
theorem dc_M_join_2 : decode cd_M_join 2 = .ok (.iconst 2, 1) := by decide +kernel
theorem dc_M_join_3 : decode cd_M_join 3 = .ok (.iconst 1, 1) := by decide +kernel
theorem dc_M_join_4 : decode cd_M_join 4 = .ok (.invokevirtual 54, 3) := by decide +kernel
theorem dc_M_join_7 : decode cd_M_join 7 = .ok (.ifCond .eq 4, 3) := by decide +kernel
theorem dc_M_join_10 : decode cd_M_join 10 = .ok (.return_, 1) := by decide +kernel
theorem dc_M_join_11 : decode cd_M_join 11 = .ok (.aload_n 0, 1) := by decide +kernel
theorem dc_M_join_12 : decode cd_M_join 12 = .ok (.getfield 43, 3) := by decide +kernel
theorem dc_M_join_15 : decode cd_M_join 15 = .ok (.iconst 2, 1) := by decide +kernel
theorem dc_M_join_16 : decode cd_M_join 16 = .ok (.isub, 1) := by decide +kernel
theorem dc_M_join_17 : decode cd_M_join 17 = .ok (.istore_n 1, 1) := by decide +kernel
theorem dc_M_join_18 : decode cd_M_join 18 = .ok (.aload_n 0, 1) := by decide +kernel
theorem dc_M_join_19 : decode cd_M_join 19 = .ok (.getfield 43, 3) := by decide +kernel
theorem dc_M_join_22 : decode cd_M_join 22 = .ok (.iconst 1, 1) := by decide +kernel
theorem dc_M_join_23 : decode cd_M_join 23 = .ok (.isub, 1) := by decide +kernel
theorem dc_M_join_24 : decode cd_M_join 24 = .ok (.istore_n 2, 1) := by decide +kernel
theorem dc_M_join_25 : decode cd_M_join 25 = .ok (.aload_n 0, 1) := by decide +kernel
theorem dc_M_join_26 : decode cd_M_join 26 = .ok (.getfield 13, 3) := by decide +kernel
theorem dc_M_join_29 : decode cd_M_join 29 = .ok (.iload_n 1, 1) := by decide +kernel
theorem dc_M_join_30 : decode cd_M_join 30 = .ok (.iaload, 1) := by decide +kernel
theorem dc_M_join_31 : decode cd_M_join 31 = .ok (.aload_n 0, 1) := by decide +kernel
theorem dc_M_join_32 : decode cd_M_join 32 = .ok (.getfield 13, 3) := by decide +kernel
theorem dc_M_join_35 : decode cd_M_join 35 = .ok (.iload_n 2, 1) := by decide +kernel
theorem dc_M_join_36 : decode cd_M_join 36 = .ok (.iaload, 1) := by decide +kernel
theorem dc_M_join_37 : decode cd_M_join 37 = .ok (.iadd, 1) := by decide +kernel
theorem dc_M_join_38 : decode cd_M_join 38 = .ok (.istore_n 3, 1) := by decide +kernel
theorem dc_M_join_39 : decode cd_M_join 39 = .ok (.iload_n 3, 1) := by decide +kernel
theorem dc_M_join_40 : decode cd_M_join 40 = .ok (.bipush 64, 2) := by decide +kernel
theorem dc_M_join_42 : decode cd_M_join 42 = .ok (.if_icmp .le 9, 3) := by decide +kernel
theorem dc_M_join_45 : decode cd_M_join 45 = .ok (.aload_n 0, 1) := by decide +kernel
theorem dc_M_join_46 : decode cd_M_join 46 = .ok (.iconst 1, 1) := by decide +kernel
theorem dc_M_join_47 : decode cd_M_join 47 = .ok (.putfield 39, 3) := by decide +kernel
theorem dc_M_join_50 : decode cd_M_join 50 = .ok (.return_, 1) := by decide +kernel
theorem dc_M_join_51 : decode cd_M_join 51 = .ok (.iconst 0, 1) := by decide +kernel
theorem dc_M_join_52 : decode cd_M_join 52 = .ok (.istore 4, 2) := by decide +kernel
theorem dc_M_join_54 : decode cd_M_join 54 = .ok (.iload 4, 2) := by decide +kernel
theorem dc_M_join_56 : decode cd_M_join 56 = .ok (.iload_n 3, 1) := by decide +kernel
theorem dc_M_join_57 : decode cd_M_join 57 = .ok (.if_icmp .ge 61, 3) := by decide +kernel
theorem dc_M_join_60 : decode cd_M_join 60 = .ok (.aload_n 0, 1) := by decide +kernel
theorem dc_M_join_61 : decode cd_M_join 61 = .ok (.getfield 27, 3) := by decide +kernel
theorem dc_M_join_64 : decode cd_M_join 64 = .ok (.iload 4, 2) := by decide +kernel
theorem dc_M_join_66 : decode cd_M_join 66 = .ok (.iload 4, 2) := by decide +kernel
theorem dc_M_join_68 : decode cd_M_join 68 = .ok (.aload_n 0, 1) := by decide +kernel
theorem dc_M_join_69 : decode cd_M_join 69 = .ok (.getfield 13, 3) := by decide +kernel
theorem dc_M_join_72 : decode cd_M_join 72 = .ok (.iload_n 2, 1) := by decide +kernel
theorem dc_M_join_73 : decode cd_M_join 73 = .ok (.iaload, 1) := by decide +kernel
theorem dc_M_join_74 : decode cd_M_join 74 = .ok (.if_icmp .ge 18, 3) := by decide +kernel
theorem dc_M_join_77 : decode cd_M_join 77 = .ok (.aload_n 0, 1) := by decide +kernel
theorem dc_M_join_78 : decode cd_M_join 78 = .ok (.getfield 7, 3) := by decide +kernel
theorem dc_M_join_81 : decode cd_M_join 81 = .ok (.bipush 64, 2) := by decide +kernel
theorem dc_M_join_83 : decode cd_M_join 83 = .ok (.iload_n 2, 1) := by decide +kernel
theorem dc_M_join_84 : decode cd_M_join 84 = .ok (.imul, 1) := by decide +kernel
theorem dc_M_join_85 : decode cd_M_join 85 = .ok (.iload 4, 2) := by decide +kernel
theorem dc_M_join_87 : decode cd_M_join 87 = .ok (.iadd, 1) := by decide +kernel
theorem dc_M_join_88 : decode cd_M_join 88 = .ok (.baload, 1) := by decide +kernel
theorem dc_M_join_89 : decode cd_M_join 89 = .ok (.goto 22, 3) := by decide +kernel
theorem dc_M_join_92 : decode cd_M_join 92 = .ok (.aload_n 0, 1) := by decide +kernel
theorem dc_M_join_93 : decode cd_M_join 93 = .ok (.getfield 7, 3) := by decide +kernel
theorem dc_M_join_96 : decode cd_M_join 96 = .ok (.bipush 64, 2) := by decide +kernel
theorem dc_M_join_98 : decode cd_M_join 98 = .ok (.iload_n 1, 1) := by decide +kernel
theorem dc_M_join_99 : decode cd_M_join 99 = .ok (.imul, 1) := by decide +kernel
theorem dc_M_join_100 : decode cd_M_join 100 = .ok (.iload 4, 2) := by decide +kernel
theorem dc_M_join_102 : decode cd_M_join 102 = .ok (.iadd, 1) := by decide +kernel
theorem dc_M_join_103 : decode cd_M_join 103 = .ok (.aload_n 0, 1) := by decide +kernel
theorem dc_M_join_104 : decode cd_M_join 104 = .ok (.getfield 13, 3) := by decide +kernel
theorem dc_M_join_107 : decode cd_M_join 107 = .ok (.iload_n 2, 1) := by decide +kernel
theorem dc_M_join_108 : decode cd_M_join 108 = .ok (.iaload, 1) := by decide +kernel
theorem dc_M_join_109 : decode cd_M_join 109 = .ok (.isub, 1) := by decide +kernel
theorem dc_M_join_110 : decode cd_M_join 110 = .ok (.baload, 1) := by decide +kernel
theorem dc_M_join_111 : decode cd_M_join 111 = .ok (.bastore, 1) := by decide +kernel
theorem dc_M_join_112 : decode cd_M_join 112 = .ok (.iinc 4 1, 3) := by decide +kernel
theorem dc_M_join_115 : decode cd_M_join 115 = .ok (.goto (-61), 3) := by decide +kernel
theorem dc_M_join_118 : decode cd_M_join 118 = .ok (.aload_n 0, 1) := by decide +kernel
theorem dc_M_join_119 : decode cd_M_join 119 = .ok (.dup, 1) := by decide +kernel
theorem dc_M_join_120 : decode cd_M_join 120 = .ok (.getfield 43, 3) := by decide +kernel
theorem dc_M_join_123 : decode cd_M_join 123 = .ok (.iconst 2, 1) := by decide +kernel
theorem dc_M_join_124 : decode cd_M_join 124 = .ok (.isub, 1) := by decide +kernel
theorem dc_M_join_125 : decode cd_M_join 125 = .ok (.putfield 43, 3) := by decide +kernel
theorem dc_M_join_128 : decode cd_M_join 128 = .ok (.aload_n 0, 1) := by decide +kernel
theorem dc_M_join_129 : decode cd_M_join 129 = .ok (.aload_n 0, 1) := by decide +kernel
theorem dc_M_join_130 : decode cd_M_join 130 = .ok (.getfield 27, 3) := by decide +kernel
theorem dc_M_join_133 : decode cd_M_join 133 = .ok (.iload_n 3, 1) := by decide +kernel
theorem dc_M_join_134 : decode cd_M_join 134 = .ok (.iconst 0, 1) := by decide +kernel
theorem dc_M_join_135 : decode cd_M_join 135 = .ok (.invokevirtual 60, 3) := by decide +kernel
theorem dc_M_join_138 : decode cd_M_join 138 = .ok (.return_, 1) := by decide +kernel
theorem dc_M_copies_0 : decode cd_M_copies 0 = .ok (.aload_n 0, 1) := by decide +kernel
theorem dc_M_copies_1 : decode cd_M_copies 1 = .ok (.iload_n 1, 1) := by decide +kernel
theorem dc_M_copies_2 : decode cd_M_copies 2 = .ok (.iconst 1, 1) := by decide +kernel
theorem dc_M_copies_3 : decode cd_M_copies 3 = .ok (.if_icmp .ge 7, 3) := by decide +kernel
theorem dc_M_copies_6 : decode cd_M_copies 6 = .ok (.iconst 1, 1) := by decide +kernel
theorem dc_M_copies_7 : decode cd_M_copies 7 = .ok (.goto 4, 3) := by decide +kernel
theorem dc_M_copies_10 : decode cd_M_copies 10 = .ok (.iconst 0, 1) := by decide +kernel
theorem dc_M_copies_11 : decode cd_M_copies 11 = .ok (.iconst 1, 1) := by decide +kernel
theorem dc_M_copies_12 : decode cd_M_copies 12 = .ok (.iconst 1, 1) := by decide +kernel
theorem dc_M_copies_13 : decode cd_M_copies 13 = .ok (.invokevirtual 54, 3) := by decide +kernel
theorem dc_M_copies_16 : decode cd_M_copies 16 = .ok (.ifCond .eq 4, 3) := by decide +kernel
theorem dc_M_copies_19 : decode cd_M_copies 19 = .ok (.return_, 1) := by decide +kernel
theorem dc_M_copies_20 : decode cd_M_copies 20 = .ok (.aload_n 0, 1) := by decide +kernel
theorem dc_M_copies_21 : decode cd_M_copies 21 = .ok (.getfield 43, 3) := by decide +kernel
theorem dc_M_copies_24 : decode cd_M_copies 24 = .ok (.iconst 1, 1) := by decide +kernel
theorem dc_M_copies_25 : decode cd_M_copies 25 = .ok (.isub, 1) := by decide +kernel
theorem dc_M_copies_26 : decode cd_M_copies 26 = .ok (.istore_n 2, 1) := by decide +kernel
theorem dc_M_copies_27 : decode cd_M_copies 27 = .ok (.aload_n 0, 1) := by decide +kernel
theorem dc_M_copies_28 : decode cd_M_copies 28 = .ok (.getfield 13, 3) := by decide +kernel
theorem dc_M_copies_31 : decode cd_M_copies 31 = .ok (.iload_n 2, 1) := by decide +kernel
theorem dc_M_copies_32 : decode cd_M_copies 32 = .ok (.iaload, 1) := by decide +kernel
theorem dc_M_copies_33 : decode cd_M_copies 33 = .ok (.istore_n 3, 1) := by decide +kernel
theorem dc_M_copies_34 : decode cd_M_copies 34 = .ok (.iload_n 1, 1) := by decide +kernel
theorem dc_M_copies_35 : decode cd_M_copies 35 = .ok (.i2l, 1) := by decide +kernel
theorem dc_M_copies_36 : decode cd_M_copies 36 = .ok (.iload_n 3, 1) := by decide +kernel
theorem dc_M_copies_37 : decode cd_M_copies 37 = .ok (.i2l, 1) := by decide +kernel
theorem dc_M_copies_38 : decode cd_M_copies 38 = .ok (.lmul, 1) := by decide +kernel
theorem dc_M_copies_39 : decode cd_M_copies 39 = .ok (.ldc2_w 135, 3) := by decide +kernel
theorem dc_M_copies_42 : decode cd_M_copies 42 = .ok (.lcmp, 1) := by decide +kernel
theorem dc_M_copies_43 : decode cd_M_copies 43 = .ok (.ifCond .le 9, 3) := by decide +kernel
theorem dc_M_copies_46 : decode cd_M_copies 46 = .ok (.aload_n 0, 1) := by decide +kernel
theorem dc_M_copies_47 : decode cd_M_copies 47 = .ok (.iconst 1, 1) := by decide +kernel
theorem dc_M_copies_48 : decode cd_M_copies 48 = .ok (.putfield 39, 3) := by decide +kernel
theorem dc_M_copies_51 : decode cd_M_copies 51 = .ok (.return_, 1) := by decide +kernel
theorem dc_M_copies_52 : decode cd_M_copies 52 = .ok (.iconst 0, 1) := by decide +kernel
theorem dc_M_copies_53 : decode cd_M_copies 53 = .ok (.istore 4, 2) := by decide +kernel
theorem dc_M_copies_55 : decode cd_M_copies 55 = .ok (.iload 4, 2) := by decide +kernel
theorem dc_M_copies_57 : decode cd_M_copies 57 = .ok (.iload_n 1, 1) := by decide +kernel
theorem dc_M_copies_58 : decode cd_M_copies 58 = .ok (.iload_n 3, 1) := by decide +kernel
theorem dc_M_copies_59 : decode cd_M_copies 59 = .ok (.imul, 1) := by decide +kernel
theorem dc_M_copies_60 : decode cd_M_copies 60 = .ok (.if_icmp .ge 30, 3) := by decide +kernel
theorem dc_M_copies_63 : decode cd_M_copies 63 = .ok (.aload_n 0, 1) := by decide +kernel
theorem dc_M_copies_64 : decode cd_M_copies 64 = .ok (.getfield 27, 3) := by decide +kernel
theorem dc_M_copies_67 : decode cd_M_copies 67 = .ok (.iload 4, 2) := by decide +kernel
theorem dc_M_copies_69 : decode cd_M_copies 69 = .ok (.aload_n 0, 1) := by decide +kernel
theorem dc_M_copies_70 : decode cd_M_copies 70 = .ok (.getfield 7, 3) := by decide +kernel
theorem dc_M_copies_73 : decode cd_M_copies 73 = .ok (.bipush 64, 2) := by decide +kernel
theorem dc_M_copies_75 : decode cd_M_copies 75 = .ok (.iload_n 2, 1) := by decide +kernel
theorem dc_M_copies_76 : decode cd_M_copies 76 = .ok (.imul, 1) := by decide +kernel
theorem dc_M_copies_77 : decode cd_M_copies 77 = .ok (.iload 4, 2) := by decide +kernel
theorem dc_M_copies_79 : decode cd_M_copies 79 = .ok (.iload_n 3, 1) := by decide +kernel
theorem dc_M_copies_80 : decode cd_M_copies 80 = .ok (.irem, 1) := by decide +kernel
theorem dc_M_copies_81 : decode cd_M_copies 81 = .ok (.iadd, 1) := by decide +kernel
theorem dc_M_copies_82 : decode cd_M_copies 82 = .ok (.baload, 1) := by decide +kernel
theorem dc_M_copies_83 : decode cd_M_copies 83 = .ok (.bastore, 1) := by decide +kernel
theorem dc_M_copies_84 : decode cd_M_copies 84 = .ok (.iinc 4 1, 3) := by decide +kernel
theorem dc_M_copies_87 : decode cd_M_copies 87 = .ok (.goto (-32), 3) := by decide +kernel
theorem dc_M_copies_90 : decode cd_M_copies 90 = .ok (.aload_n 0, 1) := by decide +kernel
theorem dc_M_copies_91 : decode cd_M_copies 91 = .ok (.dup, 1) := by decide +kernel
theorem dc_M_copies_92 : decode cd_M_copies 92 = .ok (.getfield 43, 3) := by decide +kernel
theorem dc_M_copies_95 : decode cd_M_copies 95 = .ok (.iconst 1, 1) := by decide +kernel
theorem dc_M_copies_96 : decode cd_M_copies 96 = .ok (.isub, 1) := by decide +kernel
theorem dc_M_copies_97 : decode cd_M_copies 97 = .ok (.putfield 43, 3) := by decide +kernel
theorem dc_M_copies_100 : decode cd_M_copies 100 = .ok (.aload_n 0, 1) := by decide +kernel
theorem dc_M_copies_101 : decode cd_M_copies 101 = .ok (.aload_n 0, 1) := by decide +kernel
theorem dc_M_copies_102 : decode cd_M_copies 102 = .ok (.getfield 27, 3) := by decide +kernel
theorem dc_M_copies_105 : decode cd_M_copies 105 = .ok (.iload_n 1, 1) := by decide +kernel
theorem dc_M_copies_106 : decode cd_M_copies 106 = .ok (.iload_n 3, 1) := by decide +kernel
theorem dc_M_copies_107 : decode cd_M_copies 107 = .ok (.imul, 1) := by decide +kernel
theorem dc_M_copies_108 : decode cd_M_copies 108 = .ok (.iconst 0, 1) := by decide +kernel
theorem dc_M_copies_109 : decode cd_M_copies 109 = .ok (.invokevirtual 60, 3) := by decide +kernel
theorem dc_M_copies_112 : decode cd_M_copies 112 = .ok (.return_, 1) := by decide +kernel
theorem dc_M_part_0 : decode cd_M_part 0 = .ok (.aload_n 0, 1) := by decide +kernel
theorem dc_M_part_1 : decode cd_M_part 1 = .ok (.iload_n 2, 1) := by decide +kernel
theorem dc_M_part_2 : decode cd_M_part 2 = .ok (.ifCond .lt 8, 3) := by decide +kernel
theorem dc_M_part_5 : decode cd_M_part 5 = .ok (.iload_n 1, 1) := by decide +kernel
theorem dc_M_part_6 : decode cd_M_part 6 = .ok (.iload_n 2, 1) := by decide +kernel
theorem dc_M_part_7 : decode cd_M_part 7 = .ok (.if_icmp .ge 7, 3) := by decide +kernel
theorem dc_M_part_10 : decode cd_M_part 10 = .ok (.iconst 1, 1) := by decide +kernel
theorem dc_M_part_11 : decode cd_M_part 11 = .ok (.goto 4, 3) := by decide +kernel
theorem dc_M_part_14 : decode cd_M_part 14 = .ok (.iconst 0, 1) := by decide +kernel
theorem dc_M_part_15 : decode cd_M_part 15 = .ok (.iconst 1, 1) := by decide +kernel
theorem dc_M_part_16 : decode cd_M_part 16 = .ok (.iconst 1, 1) := by decide +kernel
theorem dc_M_part_17 : decode cd_M_part 17 = .ok (.invokevirtual 54, 3) := by decide +kernel
theorem dc_M_part_20 : decode cd_M_part 20 = .ok (.ifCond .eq 4, 3) := by decide +kernel
theorem dc_M_part_23 : decode cd_M_part 23 = .ok (.return_, 1) := by decide +kernel
theorem dc_M_part_24 : decode cd_M_part 24 = .ok (.aload_n 0, 1) := by decide +kernel
theorem dc_M_part_25 : decode cd_M_part 25 = .ok (.getfield 43, 3) := by decide +kernel
theorem dc_M_part_28 : decode cd_M_part 28 = .ok (.iconst 1, 1) := by decide +kernel
theorem dc_M_part_29 : decode cd_M_part 29 = .ok (.isub, 1) := by decide +kernel
theorem dc_M_part_30 : decode cd_M_part 30 = .ok (.istore_n 3, 1) := by decide +kernel
theorem dc_M_part_31 : decode cd_M_part 31 = .ok (.iload_n 1, 1) := by decide +kernel
theorem dc_M_part_32 : decode cd_M_part 32 = .ok (.aload_n 0, 1) := by decide +kernel
theorem dc_M_part_33 : decode cd_M_part 33 = .ok (.getfield 13, 3) := by decide +kernel
theorem dc_M_part_36 : decode cd_M_part 36 = .ok (.iload_n 3, 1) := by decide +kernel
theorem dc_M_part_37 : decode cd_M_part 37 = .ok (.iaload, 1) := by decide +kernel
theorem dc_M_part_38 : decode cd_M_part 38 = .ok (.if_icmp .lt 9, 3) := by decide +kernel
theorem dc_M_part_41 : decode cd_M_part 41 = .ok (.aload_n 0, 1) := by decide +kernel
theorem dc_M_part_42 : decode cd_M_part 42 = .ok (.iconst 1, 1) := by decide +kernel
theorem dc_M_part_43 : decode cd_M_part 43 = .ok (.putfield 39, 3) := by decide +kernel
theorem dc_M_part_46 : decode cd_M_part 46 = .ok (.return_, 1) := by decide +kernel
theorem dc_M_part_47 : decode cd_M_part 47 = .ok (.iload_n 2, 1) := by decide +kernel
theorem dc_M_part_48 : decode cd_M_part 48 = .ok (.istore 4, 2) := by decide +kernel
theorem dc_M_part_50 : decode cd_M_part 50 = .ok (.iload 4, 2) := by decide +kernel
theorem dc_M_part_52 : decode cd_M_part 52 = .ok (.iload_n 1, 1) := by decide +kernel
theorem dc_M_part_53 : decode cd_M_part 53 = .ok (.if_icmp .gt 30, 3) := by decide +kernel
theorem dc_M_part_56 : decode cd_M_part 56 = .ok (.aload_n 0, 1) := by decide +kernel
theorem dc_M_part_57 : decode cd_M_part 57 = .ok (.getfield 27, 3) := by decide +kernel
theorem dc_M_part_60 : decode cd_M_part 60 = .ok (.iload 4, 2) := by decide +kernel
theorem dc_M_part_62 : decode cd_M_part 62 = .ok (.iload_n 2, 1) := by decide +kernel
theorem dc_M_part_63 : decode cd_M_part 63 = .ok (.isub, 1) := by decide +kernel
theorem dc_M_part_64 : decode cd_M_part 64 = .ok (.aload_n 0, 1) := by decide +kernel
theorem dc_M_part_65 : decode cd_M_part 65 = .ok (.getfield 7, 3) := by decide +kernel
theorem dc_M_part_68 : decode cd_M_part 68 = .ok (.bipush 64, 2) := by decide +kernel
theorem dc_M_part_70 : decode cd_M_part 70 = .ok (.iload_n 3, 1) := by decide +kernel
theorem dc_M_part_71 : decode cd_M_part 71 = .ok (.imul, 1) := by decide +kernel
theorem dc_M_part_72 : decode cd_M_part 72 = .ok (.iload 4, 2) := by decide +kernel
theorem dc_M_part_74 : decode cd_M_part 74 = .ok (.iadd, 1) := by decide +kernel
theorem dc_M_part_75 : decode cd_M_part 75 = .ok (.baload, 1) := by decide +kernel
theorem dc_M_part_76 : decode cd_M_part 76 = .ok (.bastore, 1) := by decide +kernel
theorem dc_M_part_77 : decode cd_M_part 77 = .ok (.iinc 4 1, 3) := by decide +kernel
theorem dc_M_part_80 : decode cd_M_part 80 = .ok (.goto (-30), 3) := by decide +kernel
theorem dc_M_part_83 : decode cd_M_part 83 = .ok (.aload_n 0, 1) := by decide +kernel
theorem dc_M_part_84 : decode cd_M_part 84 = .ok (.dup, 1) := by decide +kernel
theorem dc_M_part_85 : decode cd_M_part 85 = .ok (.getfield 43, 3) := by decide +kernel
theorem dc_M_part_88 : decode cd_M_part 88 = .ok (.iconst 1, 1) := by decide +kernel
theorem dc_M_part_89 : decode cd_M_part 89 = .ok (.isub, 1) := by decide +kernel
theorem dc_M_part_90 : decode cd_M_part 90 = .ok (.putfield 43, 3) := by decide +kernel
theorem dc_M_part_93 : decode cd_M_part 93 = .ok (.aload_n 0, 1) := by decide +kernel
theorem dc_M_part_94 : decode cd_M_part 94 = .ok (.aload_n 0, 1) := by decide +kernel
theorem dc_M_part_95 : decode cd_M_part 95 = .ok (.getfield 27, 3) := by decide +kernel
theorem dc_M_part_98 : decode cd_M_part 98 = .ok (.iload_n 1, 1) := by decide +kernel
theorem dc_M_part_99 : decode cd_M_part 99 = .ok (.iload_n 2, 1) := by decide +kernel
theorem dc_M_part_100 : decode cd_M_part 100 = .ok (.isub, 1) := by decide +kernel
theorem dc_M_part_101 : decode cd_M_part 101 = .ok (.iconst 1, 1) := by decide +kernel
theorem dc_M_part_102 : decode cd_M_part 102 = .ok (.iadd, 1) := by decide +kernel
theorem dc_M_part_103 : decode cd_M_part 103 = .ok (.iconst 0, 1) := by decide +kernel
theorem dc_M_part_104 : decode cd_M_part 104 = .ok (.invokevirtual 60, 3) := by decide +kernel
theorem dc_M_part_107 : decode cd_M_part 107 = .ok (.return_, 1) := by decide +kernel
theorem dc_M_bit_0 : decode cd_M_bit 0 = .ok (.aload_n 0, 1) := by decide +kernel
theorem dc_M_bit_1 : decode cd_M_bit 1 = .ok (.iconst 0, 1) := by decide +kernel
theorem dc_M_bit_2 : decode cd_M_bit 2 = .ok (.iconst 2, 1) := by decide +kernel
theorem dc_M_bit_3 : decode cd_M_bit 3 = .ok (.iconst 1, 1) := by decide +kernel
theorem dc_M_bit_4 : decode cd_M_bit 4 = .ok (.invokevirtual 54, 3) := by decide +kernel
theorem dc_M_bit_7 : decode cd_M_bit 7 = .ok (.ifCond .eq 9, 3) := by decide +kernel
theorem dc_M_bit_10 : decode cd_M_bit 10 = .ok (.aload_n 0, 1) := by decide +kernel
theorem dc_M_bit_11 : decode cd_M_bit 11 = .ok (.iconst 1, 1) := by decide +kernel
theorem dc_M_bit_12 : decode cd_M_bit 12 = .ok (.putfield 39, 3) := by decide +kernel
theorem dc_M_bit_15 : decode cd_M_bit 15 = .ok (.return_, 1) := by decide +kernel
theorem dc_M_bit_16 : decode cd_M_bit 16 = .ok (.aload_n 0, 1) := by decide +kernel
theorem dc_M_bit_17 : decode cd_M_bit 17 = .ok (.getfield 43, 3) := by decide +kernel
theorem dc_M_bit_20 : decode cd_M_bit 20 = .ok (.iconst 1, 1) := by decide +kernel
theorem dc_M_bit_21 : decode cd_M_bit 21 = .ok (.isub, 1) := by decide +kernel
theorem dc_M_bit_22 : decode cd_M_bit 22 = .ok (.istore_n 1, 1) := by decide +kernel
theorem dc_M_bit_23 : decode cd_M_bit 23 = .ok (.aload_n 0, 1) := by decide +kernel
theorem dc_M_bit_24 : decode cd_M_bit 24 = .ok (.getfield 43, 3) := by decide +kernel
theorem dc_M_bit_27 : decode cd_M_bit 27 = .ok (.iconst 2, 1) := by decide +kernel
theorem dc_M_bit_28 : decode cd_M_bit 28 = .ok (.isub, 1) := by decide +kernel
theorem dc_M_bit_29 : decode cd_M_bit 29 = .ok (.istore_n 2, 1) := by decide +kernel
theorem dc_M_bit_30 : decode cd_M_bit 30 = .ok (.aload_n 0, 1) := by decide +kernel
theorem dc_M_bit_31 : decode cd_M_bit 31 = .ok (.getfield 13, 3) := by decide +kernel
theorem dc_M_bit_34 : decode cd_M_bit 34 = .ok (.iload_n 1, 1) := by decide +kernel
theorem dc_M_bit_35 : decode cd_M_bit 35 = .ok (.iaload, 1) := by decide +kernel
theorem dc_M_bit_36 : decode cd_M_bit 36 = .ok (.istore_n 3, 1) := by decide +kernel
theorem dc_M_bit_37 : decode cd_M_bit 37 = .ok (.aload_n 0, 1) := by decide +kernel
theorem dc_M_bit_38 : decode cd_M_bit 38 = .ok (.iload_n 1, 1) := by decide +kernel
theorem dc_M_bit_39 : decode cd_M_bit 39 = .ok (.aload_n 0, 1) := by decide +kernel
theorem dc_M_bit_40 : decode cd_M_bit 40 = .ok (.getfield 24, 3) := by decide +kernel
theorem dc_M_bit_43 : decode cd_M_bit 43 = .ok (.iload_n 3, 1) := by decide +kernel
theorem dc_M_bit_44 : decode cd_M_bit 44 = .ok (.iconst 0, 1) := by decide +kernel
theorem dc_M_bit_45 : decode cd_M_bit 45 = .ok (.invokevirtual 50, 3) := by decide +kernel
theorem dc_M_bit_48 : decode cd_M_bit 48 = .ok (.aload_n 0, 1) := by decide +kernel
theorem dc_M_bit_49 : decode cd_M_bit 49 = .ok (.getfield 24, 3) := by decide +kernel
theorem dc_M_bit_52 : decode cd_M_bit 52 = .ok (.iload_n 3, 1) := by decide +kernel
theorem dc_M_bit_53 : decode cd_M_bit 53 = .ok (.invokestatic 46, 3) := by decide +kernel
theorem dc_M_bit_56 : decode cd_M_bit 56 = .ok (.ifCond .ne 24, 3) := by decide +kernel
theorem dc_M_bit_59 : decode cd_M_bit 59 = .ok (.aload_n 0, 1) := by decide +kernel
theorem dc_M_bit_60 : decode cd_M_bit 60 = .ok (.getfield 17, 3) := by decide +kernel
theorem dc_M_bit_63 : decode cd_M_bit 63 = .ok (.iload_n 1, 1) := by decide +kernel
theorem dc_M_bit_64 : decode cd_M_bit 64 = .ok (.baload, 1) := by decide +kernel
theorem dc_M_bit_65 : decode cd_M_bit 65 = .ok (.ifCond .eq 20, 3) := by decide +kernel
theorem dc_M_bit_68 : decode cd_M_bit 68 = .ok (.aload_n 0, 1) := by decide +kernel
theorem dc_M_bit_69 : decode cd_M_bit 69 = .ok (.getfield 24, 3) := by decide +kernel
theorem dc_M_bit_72 : decode cd_M_bit 72 = .ok (.iload_n 3, 1) := by decide +kernel
theorem dc_M_bit_73 : decode cd_M_bit 73 = .ok (.iconst 1, 1) := by decide +kernel
theorem dc_M_bit_74 : decode cd_M_bit 74 = .ok (.isub, 1) := by decide +kernel
theorem dc_M_bit_75 : decode cd_M_bit 75 = .ok (.baload, 1) := by decide +kernel
theorem dc_M_bit_76 : decode cd_M_bit 76 = .ok (.iconst 1, 1) := by decide +kernel
theorem dc_M_bit_77 : decode cd_M_bit 77 = .ok (.if_icmp .ne 8, 3) := by decide +kernel
theorem dc_M_bit_80 : decode cd_M_bit 80 = .ok (.bipush 64, 2) := by decide +kernel
theorem dc_M_bit_82 : decode cd_M_bit 82 = .ok (.goto 10, 3) := by decide +kernel
theorem dc_M_bit_85 : decode cd_M_bit 85 = .ok (.aload_n 0, 1) := by decide +kernel
theorem dc_M_bit_86 : decode cd_M_bit 86 = .ok (.iload_n 1, 1) := by decide +kernel
theorem dc_M_bit_87 : decode cd_M_bit 87 = .ok (.bipush 64, 2) := by decide +kernel
theorem dc_M_bit_89 : decode cd_M_bit 89 = .ok (.invokevirtual 127, 3) := by decide +kernel
theorem dc_M_bit_92 : decode cd_M_bit 92 = .ok (.istore 4, 2) := by decide +kernel
theorem dc_M_bit_94 : decode cd_M_bit 94 = .ok (.aload_n 0, 1) := by decide +kernel
theorem dc_M_bit_95 : decode cd_M_bit 95 = .ok (.getfield 27, 3) := by decide +kernel
theorem dc_M_bit_98 : decode cd_M_bit 98 = .ok (.iconst 0, 1) := by decide +kernel
theorem dc_M_bit_99 : decode cd_M_bit 99 = .ok (.iload 4, 2) := by decide +kernel
theorem dc_M_bit_101 : decode cd_M_bit 101 = .ok (.aload_n 0, 1) := by decide +kernel
theorem dc_M_bit_102 : decode cd_M_bit 102 = .ok (.getfield 13, 3) := by decide +kernel
theorem dc_M_bit_105 : decode cd_M_bit 105 = .ok (.iload_n 2, 1) := by decide +kernel
theorem dc_M_bit_106 : decode cd_M_bit 106 = .ok (.iaload, 1) := by decide +kernel
theorem dc_M_bit_107 : decode cd_M_bit 107 = .ok (.if_icmp .ge 18, 3) := by decide +kernel
theorem dc_M_bit_110 : decode cd_M_bit 110 = .ok (.aload_n 0, 1) := by decide +kernel
theorem dc_M_bit_111 : decode cd_M_bit 111 = .ok (.getfield 7, 3) := by decide +kernel
theorem dc_M_bit_114 : decode cd_M_bit 114 = .ok (.bipush 64, 2) := by decide +kernel
theorem dc_M_bit_116 : decode cd_M_bit 116 = .ok (.iload_n 2, 1) := by decide +kernel
theorem dc_M_bit_117 : decode cd_M_bit 117 = .ok (.imul, 1) := by decide +kernel
theorem dc_M_bit_118 : decode cd_M_bit 118 = .ok (.iload 4, 2) := by decide +kernel
theorem dc_M_bit_120 : decode cd_M_bit 120 = .ok (.iadd, 1) := by decide +kernel
theorem dc_M_bit_121 : decode cd_M_bit 121 = .ok (.baload, 1) := by decide +kernel
theorem dc_M_bit_122 : decode cd_M_bit 122 = .ok (.goto 4, 3) := by decide +kernel
theorem dc_M_bit_125 : decode cd_M_bit 125 = .ok (.iconst 3, 1) := by decide +kernel
theorem dc_M_bit_126 : decode cd_M_bit 126 = .ok (.bastore, 1) := by decide +kernel
theorem dc_M_bit_127 : decode cd_M_bit 127 = .ok (.aload_n 0, 1) := by decide +kernel
theorem dc_M_bit_128 : decode cd_M_bit 128 = .ok (.dup, 1) := by decide +kernel
theorem dc_M_bit_129 : decode cd_M_bit 129 = .ok (.getfield 43, 3) := by decide +kernel
theorem dc_M_bit_132 : decode cd_M_bit 132 = .ok (.iconst 2, 1) := by decide +kernel
theorem dc_M_bit_133 : decode cd_M_bit 133 = .ok (.isub, 1) := by decide +kernel
theorem dc_M_bit_134 : decode cd_M_bit 134 = .ok (.putfield 43, 3) := by decide +kernel
theorem dc_M_bit_137 : decode cd_M_bit 137 = .ok (.aload_n 0, 1) := by decide +kernel
theorem dc_M_bit_138 : decode cd_M_bit 138 = .ok (.aload_n 0, 1) := by decide +kernel
theorem dc_M_bit_139 : decode cd_M_bit 139 = .ok (.getfield 27, 3) := by decide +kernel
theorem dc_M_bit_142 : decode cd_M_bit 142 = .ok (.iconst 1, 1) := by decide +kernel
theorem dc_M_bit_143 : decode cd_M_bit 143 = .ok (.iconst 0, 1) := by decide +kernel
theorem dc_M_bit_144 : decode cd_M_bit 144 = .ok (.invokevirtual 60, 3) := by decide +kernel
theorem dc_M_bit_147 : decode cd_M_bit 147 = .ok (.return_, 1) := by decide +kernel
theorem dc_M_as_0 : decode cd_M_as 0 = .ok (.aload_n 0, 1) := by decide +kernel
theorem dc_M_as_1 : decode cd_M_as 1 = .ok (.iload_n 1, 1) := by decide +kernel
theorem dc_M_as_2 : decode cd_M_as 2 = .ok (.iconst 1, 1) := by decide +kernel
theorem dc_M_as_3 : decode cd_M_as 3 = .ok (.if_icmp .lt 9, 3) := by decide +kernel
theorem dc_M_as_6 : decode cd_M_as 6 = .ok (.iload_n 1, 1) := by decide +kernel
theorem dc_M_as_7 : decode cd_M_as 7 = .ok (.bipush 64, 2) := by decide +kernel
theorem dc_M_as_9 : decode cd_M_as 9 = .ok (.if_icmp .le 7, 3) := by decide +kernel
theorem dc_M_as_12 : decode cd_M_as 12 = .ok (.iconst 1, 1) := by decide +kernel
theorem dc_M_as_13 : decode cd_M_as 13 = .ok (.goto 4, 3) := by decide +kernel
theorem dc_M_as_16 : decode cd_M_as 16 = .ok (.iconst 0, 1) := by decide +kernel
theorem dc_M_as_17 : decode cd_M_as 17 = .ok (.iconst 1, 1) := by decide +kernel
theorem dc_M_as_18 : decode cd_M_as 18 = .ok (.iconst 1, 1) := by decide +kernel
theorem dc_M_as_19 : decode cd_M_as 19 = .ok (.invokevirtual 54, 3) := by decide +kernel
theorem dc_M_as_22 : decode cd_M_as 22 = .ok (.ifCond .eq 4, 3) := by decide +kernel
theorem dc_M_as_25 : decode cd_M_as 25 = .ok (.return_, 1) := by decide +kernel
theorem dc_M_as_26 : decode cd_M_as 26 = .ok (.aload_n 0, 1) := by decide +kernel
theorem dc_M_as_27 : decode cd_M_as 27 = .ok (.aload_n 0, 1) := by decide +kernel
theorem dc_M_as_28 : decode cd_M_as 28 = .ok (.getfield 43, 3) := by decide +kernel
theorem dc_M_as_31 : decode cd_M_as 31 = .ok (.iconst 1, 1) := by decide +kernel
theorem dc_M_as_32 : decode cd_M_as 32 = .ok (.isub, 1) := by decide +kernel
theorem dc_M_as_33 : decode cd_M_as 33 = .ok (.aload_n 0, 1) := by decide +kernel
theorem dc_M_as_34 : decode cd_M_as 34 = .ok (.getfield 21, 3) := by decide +kernel
theorem dc_M_as_37 : decode cd_M_as 37 = .ok (.iload_n 1, 1) := by decide +kernel
theorem dc_M_as_38 : decode cd_M_as 38 = .ok (.aload_n 0, 1) := by decide +kernel
theorem dc_M_as_39 : decode cd_M_as 39 = .ok (.getfield 17, 3) := by decide +kernel
theorem dc_M_as_42 : decode cd_M_as 42 = .ok (.aload_n 0, 1) := by decide +kernel
theorem dc_M_as_43 : decode cd_M_as 43 = .ok (.getfield 43, 3) := by decide +kernel
theorem dc_M_as_46 : decode cd_M_as 46 = .ok (.iconst 1, 1) := by decide +kernel
theorem dc_M_as_47 : decode cd_M_as 47 = .ok (.isub, 1) := by decide +kernel
theorem dc_M_as_48 : decode cd_M_as 48 = .ok (.baload, 1) := by decide +kernel
theorem dc_M_as_49 : decode cd_M_as 49 = .ok (.invokevirtual 50, 3) := by decide +kernel
theorem dc_M_as_52 : decode cd_M_as 52 = .ok (.aload_n 0, 1) := by decide +kernel
theorem dc_M_as_53 : decode cd_M_as 53 = .ok (.dup, 1) := by decide +kernel
theorem dc_M_as_54 : decode cd_M_as 54 = .ok (.getfield 43, 3) := by decide +kernel
theorem dc_M_as_57 : decode cd_M_as 57 = .ok (.iconst 1, 1) := by decide +kernel
theorem dc_M_as_58 : decode cd_M_as 58 = .ok (.isub, 1) := by decide +kernel
theorem dc_M_as_59 : decode cd_M_as 59 = .ok (.putfield 43, 3) := by decide +kernel
theorem dc_M_as_62 : decode cd_M_as 62 = .ok (.aload_n 0, 1) := by decide +kernel
theorem dc_M_as_63 : decode cd_M_as 63 = .ok (.aload_n 0, 1) := by decide +kernel
theorem dc_M_as_64 : decode cd_M_as 64 = .ok (.getfield 21, 3) := by decide +kernel
theorem dc_M_as_67 : decode cd_M_as 67 = .ok (.iload_n 1, 1) := by decide +kernel
theorem dc_M_as_68 : decode cd_M_as 68 = .ok (.iload_n 2, 1) := by decide +kernel
theorem dc_M_as_69 : decode cd_M_as 69 = .ok (.invokevirtual 60, 3) := by decide +kernel
theorem dc_M_as_72 : decode cd_M_as 72 = .ok (.return_, 1) := by decide +kernel
theorem dc_M_again_0 : decode cd_M_again 0 = .ok (.aload_n 0, 1) := by decide +kernel
theorem dc_M_again_1 : decode cd_M_again 1 = .ok (.iload_n 1, 1) := by decide +kernel
theorem dc_M_again_2 : decode cd_M_again 2 = .ok (.ifCond .ge 7, 3) := by decide +kernel
theorem dc_M_again_5 : decode cd_M_again 5 = .ok (.iconst 1, 1) := by decide +kernel
theorem dc_M_again_6 : decode cd_M_again 6 = .ok (.goto 4, 3) := by decide +kernel
theorem dc_M_again_9 : decode cd_M_again 9 = .ok (.iconst 0, 1) := by decide +kernel
theorem dc_M_again_10 : decode cd_M_again 10 = .ok (.iconst 0, 1) := by decide +kernel
theorem dc_M_again_11 : decode cd_M_again 11 = .ok (.iconst 1, 1) := by decide +kernel
theorem dc_M_again_12 : decode cd_M_again 12 = .ok (.invokevirtual 54, 3) := by decide +kernel
theorem dc_M_again_15 : decode cd_M_again 15 = .ok (.ifCond .eq 4, 3) := by decide +kernel
theorem dc_M_again_18 : decode cd_M_again 18 = .ok (.return_, 1) := by decide +kernel
theorem dc_M_again_19 : decode cd_M_again 19 = .ok (.iload_n 1, 1) := by decide +kernel
theorem dc_M_again_20 : decode cd_M_again 20 = .ok (.aload_n 0, 1) := by decide +kernel
theorem dc_M_again_21 : decode cd_M_again 21 = .ok (.getfield 43, 3) := by decide +kernel
theorem dc_M_again_24 : decode cd_M_again 24 = .ok (.if_icmp .lt 9, 3) := by decide +kernel
theorem dc_M_again_27 : decode cd_M_again 27 = .ok (.aload_n 0, 1) := by decide +kernel
theorem dc_M_again_28 : decode cd_M_again 28 = .ok (.iconst 2, 1) := by decide +kernel
theorem dc_M_again_29 : decode cd_M_again 29 = .ok (.putfield 39, 3) := by decide +kernel
theorem dc_M_again_32 : decode cd_M_again 32 = .ok (.return_, 1) := by decide +kernel
theorem dc_M_again_33 : decode cd_M_again 33 = .ok (.aload_n 0, 1) := by decide +kernel
theorem dc_M_again_34 : decode cd_M_again 34 = .ok (.getfield 43, 3) := by decide +kernel
theorem dc_M_again_37 : decode cd_M_again 37 = .ok (.iconst 1, 1) := by decide +kernel
theorem dc_M_again_38 : decode cd_M_again 38 = .ok (.isub, 1) := by decide +kernel
theorem dc_M_again_39 : decode cd_M_again 39 = .ok (.iload_n 1, 1) := by decide +kernel
theorem dc_M_again_40 : decode cd_M_again 40 = .ok (.isub, 1) := by decide +kernel
theorem dc_M_again_41 : decode cd_M_again 41 = .ok (.istore_n 2, 1) := by decide +kernel
theorem dc_M_again_42 : decode cd_M_again 42 = .ok (.aload_n 0, 1) := by decide +kernel
theorem dc_M_again_43 : decode cd_M_again 43 = .ok (.iload_n 2, 1) := by decide +kernel
theorem dc_M_again_44 : decode cd_M_again 44 = .ok (.aload_n 0, 1) := by decide +kernel
theorem dc_M_again_45 : decode cd_M_again 45 = .ok (.getfield 21, 3) := by decide +kernel
theorem dc_M_again_48 : decode cd_M_again 48 = .ok (.aload_n 0, 1) := by decide +kernel
theorem dc_M_again_49 : decode cd_M_again 49 = .ok (.getfield 13, 3) := by decide +kernel
theorem dc_M_again_52 : decode cd_M_again 52 = .ok (.iload_n 2, 1) := by decide +kernel
theorem dc_M_again_53 : decode cd_M_again 53 = .ok (.iaload, 1) := by decide +kernel
theorem dc_M_again_54 : decode cd_M_again 54 = .ok (.iconst 0, 1) := by decide +kernel
theorem dc_M_again_55 : decode cd_M_again 55 = .ok (.invokevirtual 50, 3) := by decide +kernel
theorem dc_M_again_58 : decode cd_M_again 58 = .ok (.aload_n 0, 1) := by decide +kernel
theorem dc_M_again_59 : decode cd_M_again 59 = .ok (.aload_n 0, 1) := by decide +kernel
theorem dc_M_again_60 : decode cd_M_again 60 = .ok (.getfield 21, 3) := by decide +kernel
theorem dc_M_again_63 : decode cd_M_again 63 = .ok (.aload_n 0, 1) := by decide +kernel
theorem dc_M_again_64 : decode cd_M_again 64 = .ok (.getfield 13, 3) := by decide +kernel
theorem dc_M_again_67 : decode cd_M_again 67 = .ok (.iload_n 2, 1) := by decide +kernel
theorem dc_M_again_68 : decode cd_M_again 68 = .ok (.iaload, 1) := by decide +kernel
theorem dc_M_again_69 : decode cd_M_again 69 = .ok (.aload_n 0, 1) := by decide +kernel
theorem dc_M_again_70 : decode cd_M_again 70 = .ok (.getfield 17, 3) := by decide +kernel
theorem dc_M_again_73 : decode cd_M_again 73 = .ok (.iload_n 2, 1) := by decide +kernel
theorem dc_M_again_74 : decode cd_M_again 74 = .ok (.baload, 1) := by decide +kernel
theorem dc_M_again_75 : decode cd_M_again 75 = .ok (.invokevirtual 60, 3) := by decide +kernel
theorem dc_M_again_78 : decode cd_M_again 78 = .ok (.return_, 1) := by decide +kernel
theorem dc_M_text_0 : decode cd_M_text 0 = .ok (.aload_n 0, 1) := by decide +kernel
theorem dc_M_text_1 : decode cd_M_text 1 = .ok (.iload_n 1, 1) := by decide +kernel
theorem dc_M_text_2 : decode cd_M_text 2 = .ok (.ifCond .lt 8, 3) := by decide +kernel
theorem dc_M_text_5 : decode cd_M_text 5 = .ok (.iload_n 1, 1) := by decide +kernel
theorem dc_M_text_6 : decode cd_M_text 6 = .ok (.iconst 2, 1) := by decide +kernel
theorem dc_M_text_7 : decode cd_M_text 7 = .ok (.if_icmp .le 7, 3) := by decide +kernel
theorem dc_M_text_10 : decode cd_M_text 10 = .ok (.iconst 1, 1) := by decide +kernel
theorem dc_M_text_11 : decode cd_M_text 11 = .ok (.goto 4, 3) := by decide +kernel
theorem dc_M_text_14 : decode cd_M_text 14 = .ok (.iconst 0, 1) := by decide +kernel
theorem dc_M_text_15 : decode cd_M_text 15 = .ok (.iconst 1, 1) := by decide +kernel
theorem dc_M_text_16 : decode cd_M_text 16 = .ok (.iconst 1, 1) := by decide +kernel
theorem dc_M_text_17 : decode cd_M_text 17 = .ok (.invokevirtual 54, 3) := by decide +kernel
theorem dc_M_text_20 : decode cd_M_text 20 = .ok (.ifCond .eq 5, 3) := by decide +kernel
theorem dc_M_text_23 : decode cd_M_text 23 = .ok (.iconst 0, 1) := by decide +kernel
theorem dc_M_text_24 : decode cd_M_text 24 = .ok (.ireturn, 1) := by decide +kernel
theorem dc_M_text_25 : decode cd_M_text 25 = .ok (.aload_n 0, 1) := by decide +kernel
theorem dc_M_text_26 : decode cd_M_text 26 = .ok (.getfield 43, 3) := by decide +kernel
theorem dc_M_text_29 : decode cd_M_text 29 = .ok (.iconst 1, 1) := by decide +kernel
theorem dc_M_text_30 : decode cd_M_text 30 = .ok (.isub, 1) := by decide +kernel
theorem dc_M_text_31 : decode cd_M_text 31 = .ok (.istore_n 3, 1) := by decide +kernel
theorem dc_M_text_32 : decode cd_M_text 32 = .ok (.aload_n 0, 1) := by decide +kernel
theorem dc_M_text_33 : decode cd_M_text 33 = .ok (.getfield 13, 3) := by decide +kernel
theorem dc_M_text_36 : decode cd_M_text 36 = .ok (.iload_n 3, 1) := by decide +kernel
theorem dc_M_text_37 : decode cd_M_text 37 = .ok (.iaload, 1) := by decide +kernel
theorem dc_M_text_38 : decode cd_M_text 38 = .ok (.istore 4, 2) := by decide +kernel
theorem dc_M_text_40 : decode cd_M_text 40 = .ok (.aload_n 0, 1) := by decide +kernel
theorem dc_M_text_41 : decode cd_M_text 41 = .ok (.iload_n 3, 1) := by decide +kernel
theorem dc_M_text_42 : decode cd_M_text 42 = .ok (.aload_n 0, 1) := by decide +kernel
theorem dc_M_text_43 : decode cd_M_text 43 = .ok (.getfield 21, 3) := by decide +kernel
theorem dc_M_text_46 : decode cd_M_text 46 = .ok (.iload 4, 2) := by decide +kernel
theorem dc_M_text_48 : decode cd_M_text 48 = .ok (.iconst 0, 1) := by decide +kernel
theorem dc_M_text_49 : decode cd_M_text 49 = .ok (.invokevirtual 50, 3) := by decide +kernel
theorem dc_M_text_52 : decode cd_M_text 52 = .ok (.aload_n 0, 1) := by decide +kernel
theorem dc_M_text_53 : decode cd_M_text 53 = .ok (.iconst 0, 1) := by decide +kernel
theorem dc_M_text_54 : decode cd_M_text 54 = .ok (.putfield 137, 3) := by decide +kernel
theorem dc_M_text_57 : decode cd_M_text 57 = .ok (.aload_n 0, 1) := by decide +kernel
theorem dc_M_text_58 : decode cd_M_text 58 = .ok (.dup, 1) := by decide +kernel
theorem dc_M_text_59 : decode cd_M_text 59 = .ok (.getfield 43, 3) := by decide +kernel
theorem dc_M_text_62 : decode cd_M_text 62 = .ok (.iconst 1, 1) := by decide +kernel
theorem dc_M_text_63 : decode cd_M_text 63 = .ok (.isub, 1) := by decide +kernel
theorem dc_M_text_64 : decode cd_M_text 64 = .ok (.putfield 43, 3) := by decide +kernel
theorem dc_M_text_67 : decode cd_M_text 67 = .ok (.iload_n 1, 1) := by decide +kernel
theorem dc_M_text_68 : decode cd_M_text 68 = .ok (.iconst 2, 1) := by decide +kernel
theorem dc_M_text_69 : decode cd_M_text 69 = .ok (.if_icmp .ne 19, 3) := by decide +kernel
theorem dc_M_text_72 : decode cd_M_text 72 = .ok (.aload_n 0, 1) := by decide +kernel
theorem dc_M_text_73 : decode cd_M_text 73 = .ok (.iload 4, 2) := by decide +kernel
theorem dc_M_text_75 : decode cd_M_text 75 = .ok (.aload_n 0, 1) := by decide +kernel
theorem dc_M_text_76 : decode cd_M_text 76 = .ok (.getfield 17, 3) := by decide +kernel
theorem dc_M_text_79 : decode cd_M_text 79 = .ok (.iload_n 3, 1) := by decide +kernel
theorem dc_M_text_80 : decode cd_M_text 80 = .ok (.baload, 1) := by decide +kernel
theorem dc_M_text_81 : decode cd_M_text 81 = .ok (.iload_n 2, 1) := by decide +kernel
theorem dc_M_text_82 : decode cd_M_text 82 = .ok (.invokevirtual 150, 3) := by decide +kernel
theorem dc_M_text_85 : decode cd_M_text 85 = .ok (.goto 19, 3) := by decide +kernel
theorem dc_M_text_88 : decode cd_M_text 88 = .ok (.aload_n 0, 1) := by decide +kernel
theorem dc_M_text_89 : decode cd_M_text 89 = .ok (.iload_n 1, 1) := by decide +kernel
theorem dc_M_text_90 : decode cd_M_text 90 = .ok (.ifCond .ne 7, 3) := by decide +kernel
theorem dc_M_text_93 : decode cd_M_text 93 = .ok (.iconst 1, 1) := by decide +kernel
theorem dc_M_text_94 : decode cd_M_text 94 = .ok (.goto 4, 3) := by decide +kernel
theorem dc_M_text_97 : decode cd_M_text 97 = .ok (.iconst 4, 1) := by decide +kernel
theorem dc_M_text_98 : decode cd_M_text 98 = .ok (.iload 4, 2) := by decide +kernel
theorem dc_M_text_100 : decode cd_M_text 100 = .ok (.iload_n 2, 1) := by decide +kernel
theorem dc_M_text_101 : decode cd_M_text 101 = .ok (.invokevirtual 154, 3) := by decide +kernel
theorem dc_M_text_104 : decode cd_M_text 104 = .ok (.aload_n 0, 1) := by decide +kernel
theorem dc_M_text_105 : decode cd_M_text 105 = .ok (.getfield 137, 3) := by decide +kernel
theorem dc_M_text_108 : decode cd_M_text 108 = .ok (.ireturn, 1) := by decide +kernel
theorem dc_M_letter_0 : decode cd_M_letter 0 = .ok (.aload_n 0, 1) := by decide +kernel
theorem dc_M_letter_1 : decode cd_M_letter 1 = .ok (.iload_n 1, 1) := by decide +kernel
theorem dc_M_letter_2 : decode cd_M_letter 2 = .ok (.ifCond .lt 11, 3) := by decide +kernel
theorem dc_M_letter_5 : decode cd_M_letter 5 = .ok (.iload_n 1, 1) := by decide +kernel
theorem dc_M_letter_6 : decode cd_M_letter 6 = .ok (.aload_n 0, 1) := by decide +kernel
theorem dc_M_letter_7 : decode cd_M_letter 7 = .ok (.getfield 137, 3) := by decide +kernel
theorem dc_M_letter_10 : decode cd_M_letter 10 = .ok (.if_icmp .lt 7, 3) := by decide +kernel
theorem dc_M_letter_13 : decode cd_M_letter 13 = .ok (.iconst 1, 1) := by decide +kernel
theorem dc_M_letter_14 : decode cd_M_letter 14 = .ok (.goto 4, 3) := by decide +kernel
theorem dc_M_letter_17 : decode cd_M_letter 17 = .ok (.iconst 0, 1) := by decide +kernel
theorem dc_M_letter_18 : decode cd_M_letter 18 = .ok (.putfield 39, 3) := by decide +kernel
theorem dc_M_letter_21 : decode cd_M_letter 21 = .ok (.aload_n 0, 1) := by decide +kernel
theorem dc_M_letter_22 : decode cd_M_letter 22 = .ok (.getfield 39, 3) := by decide +kernel
theorem dc_M_letter_25 : decode cd_M_letter 25 = .ok (.ifCond .le 7, 3) := by decide +kernel
theorem dc_M_letter_28 : decode cd_M_letter 28 = .ok (.iconst 0, 1) := by decide +kernel
theorem dc_M_letter_29 : decode cd_M_letter 29 = .ok (.goto 13, 3) := by decide +kernel
theorem dc_M_letter_32 : decode cd_M_letter 32 = .ok (.aload_n 0, 1) := by decide +kernel
theorem dc_M_letter_33 : decode cd_M_letter 33 = .ok (.getfield 33, 3) := by decide +kernel
theorem dc_M_letter_36 : decode cd_M_letter 36 = .ok (.iload_n 1, 1) := by decide +kernel
theorem dc_M_letter_37 : decode cd_M_letter 37 = .ok (.baload, 1) := by decide +kernel
theorem dc_M_letter_38 : decode cd_M_letter 38 = .ok (.sipush 255, 3) := by decide +kernel
theorem dc_M_letter_41 : decode cd_M_letter 41 = .ok (.iand, 1) := by decide +kernel
theorem dc_M_letter_42 : decode cd_M_letter 42 = .ok (.ireturn, 1) := by decide +kernel
theorem dc_M_told_0 : decode cd_M_told 0 = .ok (.aload_n 0, 1) := by decide +kernel
theorem dc_M_told_1 : decode cd_M_told 1 = .ok (.iload_n 2, 1) := by decide +kernel
theorem dc_M_told_2 : decode cd_M_told 2 = .ok (.ifCond .lt 8, 3) := by decide +kernel
theorem dc_M_told_5 : decode cd_M_told 5 = .ok (.iload_n 2, 1) := by decide +kernel
theorem dc_M_told_6 : decode cd_M_told 6 = .ok (.iconst 4, 1) := by decide +kernel
theorem dc_M_told_7 : decode cd_M_told 7 = .ok (.if_icmp .le 7, 3) := by decide +kernel
theorem dc_M_told_10 : decode cd_M_told 10 = .ok (.iconst 1, 1) := by decide +kernel
theorem dc_M_told_11 : decode cd_M_told 11 = .ok (.goto 20, 3) := by decide +kernel
theorem dc_M_told_14 : decode cd_M_told 14 = .ok (.iload_n 1, 1) := by decide +kernel
theorem dc_M_told_15 : decode cd_M_told 15 = .ok (.ifCond .lt 11, 3) := by decide +kernel
theorem dc_M_told_18 : decode cd_M_told 18 = .ok (.iload_n 1, 1) := by decide +kernel
theorem dc_M_told_19 : decode cd_M_told 19 = .ok (.aload_n 0, 1) := by decide +kernel
theorem dc_M_told_20 : decode cd_M_told 20 = .ok (.getfield 43, 3) := by decide +kernel
theorem dc_M_told_23 : decode cd_M_told 23 = .ok (.if_icmp .lt 7, 3) := by decide +kernel
theorem dc_M_told_26 : decode cd_M_told 26 = .ok (.iconst 2, 1) := by decide +kernel
theorem dc_M_told_27 : decode cd_M_told 27 = .ok (.goto 4, 3) := by decide +kernel
theorem dc_M_told_30 : decode cd_M_told 30 = .ok (.iconst 0, 1) := by decide +kernel
theorem dc_M_told_31 : decode cd_M_told 31 = .ok (.putfield 39, 3) := by decide +kernel
theorem dc_M_told_34 : decode cd_M_told 34 = .ok (.aload_n 0, 1) := by decide +kernel
theorem dc_M_told_35 : decode cd_M_told 35 = .ok (.getfield 39, 3) := by decide +kernel
theorem dc_M_told_38 : decode cd_M_told 38 = .ok (.ifCond .le 5, 3) := by decide +kernel
theorem dc_M_told_41 : decode cd_M_told 41 = .ok (.lconst 0, 1) := by decide +kernel
theorem dc_M_told_42 : decode cd_M_told 42 = .ok (.lreturn, 1) := by decide +kernel
theorem dc_M_told_43 : decode cd_M_told 43 = .ok (.aload_n 0, 1) := by decide +kernel
theorem dc_M_told_44 : decode cd_M_told 44 = .ok (.getfield 43, 3) := by decide +kernel
theorem dc_M_told_47 : decode cd_M_told 47 = .ok (.iconst 1, 1) := by decide +kernel
theorem dc_M_told_48 : decode cd_M_told 48 = .ok (.isub, 1) := by decide +kernel
theorem dc_M_told_49 : decode cd_M_told 49 = .ok (.iload_n 1, 1) := by decide +kernel
theorem dc_M_told_50 : decode cd_M_told 50 = .ok (.isub, 1) := by decide +kernel
theorem dc_M_told_51 : decode cd_M_told 51 = .ok (.istore_n 3, 1) := by decide +kernel
theorem dc_M_told_52 : decode cd_M_told 52 = .ok (.lconst 0, 1) := by decide +kernel
theorem dc_M_told_53 : decode cd_M_told 53 = .ok (.lstore 4, 2) := by decide +kernel
theorem dc_M_told_55 : decode cd_M_told 55 = .ok (.iload_n 2, 1) := by decide +kernel
theorem dc_M_told_56 : decode cd_M_told 56 = .ok (.iconst 2, 1) := by decide +kernel
theorem dc_M_told_57 : decode cd_M_told 57 = .ok (.if_icmp .ne 11, 3) := by decide +kernel
theorem dc_M_told_60 : decode cd_M_told 60 = .ok (.aload_n 0, 1) := by decide +kernel
theorem dc_M_told_61 : decode cd_M_told 61 = .ok (.getfield 13, 3) := by decide +kernel
theorem dc_M_told_64 : decode cd_M_told 64 = .ok (.iload_n 3, 1) := by decide +kernel
theorem dc_M_told_65 : decode cd_M_told 65 = .ok (.iaload, 1) := by decide +kernel
theorem dc_M_told_66 : decode cd_M_told 66 = .ok (.i2l, 1) := by decide +kernel
theorem dc_M_told_67 : decode cd_M_told 67 = .ok (.lreturn, 1) := by decide +kernel
theorem dc_M_told_68 : decode cd_M_told 68 = .ok (.iload_n 2, 1) := by decide +kernel
theorem dc_M_told_69 : decode cd_M_told 69 = .ok (.iconst 3, 1) := by decide +kernel
theorem dc_M_told_70 : decode cd_M_told 70 = .ok (.if_icmp .ne 18, 3) := by decide +kernel
theorem dc_M_told_73 : decode cd_M_told 73 = .ok (.aload_n 0, 1) := by decide +kernel
theorem dc_M_told_74 : decode cd_M_told 74 = .ok (.getfield 17, 3) := by decide +kernel
theorem dc_M_told_77 : decode cd_M_told 77 = .ok (.iload_n 3, 1) := by decide +kernel
theorem dc_M_told_78 : decode cd_M_told 78 = .ok (.baload, 1) := by decide +kernel
theorem dc_M_told_79 : decode cd_M_told 79 = .ok (.ifCond .eq 7, 3) := by decide +kernel
theorem dc_M_told_82 : decode cd_M_told 82 = .ok (.lconst 1, 1) := by decide +kernel
theorem dc_M_told_83 : decode cd_M_told 83 = .ok (.goto 4, 3) := by decide +kernel
theorem dc_M_told_86 : decode cd_M_told 86 = .ok (.lconst 0, 1) := by decide +kernel
theorem dc_M_told_87 : decode cd_M_told 87 = .ok (.lreturn, 1) := by decide +kernel
theorem dc_M_told_88 : decode cd_M_told 88 = .ok (.aload_n 0, 1) := by decide +kernel
theorem dc_M_told_89 : decode cd_M_told 89 = .ok (.iload_n 3, 1) := by decide +kernel
theorem dc_M_told_90 : decode cd_M_told 90 = .ok (.aload_n 0, 1) := by decide +kernel
theorem dc_M_told_91 : decode cd_M_told 91 = .ok (.getfield 21, 3) := by decide +kernel
theorem dc_M_told_94 : decode cd_M_told 94 = .ok (.aload_n 0, 1) := by decide +kernel
theorem dc_M_told_95 : decode cd_M_told 95 = .ok (.getfield 13, 3) := by decide +kernel
theorem dc_M_told_98 : decode cd_M_told 98 = .ok (.iload_n 3, 1) := by decide +kernel
theorem dc_M_told_99 : decode cd_M_told 99 = .ok (.iaload, 1) := by decide +kernel
theorem dc_M_told_100 : decode cd_M_told 100 = .ok (.iconst 0, 1) := by decide +kernel
theorem dc_M_told_101 : decode cd_M_told 101 = .ok (.invokevirtual 50, 3) := by decide +kernel
theorem dc_M_told_104 : decode cd_M_told 104 = .ok (.iload_n 2, 1) := by decide +kernel
theorem dc_M_told_105 : decode cd_M_told 105 = .ok (.iconst 4, 1) := by decide +kernel
theorem dc_M_told_106 : decode cd_M_told 106 = .ok (.if_icmp .ne 34, 3) := by decide +kernel
theorem dc_M_told_109 : decode cd_M_told 109 = .ok (.aload_n 0, 1) := by decide +kernel
theorem dc_M_told_110 : decode cd_M_told 110 = .ok (.getfield 21, 3) := by decide +kernel
theorem dc_M_told_113 : decode cd_M_told 113 = .ok (.aload_n 0, 1) := by decide +kernel
theorem dc_M_told_114 : decode cd_M_told 114 = .ok (.getfield 13, 3) := by decide +kernel
theorem dc_M_told_117 : decode cd_M_told 117 = .ok (.iload_n 3, 1) := by decide +kernel
theorem dc_M_told_118 : decode cd_M_told 118 = .ok (.iaload, 1) := by decide +kernel
theorem dc_M_told_119 : decode cd_M_told 119 = .ok (.invokestatic 104, 3) := by decide +kernel
theorem dc_M_told_122 : decode cd_M_told 122 = .ok (.istore 6, 2) := by decide +kernel
theorem dc_M_told_124 : decode cd_M_told 124 = .ok (.iload 6, 2) := by decide +kernel
theorem dc_M_told_126 : decode cd_M_told 126 = .ok (.iconst 3, 1) := by decide +kernel
theorem dc_M_told_127 : decode cd_M_told 127 = .ok (.if_icmp .ne 9, 3) := by decide +kernel
theorem dc_M_told_130 : decode cd_M_told 130 = .ok (.ldc2_w 58, 3) := by decide +kernel
theorem dc_M_told_133 : decode cd_M_told 133 = .ok (.goto 6, 3) := by decide +kernel
theorem dc_M_told_136 : decode cd_M_told 136 = .ok (.iload 6, 2) := by decide +kernel
theorem dc_M_told_138 : decode cd_M_told 138 = .ok (.i2l, 1) := by decide +kernel
theorem dc_M_told_139 : decode cd_M_told 139 = .ok (.lreturn, 1) := by decide +kernel
theorem dc_M_told_140 : decode cd_M_told 140 = .ok (.aload_n 0, 1) := by decide +kernel
theorem dc_M_told_141 : decode cd_M_told 141 = .ok (.getfield 13, 3) := by decide +kernel
theorem dc_M_told_144 : decode cd_M_told 144 = .ok (.iload_n 3, 1) := by decide +kernel
theorem dc_M_told_145 : decode cd_M_told 145 = .ok (.iaload, 1) := by decide +kernel
theorem dc_M_told_146 : decode cd_M_told 146 = .ok (.iconst 1, 1) := by decide +kernel
theorem dc_M_told_147 : decode cd_M_told 147 = .ok (.isub, 1) := by decide +kernel
theorem dc_M_told_148 : decode cd_M_told 148 = .ok (.istore 6, 2) := by decide +kernel
theorem dc_M_told_150 : decode cd_M_told 150 = .ok (.iload 6, 2) := by decide +kernel
theorem dc_M_told_152 : decode cd_M_told 152 = .ok (.ifCond .lt 42, 3) := by decide +kernel
theorem dc_M_told_155 : decode cd_M_told 155 = .ok (.lload 4, 2) := by decide +kernel
theorem dc_M_told_157 : decode cd_M_told 157 = .ok (.iconst 1, 1) := by decide +kernel
theorem dc_M_told_158 : decode cd_M_told 158 = .ok (.lshl, 1) := by decide +kernel
theorem dc_M_told_159 : decode cd_M_told 159 = .ok (.iload_n 2, 1) := by decide +kernel
theorem dc_M_told_160 : decode cd_M_told 160 = .ok (.ifCond .ne 15, 3) := by decide +kernel
theorem dc_M_told_163 : decode cd_M_told 163 = .ok (.aload_n 0, 1) := by decide +kernel
theorem dc_M_told_164 : decode cd_M_told 164 = .ok (.getfield 21, 3) := by decide +kernel
theorem dc_M_told_167 : decode cd_M_told 167 = .ok (.iload 6, 2) := by decide +kernel
theorem dc_M_told_169 : decode cd_M_told 169 = .ok (.baload, 1) := by decide +kernel
theorem dc_M_told_170 : decode cd_M_told 170 = .ok (.iconst 1, 1) := by decide +kernel
theorem dc_M_told_171 : decode cd_M_told 171 = .ok (.iand, 1) := by decide +kernel
theorem dc_M_told_172 : decode cd_M_told 172 = .ok (.goto 12, 3) := by decide +kernel
theorem dc_M_told_175 : decode cd_M_told 175 = .ok (.aload_n 0, 1) := by decide +kernel
theorem dc_M_told_176 : decode cd_M_told 176 = .ok (.getfield 21, 3) := by decide +kernel
theorem dc_M_told_179 : decode cd_M_told 179 = .ok (.iload 6, 2) := by decide +kernel
theorem dc_M_told_181 : decode cd_M_told 181 = .ok (.baload, 1) := by decide +kernel
theorem dc_M_told_182 : decode cd_M_told 182 = .ok (.iconst 1, 1) := by decide +kernel
theorem dc_M_told_183 : decode cd_M_told 183 = .ok (.ishr, 1) := by decide +kernel
theorem dc_M_told_184 : decode cd_M_told 184 = .ok (.i2l, 1) := by decide +kernel
theorem dc_M_told_185 : decode cd_M_told 185 = .ok (.lor, 1) := by decide +kernel
theorem dc_M_told_186 : decode cd_M_told 186 = .ok (.lstore 4, 2) := by decide +kernel
theorem dc_M_told_188 : decode cd_M_told 188 = .ok (.iinc 6 (-1), 3) := by decide +kernel
theorem dc_M_told_191 : decode cd_M_told 191 = .ok (.goto (-41), 3) := by decide +kernel
theorem dc_M_told_194 : decode cd_M_told 194 = .ok (.lload 4, 2) := by decide +kernel
theorem dc_M_told_196 : decode cd_M_told 196 = .ok (.lreturn, 1) := by decide +kernel
theorem dc_M_count_0 : decode cd_M_count 0 = .ok (.aload_n 0, 1) := by decide +kernel
theorem dc_M_count_1 : decode cd_M_count 1 = .ok (.iconst 0, 1) := by decide +kernel
theorem dc_M_count_2 : decode cd_M_count 2 = .ok (.putfield 39, 3) := by decide +kernel
theorem dc_M_count_5 : decode cd_M_count 5 = .ok (.iload_n 1, 1) := by decide +kernel
theorem dc_M_count_6 : decode cd_M_count 6 = .ok (.ifCond .ne 10, 3) := by decide +kernel
theorem dc_M_count_9 : decode cd_M_count 9 = .ok (.aload_n 0, 1) := by decide +kernel
theorem dc_M_count_10 : decode cd_M_count 10 = .ok (.getfield 43, 3) := by decide +kernel
theorem dc_M_count_13 : decode cd_M_count 13 = .ok (.goto 16, 3) := by decide +kernel
theorem dc_M_count_16 : decode cd_M_count 16 = .ok (.iload_n 1, 1) := by decide +kernel
theorem dc_M_count_17 : decode cd_M_count 17 = .ok (.iconst 1, 1) := by decide +kernel
theorem dc_M_count_18 : decode cd_M_count 18 = .ok (.if_icmp .ne 10, 3) := by decide +kernel
theorem dc_M_count_21 : decode cd_M_count 21 = .ok (.aload_n 0, 1) := by decide +kernel
theorem dc_M_count_22 : decode cd_M_count 22 = .ok (.getfield 137, 3) := by decide +kernel
theorem dc_M_count_25 : decode cd_M_count 25 = .ok (.goto 4, 3) := by decide +kernel
theorem dc_M_count_28 : decode cd_M_count 28 = .ok (.iconst (-1), 1) := by decide +kernel
theorem dc_M_count_29 : decode cd_M_count 29 = .ok (.ireturn, 1) := by decide +kernel
theorem dc_X_init_0 : decode cd_X_init 0 = .ok (.aload_n 0, 1) := by decide +kernel
theorem dc_X_init_1 : decode cd_X_init 1 = .ok (.invokespecial 1, 3) := by decide +kernel
theorem dc_X_init_4 : decode cd_X_init 4 = .ok (.aload_n 0, 1) := by decide +kernel
theorem dc_X_init_5 : decode cd_X_init 5 = .ok (.bipush 64, 2) := by decide +kernel
theorem dc_X_init_7 : decode cd_X_init 7 = .ok (.newarray .long, 2) := by decide +kernel
theorem dc_X_init_9 : decode cd_X_init 9 = .ok (.putfield 9, 3) := by decide +kernel
theorem dc_X_init_12 : decode cd_X_init 12 = .ok (.aload_n 0, 1) := by decide +kernel
theorem dc_X_init_13 : decode cd_X_init 13 = .ok (.bipush 64, 2) := by decide +kernel
theorem dc_X_init_15 : decode cd_X_init 15 = .ok (.newarray .long, 2) := by decide +kernel
theorem dc_X_init_17 : decode cd_X_init 17 = .ok (.putfield 13, 3) := by decide +kernel
theorem dc_X_init_20 : decode cd_X_init 20 = .ok (.aload_n 0, 1) := by decide +kernel
theorem dc_X_init_21 : decode cd_X_init 21 = .ok (.bipush 64, 2) := by decide +kernel
theorem dc_X_init_23 : decode cd_X_init 23 = .ok (.newarray .int, 2) := by decide +kernel
theorem dc_X_init_25 : decode cd_X_init 25 = .ok (.putfield 16, 3) := by decide +kernel
theorem dc_X_init_28 : decode cd_X_init 28 = .ok (.aload_n 0, 1) := by decide +kernel
theorem dc_X_init_29 : decode cd_X_init 29 = .ok (.bipush 64, 2) := by decide +kernel
theorem dc_X_init_31 : decode cd_X_init 31 = .ok (.newarray .boolean, 2) := by decide +kernel
theorem dc_X_init_33 : decode cd_X_init 33 = .ok (.putfield 20, 3) := by decide +kernel
theorem dc_X_init_36 : decode cd_X_init 36 = .ok (.aload_n 0, 1) := by decide +kernel
theorem dc_X_init_37 : decode cd_X_init 37 = .ok (.new 24, 3) := by decide +kernel
theorem dc_X_init_40 : decode cd_X_init 40 = .ok (.dup, 1) := by decide +kernel
theorem dc_X_init_41 : decode cd_X_init 41 = .ok (.invokespecial 26, 3) := by decide +kernel
theorem dc_X_init_44 : decode cd_X_init 44 = .ok (.putfield 27, 3) := by decide +kernel
theorem dc_X_init_47 : decode cd_X_init 47 = .ok (.aload_n 0, 1) := by decide +kernel
theorem dc_X_init_48 : decode cd_X_init 48 = .ok (.iconst 0, 1) := by decide +kernel
theorem dc_X_init_49 : decode cd_X_init 49 = .ok (.putfield 31, 3) := by decide +kernel
theorem dc_X_init_52 : decode cd_X_init 52 = .ok (.return_, 1) := by decide +kernel
theorem dc_M_init_0 : decode cd_M_init 0 = .ok (.aload_n 0, 1) := by decide +kernel
theorem dc_M_init_1 : decode cd_M_init 1 = .ok (.invokespecial 1, 3) := by decide +kernel
theorem dc_M_init_4 : decode cd_M_init 4 = .ok (.aload_n 0, 1) := by decide +kernel
theorem dc_M_init_5 : decode cd_M_init 5 = .ok (.sipush 4096, 3) := by decide +kernel
theorem dc_M_init_8 : decode cd_M_init 8 = .ok (.newarray .byte, 2) := by decide +kernel
theorem dc_M_init_10 : decode cd_M_init 10 = .ok (.putfield 7, 3) := by decide +kernel
theorem dc_M_init_13 : decode cd_M_init 13 = .ok (.aload_n 0, 1) := by decide +kernel
theorem dc_M_init_14 : decode cd_M_init 14 = .ok (.bipush 64, 2) := by decide +kernel
theorem dc_M_init_16 : decode cd_M_init 16 = .ok (.newarray .int, 2) := by decide +kernel
theorem dc_M_init_18 : decode cd_M_init 18 = .ok (.putfield 13, 3) := by decide +kernel
theorem dc_M_init_21 : decode cd_M_init 21 = .ok (.aload_n 0, 1) := by decide +kernel
theorem dc_M_init_22 : decode cd_M_init 22 = .ok (.bipush 64, 2) := by decide +kernel
theorem dc_M_init_24 : decode cd_M_init 24 = .ok (.newarray .boolean, 2) := by decide +kernel
theorem dc_M_init_26 : decode cd_M_init 26 = .ok (.putfield 17, 3) := by decide +kernel
theorem dc_M_init_29 : decode cd_M_init 29 = .ok (.aload_n 0, 1) := by decide +kernel
theorem dc_M_init_30 : decode cd_M_init 30 = .ok (.bipush 64, 2) := by decide +kernel
theorem dc_M_init_32 : decode cd_M_init 32 = .ok (.newarray .byte, 2) := by decide +kernel
theorem dc_M_init_34 : decode cd_M_init 34 = .ok (.putfield 21, 3) := by decide +kernel
theorem dc_M_init_37 : decode cd_M_init 37 = .ok (.aload_n 0, 1) := by decide +kernel
theorem dc_M_init_38 : decode cd_M_init 38 = .ok (.bipush 64, 2) := by decide +kernel
theorem dc_M_init_40 : decode cd_M_init 40 = .ok (.newarray .byte, 2) := by decide +kernel
theorem dc_M_init_42 : decode cd_M_init 42 = .ok (.putfield 24, 3) := by decide +kernel
theorem dc_M_init_45 : decode cd_M_init 45 = .ok (.aload_n 0, 1) := by decide +kernel
theorem dc_M_init_46 : decode cd_M_init 46 = .ok (.bipush 64, 2) := by decide +kernel
theorem dc_M_init_48 : decode cd_M_init 48 = .ok (.newarray .byte, 2) := by decide +kernel
theorem dc_M_init_50 : decode cd_M_init 50 = .ok (.putfield 27, 3) := by decide +kernel
theorem dc_M_init_53 : decode cd_M_init 53 = .ok (.aload_n 0, 1) := by decide +kernel
theorem dc_M_init_54 : decode cd_M_init 54 = .ok (.bipush 65, 2) := by decide +kernel
theorem dc_M_init_56 : decode cd_M_init 56 = .ok (.newarray .byte, 2) := by decide +kernel
theorem dc_M_init_58 : decode cd_M_init 58 = .ok (.putfield 30, 3) := by decide +kernel
theorem dc_M_init_61 : decode cd_M_init 61 = .ok (.aload_n 0, 1) := by decide +kernel
theorem dc_M_init_62 : decode cd_M_init 62 = .ok (.bipush 80, 2) := by decide +kernel
theorem dc_M_init_64 : decode cd_M_init 64 = .ok (.newarray .byte, 2) := by decide +kernel
theorem dc_M_init_66 : decode cd_M_init 66 = .ok (.putfield 33, 3) := by decide +kernel
theorem dc_M_init_69 : decode cd_M_init 69 = .ok (.aload_n 0, 1) := by decide +kernel
theorem dc_M_init_70 : decode cd_M_init 70 = .ok (.bipush 24, 2) := by decide +kernel
theorem dc_M_init_72 : decode cd_M_init 72 = .ok (.newarray .byte, 2) := by decide +kernel
theorem dc_M_init_74 : decode cd_M_init 74 = .ok (.putfield 36, 3) := by decide +kernel
theorem dc_M_init_77 : decode cd_M_init 77 = .ok (.return_, 1) := by decide +kernel
theorem dc_N_init_0 : decode cd_N_init 0 = .ok (.aload_n 0, 1) := by decide +kernel
theorem dc_N_init_1 : decode cd_N_init 1 = .ok (.invokespecial 3, 3) := by decide +kernel
theorem dc_N_init_4 : decode cd_N_init 4 = .ok (.aload_n 0, 1) := by decide +kernel
theorem dc_N_init_5 : decode cd_N_init 5 = .ok (.bipush 64, 2) := by decide +kernel
theorem dc_N_init_7 : decode cd_N_init 7 = .ok (.newarray .byte, 2) := by decide +kernel
theorem dc_N_init_9 : decode cd_N_init 9 = .ok (.putfield 9, 3) := by decide +kernel
theorem dc_N_init_12 : decode cd_N_init 12 = .ok (.aload_n 0, 1) := by decide +kernel
theorem dc_N_init_13 : decode cd_N_init 13 = .ok (.iconst 0, 1) := by decide +kernel
theorem dc_N_init_14 : decode cd_N_init 14 = .ok (.putfield 15, 3) := by decide +kernel
theorem dc_N_init_17 : decode cd_N_init 17 = .ok (.return_, 1) := by decide +kernel
theorem dc_L_push_0 : decode cd_L_push 0 = .ok (.aload 7, 2) := by decide +kernel
theorem dc_L_push_2 : decode cd_L_push 2 = .ok (.iconst 0, 1) := by decide +kernel
theorem dc_L_push_3 : decode cd_L_push 3 = .ok (.aload_n 0, 1) := by decide +kernel
theorem dc_L_push_4 : decode cd_L_push 4 = .ok (.lload_n 1, 1) := by decide +kernel
theorem dc_L_push_5 : decode cd_L_push 5 = .ok (.lload_n 3, 1) := by decide +kernel
theorem dc_L_push_6 : decode cd_L_push 6 = .ok (.iload 5, 2) := by decide +kernel
theorem dc_L_push_8 : decode cd_L_push 8 = .ok (.iload 6, 2) := by decide +kernel
theorem dc_L_push_10 : decode cd_L_push 10 = .ok (.invokevirtual 7, 3) := by decide +kernel
theorem dc_L_push_13 : decode cd_L_push 13 = .ok (.i2l, 1) := by decide +kernel
theorem dc_L_push_14 : decode cd_L_push 14 = .ok (.lastore, 1) := by decide +kernel
theorem dc_L_push_15 : decode cd_L_push 15 = .ok (.goto 11, 3) := by decide +kernel
theorem dc_L_push_18 : decode cd_L_push 18 = .ok (.astore 8, 2) := by decide +kernel
theorem dc_L_push_20 : decode cd_L_push 20 = .ok (.iconst 1, 1) := by decide +kernel
theorem dc_L_push_21 : decode cd_L_push 21 = .ok (.ireturn, 1) := by decide +kernel
theorem dc_L_push_22 : decode cd_L_push 22 = .ok (.astore 8, 2) := by decide +kernel
theorem dc_L_push_24 : decode cd_L_push 24 = .ok (.iconst 2, 1) := by decide +kernel
theorem dc_L_push_25 : decode cd_L_push 25 = .ok (.ireturn, 1) := by decide +kernel
theorem dc_L_push_26 : decode cd_L_push 26 = .ok (.iconst 0, 1) := by decide +kernel
theorem dc_L_push_27 : decode cd_L_push 27 = .ok (.ireturn, 1) := by decide +kernel
theorem dc_L_two_0 : decode cd_L_two 0 = .ok (.aload_n 0, 1) := by decide +kernel
theorem dc_L_two_1 : decode cd_L_two 1 = .ok (.iload_n 1, 1) := by decide +kernel
theorem dc_L_two_2 : decode cd_L_two 2 = .ok (.invokevirtual 17, 3) := by decide +kernel
theorem dc_L_two_5 : decode cd_L_two 5 = .ok (.goto 9, 3) := by decide +kernel
theorem dc_L_two_8 : decode cd_L_two 8 = .ok (.astore_n 2, 1) := by decide +kernel
theorem dc_L_two_9 : decode cd_L_two 9 = .ok (.iconst 1, 1) := by decide +kernel
theorem dc_L_two_10 : decode cd_L_two 10 = .ok (.ireturn, 1) := by decide +kernel
theorem dc_L_two_11 : decode cd_L_two 11 = .ok (.astore_n 2, 1) := by decide +kernel
theorem dc_L_two_12 : decode cd_L_two 12 = .ok (.iconst 2, 1) := by decide +kernel
theorem dc_L_two_13 : decode cd_L_two 13 = .ok (.ireturn, 1) := by decide +kernel
theorem dc_L_two_14 : decode cd_L_two 14 = .ok (.iconst 0, 1) := by decide +kernel
theorem dc_L_two_15 : decode cd_L_two 15 = .ok (.ireturn, 1) := by decide +kernel
theorem dc_L_shift_0 : decode cd_L_shift 0 = .ok (.aload_n 0, 1) := by decide +kernel
theorem dc_L_shift_1 : decode cd_L_shift 1 = .ok (.iload_n 1, 1) := by decide +kernel
theorem dc_L_shift_2 : decode cd_L_shift 2 = .ok (.invokevirtual 21, 3) := by decide +kernel
theorem dc_L_shift_5 : decode cd_L_shift 5 = .ok (.goto 9, 3) := by decide +kernel
theorem dc_L_shift_8 : decode cd_L_shift 8 = .ok (.astore_n 2, 1) := by decide +kernel
theorem dc_L_shift_9 : decode cd_L_shift 9 = .ok (.iconst 1, 1) := by decide +kernel
theorem dc_L_shift_10 : decode cd_L_shift 10 = .ok (.ireturn, 1) := by decide +kernel
theorem dc_L_shift_11 : decode cd_L_shift 11 = .ok (.astore_n 2, 1) := by decide +kernel
theorem dc_L_shift_12 : decode cd_L_shift 12 = .ok (.iconst 2, 1) := by decide +kernel
theorem dc_L_shift_13 : decode cd_L_shift 13 = .ok (.ireturn, 1) := by decide +kernel
theorem dc_L_shift_14 : decode cd_L_shift 14 = .ok (.iconst 0, 1) := by decide +kernel
theorem dc_L_shift_15 : decode cd_L_shift 15 = .ok (.ireturn, 1) := by decide +kernel
theorem dc_L_one_0 : decode cd_L_one 0 = .ok (.aload_n 0, 1) := by decide +kernel
theorem dc_L_one_1 : decode cd_L_one 1 = .ok (.iload_n 1, 1) := by decide +kernel
theorem dc_L_one_2 : decode cd_L_one 2 = .ok (.invokevirtual 24, 3) := by decide +kernel
theorem dc_L_one_5 : decode cd_L_one 5 = .ok (.goto 9, 3) := by decide +kernel
theorem dc_L_one_8 : decode cd_L_one 8 = .ok (.astore_n 2, 1) := by decide +kernel
theorem dc_L_one_9 : decode cd_L_one 9 = .ok (.iconst 1, 1) := by decide +kernel
theorem dc_L_one_10 : decode cd_L_one 10 = .ok (.ireturn, 1) := by decide +kernel
theorem dc_L_one_11 : decode cd_L_one 11 = .ok (.astore_n 2, 1) := by decide +kernel
theorem dc_L_one_12 : decode cd_L_one 12 = .ok (.iconst 2, 1) := by decide +kernel
theorem dc_L_one_13 : decode cd_L_one 13 = .ok (.ireturn, 1) := by decide +kernel
theorem dc_L_one_14 : decode cd_L_one 14 = .ok (.iconst 0, 1) := by decide +kernel
theorem dc_L_one_15 : decode cd_L_one 15 = .ok (.ireturn, 1) := by decide +kernel
theorem dc_L_choose_0 : decode cd_L_choose 0 = .ok (.aload_n 0, 1) := by decide +kernel
theorem dc_L_choose_1 : decode cd_L_choose 1 = .ok (.invokevirtual 27, 3) := by decide +kernel
theorem dc_L_choose_4 : decode cd_L_choose 4 = .ok (.goto 6, 3) := by decide +kernel
theorem dc_L_choose_7 : decode cd_L_choose 7 = .ok (.astore_n 1, 1) := by decide +kernel
theorem dc_L_choose_8 : decode cd_L_choose 8 = .ok (.iconst 1, 1) := by decide +kernel
theorem dc_L_choose_9 : decode cd_L_choose 9 = .ok (.ireturn, 1) := by decide +kernel
theorem dc_L_choose_10 : decode cd_L_choose 10 = .ok (.iconst 0, 1) := by decide +kernel
theorem dc_L_choose_11 : decode cd_L_choose 11 = .ok (.ireturn, 1) := by decide +kernel
theorem dc_L_join_0 : decode cd_L_join 0 = .ok (.aload_n 0, 1) := by decide +kernel
theorem dc_L_join_1 : decode cd_L_join 1 = .ok (.invokevirtual 30, 3) := by decide +kernel
theorem dc_L_join_4 : decode cd_L_join 4 = .ok (.goto 9, 3) := by decide +kernel
theorem dc_L_join_7 : decode cd_L_join 7 = .ok (.astore_n 1, 1) := by decide +kernel
theorem dc_L_join_8 : decode cd_L_join 8 = .ok (.iconst 1, 1) := by decide +kernel
theorem dc_L_join_9 : decode cd_L_join 9 = .ok (.ireturn, 1) := by decide +kernel
theorem dc_L_join_10 : decode cd_L_join 10 = .ok (.astore_n 1, 1) := by decide +kernel
theorem dc_L_join_11 : decode cd_L_join 11 = .ok (.iconst 2, 1) := by decide +kernel
theorem dc_L_join_12 : decode cd_L_join 12 = .ok (.ireturn, 1) := by decide +kernel
theorem dc_L_join_13 : decode cd_L_join 13 = .ok (.iconst 0, 1) := by decide +kernel
theorem dc_L_join_14 : decode cd_L_join 14 = .ok (.ireturn, 1) := by decide +kernel
theorem dc_L_copies_0 : decode cd_L_copies 0 = .ok (.aload_n 0, 1) := by decide +kernel
theorem dc_L_copies_1 : decode cd_L_copies 1 = .ok (.iload_n 1, 1) := by decide +kernel
theorem dc_L_copies_2 : decode cd_L_copies 2 = .ok (.invokevirtual 33, 3) := by decide +kernel
theorem dc_L_copies_5 : decode cd_L_copies 5 = .ok (.goto 9, 3) := by decide +kernel
theorem dc_L_copies_8 : decode cd_L_copies 8 = .ok (.astore_n 2, 1) := by decide +kernel
theorem dc_L_copies_9 : decode cd_L_copies 9 = .ok (.iconst 1, 1) := by decide +kernel
theorem dc_L_copies_10 : decode cd_L_copies 10 = .ok (.ireturn, 1) := by decide +kernel
theorem dc_L_copies_11 : decode cd_L_copies 11 = .ok (.astore_n 2, 1) := by decide +kernel
theorem dc_L_copies_12 : decode cd_L_copies 12 = .ok (.iconst 2, 1) := by decide +kernel
theorem dc_L_copies_13 : decode cd_L_copies 13 = .ok (.ireturn, 1) := by decide +kernel
theorem dc_L_copies_14 : decode cd_L_copies 14 = .ok (.iconst 0, 1) := by decide +kernel
theorem dc_L_copies_15 : decode cd_L_copies 15 = .ok (.ireturn, 1) := by decide +kernel
theorem dc_L_part_0 : decode cd_L_part 0 = .ok (.aload_n 0, 1) := by decide +kernel
theorem dc_L_part_1 : decode cd_L_part 1 = .ok (.iload_n 1, 1) := by decide +kernel
theorem dc_L_part_2 : decode cd_L_part 2 = .ok (.iload_n 2, 1) := by decide +kernel
theorem dc_L_part_3 : decode cd_L_part 3 = .ok (.invokevirtual 36, 3) := by decide +kernel
theorem dc_L_part_6 : decode cd_L_part 6 = .ok (.goto 9, 3) := by decide +kernel
theorem dc_L_part_9 : decode cd_L_part 9 = .ok (.astore_n 3, 1) := by decide +kernel
theorem dc_L_part_10 : decode cd_L_part 10 = .ok (.iconst 1, 1) := by decide +kernel
theorem dc_L_part_11 : decode cd_L_part 11 = .ok (.ireturn, 1) := by decide +kernel
theorem dc_L_part_12 : decode cd_L_part 12 = .ok (.astore_n 3, 1) := by decide +kernel
theorem dc_L_part_13 : decode cd_L_part 13 = .ok (.iconst 2, 1) := by decide +kernel
theorem dc_L_part_14 : decode cd_L_part 14 = .ok (.ireturn, 1) := by decide +kernel
theorem dc_L_part_15 : decode cd_L_part 15 = .ok (.iconst 0, 1) := by decide +kernel
theorem dc_L_part_16 : decode cd_L_part 16 = .ok (.ireturn, 1) := by decide +kernel
theorem dc_L_bit_0 : decode cd_L_bit 0 = .ok (.aload_n 0, 1) := by decide +kernel
theorem dc_L_bit_1 : decode cd_L_bit 1 = .ok (.invokevirtual 40, 3) := by decide +kernel
theorem dc_L_bit_4 : decode cd_L_bit 4 = .ok (.goto 6, 3) := by decide +kernel
theorem dc_L_bit_7 : decode cd_L_bit 7 = .ok (.astore_n 1, 1) := by decide +kernel
theorem dc_L_bit_8 : decode cd_L_bit 8 = .ok (.iconst 1, 1) := by decide +kernel
theorem dc_L_bit_9 : decode cd_L_bit 9 = .ok (.ireturn, 1) := by decide +kernel
theorem dc_L_bit_10 : decode cd_L_bit 10 = .ok (.iconst 0, 1) := by decide +kernel
theorem dc_L_bit_11 : decode cd_L_bit 11 = .ok (.ireturn, 1) := by decide +kernel
theorem dc_L_as_0 : decode cd_L_as 0 = .ok (.aload_n 0, 1) := by decide +kernel
theorem dc_L_as_1 : decode cd_L_as 1 = .ok (.iload_n 1, 1) := by decide +kernel
theorem dc_L_as_2 : decode cd_L_as 2 = .ok (.iload_n 2, 1) := by decide +kernel
theorem dc_L_as_3 : decode cd_L_as 3 = .ok (.invokevirtual 43, 3) := by decide +kernel
theorem dc_L_as_6 : decode cd_L_as 6 = .ok (.goto 9, 3) := by decide +kernel
theorem dc_L_as_9 : decode cd_L_as 9 = .ok (.astore_n 3, 1) := by decide +kernel
theorem dc_L_as_10 : decode cd_L_as 10 = .ok (.iconst 1, 1) := by decide +kernel
theorem dc_L_as_11 : decode cd_L_as 11 = .ok (.ireturn, 1) := by decide +kernel
theorem dc_L_as_12 : decode cd_L_as 12 = .ok (.astore_n 3, 1) := by decide +kernel
theorem dc_L_as_13 : decode cd_L_as 13 = .ok (.iconst 2, 1) := by decide +kernel
theorem dc_L_as_14 : decode cd_L_as 14 = .ok (.ireturn, 1) := by decide +kernel
theorem dc_L_as_15 : decode cd_L_as 15 = .ok (.iconst 0, 1) := by decide +kernel
theorem dc_L_as_16 : decode cd_L_as 16 = .ok (.ireturn, 1) := by decide +kernel
theorem dc_L_again_0 : decode cd_L_again 0 = .ok (.aload_n 0, 1) := by decide +kernel
theorem dc_L_again_1 : decode cd_L_again 1 = .ok (.iload_n 1, 1) := by decide +kernel
theorem dc_L_again_2 : decode cd_L_again 2 = .ok (.invokevirtual 47, 3) := by decide +kernel
theorem dc_L_again_5 : decode cd_L_again 5 = .ok (.goto 9, 3) := by decide +kernel
theorem dc_L_again_8 : decode cd_L_again 8 = .ok (.astore_n 2, 1) := by decide +kernel
theorem dc_L_again_9 : decode cd_L_again 9 = .ok (.iconst 1, 1) := by decide +kernel
theorem dc_L_again_10 : decode cd_L_again 10 = .ok (.ireturn, 1) := by decide +kernel
theorem dc_L_again_11 : decode cd_L_again 11 = .ok (.astore_n 2, 1) := by decide +kernel
theorem dc_L_again_12 : decode cd_L_again 12 = .ok (.iconst 2, 1) := by decide +kernel
theorem dc_L_again_13 : decode cd_L_again 13 = .ok (.ireturn, 1) := by decide +kernel
theorem dc_L_again_14 : decode cd_L_again 14 = .ok (.iconst 0, 1) := by decide +kernel
theorem dc_L_again_15 : decode cd_L_again 15 = .ok (.ireturn, 1) := by decide +kernel
theorem dc_L_text_0 : decode cd_L_text 0 = .ok (.aload_n 3, 1) := by decide +kernel
theorem dc_L_text_1 : decode cd_L_text 1 = .ok (.iconst 0, 1) := by decide +kernel
theorem dc_L_text_2 : decode cd_L_text 2 = .ok (.aload_n 0, 1) := by decide +kernel
theorem dc_L_text_3 : decode cd_L_text 3 = .ok (.iload_n 1, 1) := by decide +kernel
theorem dc_L_text_4 : decode cd_L_text 4 = .ok (.iload_n 2, 1) := by decide +kernel
theorem dc_L_text_5 : decode cd_L_text 5 = .ok (.invokevirtual 50, 3) := by decide +kernel
theorem dc_L_text_8 : decode cd_L_text 8 = .ok (.i2l, 1) := by decide +kernel
theorem dc_L_text_9 : decode cd_L_text 9 = .ok (.lastore, 1) := by decide +kernel
theorem dc_L_text_10 : decode cd_L_text 10 = .ok (.goto 11, 3) := by decide +kernel
theorem dc_L_text_13 : decode cd_L_text 13 = .ok (.astore 4, 2) := by decide +kernel
theorem dc_L_text_15 : decode cd_L_text 15 = .ok (.iconst 1, 1) := by decide +kernel
theorem dc_L_text_16 : decode cd_L_text 16 = .ok (.ireturn, 1) := by decide +kernel
theorem dc_L_text_17 : decode cd_L_text 17 = .ok (.astore 4, 2) := by decide +kernel
theorem dc_L_text_19 : decode cd_L_text 19 = .ok (.iconst 2, 1) := by decide +kernel
theorem dc_L_text_20 : decode cd_L_text 20 = .ok (.ireturn, 1) := by decide +kernel
theorem dc_L_text_21 : decode cd_L_text 21 = .ok (.iconst 0, 1) := by decide +kernel
theorem dc_L_text_22 : decode cd_L_text 22 = .ok (.ireturn, 1) := by decide +kernel
theorem dc_L_letter_0 : decode cd_L_letter 0 = .ok (.aload_n 2, 1) := by decide +kernel
theorem dc_L_letter_1 : decode cd_L_letter 1 = .ok (.iconst 0, 1) := by decide +kernel
theorem dc_L_letter_2 : decode cd_L_letter 2 = .ok (.aload_n 0, 1) := by decide +kernel
theorem dc_L_letter_3 : decode cd_L_letter 3 = .ok (.iload_n 1, 1) := by decide +kernel
theorem dc_L_letter_4 : decode cd_L_letter 4 = .ok (.invokevirtual 54, 3) := by decide +kernel
theorem dc_L_letter_7 : decode cd_L_letter 7 = .ok (.i2l, 1) := by decide +kernel
theorem dc_L_letter_8 : decode cd_L_letter 8 = .ok (.lastore, 1) := by decide +kernel
theorem dc_L_letter_9 : decode cd_L_letter 9 = .ok (.goto 6, 3) := by decide +kernel
theorem dc_L_letter_12 : decode cd_L_letter 12 = .ok (.astore_n 3, 1) := by decide +kernel
theorem dc_L_letter_13 : decode cd_L_letter 13 = .ok (.iconst 1, 1) := by decide +kernel
theorem dc_L_letter_14 : decode cd_L_letter 14 = .ok (.ireturn, 1) := by decide +kernel
theorem dc_L_letter_15 : decode cd_L_letter 15 = .ok (.iconst 0, 1) := by decide +kernel
theorem dc_L_letter_16 : decode cd_L_letter 16 = .ok (.ireturn, 1) := by decide +kernel
theorem dc_L_told_0 : decode cd_L_told 0 = .ok (.aload_n 3, 1) := by decide +kernel
theorem dc_L_told_1 : decode cd_L_told 1 = .ok (.iconst 0, 1) := by decide +kernel
theorem dc_L_told_2 : decode cd_L_told 2 = .ok (.aload_n 0, 1) := by decide +kernel
theorem dc_L_told_3 : decode cd_L_told 3 = .ok (.iload_n 1, 1) := by decide +kernel
theorem dc_L_told_4 : decode cd_L_told 4 = .ok (.iload_n 2, 1) := by decide +kernel
theorem dc_L_told_5 : decode cd_L_told 5 = .ok (.invokevirtual 60, 3) := by decide +kernel
theorem dc_L_told_8 : decode cd_L_told 8 = .ok (.lastore, 1) := by decide +kernel
theorem dc_L_told_9 : decode cd_L_told 9 = .ok (.goto 11, 3) := by decide +kernel
theorem dc_L_told_12 : decode cd_L_told 12 = .ok (.astore 4, 2) := by decide +kernel
theorem dc_L_told_14 : decode cd_L_told 14 = .ok (.iconst 1, 1) := by decide +kernel
theorem dc_L_told_15 : decode cd_L_told 15 = .ok (.ireturn, 1) := by decide +kernel
theorem dc_L_told_16 : decode cd_L_told 16 = .ok (.astore 4, 2) := by decide +kernel
theorem dc_L_told_18 : decode cd_L_told 18 = .ok (.iconst 2, 1) := by decide +kernel
theorem dc_L_told_19 : decode cd_L_told 19 = .ok (.ireturn, 1) := by decide +kernel
theorem dc_L_told_20 : decode cd_L_told 20 = .ok (.iconst 0, 1) := by decide +kernel
theorem dc_L_told_21 : decode cd_L_told 21 = .ok (.ireturn, 1) := by decide +kernel
