theorem d_O_expandForm_33 : decode b_O_expandForm 33 = .ok (.invokevirtual 175, 3) := by decide +kernel
theorem d_O_expandForm_36 : decode b_O_expandForm 36 = .ok (.istore_n 3, 1) := by decide +kernel
theorem d_O_expandForm_37 : decode b_O_expandForm 37 = .ok (.iinc 2 1, 3) := by decide +kernel
theorem d_O_expandForm_40 : decode b_O_expandForm 40 = .ok (.goto (-19), 3) := by decide +kernel
theorem d_O_expandForm_43 : decode b_O_expandForm 43 = .ok (.iload_n 1, 1) := by decide +kernel
theorem d_O_expandForm_44 : decode b_O_expandForm 44 = .ok (.iconst 3, 1) := by decide +kernel
theorem d_O_expandForm_45 : decode b_O_expandForm 45 = .ok (.if_icmp .ne 33, 3) := by decide +kernel
theorem d_O_expandForm_48 : decode b_O_expandForm 48 = .ok (.iload_n 2, 1) := by decide +kernel
theorem d_O_expandForm_49 : decode b_O_expandForm 49 = .ok (.iconst 2, 1) := by decide +kernel
theorem d_O_expandForm_50 : decode b_O_expandForm 50 = .ok (.if_icmp .ne 24, 3) := by decide +kernel
theorem d_O_expandForm_53 : decode b_O_expandForm 53 = .ok (.aload_n 0, 1) := by decide +kernel
theorem d_O_expandForm_54 : decode b_O_expandForm 54 = .ok (.getfield 48, 3) := by decide +kernel
theorem d_O_expandForm_57 : decode b_O_expandForm 57 = .ok (.aload_n 0, 1) := by decide +kernel
theorem d_O_expandForm_58 : decode b_O_expandForm 58 = .ok (.getfield 182, 3) := by decide +kernel
theorem d_O_expandForm_61 : decode b_O_expandForm 61 = .ok (.iconst 2, 1) := by decide +kernel
theorem d_O_expandForm_62 : decode b_O_expandForm 62 = .ok (.iadd, 1) := by decide +kernel
theorem d_O_expandForm_63 : decode b_O_expandForm 63 = .ok (.iaload, 1) := by decide +kernel
theorem d_O_expandForm_64 : decode b_O_expandForm 64 = .ok (.invokestatic 86, 3) := by decide +kernel
theorem d_O_expandForm_67 : decode b_O_expandForm 67 = .ok (.ifCond .eq 7, 3) := by decide +kernel
theorem d_O_expandForm_70 : decode b_O_expandForm 70 = .ok (.iconst 1, 1) := by decide +kernel
theorem d_O_expandForm_71 : decode b_O_expandForm 71 = .ok (.goto 35, 3) := by decide +kernel
theorem d_O_expandForm_74 : decode b_O_expandForm 74 = .ok (.iconst 0, 1) := by decide +kernel
theorem d_O_expandForm_75 : decode b_O_expandForm 75 = .ok (.goto 31, 3) := by decide +kernel
theorem d_O_expandForm_78 : decode b_O_expandForm 78 = .ok (.iload_n 1, 1) := by decide +kernel
theorem d_O_expandForm_79 : decode b_O_expandForm 79 = .ok (.iconst 4, 1) := by decide +kernel
theorem d_O_expandForm_80 : decode b_O_expandForm 80 = .ok (.if_icmp .ne 16, 3) := by decide +kernel
theorem d_O_expandForm_83 : decode b_O_expandForm 83 = .ok (.iload_n 2, 1) := by decide +kernel
theorem d_O_expandForm_84 : decode b_O_expandForm 84 = .ok (.iconst 3, 1) := by decide +kernel
theorem d_O_expandForm_85 : decode b_O_expandForm 85 = .ok (.if_icmp .ne 7, 3) := by decide +kernel
theorem d_O_expandForm_88 : decode b_O_expandForm 88 = .ok (.iconst 1, 1) := by decide +kernel
theorem d_O_expandForm_89 : decode b_O_expandForm 89 = .ok (.goto 17, 3) := by decide +kernel
theorem d_O_expandForm_92 : decode b_O_expandForm 92 = .ok (.iconst 0, 1) := by decide +kernel
theorem d_O_expandForm_93 : decode b_O_expandForm 93 = .ok (.goto 13, 3) := by decide +kernel
theorem d_O_expandForm_96 : decode b_O_expandForm 96 = .ok (.iload_n 2, 1) := by decide +kernel
theorem d_O_expandForm_97 : decode b_O_expandForm 97 = .ok (.iconst 1, 1) := by decide +kernel
theorem d_O_expandForm_98 : decode b_O_expandForm 98 = .ok (.if_icmp .ne 7, 3) := by decide +kernel
theorem d_O_expandForm_101 : decode b_O_expandForm 101 = .ok (.iconst 1, 1) := by decide +kernel
theorem d_O_expandForm_102 : decode b_O_expandForm 102 = .ok (.goto 4, 3) := by decide +kernel
theorem d_O_expandForm_105 : decode b_O_expandForm 105 = .ok (.iconst 0, 1) := by decide +kernel
theorem d_O_expandForm_106 : decode b_O_expandForm 106 = .ok (.istore 4, 2) := by decide +kernel
theorem d_O_expandForm_108 : decode b_O_expandForm 108 = .ok (.iload 4, 2) := by decide +kernel
theorem d_O_expandForm_110 : decode b_O_expandForm 110 = .ok (.ifCond .ne 9, 3) := by decide +kernel
theorem d_O_expandForm_113 : decode b_O_expandForm 113 = .ok (.aload_n 0, 1) := by decide +kernel
theorem d_O_expandForm_114 : decode b_O_expandForm 114 = .ok (.iconst 2, 1) := by decide +kernel
theorem d_O_expandForm_115 : decode b_O_expandForm 115 = .ok (.putfield 223, 3) := by decide +kernel
theorem d_O_expandForm_118 : decode b_O_expandForm 118 = .ok (.return_, 1) := by decide +kernel
theorem d_O_expandForm_119 : decode b_O_expandForm 119 = .ok (.aload_n 0, 1) := by decide +kernel
theorem d_O_expandForm_120 : decode b_O_expandForm 120 = .ok (.iconst 1, 1) := by decide +kernel
theorem d_O_expandForm_121 : decode b_O_expandForm 121 = .ok (.invokevirtual 245, 3) := by decide +kernel
theorem d_O_expandForm_124 : decode b_O_expandForm 124 = .ok (.aload_n 0, 1) := by decide +kernel
theorem d_O_expandForm_125 : decode b_O_expandForm 125 = .ok (.iload_n 1, 1) := by decide +kernel
theorem d_O_expandForm_126 : decode b_O_expandForm 126 = .ok (.invokevirtual 245, 3) := by decide +kernel
theorem d_O_expandForm_129 : decode b_O_expandForm 129 = .ok (.iload_n 1, 1) := by decide +kernel
theorem d_O_expandForm_130 : decode b_O_expandForm 130 = .ok (.iconst 5, 1) := by decide +kernel
theorem d_O_expandForm_131 : decode b_O_expandForm 131 = .ok (.if_icmp .ne 85, 3) := by decide +kernel
theorem d_O_expandForm_134 : decode b_O_expandForm 134 = .ok (.aload_n 0, 1) := by decide +kernel
theorem d_O_expandForm_135 : decode b_O_expandForm 135 = .ok (.getfield 182, 3) := by decide +kernel
theorem d_O_expandForm_138 : decode b_O_expandForm 138 = .ok (.iconst 2, 1) := by decide +kernel
theorem d_O_expandForm_139 : decode b_O_expandForm 139 = .ok (.iadd, 1) := by decide +kernel
theorem d_O_expandForm_140 : decode b_O_expandForm 140 = .ok (.istore 5, 2) := by decide +kernel
theorem d_O_expandForm_142 : decode b_O_expandForm 142 = .ok (.iload 5, 2) := by decide +kernel
theorem d_O_expandForm_144 : decode b_O_expandForm 144 = .ok (.iload_n 3, 1) := by decide +kernel
theorem d_O_expandForm_145 : decode b_O_expandForm 145 = .ok (.if_icmp .ge 58, 3) := by decide +kernel
theorem d_O_expandForm_148 : decode b_O_expandForm 148 = .ok (.aload_n 0, 1) := by decide +kernel
theorem d_O_expandForm_149 : decode b_O_expandForm 149 = .ok (.getfield 48, 3) := by decide +kernel
theorem d_O_expandForm_152 : decode b_O_expandForm 152 = .ok (.iload 5, 2) := by decide +kernel
theorem d_O_expandForm_154 : decode b_O_expandForm 154 = .ok (.iaload, 1) := by decide +kernel
theorem d_O_expandForm_155 : decode b_O_expandForm 155 = .ok (.istore 6, 2) := by decide +kernel
theorem d_O_expandForm_157 : decode b_O_expandForm 157 = .ok (.aload_n 0, 1) := by decide +kernel
theorem d_O_expandForm_158 : decode b_O_expandForm 158 = .ok (.iload 6, 2) := by decide +kernel
theorem d_O_expandForm_160 : decode b_O_expandForm 160 = .ok (.invokestatic 86, 3) := by decide +kernel
theorem d_O_expandForm_163 : decode b_O_expandForm 163 = .ok (.ifCond .eq 14, 3) := by decide +kernel
theorem d_O_expandForm_166 : decode b_O_expandForm 166 = .ok (.bipush 100, 2) := by decide +kernel
theorem d_O_expandForm_168 : decode b_O_expandForm 168 = .ok (.iload 6, 2) := by decide +kernel
theorem d_O_expandForm_170 : decode b_O_expandForm 170 = .ok (.invokestatic 106, 3) := by decide +kernel
theorem d_O_expandForm_173 : decode b_O_expandForm 173 = .ok (.iadd, 1) := by decide +kernel
theorem d_O_expandForm_174 : decode b_O_expandForm 174 = .ok (.goto 20, 3) := by decide +kernel
theorem d_O_expandForm_177 : decode b_O_expandForm 177 = .ok (.iload 6, 2) := by decide +kernel
theorem d_O_expandForm_179 : decode b_O_expandForm 179 = .ok (.invokestatic 90, 3) := by decide +kernel
theorem d_O_expandForm_182 : decode b_O_expandForm 182 = .ok (.ifCond .eq 10, 3) := by decide +kernel
theorem d_O_expandForm_185 : decode b_O_expandForm 185 = .ok (.iconst 2, 1) := by decide +kernel
theorem d_O_expandForm_186 : decode b_O_expandForm 186 = .ok (.iload 6, 2) := by decide +kernel
theorem d_O_expandForm_188 : decode b_O_expandForm 188 = .ok (.isub, 1) := by decide +kernel
theorem d_O_expandForm_189 : decode b_O_expandForm 189 = .ok (.goto 5, 3) := by decide +kernel
theorem d_O_expandForm_192 : decode b_O_expandForm 192 = .ok (.iload 6, 2) := by decide +kernel
theorem d_O_expandForm_194 : decode b_O_expandForm 194 = .ok (.invokevirtual 245, 3) := by decide +kernel
theorem d_O_expandForm_197 : decode b_O_expandForm 197 = .ok (.iinc 5 1, 3) := by decide +kernel
theorem d_O_expandForm_200 : decode b_O_expandForm 200 = .ok (.goto (-58), 3) := by decide +kernel
theorem d_O_expandForm_203 : decode b_O_expandForm 203 = .ok (.aload_n 0, 1) := by decide +kernel
theorem d_O_expandForm_204 : decode b_O_expandForm 204 = .ok (.iconst 2, 1) := by decide +kernel
theorem d_O_expandForm_205 : decode b_O_expandForm 205 = .ok (.invokevirtual 245, 3) := by decide +kernel
theorem d_O_expandForm_208 : decode b_O_expandForm 208 = .ok (.aload_n 0, 1) := by decide +kernel
theorem d_O_expandForm_209 : decode b_O_expandForm 209 = .ok (.iload_n 3, 1) := by decide +kernel
theorem d_O_expandForm_210 : decode b_O_expandForm 210 = .ok (.iconst 1, 1) := by decide +kernel
theorem d_O_expandForm_211 : decode b_O_expandForm 211 = .ok (.iadd, 1) := by decide +kernel
theorem d_O_expandForm_212 : decode b_O_expandForm 212 = .ok (.putfield 182, 3) := by decide +kernel
theorem d_O_expandForm_215 : decode b_O_expandForm 215 = .ok (.return_, 1) := by decide +kernel
theorem d_O_expandForm_216 : decode b_O_expandForm 216 = .ok (.aload_n 0, 1) := by decide +kernel
theorem d_O_expandForm_217 : decode b_O_expandForm 217 = .ok (.iload_n 1, 1) := by decide +kernel
theorem d_O_expandForm_218 : decode b_O_expandForm 218 = .ok (.iconst 3, 1) := by decide +kernel
theorem d_O_expandForm_219 : decode b_O_expandForm 219 = .ok (.if_icmp .ne 7, 3) := by decide +kernel
theorem d_O_expandForm_222 : decode b_O_expandForm 222 = .ok (.iconst 1, 1) := by decide +kernel
theorem d_O_expandForm_223 : decode b_O_expandForm 223 = .ok (.goto 4, 3) := by decide +kernel
theorem d_O_expandForm_226 : decode b_O_expandForm 226 = .ok (.iconst 0, 1) := by decide +kernel
theorem d_O_expandForm_227 : decode b_O_expandForm 227 = .ok (.invokevirtual 251, 3) := by decide +kernel
theorem d_O_expandForm_230 : decode b_O_expandForm 230 = .ok (.iload_n 1, 1) := by decide +kernel
theorem d_O_expandForm_231 : decode b_O_expandForm 231 = .ok (.iconst 3, 1) := by decide +kernel
theorem d_O_expandForm_232 : decode b_O_expandForm 232 = .ok (.if_icmp .ne 33, 3) := by decide +kernel
theorem d_O_expandForm_235 : decode b_O_expandForm 235 = .ok (.aload_n 0, 1) := by decide +kernel
theorem d_O_expandForm_236 : decode b_O_expandForm 236 = .ok (.getfield 66, 3) := by decide +kernel
theorem d_O_expandForm_239 : decode b_O_expandForm 239 = .ok (.aload_n 0, 1) := by decide +kernel
theorem d_O_expandForm_240 : decode b_O_expandForm 240 = .ok (.getfield 239, 3) := by decide +kernel
theorem d_O_expandForm_243 : decode b_O_expandForm 243 = .ok (.aload_n 0, 1) := by decide +kernel
theorem d_O_expandForm_244 : decode b_O_expandForm 244 = .ok (.getfield 48, 3) := by decide +kernel
theorem d_O_expandForm_247 : decode b_O_expandForm 247 = .ok (.aload_n 0, 1) := by decide +kernel
theorem d_O_expandForm_248 : decode b_O_expandForm 248 = .ok (.getfield 182, 3) := by decide +kernel
theorem d_O_expandForm_251 : decode b_O_expandForm 251 = .ok (.iconst 2, 1) := by decide +kernel
theorem d_O_expandForm_252 : decode b_O_expandForm 252 = .ok (.iadd, 1) := by decide +kernel
theorem d_O_expandForm_253 : decode b_O_expandForm 253 = .ok (.iaload, 1) := by decide +kernel
theorem d_O_expandForm_254 : decode b_O_expandForm 254 = .ok (.iastore, 1) := by decide +kernel
theorem d_O_expandForm_255 : decode b_O_expandForm 255 = .ok (.aload_n 0, 1) := by decide +kernel
theorem d_O_expandForm_256 : decode b_O_expandForm 256 = .ok (.dup, 1) := by decide +kernel
theorem d_O_expandForm_257 : decode b_O_expandForm 257 = .ok (.getfield 239, 3) := by decide +kernel
theorem d_O_expandForm_260 : decode b_O_expandForm 260 = .ok (.iconst 1, 1) := by decide +kernel
theorem d_O_expandForm_261 : decode b_O_expandForm 261 = .ok (.iadd, 1) := by decide +kernel
theorem d_O_expandForm_262 : decode b_O_expandForm 262 = .ok (.putfield 239, 3) := by decide +kernel
theorem d_O_expandForm_265 : decode b_O_expandForm 265 = .ok (.aload_n 0, 1) := by decide +kernel
theorem d_O_expandForm_266 : decode b_O_expandForm 266 = .ok (.iload_n 1, 1) := by decide +kernel
theorem d_O_expandForm_267 : decode b_O_expandForm 267 = .ok (.iconst 3, 1) := by decide +kernel
theorem d_O_expandForm_268 : decode b_O_expandForm 268 = .ok (.if_icmp .ne 12, 3) := by decide +kernel
theorem d_O_expandForm_271 : decode b_O_expandForm 271 = .ok (.aload_n 0, 1) := by decide +kernel
theorem d_O_expandForm_272 : decode b_O_expandForm 272 = .ok (.getfield 182, 3) := by decide +kernel
theorem d_O_expandForm_275 : decode b_O_expandForm 275 = .ok (.iconst 3, 1) := by decide +kernel
theorem d_O_expandForm_276 : decode b_O_expandForm 276 = .ok (.iadd, 1) := by decide +kernel
theorem d_O_expandForm_277 : decode b_O_expandForm 277 = .ok (.goto 9, 3) := by decide +kernel
theorem d_O_expandForm_280 : decode b_O_expandForm 280 = .ok (.aload_n 0, 1) := by decide +kernel
theorem d_O_expandForm_281 : decode b_O_expandForm 281 = .ok (.getfield 182, 3) := by decide +kernel
theorem d_O_expandForm_284 : decode b_O_expandForm 284 = .ok (.iconst 2, 1) := by decide +kernel
theorem d_O_expandForm_285 : decode b_O_expandForm 285 = .ok (.iadd, 1) := by decide +kernel
theorem d_O_expandForm_286 : decode b_O_expandForm 286 = .ok (.putfield 182, 3) := by decide +kernel
theorem d_O_expandForm_289 : decode b_O_expandForm 289 = .ok (.return_, 1) := by decide +kernel
theorem d_O_skip_0 : decode b_O_skip 0 = .ok (.aload_n 0, 1) := by decide +kernel
theorem d_O_skip_1 : decode b_O_skip 1 = .ok (.getfield 48, 3) := by decide +kernel
theorem d_O_skip_4 : decode b_O_skip 4 = .ok (.iload_n 1, 1) := by decide +kernel
theorem d_O_skip_5 : decode b_O_skip 5 = .ok (.iaload, 1) := by decide +kernel
theorem d_O_skip_6 : decode b_O_skip 6 = .ok (.iconst 1, 1) := by decide +kernel
theorem d_O_skip_7 : decode b_O_skip 7 = .ok (.if_icmp .eq 7, 3) := by decide +kernel
theorem d_O_skip_10 : decode b_O_skip 10 = .ok (.iload_n 1, 1) := by decide +kernel
theorem d_O_skip_11 : decode b_O_skip 11 = .ok (.iconst 1, 1) := by decide +kernel
theorem d_O_skip_12 : decode b_O_skip 12 = .ok (.iadd, 1) := by decide +kernel
theorem d_O_skip_13 : decode b_O_skip 13 = .ok (.ireturn, 1) := by decide +kernel
theorem d_O_skip_14 : decode b_O_skip 14 = .ok (.iload_n 1, 1) := by decide +kernel
theorem d_O_skip_15 : decode b_O_skip 15 = .ok (.iconst 1, 1) := by decide +kernel
theorem d_O_skip_16 : decode b_O_skip 16 = .ok (.iadd, 1) := by decide +kernel
theorem d_O_skip_17 : decode b_O_skip 17 = .ok (.istore_n 2, 1) := by decide +kernel
theorem d_O_skip_18 : decode b_O_skip 18 = .ok (.iconst 1, 1) := by decide +kernel
theorem d_O_skip_19 : decode b_O_skip 19 = .ok (.istore_n 3, 1) := by decide +kernel
theorem d_O_skip_20 : decode b_O_skip 20 = .ok (.iload_n 3, 1) := by decide +kernel
theorem d_O_skip_21 : decode b_O_skip 21 = .ok (.ifCond .le 35, 3) := by decide +kernel
theorem d_O_skip_24 : decode b_O_skip 24 = .ok (.aload_n 0, 1) := by decide +kernel
theorem d_O_skip_25 : decode b_O_skip 25 = .ok (.getfield 48, 3) := by decide +kernel
theorem d_O_skip_28 : decode b_O_skip 28 = .ok (.iload_n 2, 1) := by decide +kernel
theorem d_O_skip_29 : decode b_O_skip 29 = .ok (.iaload, 1) := by decide +kernel
theorem d_O_skip_30 : decode b_O_skip 30 = .ok (.iconst 1, 1) := by decide +kernel
theorem d_O_skip_31 : decode b_O_skip 31 = .ok (.if_icmp .ne 6, 3) := by decide +kernel
theorem d_O_skip_34 : decode b_O_skip 34 = .ok (.iinc 3 1, 3) := by decide +kernel
theorem d_O_skip_37 : decode b_O_skip 37 = .ok (.aload_n 0, 1) := by decide +kernel
theorem d_O_skip_38 : decode b_O_skip 38 = .ok (.getfield 48, 3) := by decide +kernel
theorem d_O_skip_41 : decode b_O_skip 41 = .ok (.iload_n 2, 1) := by decide +kernel
theorem d_O_skip_42 : decode b_O_skip 42 = .ok (.iaload, 1) := by decide +kernel
theorem d_O_skip_43 : decode b_O_skip 43 = .ok (.iconst 2, 1) := by decide +kernel
theorem d_O_skip_44 : decode b_O_skip 44 = .ok (.if_icmp .ne 6, 3) := by decide +kernel
theorem d_O_skip_47 : decode b_O_skip 47 = .ok (.iinc 3 (-1), 3) := by decide +kernel
theorem d_O_skip_50 : decode b_O_skip 50 = .ok (.iinc 2 1, 3) := by decide +kernel
theorem d_O_skip_53 : decode b_O_skip 53 = .ok (.goto (-33), 3) := by decide +kernel
theorem d_O_skip_56 : decode b_O_skip 56 = .ok (.iload_n 2, 1) := by decide +kernel
theorem d_O_skip_57 : decode b_O_skip 57 = .ok (.ireturn, 1) := by decide +kernel
theorem d_O_openRow_0 : decode b_O_openRow 0 = .ok (.aload_n 0, 1) := by decide +kernel
theorem d_O_openRow_1 : decode b_O_openRow 1 = .ok (.getfield 63, 3) := by decide +kernel
theorem d_O_openRow_4 : decode b_O_openRow 4 = .ok (.aload_n 0, 1) := by decide +kernel
theorem d_O_openRow_5 : decode b_O_openRow 5 = .ok (.getfield 248, 3) := by decide +kernel
theorem d_O_openRow_8 : decode b_O_openRow 8 = .ok (.iload_n 1, 1) := by decide +kernel
theorem d_O_openRow_9 : decode b_O_openRow 9 = .ok (.bastore, 1) := by decide +kernel
theorem d_O_openRow_10 : decode b_O_openRow 10 = .ok (.aload_n 0, 1) := by decide +kernel
theorem d_O_openRow_11 : decode b_O_openRow 11 = .ok (.dup, 1) := by decide +kernel
theorem d_O_openRow_12 : decode b_O_openRow 12 = .ok (.getfield 248, 3) := by decide +kernel
theorem d_O_openRow_15 : decode b_O_openRow 15 = .ok (.iconst 1, 1) := by decide +kernel
theorem d_O_openRow_16 : decode b_O_openRow 16 = .ok (.iadd, 1) := by decide +kernel
theorem d_O_openRow_17 : decode b_O_openRow 17 = .ok (.putfield 248, 3) := by decide +kernel
theorem d_O_openRow_20 : decode b_O_openRow 20 = .ok (.return_, 1) := by decide +kernel
theorem d_O_levelOf_0 : decode b_O_levelOf 0 = .ok (.aload_n 0, 1) := by decide +kernel
theorem d_O_levelOf_1 : decode b_O_levelOf 1 = .ok (.getfield 239, 3) := by decide +kernel
theorem d_O_levelOf_4 : decode b_O_levelOf 4 = .ok (.iconst 1, 1) := by decide +kernel
theorem d_O_levelOf_5 : decode b_O_levelOf 5 = .ok (.isub, 1) := by decide +kernel
theorem d_O_levelOf_6 : decode b_O_levelOf 6 = .ok (.istore_n 2, 1) := by decide +kernel
theorem d_O_levelOf_7 : decode b_O_levelOf 7 = .ok (.iload_n 2, 1) := by decide +kernel
theorem d_O_levelOf_8 : decode b_O_levelOf 8 = .ok (.ifCond .lt 19, 3) := by decide +kernel
theorem d_O_levelOf_11 : decode b_O_levelOf 11 = .ok (.aload_n 0, 1) := by decide +kernel
theorem d_O_levelOf_12 : decode b_O_levelOf 12 = .ok (.getfield 66, 3) := by decide +kernel
theorem d_O_levelOf_15 : decode b_O_levelOf 15 = .ok (.iload_n 2, 1) := by decide +kernel
theorem d_O_levelOf_16 : decode b_O_levelOf 16 = .ok (.iaload, 1) := by decide +kernel
theorem d_O_levelOf_17 : decode b_O_levelOf 17 = .ok (.iload_n 1, 1) := by decide +kernel
theorem d_O_levelOf_18 : decode b_O_levelOf 18 = .ok (.if_icmp .eq 9, 3) := by decide +kernel
theorem d_O_levelOf_21 : decode b_O_levelOf 21 = .ok (.iinc 2 (-1), 3) := by decide +kernel
theorem d_O_levelOf_24 : decode b_O_levelOf 24 = .ok (.goto (-17), 3) := by decide +kernel
theorem d_O_levelOf_27 : decode b_O_levelOf 27 = .ok (.iload_n 2, 1) := by decide +kernel
theorem d_O_levelOf_28 : decode b_O_levelOf 28 = .ok (.ireturn, 1) := by decide +kernel
theorem d_O_replace_0 : decode b_O_replace 0 = .ok (.aload_n 0, 1) := by decide +kernel
theorem d_O_replace_1 : decode b_O_replace 1 = .ok (.getfield 214, 3) := by decide +kernel
theorem d_O_replace_4 : decode b_O_replace 4 = .ok (.iload_n 1, 1) := by decide +kernel
theorem d_O_replace_5 : decode b_O_replace 5 = .ok (.if_icmp .ne 9, 3) := by decide +kernel
theorem d_O_replace_8 : decode b_O_replace 8 = .ok (.aload_n 0, 1) := by decide +kernel
theorem d_O_replace_9 : decode b_O_replace 9 = .ok (.iconst 3, 1) := by decide +kernel
theorem d_O_replace_10 : decode b_O_replace 10 = .ok (.putfield 223, 3) := by decide +kernel
theorem d_O_replace_13 : decode b_O_replace 13 = .ok (.return_, 1) := by decide +kernel
theorem d_O_replace_14 : decode b_O_replace 14 = .ok (.aload_n 0, 1) := by decide +kernel
theorem d_O_replace_15 : decode b_O_replace 15 = .ok (.getfield 48, 3) := by decide +kernel
theorem d_O_replace_18 : decode b_O_replace 18 = .ok (.aload_n 0, 1) := by decide +kernel
theorem d_O_replace_19 : decode b_O_replace 19 = .ok (.getfield 182, 3) := by decide +kernel
theorem d_O_replace_22 : decode b_O_replace 22 = .ok (.iconst 1, 1) := by decide +kernel
theorem d_O_replace_23 : decode b_O_replace 23 = .ok (.iadd, 1) := by decide +kernel
theorem d_O_replace_24 : decode b_O_replace 24 = .ok (.iaload, 1) := by decide +kernel
theorem d_O_replace_25 : decode b_O_replace 25 = .ok (.invokestatic 106, 3) := by decide +kernel
theorem d_O_replace_28 : decode b_O_replace 28 = .ok (.istore_n 2, 1) := by decide +kernel
theorem d_O_replace_29 : decode b_O_replace 29 = .ok (.iconst 0, 1) := by decide +kernel
theorem d_O_replace_30 : decode b_O_replace 30 = .ok (.istore_n 3, 1) := by decide +kernel
theorem d_O_replace_31 : decode b_O_replace 31 = .ok (.iload_n 3, 1) := by decide +kernel
theorem d_O_replace_32 : decode b_O_replace 32 = .ok (.aload_n 0, 1) := by decide +kernel
theorem d_O_replace_33 : decode b_O_replace 33 = .ok (.getfield 150, 3) := by decide +kernel
theorem d_O_replace_36 : decode b_O_replace 36 = .ok (.if_icmp .ge 27, 3) := by decide +kernel
theorem d_O_replace_39 : decode b_O_replace 39 = .ok (.aload_n 0, 1) := by decide +kernel
theorem d_O_replace_40 : decode b_O_replace 40 = .ok (.getfield 17, 3) := by decide +kernel
theorem d_O_replace_43 : decode b_O_replace 43 = .ok (.iload_n 3, 1) := by decide +kernel
theorem d_O_replace_44 : decode b_O_replace 44 = .ok (.iaload, 1) := by decide +kernel
theorem d_O_replace_45 : decode b_O_replace 45 = .ok (.iload_n 2, 1) := by decide +kernel
theorem d_O_replace_46 : decode b_O_replace 46 = .ok (.if_icmp .ne 11, 3) := by decide +kernel
theorem d_O_replace_49 : decode b_O_replace 49 = .ok (.aload_n 0, 1) := by decide +kernel
theorem d_O_replace_50 : decode b_O_replace 50 = .ok (.iload_n 3, 1) := by decide +kernel
theorem d_O_replace_51 : decode b_O_replace 51 = .ok (.invokevirtual 226, 3) := by decide +kernel
theorem d_O_replace_54 : decode b_O_replace 54 = .ok (.ifCond .ne 9, 3) := by decide +kernel
theorem d_O_replace_57 : decode b_O_replace 57 = .ok (.iinc 3 1, 3) := by decide +kernel
theorem d_O_replace_60 : decode b_O_replace 60 = .ok (.goto (-29), 3) := by decide +kernel
theorem d_O_replace_63 : decode b_O_replace 63 = .ok (.iload_n 3, 1) := by decide +kernel
theorem d_O_replace_64 : decode b_O_replace 64 = .ok (.aload_n 0, 1) := by decide +kernel
theorem d_O_replace_65 : decode b_O_replace 65 = .ok (.getfield 150, 3) := by decide +kernel
theorem d_O_replace_68 : decode b_O_replace 68 = .ok (.if_icmp .eq 12, 3) := by decide +kernel
theorem d_O_replace_71 : decode b_O_replace 71 = .ok (.aload_n 0, 1) := by decide +kernel
theorem d_O_replace_72 : decode b_O_replace 72 = .ok (.iload_n 3, 1) := by decide +kernel
theorem d_O_replace_73 : decode b_O_replace 73 = .ok (.iconst 0, 1) := by decide +kernel
theorem d_O_replace_74 : decode b_O_replace 74 = .ok (.invokevirtual 229, 3) := by decide +kernel
theorem d_O_replace_77 : decode b_O_replace 77 = .ok (.ifCond .ne 9, 3) := by decide +kernel
theorem d_O_replace_80 : decode b_O_replace 80 = .ok (.aload_n 0, 1) := by decide +kernel
theorem d_O_replace_81 : decode b_O_replace 81 = .ok (.iconst 2, 1) := by decide +kernel
theorem d_O_replace_82 : decode b_O_replace 82 = .ok (.putfield 223, 3) := by decide +kernel
theorem d_O_replace_85 : decode b_O_replace 85 = .ok (.return_, 1) := by decide +kernel
theorem d_O_replace_86 : decode b_O_replace 86 = .ok (.aload_n 0, 1) := by decide +kernel
theorem d_O_replace_87 : decode b_O_replace 87 = .ok (.iconst 0, 1) := by decide +kernel
theorem d_O_replace_88 : decode b_O_replace 88 = .ok (.putfield 205, 3) := by decide +kernel
theorem d_O_replace_91 : decode b_O_replace 91 = .ok (.aload_n 0, 1) := by decide +kernel
theorem d_O_replace_92 : decode b_O_replace 92 = .ok (.iconst 0, 1) := by decide +kernel
theorem d_O_replace_93 : decode b_O_replace 93 = .ok (.putfield 199, 3) := by decide +kernel
theorem d_O_replace_96 : decode b_O_replace 96 = .ok (.aload_n 0, 1) := by decide +kernel
theorem d_O_replace_97 : decode b_O_replace 97 = .ok (.iconst 0, 1) := by decide +kernel
theorem d_O_replace_98 : decode b_O_replace 98 = .ok (.putfield 193, 3) := by decide +kernel
theorem d_O_replace_101 : decode b_O_replace 101 = .ok (.aload_n 0, 1) := by decide +kernel
theorem d_O_replace_102 : decode b_O_replace 102 = .ok (.iconst 0, 1) := by decide +kernel
theorem d_O_replace_103 : decode b_O_replace 103 = .ok (.putfield 196, 3) := by decide +kernel
theorem d_O_replace_106 : decode b_O_replace 106 = .ok (.aload_n 0, 1) := by decide +kernel
theorem d_O_replace_107 : decode b_O_replace 107 = .ok (.iconst 0, 1) := by decide +kernel
theorem d_O_replace_108 : decode b_O_replace 108 = .ok (.putfield 202, 3) := by decide +kernel
theorem d_O_replace_111 : decode b_O_replace 111 = .ok (.aload_n 0, 1) := by decide +kernel
theorem d_O_replace_112 : decode b_O_replace 112 = .ok (.iload_n 3, 1) := by decide +kernel
theorem d_O_replace_113 : decode b_O_replace 113 = .ok (.iconst 1, 1) := by decide +kernel
theorem d_O_replace_114 : decode b_O_replace 114 = .ok (.invokevirtual 229, 3) := by decide +kernel
theorem d_O_replace_117 : decode b_O_replace 117 = .ok (.pop, 1) := by decide +kernel
theorem d_O_replace_118 : decode b_O_replace 118 = .ok (.aload_n 0, 1) := by decide +kernel
theorem d_O_replace_119 : decode b_O_replace 119 = .ok (.getfield 202, 3) := by decide +kernel
theorem d_O_replace_122 : decode b_O_replace 122 = .ok (.ifCond .eq 9, 3) := by decide +kernel
theorem d_O_replace_125 : decode b_O_replace 125 = .ok (.aload_n 0, 1) := by decide +kernel
theorem d_O_replace_126 : decode b_O_replace 126 = .ok (.iconst 3, 1) := by decide +kernel
theorem d_O_replace_127 : decode b_O_replace 127 = .ok (.putfield 223, 3) := by decide +kernel
theorem d_O_replace_130 : decode b_O_replace 130 = .ok (.return_, 1) := by decide +kernel
theorem d_O_replace_131 : decode b_O_replace 131 = .ok (.aload_n 0, 1) := by decide +kernel
theorem d_O_replace_132 : decode b_O_replace 132 = .ok (.dup, 1) := by decide +kernel
theorem d_O_replace_133 : decode b_O_replace 133 = .ok (.getfield 214, 3) := by decide +kernel
theorem d_O_replace_136 : decode b_O_replace 136 = .ok (.iconst 1, 1) := by decide +kernel
theorem d_O_replace_137 : decode b_O_replace 137 = .ok (.iadd, 1) := by decide +kernel
theorem d_O_replace_138 : decode b_O_replace 138 = .ok (.putfield 214, 3) := by decide +kernel
theorem d_O_replace_141 : decode b_O_replace 141 = .ok (.aload_n 0, 1) := by decide +kernel
theorem d_O_replace_142 : decode b_O_replace 142 = .ok (.aload_n 0, 1) := by decide +kernel
theorem d_O_replace_143 : decode b_O_replace 143 = .ok (.getfield 182, 3) := by decide +kernel
theorem d_O_replace_146 : decode b_O_replace 146 = .ok (.invokevirtual 175, 3) := by decide +kernel
theorem d_O_replace_149 : decode b_O_replace 149 = .ok (.istore 4, 2) := by decide +kernel
theorem d_O_replace_151 : decode b_O_replace 151 = .ok (.aload_n 0, 1) := by decide +kernel
theorem d_O_replace_152 : decode b_O_replace 152 = .ok (.getfield 233, 3) := by decide +kernel
theorem d_O_replace_155 : decode b_O_replace 155 = .ok (.iload 4, 2) := by decide +kernel
theorem d_O_replace_157 : decode b_O_replace 157 = .ok (.isub, 1) := by decide +kernel
theorem d_O_replace_158 : decode b_O_replace 158 = .ok (.istore 5, 2) := by decide +kernel
theorem d_O_replace_160 : decode b_O_replace 160 = .ok (.aload_n 0, 1) := by decide +kernel
theorem d_O_replace_161 : decode b_O_replace 161 = .ok (.getfield 205, 3) := by decide +kernel
theorem d_O_replace_164 : decode b_O_replace 164 = .ok (.iload 4, 2) := by decide +kernel
theorem d_O_replace_166 : decode b_O_replace 166 = .ok (.if_icmp .gt 44, 3) := by decide +kernel
theorem d_O_replace_169 : decode b_O_replace 169 = .ok (.iconst 0, 1) := by decide +kernel
theorem d_O_replace_170 : decode b_O_replace 170 = .ok (.istore 6, 2) := by decide +kernel
theorem d_O_replace_172 : decode b_O_replace 172 = .ok (.iload 6, 2) := by decide +kernel
theorem d_O_replace_174 : decode b_O_replace 174 = .ok (.iload 5, 2) := by decide +kernel
theorem d_O_replace_176 : decode b_O_replace 176 = .ok (.if_icmp .ge 31, 3) := by decide +kernel
theorem d_O_replace_179 : decode b_O_replace 179 = .ok (.aload_n 0, 1) := by decide +kernel
theorem d_O_replace_180 : decode b_O_replace 180 = .ok (.getfield 48, 3) := by decide +kernel
theorem d_O_replace_183 : decode b_O_replace 183 = .ok (.aload_n 0, 1) := by decide +kernel
theorem d_O_replace_184 : decode b_O_replace 184 = .ok (.getfield 205, 3) := by decide +kernel
theorem d_O_replace_187 : decode b_O_replace 187 = .ok (.iload 6, 2) := by decide +kernel
theorem d_O_replace_189 : decode b_O_replace 189 = .ok (.iadd, 1) := by decide +kernel
theorem d_O_replace_190 : decode b_O_replace 190 = .ok (.aload_n 0, 1) := by decide +kernel
theorem d_O_replace_191 : decode b_O_replace 191 = .ok (.getfield 48, 3) := by decide +kernel
theorem d_O_replace_194 : decode b_O_replace 194 = .ok (.iload 4, 2) := by decide +kernel
theorem d_O_replace_196 : decode b_O_replace 196 = .ok (.iload 6, 2) := by decide +kernel
theorem d_O_replace_198 : decode b_O_replace 198 = .ok (.iadd, 1) := by decide +kernel
theorem d_O_replace_199 : decode b_O_replace 199 = .ok (.iaload, 1) := by decide +kernel
theorem d_O_replace_200 : decode b_O_replace 200 = .ok (.iastore, 1) := by decide +kernel
theorem d_O_replace_201 : decode b_O_replace 201 = .ok (.iinc 6 1, 3) := by decide +kernel
theorem d_O_replace_204 : decode b_O_replace 204 = .ok (.goto (-32), 3) := by decide +kernel
theorem d_O_replace_207 : decode b_O_replace 207 = .ok (.goto 42, 3) := by decide +kernel
theorem d_O_replace_210 : decode b_O_replace 210 = .ok (.iload 5, 2) := by decide +kernel
theorem d_O_replace_212 : decode b_O_replace 212 = .ok (.iconst 1, 1) := by decide +kernel
theorem d_O_replace_213 : decode b_O_replace 213 = .ok (.isub, 1) := by decide +kernel
theorem d_O_replace_214 : decode b_O_replace 214 = .ok (.istore 6, 2) := by decide +kernel
theorem d_O_replace_216 : decode b_O_replace 216 = .ok (.iload 6, 2) := by decide +kernel
theorem d_O_replace_218 : decode b_O_replace 218 = .ok (.ifCond .lt 31, 3) := by decide +kernel
theorem d_O_replace_221 : decode b_O_replace 221 = .ok (.aload_n 0, 1) := by decide +kernel
theorem d_O_replace_222 : decode b_O_replace 222 = .ok (.getfield 48, 3) := by decide +kernel
theorem d_O_replace_225 : decode b_O_replace 225 = .ok (.aload_n 0, 1) := by decide +kernel
theorem d_O_replace_226 : decode b_O_replace 226 = .ok (.getfield 205, 3) := by decide +kernel
theorem d_O_replace_229 : decode b_O_replace 229 = .ok (.iload 6, 2) := by decide +kernel
theorem d_O_replace_231 : decode b_O_replace 231 = .ok (.iadd, 1) := by decide +kernel
theorem d_O_replace_232 : decode b_O_replace 232 = .ok (.aload_n 0, 1) := by decide +kernel
theorem d_O_replace_233 : decode b_O_replace 233 = .ok (.getfield 48, 3) := by decide +kernel
theorem d_O_replace_236 : decode b_O_replace 236 = .ok (.iload 4, 2) := by decide +kernel
theorem d_O_replace_238 : decode b_O_replace 238 = .ok (.iload 6, 2) := by decide +kernel
theorem d_O_replace_240 : decode b_O_replace 240 = .ok (.iadd, 1) := by decide +kernel
theorem d_O_replace_241 : decode b_O_replace 241 = .ok (.iaload, 1) := by decide +kernel
theorem d_O_replace_242 : decode b_O_replace 242 = .ok (.iastore, 1) := by decide +kernel
theorem d_O_replace_243 : decode b_O_replace 243 = .ok (.iinc 6 (-1), 3) := by decide +kernel
theorem d_O_replace_246 : decode b_O_replace 246 = .ok (.goto (-30), 3) := by decide +kernel
theorem d_O_replace_249 : decode b_O_replace 249 = .ok (.iconst 0, 1) := by decide +kernel
theorem d_O_replace_250 : decode b_O_replace 250 = .ok (.istore 6, 2) := by decide +kernel
theorem d_O_replace_252 : decode b_O_replace 252 = .ok (.iload 6, 2) := by decide +kernel
theorem d_O_replace_254 : decode b_O_replace 254 = .ok (.aload_n 0, 1) := by decide +kernel
theorem d_O_replace_255 : decode b_O_replace 255 = .ok (.getfield 205, 3) := by decide +kernel
theorem d_O_replace_258 : decode b_O_replace 258 = .ok (.if_icmp .ge 23, 3) := by decide +kernel
theorem d_O_replace_261 : decode b_O_replace 261 = .ok (.aload_n 0, 1) := by decide +kernel
theorem d_O_replace_262 : decode b_O_replace 262 = .ok (.getfield 48, 3) := by decide +kernel
theorem d_O_replace_265 : decode b_O_replace 265 = .ok (.iload 6, 2) := by decide +kernel
theorem d_O_replace_267 : decode b_O_replace 267 = .ok (.aload_n 0, 1) := by decide +kernel
theorem d_O_replace_268 : decode b_O_replace 268 = .ok (.getfield 51, 3) := by decide +kernel
theorem d_O_replace_271 : decode b_O_replace 271 = .ok (.iload 6, 2) := by decide +kernel
theorem d_O_replace_273 : decode b_O_replace 273 = .ok (.iaload, 1) := by decide +kernel
theorem d_O_replace_274 : decode b_O_replace 274 = .ok (.iastore, 1) := by decide +kernel
theorem d_O_replace_275 : decode b_O_replace 275 = .ok (.iinc 6 1, 3) := by decide +kernel
theorem d_O_replace_278 : decode b_O_replace 278 = .ok (.goto (-26), 3) := by decide +kernel
theorem d_O_replace_281 : decode b_O_replace 281 = .ok (.aload_n 0, 1) := by decide +kernel
theorem d_O_replace_282 : decode b_O_replace 282 = .ok (.aload_n 0, 1) := by decide +kernel
theorem d_O_replace_283 : decode b_O_replace 283 = .ok (.getfield 205, 3) := by decide +kernel
theorem d_O_replace_286 : decode b_O_replace 286 = .ok (.iload 5, 2) := by decide +kernel
theorem d_O_replace_288 : decode b_O_replace 288 = .ok (.iadd, 1) := by decide +kernel
theorem d_O_replace_289 : decode b_O_replace 289 = .ok (.putfield 233, 3) := by decide +kernel
theorem d_O_replace_292 : decode b_O_replace 292 = .ok (.aload_n 0, 1) := by decide +kernel
theorem d_O_replace_293 : decode b_O_replace 293 = .ok (.iconst 0, 1) := by decide +kernel
theorem d_O_replace_294 : decode b_O_replace 294 = .ok (.putfield 182, 3) := by decide +kernel
theorem d_O_replace_297 : decode b_O_replace 297 = .ok (.return_, 1) := by decide +kernel
theorem d_O_matches_0 : decode b_O_matches 0 = .ok (.bipush 64, 2) := by decide +kernel
theorem d_O_matches_2 : decode b_O_matches 2 = .ok (.iload_n 1, 1) := by decide +kernel
theorem d_O_matches_3 : decode b_O_matches 3 = .ok (.imul, 1) := by decide +kernel
theorem d_O_matches_4 : decode b_O_matches 4 = .ok (.istore_n 2, 1) := by decide +kernel
theorem d_O_matches_5 : decode b_O_matches 5 = .ok (.iload_n 2, 1) := by decide +kernel
theorem d_O_matches_6 : decode b_O_matches 6 = .ok (.iconst 2, 1) := by decide +kernel
theorem d_O_matches_7 : decode b_O_matches 7 = .ok (.iadd, 1) := by decide +kernel
theorem d_O_matches_8 : decode b_O_matches 8 = .ok (.istore_n 3, 1) := by decide +kernel
theorem d_O_matches_9 : decode b_O_matches 9 = .ok (.aload_n 0, 1) := by decide +kernel
theorem d_O_matches_10 : decode b_O_matches 10 = .ok (.getfield 182, 3) := by decide +kernel
theorem d_O_matches_13 : decode b_O_matches 13 = .ok (.iconst 2, 1) := by decide +kernel
theorem d_O_matches_14 : decode b_O_matches 14 = .ok (.iadd, 1) := by decide +kernel
theorem d_O_matches_15 : decode b_O_matches 15 = .ok (.istore 4, 2) := by decide +kernel
theorem d_O_matches_17 : decode b_O_matches 17 = .ok (.iconst 1, 1) := by decide +kernel
theorem d_O_matches_18 : decode b_O_matches 18 = .ok (.istore 5, 2) := by decide +kernel
theorem d_O_matches_20 : decode b_O_matches 20 = .ok (.iload 5, 2) := by decide +kernel
theorem d_O_matches_22 : decode b_O_matches 22 = .ok (.ifCond .le 135, 3) := by decide +kernel
theorem d_O_matches_25 : decode b_O_matches 25 = .ok (.aload_n 0, 1) := by decide +kernel
theorem d_O_matches_26 : decode b_O_matches 26 = .ok (.getfield 23, 3) := by decide +kernel
theorem d_O_matches_29 : decode b_O_matches 29 = .ok (.iload_n 3, 1) := by decide +kernel
theorem d_O_matches_30 : decode b_O_matches 30 = .ok (.iaload, 1) := by decide +kernel
theorem d_O_matches_31 : decode b_O_matches 31 = .ok (.istore 6, 2) := by decide +kernel
theorem d_O_matches_33 : decode b_O_matches 33 = .ok (.iload 6, 2) := by decide +kernel
theorem d_O_matches_35 : decode b_O_matches 35 = .ok (.iconst 2, 1) := by decide +kernel
theorem d_O_matches_36 : decode b_O_matches 36 = .ok (.if_icmp .ne 7, 3) := by decide +kernel
theorem d_O_matches_39 : decode b_O_matches 39 = .ok (.iload_n 3, 1) := by decide +kernel
theorem d_O_matches_40 : decode b_O_matches 40 = .ok (.goto 9, 3) := by decide +kernel
theorem d_O_matches_43 : decode b_O_matches 43 = .ok (.aload_n 0, 1) := by decide +kernel
theorem d_O_matches_44 : decode b_O_matches 44 = .ok (.iconst 0, 1) := by decide +kernel
theorem d_O_matches_45 : decode b_O_matches 45 = .ok (.iload_n 3, 1) := by decide +kernel
theorem d_O_matches_46 : decode b_O_matches 46 = .ok (.invokevirtual 185, 3) := by decide +kernel
theorem d_O_matches_49 : decode b_O_matches 49 = .ok (.istore 7, 2) := by decide +kernel
theorem d_O_matches_51 : decode b_O_matches 51 = .ok (.iload 6, 2) := by decide +kernel
theorem d_O_matches_53 : decode b_O_matches 53 = .ok (.iconst 2, 1) := by decide +kernel
theorem d_O_matches_54 : decode b_O_matches 54 = .ok (.if_icmp .eq 41, 3) := by decide +kernel
theorem d_O_matches_57 : decode b_O_matches 57 = .ok (.aload_n 0, 1) := by decide +kernel
theorem d_O_matches_58 : decode b_O_matches 58 = .ok (.getfield 23, 3) := by decide +kernel
theorem d_O_matches_61 : decode b_O_matches 61 = .ok (.iload 7, 2) := by decide +kernel
theorem d_O_matches_63 : decode b_O_matches 63 = .ok (.iaload, 1) := by decide +kernel
theorem d_O_matches_64 : decode b_O_matches 64 = .ok (.bipush 7, 2) := by decide +kernel
theorem d_O_matches_66 : decode b_O_matches 66 = .ok (.if_icmp .ne 29, 3) := by decide +kernel
theorem d_O_matches_69 : decode b_O_matches 69 = .ok (.aload_n 0, 1) := by decide +kernel
theorem d_O_matches_70 : decode b_O_matches 70 = .ok (.iload_n 3, 1) := by decide +kernel
theorem d_O_matches_71 : decode b_O_matches 71 = .ok (.iload 7, 2) := by decide +kernel
theorem d_O_matches_73 : decode b_O_matches 73 = .ok (.iload 4, 2) := by decide +kernel
theorem d_O_matches_75 : decode b_O_matches 75 = .ok (.invokevirtual 189, 3) := by decide +kernel
theorem d_O_matches_78 : decode b_O_matches 78 = .ok (.istore 4, 2) := by decide +kernel
theorem d_O_matches_80 : decode b_O_matches 80 = .ok (.iload 4, 2) := by decide +kernel
theorem d_O_matches_82 : decode b_O_matches 82 = .ok (.ifCond .ge 5, 3) := by decide +kernel
theorem d_O_matches_85 : decode b_O_matches 85 = .ok (.iconst 0, 1) := by decide +kernel
theorem d_O_matches_86 : decode b_O_matches 86 = .ok (.ireturn, 1) := by decide +kernel
theorem d_O_matches_87 : decode b_O_matches 87 = .ok (.iload 7, 2) := by decide +kernel
theorem d_O_matches_89 : decode b_O_matches 89 = .ok (.iconst 1, 1) := by decide +kernel
theorem d_O_matches_90 : decode b_O_matches 90 = .ok (.iadd, 1) := by decide +kernel
theorem d_O_matches_91 : decode b_O_matches 91 = .ok (.istore_n 3, 1) := by decide +kernel
theorem d_O_matches_92 : decode b_O_matches 92 = .ok (.goto (-72), 3) := by decide +kernel
theorem d_O_matches_95 : decode b_O_matches 95 = .ok (.aload_n 0, 1) := by decide +kernel
theorem d_O_matches_96 : decode b_O_matches 96 = .ok (.iload_n 3, 1) := by decide +kernel
theorem d_O_matches_97 : decode b_O_matches 97 = .ok (.iload_n 3, 1) := by decide +kernel
theorem d_O_matches_98 : decode b_O_matches 98 = .ok (.iconst 1, 1) := by decide +kernel
theorem d_O_matches_99 : decode b_O_matches 99 = .ok (.iadd, 1) := by decide +kernel
theorem d_O_matches_100 : decode b_O_matches 100 = .ok (.iload 4, 2) := by decide +kernel
theorem d_O_matches_102 : decode b_O_matches 102 = .ok (.iconst (-1), 1) := by decide +kernel
theorem d_O_matches_103 : decode b_O_matches 103 = .ok (.invokevirtual 178, 3) := by decide +kernel
theorem d_O_matches_106 : decode b_O_matches 106 = .ok (.aload_n 0, 1) := by decide +kernel
theorem d_O_matches_107 : decode b_O_matches 107 = .ok (.getfield 172, 3) := by decide +kernel
theorem d_O_matches_110 : decode b_O_matches 110 = .ok (.ifCond .ge 5, 3) := by decide +kernel
theorem d_O_matches_113 : decode b_O_matches 113 = .ok (.iconst 0, 1) := by decide +kernel
theorem d_O_matches_114 : decode b_O_matches 114 = .ok (.ireturn, 1) := by decide +kernel
theorem d_O_matches_115 : decode b_O_matches 115 = .ok (.aload_n 0, 1) := by decide +kernel
theorem d_O_matches_116 : decode b_O_matches 116 = .ok (.getfield 172, 3) := by decide +kernel
theorem d_O_matches_119 : decode b_O_matches 119 = .ok (.istore 4, 2) := by decide +kernel
theorem d_O_matches_121 : decode b_O_matches 121 = .ok (.iload 6, 2) := by decide +kernel
theorem d_O_matches_123 : decode b_O_matches 123 = .ok (.iconst 1, 1) := by decide +kernel
theorem d_O_matches_124 : decode b_O_matches 124 = .ok (.if_icmp .ne 10, 3) := by decide +kernel
theorem d_O_matches_127 : decode b_O_matches 127 = .ok (.iload 5, 2) := by decide +kernel
theorem d_O_matches_129 : decode b_O_matches 129 = .ok (.iconst 1, 1) := by decide +kernel
theorem d_O_matches_130 : decode b_O_matches 130 = .ok (.iadd, 1) := by decide +kernel
theorem d_O_matches_131 : decode b_O_matches 131 = .ok (.goto 18, 3) := by decide +kernel
theorem d_O_matches_134 : decode b_O_matches 134 = .ok (.iload 6, 2) := by decide +kernel
theorem d_O_matches_136 : decode b_O_matches 136 = .ok (.iconst 2, 1) := by decide +kernel
theorem d_O_matches_137 : decode b_O_matches 137 = .ok (.if_icmp .ne 10, 3) := by decide +kernel
theorem d_O_matches_140 : decode b_O_matches 140 = .ok (.iload 5, 2) := by decide +kernel
theorem d_O_matches_142 : decode b_O_matches 142 = .ok (.iconst 1, 1) := by decide +kernel
theorem d_O_matches_143 : decode b_O_matches 143 = .ok (.isub, 1) := by decide +kernel
theorem d_O_matches_144 : decode b_O_matches 144 = .ok (.goto 5, 3) := by decide +kernel
theorem d_O_matches_147 : decode b_O_matches 147 = .ok (.iload 5, 2) := by decide +kernel
theorem d_O_matches_149 : decode b_O_matches 149 = .ok (.istore 5, 2) := by decide +kernel
theorem d_O_matches_151 : decode b_O_matches 151 = .ok (.iinc 3 1, 3) := by decide +kernel
theorem d_O_matches_154 : decode b_O_matches 154 = .ok (.goto (-134), 3) := by decide +kernel
theorem d_O_matches_157 : decode b_O_matches 157 = .ok (.iconst 1, 1) := by decide +kernel
theorem d_O_matches_158 : decode b_O_matches 158 = .ok (.ireturn, 1) := by decide +kernel
theorem d_O_itemEnd_0 : decode b_O_itemEnd 0 = .ok (.iload_n 2, 1) := by decide +kernel
theorem d_O_itemEnd_1 : decode b_O_itemEnd 1 = .ok (.istore_n 3, 1) := by decide +kernel
theorem d_O_itemEnd_2 : decode b_O_itemEnd 2 = .ok (.iconst 0, 1) := by decide +kernel
theorem d_O_itemEnd_3 : decode b_O_itemEnd 3 = .ok (.istore 4, 2) := by decide +kernel
theorem d_O_itemEnd_5 : decode b_O_itemEnd 5 = .ok (.iconst 1, 1) := by decide +kernel
theorem d_O_itemEnd_6 : decode b_O_itemEnd 6 = .ok (.istore 5, 2) := by decide +kernel
theorem d_O_itemEnd_8 : decode b_O_itemEnd 8 = .ok (.iload 5, 2) := by decide +kernel
theorem d_O_itemEnd_10 : decode b_O_itemEnd 10 = .ok (.ifCond .eq 60, 3) := by decide +kernel
theorem d_O_itemEnd_13 : decode b_O_itemEnd 13 = .ok (.iload_n 1, 1) := by decide +kernel
theorem d_O_itemEnd_14 : decode b_O_itemEnd 14 = .ok (.ifCond .eq 12, 3) := by decide +kernel
theorem d_O_itemEnd_17 : decode b_O_itemEnd 17 = .ok (.aload_n 0, 1) := by decide +kernel
theorem d_O_itemEnd_18 : decode b_O_itemEnd 18 = .ok (.getfield 29, 3) := by decide +kernel
theorem d_O_itemEnd_21 : decode b_O_itemEnd 21 = .ok (.iload_n 3, 1) := by decide +kernel
theorem d_O_itemEnd_22 : decode b_O_itemEnd 22 = .ok (.iaload, 1) := by decide +kernel
theorem d_O_itemEnd_23 : decode b_O_itemEnd 23 = .ok (.goto 9, 3) := by decide +kernel
theorem d_O_itemEnd_26 : decode b_O_itemEnd 26 = .ok (.aload_n 0, 1) := by decide +kernel
theorem d_O_itemEnd_27 : decode b_O_itemEnd 27 = .ok (.getfield 23, 3) := by decide +kernel
theorem d_O_itemEnd_30 : decode b_O_itemEnd 30 = .ok (.iload_n 3, 1) := by decide +kernel
theorem d_O_itemEnd_31 : decode b_O_itemEnd 31 = .ok (.iaload, 1) := by decide +kernel
theorem d_O_itemEnd_32 : decode b_O_itemEnd 32 = .ok (.istore 6, 2) := by decide +kernel
theorem d_O_itemEnd_34 : decode b_O_itemEnd 34 = .ok (.iload 6, 2) := by decide +kernel
theorem d_O_itemEnd_36 : decode b_O_itemEnd 36 = .ok (.iconst 1, 1) := by decide +kernel
theorem d_O_itemEnd_37 : decode b_O_itemEnd 37 = .ok (.if_icmp .ne 6, 3) := by decide +kernel
theorem d_O_itemEnd_40 : decode b_O_itemEnd 40 = .ok (.iinc 4 1, 3) := by decide +kernel
theorem d_O_itemEnd_43 : decode b_O_itemEnd 43 = .ok (.iload 6, 2) := by decide +kernel
theorem d_O_itemEnd_45 : decode b_O_itemEnd 45 = .ok (.iconst 2, 1) := by decide +kernel
theorem d_O_itemEnd_46 : decode b_O_itemEnd 46 = .ok (.if_icmp .ne 6, 3) := by decide +kernel
theorem d_O_itemEnd_49 : decode b_O_itemEnd 49 = .ok (.iinc 4 (-1), 3) := by decide +kernel
theorem d_O_itemEnd_52 : decode b_O_itemEnd 52 = .ok (.iinc 3 1, 3) := by decide +kernel
theorem d_O_itemEnd_55 : decode b_O_itemEnd 55 = .ok (.iload 4, 2) := by decide +kernel
theorem d_O_itemEnd_57 : decode b_O_itemEnd 57 = .ok (.ifCond .le 7, 3) := by decide +kernel
theorem d_O_itemEnd_60 : decode b_O_itemEnd 60 = .ok (.iconst 1, 1) := by decide +kernel
theorem d_O_itemEnd_61 : decode b_O_itemEnd 61 = .ok (.goto 4, 3) := by decide +kernel
theorem d_O_itemEnd_64 : decode b_O_itemEnd 64 = .ok (.iconst 0, 1) := by decide +kernel
theorem d_O_itemEnd_65 : decode b_O_itemEnd 65 = .ok (.istore 5, 2) := by decide +kernel
theorem d_O_itemEnd_67 : decode b_O_itemEnd 67 = .ok (.goto (-59), 3) := by decide +kernel
theorem d_O_itemEnd_70 : decode b_O_itemEnd 70 = .ok (.iload_n 3, 1) := by decide +kernel
theorem d_O_itemEnd_71 : decode b_O_itemEnd 71 = .ok (.ireturn, 1) := by decide +kernel
theorem d_O_matchMany_0 : decode b_O_matchMany 0 = .ok (.iload_n 3, 1) := by decide +kernel
theorem d_O_matchMany_1 : decode b_O_matchMany 1 = .ok (.istore 4, 2) := by decide +kernel
theorem d_O_matchMany_3 : decode b_O_matchMany 3 = .ok (.iconst 0, 1) := by decide +kernel
theorem d_O_matchMany_4 : decode b_O_matchMany 4 = .ok (.istore 5, 2) := by decide +kernel
theorem d_O_matchMany_6 : decode b_O_matchMany 6 = .ok (.aload_n 0, 1) := by decide +kernel
theorem d_O_matchMany_7 : decode b_O_matchMany 7 = .ok (.getfield 48, 3) := by decide +kernel
theorem d_O_matchMany_10 : decode b_O_matchMany 10 = .ok (.iload 4, 2) := by decide +kernel
theorem d_O_matchMany_12 : decode b_O_matchMany 12 = .ok (.iaload, 1) := by decide +kernel
theorem d_O_matchMany_13 : decode b_O_matchMany 13 = .ok (.iconst 2, 1) := by decide +kernel
theorem d_O_matchMany_14 : decode b_O_matchMany 14 = .ok (.if_icmp .eq 34, 3) := by decide +kernel
theorem d_O_matchMany_17 : decode b_O_matchMany 17 = .ok (.aload_n 0, 1) := by decide +kernel
theorem d_O_matchMany_18 : decode b_O_matchMany 18 = .ok (.iload_n 1, 1) := by decide +kernel
theorem d_O_matchMany_19 : decode b_O_matchMany 19 = .ok (.iload_n 2, 1) := by decide +kernel
theorem d_O_matchMany_20 : decode b_O_matchMany 20 = .ok (.iload 4, 2) := by decide +kernel
theorem d_O_matchMany_22 : decode b_O_matchMany 22 = .ok (.iload 5, 2) := by decide +kernel
theorem d_O_matchMany_24 : decode b_O_matchMany 24 = .ok (.invokevirtual 178, 3) := by decide +kernel
theorem d_O_matchMany_27 : decode b_O_matchMany 27 = .ok (.aload_n 0, 1) := by decide +kernel
theorem d_O_matchMany_28 : decode b_O_matchMany 28 = .ok (.getfield 172, 3) := by decide +kernel
theorem d_O_matchMany_31 : decode b_O_matchMany 31 = .ok (.ifCond .ge 5, 3) := by decide +kernel
theorem d_O_matchMany_34 : decode b_O_matchMany 34 = .ok (.iconst (-1), 1) := by decide +kernel
theorem d_O_matchMany_35 : decode b_O_matchMany 35 = .ok (.ireturn, 1) := by decide +kernel
theorem d_O_matchMany_36 : decode b_O_matchMany 36 = .ok (.aload_n 0, 1) := by decide +kernel
theorem d_O_matchMany_37 : decode b_O_matchMany 37 = .ok (.getfield 172, 3) := by decide +kernel
theorem d_O_matchMany_40 : decode b_O_matchMany 40 = .ok (.istore 4, 2) := by decide +kernel
theorem d_O_matchMany_42 : decode b_O_matchMany 42 = .ok (.iinc 5 1, 3) := by decide +kernel
theorem d_O_matchMany_45 : decode b_O_matchMany 45 = .ok (.goto (-39), 3) := by decide +kernel
theorem d_O_matchMany_48 : decode b_O_matchMany 48 = .ok (.iload_n 1, 1) := by decide +kernel
theorem d_O_matchMany_49 : decode b_O_matchMany 49 = .ok (.istore 6, 2) := by decide +kernel
theorem d_O_matchMany_51 : decode b_O_matchMany 51 = .ok (.iload 6, 2) := by decide +kernel
theorem d_O_matchMany_53 : decode b_O_matchMany 53 = .ok (.iload_n 2, 1) := by decide +kernel
theorem d_O_matchMany_54 : decode b_O_matchMany 54 = .ok (.if_icmp .ge 39, 3) := by decide +kernel
theorem d_O_matchMany_57 : decode b_O_matchMany 57 = .ok (.aload_n 0, 1) := by decide +kernel
theorem d_O_matchMany_58 : decode b_O_matchMany 58 = .ok (.getfield 23, 3) := by decide +kernel
theorem d_O_matchMany_61 : decode b_O_matchMany 61 = .ok (.iload 6, 2) := by decide +kernel
theorem d_O_matchMany_63 : decode b_O_matchMany 63 = .ok (.iaload, 1) := by decide +kernel
theorem d_O_matchMany_64 : decode b_O_matchMany 64 = .ok (.invokestatic 86, 3) := by decide +kernel
theorem d_O_matchMany_67 : decode b_O_matchMany 67 = .ok (.ifCond .eq 20, 3) := by decide +kernel
theorem d_O_matchMany_70 : decode b_O_matchMany 70 = .ok (.aload_n 0, 1) := by decide +kernel
theorem d_O_matchMany_71 : decode b_O_matchMany 71 = .ok (.getfield 57, 3) := by decide +kernel
theorem d_O_matchMany_74 : decode b_O_matchMany 74 = .ok (.aload_n 0, 1) := by decide +kernel
theorem d_O_matchMany_75 : decode b_O_matchMany 75 = .ok (.getfield 23, 3) := by decide +kernel
theorem d_O_matchMany_78 : decode b_O_matchMany 78 = .ok (.iload 6, 2) := by decide +kernel
theorem d_O_matchMany_80 : decode b_O_matchMany 80 = .ok (.iaload, 1) := by decide +kernel
theorem d_O_matchMany_81 : decode b_O_matchMany 81 = .ok (.invokestatic 106, 3) := by decide +kernel
theorem d_O_matchMany_84 : decode b_O_matchMany 84 = .ok (.iload 5, 2) := by decide +kernel
theorem d_O_matchMany_86 : decode b_O_matchMany 86 = .ok (.iastore, 1) := by decide +kernel
theorem d_O_matchMany_87 : decode b_O_matchMany 87 = .ok (.iinc 6 1, 3) := by decide +kernel
theorem d_O_matchMany_90 : decode b_O_matchMany 90 = .ok (.goto (-39), 3) := by decide +kernel
theorem d_O_matchMany_93 : decode b_O_matchMany 93 = .ok (.iload 4, 2) := by decide +kernel
theorem d_O_matchMany_95 : decode b_O_matchMany 95 = .ok (.ireturn, 1) := by decide +kernel
theorem d_O_matchPlain_0 : decode b_O_matchPlain 0 = .ok (.iload_n 3, 1) := by decide +kernel
theorem d_O_matchPlain_1 : decode b_O_matchPlain 1 = .ok (.istore 5, 2) := by decide +kernel
theorem d_O_matchPlain_3 : decode b_O_matchPlain 3 = .ok (.iload_n 1, 1) := by decide +kernel
theorem d_O_matchPlain_4 : decode b_O_matchPlain 4 = .ok (.istore 6, 2) := by decide +kernel
theorem d_O_matchPlain_6 : decode b_O_matchPlain 6 = .ok (.iload 6, 2) := by decide +kernel
theorem d_O_matchPlain_8 : decode b_O_matchPlain 8 = .ok (.iload_n 2, 1) := by decide +kernel
theorem d_O_matchPlain_9 : decode b_O_matchPlain 9 = .ok (.if_icmp .ge 160, 3) := by decide +kernel
theorem d_O_matchPlain_12 : decode b_O_matchPlain 12 = .ok (.aload_n 0, 1) := by decide +kernel
theorem d_O_matchPlain_13 : decode b_O_matchPlain 13 = .ok (.getfield 23, 3) := by decide +kernel
theorem d_O_matchPlain_16 : decode b_O_matchPlain 16 = .ok (.iload 6, 2) := by decide +kernel
theorem d_O_matchPlain_18 : decode b_O_matchPlain 18 = .ok (.iaload, 1) := by decide +kernel
theorem d_O_matchPlain_19 : decode b_O_matchPlain 19 = .ok (.istore 7, 2) := by decide +kernel
theorem d_O_matchPlain_21 : decode b_O_matchPlain 21 = .ok (.iload 7, 2) := by decide +kernel
theorem d_O_matchPlain_23 : decode b_O_matchPlain 23 = .ok (.bipush 6, 2) := by decide +kernel
theorem d_O_matchPlain_25 : decode b_O_matchPlain 25 = .ok (.if_icmp .eq 11, 3) := by decide +kernel
theorem d_O_matchPlain_28 : decode b_O_matchPlain 28 = .ok (.iload 7, 2) := by decide +kernel
theorem d_O_matchPlain_30 : decode b_O_matchPlain 30 = .ok (.invokestatic 86, 3) := by decide +kernel
theorem d_O_matchPlain_33 : decode b_O_matchPlain 33 = .ok (.ifCond .eq 7, 3) := by decide +kernel
theorem d_O_matchPlain_36 : decode b_O_matchPlain 36 = .ok (.iconst 1, 1) := by decide +kernel
theorem d_O_matchPlain_37 : decode b_O_matchPlain 37 = .ok (.goto 4, 3) := by decide +kernel
theorem d_O_matchPlain_40 : decode b_O_matchPlain 40 = .ok (.iconst 0, 1) := by decide +kernel
theorem d_O_matchPlain_41 : decode b_O_matchPlain 41 = .ok (.istore 8, 2) := by decide +kernel
theorem d_O_matchPlain_43 : decode b_O_matchPlain 43 = .ok (.iload 8, 2) := by decide +kernel
theorem d_O_matchPlain_45 : decode b_O_matchPlain 45 = .ok (.ifCond .eq 22, 3) := by decide +kernel
theorem d_O_matchPlain_48 : decode b_O_matchPlain 48 = .ok (.aload_n 0, 1) := by decide +kernel
theorem d_O_matchPlain_49 : decode b_O_matchPlain 49 = .ok (.getfield 48, 3) := by decide +kernel
theorem d_O_matchPlain_52 : decode b_O_matchPlain 52 = .ok (.iload 5, 2) := by decide +kernel
theorem d_O_matchPlain_54 : decode b_O_matchPlain 54 = .ok (.iaload, 1) := by decide +kernel
theorem d_O_matchPlain_55 : decode b_O_matchPlain 55 = .ok (.iconst 2, 1) := by decide +kernel
theorem d_O_matchPlain_56 : decode b_O_matchPlain 56 = .ok (.if_icmp .eq 7, 3) := by decide +kernel
theorem d_O_matchPlain_59 : decode b_O_matchPlain 59 = .ok (.iconst 1, 1) := by decide +kernel
theorem d_O_matchPlain_60 : decode b_O_matchPlain 60 = .ok (.goto 24, 3) := by decide +kernel
theorem d_O_matchPlain_63 : decode b_O_matchPlain 63 = .ok (.iconst 0, 1) := by decide +kernel
theorem d_O_matchPlain_64 : decode b_O_matchPlain 64 = .ok (.goto 20, 3) := by decide +kernel
theorem d_O_matchPlain_67 : decode b_O_matchPlain 67 = .ok (.aload_n 0, 1) := by decide +kernel
theorem d_O_matchPlain_68 : decode b_O_matchPlain 68 = .ok (.getfield 48, 3) := by decide +kernel
theorem d_O_matchPlain_71 : decode b_O_matchPlain 71 = .ok (.iload 5, 2) := by decide +kernel
theorem d_O_matchPlain_73 : decode b_O_matchPlain 73 = .ok (.iaload, 1) := by decide +kernel
theorem d_O_matchPlain_74 : decode b_O_matchPlain 74 = .ok (.iload 7, 2) := by decide +kernel
theorem d_O_matchPlain_76 : decode b_O_matchPlain 76 = .ok (.if_icmp .ne 7, 3) := by decide +kernel
theorem d_O_matchPlain_79 : decode b_O_matchPlain 79 = .ok (.iconst 1, 1) := by decide +kernel
theorem d_O_matchPlain_80 : decode b_O_matchPlain 80 = .ok (.goto 4, 3) := by decide +kernel
theorem d_O_matchPlain_83 : decode b_O_matchPlain 83 = .ok (.iconst 0, 1) := by decide +kernel
theorem d_O_matchPlain_84 : decode b_O_matchPlain 84 = .ok (.istore 9, 2) := by decide +kernel
theorem d_O_matchPlain_86 : decode b_O_matchPlain 86 = .ok (.iload 9, 2) := by decide +kernel
theorem d_O_matchPlain_88 : decode b_O_matchPlain 88 = .ok (.ifCond .ne 9, 3) := by decide +kernel
theorem d_O_matchPlain_91 : decode b_O_matchPlain 91 = .ok (.aload_n 0, 1) := by decide +kernel
theorem d_O_matchPlain_92 : decode b_O_matchPlain 92 = .ok (.iconst (-1), 1) := by decide +kernel
theorem d_O_matchPlain_93 : decode b_O_matchPlain 93 = .ok (.putfield 172, 3) := by decide +kernel
theorem d_O_matchPlain_96 : decode b_O_matchPlain 96 = .ok (.return_, 1) := by decide +kernel
theorem d_O_matchPlain_97 : decode b_O_matchPlain 97 = .ok (.iload 7, 2) := by decide +kernel
theorem d_O_matchPlain_99 : decode b_O_matchPlain 99 = .ok (.invokestatic 86, 3) := by decide +kernel
theorem d_O_matchPlain_102 : decode b_O_matchPlain 102 = .ok (.ifCond .eq 41, 3) := by decide +kernel
theorem d_O_matchPlain_105 : decode b_O_matchPlain 105 = .ok (.iload 4, 2) := by decide +kernel
theorem d_O_matchPlain_107 : decode b_O_matchPlain 107 = .ok (.ifCond .ge 18, 3) := by decide +kernel
theorem d_O_matchPlain_110 : decode b_O_matchPlain 110 = .ok (.aload_n 0, 1) := by decide +kernel
theorem d_O_matchPlain_111 : decode b_O_matchPlain 111 = .ok (.getfield 54, 3) := by decide +kernel
theorem d_O_matchPlain_114 : decode b_O_matchPlain 114 = .ok (.iload 7, 2) := by decide +kernel
theorem d_O_matchPlain_116 : decode b_O_matchPlain 116 = .ok (.invokestatic 106, 3) := by decide +kernel
theorem d_O_matchPlain_119 : decode b_O_matchPlain 119 = .ok (.iload 5, 2) := by decide +kernel
theorem d_O_matchPlain_121 : decode b_O_matchPlain 121 = .ok (.iastore, 1) := by decide +kernel
theorem d_O_matchPlain_122 : decode b_O_matchPlain 122 = .ok (.goto 21, 3) := by decide +kernel
theorem d_O_matchPlain_125 : decode b_O_matchPlain 125 = .ok (.aload_n 0, 1) := by decide +kernel
theorem d_O_matchPlain_126 : decode b_O_matchPlain 126 = .ok (.getfield 60, 3) := by decide +kernel
theorem d_O_matchPlain_129 : decode b_O_matchPlain 129 = .ok (.bipush 64, 2) := by decide +kernel
theorem d_O_matchPlain_131 : decode b_O_matchPlain 131 = .ok (.iload 7, 2) := by decide +kernel
theorem d_O_matchPlain_133 : decode b_O_matchPlain 133 = .ok (.invokestatic 106, 3) := by decide +kernel
theorem d_O_matchPlain_136 : decode b_O_matchPlain 136 = .ok (.imul, 1) := by decide +kernel
theorem d_O_matchPlain_137 : decode b_O_matchPlain 137 = .ok (.iload 4, 2) := by decide +kernel
theorem d_O_matchPlain_139 : decode b_O_matchPlain 139 = .ok (.iadd, 1) := by decide +kernel
theorem d_O_matchPlain_140 : decode b_O_matchPlain 140 = .ok (.iload 5, 2) := by decide +kernel
theorem d_O_matchPlain_142 : decode b_O_matchPlain 142 = .ok (.iastore, 1) := by decide +kernel
theorem d_O_matchPlain_143 : decode b_O_matchPlain 143 = .ok (.iload 8, 2) := by decide +kernel
theorem d_O_matchPlain_145 : decode b_O_matchPlain 145 = .ok (.ifCond .eq 12, 3) := by decide +kernel
theorem d_O_matchPlain_148 : decode b_O_matchPlain 148 = .ok (.aload_n 0, 1) := by decide +kernel
theorem d_O_matchPlain_149 : decode b_O_matchPlain 149 = .ok (.iload 5, 2) := by decide +kernel
theorem d_O_matchPlain_151 : decode b_O_matchPlain 151 = .ok (.invokevirtual 175, 3) := by decide +kernel
theorem d_O_matchPlain_154 : decode b_O_matchPlain 154 = .ok (.goto 7, 3) := by decide +kernel
theorem d_O_matchPlain_157 : decode b_O_matchPlain 157 = .ok (.iload 5, 2) := by decide +kernel
theorem d_O_matchPlain_159 : decode b_O_matchPlain 159 = .ok (.iconst 1, 1) := by decide +kernel
theorem d_O_matchPlain_160 : decode b_O_matchPlain 160 = .ok (.iadd, 1) := by decide +kernel
theorem d_O_matchPlain_161 : decode b_O_matchPlain 161 = .ok (.istore 5, 2) := by decide +kernel
theorem d_O_matchPlain_163 : decode b_O_matchPlain 163 = .ok (.iinc 6 1, 3) := by decide +kernel
theorem d_O_matchPlain_166 : decode b_O_matchPlain 166 = .ok (.goto (-160), 3) := by decide +kernel
theorem d_O_matchPlain_169 : decode b_O_matchPlain 169 = .ok (.aload_n 0, 1) := by decide +kernel
theorem d_O_matchPlain_170 : decode b_O_matchPlain 170 = .ok (.iload 5, 2) := by decide +kernel
theorem d_O_matchPlain_172 : decode b_O_matchPlain 172 = .ok (.putfield 172, 3) := by decide +kernel
theorem d_O_matchPlain_175 : decode b_O_matchPlain 175 = .ok (.return_, 1) := by decide +kernel
theorem d_O_goThrough_0 : decode b_O_goThrough 0 = .ok (.bipush 64, 2) := by decide +kernel
theorem d_O_goThrough_2 : decode b_O_goThrough 2 = .ok (.iload_n 1, 1) := by decide +kernel
theorem d_O_goThrough_3 : decode b_O_goThrough 3 = .ok (.imul, 1) := by decide +kernel
theorem d_O_goThrough_4 : decode b_O_goThrough 4 = .ok (.istore_n 3, 1) := by decide +kernel
theorem d_O_goThrough_5 : decode b_O_goThrough 5 = .ok (.iload_n 3, 1) := by decide +kernel
theorem d_O_goThrough_6 : decode b_O_goThrough 6 = .ok (.aload_n 0, 1) := by decide +kernel
theorem d_O_goThrough_7 : decode b_O_goThrough 7 = .ok (.getfield 26, 3) := by decide +kernel
theorem d_O_goThrough_10 : decode b_O_goThrough 10 = .ok (.iload_n 1, 1) := by decide +kernel
theorem d_O_goThrough_11 : decode b_O_goThrough 11 = .ok (.iaload, 1) := by decide +kernel
theorem d_O_goThrough_12 : decode b_O_goThrough 12 = .ok (.iadd, 1) := by decide +kernel
theorem d_O_goThrough_13 : decode b_O_goThrough 13 = .ok (.istore 4, 2) := by decide +kernel
theorem d_O_goThrough_15 : decode b_O_goThrough 15 = .ok (.iconst 1, 1) := by decide +kernel
theorem d_O_goThrough_16 : decode b_O_goThrough 16 = .ok (.istore 5, 2) := by decide +kernel
theorem d_O_goThrough_18 : decode b_O_goThrough 18 = .ok (.iload_n 3, 1) := by decide +kernel
theorem d_O_goThrough_19 : decode b_O_goThrough 19 = .ok (.iload 4, 2) := by decide +kernel
theorem d_O_goThrough_21 : decode b_O_goThrough 21 = .ok (.if_icmp .ge 132, 3) := by decide +kernel
theorem d_O_goThrough_24 : decode b_O_goThrough 24 = .ok (.aload_n 0, 1) := by decide +kernel
theorem d_O_goThrough_25 : decode b_O_goThrough 25 = .ok (.getfield 29, 3) := by decide +kernel
theorem d_O_goThrough_28 : decode b_O_goThrough 28 = .ok (.iload_n 3, 1) := by decide +kernel
theorem d_O_goThrough_29 : decode b_O_goThrough 29 = .ok (.iaload, 1) := by decide +kernel
theorem d_O_goThrough_30 : decode b_O_goThrough 30 = .ok (.iconst 2, 1) := by decide +kernel
theorem d_O_goThrough_31 : decode b_O_goThrough 31 = .ok (.if_icmp .ne 7, 3) := by decide +kernel
theorem d_O_goThrough_34 : decode b_O_goThrough 34 = .ok (.iload_n 3, 1) := by decide +kernel
theorem d_O_goThrough_35 : decode b_O_goThrough 35 = .ok (.goto 9, 3) := by decide +kernel
theorem d_O_goThrough_38 : decode b_O_goThrough 38 = .ok (.aload_n 0, 1) := by decide +kernel
theorem d_O_goThrough_39 : decode b_O_goThrough 39 = .ok (.iconst 1, 1) := by decide +kernel
theorem d_O_goThrough_40 : decode b_O_goThrough 40 = .ok (.iload_n 3, 1) := by decide +kernel
theorem d_O_goThrough_41 : decode b_O_goThrough 41 = .ok (.invokevirtual 185, 3) := by decide +kernel
theorem d_O_goThrough_44 : decode b_O_goThrough 44 = .ok (.istore 6, 2) := by decide +kernel
theorem d_O_goThrough_46 : decode b_O_goThrough 46 = .ok (.aload_n 0, 1) := by decide +kernel
theorem d_O_goThrough_47 : decode b_O_goThrough 47 = .ok (.getfield 29, 3) := by decide +kernel
theorem d_O_goThrough_50 : decode b_O_goThrough 50 = .ok (.iload_n 3, 1) := by decide +kernel
theorem d_O_goThrough_51 : decode b_O_goThrough 51 = .ok (.iaload, 1) := by decide +kernel
theorem d_O_goThrough_52 : decode b_O_goThrough 52 = .ok (.iconst 2, 1) := by decide +kernel
theorem d_O_goThrough_53 : decode b_O_goThrough 53 = .ok (.if_icmp .eq 15, 3) := by decide +kernel
theorem d_O_goThrough_56 : decode b_O_goThrough 56 = .ok (.aload_n 0, 1) := by decide +kernel
theorem d_O_goThrough_57 : decode b_O_goThrough 57 = .ok (.getfield 29, 3) := by decide +kernel
theorem d_O_goThrough_60 : decode b_O_goThrough 60 = .ok (.iload 6, 2) := by decide +kernel
theorem d_O_goThrough_62 : decode b_O_goThrough 62 = .ok (.iaload, 1) := by decide +kernel
theorem d_O_goThrough_63 : decode b_O_goThrough 63 = .ok (.bipush 7, 2) := by decide +kernel
theorem d_O_goThrough_65 : decode b_O_goThrough 65 = .ok (.if_icmp .eq 23, 3) := by decide +kernel
theorem d_O_goThrough_68 : decode b_O_goThrough 68 = .ok (.iload_n 2, 1) := by decide +kernel
theorem d_O_goThrough_69 : decode b_O_goThrough 69 = .ok (.ifCond .eq 13, 3) := by decide +kernel
theorem d_O_goThrough_72 : decode b_O_goThrough 72 = .ok (.aload_n 0, 1) := by decide +kernel
theorem d_O_goThrough_73 : decode b_O_goThrough 73 = .ok (.iload_n 1, 1) := by decide +kernel
theorem d_O_goThrough_74 : decode b_O_goThrough 74 = .ok (.iload_n 3, 1) := by decide +kernel
theorem d_O_goThrough_75 : decode b_O_goThrough 75 = .ok (.iload_n 3, 1) := by decide +kernel
theorem d_O_goThrough_76 : decode b_O_goThrough 76 = .ok (.iconst 1, 1) := by decide +kernel
theorem d_O_goThrough_77 : decode b_O_goThrough 77 = .ok (.iadd, 1) := by decide +kernel
theorem d_O_goThrough_78 : decode b_O_goThrough 78 = .ok (.iconst 0, 1) := by decide +kernel
theorem d_O_goThrough_79 : decode b_O_goThrough 79 = .ok (.invokevirtual 217, 3) := by decide +kernel
theorem d_O_goThrough_82 : decode b_O_goThrough 82 = .ok (.iinc 3 1, 3) := by decide +kernel
theorem d_O_goThrough_85 : decode b_O_goThrough 85 = .ok (.goto (-67), 3) := by decide +kernel
theorem d_O_goThrough_88 : decode b_O_goThrough 88 = .ok (.aload_n 0, 1) := by decide +kernel
theorem d_O_goThrough_89 : decode b_O_goThrough 89 = .ok (.iload_n 1, 1) := by decide +kernel
theorem d_O_goThrough_90 : decode b_O_goThrough 90 = .ok (.iload_n 3, 1) := by decide +kernel
theorem d_O_goThrough_91 : decode b_O_goThrough 91 = .ok (.iload 6, 2) := by decide +kernel
theorem d_O_goThrough_93 : decode b_O_goThrough 93 = .ok (.invokevirtual 220, 3) := by decide +kernel
theorem d_O_goThrough_96 : decode b_O_goThrough 96 = .ok (.istore 7, 2) := by decide +kernel
theorem d_O_goThrough_98 : decode b_O_goThrough 98 = .ok (.iload 5, 2) := by decide +kernel
theorem d_O_goThrough_100 : decode b_O_goThrough 100 = .ok (.ifCond .eq 12, 3) := by decide +kernel
theorem d_O_goThrough_103 : decode b_O_goThrough 103 = .ok (.iload 7, 2) := by decide +kernel
