theorem dL_searches_48 : decode cL_searches 48 = .ok (.aload 4, 2) := by decide +kernel
theorem dL_searches_50 : decode cL_searches 50 = .ok (.iload 9, 2) := by decide +kernel
theorem dL_searches_52 : decode cL_searches 52 = .ok (.iaload, 1) := by decide +kernel
theorem dL_searches_53 : decode cL_searches 53 = .ok (.iload 6, 2) := by decide +kernel
theorem dL_searches_55 : decode cL_searches 55 = .ok (.imul, 1) := by decide +kernel
theorem dL_searches_56 : decode cL_searches 56 = .ok (.bipush 100, 2) := by decide +kernel
theorem dL_searches_58 : decode cL_searches 58 = .ok (.idiv, 1) := by decide +kernel
theorem dL_searches_59 : decode cL_searches 59 = .ok (.istore 10, 2) := by decide +kernel
theorem dL_searches_61 : decode cL_searches 61 = .ok (.aload 4, 2) := by decide +kernel
theorem dL_searches_63 : decode cL_searches 63 = .ok (.iload 9, 2) := by decide +kernel
theorem dL_searches_65 : decode cL_searches 65 = .ok (.dup2, 1) := by decide +kernel
theorem dL_searches_66 : decode cL_searches 66 = .ok (.iaload, 1) := by decide +kernel
theorem dL_searches_67 : decode cL_searches 67 = .ok (.iload 10, 2) := by decide +kernel
theorem dL_searches_69 : decode cL_searches 69 = .ok (.isub, 1) := by decide +kernel
theorem dL_searches_70 : decode cL_searches 70 = .ok (.iastore, 1) := by decide +kernel
theorem dL_searches_71 : decode cL_searches 71 = .ok (.iload 7, 2) := by decide +kernel
theorem dL_searches_73 : decode cL_searches 73 = .ok (.iload 10, 2) := by decide +kernel
theorem dL_searches_75 : decode cL_searches 75 = .ok (.iadd, 1) := by decide +kernel
theorem dL_searches_76 : decode cL_searches 76 = .ok (.istore 7, 2) := by decide +kernel
theorem dL_searches_78 : decode cL_searches 78 = .ok (.iinc 8 1, 3) := by decide +kernel
theorem dL_searches_81 : decode cL_searches 81 = .ok (.goto (-47), 3) := by decide +kernel
theorem dL_searches_84 : decode cL_searches 84 = .ok (.aload_n 0, 1) := by decide +kernel
theorem dL_searches_85 : decode cL_searches 85 = .ok (.iload_n 1, 1) := by decide +kernel
theorem dL_searches_86 : decode cL_searches 86 = .ok (.invokevirtual 92, 3) := by decide +kernel
theorem dL_searches_89 : decode cL_searches 89 = .ok (.aload_n 3, 1) := by decide +kernel
theorem dL_searches_90 : decode cL_searches 90 = .ok (.invokestatic 88, 3) := by decide +kernel
theorem dL_searches_93 : decode cL_searches 93 = .ok (.if_icmp .ne 21, 3) := by decide +kernel
theorem dL_searches_96 : decode cL_searches 96 = .ok (.aload_n 0, 1) := by decide +kernel
theorem dL_searches_97 : decode cL_searches 97 = .ok (.iload_n 1, 1) := by decide +kernel
theorem dL_searches_98 : decode cL_searches 98 = .ok (.iload 5, 2) := by decide +kernel
theorem dL_searches_100 : decode cL_searches 100 = .ok (.iload 6, 2) := by decide +kernel
theorem dL_searches_102 : decode cL_searches 102 = .ok (.invokevirtual 94, 3) := by decide +kernel
theorem dL_searches_105 : decode cL_searches 105 = .ok (.iload 7, 2) := by decide +kernel
theorem dL_searches_107 : decode cL_searches 107 = .ok (.if_icmp .ne 7, 3) := by decide +kernel
theorem dL_searches_110 : decode cL_searches 110 = .ok (.iconst 1, 1) := by decide +kernel
theorem dL_searches_111 : decode cL_searches 111 = .ok (.goto 4, 3) := by decide +kernel
theorem dL_searches_114 : decode cL_searches 114 = .ok (.iconst 0, 1) := by decide +kernel
theorem dL_searches_115 : decode cL_searches 115 = .ok (.istore 8, 2) := by decide +kernel
theorem dL_searches_117 : decode cL_searches 117 = .ok (.iconst 0, 1) := by decide +kernel
theorem dL_searches_118 : decode cL_searches 118 = .ok (.istore 9, 2) := by decide +kernel
theorem dL_searches_120 : decode cL_searches 120 = .ok (.iload 9, 2) := by decide +kernel
theorem dL_searches_122 : decode cL_searches 122 = .ok (.bipush 12, 2) := by decide +kernel
theorem dL_searches_124 : decode cL_searches 124 = .ok (.if_icmp .ge 49, 3) := by decide +kernel
theorem dL_searches_127 : decode cL_searches 127 = .ok (.iload_n 2, 1) := by decide +kernel
theorem dL_searches_128 : decode cL_searches 128 = .ok (.bipush 7, 2) := by decide +kernel
theorem dL_searches_130 : decode cL_searches 130 = .ok (.iload 9, 2) := by decide +kernel
theorem dL_searches_132 : decode cL_searches 132 = .ok (.imul, 1) := by decide +kernel
theorem dL_searches_133 : decode cL_searches 133 = .ok (.iadd, 1) := by decide +kernel
theorem dL_searches_134 : decode cL_searches 134 = .ok (.bipush 60, 2) := by decide +kernel
theorem dL_searches_136 : decode cL_searches 136 = .ok (.invokestatic 29, 3) := by decide +kernel
theorem dL_searches_139 : decode cL_searches 139 = .ok (.istore 10, 2) := by decide +kernel
theorem dL_searches_141 : decode cL_searches 141 = .ok (.iload 8, 2) := by decide +kernel
theorem dL_searches_143 : decode cL_searches 143 = .ok (.ifCond .eq 21, 3) := by decide +kernel
theorem dL_searches_146 : decode cL_searches 146 = .ok (.aload_n 0, 1) := by decide +kernel
theorem dL_searches_147 : decode cL_searches 147 = .ok (.iload_n 1, 1) := by decide +kernel
theorem dL_searches_148 : decode cL_searches 148 = .ok (.iload 10, 2) := by decide +kernel
theorem dL_searches_150 : decode cL_searches 150 = .ok (.invokevirtual 97, 3) := by decide +kernel
theorem dL_searches_153 : decode cL_searches 153 = .ok (.aload_n 3, 1) := by decide +kernel
theorem dL_searches_154 : decode cL_searches 154 = .ok (.iload 10, 2) := by decide +kernel
theorem dL_searches_156 : decode cL_searches 156 = .ok (.iaload, 1) := by decide +kernel
theorem dL_searches_157 : decode cL_searches 157 = .ok (.if_icmp .ne 7, 3) := by decide +kernel
theorem dL_searches_160 : decode cL_searches 160 = .ok (.iconst 1, 1) := by decide +kernel
theorem dL_searches_161 : decode cL_searches 161 = .ok (.goto 4, 3) := by decide +kernel
theorem dL_searches_164 : decode cL_searches 164 = .ok (.iconst 0, 1) := by decide +kernel
theorem dL_searches_165 : decode cL_searches 165 = .ok (.istore 8, 2) := by decide +kernel
theorem dL_searches_167 : decode cL_searches 167 = .ok (.iinc 9 1, 3) := by decide +kernel
theorem dL_searches_170 : decode cL_searches 170 = .ok (.goto (-50), 3) := by decide +kernel
theorem dL_searches_173 : decode cL_searches 173 = .ok (.iload 8, 2) := by decide +kernel
theorem dL_searches_175 : decode cL_searches 175 = .ok (.ireturn, 1) := by decide +kernel
theorem dL_same_0 : decode cL_same 0 = .ok (.iconst 0, 1) := by decide +kernel
theorem dL_same_1 : decode cL_same 1 = .ok (.istore 16, 2) := by decide +kernel
theorem dL_same_3 : decode cL_same 3 = .ok (.iconst 0, 1) := by decide +kernel
theorem dL_same_4 : decode cL_same 4 = .ok (.istore 17, 2) := by decide +kernel
theorem dL_same_6 : decode cL_same 6 = .ok (.iconst 0, 1) := by decide +kernel
theorem dL_same_7 : decode cL_same 7 = .ok (.istore 18, 2) := by decide +kernel
theorem dL_same_9 : decode cL_same 9 = .ok (.iload 18, 2) := by decide +kernel
theorem dL_same_11 : decode cL_same 11 = .ok (.bipush 60, 2) := by decide +kernel
theorem dL_same_13 : decode cL_same 13 = .ok (.if_icmp .ge 40, 3) := by decide +kernel
theorem dL_same_16 : decode cL_same 16 = .ok (.iload 16, 2) := by decide +kernel
theorem dL_same_18 : decode cL_same 18 = .ok (.aload_n 3, 1) := by decide +kernel
theorem dL_same_19 : decode cL_same 19 = .ok (.iload 18, 2) := by decide +kernel
theorem dL_same_21 : decode cL_same 21 = .ok (.iaload, 1) := by decide +kernel
theorem dL_same_22 : decode cL_same 22 = .ok (.aload 4, 2) := by decide +kernel
theorem dL_same_24 : decode cL_same 24 = .ok (.iload 18, 2) := by decide +kernel
theorem dL_same_26 : decode cL_same 26 = .ok (.iaload, 1) := by decide +kernel
theorem dL_same_27 : decode cL_same 27 = .ok (.iadd, 1) := by decide +kernel
theorem dL_same_28 : decode cL_same 28 = .ok (.iadd, 1) := by decide +kernel
theorem dL_same_29 : decode cL_same 29 = .ok (.istore 16, 2) := by decide +kernel
theorem dL_same_31 : decode cL_same 31 = .ok (.iload 17, 2) := by decide +kernel
theorem dL_same_33 : decode cL_same 33 = .ok (.aload 5, 2) := by decide +kernel
theorem dL_same_35 : decode cL_same 35 = .ok (.iload 18, 2) := by decide +kernel
theorem dL_same_37 : decode cL_same 37 = .ok (.iaload, 1) := by decide +kernel
theorem dL_same_38 : decode cL_same 38 = .ok (.aload 6, 2) := by decide +kernel
theorem dL_same_40 : decode cL_same 40 = .ok (.iload 18, 2) := by decide +kernel
theorem dL_same_42 : decode cL_same 42 = .ok (.iaload, 1) := by decide +kernel
theorem dL_same_43 : decode cL_same 43 = .ok (.iadd, 1) := by decide +kernel
theorem dL_same_44 : decode cL_same 44 = .ok (.iadd, 1) := by decide +kernel
theorem dL_same_45 : decode cL_same 45 = .ok (.istore 17, 2) := by decide +kernel
theorem dL_same_47 : decode cL_same 47 = .ok (.iinc 18 1, 3) := by decide +kernel
theorem dL_same_50 : decode cL_same 50 = .ok (.goto (-41), 3) := by decide +kernel
theorem dL_same_53 : decode cL_same 53 = .ok (.aload_n 0, 1) := by decide +kernel
theorem dL_same_54 : decode cL_same 54 = .ok (.invokevirtual 100, 3) := by decide +kernel
theorem dL_same_57 : decode cL_same 57 = .ok (.aload 15, 2) := by decide +kernel
theorem dL_same_59 : decode cL_same 59 = .ok (.iconst 0, 1) := by decide +kernel
theorem dL_same_60 : decode cL_same 60 = .ok (.iaload, 1) := by decide +kernel
theorem dL_same_61 : decode cL_same 61 = .ok (.if_icmp .ne 61, 3) := by decide +kernel
theorem dL_same_64 : decode cL_same 64 = .ok (.aload_n 0, 1) := by decide +kernel
theorem dL_same_65 : decode cL_same 65 = .ok (.iconst 0, 1) := by decide +kernel
theorem dL_same_66 : decode cL_same 66 = .ok (.invokevirtual 104, 3) := by decide +kernel
theorem dL_same_69 : decode cL_same 69 = .ok (.iload 16, 2) := by decide +kernel
theorem dL_same_71 : decode cL_same 71 = .ok (.if_icmp .ne 51, 3) := by decide +kernel
theorem dL_same_74 : decode cL_same 74 = .ok (.aload_n 0, 1) := by decide +kernel
theorem dL_same_75 : decode cL_same 75 = .ok (.iconst 1, 1) := by decide +kernel
theorem dL_same_76 : decode cL_same 76 = .ok (.invokevirtual 104, 3) := by decide +kernel
theorem dL_same_79 : decode cL_same 79 = .ok (.iload 17, 2) := by decide +kernel
theorem dL_same_81 : decode cL_same 81 = .ok (.if_icmp .ne 41, 3) := by decide +kernel
theorem dL_same_84 : decode cL_same 84 = .ok (.aload_n 0, 1) := by decide +kernel
theorem dL_same_85 : decode cL_same 85 = .ok (.iconst 2, 1) := by decide +kernel
theorem dL_same_86 : decode cL_same 86 = .ok (.invokevirtual 104, 3) := by decide +kernel
theorem dL_same_89 : decode cL_same 89 = .ok (.aload 15, 2) := by decide +kernel
theorem dL_same_91 : decode cL_same 91 = .ok (.iconst 1, 1) := by decide +kernel
theorem dL_same_92 : decode cL_same 92 = .ok (.iaload, 1) := by decide +kernel
theorem dL_same_93 : decode cL_same 93 = .ok (.if_icmp .ne 29, 3) := by decide +kernel
theorem dL_same_96 : decode cL_same 96 = .ok (.aload_n 0, 1) := by decide +kernel
theorem dL_same_97 : decode cL_same 97 = .ok (.invokevirtual 107, 3) := by decide +kernel
theorem dL_same_100 : decode cL_same 100 = .ok (.aload 15, 2) := by decide +kernel
theorem dL_same_102 : decode cL_same 102 = .ok (.iconst 3, 1) := by decide +kernel
theorem dL_same_103 : decode cL_same 103 = .ok (.iaload, 1) := by decide +kernel
theorem dL_same_104 : decode cL_same 104 = .ok (.if_icmp .ne 18, 3) := by decide +kernel
theorem dL_same_107 : decode cL_same 107 = .ok (.aload_n 0, 1) := by decide +kernel
theorem dL_same_108 : decode cL_same 108 = .ok (.invokevirtual 110, 3) := by decide +kernel
theorem dL_same_111 : decode cL_same 111 = .ok (.aload 15, 2) := by decide +kernel
theorem dL_same_113 : decode cL_same 113 = .ok (.iconst 5, 1) := by decide +kernel
theorem dL_same_114 : decode cL_same 114 = .ok (.iaload, 1) := by decide +kernel
theorem dL_same_115 : decode cL_same 115 = .ok (.if_icmp .ne 7, 3) := by decide +kernel
theorem dL_same_118 : decode cL_same 118 = .ok (.iconst 1, 1) := by decide +kernel
theorem dL_same_119 : decode cL_same 119 = .ok (.goto 4, 3) := by decide +kernel
theorem dL_same_122 : decode cL_same 122 = .ok (.iconst 0, 1) := by decide +kernel
theorem dL_same_123 : decode cL_same 123 = .ok (.istore 18, 2) := by decide +kernel
theorem dL_same_125 : decode cL_same 125 = .ok (.iconst 0, 1) := by decide +kernel
theorem dL_same_126 : decode cL_same 126 = .ok (.istore 19, 2) := by decide +kernel
theorem dL_same_128 : decode cL_same 128 = .ok (.iload 19, 2) := by decide +kernel
theorem dL_same_130 : decode cL_same 130 = .ok (.bipush 10, 2) := by decide +kernel
theorem dL_same_132 : decode cL_same 132 = .ok (.if_icmp .ge 130, 3) := by decide +kernel
theorem dL_same_135 : decode cL_same 135 = .ok (.iload 18, 2) := by decide +kernel
theorem dL_same_137 : decode cL_same 137 = .ok (.ifCond .eq 125, 3) := by decide +kernel
theorem dL_same_140 : decode cL_same 140 = .ok (.iload_n 1, 1) := by decide +kernel
theorem dL_same_141 : decode cL_same 141 = .ok (.bipush 13, 2) := by decide +kernel
theorem dL_same_143 : decode cL_same 143 = .ok (.iload 19, 2) := by decide +kernel
theorem dL_same_145 : decode cL_same 145 = .ok (.imul, 1) := by decide +kernel
theorem dL_same_146 : decode cL_same 146 = .ok (.iadd, 1) := by decide +kernel
theorem dL_same_147 : decode cL_same 147 = .ok (.bipush 60, 2) := by decide +kernel
theorem dL_same_149 : decode cL_same 149 = .ok (.invokestatic 29, 3) := by decide +kernel
theorem dL_same_152 : decode cL_same 152 = .ok (.istore 20, 2) := by decide +kernel
theorem dL_same_154 : decode cL_same 154 = .ok (.iload_n 1, 1) := by decide +kernel
theorem dL_same_155 : decode cL_same 155 = .ok (.iconst 3, 1) := by decide +kernel
theorem dL_same_156 : decode cL_same 156 = .ok (.ishr, 1) := by decide +kernel
theorem dL_same_157 : decode cL_same 157 = .ok (.iconst 2, 1) := by decide +kernel
theorem dL_same_158 : decode cL_same 158 = .ok (.invokestatic 29, 3) := by decide +kernel
theorem dL_same_161 : decode cL_same 161 = .ok (.istore 21, 2) := by decide +kernel
theorem dL_same_163 : decode cL_same 163 = .ok (.iload 21, 2) := by decide +kernel
theorem dL_same_165 : decode cL_same 165 = .ok (.ifCond .ne 10, 3) := by decide +kernel
theorem dL_same_168 : decode cL_same 168 = .ok (.aload_n 3, 1) := by decide +kernel
theorem dL_same_169 : decode cL_same 169 = .ok (.iload 20, 2) := by decide +kernel
theorem dL_same_171 : decode cL_same 171 = .ok (.iaload, 1) := by decide +kernel
theorem dL_same_172 : decode cL_same 172 = .ok (.goto 8, 3) := by decide +kernel
theorem dL_same_175 : decode cL_same 175 = .ok (.aload 4, 2) := by decide +kernel
theorem dL_same_177 : decode cL_same 177 = .ok (.iload 20, 2) := by decide +kernel
theorem dL_same_179 : decode cL_same 179 = .ok (.iaload, 1) := by decide +kernel
theorem dL_same_180 : decode cL_same 180 = .ok (.istore 22, 2) := by decide +kernel
theorem dL_same_182 : decode cL_same 182 = .ok (.iload 21, 2) := by decide +kernel
theorem dL_same_184 : decode cL_same 184 = .ok (.ifCond .ne 11, 3) := by decide +kernel
theorem dL_same_187 : decode cL_same 187 = .ok (.aload 5, 2) := by decide +kernel
theorem dL_same_189 : decode cL_same 189 = .ok (.iload 20, 2) := by decide +kernel
theorem dL_same_191 : decode cL_same 191 = .ok (.iaload, 1) := by decide +kernel
theorem dL_same_192 : decode cL_same 192 = .ok (.goto 8, 3) := by decide +kernel
theorem dL_same_195 : decode cL_same 195 = .ok (.aload 6, 2) := by decide +kernel
theorem dL_same_197 : decode cL_same 197 = .ok (.iload 20, 2) := by decide +kernel
theorem dL_same_199 : decode cL_same 199 = .ok (.iaload, 1) := by decide +kernel
theorem dL_same_200 : decode cL_same 200 = .ok (.istore 23, 2) := by decide +kernel
theorem dL_same_202 : decode cL_same 202 = .ok (.aload_n 0, 1) := by decide +kernel
theorem dL_same_203 : decode cL_same 203 = .ok (.iload 20, 2) := by decide +kernel
theorem dL_same_205 : decode cL_same 205 = .ok (.iload 21, 2) := by decide +kernel
theorem dL_same_207 : decode cL_same 207 = .ok (.iconst 0, 1) := by decide +kernel
theorem dL_same_208 : decode cL_same 208 = .ok (.invokevirtual 113, 3) := by decide +kernel
theorem dL_same_211 : decode cL_same 211 = .ok (.iload 22, 2) := by decide +kernel
theorem dL_same_213 : decode cL_same 213 = .ok (.if_icmp .ne 40, 3) := by decide +kernel
theorem dL_same_216 : decode cL_same 216 = .ok (.aload_n 0, 1) := by decide +kernel
theorem dL_same_217 : decode cL_same 217 = .ok (.iload 20, 2) := by decide +kernel
theorem dL_same_219 : decode cL_same 219 = .ok (.iload 21, 2) := by decide +kernel
theorem dL_same_221 : decode cL_same 221 = .ok (.iconst 1, 1) := by decide +kernel
theorem dL_same_222 : decode cL_same 222 = .ok (.invokevirtual 113, 3) := by decide +kernel
theorem dL_same_225 : decode cL_same 225 = .ok (.iload 23, 2) := by decide +kernel
theorem dL_same_227 : decode cL_same 227 = .ok (.if_icmp .ne 26, 3) := by decide +kernel
theorem dL_same_230 : decode cL_same 230 = .ok (.aload_n 0, 1) := by decide +kernel
theorem dL_same_231 : decode cL_same 231 = .ok (.iload 20, 2) := by decide +kernel
theorem dL_same_233 : decode cL_same 233 = .ok (.iload 21, 2) := by decide +kernel
theorem dL_same_235 : decode cL_same 235 = .ok (.iconst 2, 1) := by decide +kernel
theorem dL_same_236 : decode cL_same 236 = .ok (.invokevirtual 113, 3) := by decide +kernel
theorem dL_same_239 : decode cL_same 239 = .ok (.iconst 5, 1) := by decide +kernel
theorem dL_same_240 : decode cL_same 240 = .ok (.iload 23, 2) := by decide +kernel
theorem dL_same_242 : decode cL_same 242 = .ok (.imul, 1) := by decide +kernel
theorem dL_same_243 : decode cL_same 243 = .ok (.iload 22, 2) := by decide +kernel
theorem dL_same_245 : decode cL_same 245 = .ok (.isub, 1) := by decide +kernel
theorem dL_same_246 : decode cL_same 246 = .ok (.if_icmp .ne 7, 3) := by decide +kernel
theorem dL_same_249 : decode cL_same 249 = .ok (.iconst 1, 1) := by decide +kernel
theorem dL_same_250 : decode cL_same 250 = .ok (.goto 4, 3) := by decide +kernel
theorem dL_same_253 : decode cL_same 253 = .ok (.iconst 0, 1) := by decide +kernel
theorem dL_same_254 : decode cL_same 254 = .ok (.istore 18, 2) := by decide +kernel
theorem dL_same_256 : decode cL_same 256 = .ok (.iinc 19 1, 3) := by decide +kernel
theorem dL_same_259 : decode cL_same 259 = .ok (.goto (-131), 3) := by decide +kernel
theorem dL_same_262 : decode cL_same 262 = .ok (.iconst 0, 1) := by decide +kernel
theorem dL_same_263 : decode cL_same 263 = .ok (.istore 19, 2) := by decide +kernel
theorem dL_same_265 : decode cL_same 265 = .ok (.iload 19, 2) := by decide +kernel
theorem dL_same_267 : decode cL_same 267 = .ok (.aload 15, 2) := by decide +kernel
theorem dL_same_269 : decode cL_same 269 = .ok (.iconst 2, 1) := by decide +kernel
theorem dL_same_270 : decode cL_same 270 = .ok (.iaload, 1) := by decide +kernel
theorem dL_same_271 : decode cL_same 271 = .ok (.if_icmp .ge 99, 3) := by decide +kernel
theorem dL_same_274 : decode cL_same 274 = .ok (.iload 18, 2) := by decide +kernel
theorem dL_same_276 : decode cL_same 276 = .ok (.ifCond .eq 94, 3) := by decide +kernel
theorem dL_same_279 : decode cL_same 279 = .ok (.aload_n 0, 1) := by decide +kernel
theorem dL_same_280 : decode cL_same 280 = .ok (.iload 19, 2) := by decide +kernel
theorem dL_same_282 : decode cL_same 282 = .ok (.iconst 0, 1) := by decide +kernel
theorem dL_same_283 : decode cL_same 283 = .ok (.invokevirtual 116, 3) := by decide +kernel
theorem dL_same_286 : decode cL_same 286 = .ok (.aload 7, 2) := by decide +kernel
theorem dL_same_288 : decode cL_same 288 = .ok (.bipush 8, 2) := by decide +kernel
theorem dL_same_290 : decode cL_same 290 = .ok (.iload 19, 2) := by decide +kernel
theorem dL_same_292 : decode cL_same 292 = .ok (.imul, 1) := by decide +kernel
theorem dL_same_293 : decode cL_same 293 = .ok (.iaload, 1) := by decide +kernel
theorem dL_same_294 : decode cL_same 294 = .ok (.if_icmp .ne 67, 3) := by decide +kernel
theorem dL_same_297 : decode cL_same 297 = .ok (.aload_n 0, 1) := by decide +kernel
theorem dL_same_298 : decode cL_same 298 = .ok (.iload 19, 2) := by decide +kernel
theorem dL_same_300 : decode cL_same 300 = .ok (.iconst 1, 1) := by decide +kernel
theorem dL_same_301 : decode cL_same 301 = .ok (.invokevirtual 116, 3) := by decide +kernel
theorem dL_same_304 : decode cL_same 304 = .ok (.aload 7, 2) := by decide +kernel
theorem dL_same_306 : decode cL_same 306 = .ok (.bipush 8, 2) := by decide +kernel
theorem dL_same_308 : decode cL_same 308 = .ok (.iload 19, 2) := by decide +kernel
theorem dL_same_310 : decode cL_same 310 = .ok (.imul, 1) := by decide +kernel
theorem dL_same_311 : decode cL_same 311 = .ok (.iconst 2, 1) := by decide +kernel
theorem dL_same_312 : decode cL_same 312 = .ok (.iadd, 1) := by decide +kernel
theorem dL_same_313 : decode cL_same 313 = .ok (.iaload, 1) := by decide +kernel
theorem dL_same_314 : decode cL_same 314 = .ok (.if_icmp .ne 47, 3) := by decide +kernel
theorem dL_same_317 : decode cL_same 317 = .ok (.aload_n 0, 1) := by decide +kernel
theorem dL_same_318 : decode cL_same 318 = .ok (.iload 19, 2) := by decide +kernel
theorem dL_same_320 : decode cL_same 320 = .ok (.iconst 2, 1) := by decide +kernel
theorem dL_same_321 : decode cL_same 321 = .ok (.invokevirtual 116, 3) := by decide +kernel
theorem dL_same_324 : decode cL_same 324 = .ok (.aload 7, 2) := by decide +kernel
theorem dL_same_326 : decode cL_same 326 = .ok (.bipush 8, 2) := by decide +kernel
theorem dL_same_328 : decode cL_same 328 = .ok (.iload 19, 2) := by decide +kernel
theorem dL_same_330 : decode cL_same 330 = .ok (.imul, 1) := by decide +kernel
theorem dL_same_331 : decode cL_same 331 = .ok (.iconst 3, 1) := by decide +kernel
theorem dL_same_332 : decode cL_same 332 = .ok (.iadd, 1) := by decide +kernel
theorem dL_same_333 : decode cL_same 333 = .ok (.iaload, 1) := by decide +kernel
theorem dL_same_334 : decode cL_same 334 = .ok (.if_icmp .ne 27, 3) := by decide +kernel
theorem dL_same_337 : decode cL_same 337 = .ok (.aload_n 0, 1) := by decide +kernel
theorem dL_same_338 : decode cL_same 338 = .ok (.iload 19, 2) := by decide +kernel
theorem dL_same_340 : decode cL_same 340 = .ok (.iconst 3, 1) := by decide +kernel
theorem dL_same_341 : decode cL_same 341 = .ok (.invokevirtual 116, 3) := by decide +kernel
theorem dL_same_344 : decode cL_same 344 = .ok (.aload 7, 2) := by decide +kernel
theorem dL_same_346 : decode cL_same 346 = .ok (.bipush 8, 2) := by decide +kernel
theorem dL_same_348 : decode cL_same 348 = .ok (.iload 19, 2) := by decide +kernel
theorem dL_same_350 : decode cL_same 350 = .ok (.imul, 1) := by decide +kernel
theorem dL_same_351 : decode cL_same 351 = .ok (.iconst 5, 1) := by decide +kernel
theorem dL_same_352 : decode cL_same 352 = .ok (.iadd, 1) := by decide +kernel
theorem dL_same_353 : decode cL_same 353 = .ok (.iaload, 1) := by decide +kernel
theorem dL_same_354 : decode cL_same 354 = .ok (.if_icmp .ne 7, 3) := by decide +kernel
theorem dL_same_357 : decode cL_same 357 = .ok (.iconst 1, 1) := by decide +kernel
theorem dL_same_358 : decode cL_same 358 = .ok (.goto 4, 3) := by decide +kernel
theorem dL_same_361 : decode cL_same 361 = .ok (.iconst 0, 1) := by decide +kernel
theorem dL_same_362 : decode cL_same 362 = .ok (.istore 18, 2) := by decide +kernel
theorem dL_same_364 : decode cL_same 364 = .ok (.iinc 19 1, 3) := by decide +kernel
theorem dL_same_367 : decode cL_same 367 = .ok (.goto (-102), 3) := by decide +kernel
theorem dL_same_370 : decode cL_same 370 = .ok (.aload 15, 2) := by decide +kernel
theorem dL_same_372 : decode cL_same 372 = .ok (.bipush 6, 2) := by decide +kernel
theorem dL_same_374 : decode cL_same 374 = .ok (.iaload, 1) := by decide +kernel
theorem dL_same_375 : decode cL_same 375 = .ok (.ifCond .le 52, 3) := by decide +kernel
theorem dL_same_378 : decode cL_same 378 = .ok (.iload 18, 2) := by decide +kernel
theorem dL_same_380 : decode cL_same 380 = .ok (.ifCond .eq 47, 3) := by decide +kernel
theorem dL_same_383 : decode cL_same 383 = .ok (.aload_n 0, 1) := by decide +kernel
theorem dL_same_384 : decode cL_same 384 = .ok (.iconst 0, 1) := by decide +kernel
theorem dL_same_385 : decode cL_same 385 = .ok (.iload_n 1, 1) := by decide +kernel
theorem dL_same_386 : decode cL_same 386 = .ok (.aload 11, 2) := by decide +kernel
theorem dL_same_388 : decode cL_same 388 = .ok (.aload 13, 2) := by decide +kernel
theorem dL_same_390 : decode cL_same 390 = .ok (.invokestatic 119, 3) := by decide +kernel
theorem dL_same_393 : decode cL_same 393 = .ok (.ifCond .eq 31, 3) := by decide +kernel
theorem dL_same_396 : decode cL_same 396 = .ok (.aload 15, 2) := by decide +kernel
theorem dL_same_398 : decode cL_same 398 = .ok (.bipush 6, 2) := by decide +kernel
theorem dL_same_400 : decode cL_same 400 = .ok (.iaload, 1) := by decide +kernel
theorem dL_same_401 : decode cL_same 401 = .ok (.iconst 1, 1) := by decide +kernel
theorem dL_same_402 : decode cL_same 402 = .ok (.if_icmp .eq 18, 3) := by decide +kernel
theorem dL_same_405 : decode cL_same 405 = .ok (.aload_n 0, 1) := by decide +kernel
theorem dL_same_406 : decode cL_same 406 = .ok (.iconst 1, 1) := by decide +kernel
theorem dL_same_407 : decode cL_same 407 = .ok (.iload_n 1, 1) := by decide +kernel
theorem dL_same_408 : decode cL_same 408 = .ok (.iconst 2, 1) := by decide +kernel
theorem dL_same_409 : decode cL_same 409 = .ok (.ishr, 1) := by decide +kernel
theorem dL_same_410 : decode cL_same 410 = .ok (.aload 12, 2) := by decide +kernel
theorem dL_same_412 : decode cL_same 412 = .ok (.aload 13, 2) := by decide +kernel
theorem dL_same_414 : decode cL_same 414 = .ok (.invokestatic 119, 3) := by decide +kernel
theorem dL_same_417 : decode cL_same 417 = .ok (.ifCond .eq 7, 3) := by decide +kernel
theorem dL_same_420 : decode cL_same 420 = .ok (.iconst 1, 1) := by decide +kernel
theorem dL_same_421 : decode cL_same 421 = .ok (.goto 4, 3) := by decide +kernel
theorem dL_same_424 : decode cL_same 424 = .ok (.iconst 0, 1) := by decide +kernel
theorem dL_same_425 : decode cL_same 425 = .ok (.istore 18, 2) := by decide +kernel
theorem dL_same_427 : decode cL_same 427 = .ok (.iconst 0, 1) := by decide +kernel
theorem dL_same_428 : decode cL_same 428 = .ok (.istore 19, 2) := by decide +kernel
theorem dL_same_430 : decode cL_same 430 = .ok (.iload 19, 2) := by decide +kernel
theorem dL_same_432 : decode cL_same 432 = .ok (.aload 15, 2) := by decide +kernel
theorem dL_same_434 : decode cL_same 434 = .ok (.iconst 5, 1) := by decide +kernel
theorem dL_same_435 : decode cL_same 435 = .ok (.iaload, 1) := by decide +kernel
theorem dL_same_436 : decode cL_same 436 = .ok (.if_icmp .ge 144, 3) := by decide +kernel
theorem dL_same_439 : decode cL_same 439 = .ok (.iload 18, 2) := by decide +kernel
theorem dL_same_441 : decode cL_same 441 = .ok (.ifCond .eq 139, 3) := by decide +kernel
theorem dL_same_444 : decode cL_same 444 = .ok (.iload 19, 2) := by decide +kernel
theorem dL_same_446 : decode cL_same 446 = .ok (.iconst 4, 1) := by decide +kernel
theorem dL_same_447 : decode cL_same 447 = .ok (.irem, 1) := by decide +kernel
theorem dL_same_448 : decode cL_same 448 = .ok (.iload_n 1, 1) := by decide +kernel
theorem dL_same_449 : decode cL_same 449 = .ok (.iconst 4, 1) := by decide +kernel
theorem dL_same_450 : decode cL_same 450 = .ok (.irem, 1) := by decide +kernel
theorem dL_same_451 : decode cL_same 451 = .ok (.if_icmp .ne 95, 3) := by decide +kernel
theorem dL_same_454 : decode cL_same 454 = .ok (.aload_n 0, 1) := by decide +kernel
theorem dL_same_455 : decode cL_same 455 = .ok (.iload 19, 2) := by decide +kernel
theorem dL_same_457 : decode cL_same 457 = .ok (.iconst 0, 1) := by decide +kernel
theorem dL_same_458 : decode cL_same 458 = .ok (.invokevirtual 123, 3) := by decide +kernel
theorem dL_same_461 : decode cL_same 461 = .ok (.aload 8, 2) := by decide +kernel
theorem dL_same_463 : decode cL_same 463 = .ok (.iload 19, 2) := by decide +kernel
theorem dL_same_465 : decode cL_same 465 = .ok (.iaload, 1) := by decide +kernel
theorem dL_same_466 : decode cL_same 466 = .ok (.bipush 64, 2) := by decide +kernel
theorem dL_same_468 : decode cL_same 468 = .ok (.idiv, 1) := by decide +kernel
theorem dL_same_469 : decode cL_same 469 = .ok (.if_icmp .ne 102, 3) := by decide +kernel
theorem dL_same_472 : decode cL_same 472 = .ok (.aload_n 0, 1) := by decide +kernel
theorem dL_same_473 : decode cL_same 473 = .ok (.iload 19, 2) := by decide +kernel
theorem dL_same_475 : decode cL_same 475 = .ok (.iconst 1, 1) := by decide +kernel
theorem dL_same_476 : decode cL_same 476 = .ok (.invokevirtual 123, 3) := by decide +kernel
theorem dL_same_479 : decode cL_same 479 = .ok (.aload 8, 2) := by decide +kernel
theorem dL_same_481 : decode cL_same 481 = .ok (.iload 19, 2) := by decide +kernel
theorem dL_same_483 : decode cL_same 483 = .ok (.iaload, 1) := by decide +kernel
theorem dL_same_484 : decode cL_same 484 = .ok (.bipush 64, 2) := by decide +kernel
theorem dL_same_486 : decode cL_same 486 = .ok (.irem, 1) := by decide +kernel
theorem dL_same_487 : decode cL_same 487 = .ok (.if_icmp .ne 84, 3) := by decide +kernel
theorem dL_same_490 : decode cL_same 490 = .ok (.aload_n 0, 1) := by decide +kernel
theorem dL_same_491 : decode cL_same 491 = .ok (.iload 19, 2) := by decide +kernel
theorem dL_same_493 : decode cL_same 493 = .ok (.iconst 2, 1) := by decide +kernel
theorem dL_same_494 : decode cL_same 494 = .ok (.invokevirtual 123, 3) := by decide +kernel
theorem dL_same_497 : decode cL_same 497 = .ok (.aload 9, 2) := by decide +kernel
theorem dL_same_499 : decode cL_same 499 = .ok (.iload 19, 2) := by decide +kernel
theorem dL_same_501 : decode cL_same 501 = .ok (.iaload, 1) := by decide +kernel
theorem dL_same_502 : decode cL_same 502 = .ok (.if_icmp .ne 69, 3) := by decide +kernel
theorem dL_same_505 : decode cL_same 505 = .ok (.aload_n 0, 1) := by decide +kernel
theorem dL_same_506 : decode cL_same 506 = .ok (.iload 19, 2) := by decide +kernel
theorem dL_same_508 : decode cL_same 508 = .ok (.iconst 3, 1) := by decide +kernel
theorem dL_same_509 : decode cL_same 509 = .ok (.invokevirtual 123, 3) := by decide +kernel
theorem dL_same_512 : decode cL_same 512 = .ok (.iload 19, 2) := by decide +kernel
theorem dL_same_514 : decode cL_same 514 = .ok (.aload 9, 2) := by decide +kernel
theorem dL_same_516 : decode cL_same 516 = .ok (.aload 10, 2) := by decide +kernel
theorem dL_same_518 : decode cL_same 518 = .ok (.aload 7, 2) := by decide +kernel
theorem dL_same_520 : decode cL_same 520 = .ok (.invokestatic 85, 3) := by decide +kernel
theorem dL_same_523 : decode cL_same 523 = .ok (.if_icmp .ne 48, 3) := by decide +kernel
theorem dL_same_526 : decode cL_same 526 = .ok (.aload_n 0, 1) := by decide +kernel
theorem dL_same_527 : decode cL_same 527 = .ok (.iload 19, 2) := by decide +kernel
theorem dL_same_529 : decode cL_same 529 = .ok (.iconst 5, 1) := by decide +kernel
theorem dL_same_530 : decode cL_same 530 = .ok (.invokevirtual 123, 3) := by decide +kernel
theorem dL_same_533 : decode cL_same 533 = .ok (.aload 10, 2) := by decide +kernel
theorem dL_same_535 : decode cL_same 535 = .ok (.iload 19, 2) := by decide +kernel
theorem dL_same_537 : decode cL_same 537 = .ok (.iaload, 1) := by decide +kernel
theorem dL_same_538 : decode cL_same 538 = .ok (.bipush 16, 2) := by decide +kernel
theorem dL_same_540 : decode cL_same 540 = .ok (.irem, 1) := by decide +kernel
theorem dL_same_541 : decode cL_same 541 = .ok (.iconst 1, 1) := by decide +kernel
theorem dL_same_542 : decode cL_same 542 = .ok (.isub, 1) := by decide +kernel
theorem dL_same_543 : decode cL_same 543 = .ok (.if_icmp .ne 28, 3) := by decide +kernel
theorem dL_same_546 : decode cL_same 546 = .ok (.aload_n 0, 1) := by decide +kernel
theorem dL_same_547 : decode cL_same 547 = .ok (.iload 19, 2) := by decide +kernel
theorem dL_same_549 : decode cL_same 549 = .ok (.iconst 4, 1) := by decide +kernel
theorem dL_same_550 : decode cL_same 550 = .ok (.invokevirtual 123, 3) := by decide +kernel
theorem dL_same_553 : decode cL_same 553 = .ok (.iload 19, 2) := by decide +kernel
theorem dL_same_555 : decode cL_same 555 = .ok (.aload 9, 2) := by decide +kernel
theorem dL_same_557 : decode cL_same 557 = .ok (.aload 10, 2) := by decide +kernel
theorem dL_same_559 : decode cL_same 559 = .ok (.aload 15, 2) := by decide +kernel
theorem dL_same_561 : decode cL_same 561 = .ok (.invokestatic 81, 3) := by decide +kernel
theorem dL_same_564 : decode cL_same 564 = .ok (.if_icmp .ne 7, 3) := by decide +kernel
theorem dL_same_567 : decode cL_same 567 = .ok (.iconst 1, 1) := by decide +kernel
theorem dL_same_568 : decode cL_same 568 = .ok (.goto 4, 3) := by decide +kernel
theorem dL_same_571 : decode cL_same 571 = .ok (.iconst 0, 1) := by decide +kernel
theorem dL_same_572 : decode cL_same 572 = .ok (.istore 18, 2) := by decide +kernel
theorem dL_same_574 : decode cL_same 574 = .ok (.iinc 19 1, 3) := by decide +kernel
theorem dL_same_577 : decode cL_same 577 = .ok (.goto (-147), 3) := by decide +kernel
theorem dL_same_580 : decode cL_same 580 = .ok (.iload_n 1, 1) := by decide +kernel
theorem dL_same_581 : decode cL_same 581 = .ok (.iconst 4, 1) := by decide +kernel
theorem dL_same_582 : decode cL_same 582 = .ok (.ishr, 1) := by decide +kernel
theorem dL_same_583 : decode cL_same 583 = .ok (.bipush 60, 2) := by decide +kernel
theorem dL_same_585 : decode cL_same 585 = .ok (.invokestatic 29, 3) := by decide +kernel
theorem dL_same_588 : decode cL_same 588 = .ok (.istore 19, 2) := by decide +kernel
theorem dL_same_590 : decode cL_same 590 = .ok (.iload_n 1, 1) := by decide +kernel
theorem dL_same_591 : decode cL_same 591 = .ok (.iconst 2, 1) := by decide +kernel
theorem dL_same_592 : decode cL_same 592 = .ok (.ishr, 1) := by decide +kernel
theorem dL_same_593 : decode cL_same 593 = .ok (.aload 15, 2) := by decide +kernel
theorem dL_same_595 : decode cL_same 595 = .ok (.iconst 0, 1) := by decide +kernel
theorem dL_same_596 : decode cL_same 596 = .ok (.iaload, 1) := by decide +kernel
theorem dL_same_597 : decode cL_same 597 = .ok (.iconst 3, 1) := by decide +kernel
theorem dL_same_598 : decode cL_same 598 = .ok (.iadd, 1) := by decide +kernel
theorem dL_same_599 : decode cL_same 599 = .ok (.invokestatic 29, 3) := by decide +kernel
theorem dL_same_602 : decode cL_same 602 = .ok (.istore 20, 2) := by decide +kernel
theorem dL_same_604 : decode cL_same 604 = .ok (.iload_n 1, 1) := by decide +kernel
theorem dL_same_605 : decode cL_same 605 = .ok (.iconst 5, 1) := by decide +kernel
theorem dL_same_606 : decode cL_same 606 = .ok (.ishr, 1) := by decide +kernel
theorem dL_same_607 : decode cL_same 607 = .ok (.bipush 12, 2) := by decide +kernel
theorem dL_same_609 : decode cL_same 609 = .ok (.invokestatic 29, 3) := by decide +kernel
theorem dL_same_612 : decode cL_same 612 = .ok (.istore 21, 2) := by decide +kernel
theorem dL_same_614 : decode cL_same 614 = .ok (.iload 19, 2) := by decide +kernel
theorem dL_same_616 : decode cL_same 616 = .ok (.iload 20, 2) := by decide +kernel
theorem dL_same_618 : decode cL_same 618 = .ok (.iload 21, 2) := by decide +kernel
theorem dL_same_620 : decode cL_same 620 = .ok (.iconst (-1), 1) := by decide +kernel
theorem dL_same_621 : decode cL_same 621 = .ok (.aload 8, 2) := by decide +kernel
theorem dL_same_623 : decode cL_same 623 = .ok (.aload 9, 2) := by decide +kernel
theorem dL_same_625 : decode cL_same 625 = .ok (.aload 10, 2) := by decide +kernel
theorem dL_same_627 : decode cL_same 627 = .ok (.aload 7, 2) := by decide +kernel
theorem dL_same_629 : decode cL_same 629 = .ok (.aload 14, 2) := by decide +kernel
theorem dL_same_631 : decode cL_same 631 = .ok (.aload 15, 2) := by decide +kernel
theorem dL_same_633 : decode cL_same 633 = .ok (.invokestatic 126, 3) := by decide +kernel
theorem dL_same_636 : decode cL_same 636 = .ok (.iload 18, 2) := by decide +kernel
theorem dL_same_638 : decode cL_same 638 = .ok (.ifCond .eq 91, 3) := by decide +kernel
theorem dL_same_641 : decode cL_same 641 = .ok (.aload_n 0, 1) := by decide +kernel
theorem dL_same_642 : decode cL_same 642 = .ok (.bipush 6, 2) := by decide +kernel
theorem dL_same_644 : decode cL_same 644 = .ok (.iload 19, 2) := by decide +kernel
theorem dL_same_646 : decode cL_same 646 = .ok (.iload 20, 2) := by decide +kernel
theorem dL_same_648 : decode cL_same 648 = .ok (.iload 21, 2) := by decide +kernel
theorem dL_same_650 : decode cL_same 650 = .ok (.invokestatic 130, 3) := by decide +kernel
theorem dL_same_653 : decode cL_same 653 = .ok (.aload_n 2, 1) := by decide +kernel
theorem dL_same_654 : decode cL_same 654 = .ok (.iload 19, 2) := by decide +kernel
theorem dL_same_656 : decode cL_same 656 = .ok (.iaload, 1) := by decide +kernel
theorem dL_same_657 : decode cL_same 657 = .ok (.bipush 7, 2) := by decide +kernel
theorem dL_same_659 : decode cL_same 659 = .ok (.if_icmp .gt 10, 3) := by decide +kernel
theorem dL_same_662 : decode cL_same 662 = .ok (.aload 14, 2) := by decide +kernel
theorem dL_same_664 : decode cL_same 664 = .ok (.iconst 1, 1) := by decide +kernel
theorem dL_same_665 : decode cL_same 665 = .ok (.iaload, 1) := by decide +kernel
theorem dL_same_666 : decode cL_same 666 = .ok (.ifCond .ne 8, 3) := by decide +kernel
theorem dL_same_669 : decode cL_same 669 = .ok (.ldc 50, 2) := by decide +kernel
theorem dL_same_671 : decode cL_same 671 = .ok (.goto 12, 3) := by decide +kernel
theorem dL_same_674 : decode cL_same 674 = .ok (.aload 14, 2) := by decide +kernel
theorem dL_same_676 : decode cL_same 676 = .ok (.iconst 0, 1) := by decide +kernel
theorem dL_same_677 : decode cL_same 677 = .ok (.iaload, 1) := by decide +kernel
theorem dL_same_678 : decode cL_same 678 = .ok (.aload 14, 2) := by decide +kernel
theorem dL_same_680 : decode cL_same 680 = .ok (.iconst 1, 1) := by decide +kernel
theorem dL_same_681 : decode cL_same 681 = .ok (.iaload, 1) := by decide +kernel
theorem dL_same_682 : decode cL_same 682 = .ok (.idiv, 1) := by decide +kernel
theorem dL_same_683 : decode cL_same 683 = .ok (.if_icmp .ne 46, 3) := by decide +kernel
theorem dL_same_686 : decode cL_same 686 = .ok (.aload_n 0, 1) := by decide +kernel
theorem dL_same_687 : decode cL_same 687 = .ok (.bipush 7, 2) := by decide +kernel
theorem dL_same_689 : decode cL_same 689 = .ok (.iload 19, 2) := by decide +kernel
theorem dL_same_691 : decode cL_same 691 = .ok (.iload 20, 2) := by decide +kernel
theorem dL_same_693 : decode cL_same 693 = .ok (.iload 21, 2) := by decide +kernel
theorem dL_same_695 : decode cL_same 695 = .ok (.invokestatic 130, 3) := by decide +kernel
theorem dL_same_698 : decode cL_same 698 = .ok (.aload_n 2, 1) := by decide +kernel
theorem dL_same_699 : decode cL_same 699 = .ok (.iload 19, 2) := by decide +kernel
theorem dL_same_701 : decode cL_same 701 = .ok (.iaload, 1) := by decide +kernel
theorem dL_same_702 : decode cL_same 702 = .ok (.bipush 7, 2) := by decide +kernel
theorem dL_same_704 : decode cL_same 704 = .ok (.if_icmp .le 8, 3) := by decide +kernel
theorem dL_same_707 : decode cL_same 707 = .ok (.ldc 50, 2) := by decide +kernel
theorem dL_same_709 : decode cL_same 709 = .ok (.goto 13, 3) := by decide +kernel
theorem dL_same_712 : decode cL_same 712 = .ok (.sipush 1000, 3) := by decide +kernel
theorem dL_same_715 : decode cL_same 715 = .ok (.iconst 1, 1) := by decide +kernel
theorem dL_same_716 : decode cL_same 716 = .ok (.aload 14, 2) := by decide +kernel
theorem dL_same_718 : decode cL_same 718 = .ok (.iconst 1, 1) := by decide +kernel
theorem dL_same_719 : decode cL_same 719 = .ok (.iaload, 1) := by decide +kernel
theorem dL_same_720 : decode cL_same 720 = .ok (.iadd, 1) := by decide +kernel
theorem dL_same_721 : decode cL_same 721 = .ok (.idiv, 1) := by decide +kernel
theorem dL_same_722 : decode cL_same 722 = .ok (.if_icmp .ne 7, 3) := by decide +kernel
theorem dL_same_725 : decode cL_same 725 = .ok (.iconst 1, 1) := by decide +kernel
theorem dL_same_726 : decode cL_same 726 = .ok (.goto 4, 3) := by decide +kernel
theorem dL_same_729 : decode cL_same 729 = .ok (.iconst 0, 1) := by decide +kernel
theorem dL_same_730 : decode cL_same 730 = .ok (.istore 18, 2) := by decide +kernel
theorem dL_same_732 : decode cL_same 732 = .ok (.aload 15, 2) := by decide +kernel
theorem dL_same_734 : decode cL_same 734 = .ok (.iconst 5, 1) := by decide +kernel
theorem dL_same_735 : decode cL_same 735 = .ok (.iaload, 1) := by decide +kernel
theorem dL_same_736 : decode cL_same 736 = .ok (.ifCond .eq 8, 3) := by decide +kernel
theorem dL_same_739 : decode cL_same 739 = .ok (.iload 18, 2) := by decide +kernel
theorem dL_same_741 : decode cL_same 741 = .ok (.ifCond .ne 6, 3) := by decide +kernel
theorem dL_same_744 : decode cL_same 744 = .ok (.iload 18, 2) := by decide +kernel
theorem dL_same_746 : decode cL_same 746 = .ok (.ireturn, 1) := by decide +kernel
theorem dL_same_747 : decode cL_same 747 = .ok (.iload_n 1, 1) := by decide +kernel
theorem dL_same_748 : decode cL_same 748 = .ok (.iconst 1, 1) := by decide +kernel
theorem dL_same_749 : decode cL_same 749 = .ok (.ishr, 1) := by decide +kernel
theorem dL_same_750 : decode cL_same 750 = .ok (.aload 15, 2) := by decide +kernel
theorem dL_same_752 : decode cL_same 752 = .ok (.iconst 5, 1) := by decide +kernel
theorem dL_same_753 : decode cL_same 753 = .ok (.iaload, 1) := by decide +kernel
theorem dL_same_754 : decode cL_same 754 = .ok (.invokestatic 29, 3) := by decide +kernel
theorem dL_same_757 : decode cL_same 757 = .ok (.istore 22, 2) := by decide +kernel
theorem dL_same_759 : decode cL_same 759 = .ok (.aload 8, 2) := by decide +kernel
theorem dL_same_761 : decode cL_same 761 = .ok (.iload 22, 2) := by decide +kernel
theorem dL_same_763 : decode cL_same 763 = .ok (.iaload, 1) := by decide +kernel
theorem dL_same_764 : decode cL_same 764 = .ok (.bipush 64, 2) := by decide +kernel
theorem dL_same_766 : decode cL_same 766 = .ok (.irem, 1) := by decide +kernel
theorem dL_same_767 : decode cL_same 767 = .ok (.aload 8, 2) := by decide +kernel
theorem dL_same_769 : decode cL_same 769 = .ok (.iload 22, 2) := by decide +kernel
theorem dL_same_771 : decode cL_same 771 = .ok (.iaload, 1) := by decide +kernel
theorem dL_same_772 : decode cL_same 772 = .ok (.bipush 64, 2) := by decide +kernel
theorem dL_same_774 : decode cL_same 774 = .ok (.idiv, 1) := by decide +kernel
theorem dL_same_775 : decode cL_same 775 = .ok (.iload 21, 2) := by decide +kernel
theorem dL_same_777 : decode cL_same 777 = .ok (.iload 22, 2) := by decide +kernel
theorem dL_same_779 : decode cL_same 779 = .ok (.aload 8, 2) := by decide +kernel
theorem dL_same_781 : decode cL_same 781 = .ok (.aload 9, 2) := by decide +kernel
theorem dL_same_783 : decode cL_same 783 = .ok (.aload 10, 2) := by decide +kernel
theorem dL_same_785 : decode cL_same 785 = .ok (.aload 7, 2) := by decide +kernel
theorem dL_same_787 : decode cL_same 787 = .ok (.aload 14, 2) := by decide +kernel
theorem dL_same_789 : decode cL_same 789 = .ok (.aload 15, 2) := by decide +kernel
theorem dL_same_791 : decode cL_same 791 = .ok (.invokestatic 126, 3) := by decide +kernel
theorem dL_same_794 : decode cL_same 794 = .ok (.aload_n 0, 1) := by decide +kernel
theorem dL_same_795 : decode cL_same 795 = .ok (.bipush 8, 2) := by decide +kernel
theorem dL_same_797 : decode cL_same 797 = .ok (.iload 22, 2) := by decide +kernel
theorem dL_same_799 : decode cL_same 799 = .ok (.iload 21, 2) := by decide +kernel
theorem dL_same_801 : decode cL_same 801 = .ok (.iconst 0, 1) := by decide +kernel
theorem dL_same_802 : decode cL_same 802 = .ok (.invokestatic 130, 3) := by decide +kernel
theorem dL_same_805 : decode cL_same 805 = .ok (.aload 14, 2) := by decide +kernel
theorem dL_same_807 : decode cL_same 807 = .ok (.iconst 1, 1) := by decide +kernel
theorem dL_same_808 : decode cL_same 808 = .ok (.iaload, 1) := by decide +kernel
theorem dL_same_809 : decode cL_same 809 = .ok (.ifCond .ne 8, 3) := by decide +kernel
theorem dL_same_812 : decode cL_same 812 = .ok (.ldc 50, 2) := by decide +kernel
theorem dL_same_814 : decode cL_same 814 = .ok (.goto 24, 3) := by decide +kernel
theorem dL_same_817 : decode cL_same 817 = .ok (.iload 22, 2) := by decide +kernel
theorem dL_same_819 : decode cL_same 819 = .ok (.aload 9, 2) := by decide +kernel
theorem dL_same_821 : decode cL_same 821 = .ok (.aload 10, 2) := by decide +kernel
theorem dL_same_823 : decode cL_same 823 = .ok (.aload 7, 2) := by decide +kernel
theorem dL_same_825 : decode cL_same 825 = .ok (.invokestatic 85, 3) := by decide +kernel
theorem dL_same_828 : decode cL_same 828 = .ok (.aload 14, 2) := by decide +kernel
theorem dL_same_830 : decode cL_same 830 = .ok (.iconst 0, 1) := by decide +kernel
theorem dL_same_831 : decode cL_same 831 = .ok (.iaload, 1) := by decide +kernel
theorem dL_same_832 : decode cL_same 832 = .ok (.aload 14, 2) := by decide +kernel
theorem dL_same_834 : decode cL_same 834 = .ok (.iconst 1, 1) := by decide +kernel
theorem dL_same_835 : decode cL_same 835 = .ok (.iaload, 1) := by decide +kernel
theorem dL_same_836 : decode cL_same 836 = .ok (.idiv, 1) := by decide +kernel
theorem dL_same_837 : decode cL_same 837 = .ok (.isub, 1) := by decide +kernel
theorem dL_same_838 : decode cL_same 838 = .ok (.if_icmp .ne 7, 3) := by decide +kernel
theorem dL_same_841 : decode cL_same 841 = .ok (.iconst 1, 1) := by decide +kernel
theorem dL_same_842 : decode cL_same 842 = .ok (.goto 4, 3) := by decide +kernel
theorem dL_same_845 : decode cL_same 845 = .ok (.iconst 0, 1) := by decide +kernel
theorem dL_same_846 : decode cL_same 846 = .ok (.ireturn, 1) := by decide +kernel
theorem dL_tells_0 : decode cL_tells 0 = .ok (.iload_n 2, 1) := by decide +kernel
theorem dL_tells_1 : decode cL_tells 1 = .ok (.bipush 60, 2) := by decide +kernel
theorem dL_tells_3 : decode cL_tells 3 = .ok (.invokestatic 29, 3) := by decide +kernel
theorem dL_tells_6 : decode cL_tells 6 = .ok (.istore 17, 2) := by decide +kernel
theorem dL_tells_8 : decode cL_tells 8 = .ok (.iload_n 1, 1) := by decide +kernel
theorem dL_tells_9 : decode cL_tells 9 = .ok (.ifCond .ne 269, 3) := by decide +kernel
theorem dL_tells_12 : decode cL_tells 12 = .ok (.aload_n 3, 1) := by decide +kernel
theorem dL_tells_13 : decode cL_tells 13 = .ok (.iload 17, 2) := by decide +kernel
theorem dL_tells_15 : decode cL_tells 15 = .ok (.iaload, 1) := by decide +kernel
theorem dL_tells_16 : decode cL_tells 16 = .ok (.bipush 8, 2) := by decide +kernel
theorem dL_tells_18 : decode cL_tells 18 = .ok (.if_icmp .ge 14, 3) := by decide +kernel
theorem dL_tells_21 : decode cL_tells 21 = .ok (.aload 16, 2) := by decide +kernel
theorem dL_tells_23 : decode cL_tells 23 = .ok (.iconst 0, 1) := by decide +kernel
theorem dL_tells_24 : decode cL_tells 24 = .ok (.iaload, 1) := by decide +kernel
theorem dL_tells_25 : decode cL_tells 25 = .ok (.ifCond .ne 7, 3) := by decide +kernel
theorem dL_tells_28 : decode cL_tells 28 = .ok (.iconst 1, 1) := by decide +kernel
theorem dL_tells_29 : decode cL_tells 29 = .ok (.goto 4, 3) := by decide +kernel
theorem dL_tells_32 : decode cL_tells 32 = .ok (.iconst 0, 1) := by decide +kernel
theorem dL_tells_33 : decode cL_tells 33 = .ok (.istore 18, 2) := by decide +kernel
theorem dL_tells_35 : decode cL_tells 35 = .ok (.iconst 0, 1) := by decide +kernel
theorem dL_tells_36 : decode cL_tells 36 = .ok (.istore 19, 2) := by decide +kernel
theorem dL_tells_38 : decode cL_tells 38 = .ok (.iload 19, 2) := by decide +kernel
theorem dL_tells_40 : decode cL_tells 40 = .ok (.aload 16, 2) := by decide +kernel
theorem dL_tells_42 : decode cL_tells 42 = .ok (.iconst 2, 1) := by decide +kernel
theorem dL_tells_43 : decode cL_tells 43 = .ok (.iaload, 1) := by decide +kernel
theorem dL_tells_44 : decode cL_tells 44 = .ok (.if_icmp .ge 34, 3) := by decide +kernel
theorem dL_tells_47 : decode cL_tells 47 = .ok (.iload 18, 2) := by decide +kernel
theorem dL_tells_49 : decode cL_tells 49 = .ok (.ifCond .eq 20, 3) := by decide +kernel
theorem dL_tells_52 : decode cL_tells 52 = .ok (.aload 8, 2) := by decide +kernel
theorem dL_tells_54 : decode cL_tells 54 = .ok (.bipush 8, 2) := by decide +kernel
theorem dL_tells_56 : decode cL_tells 56 = .ok (.iload 19, 2) := by decide +kernel
theorem dL_tells_58 : decode cL_tells 58 = .ok (.imul, 1) := by decide +kernel
theorem dL_tells_59 : decode cL_tells 59 = .ok (.iaload, 1) := by decide +kernel
theorem dL_tells_60 : decode cL_tells 60 = .ok (.iload 17, 2) := by decide +kernel
theorem dL_tells_62 : decode cL_tells 62 = .ok (.if_icmp .eq 7, 3) := by decide +kernel
theorem dL_tells_65 : decode cL_tells 65 = .ok (.iconst 1, 1) := by decide +kernel
theorem dL_tells_66 : decode cL_tells 66 = .ok (.goto 4, 3) := by decide +kernel
theorem dL_tells_69 : decode cL_tells 69 = .ok (.iconst 0, 1) := by decide +kernel
theorem dL_tells_70 : decode cL_tells 70 = .ok (.istore 18, 2) := by decide +kernel
theorem dL_tells_72 : decode cL_tells 72 = .ok (.iinc 19 1, 3) := by decide +kernel
theorem dL_tells_75 : decode cL_tells 75 = .ok (.goto (-37), 3) := by decide +kernel
theorem dL_tells_78 : decode cL_tells 78 = .ok (.iconst 0, 1) := by decide +kernel
theorem dL_tells_79 : decode cL_tells 79 = .ok (.istore 19, 2) := by decide +kernel
theorem dL_tells_81 : decode cL_tells 81 = .ok (.iload 19, 2) := by decide +kernel
theorem dL_tells_83 : decode cL_tells 83 = .ok (.aload 16, 2) := by decide +kernel
theorem dL_tells_85 : decode cL_tells 85 = .ok (.iconst 3, 1) := by decide +kernel
theorem dL_tells_86 : decode cL_tells 86 = .ok (.iaload, 1) := by decide +kernel
theorem dL_tells_87 : decode cL_tells 87 = .ok (.if_icmp .ge 34, 3) := by decide +kernel
theorem dL_tells_90 : decode cL_tells 90 = .ok (.iload 18, 2) := by decide +kernel
theorem dL_tells_92 : decode cL_tells 92 = .ok (.ifCond .eq 20, 3) := by decide +kernel
theorem dL_tells_95 : decode cL_tells 95 = .ok (.aload 9, 2) := by decide +kernel
theorem dL_tells_97 : decode cL_tells 97 = .ok (.iload 19, 2) := by decide +kernel
theorem dL_tells_99 : decode cL_tells 99 = .ok (.iaload, 1) := by decide +kernel
theorem dL_tells_100 : decode cL_tells 100 = .ok (.bipush 64, 2) := by decide +kernel
theorem dL_tells_102 : decode cL_tells 102 = .ok (.irem, 1) := by decide +kernel
theorem dL_tells_103 : decode cL_tells 103 = .ok (.iload 17, 2) := by decide +kernel
theorem dL_tells_105 : decode cL_tells 105 = .ok (.if_icmp .eq 7, 3) := by decide +kernel
theorem dL_tells_108 : decode cL_tells 108 = .ok (.iconst 1, 1) := by decide +kernel
theorem dL_tells_109 : decode cL_tells 109 = .ok (.goto 4, 3) := by decide +kernel
theorem dL_tells_112 : decode cL_tells 112 = .ok (.iconst 0, 1) := by decide +kernel
theorem dL_tells_113 : decode cL_tells 113 = .ok (.istore 18, 2) := by decide +kernel
theorem dL_tells_115 : decode cL_tells 115 = .ok (.iinc 19 1, 3) := by decide +kernel
theorem dL_tells_118 : decode cL_tells 118 = .ok (.goto (-37), 3) := by decide +kernel
theorem dL_tells_121 : decode cL_tells 121 = .ok (.iconst 0, 1) := by decide +kernel
theorem dL_tells_122 : decode cL_tells 122 = .ok (.istore 19, 2) := by decide +kernel
theorem dL_tells_124 : decode cL_tells 124 = .ok (.iload 19, 2) := by decide +kernel
theorem dL_tells_126 : decode cL_tells 126 = .ok (.aload 16, 2) := by decide +kernel
theorem dL_tells_128 : decode cL_tells 128 = .ok (.bipush 6, 2) := by decide +kernel
theorem dL_tells_130 : decode cL_tells 130 = .ok (.iaload, 1) := by decide +kernel
theorem dL_tells_131 : decode cL_tells 131 = .ok (.if_icmp .ge 34, 3) := by decide +kernel
theorem dL_tells_134 : decode cL_tells 134 = .ok (.iload 18, 2) := by decide +kernel
theorem dL_tells_136 : decode cL_tells 136 = .ok (.ifCond .eq 20, 3) := by decide +kernel
theorem dL_tells_139 : decode cL_tells 139 = .ok (.aload 16, 2) := by decide +kernel
theorem dL_tells_141 : decode cL_tells 141 = .ok (.bipush 14, 2) := by decide +kernel
theorem dL_tells_143 : decode cL_tells 143 = .ok (.iload 19, 2) := by decide +kernel
theorem dL_tells_145 : decode cL_tells 145 = .ok (.iadd, 1) := by decide +kernel
theorem dL_tells_146 : decode cL_tells 146 = .ok (.iaload, 1) := by decide +kernel
theorem dL_tells_147 : decode cL_tells 147 = .ok (.iload 17, 2) := by decide +kernel
theorem dL_tells_149 : decode cL_tells 149 = .ok (.if_icmp .eq 7, 3) := by decide +kernel
theorem dL_tells_152 : decode cL_tells 152 = .ok (.iconst 1, 1) := by decide +kernel
theorem dL_tells_153 : decode cL_tells 153 = .ok (.goto 4, 3) := by decide +kernel
theorem dL_tells_156 : decode cL_tells 156 = .ok (.iconst 0, 1) := by decide +kernel
theorem dL_tells_157 : decode cL_tells 157 = .ok (.istore 18, 2) := by decide +kernel
theorem dL_tells_159 : decode cL_tells 159 = .ok (.iinc 19 1, 3) := by decide +kernel
theorem dL_tells_162 : decode cL_tells 162 = .ok (.goto (-38), 3) := by decide +kernel
theorem dL_tells_165 : decode cL_tells 165 = .ok (.iconst 0, 1) := by decide +kernel
theorem dL_tells_166 : decode cL_tells 166 = .ok (.istore 19, 2) := by decide +kernel
theorem dL_tells_168 : decode cL_tells 168 = .ok (.iconst 0, 1) := by decide +kernel
theorem dL_tells_169 : decode cL_tells 169 = .ok (.istore 20, 2) := by decide +kernel
theorem dL_tells_171 : decode cL_tells 171 = .ok (.iload 20, 2) := by decide +kernel
theorem dL_tells_173 : decode cL_tells 173 = .ok (.bipush 60, 2) := by decide +kernel
theorem dL_tells_175 : decode cL_tells 175 = .ok (.if_icmp .ge 35, 3) := by decide +kernel
theorem dL_tells_178 : decode cL_tells 178 = .ok (.iload 19, 2) := by decide +kernel
theorem dL_tells_180 : decode cL_tells 180 = .ok (.aload_n 3, 1) := by decide +kernel
theorem dL_tells_181 : decode cL_tells 181 = .ok (.iload 20, 2) := by decide +kernel
theorem dL_tells_183 : decode cL_tells 183 = .ok (.iaload, 1) := by decide +kernel
theorem dL_tells_184 : decode cL_tells 184 = .ok (.bipush 7, 2) := by decide +kernel
theorem dL_tells_186 : decode cL_tells 186 = .ok (.if_icmp .gt 10, 3) := by decide +kernel
theorem dL_tells_189 : decode cL_tells 189 = .ok (.iload 20, 2) := by decide +kernel
theorem dL_tells_191 : decode cL_tells 191 = .ok (.iload 17, 2) := by decide +kernel
theorem dL_tells_193 : decode cL_tells 193 = .ok (.if_icmp .ne 7, 3) := by decide +kernel
theorem dL_tells_196 : decode cL_tells 196 = .ok (.iconst 1, 1) := by decide +kernel
theorem dL_tells_197 : decode cL_tells 197 = .ok (.goto 4, 3) := by decide +kernel
theorem dL_tells_200 : decode cL_tells 200 = .ok (.iconst 0, 1) := by decide +kernel
theorem dL_tells_201 : decode cL_tells 201 = .ok (.iadd, 1) := by decide +kernel
theorem dL_tells_202 : decode cL_tells 202 = .ok (.istore 19, 2) := by decide +kernel
theorem dL_tells_204 : decode cL_tells 204 = .ok (.iinc 20 1, 3) := by decide +kernel
theorem dL_tells_207 : decode cL_tells 207 = .ok (.goto (-36), 3) := by decide +kernel
theorem dL_tells_210 : decode cL_tells 210 = .ok (.iload 18, 2) := by decide +kernel
theorem dL_tells_212 : decode cL_tells 212 = .ok (.ifCond .eq 36, 3) := by decide +kernel
theorem dL_tells_215 : decode cL_tells 215 = .ok (.aload_n 3, 1) := by decide +kernel
theorem dL_tells_216 : decode cL_tells 216 = .ok (.iload 17, 2) := by decide +kernel
theorem dL_tells_218 : decode cL_tells 218 = .ok (.dup2, 1) := by decide +kernel
theorem dL_tells_219 : decode cL_tells 219 = .ok (.iaload, 1) := by decide +kernel
theorem dL_tells_220 : decode cL_tells 220 = .ok (.bipush 8, 2) := by decide +kernel
theorem dL_tells_222 : decode cL_tells 222 = .ok (.iadd, 1) := by decide +kernel
theorem dL_tells_223 : decode cL_tells 223 = .ok (.iastore, 1) := by decide +kernel
theorem dL_tells_224 : decode cL_tells 224 = .ok (.aload 4, 2) := by decide +kernel
theorem dL_tells_226 : decode cL_tells 226 = .ok (.iload 17, 2) := by decide +kernel
theorem dL_tells_228 : decode cL_tells 228 = .ok (.iconst 0, 1) := by decide +kernel
theorem dL_tells_229 : decode cL_tells 229 = .ok (.iastore, 1) := by decide +kernel
theorem dL_tells_230 : decode cL_tells 230 = .ok (.aload 5, 2) := by decide +kernel
theorem dL_tells_232 : decode cL_tells 232 = .ok (.iload 17, 2) := by decide +kernel
theorem dL_tells_234 : decode cL_tells 234 = .ok (.iconst 0, 1) := by decide +kernel
theorem dL_tells_235 : decode cL_tells 235 = .ok (.iastore, 1) := by decide +kernel
theorem dL_tells_236 : decode cL_tells 236 = .ok (.aload 6, 2) := by decide +kernel
theorem dL_tells_238 : decode cL_tells 238 = .ok (.iload 17, 2) := by decide +kernel
theorem dL_tells_240 : decode cL_tells 240 = .ok (.iconst 0, 1) := by decide +kernel
theorem dL_tells_241 : decode cL_tells 241 = .ok (.iastore, 1) := by decide +kernel
theorem dL_tells_242 : decode cL_tells 242 = .ok (.aload 7, 2) := by decide +kernel
theorem dL_tells_244 : decode cL_tells 244 = .ok (.iload 17, 2) := by decide +kernel
theorem dL_tells_246 : decode cL_tells 246 = .ok (.iconst 0, 1) := by decide +kernel
theorem dL_tells_247 : decode cL_tells 247 = .ok (.iastore, 1) := by decide +kernel
theorem dL_tells_248 : decode cL_tells 248 = .ok (.aload_n 0, 1) := by decide +kernel
theorem dL_tells_249 : decode cL_tells 249 = .ok (.iconst 0, 1) := by decide +kernel
theorem dL_tells_250 : decode cL_tells 250 = .ok (.iload 17, 2) := by decide +kernel
theorem dL_tells_252 : decode cL_tells 252 = .ok (.iconst 0, 1) := by decide +kernel
theorem dL_tells_253 : decode cL_tells 253 = .ok (.iconst 0, 1) := by decide +kernel
theorem dL_tells_254 : decode cL_tells 254 = .ok (.invokestatic 130, 3) := by decide +kernel
theorem dL_tells_257 : decode cL_tells 257 = .ok (.iload 18, 2) := by decide +kernel
theorem dL_tells_259 : decode cL_tells 259 = .ok (.ifCond .eq 8, 3) := by decide +kernel
theorem dL_tells_262 : decode cL_tells 262 = .ok (.iload 19, 2) := by decide +kernel
theorem dL_tells_264 : decode cL_tells 264 = .ok (.goto 5, 3) := by decide +kernel
theorem dL_tells_267 : decode cL_tells 267 = .ok (.ldc 50, 2) := by decide +kernel
theorem dL_tells_269 : decode cL_tells 269 = .ok (.if_icmp .ne 7, 3) := by decide +kernel
theorem dL_tells_272 : decode cL_tells 272 = .ok (.iconst 1, 1) := by decide +kernel
theorem dL_tells_273 : decode cL_tells 273 = .ok (.goto 4, 3) := by decide +kernel
theorem dL_tells_276 : decode cL_tells 276 = .ok (.iconst 0, 1) := by decide +kernel
theorem dL_tells_277 : decode cL_tells 277 = .ok (.ireturn, 1) := by decide +kernel
theorem dL_tells_278 : decode cL_tells 278 = .ok (.iload_n 1, 1) := by decide +kernel
theorem dL_tells_279 : decode cL_tells 279 = .ok (.iconst 1, 1) := by decide +kernel
theorem dL_tells_280 : decode cL_tells 280 = .ok (.if_icmp .ne 52, 3) := by decide +kernel
theorem dL_tells_283 : decode cL_tells 283 = .ok (.aload_n 3, 1) := by decide +kernel
theorem dL_tells_284 : decode cL_tells 284 = .ok (.iload 17, 2) := by decide +kernel
theorem dL_tells_286 : decode cL_tells 286 = .ok (.iaload, 1) := by decide +kernel
theorem dL_tells_287 : decode cL_tells 287 = .ok (.bipush 8, 2) := by decide +kernel
theorem dL_tells_289 : decode cL_tells 289 = .ok (.irem, 1) := by decide +kernel
theorem dL_tells_290 : decode cL_tells 290 = .ok (.istore 18, 2) := by decide +kernel
theorem dL_tells_292 : decode cL_tells 292 = .ok (.iload_n 2, 1) := by decide +kernel
theorem dL_tells_293 : decode cL_tells 293 = .ok (.iconst 4, 1) := by decide +kernel
theorem dL_tells_294 : decode cL_tells 294 = .ok (.ishr, 1) := by decide +kernel
theorem dL_tells_295 : decode cL_tells 295 = .ok (.iconst 5, 1) := by decide +kernel
theorem dL_tells_296 : decode cL_tells 296 = .ok (.invokestatic 29, 3) := by decide +kernel
theorem dL_tells_299 : decode cL_tells 299 = .ok (.istore 19, 2) := by decide +kernel
theorem dL_tells_301 : decode cL_tells 301 = .ok (.aload_n 3, 1) := by decide +kernel
theorem dL_tells_302 : decode cL_tells 302 = .ok (.iload 17, 2) := by decide +kernel
theorem dL_tells_304 : decode cL_tells 304 = .ok (.dup2, 1) := by decide +kernel
theorem dL_tells_305 : decode cL_tells 305 = .ok (.iaload, 1) := by decide +kernel
theorem dL_tells_306 : decode cL_tells 306 = .ok (.iload 19, 2) := by decide +kernel
theorem dL_tells_308 : decode cL_tells 308 = .ok (.iload 18, 2) := by decide +kernel
theorem dL_tells_310 : decode cL_tells 310 = .ok (.isub, 1) := by decide +kernel
theorem dL_tells_311 : decode cL_tells 311 = .ok (.iadd, 1) := by decide +kernel
theorem dL_tells_312 : decode cL_tells 312 = .ok (.iastore, 1) := by decide +kernel
theorem dL_tells_313 : decode cL_tells 313 = .ok (.aload_n 0, 1) := by decide +kernel
theorem dL_tells_314 : decode cL_tells 314 = .ok (.iload 17, 2) := by decide +kernel
theorem dL_tells_316 : decode cL_tells 316 = .ok (.iload 19, 2) := by decide +kernel
theorem dL_tells_318 : decode cL_tells 318 = .ok (.invokevirtual 134, 3) := by decide +kernel
theorem dL_tells_321 : decode cL_tells 321 = .ok (.iload 18, 2) := by decide +kernel
theorem dL_tells_323 : decode cL_tells 323 = .ok (.if_icmp .ne 7, 3) := by decide +kernel
theorem dL_tells_326 : decode cL_tells 326 = .ok (.iconst 1, 1) := by decide +kernel
theorem dL_tells_327 : decode cL_tells 327 = .ok (.goto 4, 3) := by decide +kernel
theorem dL_tells_330 : decode cL_tells 330 = .ok (.iconst 0, 1) := by decide +kernel
theorem dL_tells_331 : decode cL_tells 331 = .ok (.ireturn, 1) := by decide +kernel
theorem dL_tells_332 : decode cL_tells 332 = .ok (.iload_n 1, 1) := by decide +kernel
theorem dL_tells_333 : decode cL_tells 333 = .ok (.iconst 2, 1) := by decide +kernel
theorem dL_tells_334 : decode cL_tells 334 = .ok (.if_icmp .ne 64, 3) := by decide +kernel
theorem dL_tells_337 : decode cL_tells 337 = .ok (.iload 17, 2) := by decide +kernel
theorem dL_tells_339 : decode cL_tells 339 = .ok (.bipush 6, 2) := by decide +kernel
theorem dL_tells_341 : decode cL_tells 341 = .ok (.irem, 1) := by decide +kernel
theorem dL_tells_342 : decode cL_tells 342 = .ok (.istore 18, 2) := by decide +kernel
theorem dL_tells_344 : decode cL_tells 344 = .ok (.aload 16, 2) := by decide +kernel
theorem dL_tells_346 : decode cL_tells 346 = .ok (.bipush 8, 2) := by decide +kernel
theorem dL_tells_348 : decode cL_tells 348 = .ok (.iload 18, 2) := by decide +kernel
theorem dL_tells_350 : decode cL_tells 350 = .ok (.iadd, 1) := by decide +kernel
theorem dL_tells_351 : decode cL_tells 351 = .ok (.iaload, 1) := by decide +kernel
theorem dL_tells_352 : decode cL_tells 352 = .ok (.istore 19, 2) := by decide +kernel
theorem dL_tells_354 : decode cL_tells 354 = .ok (.aload 16, 2) := by decide +kernel
theorem dL_tells_356 : decode cL_tells 356 = .ok (.bipush 8, 2) := by decide +kernel
theorem dL_tells_358 : decode cL_tells 358 = .ok (.iload 18, 2) := by decide +kernel
theorem dL_tells_360 : decode cL_tells 360 = .ok (.iadd, 1) := by decide +kernel
theorem dL_tells_361 : decode cL_tells 361 = .ok (.iload_n 2, 1) := by decide +kernel
theorem dL_tells_362 : decode cL_tells 362 = .ok (.iconst 4, 1) := by decide +kernel
theorem dL_tells_363 : decode cL_tells 363 = .ok (.ishr, 1) := by decide +kernel
theorem dL_tells_364 : decode cL_tells 364 = .ok (.bipush 101, 2) := by decide +kernel
theorem dL_tells_366 : decode cL_tells 366 = .ok (.invokestatic 29, 3) := by decide +kernel
theorem dL_tells_369 : decode cL_tells 369 = .ok (.bipush 50, 2) := by decide +kernel
theorem dL_tells_371 : decode cL_tells 371 = .ok (.isub, 1) := by decide +kernel
theorem dL_tells_372 : decode cL_tells 372 = .ok (.iastore, 1) := by decide +kernel
theorem dL_tells_373 : decode cL_tells 373 = .ok (.aload_n 0, 1) := by decide +kernel
theorem dL_tells_374 : decode cL_tells 374 = .ok (.iload 18, 2) := by decide +kernel
theorem dL_tells_376 : decode cL_tells 376 = .ok (.aload 16, 2) := by decide +kernel
theorem dL_tells_378 : decode cL_tells 378 = .ok (.bipush 8, 2) := by decide +kernel
theorem dL_tells_380 : decode cL_tells 380 = .ok (.iload 18, 2) := by decide +kernel
theorem dL_tells_382 : decode cL_tells 382 = .ok (.iadd, 1) := by decide +kernel
theorem dL_tells_383 : decode cL_tells 383 = .ok (.iaload, 1) := by decide +kernel
theorem dL_tells_384 : decode cL_tells 384 = .ok (.invokevirtual 137, 3) := by decide +kernel
theorem dL_tells_387 : decode cL_tells 387 = .ok (.iload 19, 2) := by decide +kernel
theorem dL_tells_389 : decode cL_tells 389 = .ok (.if_icmp .ne 7, 3) := by decide +kernel
theorem dL_tells_392 : decode cL_tells 392 = .ok (.iconst 1, 1) := by decide +kernel
theorem dL_tells_393 : decode cL_tells 393 = .ok (.goto 4, 3) := by decide +kernel
theorem dL_tells_396 : decode cL_tells 396 = .ok (.iconst 0, 1) := by decide +kernel
theorem dL_tells_397 : decode cL_tells 397 = .ok (.ireturn, 1) := by decide +kernel
theorem dL_tells_398 : decode cL_tells 398 = .ok (.iload_n 1, 1) := by decide +kernel
theorem dL_tells_399 : decode cL_tells 399 = .ok (.iconst 3, 1) := by decide +kernel
theorem dL_tells_400 : decode cL_tells 400 = .ok (.if_icmp .ne 171, 3) := by decide +kernel
theorem dL_tells_403 : decode cL_tells 403 = .ok (.iconst 1, 1) := by decide +kernel
theorem dL_tells_404 : decode cL_tells 404 = .ok (.iload_n 2, 1) := by decide +kernel
theorem dL_tells_405 : decode cL_tells 405 = .ok (.iconst 4, 1) := by decide +kernel
theorem dL_tells_406 : decode cL_tells 406 = .ok (.ishr, 1) := by decide +kernel
theorem dL_tells_407 : decode cL_tells 407 = .ok (.iconst 4, 1) := by decide +kernel
theorem dL_tells_408 : decode cL_tells 408 = .ok (.invokestatic 29, 3) := by decide +kernel
theorem dL_tells_411 : decode cL_tells 411 = .ok (.iadd, 1) := by decide +kernel
theorem dL_tells_412 : decode cL_tells 412 = .ok (.istore 18, 2) := by decide +kernel
theorem dL_tells_414 : decode cL_tells 414 = .ok (.iconst 1, 1) := by decide +kernel
theorem dL_tells_415 : decode cL_tells 415 = .ok (.iload_n 2, 1) := by decide +kernel
theorem dL_tells_416 : decode cL_tells 416 = .ok (.bipush 6, 2) := by decide +kernel
theorem dL_tells_418 : decode cL_tells 418 = .ok (.ishr, 1) := by decide +kernel
theorem dL_tells_419 : decode cL_tells 419 = .ok (.iconst 3, 1) := by decide +kernel
theorem dL_tells_420 : decode cL_tells 420 = .ok (.invokestatic 29, 3) := by decide +kernel
theorem dL_tells_423 : decode cL_tells 423 = .ok (.iadd, 1) := by decide +kernel
theorem dL_tells_424 : decode cL_tells 424 = .ok (.istore 19, 2) := by decide +kernel
theorem dL_tells_426 : decode cL_tells 426 = .ok (.aload_n 3, 1) := by decide +kernel
theorem dL_tells_427 : decode cL_tells 427 = .ok (.iload 17, 2) := by decide +kernel
theorem dL_tells_429 : decode cL_tells 429 = .ok (.iaload, 1) := by decide +kernel
theorem dL_tells_430 : decode cL_tells 430 = .ok (.bipush 8, 2) := by decide +kernel
theorem dL_tells_432 : decode cL_tells 432 = .ok (.if_icmp .ge 16, 3) := by decide +kernel
theorem dL_tells_435 : decode cL_tells 435 = .ok (.aload 16, 2) := by decide +kernel
theorem dL_tells_437 : decode cL_tells 437 = .ok (.iconst 2, 1) := by decide +kernel
theorem dL_tells_438 : decode cL_tells 438 = .ok (.iaload, 1) := by decide +kernel
theorem dL_tells_439 : decode cL_tells 439 = .ok (.bipush 8, 2) := by decide +kernel
theorem dL_tells_441 : decode cL_tells 441 = .ok (.if_icmp .ge 7, 3) := by decide +kernel
theorem dL_tells_444 : decode cL_tells 444 = .ok (.iconst 1, 1) := by decide +kernel
theorem dL_tells_445 : decode cL_tells 445 = .ok (.goto 4, 3) := by decide +kernel
theorem dL_tells_448 : decode cL_tells 448 = .ok (.iconst 0, 1) := by decide +kernel
theorem dL_tells_449 : decode cL_tells 449 = .ok (.istore 20, 2) := by decide +kernel
theorem dL_tells_451 : decode cL_tells 451 = .ok (.iload 20, 2) := by decide +kernel
theorem dL_tells_453 : decode cL_tells 453 = .ok (.ifCond .eq 82, 3) := by decide +kernel
theorem dL_tells_456 : decode cL_tells 456 = .ok (.bipush 8, 2) := by decide +kernel
theorem dL_tells_458 : decode cL_tells 458 = .ok (.aload 16, 2) := by decide +kernel
theorem dL_tells_460 : decode cL_tells 460 = .ok (.iconst 2, 1) := by decide +kernel
theorem dL_tells_461 : decode cL_tells 461 = .ok (.iaload, 1) := by decide +kernel
theorem dL_tells_462 : decode cL_tells 462 = .ok (.imul, 1) := by decide +kernel
theorem dL_tells_463 : decode cL_tells 463 = .ok (.istore 21, 2) := by decide +kernel
theorem dL_tells_465 : decode cL_tells 465 = .ok (.aload 8, 2) := by decide +kernel
theorem dL_tells_467 : decode cL_tells 467 = .ok (.iload 21, 2) := by decide +kernel
theorem dL_tells_469 : decode cL_tells 469 = .ok (.iload 17, 2) := by decide +kernel
theorem dL_tells_471 : decode cL_tells 471 = .ok (.iastore, 1) := by decide +kernel
theorem dL_tells_472 : decode cL_tells 472 = .ok (.aload 8, 2) := by decide +kernel
theorem dL_tells_474 : decode cL_tells 474 = .ok (.iload 21, 2) := by decide +kernel
theorem dL_tells_476 : decode cL_tells 476 = .ok (.iconst 1, 1) := by decide +kernel
theorem dL_tells_477 : decode cL_tells 477 = .ok (.iadd, 1) := by decide +kernel
theorem dL_tells_478 : decode cL_tells 478 = .ok (.iload 18, 2) := by decide +kernel
theorem dL_tells_480 : decode cL_tells 480 = .ok (.iastore, 1) := by decide +kernel
theorem dL_tells_481 : decode cL_tells 481 = .ok (.aload 8, 2) := by decide +kernel
theorem dL_tells_483 : decode cL_tells 483 = .ok (.iload 21, 2) := by decide +kernel
theorem dL_tells_485 : decode cL_tells 485 = .ok (.iconst 2, 1) := by decide +kernel
theorem dL_tells_486 : decode cL_tells 486 = .ok (.iadd, 1) := by decide +kernel
theorem dL_tells_487 : decode cL_tells 487 = .ok (.iload 18, 2) := by decide +kernel
theorem dL_tells_489 : decode cL_tells 489 = .ok (.iastore, 1) := by decide +kernel
theorem dL_tells_490 : decode cL_tells 490 = .ok (.aload 8, 2) := by decide +kernel
theorem dL_tells_492 : decode cL_tells 492 = .ok (.iload 21, 2) := by decide +kernel
theorem dL_tells_494 : decode cL_tells 494 = .ok (.iconst 3, 1) := by decide +kernel
theorem dL_tells_495 : decode cL_tells 495 = .ok (.iadd, 1) := by decide +kernel
theorem dL_tells_496 : decode cL_tells 496 = .ok (.iload 19, 2) := by decide +kernel
theorem dL_tells_498 : decode cL_tells 498 = .ok (.iastore, 1) := by decide +kernel
theorem dL_tells_499 : decode cL_tells 499 = .ok (.aload 8, 2) := by decide +kernel
theorem dL_tells_501 : decode cL_tells 501 = .ok (.iload 21, 2) := by decide +kernel
theorem dL_tells_503 : decode cL_tells 503 = .ok (.iconst 4, 1) := by decide +kernel
theorem dL_tells_504 : decode cL_tells 504 = .ok (.iadd, 1) := by decide +kernel
theorem dL_tells_505 : decode cL_tells 505 = .ok (.iload 17, 2) := by decide +kernel
theorem dL_tells_507 : decode cL_tells 507 = .ok (.bipush 7, 2) := by decide +kernel
theorem dL_tells_509 : decode cL_tells 509 = .ok (.imul, 1) := by decide +kernel
theorem dL_tells_510 : decode cL_tells 510 = .ok (.iload 18, 2) := by decide +kernel
theorem dL_tells_512 : decode cL_tells 512 = .ok (.iconst 3, 1) := by decide +kernel
theorem dL_tells_513 : decode cL_tells 513 = .ok (.imul, 1) := by decide +kernel
theorem dL_tells_514 : decode cL_tells 514 = .ok (.iadd, 1) := by decide +kernel
theorem dL_tells_515 : decode cL_tells 515 = .ok (.iload 19, 2) := by decide +kernel
theorem dL_tells_517 : decode cL_tells 517 = .ok (.iadd, 1) := by decide +kernel
theorem dL_tells_518 : decode cL_tells 518 = .ok (.bipush 101, 2) := by decide +kernel
theorem dL_tells_520 : decode cL_tells 520 = .ok (.invokestatic 29, 3) := by decide +kernel
theorem dL_tells_523 : decode cL_tells 523 = .ok (.bipush 50, 2) := by decide +kernel
theorem dL_tells_525 : decode cL_tells 525 = .ok (.isub, 1) := by decide +kernel
theorem dL_tells_526 : decode cL_tells 526 = .ok (.iastore, 1) := by decide +kernel
theorem dL_tells_527 : decode cL_tells 527 = .ok (.aload 16, 2) := by decide +kernel
theorem dL_tells_529 : decode cL_tells 529 = .ok (.iconst 2, 1) := by decide +kernel
theorem dL_tells_530 : decode cL_tells 530 = .ok (.dup2, 1) := by decide +kernel
theorem dL_tells_531 : decode cL_tells 531 = .ok (.iaload, 1) := by decide +kernel
theorem dL_tells_532 : decode cL_tells 532 = .ok (.iconst 1, 1) := by decide +kernel
theorem dL_tells_533 : decode cL_tells 533 = .ok (.iadd, 1) := by decide +kernel
theorem dL_tells_534 : decode cL_tells 534 = .ok (.iastore, 1) := by decide +kernel
theorem dL_tells_535 : decode cL_tells 535 = .ok (.aload_n 0, 1) := by decide +kernel
theorem dL_tells_536 : decode cL_tells 536 = .ok (.iconst 5, 1) := by decide +kernel
theorem dL_tells_537 : decode cL_tells 537 = .ok (.iload 17, 2) := by decide +kernel
theorem dL_tells_539 : decode cL_tells 539 = .ok (.iload 18, 2) := by decide +kernel
theorem dL_tells_541 : decode cL_tells 541 = .ok (.iload 19, 2) := by decide +kernel
theorem dL_tells_543 : decode cL_tells 543 = .ok (.invokestatic 130, 3) := by decide +kernel
theorem dL_tells_546 : decode cL_tells 546 = .ok (.iload 20, 2) := by decide +kernel
theorem dL_tells_548 : decode cL_tells 548 = .ok (.ifCond .eq 12, 3) := by decide +kernel
theorem dL_tells_551 : decode cL_tells 551 = .ok (.aload 16, 2) := by decide +kernel
theorem dL_tells_553 : decode cL_tells 553 = .ok (.iconst 2, 1) := by decide +kernel
theorem dL_tells_554 : decode cL_tells 554 = .ok (.iaload, 1) := by decide +kernel
theorem dL_tells_555 : decode cL_tells 555 = .ok (.iconst 1, 1) := by decide +kernel
theorem dL_tells_556 : decode cL_tells 556 = .ok (.isub, 1) := by decide +kernel
theorem dL_tells_557 : decode cL_tells 557 = .ok (.goto 5, 3) := by decide +kernel
theorem dL_tells_560 : decode cL_tells 560 = .ok (.ldc 50, 2) := by decide +kernel
theorem dL_tells_562 : decode cL_tells 562 = .ok (.if_icmp .ne 7, 3) := by decide +kernel
theorem dL_tells_565 : decode cL_tells 565 = .ok (.iconst 1, 1) := by decide +kernel
theorem dL_tells_566 : decode cL_tells 566 = .ok (.goto 4, 3) := by decide +kernel
theorem dL_tells_569 : decode cL_tells 569 = .ok (.iconst 0, 1) := by decide +kernel
theorem dL_tells_570 : decode cL_tells 570 = .ok (.ireturn, 1) := by decide +kernel
theorem dL_tells_571 : decode cL_tells 571 = .ok (.iload_n 1, 1) := by decide +kernel
theorem dL_tells_572 : decode cL_tells 572 = .ok (.iconst 4, 1) := by decide +kernel
theorem dL_tells_573 : decode cL_tells 573 = .ok (.if_icmp .ne 192, 3) := by decide +kernel
theorem dL_tells_576 : decode cL_tells 576 = .ok (.aload 16, 2) := by decide +kernel
theorem dL_tells_578 : decode cL_tells 578 = .ok (.iconst 2, 1) := by decide +kernel
theorem dL_tells_579 : decode cL_tells 579 = .ok (.iaload, 1) := by decide +kernel
theorem dL_tells_580 : decode cL_tells 580 = .ok (.ifCond .le 32, 3) := by decide +kernel
theorem dL_tells_583 : decode cL_tells 583 = .ok (.iload_n 2, 1) := by decide +kernel
theorem dL_tells_584 : decode cL_tells 584 = .ok (.iconst 3, 1) := by decide +kernel
theorem dL_tells_585 : decode cL_tells 585 = .ok (.ishr, 1) := by decide +kernel
theorem dL_tells_586 : decode cL_tells 586 = .ok (.iconst 4, 1) := by decide +kernel
theorem dL_tells_587 : decode cL_tells 587 = .ok (.invokestatic 29, 3) := by decide +kernel
theorem dL_tells_590 : decode cL_tells 590 = .ok (.ifCond .le 22, 3) := by decide +kernel
theorem dL_tells_593 : decode cL_tells 593 = .ok (.aload 8, 2) := by decide +kernel
theorem dL_tells_595 : decode cL_tells 595 = .ok (.bipush 8, 2) := by decide +kernel
theorem dL_tells_597 : decode cL_tells 597 = .ok (.iload_n 2, 1) := by decide +kernel
theorem dL_tells_598 : decode cL_tells 598 = .ok (.iconst 4, 1) := by decide +kernel
theorem dL_tells_599 : decode cL_tells 599 = .ok (.ishr, 1) := by decide +kernel
theorem dL_tells_600 : decode cL_tells 600 = .ok (.aload 16, 2) := by decide +kernel
theorem dL_tells_602 : decode cL_tells 602 = .ok (.iconst 2, 1) := by decide +kernel
theorem dL_tells_603 : decode cL_tells 603 = .ok (.iaload, 1) := by decide +kernel
theorem dL_tells_604 : decode cL_tells 604 = .ok (.invokestatic 29, 3) := by decide +kernel
theorem dL_tells_607 : decode cL_tells 607 = .ok (.imul, 1) := by decide +kernel
theorem dL_tells_608 : decode cL_tells 608 = .ok (.iaload, 1) := by decide +kernel
theorem dL_tells_609 : decode cL_tells 609 = .ok (.goto 5, 3) := by decide +kernel
theorem dL_tells_612 : decode cL_tells 612 = .ok (.iload 17, 2) := by decide +kernel
theorem dL_tells_614 : decode cL_tells 614 = .ok (.istore 17, 2) := by decide +kernel
theorem dL_tells_616 : decode cL_tells 616 = .ok (.aload 16, 2) := by decide +kernel
theorem dL_tells_618 : decode cL_tells 618 = .ok (.iconst 0, 1) := by decide +kernel
theorem dL_tells_619 : decode cL_tells 619 = .ok (.iaload, 1) := by decide +kernel
theorem dL_tells_620 : decode cL_tells 620 = .ok (.iconst 1, 1) := by decide +kernel
theorem dL_tells_621 : decode cL_tells 621 = .ok (.iadd, 1) := by decide +kernel
theorem dL_tells_622 : decode cL_tells 622 = .ok (.iload_n 2, 1) := by decide +kernel
theorem dL_tells_623 : decode cL_tells 623 = .ok (.iconst 5, 1) := by decide +kernel
theorem dL_tells_624 : decode cL_tells 624 = .ok (.ishr, 1) := by decide +kernel
theorem dL_tells_625 : decode cL_tells 625 = .ok (.bipush 6, 2) := by decide +kernel
theorem dL_tells_627 : decode cL_tells 627 = .ok (.invokestatic 29, 3) := by decide +kernel
theorem dL_tells_630 : decode cL_tells 630 = .ok (.iadd, 1) := by decide +kernel
theorem dL_tells_631 : decode cL_tells 631 = .ok (.istore 18, 2) := by decide +kernel
theorem dL_tells_633 : decode cL_tells 633 = .ok (.aload_n 3, 1) := by decide +kernel
theorem dL_tells_634 : decode cL_tells 634 = .ok (.iload 17, 2) := by decide +kernel
theorem dL_tells_636 : decode cL_tells 636 = .ok (.iaload, 1) := by decide +kernel
theorem dL_tells_637 : decode cL_tells 637 = .ok (.bipush 8, 2) := by decide +kernel
theorem dL_tells_639 : decode cL_tells 639 = .ok (.if_icmp .ge 16, 3) := by decide +kernel
theorem dL_tells_642 : decode cL_tells 642 = .ok (.aload 16, 2) := by decide +kernel
theorem dL_tells_644 : decode cL_tells 644 = .ok (.iconst 3, 1) := by decide +kernel
theorem dL_tells_645 : decode cL_tells 645 = .ok (.iaload, 1) := by decide +kernel
theorem dL_tells_646 : decode cL_tells 646 = .ok (.bipush 30, 2) := by decide +kernel
theorem dL_tells_648 : decode cL_tells 648 = .ok (.if_icmp .ge 7, 3) := by decide +kernel
theorem dL_tells_651 : decode cL_tells 651 = .ok (.iconst 1, 1) := by decide +kernel
theorem dL_tells_652 : decode cL_tells 652 = .ok (.goto 4, 3) := by decide +kernel
theorem dL_tells_655 : decode cL_tells 655 = .ok (.iconst 0, 1) := by decide +kernel
theorem dL_tells_656 : decode cL_tells 656 = .ok (.istore 19, 2) := by decide +kernel
theorem dL_tells_658 : decode cL_tells 658 = .ok (.iconst 0, 1) := by decide +kernel
theorem dL_tells_659 : decode cL_tells 659 = .ok (.istore 20, 2) := by decide +kernel
theorem dL_tells_661 : decode cL_tells 661 = .ok (.iload 20, 2) := by decide +kernel
theorem dL_tells_663 : decode cL_tells 663 = .ok (.aload 16, 2) := by decide +kernel
theorem dL_tells_665 : decode cL_tells 665 = .ok (.iconst 3, 1) := by decide +kernel
theorem dL_tells_666 : decode cL_tells 666 = .ok (.iaload, 1) := by decide +kernel
theorem dL_tells_667 : decode cL_tells 667 = .ok (.if_icmp .ge 37, 3) := by decide +kernel
theorem dL_tells_670 : decode cL_tells 670 = .ok (.iload 19, 2) := by decide +kernel
theorem dL_tells_672 : decode cL_tells 672 = .ok (.ifCond .eq 23, 3) := by decide +kernel
theorem dL_tells_675 : decode cL_tells 675 = .ok (.aload 9, 2) := by decide +kernel
theorem dL_tells_677 : decode cL_tells 677 = .ok (.iload 20, 2) := by decide +kernel
theorem dL_tells_679 : decode cL_tells 679 = .ok (.iaload, 1) := by decide +kernel
theorem dL_tells_680 : decode cL_tells 680 = .ok (.bipush 64, 2) := by decide +kernel
theorem dL_tells_682 : decode cL_tells 682 = .ok (.iload 18, 2) := by decide +kernel
theorem dL_tells_684 : decode cL_tells 684 = .ok (.imul, 1) := by decide +kernel
theorem dL_tells_685 : decode cL_tells 685 = .ok (.iload 17, 2) := by decide +kernel
theorem dL_tells_687 : decode cL_tells 687 = .ok (.iadd, 1) := by decide +kernel
theorem dL_tells_688 : decode cL_tells 688 = .ok (.if_icmp .eq 7, 3) := by decide +kernel
theorem dL_tells_691 : decode cL_tells 691 = .ok (.iconst 1, 1) := by decide +kernel
theorem dL_tells_692 : decode cL_tells 692 = .ok (.goto 4, 3) := by decide +kernel
theorem dL_tells_695 : decode cL_tells 695 = .ok (.iconst 0, 1) := by decide +kernel
theorem dL_tells_696 : decode cL_tells 696 = .ok (.istore 19, 2) := by decide +kernel
theorem dL_tells_698 : decode cL_tells 698 = .ok (.iinc 20 1, 3) := by decide +kernel
theorem dL_tells_701 : decode cL_tells 701 = .ok (.goto (-40), 3) := by decide +kernel
theorem dL_tells_704 : decode cL_tells 704 = .ok (.iload 19, 2) := by decide +kernel
theorem dL_tells_706 : decode cL_tells 706 = .ok (.ifCond .eq 26, 3) := by decide +kernel
theorem dL_tells_709 : decode cL_tells 709 = .ok (.aload 9, 2) := by decide +kernel
theorem dL_tells_711 : decode cL_tells 711 = .ok (.aload 16, 2) := by decide +kernel
theorem dL_tells_713 : decode cL_tells 713 = .ok (.iconst 3, 1) := by decide +kernel
theorem dL_tells_714 : decode cL_tells 714 = .ok (.iaload, 1) := by decide +kernel
theorem dL_tells_715 : decode cL_tells 715 = .ok (.bipush 64, 2) := by decide +kernel
theorem dL_tells_717 : decode cL_tells 717 = .ok (.iload 18, 2) := by decide +kernel
theorem dL_tells_719 : decode cL_tells 719 = .ok (.imul, 1) := by decide +kernel
theorem dL_tells_720 : decode cL_tells 720 = .ok (.iload 17, 2) := by decide +kernel
theorem dL_tells_722 : decode cL_tells 722 = .ok (.iadd, 1) := by decide +kernel
theorem dL_tells_723 : decode cL_tells 723 = .ok (.iastore, 1) := by decide +kernel
theorem dL_tells_724 : decode cL_tells 724 = .ok (.aload 16, 2) := by decide +kernel
theorem dL_tells_726 : decode cL_tells 726 = .ok (.iconst 3, 1) := by decide +kernel
theorem dL_tells_727 : decode cL_tells 727 = .ok (.dup2, 1) := by decide +kernel
theorem dL_tells_728 : decode cL_tells 728 = .ok (.iaload, 1) := by decide +kernel
theorem dL_tells_729 : decode cL_tells 729 = .ok (.iconst 1, 1) := by decide +kernel
theorem dL_tells_730 : decode cL_tells 730 = .ok (.iadd, 1) := by decide +kernel
theorem dL_tells_731 : decode cL_tells 731 = .ok (.iastore, 1) := by decide +kernel
theorem dL_tells_732 : decode cL_tells 732 = .ok (.aload_n 0, 1) := by decide +kernel
theorem dL_tells_733 : decode cL_tells 733 = .ok (.iconst 1, 1) := by decide +kernel
theorem dL_tells_734 : decode cL_tells 734 = .ok (.iload 18, 2) := by decide +kernel
theorem dL_tells_736 : decode cL_tells 736 = .ok (.iload 17, 2) := by decide +kernel
theorem dL_tells_738 : decode cL_tells 738 = .ok (.iconst 0, 1) := by decide +kernel
theorem dL_tells_739 : decode cL_tells 739 = .ok (.invokestatic 130, 3) := by decide +kernel
theorem dL_tells_742 : decode cL_tells 742 = .ok (.iload 19, 2) := by decide +kernel
theorem dL_tells_744 : decode cL_tells 744 = .ok (.ifCond .eq 10, 3) := by decide +kernel
theorem dL_tells_747 : decode cL_tells 747 = .ok (.aload 16, 2) := by decide +kernel
theorem dL_tells_749 : decode cL_tells 749 = .ok (.iconst 3, 1) := by decide +kernel
theorem dL_tells_750 : decode cL_tells 750 = .ok (.iaload, 1) := by decide +kernel
theorem dL_tells_751 : decode cL_tells 751 = .ok (.goto 5, 3) := by decide +kernel
theorem dL_tells_754 : decode cL_tells 754 = .ok (.ldc 50, 2) := by decide +kernel
theorem dL_tells_756 : decode cL_tells 756 = .ok (.if_icmp .ne 7, 3) := by decide +kernel
theorem dL_tells_759 : decode cL_tells 759 = .ok (.iconst 1, 1) := by decide +kernel
theorem dL_tells_760 : decode cL_tells 760 = .ok (.goto 4, 3) := by decide +kernel
theorem dL_tells_763 : decode cL_tells 763 = .ok (.iconst 0, 1) := by decide +kernel
theorem dL_tells_764 : decode cL_tells 764 = .ok (.ireturn, 1) := by decide +kernel
theorem dL_tells_765 : decode cL_tells 765 = .ok (.iload_n 1, 1) := by decide +kernel
theorem dL_tells_766 : decode cL_tells 766 = .ok (.iconst 5, 1) := by decide +kernel
theorem dL_tells_767 : decode cL_tells 767 = .ok (.if_icmp .ne 188, 3) := by decide +kernel
theorem dL_tells_770 : decode cL_tells 770 = .ok (.aload 16, 2) := by decide +kernel
theorem dL_tells_772 : decode cL_tells 772 = .ok (.iconst 0, 1) := by decide +kernel
theorem dL_tells_773 : decode cL_tells 773 = .ok (.iaload, 1) := by decide +kernel
theorem dL_tells_774 : decode cL_tells 774 = .ok (.iconst 1, 1) := by decide +kernel
theorem dL_tells_775 : decode cL_tells 775 = .ok (.iadd, 1) := by decide +kernel
theorem dL_tells_776 : decode cL_tells 776 = .ok (.iload_n 2, 1) := by decide +kernel
theorem dL_tells_777 : decode cL_tells 777 = .ok (.iconst 2, 1) := by decide +kernel
theorem dL_tells_778 : decode cL_tells 778 = .ok (.ishr, 1) := by decide +kernel
theorem dL_tells_779 : decode cL_tells 779 = .ok (.bipush 8, 2) := by decide +kernel
theorem dL_tells_781 : decode cL_tells 781 = .ok (.invokestatic 29, 3) := by decide +kernel
theorem dL_tells_784 : decode cL_tells 784 = .ok (.iadd, 1) := by decide +kernel
theorem dL_tells_785 : decode cL_tells 785 = .ok (.istore 18, 2) := by decide +kernel
theorem dL_tells_787 : decode cL_tells 787 = .ok (.iload 18, 2) := by decide +kernel
theorem dL_tells_789 : decode cL_tells 789 = .ok (.iload_n 2, 1) := by decide +kernel
theorem dL_tells_790 : decode cL_tells 790 = .ok (.iconst 5, 1) := by decide +kernel
theorem dL_tells_791 : decode cL_tells 791 = .ok (.ishr, 1) := by decide +kernel
theorem dL_tells_792 : decode cL_tells 792 = .ok (.iconst 4, 1) := by decide +kernel
theorem dL_tells_793 : decode cL_tells 793 = .ok (.invokestatic 29, 3) := by decide +kernel
theorem dL_tells_796 : decode cL_tells 796 = .ok (.iadd, 1) := by decide +kernel
theorem dL_tells_797 : decode cL_tells 797 = .ok (.istore 19, 2) := by decide +kernel
theorem dL_tells_799 : decode cL_tells 799 = .ok (.iconst 0, 1) := by decide +kernel
theorem dL_tells_800 : decode cL_tells 800 = .ok (.istore 20, 2) := by decide +kernel
theorem dL_tells_802 : decode cL_tells 802 = .ok (.iconst 0, 1) := by decide +kernel
theorem dL_tells_803 : decode cL_tells 803 = .ok (.istore 21, 2) := by decide +kernel
theorem dL_tells_805 : decode cL_tells 805 = .ok (.iload 21, 2) := by decide +kernel
theorem dL_tells_807 : decode cL_tells 807 = .ok (.aload 16, 2) := by decide +kernel
theorem dL_tells_809 : decode cL_tells 809 = .ok (.iconst 3, 1) := by decide +kernel
theorem dL_tells_810 : decode cL_tells 810 = .ok (.iaload, 1) := by decide +kernel
theorem dL_tells_811 : decode cL_tells 811 = .ok (.if_icmp .ge 63, 3) := by decide +kernel
theorem dL_tells_814 : decode cL_tells 814 = .ok (.iload 20, 2) := by decide +kernel
theorem dL_tells_816 : decode cL_tells 816 = .ok (.aload 9, 2) := by decide +kernel
theorem dL_tells_818 : decode cL_tells 818 = .ok (.iload 21, 2) := by decide +kernel
theorem dL_tells_820 : decode cL_tells 820 = .ok (.iaload, 1) := by decide +kernel
theorem dL_tells_821 : decode cL_tells 821 = .ok (.bipush 64, 2) := by decide +kernel
theorem dL_tells_823 : decode cL_tells 823 = .ok (.idiv, 1) := by decide +kernel
theorem dL_tells_824 : decode cL_tells 824 = .ok (.iload 18, 2) := by decide +kernel
theorem dL_tells_826 : decode cL_tells 826 = .ok (.if_icmp .lt 38, 3) := by decide +kernel
theorem dL_tells_829 : decode cL_tells 829 = .ok (.aload 9, 2) := by decide +kernel
theorem dL_tells_831 : decode cL_tells 831 = .ok (.iload 21, 2) := by decide +kernel
theorem dL_tells_833 : decode cL_tells 833 = .ok (.iaload, 1) := by decide +kernel
theorem dL_tells_834 : decode cL_tells 834 = .ok (.bipush 64, 2) := by decide +kernel
theorem dL_tells_836 : decode cL_tells 836 = .ok (.idiv, 1) := by decide +kernel
theorem dL_tells_837 : decode cL_tells 837 = .ok (.iload 19, 2) := by decide +kernel
theorem dL_tells_839 : decode cL_tells 839 = .ok (.if_icmp .gt 25, 3) := by decide +kernel
theorem dL_tells_842 : decode cL_tells 842 = .ok (.aload 9, 2) := by decide +kernel
theorem dL_tells_844 : decode cL_tells 844 = .ok (.iload 21, 2) := by decide +kernel
theorem dL_tells_846 : decode cL_tells 846 = .ok (.iaload, 1) := by decide +kernel
theorem dL_tells_847 : decode cL_tells 847 = .ok (.bipush 64, 2) := by decide +kernel
theorem dL_tells_849 : decode cL_tells 849 = .ok (.idiv, 1) := by decide +kernel
theorem dL_tells_850 : decode cL_tells 850 = .ok (.aload 10, 2) := by decide +kernel
theorem dL_tells_852 : decode cL_tells 852 = .ok (.aload 16, 2) := by decide +kernel
theorem dL_tells_854 : decode cL_tells 854 = .ok (.invokestatic 74, 3) := by decide +kernel
theorem dL_tells_857 : decode cL_tells 857 = .ok (.ifCond .ne 7, 3) := by decide +kernel
theorem dL_tells_860 : decode cL_tells 860 = .ok (.iconst 1, 1) := by decide +kernel
theorem dL_tells_861 : decode cL_tells 861 = .ok (.goto 4, 3) := by decide +kernel
theorem dL_tells_864 : decode cL_tells 864 = .ok (.iconst 0, 1) := by decide +kernel
theorem dL_tells_865 : decode cL_tells 865 = .ok (.iadd, 1) := by decide +kernel
theorem dL_tells_866 : decode cL_tells 866 = .ok (.istore 20, 2) := by decide +kernel
theorem dL_tells_868 : decode cL_tells 868 = .ok (.iinc 21 1, 3) := by decide +kernel
theorem dL_tells_871 : decode cL_tells 871 = .ok (.goto (-66), 3) := by decide +kernel
theorem dL_tells_874 : decode cL_tells 874 = .ok (.aload 16, 2) := by decide +kernel
theorem dL_tells_876 : decode cL_tells 876 = .ok (.iconst 4, 1) := by decide +kernel
theorem dL_tells_877 : decode cL_tells 877 = .ok (.iaload, 1) := by decide +kernel
theorem dL_tells_878 : decode cL_tells 878 = .ok (.bipush 20, 2) := by decide +kernel
theorem dL_tells_880 : decode cL_tells 880 = .ok (.if_icmp .ge 54, 3) := by decide +kernel
theorem dL_tells_883 : decode cL_tells 883 = .ok (.aload 10, 2) := by decide +kernel
theorem dL_tells_885 : decode cL_tells 885 = .ok (.iconst 2, 1) := by decide +kernel
theorem dL_tells_886 : decode cL_tells 886 = .ok (.aload 16, 2) := by decide +kernel
theorem dL_tells_888 : decode cL_tells 888 = .ok (.iconst 4, 1) := by decide +kernel
theorem dL_tells_889 : decode cL_tells 889 = .ok (.iaload, 1) := by decide +kernel
theorem dL_tells_890 : decode cL_tells 890 = .ok (.imul, 1) := by decide +kernel
theorem dL_tells_891 : decode cL_tells 891 = .ok (.iload 18, 2) := by decide +kernel
theorem dL_tells_893 : decode cL_tells 893 = .ok (.iastore, 1) := by decide +kernel
theorem dL_tells_894 : decode cL_tells 894 = .ok (.aload 10, 2) := by decide +kernel
theorem dL_tells_896 : decode cL_tells 896 = .ok (.iconst 2, 1) := by decide +kernel
theorem dL_tells_897 : decode cL_tells 897 = .ok (.aload 16, 2) := by decide +kernel
theorem dL_tells_899 : decode cL_tells 899 = .ok (.iconst 4, 1) := by decide +kernel
theorem dL_tells_900 : decode cL_tells 900 = .ok (.iaload, 1) := by decide +kernel
theorem dL_tells_901 : decode cL_tells 901 = .ok (.imul, 1) := by decide +kernel
theorem dL_tells_902 : decode cL_tells 902 = .ok (.iconst 1, 1) := by decide +kernel
theorem dL_tells_903 : decode cL_tells 903 = .ok (.iadd, 1) := by decide +kernel
theorem dL_tells_904 : decode cL_tells 904 = .ok (.iload 19, 2) := by decide +kernel
theorem dL_tells_906 : decode cL_tells 906 = .ok (.iastore, 1) := by decide +kernel
theorem dL_tells_907 : decode cL_tells 907 = .ok (.aload 16, 2) := by decide +kernel
theorem dL_tells_909 : decode cL_tells 909 = .ok (.iconst 4, 1) := by decide +kernel
theorem dL_tells_910 : decode cL_tells 910 = .ok (.dup2, 1) := by decide +kernel
theorem dL_tells_911 : decode cL_tells 911 = .ok (.iaload, 1) := by decide +kernel
theorem dL_tells_912 : decode cL_tells 912 = .ok (.iconst 1, 1) := by decide +kernel
theorem dL_tells_913 : decode cL_tells 913 = .ok (.iadd, 1) := by decide +kernel
theorem dL_tells_914 : decode cL_tells 914 = .ok (.iastore, 1) := by decide +kernel
theorem dL_tells_915 : decode cL_tells 915 = .ok (.aload_n 0, 1) := by decide +kernel
theorem dL_tells_916 : decode cL_tells 916 = .ok (.iload 18, 2) := by decide +kernel
theorem dL_tells_918 : decode cL_tells 918 = .ok (.iload 19, 2) := by decide +kernel
theorem dL_tells_920 : decode cL_tells 920 = .ok (.invokevirtual 20, 3) := by decide +kernel
theorem dL_tells_923 : decode cL_tells 923 = .ok (.iload 20, 2) := by decide +kernel
theorem dL_tells_925 : decode cL_tells 925 = .ok (.if_icmp .ne 7, 3) := by decide +kernel
theorem dL_tells_928 : decode cL_tells 928 = .ok (.iconst 1, 1) := by decide +kernel
theorem dL_tells_929 : decode cL_tells 929 = .ok (.goto 4, 3) := by decide +kernel
theorem dL_tells_932 : decode cL_tells 932 = .ok (.iconst 0, 1) := by decide +kernel
theorem dL_tells_933 : decode cL_tells 933 = .ok (.ireturn, 1) := by decide +kernel
theorem dL_tells_934 : decode cL_tells 934 = .ok (.aload_n 0, 1) := by decide +kernel
theorem dL_tells_935 : decode cL_tells 935 = .ok (.iconst 2, 1) := by decide +kernel
theorem dL_tells_936 : decode cL_tells 936 = .ok (.iload 18, 2) := by decide +kernel
theorem dL_tells_938 : decode cL_tells 938 = .ok (.iload 19, 2) := by decide +kernel
theorem dL_tells_940 : decode cL_tells 940 = .ok (.iconst 0, 1) := by decide +kernel
theorem dL_tells_941 : decode cL_tells 941 = .ok (.invokestatic 130, 3) := by decide +kernel
theorem dL_tells_944 : decode cL_tells 944 = .ok (.ldc 50, 2) := by decide +kernel
theorem dL_tells_946 : decode cL_tells 946 = .ok (.if_icmp .ne 7, 3) := by decide +kernel
theorem dL_tells_949 : decode cL_tells 949 = .ok (.iconst 1, 1) := by decide +kernel
theorem dL_tells_950 : decode cL_tells 950 = .ok (.goto 4, 3) := by decide +kernel
theorem dL_tells_953 : decode cL_tells 953 = .ok (.iconst 0, 1) := by decide +kernel
theorem dL_tells_954 : decode cL_tells 954 = .ok (.ireturn, 1) := by decide +kernel
theorem dL_tells_955 : decode cL_tells 955 = .ok (.iload_n 1, 1) := by decide +kernel
theorem dL_tells_956 : decode cL_tells 956 = .ok (.bipush 6, 2) := by decide +kernel
theorem dL_tells_958 : decode cL_tells 958 = .ok (.if_icmp .ne 168, 3) := by decide +kernel
theorem dL_tells_961 : decode cL_tells 961 = .ok (.aload 16, 2) := by decide +kernel
theorem dL_tells_963 : decode cL_tells 963 = .ok (.bipush 6, 2) := by decide +kernel
theorem dL_tells_965 : decode cL_tells 965 = .ok (.iaload, 1) := by decide +kernel
theorem dL_tells_966 : decode cL_tells 966 = .ok (.iconst 2, 1) := by decide +kernel
theorem dL_tells_967 : decode cL_tells 967 = .ok (.if_icmp .ne 32, 3) := by decide +kernel
theorem dL_tells_970 : decode cL_tells 970 = .ok (.aload_n 3, 1) := by decide +kernel
theorem dL_tells_971 : decode cL_tells 971 = .ok (.iload 17, 2) := by decide +kernel
theorem dL_tells_973 : decode cL_tells 973 = .ok (.iaload, 1) := by decide +kernel
theorem dL_tells_974 : decode cL_tells 974 = .ok (.bipush 8, 2) := by decide +kernel
theorem dL_tells_976 : decode cL_tells 976 = .ok (.if_icmp .lt 17, 3) := by decide +kernel
theorem dL_tells_979 : decode cL_tells 979 = .ok (.aload_n 0, 1) := by decide +kernel
theorem dL_tells_980 : decode cL_tells 980 = .ok (.iconst 4, 1) := by decide +kernel
theorem dL_tells_981 : decode cL_tells 981 = .ok (.iload 17, 2) := by decide +kernel
theorem dL_tells_983 : decode cL_tells 983 = .ok (.iconst 0, 1) := by decide +kernel
theorem dL_tells_984 : decode cL_tells 984 = .ok (.iconst 0, 1) := by decide +kernel
theorem dL_tells_985 : decode cL_tells 985 = .ok (.invokestatic 130, 3) := by decide +kernel
theorem dL_tells_988 : decode cL_tells 988 = .ok (.ldc 50, 2) := by decide +kernel
theorem dL_tells_990 : decode cL_tells 990 = .ok (.if_icmp .ne 7, 3) := by decide +kernel
theorem dL_tells_993 : decode cL_tells 993 = .ok (.iconst 1, 1) := by decide +kernel
theorem dL_tells_994 : decode cL_tells 994 = .ok (.goto 4, 3) := by decide +kernel
theorem dL_tells_997 : decode cL_tells 997 = .ok (.iconst 0, 1) := by decide +kernel
theorem dL_tells_998 : decode cL_tells 998 = .ok (.ireturn, 1) := by decide +kernel
theorem dL_tells_999 : decode cL_tells 999 = .ok (.aload_n 3, 1) := by decide +kernel
theorem dL_tells_1000 : decode cL_tells 1000 = .ok (.iload 17, 2) := by decide +kernel
theorem dL_tells_1002 : decode cL_tells 1002 = .ok (.iaload, 1) := by decide +kernel
theorem dL_tells_1003 : decode cL_tells 1003 = .ok (.bipush 8, 2) := by decide +kernel
theorem dL_tells_1005 : decode cL_tells 1005 = .ok (.if_icmp .ge 7, 3) := by decide +kernel
theorem dL_tells_1008 : decode cL_tells 1008 = .ok (.iconst 1, 1) := by decide +kernel
theorem dL_tells_1009 : decode cL_tells 1009 = .ok (.goto 4, 3) := by decide +kernel
theorem dL_tells_1012 : decode cL_tells 1012 = .ok (.iconst 0, 1) := by decide +kernel
theorem dL_tells_1013 : decode cL_tells 1013 = .ok (.istore 18, 2) := by decide +kernel
theorem dL_tells_1015 : decode cL_tells 1015 = .ok (.iload 18, 2) := by decide +kernel
theorem dL_tells_1017 : decode cL_tells 1017 = .ok (.ifCond .eq 74, 3) := by decide +kernel
theorem dL_tells_1020 : decode cL_tells 1020 = .ok (.aload 16, 2) := by decide +kernel
theorem dL_tells_1022 : decode cL_tells 1022 = .ok (.bipush 14, 2) := by decide +kernel
theorem dL_tells_1024 : decode cL_tells 1024 = .ok (.aload 16, 2) := by decide +kernel
theorem dL_tells_1026 : decode cL_tells 1026 = .ok (.bipush 6, 2) := by decide +kernel
theorem dL_tells_1028 : decode cL_tells 1028 = .ok (.iaload, 1) := by decide +kernel
theorem dL_tells_1029 : decode cL_tells 1029 = .ok (.iadd, 1) := by decide +kernel
theorem dL_tells_1030 : decode cL_tells 1030 = .ok (.iload 17, 2) := by decide +kernel
theorem dL_tells_1032 : decode cL_tells 1032 = .ok (.iastore, 1) := by decide +kernel
theorem dL_tells_1033 : decode cL_tells 1033 = .ok (.aload 14, 2) := by decide +kernel
theorem dL_tells_1035 : decode cL_tells 1035 = .ok (.iload 17, 2) := by decide +kernel
theorem dL_tells_1037 : decode cL_tells 1037 = .ok (.aload 16, 2) := by decide +kernel
theorem dL_tells_1039 : decode cL_tells 1039 = .ok (.bipush 6, 2) := by decide +kernel
theorem dL_tells_1041 : decode cL_tells 1041 = .ok (.iaload, 1) := by decide +kernel
theorem dL_tells_1042 : decode cL_tells 1042 = .ok (.ifCond .ne 9, 3) := by decide +kernel
theorem dL_tells_1045 : decode cL_tells 1045 = .ok (.sipush 10000, 3) := by decide +kernel
theorem dL_tells_1048 : decode cL_tells 1048 = .ok (.goto 8, 3) := by decide +kernel
theorem dL_tells_1051 : decode cL_tells 1051 = .ok (.aload 14, 2) := by decide +kernel
theorem dL_tells_1053 : decode cL_tells 1053 = .ok (.iload 17, 2) := by decide +kernel
theorem dL_tells_1055 : decode cL_tells 1055 = .ok (.iaload, 1) := by decide +kernel
theorem dL_tells_1056 : decode cL_tells 1056 = .ok (.iastore, 1) := by decide +kernel
theorem dL_tells_1057 : decode cL_tells 1057 = .ok (.aload 15, 2) := by decide +kernel
theorem dL_tells_1059 : decode cL_tells 1059 = .ok (.iload 17, 2) := by decide +kernel
theorem dL_tells_1061 : decode cL_tells 1061 = .ok (.aload 16, 2) := by decide +kernel
theorem dL_tells_1063 : decode cL_tells 1063 = .ok (.bipush 6, 2) := by decide +kernel
theorem dL_tells_1065 : decode cL_tells 1065 = .ok (.iaload, 1) := by decide +kernel
theorem dL_tells_1066 : decode cL_tells 1066 = .ok (.iconst 1, 1) := by decide +kernel
theorem dL_tells_1067 : decode cL_tells 1067 = .ok (.if_icmp .ne 9, 3) := by decide +kernel
theorem dL_tells_1070 : decode cL_tells 1070 = .ok (.sipush 10000, 3) := by decide +kernel
theorem dL_tells_1073 : decode cL_tells 1073 = .ok (.goto 8, 3) := by decide +kernel
theorem dL_tells_1076 : decode cL_tells 1076 = .ok (.aload 15, 2) := by decide +kernel
theorem dL_tells_1078 : decode cL_tells 1078 = .ok (.iload 17, 2) := by decide +kernel
theorem dL_tells_1080 : decode cL_tells 1080 = .ok (.iaload, 1) := by decide +kernel
theorem dL_tells_1081 : decode cL_tells 1081 = .ok (.iastore, 1) := by decide +kernel
theorem dL_tells_1082 : decode cL_tells 1082 = .ok (.aload 16, 2) := by decide +kernel
theorem dL_tells_1084 : decode cL_tells 1084 = .ok (.bipush 6, 2) := by decide +kernel
theorem dL_tells_1086 : decode cL_tells 1086 = .ok (.dup2, 1) := by decide +kernel
theorem dL_tells_1087 : decode cL_tells 1087 = .ok (.iaload, 1) := by decide +kernel
theorem dL_tells_1088 : decode cL_tells 1088 = .ok (.iconst 1, 1) := by decide +kernel
theorem dL_tells_1089 : decode cL_tells 1089 = .ok (.iadd, 1) := by decide +kernel
theorem dL_tells_1090 : decode cL_tells 1090 = .ok (.iastore, 1) := by decide +kernel
theorem dL_tells_1091 : decode cL_tells 1091 = .ok (.aload_n 0, 1) := by decide +kernel
theorem dL_tells_1092 : decode cL_tells 1092 = .ok (.iconst 4, 1) := by decide +kernel
theorem dL_tells_1093 : decode cL_tells 1093 = .ok (.iload 17, 2) := by decide +kernel
theorem dL_tells_1095 : decode cL_tells 1095 = .ok (.iconst 0, 1) := by decide +kernel
theorem dL_tells_1096 : decode cL_tells 1096 = .ok (.iconst 0, 1) := by decide +kernel
theorem dL_tells_1097 : decode cL_tells 1097 = .ok (.invokestatic 130, 3) := by decide +kernel
theorem dL_tells_1100 : decode cL_tells 1100 = .ok (.iload 18, 2) := by decide +kernel
theorem dL_tells_1102 : decode cL_tells 1102 = .ok (.ifCond .eq 13, 3) := by decide +kernel
theorem dL_tells_1105 : decode cL_tells 1105 = .ok (.aload 16, 2) := by decide +kernel
theorem dL_tells_1107 : decode cL_tells 1107 = .ok (.bipush 6, 2) := by decide +kernel
theorem dL_tells_1109 : decode cL_tells 1109 = .ok (.iaload, 1) := by decide +kernel
theorem dL_tells_1110 : decode cL_tells 1110 = .ok (.iconst 1, 1) := by decide +kernel
theorem dL_tells_1111 : decode cL_tells 1111 = .ok (.isub, 1) := by decide +kernel
theorem dL_tells_1112 : decode cL_tells 1112 = .ok (.goto 5, 3) := by decide +kernel
theorem dL_tells_1115 : decode cL_tells 1115 = .ok (.ldc 50, 2) := by decide +kernel
theorem dL_tells_1117 : decode cL_tells 1117 = .ok (.if_icmp .ne 7, 3) := by decide +kernel
theorem dL_tells_1120 : decode cL_tells 1120 = .ok (.iconst 1, 1) := by decide +kernel
theorem dL_tells_1121 : decode cL_tells 1121 = .ok (.goto 4, 3) := by decide +kernel
theorem dL_tells_1124 : decode cL_tells 1124 = .ok (.iconst 0, 1) := by decide +kernel
theorem dL_tells_1125 : decode cL_tells 1125 = .ok (.ireturn, 1) := by decide +kernel
theorem dL_tells_1126 : decode cL_tells 1126 = .ok (.iload_n 1, 1) := by decide +kernel
theorem dL_tells_1127 : decode cL_tells 1127 = .ok (.bipush 7, 2) := by decide +kernel
theorem dL_tells_1129 : decode cL_tells 1129 = .ok (.if_icmp .ne 90, 3) := by decide +kernel
theorem dL_tells_1132 : decode cL_tells 1132 = .ok (.aload 16, 2) := by decide +kernel
theorem dL_tells_1134 : decode cL_tells 1134 = .ok (.bipush 6, 2) := by decide +kernel
theorem dL_tells_1136 : decode cL_tells 1136 = .ok (.iaload, 1) := by decide +kernel
theorem dL_tells_1137 : decode cL_tells 1137 = .ok (.ifCond .ne 5, 3) := by decide +kernel
theorem dL_tells_1140 : decode cL_tells 1140 = .ok (.iconst 1, 1) := by decide +kernel
theorem dL_tells_1141 : decode cL_tells 1141 = .ok (.ireturn, 1) := by decide +kernel
theorem dL_tells_1142 : decode cL_tells 1142 = .ok (.iconst 1, 1) := by decide +kernel
theorem dL_tells_1143 : decode cL_tells 1143 = .ok (.iload_n 2, 1) := by decide +kernel
theorem dL_tells_1144 : decode cL_tells 1144 = .ok (.iconst 5, 1) := by decide +kernel
theorem dL_tells_1145 : decode cL_tells 1145 = .ok (.ishr, 1) := by decide +kernel
theorem dL_tells_1146 : decode cL_tells 1146 = .ok (.bipush 100, 2) := by decide +kernel
theorem dL_tells_1148 : decode cL_tells 1148 = .ok (.invokestatic 29, 3) := by decide +kernel
theorem dL_tells_1151 : decode cL_tells 1151 = .ok (.iadd, 1) := by decide +kernel
theorem dL_tells_1152 : decode cL_tells 1152 = .ok (.istore 18, 2) := by decide +kernel
theorem dL_tells_1154 : decode cL_tells 1154 = .ok (.iload_n 2, 1) := by decide +kernel
theorem dL_tells_1155 : decode cL_tells 1155 = .ok (.iconst 3, 1) := by decide +kernel
theorem dL_tells_1156 : decode cL_tells 1156 = .ok (.ishr, 1) := by decide +kernel
theorem dL_tells_1157 : decode cL_tells 1157 = .ok (.iconst 3, 1) := by decide +kernel
theorem dL_tells_1158 : decode cL_tells 1158 = .ok (.invokestatic 29, 3) := by decide +kernel
theorem dL_tells_1161 : decode cL_tells 1161 = .ok (.ifCond .le 11, 3) := by decide +kernel
theorem dL_tells_1164 : decode cL_tells 1164 = .ok (.aload 14, 2) := by decide +kernel
theorem dL_tells_1166 : decode cL_tells 1166 = .ok (.invokestatic 88, 3) := by decide +kernel
theorem dL_tells_1169 : decode cL_tells 1169 = .ok (.goto 5, 3) := by decide +kernel
theorem dL_tells_1172 : decode cL_tells 1172 = .ok (.iload 17, 2) := by decide +kernel
theorem dL_tells_1174 : decode cL_tells 1174 = .ok (.istore 17, 2) := by decide +kernel
theorem dL_tells_1176 : decode cL_tells 1176 = .ok (.aload 14, 2) := by decide +kernel
theorem dL_tells_1178 : decode cL_tells 1178 = .ok (.iload 17, 2) := by decide +kernel
theorem dL_tells_1180 : decode cL_tells 1180 = .ok (.iaload, 1) := by decide +kernel
theorem dL_tells_1181 : decode cL_tells 1181 = .ok (.iload 18, 2) := by decide +kernel
theorem dL_tells_1183 : decode cL_tells 1183 = .ok (.imul, 1) := by decide +kernel
theorem dL_tells_1184 : decode cL_tells 1184 = .ok (.bipush 100, 2) := by decide +kernel
theorem dL_tells_1186 : decode cL_tells 1186 = .ok (.idiv, 1) := by decide +kernel
theorem dL_tells_1187 : decode cL_tells 1187 = .ok (.istore 19, 2) := by decide +kernel
theorem dL_tells_1189 : decode cL_tells 1189 = .ok (.aload 14, 2) := by decide +kernel
theorem dL_tells_1191 : decode cL_tells 1191 = .ok (.iload 17, 2) := by decide +kernel
theorem dL_tells_1193 : decode cL_tells 1193 = .ok (.dup2, 1) := by decide +kernel
theorem dL_tells_1194 : decode cL_tells 1194 = .ok (.iaload, 1) := by decide +kernel
theorem dL_tells_1195 : decode cL_tells 1195 = .ok (.iload 19, 2) := by decide +kernel
theorem dL_tells_1197 : decode cL_tells 1197 = .ok (.isub, 1) := by decide +kernel
theorem dL_tells_1198 : decode cL_tells 1198 = .ok (.iastore, 1) := by decide +kernel
theorem dL_tells_1199 : decode cL_tells 1199 = .ok (.aload_n 0, 1) := by decide +kernel
theorem dL_tells_1200 : decode cL_tells 1200 = .ok (.iconst 0, 1) := by decide +kernel
theorem dL_tells_1201 : decode cL_tells 1201 = .ok (.iload 17, 2) := by decide +kernel
theorem dL_tells_1203 : decode cL_tells 1203 = .ok (.iload 18, 2) := by decide +kernel
theorem dL_tells_1205 : decode cL_tells 1205 = .ok (.invokevirtual 140, 3) := by decide +kernel
theorem dL_tells_1208 : decode cL_tells 1208 = .ok (.iload 19, 2) := by decide +kernel
theorem dL_tells_1210 : decode cL_tells 1210 = .ok (.if_icmp .ne 7, 3) := by decide +kernel
theorem dL_tells_1213 : decode cL_tells 1213 = .ok (.iconst 1, 1) := by decide +kernel
theorem dL_tells_1214 : decode cL_tells 1214 = .ok (.goto 4, 3) := by decide +kernel
theorem dL_tells_1217 : decode cL_tells 1217 = .ok (.iconst 0, 1) := by decide +kernel
theorem dL_tells_1218 : decode cL_tells 1218 = .ok (.ireturn, 1) := by decide +kernel
theorem dL_tells_1219 : decode cL_tells 1219 = .ok (.iload_n 1, 1) := by decide +kernel
theorem dL_tells_1220 : decode cL_tells 1220 = .ok (.bipush 8, 2) := by decide +kernel
theorem dL_tells_1222 : decode cL_tells 1222 = .ok (.if_icmp .ne 59, 3) := by decide +kernel
theorem dL_tells_1225 : decode cL_tells 1225 = .ok (.aload 16, 2) := by decide +kernel
theorem dL_tells_1227 : decode cL_tells 1227 = .ok (.bipush 7, 2) := by decide +kernel
theorem dL_tells_1229 : decode cL_tells 1229 = .ok (.iaload, 1) := by decide +kernel
theorem dL_tells_1230 : decode cL_tells 1230 = .ok (.istore 18, 2) := by decide +kernel
theorem dL_tells_1232 : decode cL_tells 1232 = .ok (.aload 16, 2) := by decide +kernel
theorem dL_tells_1234 : decode cL_tells 1234 = .ok (.bipush 7, 2) := by decide +kernel
theorem dL_tells_1236 : decode cL_tells 1236 = .ok (.iload_n 2, 1) := by decide +kernel
theorem dL_tells_1237 : decode cL_tells 1237 = .ok (.iconst 3, 1) := by decide +kernel
theorem dL_tells_1238 : decode cL_tells 1238 = .ok (.ishr, 1) := by decide +kernel
theorem dL_tells_1239 : decode cL_tells 1239 = .ok (.iload_n 2, 1) := by decide +kernel
theorem dL_tells_1240 : decode cL_tells 1240 = .ok (.iconst 5, 1) := by decide +kernel
theorem dL_tells_1241 : decode cL_tells 1241 = .ok (.ishr, 1) := by decide +kernel
theorem dL_tells_1242 : decode cL_tells 1242 = .ok (.iconst 3, 1) := by decide +kernel
theorem dL_tells_1243 : decode cL_tells 1243 = .ok (.invokestatic 29, 3) := by decide +kernel
theorem dL_tells_1246 : decode cL_tells 1246 = .ok (.ifCond .ne 9, 3) := by decide +kernel
theorem dL_tells_1249 : decode cL_tells 1249 = .ok (.sipush 1001, 3) := by decide +kernel
theorem dL_tells_1252 : decode cL_tells 1252 = .ok (.goto 5, 3) := by decide +kernel
theorem dL_tells_1255 : decode cL_tells 1255 = .ok (.bipush 120, 2) := by decide +kernel
theorem dL_tells_1257 : decode cL_tells 1257 = .ok (.invokestatic 29, 3) := by decide +kernel
theorem dL_tells_1260 : decode cL_tells 1260 = .ok (.iastore, 1) := by decide +kernel
theorem dL_tells_1261 : decode cL_tells 1261 = .ok (.aload_n 0, 1) := by decide +kernel
theorem dL_tells_1262 : decode cL_tells 1262 = .ok (.aload 16, 2) := by decide +kernel
theorem dL_tells_1264 : decode cL_tells 1264 = .ok (.bipush 7, 2) := by decide +kernel
theorem dL_tells_1266 : decode cL_tells 1266 = .ok (.iaload, 1) := by decide +kernel
theorem dL_tells_1267 : decode cL_tells 1267 = .ok (.invokevirtual 143, 3) := by decide +kernel
theorem dL_tells_1270 : decode cL_tells 1270 = .ok (.iload 18, 2) := by decide +kernel
theorem dL_tells_1272 : decode cL_tells 1272 = .ok (.if_icmp .ne 7, 3) := by decide +kernel
theorem dL_tells_1275 : decode cL_tells 1275 = .ok (.iconst 1, 1) := by decide +kernel
theorem dL_tells_1276 : decode cL_tells 1276 = .ok (.goto 4, 3) := by decide +kernel
theorem dL_tells_1279 : decode cL_tells 1279 = .ok (.iconst 0, 1) := by decide +kernel
theorem dL_tells_1280 : decode cL_tells 1280 = .ok (.ireturn, 1) := by decide +kernel
theorem dL_tells_1281 : decode cL_tells 1281 = .ok (.iload_n 1, 1) := by decide +kernel
theorem dL_tells_1282 : decode cL_tells 1282 = .ok (.bipush 9, 2) := by decide +kernel
theorem dL_tells_1284 : decode cL_tells 1284 = .ok (.if_icmp .ne 91, 3) := by decide +kernel
theorem dL_tells_1287 : decode cL_tells 1287 = .ok (.aload 16, 2) := by decide +kernel
theorem dL_tells_1289 : decode cL_tells 1289 = .ok (.iconst 2, 1) := by decide +kernel
theorem dL_tells_1290 : decode cL_tells 1290 = .ok (.iaload, 1) := by decide +kernel
theorem dL_tells_1291 : decode cL_tells 1291 = .ok (.ifCond .ne 5, 3) := by decide +kernel
theorem dL_tells_1294 : decode cL_tells 1294 = .ok (.iconst 1, 1) := by decide +kernel
theorem dL_tells_1295 : decode cL_tells 1295 = .ok (.ireturn, 1) := by decide +kernel
theorem dL_tells_1296 : decode cL_tells 1296 = .ok (.iload_n 2, 1) := by decide +kernel
theorem dL_tells_1297 : decode cL_tells 1297 = .ok (.iconst 3, 1) := by decide +kernel
theorem dL_tells_1298 : decode cL_tells 1298 = .ok (.ishr, 1) := by decide +kernel
theorem dL_tells_1299 : decode cL_tells 1299 = .ok (.aload 16, 2) := by decide +kernel
theorem dL_tells_1301 : decode cL_tells 1301 = .ok (.iconst 2, 1) := by decide +kernel
theorem dL_tells_1302 : decode cL_tells 1302 = .ok (.iaload, 1) := by decide +kernel
theorem dL_tells_1303 : decode cL_tells 1303 = .ok (.invokestatic 29, 3) := by decide +kernel
theorem dL_tells_1306 : decode cL_tells 1306 = .ok (.istore 18, 2) := by decide +kernel
theorem dL_tells_1308 : decode cL_tells 1308 = .ok (.iload 18, 2) := by decide +kernel
theorem dL_tells_1310 : decode cL_tells 1310 = .ok (.aload 11, 2) := by decide +kernel
theorem dL_tells_1312 : decode cL_tells 1312 = .ok (.aload 12, 2) := by decide +kernel
theorem dL_tells_1314 : decode cL_tells 1314 = .ok (.aload 13, 2) := by decide +kernel
theorem dL_tells_1316 : decode cL_tells 1316 = .ok (.aload 16, 2) := by decide +kernel
theorem dL_tells_1318 : decode cL_tells 1318 = .ok (.invokestatic 146, 3) := by decide +kernel
theorem dL_tells_1321 : decode cL_tells 1321 = .ok (.istore 19, 2) := by decide +kernel
theorem dL_tells_1323 : decode cL_tells 1323 = .ok (.aload 8, 2) := by decide +kernel
theorem dL_tells_1325 : decode cL_tells 1325 = .ok (.bipush 8, 2) := by decide +kernel
theorem dL_tells_1327 : decode cL_tells 1327 = .ok (.iload 18, 2) := by decide +kernel
theorem dL_tells_1329 : decode cL_tells 1329 = .ok (.imul, 1) := by decide +kernel
theorem dL_tells_1330 : decode cL_tells 1330 = .ok (.iconst 5, 1) := by decide +kernel
theorem dL_tells_1331 : decode cL_tells 1331 = .ok (.iadd, 1) := by decide +kernel
theorem dL_tells_1332 : decode cL_tells 1332 = .ok (.iload 19, 2) := by decide +kernel
theorem dL_tells_1334 : decode cL_tells 1334 = .ok (.ldc 50, 2) := by decide +kernel
theorem dL_tells_1336 : decode cL_tells 1336 = .ok (.if_icmp .ne 16, 3) := by decide +kernel
theorem dL_tells_1339 : decode cL_tells 1339 = .ok (.aload 8, 2) := by decide +kernel
theorem dL_tells_1341 : decode cL_tells 1341 = .ok (.bipush 8, 2) := by decide +kernel
theorem dL_tells_1343 : decode cL_tells 1343 = .ok (.iload 18, 2) := by decide +kernel
theorem dL_tells_1345 : decode cL_tells 1345 = .ok (.imul, 1) := by decide +kernel
theorem dL_tells_1346 : decode cL_tells 1346 = .ok (.iconst 5, 1) := by decide +kernel
theorem dL_tells_1347 : decode cL_tells 1347 = .ok (.iadd, 1) := by decide +kernel
theorem dL_tells_1348 : decode cL_tells 1348 = .ok (.iaload, 1) := by decide +kernel
theorem dL_tells_1349 : decode cL_tells 1349 = .ok (.goto 5, 3) := by decide +kernel
theorem dL_tells_1352 : decode cL_tells 1352 = .ok (.iload 19, 2) := by decide +kernel
theorem dL_tells_1354 : decode cL_tells 1354 = .ok (.iastore, 1) := by decide +kernel
theorem dL_tells_1355 : decode cL_tells 1355 = .ok (.aload_n 0, 1) := by decide +kernel
theorem dL_tells_1356 : decode cL_tells 1356 = .ok (.iconst 3, 1) := by decide +kernel
theorem dL_tells_1357 : decode cL_tells 1357 = .ok (.iload 18, 2) := by decide +kernel
theorem dL_tells_1359 : decode cL_tells 1359 = .ok (.iconst 0, 1) := by decide +kernel
theorem dL_tells_1360 : decode cL_tells 1360 = .ok (.iconst 0, 1) := by decide +kernel
theorem dL_tells_1361 : decode cL_tells 1361 = .ok (.invokestatic 130, 3) := by decide +kernel
theorem dL_tells_1364 : decode cL_tells 1364 = .ok (.iload 19, 2) := by decide +kernel
theorem dL_tells_1366 : decode cL_tells 1366 = .ok (.if_icmp .ne 7, 3) := by decide +kernel
theorem dL_tells_1369 : decode cL_tells 1369 = .ok (.iconst 1, 1) := by decide +kernel
theorem dL_tells_1370 : decode cL_tells 1370 = .ok (.goto 4, 3) := by decide +kernel
theorem dL_tells_1373 : decode cL_tells 1373 = .ok (.iconst 0, 1) := by decide +kernel
theorem dL_tells_1374 : decode cL_tells 1374 = .ok (.ireturn, 1) := by decide +kernel
theorem dL_tells_1375 : decode cL_tells 1375 = .ok (.aload 16, 2) := by decide +kernel
theorem dL_tells_1377 : decode cL_tells 1377 = .ok (.iconst 5, 1) := by decide +kernel
theorem dL_tells_1378 : decode cL_tells 1378 = .ok (.iaload, 1) := by decide +kernel
theorem dL_tells_1379 : decode cL_tells 1379 = .ok (.ifCond .ne 5, 3) := by decide +kernel
theorem dL_tells_1382 : decode cL_tells 1382 = .ok (.iconst 1, 1) := by decide +kernel
theorem dL_tells_1383 : decode cL_tells 1383 = .ok (.ireturn, 1) := by decide +kernel
theorem dL_tells_1384 : decode cL_tells 1384 = .ok (.iload_n 2, 1) := by decide +kernel
theorem dL_tells_1385 : decode cL_tells 1385 = .ok (.iconst 2, 1) := by decide +kernel
theorem dL_tells_1386 : decode cL_tells 1386 = .ok (.ishr, 1) := by decide +kernel
theorem dL_tells_1387 : decode cL_tells 1387 = .ok (.aload 16, 2) := by decide +kernel
theorem dL_tells_1389 : decode cL_tells 1389 = .ok (.iconst 5, 1) := by decide +kernel
theorem dL_tells_1390 : decode cL_tells 1390 = .ok (.iaload, 1) := by decide +kernel
theorem dL_tells_1391 : decode cL_tells 1391 = .ok (.invokestatic 29, 3) := by decide +kernel
theorem dL_tells_1394 : decode cL_tells 1394 = .ok (.istore 18, 2) := by decide +kernel
theorem dL_tells_1396 : decode cL_tells 1396 = .ok (.iload 18, 2) := by decide +kernel
theorem dL_tells_1398 : decode cL_tells 1398 = .ok (.aload 12, 2) := by decide +kernel
theorem dL_tells_1400 : decode cL_tells 1400 = .ok (.aload 13, 2) := by decide +kernel
theorem dL_tells_1402 : decode cL_tells 1402 = .ok (.aload 16, 2) := by decide +kernel
theorem dL_tells_1404 : decode cL_tells 1404 = .ok (.invokestatic 81, 3) := by decide +kernel
theorem dL_tells_1407 : decode cL_tells 1407 = .ok (.istore 19, 2) := by decide +kernel
theorem dL_tells_1409 : decode cL_tells 1409 = .ok (.iload_n 2, 1) := by decide +kernel
theorem dL_tells_1410 : decode cL_tells 1410 = .ok (.bipush 6, 2) := by decide +kernel
theorem dL_tells_1412 : decode cL_tells 1412 = .ok (.ishr, 1) := by decide +kernel
theorem dL_tells_1413 : decode cL_tells 1413 = .ok (.iconst 4, 1) := by decide +kernel
theorem dL_tells_1414 : decode cL_tells 1414 = .ok (.invokestatic 29, 3) := by decide +kernel
theorem dL_tells_1417 : decode cL_tells 1417 = .ok (.iconst 1, 1) := by decide +kernel
theorem dL_tells_1418 : decode cL_tells 1418 = .ok (.isub, 1) := by decide +kernel
theorem dL_tells_1419 : decode cL_tells 1419 = .ok (.istore 20, 2) := by decide +kernel
theorem dL_tells_1421 : decode cL_tells 1421 = .ok (.aload 13, 2) := by decide +kernel
theorem dL_tells_1423 : decode cL_tells 1423 = .ok (.iload 18, 2) := by decide +kernel
theorem dL_tells_1425 : decode cL_tells 1425 = .ok (.aload 13, 2) := by decide +kernel
theorem dL_tells_1427 : decode cL_tells 1427 = .ok (.iload 18, 2) := by decide +kernel
theorem dL_tells_1429 : decode cL_tells 1429 = .ok (.iaload, 1) := by decide +kernel
theorem dL_tells_1430 : decode cL_tells 1430 = .ok (.bipush 16, 2) := by decide +kernel
theorem dL_tells_1432 : decode cL_tells 1432 = .ok (.irem, 1) := by decide +kernel
theorem dL_tells_1433 : decode cL_tells 1433 = .ok (.bipush 16, 2) := by decide +kernel
theorem dL_tells_1435 : decode cL_tells 1435 = .ok (.iload 20, 2) := by decide +kernel
theorem dL_tells_1437 : decode cL_tells 1437 = .ok (.iconst 1, 1) := by decide +kernel
theorem dL_tells_1438 : decode cL_tells 1438 = .ok (.iadd, 1) := by decide +kernel
theorem dL_tells_1439 : decode cL_tells 1439 = .ok (.imul, 1) := by decide +kernel
theorem dL_tells_1440 : decode cL_tells 1440 = .ok (.iadd, 1) := by decide +kernel
theorem dL_tells_1441 : decode cL_tells 1441 = .ok (.iastore, 1) := by decide +kernel
theorem dL_tells_1442 : decode cL_tells 1442 = .ok (.aload_n 0, 1) := by decide +kernel
theorem dL_tells_1443 : decode cL_tells 1443 = .ok (.iload 18, 2) := by decide +kernel
theorem dL_tells_1445 : decode cL_tells 1445 = .ok (.iload 20, 2) := by decide +kernel
theorem dL_tells_1447 : decode cL_tells 1447 = .ok (.invokevirtual 150, 3) := by decide +kernel
theorem dL_tells_1450 : decode cL_tells 1450 = .ok (.iload 19, 2) := by decide +kernel
theorem dL_tells_1452 : decode cL_tells 1452 = .ok (.if_icmp .ne 7, 3) := by decide +kernel
theorem dL_tells_1455 : decode cL_tells 1455 = .ok (.iconst 1, 1) := by decide +kernel
theorem dL_tells_1456 : decode cL_tells 1456 = .ok (.goto 4, 3) := by decide +kernel
theorem dL_tells_1459 : decode cL_tells 1459 = .ok (.iconst 0, 1) := by decide +kernel
theorem dL_tells_1460 : decode cL_tells 1460 = .ok (.ireturn, 1) := by decide +kernel
theorem dL_law_0 : decode cL_law 0 = .ok (.new 11, 3) := by decide +kernel
theorem dL_law_3 : decode cL_law 3 = .ok (.dup, 1) := by decide +kernel
theorem dL_law_4 : decode cL_law 4 = .ok (.invokespecial 152, 3) := by decide +kernel
theorem dL_law_7 : decode cL_law 7 = .ok (.astore_n 1, 1) := by decide +kernel
theorem dL_law_8 : decode cL_law 8 = .ok (.bipush 60, 2) := by decide +kernel
theorem dL_law_10 : decode cL_law 10 = .ok (.newarray .int, 2) := by decide +kernel
theorem dL_law_12 : decode cL_law 12 = .ok (.astore_n 2, 1) := by decide +kernel
theorem dL_law_13 : decode cL_law 13 = .ok (.bipush 60, 2) := by decide +kernel
theorem dL_law_15 : decode cL_law 15 = .ok (.newarray .int, 2) := by decide +kernel
theorem dL_law_17 : decode cL_law 17 = .ok (.astore_n 3, 1) := by decide +kernel
theorem dL_law_18 : decode cL_law 18 = .ok (.bipush 60, 2) := by decide +kernel
theorem dL_law_20 : decode cL_law 20 = .ok (.newarray .int, 2) := by decide +kernel
theorem dL_law_22 : decode cL_law 22 = .ok (.astore 4, 2) := by decide +kernel
theorem dL_law_24 : decode cL_law 24 = .ok (.bipush 60, 2) := by decide +kernel
theorem dL_law_26 : decode cL_law 26 = .ok (.newarray .int, 2) := by decide +kernel
theorem dL_law_28 : decode cL_law 28 = .ok (.astore 5, 2) := by decide +kernel
theorem dL_law_30 : decode cL_law 30 = .ok (.bipush 60, 2) := by decide +kernel
theorem dL_law_32 : decode cL_law 32 = .ok (.newarray .int, 2) := by decide +kernel
theorem dL_law_34 : decode cL_law 34 = .ok (.astore 6, 2) := by decide +kernel
theorem dL_law_36 : decode cL_law 36 = .ok (.bipush 64, 2) := by decide +kernel
theorem dL_law_38 : decode cL_law 38 = .ok (.newarray .int, 2) := by decide +kernel
theorem dL_law_40 : decode cL_law 40 = .ok (.astore 7, 2) := by decide +kernel
theorem dL_law_42 : decode cL_law 42 = .ok (.bipush 30, 2) := by decide +kernel
theorem dL_law_44 : decode cL_law 44 = .ok (.newarray .int, 2) := by decide +kernel
theorem dL_law_46 : decode cL_law 46 = .ok (.astore 8, 2) := by decide +kernel
theorem dL_law_48 : decode cL_law 48 = .ok (.bipush 40, 2) := by decide +kernel
theorem dL_law_50 : decode cL_law 50 = .ok (.newarray .int, 2) := by decide +kernel
theorem dL_law_52 : decode cL_law 52 = .ok (.astore 9, 2) := by decide +kernel
theorem dL_law_54 : decode cL_law 54 = .ok (.bipush 64, 2) := by decide +kernel
theorem dL_law_56 : decode cL_law 56 = .ok (.newarray .int, 2) := by decide +kernel
theorem dL_law_58 : decode cL_law 58 = .ok (.astore 10, 2) := by decide +kernel
theorem dL_law_60 : decode cL_law 60 = .ok (.bipush 64, 2) := by decide +kernel
theorem dL_law_62 : decode cL_law 62 = .ok (.newarray .int, 2) := by decide +kernel
theorem dL_law_64 : decode cL_law 64 = .ok (.astore 11, 2) := by decide +kernel
theorem dL_law_66 : decode cL_law 66 = .ok (.bipush 64, 2) := by decide +kernel
theorem dL_law_68 : decode cL_law 68 = .ok (.newarray .int, 2) := by decide +kernel
theorem dL_law_70 : decode cL_law 70 = .ok (.astore 12, 2) := by decide +kernel
theorem dL_law_72 : decode cL_law 72 = .ok (.bipush 60, 2) := by decide +kernel
theorem dL_law_74 : decode cL_law 74 = .ok (.newarray .int, 2) := by decide +kernel
theorem dL_law_76 : decode cL_law 76 = .ok (.astore 13, 2) := by decide +kernel
theorem dL_law_78 : decode cL_law 78 = .ok (.bipush 60, 2) := by decide +kernel
theorem dL_law_80 : decode cL_law 80 = .ok (.newarray .int, 2) := by decide +kernel
theorem dL_law_82 : decode cL_law 82 = .ok (.astore 14, 2) := by decide +kernel
theorem dL_law_84 : decode cL_law 84 = .ok (.bipush 60, 2) := by decide +kernel
theorem dL_law_86 : decode cL_law 86 = .ok (.newarray .int, 2) := by decide +kernel
theorem dL_law_88 : decode cL_law 88 = .ok (.astore 15, 2) := by decide +kernel
theorem dL_law_90 : decode cL_law 90 = .ok (.bipush 60, 2) := by decide +kernel
theorem dL_law_92 : decode cL_law 92 = .ok (.newarray .int, 2) := by decide +kernel
theorem dL_law_94 : decode cL_law 94 = .ok (.astore 16, 2) := by decide +kernel
theorem dL_law_96 : decode cL_law 96 = .ok (.bipush 16, 2) := by decide +kernel
theorem dL_law_98 : decode cL_law 98 = .ok (.newarray .int, 2) := by decide +kernel
theorem dL_law_100 : decode cL_law 100 = .ok (.astore 17, 2) := by decide +kernel
theorem dL_law_102 : decode cL_law 102 = .ok (.iconst 0, 1) := by decide +kernel
theorem dL_law_103 : decode cL_law 103 = .ok (.istore 18, 2) := by decide +kernel
theorem dL_law_105 : decode cL_law 105 = .ok (.iload 18, 2) := by decide +kernel
theorem dL_law_107 : decode cL_law 107 = .ok (.bipush 60, 2) := by decide +kernel
theorem dL_law_109 : decode cL_law 109 = .ok (.if_icmp .ge 40, 3) := by decide +kernel
theorem dL_law_112 : decode cL_law 112 = .ok (.aload_n 3, 1) := by decide +kernel
theorem dL_law_113 : decode cL_law 113 = .ok (.iload 18, 2) := by decide +kernel
theorem dL_law_115 : decode cL_law 115 = .ok (.sipush 1000, 3) := by decide +kernel
theorem dL_law_118 : decode cL_law 118 = .ok (.iastore, 1) := by decide +kernel
theorem dL_law_119 : decode cL_law 119 = .ok (.aload 4, 2) := by decide +kernel
theorem dL_law_121 : decode cL_law 121 = .ok (.iload 18, 2) := by decide +kernel
theorem dL_law_123 : decode cL_law 123 = .ok (.sipush 400, 3) := by decide +kernel
theorem dL_law_126 : decode cL_law 126 = .ok (.iastore, 1) := by decide +kernel
theorem dL_law_127 : decode cL_law 127 = .ok (.aload 5, 2) := by decide +kernel
theorem dL_law_129 : decode cL_law 129 = .ok (.iload 18, 2) := by decide +kernel
theorem dL_law_131 : decode cL_law 131 = .ok (.sipush 350, 3) := by decide +kernel
theorem dL_law_134 : decode cL_law 134 = .ok (.iastore, 1) := by decide +kernel
theorem dL_law_135 : decode cL_law 135 = .ok (.aload 6, 2) := by decide +kernel
theorem dL_law_137 : decode cL_law 137 = .ok (.iload 18, 2) := by decide +kernel
theorem dL_law_139 : decode cL_law 139 = .ok (.sipush 360, 3) := by decide +kernel
theorem dL_law_142 : decode cL_law 142 = .ok (.iastore, 1) := by decide +kernel
theorem dL_law_143 : decode cL_law 143 = .ok (.iinc 18 1, 3) := by decide +kernel
theorem dL_law_146 : decode cL_law 146 = .ok (.goto (-41), 3) := by decide +kernel
theorem dL_law_149 : decode cL_law 149 = .ok (.aload 17, 2) := by decide +kernel
theorem dL_law_151 : decode cL_law 151 = .ok (.bipush 7, 2) := by decide +kernel
theorem dL_law_153 : decode cL_law 153 = .ok (.bipush 100, 2) := by decide +kernel
theorem dL_law_155 : decode cL_law 155 = .ok (.iastore, 1) := by decide +kernel
theorem dL_law_156 : decode cL_law 156 = .ok (.iconst 1, 1) := by decide +kernel
theorem dL_law_157 : decode cL_law 157 = .ok (.istore 18, 2) := by decide +kernel
theorem dL_law_159 : decode cL_law 159 = .ok (.iconst 0, 1) := by decide +kernel
theorem dL_law_160 : decode cL_law 160 = .ok (.istore 19, 2) := by decide +kernel
theorem dL_law_162 : decode cL_law 162 = .ok (.iload 19, 2) := by decide +kernel
theorem dL_law_164 : decode cL_law 164 = .ok (.bipush 70, 2) := by decide +kernel
theorem dL_law_166 : decode cL_law 166 = .ok (.if_icmp .ge 356, 3) := by decide +kernel
theorem dL_law_169 : decode cL_law 169 = .ok (.iload 18, 2) := by decide +kernel
theorem dL_law_171 : decode cL_law 171 = .ok (.ifCond .eq 351, 3) := by decide +kernel
theorem dL_law_174 : decode cL_law 174 = .ok (.aload_n 0, 1) := by decide +kernel
theorem dL_law_175 : decode cL_law 175 = .ok (.iload 19, 2) := by decide +kernel
theorem dL_law_177 : decode cL_law 177 = .ok (.invokestatic 153, 3) := by decide +kernel
theorem dL_law_180 : decode cL_law 180 = .ok (.istore 20, 2) := by decide +kernel
theorem dL_law_182 : decode cL_law 182 = .ok (.iload 19, 2) := by decide +kernel
theorem dL_law_184 : decode cL_law 184 = .ok (.iconst 5, 1) := by decide +kernel
theorem dL_law_185 : decode cL_law 185 = .ok (.if_icmp .ge 13, 3) := by decide +kernel
theorem dL_law_188 : decode cL_law 188 = .ok (.iload 20, 2) := by decide +kernel
theorem dL_law_190 : decode cL_law 190 = .ok (.bipush 9, 2) := by decide +kernel
theorem dL_law_192 : decode cL_law 192 = .ok (.invokestatic 29, 3) := by decide +kernel
theorem dL_law_195 : decode cL_law 195 = .ok (.goto 10, 3) := by decide +kernel
theorem dL_law_198 : decode cL_law 198 = .ok (.iload 20, 2) := by decide +kernel
theorem dL_law_200 : decode cL_law 200 = .ok (.bipush 30, 2) := by decide +kernel
theorem dL_law_202 : decode cL_law 202 = .ok (.invokestatic 29, 3) := by decide +kernel
theorem dL_law_205 : decode cL_law 205 = .ok (.istore 21, 2) := by decide +kernel
theorem dL_law_207 : decode cL_law 207 = .ok (.iload 20, 2) := by decide +kernel
theorem dL_law_209 : decode cL_law 209 = .ok (.iconst 4, 1) := by decide +kernel
theorem dL_law_210 : decode cL_law 210 = .ok (.ishr, 1) := by decide +kernel
theorem dL_law_211 : decode cL_law 211 = .ok (.istore 22, 2) := by decide +kernel
theorem dL_law_213 : decode cL_law 213 = .ok (.iload 21, 2) := by decide +kernel
theorem dL_law_215 : decode cL_law 215 = .ok (.bipush 21, 2) := by decide +kernel
theorem dL_law_217 : decode cL_law 217 = .ok (.if_icmp .ge 155, 3) := by decide +kernel
theorem dL_law_220 : decode cL_law 220 = .ok (.aload_n 1, 1) := by decide +kernel
theorem dL_law_221 : decode cL_law 221 = .ok (.iload 21, 2) := by decide +kernel
theorem dL_law_223 : decode cL_law 223 = .ok (.iconst 2, 1) := by decide +kernel
theorem dL_law_224 : decode cL_law 224 = .ok (.if_icmp .ge 7, 3) := by decide +kernel
theorem dL_law_227 : decode cL_law 227 = .ok (.iconst 0, 1) := by decide +kernel
theorem dL_law_228 : decode cL_law 228 = .ok (.goto 108, 3) := by decide +kernel
theorem dL_law_231 : decode cL_law 231 = .ok (.iload 21, 2) := by decide +kernel
theorem dL_law_233 : decode cL_law 233 = .ok (.bipush 7, 2) := by decide +kernel
theorem dL_law_235 : decode cL_law 235 = .ok (.if_icmp .ge 7, 3) := by decide +kernel
theorem dL_law_238 : decode cL_law 238 = .ok (.iconst 1, 1) := by decide +kernel
theorem dL_law_239 : decode cL_law 239 = .ok (.goto 97, 3) := by decide +kernel
theorem dL_law_242 : decode cL_law 242 = .ok (.iload 21, 2) := by decide +kernel
theorem dL_law_244 : decode cL_law 244 = .ok (.bipush 8, 2) := by decide +kernel
theorem dL_law_246 : decode cL_law 246 = .ok (.if_icmp .ge 7, 3) := by decide +kernel
theorem dL_law_249 : decode cL_law 249 = .ok (.iconst 2, 1) := by decide +kernel
theorem dL_law_250 : decode cL_law 250 = .ok (.goto 86, 3) := by decide +kernel
theorem dL_law_253 : decode cL_law 253 = .ok (.iload 21, 2) := by decide +kernel
theorem dL_law_255 : decode cL_law 255 = .ok (.bipush 10, 2) := by decide +kernel
theorem dL_law_257 : decode cL_law 257 = .ok (.if_icmp .ge 7, 3) := by decide +kernel
theorem dL_law_260 : decode cL_law 260 = .ok (.iconst 3, 1) := by decide +kernel
theorem dL_law_261 : decode cL_law 261 = .ok (.goto 75, 3) := by decide +kernel
theorem dL_law_264 : decode cL_law 264 = .ok (.iload 21, 2) := by decide +kernel
theorem dL_law_266 : decode cL_law 266 = .ok (.bipush 13, 2) := by decide +kernel
theorem dL_law_268 : decode cL_law 268 = .ok (.if_icmp .ge 7, 3) := by decide +kernel
theorem dL_law_271 : decode cL_law 271 = .ok (.iconst 4, 1) := by decide +kernel
theorem dL_law_272 : decode cL_law 272 = .ok (.goto 64, 3) := by decide +kernel
theorem dL_law_275 : decode cL_law 275 = .ok (.iload 21, 2) := by decide +kernel
theorem dL_law_277 : decode cL_law 277 = .ok (.bipush 14, 2) := by decide +kernel
theorem dL_law_279 : decode cL_law 279 = .ok (.if_icmp .ge 7, 3) := by decide +kernel
theorem dL_law_282 : decode cL_law 282 = .ok (.iconst 5, 1) := by decide +kernel
theorem dL_law_283 : decode cL_law 283 = .ok (.goto 53, 3) := by decide +kernel
theorem dL_law_286 : decode cL_law 286 = .ok (.iload 21, 2) := by decide +kernel
theorem dL_law_288 : decode cL_law 288 = .ok (.bipush 15, 2) := by decide +kernel
theorem dL_law_290 : decode cL_law 290 = .ok (.if_icmp .ge 8, 3) := by decide +kernel
theorem dL_law_293 : decode cL_law 293 = .ok (.bipush 6, 2) := by decide +kernel
theorem dL_law_295 : decode cL_law 295 = .ok (.goto 41, 3) := by decide +kernel
theorem dL_law_298 : decode cL_law 298 = .ok (.iload 21, 2) := by decide +kernel
theorem dL_law_300 : decode cL_law 300 = .ok (.bipush 17, 2) := by decide +kernel
theorem dL_law_302 : decode cL_law 302 = .ok (.if_icmp .ge 8, 3) := by decide +kernel
theorem dL_law_305 : decode cL_law 305 = .ok (.bipush 7, 2) := by decide +kernel
theorem dL_law_307 : decode cL_law 307 = .ok (.goto 29, 3) := by decide +kernel
theorem dL_law_310 : decode cL_law 310 = .ok (.iload 21, 2) := by decide +kernel
theorem dL_law_312 : decode cL_law 312 = .ok (.bipush 18, 2) := by decide +kernel
theorem dL_law_314 : decode cL_law 314 = .ok (.if_icmp .ge 8, 3) := by decide +kernel
theorem dL_law_317 : decode cL_law 317 = .ok (.bipush 8, 2) := by decide +kernel
theorem dL_law_319 : decode cL_law 319 = .ok (.goto 17, 3) := by decide +kernel
theorem dL_law_322 : decode cL_law 322 = .ok (.iload 21, 2) := by decide +kernel
theorem dL_law_324 : decode cL_law 324 = .ok (.bipush 20, 2) := by decide +kernel
theorem dL_law_326 : decode cL_law 326 = .ok (.if_icmp .ge 8, 3) := by decide +kernel
theorem dL_law_329 : decode cL_law 329 = .ok (.bipush 9, 2) := by decide +kernel
theorem dL_law_331 : decode cL_law 331 = .ok (.goto 5, 3) := by decide +kernel
theorem dL_law_334 : decode cL_law 334 = .ok (.bipush 10, 2) := by decide +kernel
theorem dL_law_336 : decode cL_law 336 = .ok (.iload 22, 2) := by decide +kernel
theorem dL_law_338 : decode cL_law 338 = .ok (.aload_n 2, 1) := by decide +kernel
theorem dL_law_339 : decode cL_law 339 = .ok (.aload_n 3, 1) := by decide +kernel
theorem dL_law_340 : decode cL_law 340 = .ok (.aload 4, 2) := by decide +kernel
theorem dL_law_342 : decode cL_law 342 = .ok (.aload 5, 2) := by decide +kernel
theorem dL_law_344 : decode cL_law 344 = .ok (.aload 6, 2) := by decide +kernel
theorem dL_law_346 : decode cL_law 346 = .ok (.aload 7, 2) := by decide +kernel
theorem dL_law_348 : decode cL_law 348 = .ok (.aload 8, 2) := by decide +kernel
theorem dL_law_350 : decode cL_law 350 = .ok (.aload 9, 2) := by decide +kernel
theorem dL_law_352 : decode cL_law 352 = .ok (.aload 10, 2) := by decide +kernel
theorem dL_law_354 : decode cL_law 354 = .ok (.aload 11, 2) := by decide +kernel
theorem dL_law_356 : decode cL_law 356 = .ok (.aload 12, 2) := by decide +kernel
theorem dL_law_358 : decode cL_law 358 = .ok (.aload 13, 2) := by decide +kernel
theorem dL_law_360 : decode cL_law 360 = .ok (.aload 14, 2) := by decide +kernel
theorem dL_law_362 : decode cL_law 362 = .ok (.aload 17, 2) := by decide +kernel
theorem dL_law_364 : decode cL_law 364 = .ok (.invokestatic 157, 3) := by decide +kernel
theorem dL_law_367 : decode cL_law 367 = .ok (.istore 18, 2) := by decide +kernel
theorem dL_law_369 : decode cL_law 369 = .ok (.goto 95, 3) := by decide +kernel
theorem dL_law_372 : decode cL_law 372 = .ok (.iconst 1, 1) := by decide +kernel
theorem dL_law_373 : decode cL_law 373 = .ok (.iload 22, 2) := by decide +kernel
theorem dL_law_375 : decode cL_law 375 = .ok (.iconst 5, 1) := by decide +kernel
theorem dL_law_376 : decode cL_law 376 = .ok (.invokestatic 29, 3) := by decide +kernel
theorem dL_law_379 : decode cL_law 379 = .ok (.iadd, 1) := by decide +kernel
theorem dL_law_380 : decode cL_law 380 = .ok (.istore 23, 2) := by decide +kernel
theorem dL_law_382 : decode cL_law 382 = .ok (.iconst 0, 1) := by decide +kernel
theorem dL_law_383 : decode cL_law 383 = .ok (.istore 24, 2) := by decide +kernel
theorem dL_law_385 : decode cL_law 385 = .ok (.iload 24, 2) := by decide +kernel
theorem dL_law_387 : decode cL_law 387 = .ok (.iload 23, 2) := by decide +kernel
theorem dL_law_389 : decode cL_law 389 = .ok (.if_icmp .ge 75, 3) := by decide +kernel
theorem dL_law_392 : decode cL_law 392 = .ok (.iload 18, 2) := by decide +kernel
theorem dL_law_394 : decode cL_law 394 = .ok (.ifCond .eq 70, 3) := by decide +kernel
theorem dL_law_397 : decode cL_law 397 = .ok (.aload 17, 2) := by decide +kernel
theorem dL_law_399 : decode cL_law 399 = .ok (.iconst 5, 1) := by decide +kernel
theorem dL_law_400 : decode cL_law 400 = .ok (.iaload, 1) := by decide +kernel
theorem dL_law_401 : decode cL_law 401 = .ok (.bipush 26, 2) := by decide +kernel
theorem dL_law_403 : decode cL_law 403 = .ok (.if_icmp .ge 55, 3) := by decide +kernel
theorem dL_law_406 : decode cL_law 406 = .ok (.aload_n 2, 1) := by decide +kernel
theorem dL_law_407 : decode cL_law 407 = .ok (.aload_n 3, 1) := by decide +kernel
theorem dL_law_408 : decode cL_law 408 = .ok (.aload 4, 2) := by decide +kernel
theorem dL_law_410 : decode cL_law 410 = .ok (.aload 5, 2) := by decide +kernel
theorem dL_law_412 : decode cL_law 412 = .ok (.aload 6, 2) := by decide +kernel
theorem dL_law_414 : decode cL_law 414 = .ok (.aload 7, 2) := by decide +kernel
theorem dL_law_416 : decode cL_law 416 = .ok (.aload 8, 2) := by decide +kernel
theorem dL_law_418 : decode cL_law 418 = .ok (.aload 9, 2) := by decide +kernel
theorem dL_law_420 : decode cL_law 420 = .ok (.aload 10, 2) := by decide +kernel
theorem dL_law_422 : decode cL_law 422 = .ok (.aload 11, 2) := by decide +kernel
theorem dL_law_424 : decode cL_law 424 = .ok (.aload 12, 2) := by decide +kernel
theorem dL_law_426 : decode cL_law 426 = .ok (.aload 13, 2) := by decide +kernel
theorem dL_law_428 : decode cL_law 428 = .ok (.aload 14, 2) := by decide +kernel
theorem dL_law_430 : decode cL_law 430 = .ok (.aload 15, 2) := by decide +kernel
theorem dL_law_432 : decode cL_law 432 = .ok (.aload 16, 2) := by decide +kernel
theorem dL_law_434 : decode cL_law 434 = .ok (.aload 17, 2) := by decide +kernel
theorem dL_law_436 : decode cL_law 436 = .ok (.invokestatic 161, 3) := by decide +kernel
theorem dL_law_439 : decode cL_law 439 = .ok (.aload_n 1, 1) := by decide +kernel
theorem dL_law_440 : decode cL_law 440 = .ok (.iconst 1, 1) := by decide +kernel
theorem dL_law_441 : decode cL_law 441 = .ok (.invokevirtual 165, 3) := by decide +kernel
theorem dL_law_444 : decode cL_law 444 = .ok (.aload 17, 2) := by decide +kernel
theorem dL_law_446 : decode cL_law 446 = .ok (.iconst 0, 1) := by decide +kernel
theorem dL_law_447 : decode cL_law 447 = .ok (.iaload, 1) := by decide +kernel
theorem dL_law_448 : decode cL_law 448 = .ok (.if_icmp .ne 7, 3) := by decide +kernel
theorem dL_law_451 : decode cL_law 451 = .ok (.iconst 1, 1) := by decide +kernel
theorem dL_law_452 : decode cL_law 452 = .ok (.goto 4, 3) := by decide +kernel
theorem dL_law_455 : decode cL_law 455 = .ok (.iconst 0, 1) := by decide +kernel
theorem dL_law_456 : decode cL_law 456 = .ok (.istore 18, 2) := by decide +kernel
theorem dL_law_458 : decode cL_law 458 = .ok (.iinc 24 1, 3) := by decide +kernel
theorem dL_law_461 : decode cL_law 461 = .ok (.goto (-76), 3) := by decide +kernel
theorem dL_law_464 : decode cL_law 464 = .ok (.iload 18, 2) := by decide +kernel
theorem dL_law_466 : decode cL_law 466 = .ok (.ifCond .eq 47, 3) := by decide +kernel
theorem dL_law_469 : decode cL_law 469 = .ok (.aload_n 1, 1) := by decide +kernel
theorem dL_law_470 : decode cL_law 470 = .ok (.iload 22, 2) := by decide +kernel
theorem dL_law_472 : decode cL_law 472 = .ok (.iconst 1, 1) := by decide +kernel
theorem dL_law_473 : decode cL_law 473 = .ok (.ishr, 1) := by decide +kernel
theorem dL_law_474 : decode cL_law 474 = .ok (.ldc 168, 2) := by decide +kernel
theorem dL_law_476 : decode cL_law 476 = .ok (.iand, 1) := by decide +kernel
theorem dL_law_477 : decode cL_law 477 = .ok (.aload_n 2, 1) := by decide +kernel
theorem dL_law_478 : decode cL_law 478 = .ok (.aload_n 3, 1) := by decide +kernel
theorem dL_law_479 : decode cL_law 479 = .ok (.aload 4, 2) := by decide +kernel
theorem dL_law_481 : decode cL_law 481 = .ok (.aload 5, 2) := by decide +kernel
theorem dL_law_483 : decode cL_law 483 = .ok (.aload 6, 2) := by decide +kernel
theorem dL_law_485 : decode cL_law 485 = .ok (.aload 7, 2) := by decide +kernel
theorem dL_law_487 : decode cL_law 487 = .ok (.aload 10, 2) := by decide +kernel
theorem dL_law_489 : decode cL_law 489 = .ok (.aload 11, 2) := by decide +kernel
theorem dL_law_491 : decode cL_law 491 = .ok (.aload 12, 2) := by decide +kernel
theorem dL_law_493 : decode cL_law 493 = .ok (.aload 13, 2) := by decide +kernel
theorem dL_law_495 : decode cL_law 495 = .ok (.aload 14, 2) := by decide +kernel
theorem dL_law_497 : decode cL_law 497 = .ok (.aload 15, 2) := by decide +kernel
theorem dL_law_499 : decode cL_law 499 = .ok (.aload 16, 2) := by decide +kernel
theorem dL_law_501 : decode cL_law 501 = .ok (.aload 17, 2) := by decide +kernel
theorem dL_law_503 : decode cL_law 503 = .ok (.invokestatic 169, 3) := by decide +kernel
theorem dL_law_506 : decode cL_law 506 = .ok (.ifCond .eq 7, 3) := by decide +kernel
theorem dL_law_509 : decode cL_law 509 = .ok (.iconst 1, 1) := by decide +kernel
theorem dL_law_510 : decode cL_law 510 = .ok (.goto 4, 3) := by decide +kernel
theorem dL_law_513 : decode cL_law 513 = .ok (.iconst 0, 1) := by decide +kernel
theorem dL_law_514 : decode cL_law 514 = .ok (.istore 18, 2) := by decide +kernel
theorem dL_law_516 : decode cL_law 516 = .ok (.iinc 19 1, 3) := by decide +kernel
theorem dL_law_519 : decode cL_law 519 = .ok (.goto (-357), 3) := by decide +kernel
theorem dL_law_522 : decode cL_law 522 = .ok (.iload 18, 2) := by decide +kernel
theorem dL_law_524 : decode cL_law 524 = .ok (.ireturn, 1) := by decide +kernel
