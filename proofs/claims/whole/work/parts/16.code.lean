theorem dX12_findNames_0 : decode cX12_findNames 0 = .ok (.iconst 0, 1) := by decide +kernel
theorem dX12_findNames_1 : decode cX12_findNames 1 = .ok (.istore_n 3, 1) := by decide +kernel
theorem dX12_findNames_2 : decode cX12_findNames 2 = .ok (.iload_n 3, 1) := by decide +kernel
theorem dX12_findNames_3 : decode cX12_findNames 3 = .ok (.bipush 8, 2) := by decide +kernel
theorem dX12_findNames_5 : decode cX12_findNames 5 = .ok (.if_icmp .ge 16, 3) := by decide +kernel
theorem dX12_findNames_8 : decode cX12_findNames 8 = .ok (.aload_n 0, 1) := by decide +kernel
theorem dX12_findNames_9 : decode cX12_findNames 9 = .ok (.getfield 41, 3) := by decide +kernel
theorem dX12_findNames_12 : decode cX12_findNames 12 = .ok (.iload_n 3, 1) := by decide +kernel
theorem dX12_findNames_13 : decode cX12_findNames 13 = .ok (.lconst 0, 1) := by decide +kernel
theorem dX12_findNames_14 : decode cX12_findNames 14 = .ok (.lastore, 1) := by decide +kernel
theorem dX12_findNames_15 : decode cX12_findNames 15 = .ok (.iinc 3 1, 3) := by decide +kernel
theorem dX12_findNames_18 : decode cX12_findNames 18 = .ok (.goto (-16), 3) := by decide +kernel
theorem dX12_findNames_21 : decode cX12_findNames 21 = .ok (.iconst 0, 1) := by decide +kernel
theorem dX12_findNames_22 : decode cX12_findNames 22 = .ok (.istore_n 3, 1) := by decide +kernel
theorem dX12_findNames_23 : decode cX12_findNames 23 = .ok (.iload_n 3, 1) := by decide +kernel
theorem dX12_findNames_24 : decode cX12_findNames 24 = .ok (.aload_n 0, 1) := by decide +kernel
theorem dX12_findNames_25 : decode cX12_findNames 25 = .ok (.getfield 7, 3) := by decide +kernel
theorem dX12_findNames_28 : decode cX12_findNames 28 = .ok (.iconst 1, 1) := by decide +kernel
theorem dX12_findNames_29 : decode cX12_findNames 29 = .ok (.iaload, 1) := by decide +kernel
theorem dX12_findNames_30 : decode cX12_findNames 30 = .ok (.if_icmp .ge 110, 3) := by decide +kernel
theorem dX12_findNames_33 : decode cX12_findNames 33 = .ok (.aload_n 0, 1) := by decide +kernel
theorem dX12_findNames_34 : decode cX12_findNames 34 = .ok (.iload_n 3, 1) := by decide +kernel
theorem dX12_findNames_35 : decode cX12_findNames 35 = .ok (.iload_n 1, 1) := by decide +kernel
theorem dX12_findNames_36 : decode cX12_findNames 36 = .ok (.iload_n 2, 1) := by decide +kernel
theorem dX12_findNames_37 : decode cX12_findNames 37 = .ok (.invokevirtual 202, 3) := by decide +kernel
theorem dX12_findNames_40 : decode cX12_findNames 40 = .ok (.ifCond .eq 94, 3) := by decide +kernel
theorem dX12_findNames_43 : decode cX12_findNames 43 = .ok (.bipush 100, 2) := by decide +kernel
theorem dX12_findNames_45 : decode cX12_findNames 45 = .ok (.iconst 4, 1) := by decide +kernel
theorem dX12_findNames_46 : decode cX12_findNames 46 = .ok (.iload_n 3, 1) := by decide +kernel
theorem dX12_findNames_47 : decode cX12_findNames 47 = .ok (.imul, 1) := by decide +kernel
theorem dX12_findNames_48 : decode cX12_findNames 48 = .ok (.iadd, 1) := by decide +kernel
theorem dX12_findNames_49 : decode cX12_findNames 49 = .ok (.istore 4, 2) := by decide +kernel
theorem dX12_findNames_51 : decode cX12_findNames 51 = .ok (.aload_n 0, 1) := by decide +kernel
theorem dX12_findNames_52 : decode cX12_findNames 52 = .ok (.getfield 41, 3) := by decide +kernel
theorem dX12_findNames_55 : decode cX12_findNames 55 = .ok (.iconst 0, 1) := by decide +kernel
theorem dX12_findNames_56 : decode cX12_findNames 56 = .ok (.dup2, 1) := by decide +kernel
theorem dX12_findNames_57 : decode cX12_findNames 57 = .ok (.laload, 1) := by decide +kernel
theorem dX12_findNames_58 : decode cX12_findNames 58 = .ok (.aload_n 0, 1) := by decide +kernel
theorem dX12_findNames_59 : decode cX12_findNames 59 = .ok (.getfield 7, 3) := by decide +kernel
theorem dX12_findNames_62 : decode cX12_findNames 62 = .ok (.iload 4, 2) := by decide +kernel
theorem dX12_findNames_64 : decode cX12_findNames 64 = .ok (.iconst 2, 1) := by decide +kernel
theorem dX12_findNames_65 : decode cX12_findNames 65 = .ok (.iadd, 1) := by decide +kernel
theorem dX12_findNames_66 : decode cX12_findNames 66 = .ok (.iaload, 1) := by decide +kernel
theorem dX12_findNames_67 : decode cX12_findNames 67 = .ok (.i2l, 1) := by decide +kernel
theorem dX12_findNames_68 : decode cX12_findNames 68 = .ok (.ladd, 1) := by decide +kernel
theorem dX12_findNames_69 : decode cX12_findNames 69 = .ok (.lastore, 1) := by decide +kernel
theorem dX12_findNames_70 : decode cX12_findNames 70 = .ok (.aload_n 0, 1) := by decide +kernel
theorem dX12_findNames_71 : decode cX12_findNames 71 = .ok (.getfield 41, 3) := by decide +kernel
theorem dX12_findNames_74 : decode cX12_findNames 74 = .ok (.iconst 1, 1) := by decide +kernel
theorem dX12_findNames_75 : decode cX12_findNames 75 = .ok (.dup2, 1) := by decide +kernel
theorem dX12_findNames_76 : decode cX12_findNames 76 = .ok (.laload, 1) := by decide +kernel
theorem dX12_findNames_77 : decode cX12_findNames 77 = .ok (.aload_n 0, 1) := by decide +kernel
theorem dX12_findNames_78 : decode cX12_findNames 78 = .ok (.iload_n 3, 1) := by decide +kernel
theorem dX12_findNames_79 : decode cX12_findNames 79 = .ok (.invokevirtual 125, 3) := by decide +kernel
theorem dX12_findNames_82 : decode cX12_findNames 82 = .ok (.ladd, 1) := by decide +kernel
theorem dX12_findNames_83 : decode cX12_findNames 83 = .ok (.lastore, 1) := by decide +kernel
theorem dX12_findNames_84 : decode cX12_findNames 84 = .ok (.aload_n 0, 1) := by decide +kernel
theorem dX12_findNames_85 : decode cX12_findNames 85 = .ok (.getfield 41, 3) := by decide +kernel
theorem dX12_findNames_88 : decode cX12_findNames 88 = .ok (.iconst 2, 1) := by decide +kernel
theorem dX12_findNames_89 : decode cX12_findNames 89 = .ok (.dup2, 1) := by decide +kernel
theorem dX12_findNames_90 : decode cX12_findNames 90 = .ok (.laload, 1) := by decide +kernel
theorem dX12_findNames_91 : decode cX12_findNames 91 = .ok (.lconst 1, 1) := by decide +kernel
theorem dX12_findNames_92 : decode cX12_findNames 92 = .ok (.ladd, 1) := by decide +kernel
theorem dX12_findNames_93 : decode cX12_findNames 93 = .ok (.lastore, 1) := by decide +kernel
theorem dX12_findNames_94 : decode cX12_findNames 94 = .ok (.aload_n 0, 1) := by decide +kernel
theorem dX12_findNames_95 : decode cX12_findNames 95 = .ok (.getfield 41, 3) := by decide +kernel
theorem dX12_findNames_98 : decode cX12_findNames 98 = .ok (.iconst 3, 1) := by decide +kernel
theorem dX12_findNames_99 : decode cX12_findNames 99 = .ok (.dup2, 1) := by decide +kernel
theorem dX12_findNames_100 : decode cX12_findNames 100 = .ok (.laload, 1) := by decide +kernel
theorem dX12_findNames_101 : decode cX12_findNames 101 = .ok (.aload_n 0, 1) := by decide +kernel
theorem dX12_findNames_102 : decode cX12_findNames 102 = .ok (.getfield 7, 3) := by decide +kernel
theorem dX12_findNames_105 : decode cX12_findNames 105 = .ok (.sipush 2700, 3) := by decide +kernel
theorem dX12_findNames_108 : decode cX12_findNames 108 = .ok (.iconst 3, 1) := by decide +kernel
theorem dX12_findNames_109 : decode cX12_findNames 109 = .ok (.aload_n 0, 1) := by decide +kernel
theorem dX12_findNames_110 : decode cX12_findNames 110 = .ok (.getfield 7, 3) := by decide +kernel
theorem dX12_findNames_113 : decode cX12_findNames 113 = .ok (.iload 4, 2) := by decide +kernel
theorem dX12_findNames_115 : decode cX12_findNames 115 = .ok (.iconst 3, 1) := by decide +kernel
theorem dX12_findNames_116 : decode cX12_findNames 116 = .ok (.iadd, 1) := by decide +kernel
theorem dX12_findNames_117 : decode cX12_findNames 117 = .ok (.iaload, 1) := by decide +kernel
theorem dX12_findNames_118 : decode cX12_findNames 118 = .ok (.imul, 1) := by decide +kernel
theorem dX12_findNames_119 : decode cX12_findNames 119 = .ok (.iadd, 1) := by decide +kernel
theorem dX12_findNames_120 : decode cX12_findNames 120 = .ok (.iaload, 1) := by decide +kernel
theorem dX12_findNames_121 : decode cX12_findNames 121 = .ok (.aload_n 0, 1) := by decide +kernel
theorem dX12_findNames_122 : decode cX12_findNames 122 = .ok (.getfield 7, 3) := by decide +kernel
theorem dX12_findNames_125 : decode cX12_findNames 125 = .ok (.iload 4, 2) := by decide +kernel
theorem dX12_findNames_127 : decode cX12_findNames 127 = .ok (.iconst 1, 1) := by decide +kernel
theorem dX12_findNames_128 : decode cX12_findNames 128 = .ok (.iadd, 1) := by decide +kernel
theorem dX12_findNames_129 : decode cX12_findNames 129 = .ok (.iaload, 1) := by decide +kernel
theorem dX12_findNames_130 : decode cX12_findNames 130 = .ok (.isub, 1) := by decide +kernel
theorem dX12_findNames_131 : decode cX12_findNames 131 = .ok (.i2l, 1) := by decide +kernel
theorem dX12_findNames_132 : decode cX12_findNames 132 = .ok (.ladd, 1) := by decide +kernel
theorem dX12_findNames_133 : decode cX12_findNames 133 = .ok (.lastore, 1) := by decide +kernel
theorem dX12_findNames_134 : decode cX12_findNames 134 = .ok (.iinc 3 1, 3) := by decide +kernel
theorem dX12_findNames_137 : decode cX12_findNames 137 = .ok (.goto (-114), 3) := by decide +kernel
theorem dX12_findNames_140 : decode cX12_findNames 140 = .ok (.aload_n 0, 1) := by decide +kernel
theorem dX12_findNames_141 : decode cX12_findNames 141 = .ok (.getfield 41, 3) := by decide +kernel
theorem dX12_findNames_144 : decode cX12_findNames 144 = .ok (.iconst 1, 1) := by decide +kernel
theorem dX12_findNames_145 : decode cX12_findNames 145 = .ok (.dup2, 1) := by decide +kernel
theorem dX12_findNames_146 : decode cX12_findNames 146 = .ok (.laload, 1) := by decide +kernel
theorem dX12_findNames_147 : decode cX12_findNames 147 = .ok (.ldc2_w 205, 3) := by decide +kernel
theorem dX12_findNames_150 : decode cX12_findNames 150 = .ok (.ldiv, 1) := by decide +kernel
theorem dX12_findNames_151 : decode cX12_findNames 151 = .ok (.lastore, 1) := by decide +kernel
theorem dX12_findNames_152 : decode cX12_findNames 152 = .ok (.iconst 0, 1) := by decide +kernel
theorem dX12_findNames_153 : decode cX12_findNames 153 = .ok (.istore_n 3, 1) := by decide +kernel
theorem dX12_findNames_154 : decode cX12_findNames 154 = .ok (.iload_n 3, 1) := by decide +kernel
theorem dX12_findNames_155 : decode cX12_findNames 155 = .ok (.aload_n 0, 1) := by decide +kernel
theorem dX12_findNames_156 : decode cX12_findNames 156 = .ok (.getfield 7, 3) := by decide +kernel
theorem dX12_findNames_159 : decode cX12_findNames 159 = .ok (.iconst 2, 1) := by decide +kernel
theorem dX12_findNames_160 : decode cX12_findNames 160 = .ok (.iaload, 1) := by decide +kernel
theorem dX12_findNames_161 : decode cX12_findNames 161 = .ok (.if_icmp .ge 72, 3) := by decide +kernel
theorem dX12_findNames_164 : decode cX12_findNames 164 = .ok (.aload_n 0, 1) := by decide +kernel
theorem dX12_findNames_165 : decode cX12_findNames 165 = .ok (.getfield 41, 3) := by decide +kernel
theorem dX12_findNames_168 : decode cX12_findNames 168 = .ok (.iconst 4, 1) := by decide +kernel
theorem dX12_findNames_169 : decode cX12_findNames 169 = .ok (.dup2, 1) := by decide +kernel
theorem dX12_findNames_170 : decode cX12_findNames 170 = .ok (.laload, 1) := by decide +kernel
theorem dX12_findNames_171 : decode cX12_findNames 171 = .ok (.aload_n 0, 1) := by decide +kernel
theorem dX12_findNames_172 : decode cX12_findNames 172 = .ok (.getfield 7, 3) := by decide +kernel
theorem dX12_findNames_175 : decode cX12_findNames 175 = .ok (.sipush 1300, 3) := by decide +kernel
theorem dX12_findNames_178 : decode cX12_findNames 178 = .ok (.bipush 7, 2) := by decide +kernel
theorem dX12_findNames_180 : decode cX12_findNames 180 = .ok (.iload_n 3, 1) := by decide +kernel
theorem dX12_findNames_181 : decode cX12_findNames 181 = .ok (.imul, 1) := by decide +kernel
theorem dX12_findNames_182 : decode cX12_findNames 182 = .ok (.iadd, 1) := by decide +kernel
theorem dX12_findNames_183 : decode cX12_findNames 183 = .ok (.iaload, 1) := by decide +kernel
theorem dX12_findNames_184 : decode cX12_findNames 184 = .ok (.iload_n 1, 1) := by decide +kernel
theorem dX12_findNames_185 : decode cX12_findNames 185 = .ok (.if_icmp .ne 39, 3) := by decide +kernel
theorem dX12_findNames_188 : decode cX12_findNames 188 = .ok (.aload_n 0, 1) := by decide +kernel
theorem dX12_findNames_189 : decode cX12_findNames 189 = .ok (.getfield 7, 3) := by decide +kernel
theorem dX12_findNames_192 : decode cX12_findNames 192 = .ok (.sipush 1300, 3) := by decide +kernel
theorem dX12_findNames_195 : decode cX12_findNames 195 = .ok (.bipush 7, 2) := by decide +kernel
theorem dX12_findNames_197 : decode cX12_findNames 197 = .ok (.iload_n 3, 1) := by decide +kernel
theorem dX12_findNames_198 : decode cX12_findNames 198 = .ok (.imul, 1) := by decide +kernel
theorem dX12_findNames_199 : decode cX12_findNames 199 = .ok (.iadd, 1) := by decide +kernel
theorem dX12_findNames_200 : decode cX12_findNames 200 = .ok (.iconst 1, 1) := by decide +kernel
theorem dX12_findNames_201 : decode cX12_findNames 201 = .ok (.iadd, 1) := by decide +kernel
theorem dX12_findNames_202 : decode cX12_findNames 202 = .ok (.iaload, 1) := by decide +kernel
theorem dX12_findNames_203 : decode cX12_findNames 203 = .ok (.bipush 7, 2) := by decide +kernel
theorem dX12_findNames_205 : decode cX12_findNames 205 = .ok (.idiv, 1) := by decide +kernel
theorem dX12_findNames_206 : decode cX12_findNames 206 = .ok (.iload_n 2, 1) := by decide +kernel
theorem dX12_findNames_207 : decode cX12_findNames 207 = .ok (.if_icmp .ne 17, 3) := by decide +kernel
theorem dX12_findNames_210 : decode cX12_findNames 210 = .ok (.aload_n 0, 1) := by decide +kernel
theorem dX12_findNames_211 : decode cX12_findNames 211 = .ok (.getfield 20, 3) := by decide +kernel
theorem dX12_findNames_214 : decode cX12_findNames 214 = .ok (.iload_n 3, 1) := by decide +kernel
theorem dX12_findNames_215 : decode cX12_findNames 215 = .ok (.iaload, 1) := by decide +kernel
theorem dX12_findNames_216 : decode cX12_findNames 216 = .ok (.iconst (-1), 1) := by decide +kernel
theorem dX12_findNames_217 : decode cX12_findNames 217 = .ok (.if_icmp .eq 7, 3) := by decide +kernel
theorem dX12_findNames_220 : decode cX12_findNames 220 = .ok (.lconst 1, 1) := by decide +kernel
theorem dX12_findNames_221 : decode cX12_findNames 221 = .ok (.goto 4, 3) := by decide +kernel
theorem dX12_findNames_224 : decode cX12_findNames 224 = .ok (.lconst 0, 1) := by decide +kernel
theorem dX12_findNames_225 : decode cX12_findNames 225 = .ok (.ladd, 1) := by decide +kernel
theorem dX12_findNames_226 : decode cX12_findNames 226 = .ok (.lastore, 1) := by decide +kernel
theorem dX12_findNames_227 : decode cX12_findNames 227 = .ok (.iinc 3 1, 3) := by decide +kernel
theorem dX12_findNames_230 : decode cX12_findNames 230 = .ok (.goto (-76), 3) := by decide +kernel
theorem dX12_findNames_233 : decode cX12_findNames 233 = .ok (.aload_n 0, 1) := by decide +kernel
theorem dX12_findNames_234 : decode cX12_findNames 234 = .ok (.getfield 41, 3) := by decide +kernel
theorem dX12_findNames_237 : decode cX12_findNames 237 = .ok (.iconst 5, 1) := by decide +kernel
theorem dX12_findNames_238 : decode cX12_findNames 238 = .ok (.aload_n 0, 1) := by decide +kernel
theorem dX12_findNames_239 : decode cX12_findNames 239 = .ok (.iload_n 1, 1) := by decide +kernel
theorem dX12_findNames_240 : decode cX12_findNames 240 = .ok (.invokevirtual 207, 3) := by decide +kernel
theorem dX12_findNames_243 : decode cX12_findNames 243 = .ok (.ifCond .eq 7, 3) := by decide +kernel
theorem dX12_findNames_246 : decode cX12_findNames 246 = .ok (.lconst 1, 1) := by decide +kernel
theorem dX12_findNames_247 : decode cX12_findNames 247 = .ok (.goto 4, 3) := by decide +kernel
theorem dX12_findNames_250 : decode cX12_findNames 250 = .ok (.lconst 0, 1) := by decide +kernel
theorem dX12_findNames_251 : decode cX12_findNames 251 = .ok (.lastore, 1) := by decide +kernel
theorem dX12_findNames_252 : decode cX12_findNames 252 = .ok (.aload_n 0, 1) := by decide +kernel
theorem dX12_findNames_253 : decode cX12_findNames 253 = .ok (.getfield 41, 3) := by decide +kernel
theorem dX12_findNames_256 : decode cX12_findNames 256 = .ok (.bipush 6, 2) := by decide +kernel
theorem dX12_findNames_258 : decode cX12_findNames 258 = .ok (.aload_n 0, 1) := by decide +kernel
theorem dX12_findNames_259 : decode cX12_findNames 259 = .ok (.iload_n 1, 1) := by decide +kernel
theorem dX12_findNames_260 : decode cX12_findNames 260 = .ok (.invokevirtual 210, 3) := by decide +kernel
theorem dX12_findNames_263 : decode cX12_findNames 263 = .ok (.i2l, 1) := by decide +kernel
theorem dX12_findNames_264 : decode cX12_findNames 264 = .ok (.lastore, 1) := by decide +kernel
theorem dX12_findNames_265 : decode cX12_findNames 265 = .ok (.iconst 0, 1) := by decide +kernel
theorem dX12_findNames_266 : decode cX12_findNames 266 = .ok (.istore_n 3, 1) := by decide +kernel
theorem dX12_findNames_267 : decode cX12_findNames 267 = .ok (.iload_n 3, 1) := by decide +kernel
theorem dX12_findNames_268 : decode cX12_findNames 268 = .ok (.aload_n 0, 1) := by decide +kernel
theorem dX12_findNames_269 : decode cX12_findNames 269 = .ok (.getfield 7, 3) := by decide +kernel
theorem dX12_findNames_272 : decode cX12_findNames 272 = .ok (.iconst 0, 1) := by decide +kernel
theorem dX12_findNames_273 : decode cX12_findNames 273 = .ok (.iaload, 1) := by decide +kernel
theorem dX12_findNames_274 : decode cX12_findNames 274 = .ok (.if_icmp .ge 41, 3) := by decide +kernel
theorem dX12_findNames_277 : decode cX12_findNames 277 = .ok (.aload_n 0, 1) := by decide +kernel
theorem dX12_findNames_278 : decode cX12_findNames 278 = .ok (.getfield 41, 3) := by decide +kernel
theorem dX12_findNames_281 : decode cX12_findNames 281 = .ok (.bipush 7, 2) := by decide +kernel
theorem dX12_findNames_283 : decode cX12_findNames 283 = .ok (.dup2, 1) := by decide +kernel
theorem dX12_findNames_284 : decode cX12_findNames 284 = .ok (.laload, 1) := by decide +kernel
theorem dX12_findNames_285 : decode cX12_findNames 285 = .ok (.aload_n 0, 1) := by decide +kernel
theorem dX12_findNames_286 : decode cX12_findNames 286 = .ok (.iload_n 3, 1) := by decide +kernel
theorem dX12_findNames_287 : decode cX12_findNames 287 = .ok (.iload_n 2, 1) := by decide +kernel
theorem dX12_findNames_288 : decode cX12_findNames 288 = .ok (.invokevirtual 213, 3) := by decide +kernel
theorem dX12_findNames_291 : decode cX12_findNames 291 = .ok (.i2l, 1) := by decide +kernel
theorem dX12_findNames_292 : decode cX12_findNames 292 = .ok (.aload_n 0, 1) := by decide +kernel
theorem dX12_findNames_293 : decode cX12_findNames 293 = .ok (.getfield 41, 3) := by decide +kernel
theorem dX12_findNames_296 : decode cX12_findNames 296 = .ok (.iconst 0, 1) := by decide +kernel
theorem dX12_findNames_297 : decode cX12_findNames 297 = .ok (.laload, 1) := by decide +kernel
theorem dX12_findNames_298 : decode cX12_findNames 298 = .ok (.lcmp, 1) := by decide +kernel
theorem dX12_findNames_299 : decode cX12_findNames 299 = .ok (.ifCond .le 7, 3) := by decide +kernel
theorem dX12_findNames_302 : decode cX12_findNames 302 = .ok (.lconst 1, 1) := by decide +kernel
theorem dX12_findNames_303 : decode cX12_findNames 303 = .ok (.goto 4, 3) := by decide +kernel
theorem dX12_findNames_306 : decode cX12_findNames 306 = .ok (.lconst 0, 1) := by decide +kernel
theorem dX12_findNames_307 : decode cX12_findNames 307 = .ok (.ladd, 1) := by decide +kernel
theorem dX12_findNames_308 : decode cX12_findNames 308 = .ok (.lastore, 1) := by decide +kernel
theorem dX12_findNames_309 : decode cX12_findNames 309 = .ok (.iinc 3 1, 3) := by decide +kernel
theorem dX12_findNames_312 : decode cX12_findNames 312 = .ok (.goto (-45), 3) := by decide +kernel
theorem dX12_findNames_315 : decode cX12_findNames 315 = .ok (.return_, 1) := by decide +kernel
def f_X12_findNames_b267 (a0 : Nat) (a2 : Int32) : Nat → Int32 → q_Mem → Option q_Mem
  | 0, _, _ => none
  | n + 1, a3, M =>
    (q_gR 11 0 M a0).bind fun v107 =>
    (q_lI M v107 (0 : Int32)).bind fun v109 =>
    (if a3 < v109 then
      (q_gR 11 14 M a0).bind fun v111 =>
      (q_lJ M v111 (7 : Int32)).bind fun v113 =>
      (f_X12_weightOf M a0 a3 a2).bind fun v116 =>
      (q_gR 11 14 M a0).bind fun v117 =>
      (q_lJ M v117 (0 : Int32)).bind fun v119 =>
      (if v119 < v116.toInt64 then
        (q_tJ M v111 (7 : Int32) (v113 + (1 : Int64))).bind fun M121 =>
        f_X12_findNames_b267 a0 a2 n (a3 + (1 : Int32)) M121
      else
        (q_tJ M v111 (7 : Int32) (v113 + (0 : Int64))).bind fun M123 =>
        f_X12_findNames_b267 a0 a2 n (a3 + (1 : Int32)) M123)
    else
      some M)
def f_X12_findNames_b251 (M : q_Mem) (a0 : Nat) (a1 : Int32) (a2 : Int32) (s0 : Nat) (s1 : Int32) (s2 : Int64) : Option q_Mem :=
  (q_tJ M s0 s1 s2).bind fun M99 =>
  (q_gR 11 14 M99 a0).bind fun v101 =>
  (f_X12_cows M99 a0 a1).bind fun v104 =>
  (q_tJ M99 v101 (6 : Int32) v104.toInt64).bind fun M105 =>
  f_X12_findNames_b267 a0 a2 q_fuel (0 : Int32) M105
def f_X12_findNames_b233 (M : q_Mem) (a0 : Nat) (a1 : Int32) (a2 : Int32) : Option q_Mem :=
  (q_gR 11 14 M a0).bind fun v94 =>
  (f_X12_isMember M a0 a1).bind fun v97 =>
  (if v97 = 0 then
    f_X12_findNames_b251 M a0 a1 a2 v94 (5 : Int32) (0 : Int64)
  else
    f_X12_findNames_b251 M a0 a1 a2 v94 (5 : Int32) (1 : Int64))
def f_X12_findNames_b224 (kk154 : Int32 → q_Mem → Option q_Mem) (M : q_Mem) (a0 : Nat) (a1 : Int32) (a2 : Int32) (a3 : Int32) (s0 : Nat) (s1 : Int32) (s2 : Int64) : Option q_Mem :=
  (q_tJ M s0 s1 (s2 + (0 : Int64))).bind fun M92 =>
  kk154 (a3 + (1 : Int32)) M92
def f_X12_findNames_b154 (a0 : Nat) (a1 : Int32) (a2 : Int32) : Nat → Int32 → q_Mem → Option q_Mem
  | 0, _, _ => none
  | n + 1, a3, M =>
    (q_gR 11 0 M a0).bind fun v64 =>
    (q_lI M v64 (2 : Int32)).bind fun v66 =>
    (if a3 < v66 then
      (q_gR 11 14 M a0).bind fun v68 =>
      (q_lJ M v68 (4 : Int32)).bind fun v70 =>
      (q_gR 11 0 M a0).bind fun v72 =>
      (q_lI M v72 ((1300 : Int32) + ((7 : Int32) * a3))).bind fun v74 =>
      (if v74 = a1 then
        (q_gR 11 0 M a0).bind fun v76 =>
        (q_lI M v76 (((1300 : Int32) + ((7 : Int32) * a3)) + (1 : Int32))).bind fun v78 =>
        (q_dv v78 (7 : Int32)).bind fun v80 =>
        (if v80 = a2 then
          (q_gR 11 3 M a0).bind fun v82 =>
          (q_lI M v82 a3).bind fun v84 =>
          (if v84 = (-1 : Int32) then
            f_X12_findNames_b224 (f_X12_findNames_b154 a0 a1 a2 n) M a0 a1 a2 a3 v68 (4 : Int32) v70
          else
            (q_tJ M v68 (4 : Int32) (v70 + (1 : Int64))).bind fun M86 =>
            f_X12_findNames_b154 a0 a1 a2 n (a3 + (1 : Int32)) M86)
        else
          f_X12_findNames_b224 (f_X12_findNames_b154 a0 a1 a2 n) M a0 a1 a2 a3 v68 (4 : Int32) v70)
      else
        f_X12_findNames_b224 (f_X12_findNames_b154 a0 a1 a2 n) M a0 a1 a2 a3 v68 (4 : Int32) v70)
    else
      f_X12_findNames_b233 M a0 a1 a2)
def f_X12_findNames_b140 (M : q_Mem) (a0 : Nat) (a1 : Int32) (a2 : Int32) : Option q_Mem :=
  (q_gR 11 14 M a0).bind fun v56 =>
  (q_lJ M v56 (1 : Int32)).bind fun v58 =>
  (q_ldv v58 (100 : Int64)).bind fun v60 =>
  (q_tJ M v56 (1 : Int32) v60).bind fun M62 =>
  f_X12_findNames_b154 a0 a1 a2 q_fuel (0 : Int32) M62
def f_X12_findNames_b23 (a0 : Nat) (a1 : Int32) (a2 : Int32) : Nat → Int32 → q_Mem → Option q_Mem
  | 0, _, _ => none
  | n + 1, a3, M =>
    (q_gR 11 0 M a0).bind fun v6 =>
    (q_lI M v6 (1 : Int32)).bind fun v8 =>
    (if a3 < v8 then
      (f_X12_isIn M a0 a3 a1 a2).bind fun v11 =>
      (if v11 = 0 then
        f_X12_findNames_b23 a0 a1 a2 n (a3 + (1 : Int32)) M
      else
        (q_gR 11 14 M a0).bind fun v12 =>
        (q_lJ M v12 (0 : Int32)).bind fun v14 =>
        (q_gR 11 0 M a0).bind fun v16 =>
        (q_lI M v16 (((100 : Int32) + ((4 : Int32) * a3)) + (2 : Int32))).bind fun v18 =>
        (q_tJ M v12 (0 : Int32) (v14 + v18.toInt64)).bind fun M20 =>
        (q_gR 11 14 M20 a0).bind fun v22 =>
        (q_lJ M20 v22 (1 : Int32)).bind fun v24 =>
        (f_X12_fatOf M20 a0 a3).bind fun v27 =>
        (q_tJ M20 v22 (1 : Int32) (v24 + v27)).bind fun M28 =>
        (q_gR 11 14 M28 a0).bind fun v30 =>
        (q_lJ M28 v30 (2 : Int32)).bind fun v32 =>
        (q_tJ M28 v30 (2 : Int32) (v32 + (1 : Int64))).bind fun M34 =>
        (q_gR 11 14 M34 a0).bind fun v36 =>
        (q_lJ M34 v36 (3 : Int32)).bind fun v38 =>
        (q_gR 11 0 M34 a0).bind fun v40 =>
        (q_gR 11 0 M34 a0).bind fun v42 =>
        (q_lI M34 v42 (((100 : Int32) + ((4 : Int32) * a3)) + (3 : Int32))).bind fun v44 =>
        (q_lI M34 v40 ((2700 : Int32) + ((3 : Int32) * v44))).bind fun v46 =>
        (q_gR 11 0 M34 a0).bind fun v48 =>
        (q_lI M34 v48 (((100 : Int32) + ((4 : Int32) * a3)) + (1 : Int32))).bind fun v50 =>
        (q_tJ M34 v36 (3 : Int32) (v38 + (v46 - v50).toInt64)).bind fun M52 =>
        f_X12_findNames_b23 a0 a1 a2 n (a3 + (1 : Int32)) M52)
    else
      f_X12_findNames_b140 M a0 a1 a2)
def f_X12_findNames_b2 (a0 : Nat) (a1 : Int32) (a2 : Int32) : Nat → Int32 → q_Mem → Option q_Mem
  | 0, _, _ => none
  | n + 1, a3, M =>
    (if a3 < (8 : Int32) then
      (q_gR 11 14 M a0).bind fun v1 =>
      (q_tJ M v1 a3 (0 : Int64)).bind fun M3 =>
      f_X12_findNames_b2 a0 a1 a2 n (a3 + (1 : Int32)) M3
    else
      f_X12_findNames_b23 a0 a1 a2 q_fuel (0 : Int32) M)
def f_X12_findNames (M : q_Mem) (a0 : Nat) (a1 : Int32) (a2 : Int32) : Option q_Mem :=
  q_ob 11 M a0 (f_X12_findNames_b2 a0 a1 a2 q_fuel (0 : Int32) M)
set_option maxRecDepth 20000 in
theorem v_X12_findNames_b267 {a0 : Nat} {a2 : Int32}  : ∀ (n : Nat) (a3 : Int32) (M : q_Mem), q_V Y_X12_findNames none (fun x : q_Mem => (none, x)) 0 0 267 [(0, .ref a0), (2, .int a2), (3, .int a3)] [] M (f_X12_findNames_b267 a0 a2 n a3 M) := by
  intro n
  induction n with
  | zero => intro a3 M; exact q_none
  | succ n ih =>
    intro a3 M
    rw [f_X12_findNames_b267.eq_2]
    refine q_iload_n 2 dX12_findNames_267 rfl ?_
    refine q_aload_n 0 dX12_findNames_268 rfl ?_
    refine q_getR (f := 0) cl_X12 (by decide) qw_1117 rfl dX12_findNames_269 (fun _ _ _ => rfl) (fun v107 h108 => ?_)
    refine q_iconst (x := (0 : Int32)) dX12_findNames_272 rfl ?_
    refine q_iald dX12_findNames_273 (fun v109 h110 => ?_)
    refine q_icmp_ge (tgt := 315) dX12_findNames_274 (by decide) (fun c126 => ?_) (fun c126 => ?_)
    · refine q_aload_n 0 dX12_findNames_277 rfl ?_
      refine q_getR (f := 14) cl_X12 (by decide) qw_1130 rfl dX12_findNames_278 (fun _ _ _ => rfl) (fun v111 h112 => ?_)
      refine q_bipush (x := (7 : Int32)) dX12_findNames_281 rfl ?_
      refine q_dup2 dX12_findNames_283 rfl rfl ?_
      refine q_lald dX12_findNames_284 (fun v113 h114 => ?_)
      refine q_aload_n 0 dX12_findNames_285 rfl ?_
      refine q_iload_n 2 dX12_findNames_286 rfl ?_
      refine q_iload_n 1 dX12_findNames_287 rfl ?_
      refine q_cVI (Y2 := Y_X12_weightOf) (As := [.int a3, .int a2]) (b := a0) (st := [.long v113, .int (7 : Int32), .ref v111]) cl_X12 mv_X12_weightOf qw_1455 dX12_findNames_288 ⟨Nat.le_of_ble_eq_true rfl, Nat.le_of_ble_eq_true rfl⟩ rfl (fun _ _ => rfl) (Nat.le_of_ble_eq_true rfl) ⟨Nat.le_of_ble_eq_true rfl, Nat.le_of_ble_eq_true rfl⟩ (fun v116 h115 => q_ob_is h115) (fun v116 h115 => m_X12_weightOf h115) (fun v116 h115 => ?_)
      refine q_i2l dX12_findNames_291 ?_
      refine q_aload_n 0 dX12_findNames_292 rfl ?_
      refine q_getR (f := 14) cl_X12 (by decide) qw_1130 rfl dX12_findNames_293 (fun _ _ _ => rfl) (fun v117 h118 => ?_)
      refine q_iconst (x := (0 : Int32)) dX12_findNames_296 rfl ?_
      refine q_lald dX12_findNames_297 (fun v119 h120 => ?_)
      refine q_lcmp_le (tgt := 306) dX12_findNames_298 dX12_findNames_299 (by decide) (fun c125 => ?_) (fun c125 => ?_)
      · refine q_lconst (x := (1 : Int64)) dX12_findNames_302 rfl ?_
        refine q_goto (tgt := 307) dX12_findNames_303 (by decide) ?_
        refine q_ladd dX12_findNames_307 ?_
        refine q_last dX12_findNames_308 (fun M121 h122 => ?_)
        refine q_iinc 2 (y := (a3 + (1 : Int32))) (ls' := [(3, .int (a3 + (1 : Int32))), (0, .ref a0), (2, .int a2)]) dX12_findNames_309 rfl rfl (by decide) rfl ?_
        refine q_goto (tgt := 267) dX12_findNames_312 (by decide) ?_
        refine q_sub (ls' := [(0, .ref a0), (2, .int a2), (3, .int (a3 + (1 : Int32)))]) [1, 2, 0] rfl ?_
        exact ih _ _
      · refine q_lconst (x := (0 : Int64)) dX12_findNames_306 rfl ?_
        refine q_ladd dX12_findNames_307 ?_
        refine q_last dX12_findNames_308 (fun M123 h124 => ?_)
        refine q_iinc 2 (y := (a3 + (1 : Int32))) (ls' := [(3, .int (a3 + (1 : Int32))), (0, .ref a0), (2, .int a2)]) dX12_findNames_309 rfl rfl (by decide) rfl ?_
        refine q_goto (tgt := 267) dX12_findNames_312 (by decide) ?_
        refine q_sub (ls' := [(0, .ref a0), (2, .int a2), (3, .int (a3 + (1 : Int32)))]) [1, 2, 0] rfl ?_
        exact ih _ _
    · exact q_vret dX12_findNames_315 rfl rfl (Nat.le_of_ble_eq_true rfl) rfl
set_option maxRecDepth 20000 in
theorem v_X12_findNames_b251 {M : q_Mem} {a0 : Nat} {a1 : Int32} {a2 : Int32} {s0 : Nat} {s1 : Int32} {s2 : Int64}  : q_V Y_X12_findNames none (fun x : q_Mem => (none, x)) 0 0 251 [(0, .ref a0), (1, .int a1), (2, .int a2)] [.long s2, .int s1, .ref s0] M (f_X12_findNames_b251 M a0 a1 a2 s0 s1 s2) := by
  unfold f_X12_findNames_b251
  refine q_last dX12_findNames_251 (fun M99 h100 => ?_)
  refine q_aload_n 0 dX12_findNames_252 rfl ?_
  refine q_getR (f := 14) cl_X12 (by decide) qw_1130 rfl dX12_findNames_253 (fun _ _ _ => rfl) (fun v101 h102 => ?_)
  refine q_bipush (x := (6 : Int32)) dX12_findNames_256 rfl ?_
  refine q_aload_n 0 dX12_findNames_258 rfl ?_
  refine q_iload_n 1 dX12_findNames_259 rfl ?_
  refine q_cVI (Y2 := Y_X12_cows) (As := [.int a1]) (b := a0) (st := [.int (6 : Int32), .ref v101]) cl_X12 mv_X12_cows qw_1451 dX12_findNames_260 ⟨Nat.le_of_ble_eq_true rfl, Nat.le_of_ble_eq_true rfl⟩ rfl (fun _ _ => rfl) (Nat.le_of_ble_eq_true rfl) ⟨Nat.le_of_ble_eq_true rfl, Nat.le_of_ble_eq_true rfl⟩ (fun v104 h103 => q_ob_is h103) (fun v104 h103 => m_X12_cows h103) (fun v104 h103 => ?_)
  refine q_i2l dX12_findNames_263 ?_
  refine q_last dX12_findNames_264 (fun M105 h106 => ?_)
  refine q_iconst (x := (0 : Int32)) dX12_findNames_265 rfl ?_
  refine q_istore_n (ls' := [(3, .int (0 : Int32)), (0, .ref a0), (1, .int a1), (2, .int a2)]) dX12_findNames_266 (by decide) rfl ?_
  refine q_sub (ls' := [(0, .ref a0), (2, .int a2), (3, .int (0 : Int32))]) [1, 3, 0] rfl ?_
  exact v_X12_findNames_b267 _ _ _
set_option maxRecDepth 20000 in
theorem v_X12_findNames_b233 {M : q_Mem} {a0 : Nat} {a1 : Int32} {a2 : Int32}  : q_V Y_X12_findNames none (fun x : q_Mem => (none, x)) 0 0 233 [(0, .ref a0), (1, .int a1), (2, .int a2)] [] M (f_X12_findNames_b233 M a0 a1 a2 ) := by
  unfold f_X12_findNames_b233
  refine q_aload_n 0 dX12_findNames_233 rfl ?_
  refine q_getR (f := 14) cl_X12 (by decide) qw_1130 rfl dX12_findNames_234 (fun _ _ _ => rfl) (fun v94 h95 => ?_)
  refine q_iconst (x := (5 : Int32)) dX12_findNames_237 rfl ?_
  refine q_aload_n 0 dX12_findNames_238 rfl ?_
  refine q_iload_n 1 dX12_findNames_239 rfl ?_
  refine q_cVI (Y2 := Y_X12_isMember) (As := [.int a1]) (b := a0) (st := [.int (5 : Int32), .ref v94]) cl_X12 mv_X12_isMember qw_1447 dX12_findNames_240 ⟨Nat.le_of_ble_eq_true rfl, Nat.le_of_ble_eq_true rfl⟩ rfl (fun _ _ => rfl) (Nat.le_of_ble_eq_true rfl) ⟨Nat.le_of_ble_eq_true rfl, Nat.le_of_ble_eq_true rfl⟩ (fun v97 h96 => q_ob_is h96) (fun v97 h96 => m_X12_isMember h96) (fun v97 h96 => ?_)
  refine q_if_eq (tgt := 250) dX12_findNames_243 (by decide) (fun c98 => ?_) (fun c98 => ?_)
  · refine q_lconst (x := (0 : Int64)) dX12_findNames_250 rfl ?_
    exact v_X12_findNames_b251
  · refine q_lconst (x := (1 : Int64)) dX12_findNames_246 rfl ?_
    refine q_goto (tgt := 251) dX12_findNames_247 (by decide) ?_
    exact v_X12_findNames_b251
set_option maxRecDepth 20000 in
theorem v_X12_findNames_b224 {kk154 : Int32 → q_Mem → Option q_Mem} {M : q_Mem} {a0 : Nat} {a1 : Int32} {a2 : Int32} {a3 : Int32} {s0 : Nat} {s1 : Int32} {s2 : Int64}  (hk154 : ∀ (a3 : Int32) (M : q_Mem), q_V Y_X12_findNames none (fun x : q_Mem => (none, x)) 0 0 154 [(0, .ref a0), (1, .int a1), (2, .int a2), (3, .int a3)] [] M (kk154 a3 M)): q_V Y_X12_findNames none (fun x : q_Mem => (none, x)) 0 0 224 [(0, .ref a0), (1, .int a1), (2, .int a2), (3, .int a3)] [.long s2, .int s1, .ref s0] M (f_X12_findNames_b224 kk154 M a0 a1 a2 a3 s0 s1 s2) := by
  unfold f_X12_findNames_b224
  refine q_lconst (x := (0 : Int64)) dX12_findNames_224 rfl ?_
  refine q_ladd dX12_findNames_225 ?_
  refine q_last dX12_findNames_226 (fun M92 h93 => ?_)
  refine q_iinc 3 (y := (a3 + (1 : Int32))) (ls' := [(3, .int (a3 + (1 : Int32))), (0, .ref a0), (1, .int a1), (2, .int a2)]) dX12_findNames_227 rfl rfl (by decide) rfl ?_
  refine q_goto (tgt := 154) dX12_findNames_230 (by decide) ?_
  refine q_sub (ls' := [(0, .ref a0), (1, .int a1), (2, .int a2), (3, .int (a3 + (1 : Int32)))]) [1, 2, 3, 0] rfl ?_
  exact hk154 _ _
set_option maxRecDepth 20000 in
theorem v_X12_findNames_b154 {a0 : Nat} {a1 : Int32} {a2 : Int32}  : ∀ (n : Nat) (a3 : Int32) (M : q_Mem), q_V Y_X12_findNames none (fun x : q_Mem => (none, x)) 0 0 154 [(0, .ref a0), (1, .int a1), (2, .int a2), (3, .int a3)] [] M (f_X12_findNames_b154 a0 a1 a2 n a3 M) := by
  intro n
  induction n with
  | zero => intro a3 M; exact q_none
  | succ n ih =>
    intro a3 M
    rw [f_X12_findNames_b154.eq_2]
    refine q_iload_n 3 dX12_findNames_154 rfl ?_
    refine q_aload_n 0 dX12_findNames_155 rfl ?_
    refine q_getR (f := 0) cl_X12 (by decide) qw_1117 rfl dX12_findNames_156 (fun _ _ _ => rfl) (fun v64 h65 => ?_)
    refine q_iconst (x := (2 : Int32)) dX12_findNames_159 rfl ?_
    refine q_iald dX12_findNames_160 (fun v66 h67 => ?_)
    refine q_icmp_ge (tgt := 233) dX12_findNames_161 (by decide) (fun c91 => ?_) (fun c91 => ?_)
    · refine q_aload_n 0 dX12_findNames_164 rfl ?_
      refine q_getR (f := 14) cl_X12 (by decide) qw_1130 rfl dX12_findNames_165 (fun _ _ _ => rfl) (fun v68 h69 => ?_)
      refine q_iconst (x := (4 : Int32)) dX12_findNames_168 rfl ?_
      refine q_dup2 dX12_findNames_169 rfl rfl ?_
      refine q_lald dX12_findNames_170 (fun v70 h71 => ?_)
      refine q_aload_n 0 dX12_findNames_171 rfl ?_
      refine q_getR (f := 0) cl_X12 (by decide) qw_1117 rfl dX12_findNames_172 (fun _ _ _ => rfl) (fun v72 h73 => ?_)
      refine q_sipush (x := (1300 : Int32)) dX12_findNames_175 rfl ?_
      refine q_bipush (x := (7 : Int32)) dX12_findNames_178 rfl ?_
      refine q_iload_n 3 dX12_findNames_180 rfl ?_
      refine q_imul dX12_findNames_181 ?_
      refine q_iadd dX12_findNames_182 ?_
      refine q_iald dX12_findNames_183 (fun v74 h75 => ?_)
      refine q_iload_n 1 dX12_findNames_184 rfl ?_
      refine q_icmp_ne (tgt := 224) dX12_findNames_185 (by decide) (fun c90 => ?_) (fun c90 => ?_)
      · refine q_aload_n 0 dX12_findNames_188 rfl ?_
        refine q_getR (f := 0) cl_X12 (by decide) qw_1117 rfl dX12_findNames_189 (fun _ _ _ => rfl) (fun v76 h77 => ?_)
        refine q_sipush (x := (1300 : Int32)) dX12_findNames_192 rfl ?_
        refine q_bipush (x := (7 : Int32)) dX12_findNames_195 rfl ?_
        refine q_iload_n 3 dX12_findNames_197 rfl ?_
        refine q_imul dX12_findNames_198 ?_
        refine q_iadd dX12_findNames_199 ?_
        refine q_iconst (x := (1 : Int32)) dX12_findNames_200 rfl ?_
        refine q_iadd dX12_findNames_201 ?_
        refine q_iald dX12_findNames_202 (fun v78 h79 => ?_)
        refine q_bipush (x := (7 : Int32)) dX12_findNames_203 rfl ?_
        refine q_idiv dX12_findNames_205 (fun v80 h81 => ?_)
        refine q_iload_n 2 dX12_findNames_206 rfl ?_
        refine q_icmp_ne (tgt := 224) dX12_findNames_207 (by decide) (fun c89 => ?_) (fun c89 => ?_)
        · refine q_aload_n 0 dX12_findNames_210 rfl ?_
          refine q_getR (f := 3) cl_X12 (by decide) qw_1120 rfl dX12_findNames_211 (fun _ _ _ => rfl) (fun v82 h83 => ?_)
          refine q_iload_n 3 dX12_findNames_214 rfl ?_
          refine q_iald dX12_findNames_215 (fun v84 h85 => ?_)
          refine q_iconst (x := (-1 : Int32)) dX12_findNames_216 rfl ?_
          refine q_icmp_eq (tgt := 224) dX12_findNames_217 (by decide) (fun c88 => ?_) (fun c88 => ?_)
          · exact v_X12_findNames_b224 (ih)
          · refine q_lconst (x := (1 : Int64)) dX12_findNames_220 rfl ?_
            refine q_goto (tgt := 225) dX12_findNames_221 (by decide) ?_
            refine q_ladd dX12_findNames_225 ?_
            refine q_last dX12_findNames_226 (fun M86 h87 => ?_)
            refine q_iinc 3 (y := (a3 + (1 : Int32))) (ls' := [(3, .int (a3 + (1 : Int32))), (0, .ref a0), (1, .int a1), (2, .int a2)]) dX12_findNames_227 rfl rfl (by decide) rfl ?_
            refine q_goto (tgt := 154) dX12_findNames_230 (by decide) ?_
            refine q_sub (ls' := [(0, .ref a0), (1, .int a1), (2, .int a2), (3, .int (a3 + (1 : Int32)))]) [1, 2, 3, 0] rfl ?_
            exact ih _ _
        · exact v_X12_findNames_b224 (ih)
      · exact v_X12_findNames_b224 (ih)
    · refine q_sub (ls' := [(0, .ref a0), (1, .int a1), (2, .int a2)]) [0, 1, 2] rfl ?_
      exact v_X12_findNames_b233
set_option maxRecDepth 20000 in
theorem v_X12_findNames_b140 {M : q_Mem} {a0 : Nat} {a1 : Int32} {a2 : Int32}  : q_V Y_X12_findNames none (fun x : q_Mem => (none, x)) 0 0 140 [(0, .ref a0), (1, .int a1), (2, .int a2)] [] M (f_X12_findNames_b140 M a0 a1 a2 ) := by
  unfold f_X12_findNames_b140
  refine q_aload_n 0 dX12_findNames_140 rfl ?_
  refine q_getR (f := 14) cl_X12 (by decide) qw_1130 rfl dX12_findNames_141 (fun _ _ _ => rfl) (fun v56 h57 => ?_)
  refine q_iconst (x := (1 : Int32)) dX12_findNames_144 rfl ?_
  refine q_dup2 dX12_findNames_145 rfl rfl ?_
  refine q_lald dX12_findNames_146 (fun v58 h59 => ?_)
  refine q_ldc2 (x := (100 : Int64)) qw_1446 dX12_findNames_147 ?_
  refine q_ldiv dX12_findNames_150 (fun v60 h61 => ?_)
  refine q_last dX12_findNames_151 (fun M62 h63 => ?_)
  refine q_iconst (x := (0 : Int32)) dX12_findNames_152 rfl ?_
  refine q_istore_n (ls' := [(3, .int (0 : Int32)), (0, .ref a0), (1, .int a1), (2, .int a2)]) dX12_findNames_153 (by decide) rfl ?_
  refine q_sub (ls' := [(0, .ref a0), (1, .int a1), (2, .int a2), (3, .int (0 : Int32))]) [1, 2, 3, 0] rfl ?_
  exact v_X12_findNames_b154 _ _ _
set_option maxRecDepth 20000 in
theorem v_X12_findNames_b23 {a0 : Nat} {a1 : Int32} {a2 : Int32}  : ∀ (n : Nat) (a3 : Int32) (M : q_Mem), q_V Y_X12_findNames none (fun x : q_Mem => (none, x)) 0 0 23 [(0, .ref a0), (1, .int a1), (2, .int a2), (3, .int a3)] [] M (f_X12_findNames_b23 a0 a1 a2 n a3 M) := by
  intro n
  induction n with
  | zero => intro a3 M; exact q_none
  | succ n ih =>
    intro a3 M
    rw [f_X12_findNames_b23.eq_2]
    refine q_iload_n 3 dX12_findNames_23 rfl ?_
    refine q_aload_n 0 dX12_findNames_24 rfl ?_
    refine q_getR (f := 0) cl_X12 (by decide) qw_1117 rfl dX12_findNames_25 (fun _ _ _ => rfl) (fun v6 h7 => ?_)
    refine q_iconst (x := (1 : Int32)) dX12_findNames_28 rfl ?_
    refine q_iald dX12_findNames_29 (fun v8 h9 => ?_)
    refine q_icmp_ge (tgt := 140) dX12_findNames_30 (by decide) (fun c55 => ?_) (fun c55 => ?_)
    · refine q_aload_n 0 dX12_findNames_33 rfl ?_
      refine q_iload_n 3 dX12_findNames_34 rfl ?_
      refine q_iload_n 1 dX12_findNames_35 rfl ?_
      refine q_iload_n 2 dX12_findNames_36 rfl ?_
      refine q_cVI (Y2 := Y_X12_isIn) (As := [.int a3, .int a1, .int a2]) (b := a0) (st := []) cl_X12 mv_X12_isIn qw_1442 dX12_findNames_37 ⟨Nat.le_of_ble_eq_true rfl, Nat.le_of_ble_eq_true rfl⟩ rfl (fun _ _ => rfl) (Nat.le_of_ble_eq_true rfl) ⟨Nat.le_of_ble_eq_true rfl, Nat.le_of_ble_eq_true rfl⟩ (fun v11 h10 => q_ob_is h10) (fun v11 h10 => m_X12_isIn h10) (fun v11 h10 => ?_)
      refine q_if_eq (tgt := 134) dX12_findNames_40 (by decide) (fun c54 => ?_) (fun c54 => ?_)
      · refine q_iinc 3 (y := (a3 + (1 : Int32))) (ls' := [(3, .int (a3 + (1 : Int32))), (0, .ref a0), (1, .int a1), (2, .int a2)]) dX12_findNames_134 rfl rfl (by decide) rfl ?_
        refine q_goto (tgt := 23) dX12_findNames_137 (by decide) ?_
        refine q_sub (ls' := [(0, .ref a0), (1, .int a1), (2, .int a2), (3, .int (a3 + (1 : Int32)))]) [1, 2, 3, 0] rfl ?_
        exact ih _ _
      · refine q_bipush (x := (100 : Int32)) dX12_findNames_43 rfl ?_
        refine q_iconst (x := (4 : Int32)) dX12_findNames_45 rfl ?_
        refine q_iload_n 3 dX12_findNames_46 rfl ?_
        refine q_imul dX12_findNames_47 ?_
        refine q_iadd dX12_findNames_48 ?_
        refine q_istore (ls' := [(4, .int ((100 : Int32) + ((4 : Int32) * a3))), (0, .ref a0), (1, .int a1), (2, .int a2), (3, .int a3)]) dX12_findNames_49 (by decide) rfl ?_
        refine q_aload_n 1 dX12_findNames_51 rfl ?_
        refine q_getR (f := 14) cl_X12 (by decide) qw_1130 rfl dX12_findNames_52 (fun _ _ _ => rfl) (fun v12 h13 => ?_)
        refine q_iconst (x := (0 : Int32)) dX12_findNames_55 rfl ?_
        refine q_dup2 dX12_findNames_56 rfl rfl ?_
        refine q_lald dX12_findNames_57 (fun v14 h15 => ?_)
        refine q_aload_n 1 dX12_findNames_58 rfl ?_
        refine q_getR (f := 0) cl_X12 (by decide) qw_1117 rfl dX12_findNames_59 (fun _ _ _ => rfl) (fun v16 h17 => ?_)
        refine q_iload 0 dX12_findNames_62 rfl ?_
        refine q_iconst (x := (2 : Int32)) dX12_findNames_64 rfl ?_
        refine q_iadd dX12_findNames_65 ?_
        refine q_iald dX12_findNames_66 (fun v18 h19 => ?_)
        refine q_i2l dX12_findNames_67 ?_
        refine q_ladd dX12_findNames_68 ?_
        refine q_last dX12_findNames_69 (fun M20 h21 => ?_)
        refine q_aload_n 1 dX12_findNames_70 rfl ?_
        refine q_getR (f := 14) cl_X12 (by decide) qw_1130 rfl dX12_findNames_71 (fun _ _ _ => rfl) (fun v22 h23 => ?_)
        refine q_iconst (x := (1 : Int32)) dX12_findNames_74 rfl ?_
        refine q_dup2 dX12_findNames_75 rfl rfl ?_
        refine q_lald dX12_findNames_76 (fun v24 h25 => ?_)
        refine q_aload_n 1 dX12_findNames_77 rfl ?_
        refine q_iload_n 4 dX12_findNames_78 rfl ?_
        refine q_cVJ (Y2 := Y_X12_fatOf) (As := [.int a3]) (b := a0) (st := [.long v24, .int (1 : Int32), .ref v22]) cl_X12 mv_X12_fatOf qw_1300 dX12_findNames_79 ⟨Nat.le_of_ble_eq_true rfl, Nat.le_of_ble_eq_true rfl⟩ rfl (fun _ _ => rfl) (Nat.le_of_ble_eq_true rfl) ⟨Nat.le_of_ble_eq_true rfl, Nat.le_of_ble_eq_true rfl⟩ (fun v27 h26 => q_ob_is h26) (fun v27 h26 => m_X12_fatOf h26) (fun v27 h26 => ?_)
        refine q_ladd dX12_findNames_82 ?_
        refine q_last dX12_findNames_83 (fun M28 h29 => ?_)
        refine q_aload_n 1 dX12_findNames_84 rfl ?_
        refine q_getR (f := 14) cl_X12 (by decide) qw_1130 rfl dX12_findNames_85 (fun _ _ _ => rfl) (fun v30 h31 => ?_)
        refine q_iconst (x := (2 : Int32)) dX12_findNames_88 rfl ?_
        refine q_dup2 dX12_findNames_89 rfl rfl ?_
        refine q_lald dX12_findNames_90 (fun v32 h33 => ?_)
        refine q_lconst (x := (1 : Int64)) dX12_findNames_91 rfl ?_
        refine q_ladd dX12_findNames_92 ?_
        refine q_last dX12_findNames_93 (fun M34 h35 => ?_)
        refine q_aload_n 1 dX12_findNames_94 rfl ?_
        refine q_getR (f := 14) cl_X12 (by decide) qw_1130 rfl dX12_findNames_95 (fun _ _ _ => rfl) (fun v36 h37 => ?_)
        refine q_iconst (x := (3 : Int32)) dX12_findNames_98 rfl ?_
        refine q_dup2 dX12_findNames_99 rfl rfl ?_
        refine q_lald dX12_findNames_100 (fun v38 h39 => ?_)
        refine q_aload_n 1 dX12_findNames_101 rfl ?_
        refine q_getR (f := 0) cl_X12 (by decide) qw_1117 rfl dX12_findNames_102 (fun _ _ _ => rfl) (fun v40 h41 => ?_)
        refine q_sipush (x := (2700 : Int32)) dX12_findNames_105 rfl ?_
        refine q_iconst (x := (3 : Int32)) dX12_findNames_108 rfl ?_
        refine q_aload_n 1 dX12_findNames_109 rfl ?_
        refine q_getR (f := 0) cl_X12 (by decide) qw_1117 rfl dX12_findNames_110 (fun _ _ _ => rfl) (fun v42 h43 => ?_)
        refine q_iload 0 dX12_findNames_113 rfl ?_
        refine q_iconst (x := (3 : Int32)) dX12_findNames_115 rfl ?_
        refine q_iadd dX12_findNames_116 ?_
        refine q_iald dX12_findNames_117 (fun v44 h45 => ?_)
        refine q_imul dX12_findNames_118 ?_
        refine q_iadd dX12_findNames_119 ?_
        refine q_iald dX12_findNames_120 (fun v46 h47 => ?_)
        refine q_aload_n 1 dX12_findNames_121 rfl ?_
        refine q_getR (f := 0) cl_X12 (by decide) qw_1117 rfl dX12_findNames_122 (fun _ _ _ => rfl) (fun v48 h49 => ?_)
        refine q_iload 0 dX12_findNames_125 rfl ?_
        refine q_iconst (x := (1 : Int32)) dX12_findNames_127 rfl ?_
        refine q_iadd dX12_findNames_128 ?_
        refine q_iald dX12_findNames_129 (fun v50 h51 => ?_)
        refine q_isub dX12_findNames_130 ?_
        refine q_i2l dX12_findNames_131 ?_
        refine q_ladd dX12_findNames_132 ?_
        refine q_last dX12_findNames_133 (fun M52 h53 => ?_)
        refine q_iinc 4 (y := (a3 + (1 : Int32))) (ls' := [(3, .int (a3 + (1 : Int32))), (4, .int ((100 : Int32) + ((4 : Int32) * a3))), (0, .ref a0), (1, .int a1), (2, .int a2)]) dX12_findNames_134 rfl rfl (by decide) rfl ?_
        refine q_goto (tgt := 23) dX12_findNames_137 (by decide) ?_
        refine q_sub (ls' := [(0, .ref a0), (1, .int a1), (2, .int a2), (3, .int (a3 + (1 : Int32)))]) [2, 3, 4, 0] rfl ?_
        exact ih _ _
    · refine q_sub (ls' := [(0, .ref a0), (1, .int a1), (2, .int a2)]) [0, 1, 2] rfl ?_
      exact v_X12_findNames_b140
set_option maxRecDepth 20000 in
theorem v_X12_findNames_b2 {a0 : Nat} {a1 : Int32} {a2 : Int32}  : ∀ (n : Nat) (a3 : Int32) (M : q_Mem), q_V Y_X12_findNames none (fun x : q_Mem => (none, x)) 0 0 2 [(0, .ref a0), (1, .int a1), (2, .int a2), (3, .int a3)] [] M (f_X12_findNames_b2 a0 a1 a2 n a3 M) := by
  intro n
  induction n with
  | zero => intro a3 M; exact q_none
  | succ n ih =>
    intro a3 M
    rw [f_X12_findNames_b2.eq_2]
    refine q_iload_n 3 dX12_findNames_2 rfl ?_
    refine q_bipush (x := (8 : Int32)) dX12_findNames_3 rfl ?_
    refine q_icmp_ge (tgt := 21) dX12_findNames_5 (by decide) (fun c5 => ?_) (fun c5 => ?_)
    · refine q_aload_n 0 dX12_findNames_8 rfl ?_
      refine q_getR (f := 14) cl_X12 (by decide) qw_1130 rfl dX12_findNames_9 (fun _ _ _ => rfl) (fun v1 h2 => ?_)
      refine q_iload_n 3 dX12_findNames_12 rfl ?_
      refine q_lconst (x := (0 : Int64)) dX12_findNames_13 rfl ?_
      refine q_last dX12_findNames_14 (fun M3 h4 => ?_)
      refine q_iinc 3 (y := (a3 + (1 : Int32))) (ls' := [(3, .int (a3 + (1 : Int32))), (0, .ref a0), (1, .int a1), (2, .int a2)]) dX12_findNames_15 rfl rfl (by decide) rfl ?_
      refine q_goto (tgt := 2) dX12_findNames_18 (by decide) ?_
      refine q_sub (ls' := [(0, .ref a0), (1, .int a1), (2, .int a2), (3, .int (a3 + (1 : Int32)))]) [1, 2, 3, 0] rfl ?_
      exact ih _ _
    · refine q_iconst (x := (0 : Int32)) dX12_findNames_21 rfl ?_
      refine q_istore_n (ls' := [(3, .int (0 : Int32)), (0, .ref a0), (1, .int a1), (2, .int a2)]) dX12_findNames_22 (by decide) rfl ?_
      refine q_sub (ls' := [(0, .ref a0), (1, .int a1), (2, .int a2), (3, .int (0 : Int32))]) [1, 2, 3, 0] rfl ?_
      exact v_X12_findNames_b23 _ _ _
set_option maxRecDepth 20000 in
theorem m_X12_findNames {M : q_Mem} {a0 : Nat} {a1 : Int32} {a2 : Int32} {x : q_Mem} (h : f_X12_findNames M a0 a1 a2 = some x) : q_C Y_X12_findNames [.ref a0, .int a1, .int a2] M none x := by
  refine q_met (φ := (fun x : q_Mem => (none, x))) (r := f_X12_findNames M a0 a1 a2) (by decide +kernel) (Nat.le_of_ble_eq_true rfl) ?_ h (fun _ _ => rfl)
  show q_V Y_X12_findNames none (fun x : q_Mem => (none, x)) 0 0 0 [(0, .ref a0), (1, .int a1), (2, .int a2)] [] M (f_X12_findNames M a0 a1 a2)
  unfold f_X12_findNames
  refine q_obV ?_
  refine q_iconst (x := (0 : Int32)) dX12_findNames_0 rfl ?_
  refine q_istore_n (ls' := [(3, .int (0 : Int32)), (0, .ref a0), (1, .int a1), (2, .int a2)]) dX12_findNames_1 (by decide) rfl ?_
  refine q_sub (ls' := [(0, .ref a0), (1, .int a1), (2, .int a2), (3, .int (0 : Int32))]) [1, 2, 3, 0] rfl ?_
  exact v_X12_findNames_b2 _ _ _
theorem dX12_puts_0 : decode cX12_puts 0 = .ok (.aload_n 0, 1) := by decide +kernel
theorem dX12_puts_1 : decode cX12_puts 1 = .ok (.getfield 48, 3) := by decide +kernel
theorem dX12_puts_4 : decode cX12_puts 4 = .ok (.aload_n 0, 1) := by decide +kernel
theorem dX12_puts_5 : decode cX12_puts 5 = .ok (.getfield 216, 3) := by decide +kernel
theorem dX12_puts_8 : decode cX12_puts 8 = .ok (.lload_n 1, 1) := by decide +kernel
theorem dX12_puts_9 : decode cX12_puts 9 = .ok (.lastore, 1) := by decide +kernel
theorem dX12_puts_10 : decode cX12_puts 10 = .ok (.aload_n 0, 1) := by decide +kernel
theorem dX12_puts_11 : decode cX12_puts 11 = .ok (.getfield 51, 3) := by decide +kernel
theorem dX12_puts_14 : decode cX12_puts 14 = .ok (.aload_n 0, 1) := by decide +kernel
theorem dX12_puts_15 : decode cX12_puts 15 = .ok (.getfield 216, 3) := by decide +kernel
theorem dX12_puts_18 : decode cX12_puts 18 = .ok (.iload_n 3, 1) := by decide +kernel
theorem dX12_puts_19 : decode cX12_puts 19 = .ok (.bastore, 1) := by decide +kernel
theorem dX12_puts_20 : decode cX12_puts 20 = .ok (.aload_n 0, 1) := by decide +kernel
theorem dX12_puts_21 : decode cX12_puts 21 = .ok (.dup, 1) := by decide +kernel
theorem dX12_puts_22 : decode cX12_puts 22 = .ok (.getfield 216, 3) := by decide +kernel
theorem dX12_puts_25 : decode cX12_puts 25 = .ok (.iconst 1, 1) := by decide +kernel
theorem dX12_puts_26 : decode cX12_puts 26 = .ok (.iadd, 1) := by decide +kernel
theorem dX12_puts_27 : decode cX12_puts 27 = .ok (.putfield 216, 3) := by decide +kernel
theorem dX12_puts_30 : decode cX12_puts 30 = .ok (.return_, 1) := by decide +kernel
def f_X12_puts (M : q_Mem) (a0 : Nat) (a1 : Int64) (a3 : Int32) : Option q_Mem :=
  q_ob 11 M a0 ((q_gR 11 16 M a0).bind fun v1 =>
  (q_gI 11 18 M a0).bind fun v3 =>
  (q_tJ M v1 v3 a1).bind fun M5 =>
  (q_gR 11 17 M5 a0).bind fun v7 =>
  (q_gI 11 18 M5 a0).bind fun v9 =>
  (q_tZ M5 v7 v9 a3).bind fun M11 =>
  (q_gI 11 18 M11 a0).bind fun v13 =>
  (q_pI 11 18 M11 a0 (v13 + (1 : Int32))).bind fun M15 =>
  some M15)
set_option maxRecDepth 20000 in
theorem m_X12_puts {M : q_Mem} {a0 : Nat} {a1 : Int64} {a3 : Int32} {x : q_Mem} (h : f_X12_puts M a0 a1 a3 = some x) : q_C Y_X12_puts [.ref a0, .long a1, .int a3] M none x := by
  refine q_met (φ := (fun x : q_Mem => (none, x))) (r := f_X12_puts M a0 a1 a3) (by decide +kernel) (Nat.le_of_ble_eq_true rfl) ?_ h (fun _ _ => rfl)
  show q_V Y_X12_puts none (fun x : q_Mem => (none, x)) 0 0 0 [(0, .ref a0), (1, .long a1), (3, .int a3)] [] M (f_X12_puts M a0 a1 a3)
  unfold f_X12_puts
  refine q_obV ?_
  refine q_aload_n 0 dX12_puts_0 rfl ?_
  refine q_getR (f := 16) cl_X12 (by decide) qw_1132 rfl dX12_puts_1 (fun _ _ _ => rfl) (fun v1 h2 => ?_)
  refine q_aload_n 0 dX12_puts_4 rfl ?_
  refine q_getI (f := 18) cl_X12 (by decide) qw_1134 rfl dX12_puts_5 (Or.inl rfl) (fun v3 h4 => ?_)
  refine q_lload_n 1 dX12_puts_8 rfl ?_
  refine q_last dX12_puts_9 (fun M5 h6 => ?_)
  refine q_aload_n 0 dX12_puts_10 rfl ?_
  refine q_getR (f := 17) cl_X12 (by decide) qw_1133 rfl dX12_puts_11 (fun _ _ _ => rfl) (fun v7 h8 => ?_)
  refine q_aload_n 0 dX12_puts_14 rfl ?_
  refine q_getI (f := 18) cl_X12 (by decide) qw_1134 rfl dX12_puts_15 (Or.inl rfl) (fun v9 h10 => ?_)
  refine q_iload_n 2 dX12_puts_18 rfl ?_
  refine q_zast dX12_puts_19 (fun M11 h12 => ?_)
  refine q_aload_n 0 dX12_puts_20 rfl ?_
  refine q_dup dX12_puts_21 rfl ?_
  refine q_getI (f := 18) cl_X12 (by decide) qw_1134 rfl dX12_puts_22 (Or.inl rfl) (fun v13 h14 => ?_)
  refine q_iconst (x := (1 : Int32)) dX12_puts_25 rfl ?_
  refine q_iadd dX12_puts_26 ?_
  refine q_putI (f := 18) cl_X12 (by decide) qw_1134 rfl (Or.inl rfl) dX12_puts_27 rfl (fun M15 h16 => ?_)
  exact q_vret dX12_puts_30 rfl rfl (Nat.le_of_ble_eq_true rfl) rfl
theorem dX12_twoOf_0 : decode cX12_twoOf 0 = .ok (.iload_n 0, 1) := by decide +kernel
theorem dX12_twoOf_1 : decode cX12_twoOf 1 = .ok (.tableswitch 79 4 9 #[39, 43, 47, 51, 55, 67], 39) := by decide +kernel
theorem dX12_twoOf_40 : decode cX12_twoOf 40 = .ok (.lload_n 1, 1) := by decide +kernel
theorem dX12_twoOf_41 : decode cX12_twoOf 41 = .ok (.lload_n 3, 1) := by decide +kernel
theorem dX12_twoOf_42 : decode cX12_twoOf 42 = .ok (.lmul, 1) := by decide +kernel
theorem dX12_twoOf_43 : decode cX12_twoOf 43 = .ok (.lreturn, 1) := by decide +kernel
theorem dX12_twoOf_44 : decode cX12_twoOf 44 = .ok (.lload_n 1, 1) := by decide +kernel
theorem dX12_twoOf_45 : decode cX12_twoOf 45 = .ok (.lload_n 3, 1) := by decide +kernel
theorem dX12_twoOf_46 : decode cX12_twoOf 46 = .ok (.ldiv, 1) := by decide +kernel
theorem dX12_twoOf_47 : decode cX12_twoOf 47 = .ok (.lreturn, 1) := by decide +kernel
theorem dX12_twoOf_48 : decode cX12_twoOf 48 = .ok (.lload_n 1, 1) := by decide +kernel
theorem dX12_twoOf_49 : decode cX12_twoOf 49 = .ok (.lload_n 3, 1) := by decide +kernel
theorem dX12_twoOf_50 : decode cX12_twoOf 50 = .ok (.ladd, 1) := by decide +kernel
theorem dX12_twoOf_51 : decode cX12_twoOf 51 = .ok (.lreturn, 1) := by decide +kernel
theorem dX12_twoOf_52 : decode cX12_twoOf 52 = .ok (.lload_n 1, 1) := by decide +kernel
theorem dX12_twoOf_53 : decode cX12_twoOf 53 = .ok (.lload_n 3, 1) := by decide +kernel
theorem dX12_twoOf_54 : decode cX12_twoOf 54 = .ok (.lsub, 1) := by decide +kernel
theorem dX12_twoOf_55 : decode cX12_twoOf 55 = .ok (.lreturn, 1) := by decide +kernel
theorem dX12_twoOf_56 : decode cX12_twoOf 56 = .ok (.lload_n 1, 1) := by decide +kernel
theorem dX12_twoOf_57 : decode cX12_twoOf 57 = .ok (.lload_n 3, 1) := by decide +kernel
theorem dX12_twoOf_58 : decode cX12_twoOf 58 = .ok (.lcmp, 1) := by decide +kernel
theorem dX12_twoOf_59 : decode cX12_twoOf 59 = .ok (.ifCond .ge 7, 3) := by decide +kernel
theorem dX12_twoOf_62 : decode cX12_twoOf 62 = .ok (.lconst 1, 1) := by decide +kernel
theorem dX12_twoOf_63 : decode cX12_twoOf 63 = .ok (.goto 4, 3) := by decide +kernel
theorem dX12_twoOf_66 : decode cX12_twoOf 66 = .ok (.lconst 0, 1) := by decide +kernel
theorem dX12_twoOf_67 : decode cX12_twoOf 67 = .ok (.lreturn, 1) := by decide +kernel
theorem dX12_twoOf_68 : decode cX12_twoOf 68 = .ok (.lload_n 1, 1) := by decide +kernel
theorem dX12_twoOf_69 : decode cX12_twoOf 69 = .ok (.lload_n 3, 1) := by decide +kernel
theorem dX12_twoOf_70 : decode cX12_twoOf 70 = .ok (.lcmp, 1) := by decide +kernel
theorem dX12_twoOf_71 : decode cX12_twoOf 71 = .ok (.ifCond .le 7, 3) := by decide +kernel
theorem dX12_twoOf_74 : decode cX12_twoOf 74 = .ok (.lconst 1, 1) := by decide +kernel
theorem dX12_twoOf_75 : decode cX12_twoOf 75 = .ok (.goto 4, 3) := by decide +kernel
theorem dX12_twoOf_78 : decode cX12_twoOf 78 = .ok (.lconst 0, 1) := by decide +kernel
theorem dX12_twoOf_79 : decode cX12_twoOf 79 = .ok (.lreturn, 1) := by decide +kernel
theorem dX12_twoOf_80 : decode cX12_twoOf 80 = .ok (.lload_n 1, 1) := by decide +kernel
theorem dX12_twoOf_81 : decode cX12_twoOf 81 = .ok (.lload_n 3, 1) := by decide +kernel
theorem dX12_twoOf_82 : decode cX12_twoOf 82 = .ok (.lcmp, 1) := by decide +kernel
theorem dX12_twoOf_83 : decode cX12_twoOf 83 = .ok (.ifCond .ne 7, 3) := by decide +kernel
theorem dX12_twoOf_86 : decode cX12_twoOf 86 = .ok (.lconst 1, 1) := by decide +kernel
theorem dX12_twoOf_87 : decode cX12_twoOf 87 = .ok (.goto 4, 3) := by decide +kernel
theorem dX12_twoOf_90 : decode cX12_twoOf 90 = .ok (.lconst 0, 1) := by decide +kernel
theorem dX12_twoOf_91 : decode cX12_twoOf 91 = .ok (.lreturn, 1) := by decide +kernel
def f_X12_twoOf (M : q_Mem) (a0 : Int32) (a1 : Int64) (a3 : Int64) : Option Int64 :=
  (if a0 < 4 then
    (if a1 = a3 then
      some (1 : Int64)
    else
      some (0 : Int64))
  else
   (if a0 = 4 then
    some (a1 * a3)
   else
   (if a0 = 5 then
    (q_ldv a1 a3).bind fun v6 =>
    some v6
   else
   (if a0 = 6 then
    some (a1 + a3)
   else
   (if a0 = 7 then
    some (a1 - a3)
   else
   (if a0 = 8 then
    (if a1 < a3 then
      some (1 : Int64)
    else
      some (0 : Int64))
   else
   (if a0 = 9 then
    (if a3 < a1 then
      some (1 : Int64)
    else
      some (0 : Int64))
   else
   (if a1 = a3 then
    some (1 : Int64)
  else
    some (0 : Int64)))))))))
set_option maxRecDepth 20000 in
theorem m_X12_twoOf {M : q_Mem} {a0 : Int32} {a1 : Int64} {a3 : Int64} {x : Int64} (h : f_X12_twoOf M a0 a1 a3 = some x) : q_C Y_X12_twoOf [.int a0, .long a1, .long a3] M (some (.long x)) M := by
  refine q_met (φ := (fun x : Int64 => (some (.long x), M))) (r := f_X12_twoOf M a0 a1 a3) (by decide +kernel) (Nat.le_of_ble_eq_true rfl) ?_ h (fun _ _ => rfl)
  show q_V Y_X12_twoOf none (fun x : Int64 => (some (.long x), M)) 0 0 0 [(0, .int a0), (1, .long a1), (3, .long a3)] [] M (f_X12_twoOf M a0 a1 a3)
  unfold f_X12_twoOf
  refine q_iload_n 0 dX12_twoOf_0 rfl ?_
  refine q_ifV (fun c2 => ?_) (fun c2 => ?_)
  · refine q_tabOut (tgt := 80) dX12_twoOf_1 (Or.inl (q_lt c2 rfl)) (by decide) ?_
    refine q_lload_n 1 dX12_twoOf_80 rfl ?_
    refine q_lload_n 2 dX12_twoOf_81 rfl ?_
    refine q_lcmp_ne (tgt := 90) dX12_twoOf_82 dX12_twoOf_83 (by decide) (fun c1 => ?_) (fun c1 => ?_)
    · refine q_lconst (x := (1 : Int64)) dX12_twoOf_86 rfl ?_
      refine q_goto (tgt := 91) dX12_twoOf_87 (by decide) ?_
      exact q_lret dX12_twoOf_91 rfl rfl (Nat.le_of_ble_eq_true rfl) rfl
    · refine q_lconst (x := (0 : Int64)) dX12_twoOf_90 rfl ?_
      exact q_lret dX12_twoOf_91 rfl rfl (Nat.le_of_ble_eq_true rfl) rfl
  · have b3 := q_nlt (b := 4) c2 rfl
    refine q_ifV (fun c4 => ?_) (fun c4 => ?_)
    · refine q_tabIn (tgt := 40) 4 dX12_twoOf_1 c4 (by decide) (by decide) rfl (by decide) ?_
      refine q_lload_n 1 dX12_twoOf_40 rfl ?_
      refine q_lload_n 2 dX12_twoOf_41 rfl ?_
      refine q_lmul dX12_twoOf_42 ?_
      exact q_lret dX12_twoOf_43 rfl rfl (Nat.le_of_ble_eq_true rfl) rfl
    · have b5 := q_step (c := 5) b3 c4 rfl (by decide)
      refine q_ifV (fun c8 => ?_) (fun c8 => ?_)
      · refine q_tabIn (tgt := 44) 5 dX12_twoOf_1 c8 (by decide) (by decide) rfl (by decide) ?_
        refine q_lload_n 1 dX12_twoOf_44 rfl ?_
        refine q_lload_n 2 dX12_twoOf_45 rfl ?_
        refine q_ldiv dX12_twoOf_46 (fun v6 h7 => ?_)
        exact q_lret dX12_twoOf_47 rfl rfl (Nat.le_of_ble_eq_true rfl) rfl
      · have b9 := q_step (c := 6) b5 c8 rfl (by decide)
        refine q_ifV (fun c10 => ?_) (fun c10 => ?_)
        · refine q_tabIn (tgt := 48) 6 dX12_twoOf_1 c10 (by decide) (by decide) rfl (by decide) ?_
          refine q_lload_n 1 dX12_twoOf_48 rfl ?_
          refine q_lload_n 2 dX12_twoOf_49 rfl ?_
          refine q_ladd dX12_twoOf_50 ?_
          exact q_lret dX12_twoOf_51 rfl rfl (Nat.le_of_ble_eq_true rfl) rfl
        · have b11 := q_step (c := 7) b9 c10 rfl (by decide)
          refine q_ifV (fun c12 => ?_) (fun c12 => ?_)
          · refine q_tabIn (tgt := 52) 7 dX12_twoOf_1 c12 (by decide) (by decide) rfl (by decide) ?_
            refine q_lload_n 1 dX12_twoOf_52 rfl ?_
            refine q_lload_n 2 dX12_twoOf_53 rfl ?_
            refine q_lsub dX12_twoOf_54 ?_
            exact q_lret dX12_twoOf_55 rfl rfl (Nat.le_of_ble_eq_true rfl) rfl
          · have b13 := q_step (c := 8) b11 c12 rfl (by decide)
            refine q_ifV (fun c15 => ?_) (fun c15 => ?_)
            · refine q_tabIn (tgt := 56) 8 dX12_twoOf_1 c15 (by decide) (by decide) rfl (by decide) ?_
              refine q_lload_n 1 dX12_twoOf_56 rfl ?_
              refine q_lload_n 2 dX12_twoOf_57 rfl ?_
              refine q_lcmp_ge (tgt := 66) dX12_twoOf_58 dX12_twoOf_59 (by decide) (fun c14 => ?_) (fun c14 => ?_)
              · refine q_lconst (x := (1 : Int64)) dX12_twoOf_62 rfl ?_
                refine q_goto (tgt := 67) dX12_twoOf_63 (by decide) ?_
                exact q_lret dX12_twoOf_67 rfl rfl (Nat.le_of_ble_eq_true rfl) rfl
              · refine q_lconst (x := (0 : Int64)) dX12_twoOf_66 rfl ?_
                exact q_lret dX12_twoOf_67 rfl rfl (Nat.le_of_ble_eq_true rfl) rfl
            · have b16 := q_step (c := 9) b13 c15 rfl (by decide)
              refine q_ifV (fun c18 => ?_) (fun c18 => ?_)
              · refine q_tabIn (tgt := 68) 9 dX12_twoOf_1 c18 (by decide) (by decide) rfl (by decide) ?_
                refine q_lload_n 1 dX12_twoOf_68 rfl ?_
                refine q_lload_n 2 dX12_twoOf_69 rfl ?_
                refine q_lcmp_le (tgt := 78) dX12_twoOf_70 dX12_twoOf_71 (by decide) (fun c17 => ?_) (fun c17 => ?_)
                · refine q_lconst (x := (1 : Int64)) dX12_twoOf_74 rfl ?_
                  refine q_goto (tgt := 79) dX12_twoOf_75 (by decide) ?_
                  exact q_lret dX12_twoOf_79 rfl rfl (Nat.le_of_ble_eq_true rfl) rfl
                · refine q_lconst (x := (0 : Int64)) dX12_twoOf_78 rfl ?_
                  exact q_lret dX12_twoOf_79 rfl rfl (Nat.le_of_ble_eq_true rfl) rfl
              · have b19 := q_step (c := 10) b16 c18 rfl (by decide)
                refine q_tabOut (tgt := 80) dX12_twoOf_1 (Or.inr (Int.lt_of_lt_of_le (by decide) b19)) (by decide) ?_
                refine q_lload_n 1 dX12_twoOf_80 rfl ?_
                refine q_lload_n 2 dX12_twoOf_81 rfl ?_
                refine q_lcmp_ne (tgt := 90) dX12_twoOf_82 dX12_twoOf_83 (by decide) (fun c1 => ?_) (fun c1 => ?_)
                · refine q_lconst (x := (1 : Int64)) dX12_twoOf_86 rfl ?_
                  refine q_goto (tgt := 91) dX12_twoOf_87 (by decide) ?_
                  exact q_lret dX12_twoOf_91 rfl rfl (Nat.le_of_ble_eq_true rfl) rfl
                · refine q_lconst (x := (0 : Int64)) dX12_twoOf_90 rfl ?_
                  exact q_lret dX12_twoOf_91 rfl rfl (Nat.le_of_ble_eq_true rfl) rfl
theorem dX12_works_0 : decode cX12_works 0 = .ok (.aload_n 0, 1) := by decide +kernel
theorem dX12_works_1 : decode cX12_works 1 = .ok (.dup, 1) := by decide +kernel
theorem dX12_works_2 : decode cX12_works 2 = .ok (.getfield 216, 3) := by decide +kernel
theorem dX12_works_5 : decode cX12_works 5 = .ok (.iconst 1, 1) := by decide +kernel
theorem dX12_works_6 : decode cX12_works 6 = .ok (.isub, 1) := by decide +kernel
theorem dX12_works_7 : decode cX12_works 7 = .ok (.putfield 216, 3) := by decide +kernel
theorem dX12_works_10 : decode cX12_works 10 = .ok (.iload_n 1, 1) := by decide +kernel
theorem dX12_works_11 : decode cX12_works 11 = .ok (.iconst 2, 1) := by decide +kernel
theorem dX12_works_12 : decode cX12_works 12 = .ok (.if_icmp .eq 14, 3) := by decide +kernel
theorem dX12_works_15 : decode cX12_works 15 = .ok (.iload_n 1, 1) := by decide +kernel
theorem dX12_works_16 : decode cX12_works 16 = .ok (.iconst 3, 1) := by decide +kernel
theorem dX12_works_17 : decode cX12_works 17 = .ok (.if_icmp .eq 9, 3) := by decide +kernel
theorem dX12_works_20 : decode cX12_works 20 = .ok (.iload_n 1, 1) := by decide +kernel
theorem dX12_works_21 : decode cX12_works 21 = .ok (.bipush 11, 2) := by decide +kernel
theorem dX12_works_23 : decode cX12_works 23 = .ok (.if_icmp .ne 67, 3) := by decide +kernel
theorem dX12_works_26 : decode cX12_works 26 = .ok (.aload_n 0, 1) := by decide +kernel
theorem dX12_works_27 : decode cX12_works 27 = .ok (.getfield 48, 3) := by decide +kernel
theorem dX12_works_30 : decode cX12_works 30 = .ok (.aload_n 0, 1) := by decide +kernel
theorem dX12_works_31 : decode cX12_works 31 = .ok (.getfield 216, 3) := by decide +kernel
theorem dX12_works_34 : decode cX12_works 34 = .ok (.laload, 1) := by decide +kernel
theorem dX12_works_35 : decode cX12_works 35 = .ok (.lstore_n 2, 1) := by decide +kernel
theorem dX12_works_36 : decode cX12_works 36 = .ok (.aload_n 0, 1) := by decide +kernel
theorem dX12_works_37 : decode cX12_works 37 = .ok (.iload_n 1, 1) := by decide +kernel
theorem dX12_works_38 : decode cX12_works 38 = .ok (.iconst 3, 1) := by decide +kernel
theorem dX12_works_39 : decode cX12_works 39 = .ok (.if_icmp .ne 8, 3) := by decide +kernel
theorem dX12_works_42 : decode cX12_works 42 = .ok (.lload_n 2, 1) := by decide +kernel
theorem dX12_works_43 : decode cX12_works 43 = .ok (.lneg, 1) := by decide +kernel
theorem dX12_works_44 : decode cX12_works 44 = .ok (.goto 33, 3) := by decide +kernel
theorem dX12_works_47 : decode cX12_works 47 = .ok (.lload_n 2, 1) := by decide +kernel
theorem dX12_works_48 : decode cX12_works 48 = .ok (.lconst 0, 1) := by decide +kernel
theorem dX12_works_49 : decode cX12_works 49 = .ok (.lcmp, 1) := by decide +kernel
theorem dX12_works_50 : decode cX12_works 50 = .ok (.ifCond .eq 7, 3) := by decide +kernel
theorem dX12_works_53 : decode cX12_works 53 = .ok (.iconst 1, 1) := by decide +kernel
theorem dX12_works_54 : decode cX12_works 54 = .ok (.goto 4, 3) := by decide +kernel
theorem dX12_works_57 : decode cX12_works 57 = .ok (.iconst 0, 1) := by decide +kernel
theorem dX12_works_58 : decode cX12_works 58 = .ok (.iload_n 1, 1) := by decide +kernel
theorem dX12_works_59 : decode cX12_works 59 = .ok (.bipush 11, 2) := by decide +kernel
theorem dX12_works_61 : decode cX12_works 61 = .ok (.if_icmp .ne 7, 3) := by decide +kernel
theorem dX12_works_64 : decode cX12_works 64 = .ok (.iconst 1, 1) := by decide +kernel
theorem dX12_works_65 : decode cX12_works 65 = .ok (.goto 4, 3) := by decide +kernel
theorem dX12_works_68 : decode cX12_works 68 = .ok (.iconst 0, 1) := by decide +kernel
theorem dX12_works_69 : decode cX12_works 69 = .ok (.if_icmp .ne 7, 3) := by decide +kernel
theorem dX12_works_72 : decode cX12_works 72 = .ok (.lconst 1, 1) := by decide +kernel
theorem dX12_works_73 : decode cX12_works 73 = .ok (.goto 4, 3) := by decide +kernel
theorem dX12_works_76 : decode cX12_works 76 = .ok (.lconst 0, 1) := by decide +kernel
theorem dX12_works_77 : decode cX12_works 77 = .ok (.aload_n 0, 1) := by decide +kernel
theorem dX12_works_78 : decode cX12_works 78 = .ok (.getfield 51, 3) := by decide +kernel
theorem dX12_works_81 : decode cX12_works 81 = .ok (.aload_n 0, 1) := by decide +kernel
theorem dX12_works_82 : decode cX12_works 82 = .ok (.getfield 216, 3) := by decide +kernel
theorem dX12_works_85 : decode cX12_works 85 = .ok (.baload, 1) := by decide +kernel
theorem dX12_works_86 : decode cX12_works 86 = .ok (.invokevirtual 219, 3) := by decide +kernel
theorem dX12_works_89 : decode cX12_works 89 = .ok (.return_, 1) := by decide +kernel
theorem dX12_works_90 : decode cX12_works 90 = .ok (.aload_n 0, 1) := by decide +kernel
theorem dX12_works_91 : decode cX12_works 91 = .ok (.getfield 48, 3) := by decide +kernel
theorem dX12_works_94 : decode cX12_works 94 = .ok (.aload_n 0, 1) := by decide +kernel
theorem dX12_works_95 : decode cX12_works 95 = .ok (.getfield 216, 3) := by decide +kernel
theorem dX12_works_98 : decode cX12_works 98 = .ok (.laload, 1) := by decide +kernel
theorem dX12_works_99 : decode cX12_works 99 = .ok (.lstore_n 2, 1) := by decide +kernel
theorem dX12_works_100 : decode cX12_works 100 = .ok (.aload_n 0, 1) := by decide +kernel
theorem dX12_works_101 : decode cX12_works 101 = .ok (.getfield 51, 3) := by decide +kernel
theorem dX12_works_104 : decode cX12_works 104 = .ok (.aload_n 0, 1) := by decide +kernel
theorem dX12_works_105 : decode cX12_works 105 = .ok (.getfield 216, 3) := by decide +kernel
theorem dX12_works_108 : decode cX12_works 108 = .ok (.baload, 1) := by decide +kernel
theorem dX12_works_109 : decode cX12_works 109 = .ok (.ifCond .ne 28, 3) := by decide +kernel
theorem dX12_works_112 : decode cX12_works 112 = .ok (.aload_n 0, 1) := by decide +kernel
theorem dX12_works_113 : decode cX12_works 113 = .ok (.getfield 51, 3) := by decide +kernel
theorem dX12_works_116 : decode cX12_works 116 = .ok (.aload_n 0, 1) := by decide +kernel
theorem dX12_works_117 : decode cX12_works 117 = .ok (.getfield 216, 3) := by decide +kernel
theorem dX12_works_120 : decode cX12_works 120 = .ok (.iconst 1, 1) := by decide +kernel
theorem dX12_works_121 : decode cX12_works 121 = .ok (.isub, 1) := by decide +kernel
theorem dX12_works_122 : decode cX12_works 122 = .ok (.baload, 1) := by decide +kernel
theorem dX12_works_123 : decode cX12_works 123 = .ok (.ifCond .ne 14, 3) := by decide +kernel
theorem dX12_works_126 : decode cX12_works 126 = .ok (.iload_n 1, 1) := by decide +kernel
theorem dX12_works_127 : decode cX12_works 127 = .ok (.iconst 5, 1) := by decide +kernel
theorem dX12_works_128 : decode cX12_works 128 = .ok (.if_icmp .ne 13, 3) := by decide +kernel
theorem dX12_works_131 : decode cX12_works 131 = .ok (.lload_n 2, 1) := by decide +kernel
theorem dX12_works_132 : decode cX12_works 132 = .ok (.lconst 0, 1) := by decide +kernel
theorem dX12_works_133 : decode cX12_works 133 = .ok (.lcmp, 1) := by decide +kernel
theorem dX12_works_134 : decode cX12_works 134 = .ok (.ifCond .ne 7, 3) := by decide +kernel
theorem dX12_works_137 : decode cX12_works 137 = .ok (.iconst 1, 1) := by decide +kernel
theorem dX12_works_138 : decode cX12_works 138 = .ok (.goto 4, 3) := by decide +kernel
theorem dX12_works_141 : decode cX12_works 141 = .ok (.iconst 0, 1) := by decide +kernel
theorem dX12_works_142 : decode cX12_works 142 = .ok (.istore 4, 2) := by decide +kernel
theorem dX12_works_144 : decode cX12_works 144 = .ok (.aload_n 0, 1) := by decide +kernel
theorem dX12_works_145 : decode cX12_works 145 = .ok (.dup, 1) := by decide +kernel
theorem dX12_works_146 : decode cX12_works 146 = .ok (.getfield 216, 3) := by decide +kernel
theorem dX12_works_149 : decode cX12_works 149 = .ok (.iconst 1, 1) := by decide +kernel
theorem dX12_works_150 : decode cX12_works 150 = .ok (.isub, 1) := by decide +kernel
theorem dX12_works_151 : decode cX12_works 151 = .ok (.putfield 216, 3) := by decide +kernel
theorem dX12_works_154 : decode cX12_works 154 = .ok (.aload_n 0, 1) := by decide +kernel
theorem dX12_works_155 : decode cX12_works 155 = .ok (.getfield 48, 3) := by decide +kernel
theorem dX12_works_158 : decode cX12_works 158 = .ok (.aload_n 0, 1) := by decide +kernel
theorem dX12_works_159 : decode cX12_works 159 = .ok (.getfield 216, 3) := by decide +kernel
theorem dX12_works_162 : decode cX12_works 162 = .ok (.laload, 1) := by decide +kernel
theorem dX12_works_163 : decode cX12_works 163 = .ok (.lstore 5, 2) := by decide +kernel
theorem dX12_works_165 : decode cX12_works 165 = .ok (.aload_n 0, 1) := by decide +kernel
theorem dX12_works_166 : decode cX12_works 166 = .ok (.iload 4, 2) := by decide +kernel
theorem dX12_works_168 : decode cX12_works 168 = .ok (.ifCond .eq 7, 3) := by decide +kernel
theorem dX12_works_171 : decode cX12_works 171 = .ok (.lconst 0, 1) := by decide +kernel
theorem dX12_works_172 : decode cX12_works 172 = .ok (.goto 10, 3) := by decide +kernel
theorem dX12_works_175 : decode cX12_works 175 = .ok (.iload_n 1, 1) := by decide +kernel
theorem dX12_works_176 : decode cX12_works 176 = .ok (.lload 5, 2) := by decide +kernel
theorem dX12_works_178 : decode cX12_works 178 = .ok (.lload_n 2, 1) := by decide +kernel
theorem dX12_works_179 : decode cX12_works 179 = .ok (.invokestatic 223, 3) := by decide +kernel
theorem dX12_works_182 : decode cX12_works 182 = .ok (.iload 4, 2) := by decide +kernel
theorem dX12_works_184 : decode cX12_works 184 = .ok (.invokevirtual 219, 3) := by decide +kernel
theorem dX12_works_187 : decode cX12_works 187 = .ok (.return_, 1) := by decide +kernel
def f_X12_works_b142 (M : q_Mem) (a0 : Nat) (a1 : Int32) (a2 : Int64) (s0 : Int32) : Option q_Mem :=
  (q_gI 11 18 M a0).bind fun v38 =>
  (q_pI 11 18 M a0 (v38 - (1 : Int32))).bind fun M40 =>
  (q_gR 11 16 M40 a0).bind fun v42 =>
  (q_gI 11 18 M40 a0).bind fun v44 =>
  (q_lJ M40 v42 v44).bind fun v46 =>
  (if s0 = 0 then
    (f_X12_twoOf M40 a1 v46 a2).bind fun v49 =>
    (f_X12_puts M40 a0 v49 s0).bind fun M52 =>
    some M52
  else
    (f_X12_puts M40 a0 (0 : Int64) s0).bind fun M55 =>
    some M55)
def f_X12_works_b77 (M : q_Mem) (a0 : Nat) (s0 : Nat) (s1 : Int64) : Option q_Mem :=
  (q_gR 11 17 M a0).bind fun v57 =>
  (q_gI 11 18 M a0).bind fun v59 =>
  (q_lZ M v57 v59).bind fun v61 =>
  (f_X12_puts M s0 s1 v61).bind fun M65 =>
  some M65
def f_X12_works_b69 (M : q_Mem) (a0 : Nat) (s0 : Nat) (s1 : Int32) (s2 : Int32) : Option q_Mem :=
  (if s1 = s2 then
    f_X12_works_b77 M a0 s0 (1 : Int64)
  else
    f_X12_works_b77 M a0 s0 (0 : Int64))
def f_X12_works_b58 (M : q_Mem) (a0 : Nat) (a1 : Int32) (s0 : Nat) (s1 : Int32) : Option q_Mem :=
  (if a1 = (11 : Int32) then
    f_X12_works_b69 M a0 s0 s1 (1 : Int32)
  else
    f_X12_works_b69 M a0 s0 s1 (0 : Int32))
def f_X12_works_b26 (M : q_Mem) (a0 : Nat) (a1 : Int32) : Option q_Mem :=
  (q_gR 11 16 M a0).bind fun v30 =>
  (q_gI 11 18 M a0).bind fun v32 =>
  (q_lJ M v30 v32).bind fun v34 =>
  (if a1 = (3 : Int32) then
    f_X12_works_b77 M a0 a0 (-v34)
  else
    (if v34 = (0 : Int64) then
      f_X12_works_b58 M a0 a1 a0 (0 : Int32)
    else
      f_X12_works_b58 M a0 a1 a0 (1 : Int32)))
def f_X12_works (M : q_Mem) (a0 : Nat) (a1 : Int32) : Option q_Mem :=
  q_ob 11 M a0 ((q_gI 11 18 M a0).bind fun v1 =>
  (q_pI 11 18 M a0 (v1 - (1 : Int32))).bind fun M3 =>
  (if a1 = (2 : Int32) then
    f_X12_works_b26 M3 a0 a1
  else
    (if a1 = (3 : Int32) then
      f_X12_works_b26 M3 a0 a1
    else
      (if a1 = (11 : Int32) then
        f_X12_works_b26 M3 a0 a1
      else
        (q_gR 11 16 M3 a0).bind fun v5 =>
        (q_gI 11 18 M3 a0).bind fun v7 =>
        (q_lJ M3 v5 v7).bind fun v9 =>
        (q_gR 11 17 M3 a0).bind fun v11 =>
        (q_gI 11 18 M3 a0).bind fun v13 =>
        (q_lZ M3 v11 v13).bind fun v15 =>
        (if v15 = 0 then
          (q_gR 11 17 M3 a0).bind fun v17 =>
          (q_gI 11 18 M3 a0).bind fun v19 =>
          (q_lZ M3 v17 (v19 - (1 : Int32))).bind fun v21 =>
          (if v21 = 0 then
            (if a1 = (5 : Int32) then
              (if v9 = (0 : Int64) then
                f_X12_works_b142 M3 a0 a1 v9 (1 : Int32)
              else
                f_X12_works_b142 M3 a0 a1 v9 (0 : Int32))
            else
              f_X12_works_b142 M3 a0 a1 v9 (0 : Int32))
          else
            f_X12_works_b142 M3 a0 a1 v9 (1 : Int32))
        else
          f_X12_works_b142 M3 a0 a1 v9 (1 : Int32))))))
set_option maxRecDepth 20000 in
theorem v_X12_works_b142 {M : q_Mem} {a0 : Nat} {a1 : Int32} {a2 : Int64} {s0 : Int32}  : q_V Y_X12_works none (fun x : q_Mem => (none, x)) 0 0 142 [(0, .ref a0), (1, .int a1), (2, .long a2)] [.int s0] M (f_X12_works_b142 M a0 a1 a2 s0) := by
  unfold f_X12_works_b142
  refine q_istore (ls' := [(4, .int s0), (0, .ref a0), (1, .int a1), (2, .long a2)]) dX12_works_142 (by decide) rfl ?_
  refine q_aload_n 1 dX12_works_144 rfl ?_
  refine q_dup dX12_works_145 rfl ?_
  refine q_getI (f := 18) cl_X12 (by decide) qw_1134 rfl dX12_works_146 (Or.inl rfl) (fun v38 h39 => ?_)
  refine q_iconst (x := (1 : Int32)) dX12_works_149 rfl ?_
  refine q_isub dX12_works_150 ?_
  refine q_putI (f := 18) cl_X12 (by decide) qw_1134 rfl (Or.inl rfl) dX12_works_151 rfl (fun M40 h41 => ?_)
  refine q_aload_n 1 dX12_works_154 rfl ?_
  refine q_getR (f := 16) cl_X12 (by decide) qw_1132 rfl dX12_works_155 (fun _ _ _ => rfl) (fun v42 h43 => ?_)
  refine q_aload_n 1 dX12_works_158 rfl ?_
  refine q_getI (f := 18) cl_X12 (by decide) qw_1134 rfl dX12_works_159 (Or.inl rfl) (fun v44 h45 => ?_)
  refine q_lald dX12_works_162 (fun v46 h47 => ?_)
  refine q_lstore (ls' := [(5, .long v46), (4, .int s0), (0, .ref a0), (1, .int a1), (2, .long a2)]) dX12_works_163 (by decide) rfl ?_
  refine q_aload_n 2 dX12_works_165 rfl ?_
  refine q_iload 1 dX12_works_166 rfl ?_
  refine q_if_eq (tgt := 175) dX12_works_168 (by decide) (fun c56 => ?_) (fun c56 => ?_)
  · refine q_iload_n 3 dX12_works_175 rfl ?_
    refine q_lload 0 dX12_works_176 rfl ?_
    refine q_lload_n 4 dX12_works_178 rfl ?_
    refine q_cSJ (Y2 := Y_X12_twoOf) (As := [.int a1, .long v46, .long a2]) (st := [.ref a0]) ms_X12_twoOf qw_1471 dX12_works_179 ⟨Nat.le_of_ble_eq_true rfl, Nat.le_of_ble_eq_true rfl⟩ rfl (fun _ _ => rfl) (Nat.le_of_ble_eq_true rfl) ⟨Nat.le_of_ble_eq_true rfl, Nat.le_of_ble_eq_true rfl⟩ (fun v49 h48 => m_X12_twoOf h48) (fun v49 h48 => ?_)
    refine q_iload 1 dX12_works_182 rfl ?_
    refine q_cVM (Y2 := Y_X12_puts) (As := [.long v49, .int s0]) (b := a0) (st := []) cl_X12 mv_X12_puts qw_1463 dX12_works_184 ⟨Nat.le_of_ble_eq_true rfl, Nat.le_of_ble_eq_true rfl⟩ rfl (fun _ _ => rfl) (Nat.le_of_ble_eq_true rfl) ⟨Nat.le_of_ble_eq_true rfl, Nat.le_of_ble_eq_true rfl⟩ (fun M52 h50 => q_ob_is h50) (fun M52 h50 => m_X12_puts h50) (fun M52 h50 => ?_)
    exact q_vret dX12_works_187 rfl rfl (Nat.le_of_ble_eq_true rfl) rfl
  · refine q_lconst (x := (0 : Int64)) dX12_works_171 rfl ?_
    refine q_goto (tgt := 182) dX12_works_172 (by decide) ?_
    refine q_iload 1 dX12_works_182 rfl ?_
    refine q_cVM (Y2 := Y_X12_puts) (As := [.long (0 : Int64), .int s0]) (b := a0) (st := []) cl_X12 mv_X12_puts qw_1463 dX12_works_184 ⟨Nat.le_of_ble_eq_true rfl, Nat.le_of_ble_eq_true rfl⟩ rfl (fun _ _ => rfl) (Nat.le_of_ble_eq_true rfl) ⟨Nat.le_of_ble_eq_true rfl, Nat.le_of_ble_eq_true rfl⟩ (fun M55 h53 => q_ob_is h53) (fun M55 h53 => m_X12_puts h53) (fun M55 h53 => ?_)
    exact q_vret dX12_works_187 rfl rfl (Nat.le_of_ble_eq_true rfl) rfl
set_option maxRecDepth 20000 in
theorem v_X12_works_b77 {M : q_Mem} {a0 : Nat} {s0 : Nat} {s1 : Int64}  : q_V Y_X12_works none (fun x : q_Mem => (none, x)) 0 0 77 [(0, .ref a0)] [.long s1, .ref s0] M (f_X12_works_b77 M a0 s0 s1) := by
  unfold f_X12_works_b77
  refine q_aload_n 0 dX12_works_77 rfl ?_
  refine q_getR (f := 17) cl_X12 (by decide) qw_1133 rfl dX12_works_78 (fun _ _ _ => rfl) (fun v57 h58 => ?_)
  refine q_aload_n 0 dX12_works_81 rfl ?_
  refine q_getI (f := 18) cl_X12 (by decide) qw_1134 rfl dX12_works_82 (Or.inl rfl) (fun v59 h60 => ?_)
  refine q_zald dX12_works_85 (fun v61 h62 => ?_)
  refine q_cVM (Y2 := Y_X12_puts) (As := [.long s1, .int v61]) (b := s0) (st := []) cl_X12 mv_X12_puts qw_1463 dX12_works_86 ⟨Nat.le_of_ble_eq_true rfl, Nat.le_of_ble_eq_true rfl⟩ rfl (fun _ _ => rfl) (Nat.le_of_ble_eq_true rfl) ⟨Nat.le_of_ble_eq_true rfl, Nat.le_of_ble_eq_true rfl⟩ (fun M65 h63 => q_ob_is h63) (fun M65 h63 => m_X12_puts h63) (fun M65 h63 => ?_)
  exact q_vret dX12_works_89 rfl rfl (Nat.le_of_ble_eq_true rfl) rfl
set_option maxRecDepth 20000 in
theorem v_X12_works_b69 {M : q_Mem} {a0 : Nat} {s0 : Nat} {s1 : Int32} {s2 : Int32}  : q_V Y_X12_works none (fun x : q_Mem => (none, x)) 0 0 69 [(0, .ref a0)] [.int s2, .int s1, .ref s0] M (f_X12_works_b69 M a0 s0 s1 s2) := by
  unfold f_X12_works_b69
  refine q_icmp_ne (tgt := 76) dX12_works_69 (by decide) (fun c67 => ?_) (fun c67 => ?_)
  · refine q_lconst (x := (1 : Int64)) dX12_works_72 rfl ?_
    refine q_goto (tgt := 77) dX12_works_73 (by decide) ?_
    exact v_X12_works_b77
  · refine q_lconst (x := (0 : Int64)) dX12_works_76 rfl ?_
    exact v_X12_works_b77
set_option maxRecDepth 20000 in
theorem v_X12_works_b58 {M : q_Mem} {a0 : Nat} {a1 : Int32} {s0 : Nat} {s1 : Int32}  : q_V Y_X12_works none (fun x : q_Mem => (none, x)) 0 0 58 [(0, .ref a0), (1, .int a1)] [.int s1, .ref s0] M (f_X12_works_b58 M a0 a1 s0 s1) := by
  unfold f_X12_works_b58
  refine q_iload_n 1 dX12_works_58 rfl ?_
  refine q_bipush (x := (11 : Int32)) dX12_works_59 rfl ?_
  refine q_icmp_ne (tgt := 68) dX12_works_61 (by decide) (fun c66 => ?_) (fun c66 => ?_)
  · refine q_iconst (x := (1 : Int32)) dX12_works_64 rfl ?_
    refine q_goto (tgt := 69) dX12_works_65 (by decide) ?_
    refine q_sub (ls' := [(0, .ref a0)]) [0] rfl ?_
    exact v_X12_works_b69
  · refine q_iconst (x := (0 : Int32)) dX12_works_68 rfl ?_
    refine q_sub (ls' := [(0, .ref a0)]) [0] rfl ?_
    exact v_X12_works_b69
set_option maxRecDepth 20000 in
theorem v_X12_works_b26 {M : q_Mem} {a0 : Nat} {a1 : Int32}  : q_V Y_X12_works none (fun x : q_Mem => (none, x)) 0 0 26 [(0, .ref a0), (1, .int a1)] [] M (f_X12_works_b26 M a0 a1 ) := by
  unfold f_X12_works_b26
  refine q_aload_n 0 dX12_works_26 rfl ?_
  refine q_getR (f := 16) cl_X12 (by decide) qw_1132 rfl dX12_works_27 (fun _ _ _ => rfl) (fun v30 h31 => ?_)
  refine q_aload_n 0 dX12_works_30 rfl ?_
  refine q_getI (f := 18) cl_X12 (by decide) qw_1134 rfl dX12_works_31 (Or.inl rfl) (fun v32 h33 => ?_)
  refine q_lald dX12_works_34 (fun v34 h35 => ?_)
  refine q_lstore_n (ls' := [(2, .long v34), (0, .ref a0), (1, .int a1)]) dX12_works_35 (by decide) rfl ?_
  refine q_aload_n 1 dX12_works_36 rfl ?_
  refine q_iload_n 2 dX12_works_37 rfl ?_
  refine q_iconst (x := (3 : Int32)) dX12_works_38 rfl ?_
  refine q_icmp_ne (tgt := 47) dX12_works_39 (by decide) (fun c37 => ?_) (fun c37 => ?_)
  · refine q_lload_n 0 dX12_works_42 rfl ?_
    refine q_lneg dX12_works_43 ?_
    refine q_goto (tgt := 77) dX12_works_44 (by decide) ?_
    refine q_sub (ls' := [(0, .ref a0)]) [1] rfl ?_
    exact v_X12_works_b77
  · refine q_lload_n 0 dX12_works_47 rfl ?_
    refine q_lconst (x := (0 : Int64)) dX12_works_48 rfl ?_
    refine q_lcmp_eq (tgt := 57) dX12_works_49 dX12_works_50 (by decide) (fun c36 => ?_) (fun c36 => ?_)
    · refine q_iconst (x := (0 : Int32)) dX12_works_57 rfl ?_
      refine q_sub (ls' := [(0, .ref a0), (1, .int a1)]) [1, 2] rfl ?_
      exact v_X12_works_b58
    · refine q_iconst (x := (1 : Int32)) dX12_works_53 rfl ?_
      refine q_goto (tgt := 58) dX12_works_54 (by decide) ?_
      refine q_sub (ls' := [(0, .ref a0), (1, .int a1)]) [1, 2] rfl ?_
      exact v_X12_works_b58
set_option maxRecDepth 20000 in
theorem m_X12_works {M : q_Mem} {a0 : Nat} {a1 : Int32} {x : q_Mem} (h : f_X12_works M a0 a1 = some x) : q_C Y_X12_works [.ref a0, .int a1] M none x := by
  refine q_met (φ := (fun x : q_Mem => (none, x))) (r := f_X12_works M a0 a1) (by decide +kernel) (Nat.le_of_ble_eq_true rfl) ?_ h (fun _ _ => rfl)
  show q_V Y_X12_works none (fun x : q_Mem => (none, x)) 0 0 0 [(0, .ref a0), (1, .int a1)] [] M (f_X12_works M a0 a1)
  unfold f_X12_works
  refine q_obV ?_
  refine q_aload_n 0 dX12_works_0 rfl ?_
  refine q_dup dX12_works_1 rfl ?_
  refine q_getI (f := 18) cl_X12 (by decide) qw_1134 rfl dX12_works_2 (Or.inl rfl) (fun v1 h2 => ?_)
  refine q_iconst (x := (1 : Int32)) dX12_works_5 rfl ?_
  refine q_isub dX12_works_6 ?_
  refine q_putI (f := 18) cl_X12 (by decide) qw_1134 rfl (Or.inl rfl) dX12_works_7 rfl (fun M3 h4 => ?_)
  refine q_iload_n 1 dX12_works_10 rfl ?_
  refine q_iconst (x := (2 : Int32)) dX12_works_11 rfl ?_
  refine q_icmp_eq (tgt := 26) dX12_works_12 (by decide) (fun c29 => ?_) (fun c29 => ?_)
  · exact v_X12_works_b26
  · refine q_iload_n 1 dX12_works_15 rfl ?_
    refine q_iconst (x := (3 : Int32)) dX12_works_16 rfl ?_
    refine q_icmp_eq (tgt := 26) dX12_works_17 (by decide) (fun c28 => ?_) (fun c28 => ?_)
    · exact v_X12_works_b26
    · refine q_iload_n 1 dX12_works_20 rfl ?_
      refine q_bipush (x := (11 : Int32)) dX12_works_21 rfl ?_
      refine q_icmp_ne (tgt := 90) dX12_works_23 (by decide) (fun c27 => ?_) (fun c27 => ?_)
      · exact v_X12_works_b26
      · refine q_aload_n 0 dX12_works_90 rfl ?_
        refine q_getR (f := 16) cl_X12 (by decide) qw_1132 rfl dX12_works_91 (fun _ _ _ => rfl) (fun v5 h6 => ?_)
        refine q_aload_n 0 dX12_works_94 rfl ?_
        refine q_getI (f := 18) cl_X12 (by decide) qw_1134 rfl dX12_works_95 (Or.inl rfl) (fun v7 h8 => ?_)
        refine q_lald dX12_works_98 (fun v9 h10 => ?_)
        refine q_lstore_n (ls' := [(2, .long v9), (0, .ref a0), (1, .int a1)]) dX12_works_99 (by decide) rfl ?_
        refine q_aload_n 1 dX12_works_100 rfl ?_
        refine q_getR (f := 17) cl_X12 (by decide) qw_1133 rfl dX12_works_101 (fun _ _ _ => rfl) (fun v11 h12 => ?_)
        refine q_aload_n 1 dX12_works_104 rfl ?_
        refine q_getI (f := 18) cl_X12 (by decide) qw_1134 rfl dX12_works_105 (Or.inl rfl) (fun v13 h14 => ?_)
        refine q_zald dX12_works_108 (fun v15 h16 => ?_)
        refine q_if_ne (tgt := 137) dX12_works_109 (by decide) (fun c26 => ?_) (fun c26 => ?_)
        · refine q_aload_n 1 dX12_works_112 rfl ?_
          refine q_getR (f := 17) cl_X12 (by decide) qw_1133 rfl dX12_works_113 (fun _ _ _ => rfl) (fun v17 h18 => ?_)
          refine q_aload_n 1 dX12_works_116 rfl ?_
          refine q_getI (f := 18) cl_X12 (by decide) qw_1134 rfl dX12_works_117 (Or.inl rfl) (fun v19 h20 => ?_)
          refine q_iconst (x := (1 : Int32)) dX12_works_120 rfl ?_
          refine q_isub dX12_works_121 ?_
          refine q_zald dX12_works_122 (fun v21 h22 => ?_)
          refine q_if_ne (tgt := 137) dX12_works_123 (by decide) (fun c25 => ?_) (fun c25 => ?_)
          · refine q_iload_n 2 dX12_works_126 rfl ?_
            refine q_iconst (x := (5 : Int32)) dX12_works_127 rfl ?_
            refine q_icmp_ne (tgt := 141) dX12_works_128 (by decide) (fun c24 => ?_) (fun c24 => ?_)
            · refine q_lload_n 0 dX12_works_131 rfl ?_
              refine q_lconst (x := (0 : Int64)) dX12_works_132 rfl ?_
              refine q_lcmp_ne (tgt := 141) dX12_works_133 dX12_works_134 (by decide) (fun c23 => ?_) (fun c23 => ?_)
              · refine q_iconst (x := (1 : Int32)) dX12_works_137 rfl ?_
                refine q_goto (tgt := 142) dX12_works_138 (by decide) ?_
                refine q_sub (ls' := [(0, .ref a0), (1, .int a1), (2, .long v9)]) [1, 2, 0] rfl ?_
                exact v_X12_works_b142
              · refine q_iconst (x := (0 : Int32)) dX12_works_141 rfl ?_
                refine q_sub (ls' := [(0, .ref a0), (1, .int a1), (2, .long v9)]) [1, 2, 0] rfl ?_
                exact v_X12_works_b142
            · refine q_iconst (x := (0 : Int32)) dX12_works_141 rfl ?_
              refine q_sub (ls' := [(0, .ref a0), (1, .int a1), (2, .long v9)]) [1, 2, 0] rfl ?_
              exact v_X12_works_b142
          · refine q_iconst (x := (1 : Int32)) dX12_works_137 rfl ?_
            refine q_goto (tgt := 142) dX12_works_138 (by decide) ?_
            refine q_sub (ls' := [(0, .ref a0), (1, .int a1), (2, .long v9)]) [1, 2, 0] rfl ?_
            exact v_X12_works_b142
        · refine q_iconst (x := (1 : Int32)) dX12_works_137 rfl ?_
          refine q_goto (tgt := 142) dX12_works_138 (by decide) ?_
          refine q_sub (ls' := [(0, .ref a0), (1, .int a1), (2, .long v9)]) [1, 2, 0] rfl ?_
          exact v_X12_works_b142
theorem dX12_jumps_0 : decode cX12_jumps 0 = .ok (.aload_n 0, 1) := by decide +kernel
theorem dX12_jumps_1 : decode cX12_jumps 1 = .ok (.getfield 23, 3) := by decide +kernel
theorem dX12_jumps_4 : decode cX12_jumps 4 = .ok (.iload_n 1, 1) := by decide +kernel
theorem dX12_jumps_5 : decode cX12_jumps 5 = .ok (.iaload, 1) := by decide +kernel
theorem dX12_jumps_6 : decode cX12_jumps 6 = .ok (.istore_n 2, 1) := by decide +kernel
theorem dX12_jumps_7 : decode cX12_jumps 7 = .ok (.iload_n 2, 1) := by decide +kernel
theorem dX12_jumps_8 : decode cX12_jumps 8 = .ok (.bipush 15, 2) := by decide +kernel
theorem dX12_jumps_10 : decode cX12_jumps 10 = .ok (.if_icmp .ne 10, 3) := by decide +kernel
theorem dX12_jumps_13 : decode cX12_jumps 13 = .ok (.aload_n 0, 1) := by decide +kernel
theorem dX12_jumps_14 : decode cX12_jumps 14 = .ok (.getfield 26, 3) := by decide +kernel
theorem dX12_jumps_17 : decode cX12_jumps 17 = .ok (.iload_n 1, 1) := by decide +kernel
theorem dX12_jumps_18 : decode cX12_jumps 18 = .ok (.iaload, 1) := by decide +kernel
theorem dX12_jumps_19 : decode cX12_jumps 19 = .ok (.ireturn, 1) := by decide +kernel
theorem dX12_jumps_20 : decode cX12_jumps 20 = .ok (.aload_n 0, 1) := by decide +kernel
theorem dX12_jumps_21 : decode cX12_jumps 21 = .ok (.dup, 1) := by decide +kernel
theorem dX12_jumps_22 : decode cX12_jumps 22 = .ok (.getfield 216, 3) := by decide +kernel
theorem dX12_jumps_25 : decode cX12_jumps 25 = .ok (.iconst 1, 1) := by decide +kernel
theorem dX12_jumps_26 : decode cX12_jumps 26 = .ok (.isub, 1) := by decide +kernel
theorem dX12_jumps_27 : decode cX12_jumps 27 = .ok (.putfield 216, 3) := by decide +kernel
theorem dX12_jumps_30 : decode cX12_jumps 30 = .ok (.aload_n 0, 1) := by decide +kernel
theorem dX12_jumps_31 : decode cX12_jumps 31 = .ok (.getfield 51, 3) := by decide +kernel
theorem dX12_jumps_34 : decode cX12_jumps 34 = .ok (.aload_n 0, 1) := by decide +kernel
theorem dX12_jumps_35 : decode cX12_jumps 35 = .ok (.getfield 216, 3) := by decide +kernel
theorem dX12_jumps_38 : decode cX12_jumps 38 = .ok (.baload, 1) := by decide +kernel
theorem dX12_jumps_39 : decode cX12_jumps 39 = .ok (.ifCond .eq 31, 3) := by decide +kernel
theorem dX12_jumps_42 : decode cX12_jumps 42 = .ok (.aload_n 0, 1) := by decide +kernel
theorem dX12_jumps_43 : decode cX12_jumps 43 = .ok (.lconst 0, 1) := by decide +kernel
theorem dX12_jumps_44 : decode cX12_jumps 44 = .ok (.iconst 1, 1) := by decide +kernel
theorem dX12_jumps_45 : decode cX12_jumps 45 = .ok (.invokevirtual 219, 3) := by decide +kernel
theorem dX12_jumps_48 : decode cX12_jumps 48 = .ok (.iload_n 2, 1) := by decide +kernel
theorem dX12_jumps_49 : decode cX12_jumps 49 = .ok (.bipush 14, 2) := by decide +kernel
theorem dX12_jumps_51 : decode cX12_jumps 51 = .ok (.if_icmp .ne 12, 3) := by decide +kernel
theorem dX12_jumps_54 : decode cX12_jumps 54 = .ok (.aload_n 0, 1) := by decide +kernel
theorem dX12_jumps_55 : decode cX12_jumps 55 = .ok (.getfield 29, 3) := by decide +kernel
theorem dX12_jumps_58 : decode cX12_jumps 58 = .ok (.iload_n 1, 1) := by decide +kernel
theorem dX12_jumps_59 : decode cX12_jumps 59 = .ok (.iaload, 1) := by decide +kernel
theorem dX12_jumps_60 : decode cX12_jumps 60 = .ok (.goto 9, 3) := by decide +kernel
theorem dX12_jumps_63 : decode cX12_jumps 63 = .ok (.aload_n 0, 1) := by decide +kernel
theorem dX12_jumps_64 : decode cX12_jumps 64 = .ok (.getfield 26, 3) := by decide +kernel
theorem dX12_jumps_67 : decode cX12_jumps 67 = .ok (.iload_n 1, 1) := by decide +kernel
theorem dX12_jumps_68 : decode cX12_jumps 68 = .ok (.iaload, 1) := by decide +kernel
theorem dX12_jumps_69 : decode cX12_jumps 69 = .ok (.ireturn, 1) := by decide +kernel
theorem dX12_jumps_70 : decode cX12_jumps 70 = .ok (.aload_n 0, 1) := by decide +kernel
theorem dX12_jumps_71 : decode cX12_jumps 71 = .ok (.getfield 48, 3) := by decide +kernel
theorem dX12_jumps_74 : decode cX12_jumps 74 = .ok (.aload_n 0, 1) := by decide +kernel
theorem dX12_jumps_75 : decode cX12_jumps 75 = .ok (.getfield 216, 3) := by decide +kernel
theorem dX12_jumps_78 : decode cX12_jumps 78 = .ok (.laload, 1) := by decide +kernel
theorem dX12_jumps_79 : decode cX12_jumps 79 = .ok (.lconst 0, 1) := by decide +kernel
theorem dX12_jumps_80 : decode cX12_jumps 80 = .ok (.lcmp, 1) := by decide +kernel
theorem dX12_jumps_81 : decode cX12_jumps 81 = .ok (.ifCond .eq 7, 3) := by decide +kernel
theorem dX12_jumps_84 : decode cX12_jumps 84 = .ok (.iconst 1, 1) := by decide +kernel
theorem dX12_jumps_85 : decode cX12_jumps 85 = .ok (.goto 4, 3) := by decide +kernel
theorem dX12_jumps_88 : decode cX12_jumps 88 = .ok (.iconst 0, 1) := by decide +kernel
theorem dX12_jumps_89 : decode cX12_jumps 89 = .ok (.istore_n 3, 1) := by decide +kernel
theorem dX12_jumps_90 : decode cX12_jumps 90 = .ok (.iload_n 2, 1) := by decide +kernel
theorem dX12_jumps_91 : decode cX12_jumps 91 = .ok (.bipush 14, 2) := by decide +kernel
theorem dX12_jumps_93 : decode cX12_jumps 93 = .ok (.if_icmp .ne 18, 3) := by decide +kernel
theorem dX12_jumps_96 : decode cX12_jumps 96 = .ok (.iload_n 3, 1) := by decide +kernel
theorem dX12_jumps_97 : decode cX12_jumps 97 = .ok (.ifCond .eq 7, 3) := by decide +kernel
theorem dX12_jumps_100 : decode cX12_jumps 100 = .ok (.iconst (-1), 1) := by decide +kernel
theorem dX12_jumps_101 : decode cX12_jumps 101 = .ok (.goto 9, 3) := by decide +kernel
theorem dX12_jumps_104 : decode cX12_jumps 104 = .ok (.aload_n 0, 1) := by decide +kernel
theorem dX12_jumps_105 : decode cX12_jumps 105 = .ok (.getfield 26, 3) := by decide +kernel
theorem dX12_jumps_108 : decode cX12_jumps 108 = .ok (.iload_n 1, 1) := by decide +kernel
theorem dX12_jumps_109 : decode cX12_jumps 109 = .ok (.iaload, 1) := by decide +kernel
theorem dX12_jumps_110 : decode cX12_jumps 110 = .ok (.ireturn, 1) := by decide +kernel
theorem dX12_jumps_111 : decode cX12_jumps 111 = .ok (.iload_n 3, 1) := by decide +kernel
theorem dX12_jumps_112 : decode cX12_jumps 112 = .ok (.iload_n 2, 1) := by decide +kernel
theorem dX12_jumps_113 : decode cX12_jumps 113 = .ok (.bipush 13, 2) := by decide +kernel
theorem dX12_jumps_115 : decode cX12_jumps 115 = .ok (.if_icmp .ne 7, 3) := by decide +kernel
theorem dX12_jumps_118 : decode cX12_jumps 118 = .ok (.iconst 1, 1) := by decide +kernel
theorem dX12_jumps_119 : decode cX12_jumps 119 = .ok (.goto 4, 3) := by decide +kernel
theorem dX12_jumps_122 : decode cX12_jumps 122 = .ok (.iconst 0, 1) := by decide +kernel
theorem dX12_jumps_123 : decode cX12_jumps 123 = .ok (.if_icmp .ne 24, 3) := by decide +kernel
theorem dX12_jumps_126 : decode cX12_jumps 126 = .ok (.aload_n 0, 1) := by decide +kernel
theorem dX12_jumps_127 : decode cX12_jumps 127 = .ok (.iload_n 3, 1) := by decide +kernel
theorem dX12_jumps_128 : decode cX12_jumps 128 = .ok (.ifCond .eq 7, 3) := by decide +kernel
theorem dX12_jumps_131 : decode cX12_jumps 131 = .ok (.lconst 1, 1) := by decide +kernel
theorem dX12_jumps_132 : decode cX12_jumps 132 = .ok (.goto 4, 3) := by decide +kernel
theorem dX12_jumps_135 : decode cX12_jumps 135 = .ok (.lconst 0, 1) := by decide +kernel
theorem dX12_jumps_136 : decode cX12_jumps 136 = .ok (.iconst 0, 1) := by decide +kernel
theorem dX12_jumps_137 : decode cX12_jumps 137 = .ok (.invokevirtual 219, 3) := by decide +kernel
theorem dX12_jumps_140 : decode cX12_jumps 140 = .ok (.aload_n 0, 1) := by decide +kernel
theorem dX12_jumps_141 : decode cX12_jumps 141 = .ok (.getfield 26, 3) := by decide +kernel
theorem dX12_jumps_144 : decode cX12_jumps 144 = .ok (.iload_n 1, 1) := by decide +kernel
theorem dX12_jumps_145 : decode cX12_jumps 145 = .ok (.iaload, 1) := by decide +kernel
theorem dX12_jumps_146 : decode cX12_jumps 146 = .ok (.ireturn, 1) := by decide +kernel
theorem dX12_jumps_147 : decode cX12_jumps 147 = .ok (.iconst (-1), 1) := by decide +kernel
theorem dX12_jumps_148 : decode cX12_jumps 148 = .ok (.ireturn, 1) := by decide +kernel
def f_X12_jumps_b136 (M : q_Mem) (a0 : Nat) (a1 : Int32) (s0 : Nat) (s1 : Int64) : Option (Int32 × q_Mem) :=
  (f_X12_puts M s0 s1 (0 : Int32)).bind fun M51 =>
  (q_gR 11 6 M51 a0).bind fun v52 =>
  (q_lI M51 v52 a1).bind fun v54 =>
  some (v54, M51)
def f_X12_jumps_b123 (M : q_Mem) (a0 : Nat) (a1 : Int32) (a3 : Int32) (s0 : Int32) (s1 : Int32) : Option (Int32 × q_Mem) :=
  (if s0 = s1 then
    (if a3 = 0 then
      f_X12_jumps_b136 M a0 a1 a0 (0 : Int64)
    else
      f_X12_jumps_b136 M a0 a1 a0 (1 : Int64))
  else
    some ((-1 : Int32), M))
def f_X12_jumps_b89 (M : q_Mem) (a0 : Nat) (a1 : Int32) (a2 : Int32) (s0 : Int32) : Option (Int32 × q_Mem) :=
  (if a2 = (14 : Int32) then
    (if s0 = 0 then
      (q_gR 11 6 M a0).bind fun v40 =>
      (q_lI M v40 a1).bind fun v42 =>
      some (v42, M)
    else
      some ((-1 : Int32), M))
  else
    (if a2 = (13 : Int32) then
      f_X12_jumps_b123 M a0 a1 s0 s0 (1 : Int32)
    else
      f_X12_jumps_b123 M a0 a1 s0 s0 (0 : Int32)))
def f_X12_jumps (M : q_Mem) (a0 : Nat) (a1 : Int32) : Option (Int32 × q_Mem) :=
  q_ob 11 M a0 ((q_gR 11 5 M a0).bind fun v1 =>
  (q_lI M v1 a1).bind fun v3 =>
  (if v3 = (15 : Int32) then
    (q_gR 11 6 M a0).bind fun v5 =>
    (q_lI M v5 a1).bind fun v7 =>
    some (v7, M)
  else
    (q_gI 11 18 M a0).bind fun v9 =>
    (q_pI 11 18 M a0 (v9 - (1 : Int32))).bind fun M11 =>
    (q_gR 11 17 M11 a0).bind fun v13 =>
    (q_gI 11 18 M11 a0).bind fun v15 =>
    (q_lZ M11 v13 v15).bind fun v17 =>
    (if v17 = 0 then
      (q_gR 11 16 M11 a0).bind fun v19 =>
      (q_gI 11 18 M11 a0).bind fun v21 =>
      (q_lJ M11 v19 v21).bind fun v23 =>
      (if v23 = (0 : Int64) then
        f_X12_jumps_b89 M11 a0 a1 v3 (0 : Int32)
      else
        f_X12_jumps_b89 M11 a0 a1 v3 (1 : Int32))
    else
      (f_X12_puts M11 a0 (0 : Int64) (1 : Int32)).bind fun M28 =>
      (if v3 = (14 : Int32) then
        (q_gR 11 7 M28 a0).bind fun v29 =>
        (q_lI M28 v29 a1).bind fun v31 =>
        some (v31, M28)
      else
        (q_gR 11 6 M28 a0).bind fun v33 =>
        (q_lI M28 v33 a1).bind fun v35 =>
        some (v35, M28)))))
set_option maxRecDepth 20000 in
theorem v_X12_jumps_b136 {M : q_Mem} {a0 : Nat} {a1 : Int32} {s0 : Nat} {s1 : Int64}  : q_V Y_X12_jumps none (fun x : Int32 × q_Mem => (some (.int x.1), x.2)) 0 0 136 [(0, .ref a0), (1, .int a1)] [.long s1, .ref s0] M (f_X12_jumps_b136 M a0 a1 s0 s1) := by
  unfold f_X12_jumps_b136
  refine q_iconst (x := (0 : Int32)) dX12_jumps_136 rfl ?_
  refine q_cVM (Y2 := Y_X12_puts) (As := [.long s1, .int (0 : Int32)]) (b := s0) (st := []) cl_X12 mv_X12_puts qw_1463 dX12_jumps_137 ⟨Nat.le_of_ble_eq_true rfl, Nat.le_of_ble_eq_true rfl⟩ rfl (fun _ _ => rfl) (Nat.le_of_ble_eq_true rfl) ⟨Nat.le_of_ble_eq_true rfl, Nat.le_of_ble_eq_true rfl⟩ (fun M51 h49 => q_ob_is h49) (fun M51 h49 => m_X12_puts h49) (fun M51 h49 => ?_)
  refine q_aload_n 0 dX12_jumps_140 rfl ?_
  refine q_getR (f := 6) cl_X12 (by decide) qw_1123 rfl dX12_jumps_141 (fun _ _ _ => rfl) (fun v52 h53 => ?_)
  refine q_iload_n 1 dX12_jumps_144 rfl ?_
  refine q_iald dX12_jumps_145 (fun v54 h55 => ?_)
  exact q_iret dX12_jumps_146 rfl rfl (Nat.le_of_ble_eq_true rfl) rfl
set_option maxRecDepth 20000 in
theorem v_X12_jumps_b123 {M : q_Mem} {a0 : Nat} {a1 : Int32} {a3 : Int32} {s0 : Int32} {s1 : Int32}  : q_V Y_X12_jumps none (fun x : Int32 × q_Mem => (some (.int x.1), x.2)) 0 0 123 [(0, .ref a0), (1, .int a1), (3, .int a3)] [.int s1, .int s0] M (f_X12_jumps_b123 M a0 a1 a3 s0 s1) := by
  unfold f_X12_jumps_b123
  refine q_icmp_ne (tgt := 147) dX12_jumps_123 (by decide) (fun c48 => ?_) (fun c48 => ?_)
  · refine q_aload_n 0 dX12_jumps_126 rfl ?_
    refine q_iload_n 2 dX12_jumps_127 rfl ?_
    refine q_if_eq (tgt := 135) dX12_jumps_128 (by decide) (fun c47 => ?_) (fun c47 => ?_)
    · refine q_lconst (x := (0 : Int64)) dX12_jumps_135 rfl ?_
      refine q_sub (ls' := [(0, .ref a0), (1, .int a1)]) [0, 1] rfl ?_
      exact v_X12_jumps_b136
    · refine q_lconst (x := (1 : Int64)) dX12_jumps_131 rfl ?_
      refine q_goto (tgt := 136) dX12_jumps_132 (by decide) ?_
      refine q_sub (ls' := [(0, .ref a0), (1, .int a1)]) [0, 1] rfl ?_
      exact v_X12_jumps_b136
  · refine q_iconst (x := (-1 : Int32)) dX12_jumps_147 rfl ?_
    exact q_iret dX12_jumps_148 rfl rfl (Nat.le_of_ble_eq_true rfl) rfl
set_option maxRecDepth 20000 in
theorem v_X12_jumps_b89 {M : q_Mem} {a0 : Nat} {a1 : Int32} {a2 : Int32} {s0 : Int32}  : q_V Y_X12_jumps none (fun x : Int32 × q_Mem => (some (.int x.1), x.2)) 0 0 89 [(0, .ref a0), (1, .int a1), (2, .int a2)] [.int s0] M (f_X12_jumps_b89 M a0 a1 a2 s0) := by
  unfold f_X12_jumps_b89
  refine q_istore_n (ls' := [(3, .int s0), (0, .ref a0), (1, .int a1), (2, .int a2)]) dX12_jumps_89 (by decide) rfl ?_
  refine q_iload_n 3 dX12_jumps_90 rfl ?_
  refine q_bipush (x := (14 : Int32)) dX12_jumps_91 rfl ?_
  refine q_icmp_ne (tgt := 111) dX12_jumps_93 (by decide) (fun c46 => ?_) (fun c46 => ?_)
  · refine q_iload_n 0 dX12_jumps_96 rfl ?_
    refine q_if_eq (tgt := 104) dX12_jumps_97 (by decide) (fun c44 => ?_) (fun c44 => ?_)
    · refine q_aload_n 1 dX12_jumps_104 rfl ?_
      refine q_getR (f := 6) cl_X12 (by decide) qw_1123 rfl dX12_jumps_105 (fun _ _ _ => rfl) (fun v40 h41 => ?_)
      refine q_iload_n 2 dX12_jumps_108 rfl ?_
      refine q_iald dX12_jumps_109 (fun v42 h43 => ?_)
      exact q_iret dX12_jumps_110 rfl rfl (Nat.le_of_ble_eq_true rfl) rfl
    · refine q_iconst (x := (-1 : Int32)) dX12_jumps_100 rfl ?_
      refine q_goto (tgt := 110) dX12_jumps_101 (by decide) ?_
      exact q_iret dX12_jumps_110 rfl rfl (Nat.le_of_ble_eq_true rfl) rfl
  · refine q_iload_n 0 dX12_jumps_111 rfl ?_
    refine q_iload_n 3 dX12_jumps_112 rfl ?_
    refine q_bipush (x := (13 : Int32)) dX12_jumps_113 rfl ?_
    refine q_icmp_ne (tgt := 122) dX12_jumps_115 (by decide) (fun c45 => ?_) (fun c45 => ?_)
    · refine q_iconst (x := (1 : Int32)) dX12_jumps_118 rfl ?_
      refine q_goto (tgt := 123) dX12_jumps_119 (by decide) ?_
      refine q_sub (ls' := [(0, .ref a0), (1, .int a1), (3, .int s0)]) [1, 2, 0] rfl ?_
      exact v_X12_jumps_b123
    · refine q_iconst (x := (0 : Int32)) dX12_jumps_122 rfl ?_
      refine q_sub (ls' := [(0, .ref a0), (1, .int a1), (3, .int s0)]) [1, 2, 0] rfl ?_
      exact v_X12_jumps_b123
set_option maxRecDepth 20000 in
theorem m_X12_jumps {M : q_Mem} {a0 : Nat} {a1 : Int32} {x : (Int32 × q_Mem)} (h : f_X12_jumps M a0 a1 = some x) : q_C Y_X12_jumps [.ref a0, .int a1] M (some (.int x.1)) x.2 := by
  refine q_met (φ := (fun x : Int32 × q_Mem => (some (.int x.1), x.2))) (r := f_X12_jumps M a0 a1) (by decide +kernel) (Nat.le_of_ble_eq_true rfl) ?_ h (fun _ _ => rfl)
  show q_V Y_X12_jumps none (fun x : Int32 × q_Mem => (some (.int x.1), x.2)) 0 0 0 [(0, .ref a0), (1, .int a1)] [] M (f_X12_jumps M a0 a1)
  unfold f_X12_jumps
  refine q_obV ?_
  refine q_aload_n 0 dX12_jumps_0 rfl ?_
  refine q_getR (f := 5) cl_X12 (by decide) qw_1122 rfl dX12_jumps_1 (fun _ _ _ => rfl) (fun v1 h2 => ?_)
  refine q_iload_n 1 dX12_jumps_4 rfl ?_
  refine q_iald dX12_jumps_5 (fun v3 h4 => ?_)
  refine q_istore_n (ls' := [(2, .int v3), (0, .ref a0), (1, .int a1)]) dX12_jumps_6 (by decide) rfl ?_
  refine q_iload_n 0 dX12_jumps_7 rfl ?_
  refine q_bipush (x := (15 : Int32)) dX12_jumps_8 rfl ?_
  refine q_icmp_ne (tgt := 20) dX12_jumps_10 (by decide) (fun c39 => ?_) (fun c39 => ?_)
  · refine q_aload_n 1 dX12_jumps_13 rfl ?_
    refine q_getR (f := 6) cl_X12 (by decide) qw_1123 rfl dX12_jumps_14 (fun _ _ _ => rfl) (fun v5 h6 => ?_)
    refine q_iload_n 2 dX12_jumps_17 rfl ?_
    refine q_iald dX12_jumps_18 (fun v7 h8 => ?_)
    exact q_iret dX12_jumps_19 rfl rfl (Nat.le_of_ble_eq_true rfl) rfl
  · refine q_aload_n 1 dX12_jumps_20 rfl ?_
    refine q_dup dX12_jumps_21 rfl ?_
    refine q_getI (f := 18) cl_X12 (by decide) qw_1134 rfl dX12_jumps_22 (Or.inl rfl) (fun v9 h10 => ?_)
    refine q_iconst (x := (1 : Int32)) dX12_jumps_25 rfl ?_
    refine q_isub dX12_jumps_26 ?_
    refine q_putI (f := 18) cl_X12 (by decide) qw_1134 rfl (Or.inl rfl) dX12_jumps_27 rfl (fun M11 h12 => ?_)
    refine q_aload_n 1 dX12_jumps_30 rfl ?_
    refine q_getR (f := 17) cl_X12 (by decide) qw_1133 rfl dX12_jumps_31 (fun _ _ _ => rfl) (fun v13 h14 => ?_)
    refine q_aload_n 1 dX12_jumps_34 rfl ?_
    refine q_getI (f := 18) cl_X12 (by decide) qw_1134 rfl dX12_jumps_35 (Or.inl rfl) (fun v15 h16 => ?_)
    refine q_zald dX12_jumps_38 (fun v17 h18 => ?_)
    refine q_if_eq (tgt := 70) dX12_jumps_39 (by decide) (fun c38 => ?_) (fun c38 => ?_)
    · refine q_aload_n 1 dX12_jumps_70 rfl ?_
      refine q_getR (f := 16) cl_X12 (by decide) qw_1132 rfl dX12_jumps_71 (fun _ _ _ => rfl) (fun v19 h20 => ?_)
      refine q_aload_n 1 dX12_jumps_74 rfl ?_
      refine q_getI (f := 18) cl_X12 (by decide) qw_1134 rfl dX12_jumps_75 (Or.inl rfl) (fun v21 h22 => ?_)
      refine q_lald dX12_jumps_78 (fun v23 h24 => ?_)
      refine q_lconst (x := (0 : Int64)) dX12_jumps_79 rfl ?_
      refine q_lcmp_eq (tgt := 88) dX12_jumps_80 dX12_jumps_81 (by decide) (fun c25 => ?_) (fun c25 => ?_)
      · refine q_iconst (x := (0 : Int32)) dX12_jumps_88 rfl ?_
        refine q_sub (ls' := [(0, .ref a0), (1, .int a1), (2, .int v3)]) [1, 2, 0] rfl ?_
        exact v_X12_jumps_b89
      · refine q_iconst (x := (1 : Int32)) dX12_jumps_84 rfl ?_
        refine q_goto (tgt := 89) dX12_jumps_85 (by decide) ?_
        refine q_sub (ls' := [(0, .ref a0), (1, .int a1), (2, .int v3)]) [1, 2, 0] rfl ?_
        exact v_X12_jumps_b89
    · refine q_aload_n 1 dX12_jumps_42 rfl ?_
      refine q_lconst (x := (0 : Int64)) dX12_jumps_43 rfl ?_
      refine q_iconst (x := (1 : Int32)) dX12_jumps_44 rfl ?_
      refine q_cVM (Y2 := Y_X12_puts) (As := [.long (0 : Int64), .int (1 : Int32)]) (b := a0) (st := []) cl_X12 mv_X12_puts qw_1463 dX12_jumps_45 ⟨Nat.le_of_ble_eq_true rfl, Nat.le_of_ble_eq_true rfl⟩ rfl (fun _ _ => rfl) (Nat.le_of_ble_eq_true rfl) ⟨Nat.le_of_ble_eq_true rfl, Nat.le_of_ble_eq_true rfl⟩ (fun M28 h26 => q_ob_is h26) (fun M28 h26 => m_X12_puts h26) (fun M28 h26 => ?_)
      refine q_iload_n 0 dX12_jumps_48 rfl ?_
      refine q_bipush (x := (14 : Int32)) dX12_jumps_49 rfl ?_
      refine q_icmp_ne (tgt := 63) dX12_jumps_51 (by decide) (fun c37 => ?_) (fun c37 => ?_)
      · refine q_aload_n 1 dX12_jumps_54 rfl ?_
        refine q_getR (f := 7) cl_X12 (by decide) qw_1124 rfl dX12_jumps_55 (fun _ _ _ => rfl) (fun v29 h30 => ?_)
        refine q_iload_n 2 dX12_jumps_58 rfl ?_
        refine q_iald dX12_jumps_59 (fun v31 h32 => ?_)
        refine q_goto (tgt := 69) dX12_jumps_60 (by decide) ?_
        exact q_iret dX12_jumps_69 rfl rfl (Nat.le_of_ble_eq_true rfl) rfl
      · refine q_aload_n 1 dX12_jumps_63 rfl ?_
        refine q_getR (f := 6) cl_X12 (by decide) qw_1123 rfl dX12_jumps_64 (fun _ _ _ => rfl) (fun v33 h34 => ?_)
        refine q_iload_n 2 dX12_jumps_67 rfl ?_
        refine q_iald dX12_jumps_68 (fun v35 h36 => ?_)
        exact q_iret dX12_jumps_69 rfl rfl (Nat.le_of_ble_eq_true rfl) rfl
theorem dX12_goes_0 : decode cX12_goes 0 = .ok (.aload_n 0, 1) := by decide +kernel
theorem dX12_goes_1 : decode cX12_goes 1 = .ok (.iconst 0, 1) := by decide +kernel
theorem dX12_goes_2 : decode cX12_goes 2 = .ok (.putfield 216, 3) := by decide +kernel
theorem dX12_goes_5 : decode cX12_goes 5 = .ok (.iconst 0, 1) := by decide +kernel
theorem dX12_goes_6 : decode cX12_goes 6 = .ok (.istore_n 1, 1) := by decide +kernel
theorem dX12_goes_7 : decode cX12_goes 7 = .ok (.iload_n 1, 1) := by decide +kernel
theorem dX12_goes_8 : decode cX12_goes 8 = .ok (.aload_n 0, 1) := by decide +kernel
theorem dX12_goes_9 : decode cX12_goes 9 = .ok (.getfield 164, 3) := by decide +kernel
theorem dX12_goes_12 : decode cX12_goes 12 = .ok (.if_icmp .ge 90, 3) := by decide +kernel
theorem dX12_goes_15 : decode cX12_goes 15 = .ok (.aload_n 0, 1) := by decide +kernel
theorem dX12_goes_16 : decode cX12_goes 16 = .ok (.getfield 23, 3) := by decide +kernel
theorem dX12_goes_19 : decode cX12_goes 19 = .ok (.iload_n 1, 1) := by decide +kernel
theorem dX12_goes_20 : decode cX12_goes 20 = .ok (.iaload, 1) := by decide +kernel
theorem dX12_goes_21 : decode cX12_goes 21 = .ok (.istore_n 2, 1) := by decide +kernel
theorem dX12_goes_22 : decode cX12_goes 22 = .ok (.iconst (-1), 1) := by decide +kernel
theorem dX12_goes_23 : decode cX12_goes 23 = .ok (.istore_n 3, 1) := by decide +kernel
theorem dX12_goes_24 : decode cX12_goes 24 = .ok (.iload_n 2, 1) := by decide +kernel
theorem dX12_goes_25 : decode cX12_goes 25 = .ok (.ifCond .eq 8, 3) := by decide +kernel
theorem dX12_goes_28 : decode cX12_goes 28 = .ok (.iload_n 2, 1) := by decide +kernel
theorem dX12_goes_29 : decode cX12_goes 29 = .ok (.iconst 1, 1) := by decide +kernel
theorem dX12_goes_30 : decode cX12_goes 30 = .ok (.if_icmp .ne 36, 3) := by decide +kernel
theorem dX12_goes_33 : decode cX12_goes 33 = .ok (.aload_n 0, 1) := by decide +kernel
theorem dX12_goes_34 : decode cX12_goes 34 = .ok (.iload_n 2, 1) := by decide +kernel
theorem dX12_goes_35 : decode cX12_goes 35 = .ok (.ifCond .ne 13, 3) := by decide +kernel
theorem dX12_goes_38 : decode cX12_goes 38 = .ok (.aload_n 0, 1) := by decide +kernel
theorem dX12_goes_39 : decode cX12_goes 39 = .ok (.getfield 26, 3) := by decide +kernel
theorem dX12_goes_42 : decode cX12_goes 42 = .ok (.iload_n 1, 1) := by decide +kernel
theorem dX12_goes_43 : decode cX12_goes 43 = .ok (.iaload, 1) := by decide +kernel
theorem dX12_goes_44 : decode cX12_goes 44 = .ok (.i2l, 1) := by decide +kernel
theorem dX12_goes_45 : decode cX12_goes 45 = .ok (.goto 14, 3) := by decide +kernel
theorem dX12_goes_48 : decode cX12_goes 48 = .ok (.aload_n 0, 1) := by decide +kernel
theorem dX12_goes_49 : decode cX12_goes 49 = .ok (.getfield 41, 3) := by decide +kernel
theorem dX12_goes_52 : decode cX12_goes 52 = .ok (.aload_n 0, 1) := by decide +kernel
theorem dX12_goes_53 : decode cX12_goes 53 = .ok (.getfield 26, 3) := by decide +kernel
theorem dX12_goes_56 : decode cX12_goes 56 = .ok (.iload_n 1, 1) := by decide +kernel
theorem dX12_goes_57 : decode cX12_goes 57 = .ok (.iaload, 1) := by decide +kernel
theorem dX12_goes_58 : decode cX12_goes 58 = .ok (.laload, 1) := by decide +kernel
theorem dX12_goes_59 : decode cX12_goes 59 = .ok (.iconst 0, 1) := by decide +kernel
theorem dX12_goes_60 : decode cX12_goes 60 = .ok (.invokevirtual 219, 3) := by decide +kernel
theorem dX12_goes_63 : decode cX12_goes 63 = .ok (.goto 23, 3) := by decide +kernel
theorem dX12_goes_66 : decode cX12_goes 66 = .ok (.iload_n 2, 1) := by decide +kernel
theorem dX12_goes_67 : decode cX12_goes 67 = .ok (.bipush 12, 2) := by decide +kernel
theorem dX12_goes_69 : decode cX12_goes 69 = .ok (.if_icmp .ge 11, 3) := by decide +kernel
theorem dX12_goes_72 : decode cX12_goes 72 = .ok (.aload_n 0, 1) := by decide +kernel
theorem dX12_goes_73 : decode cX12_goes 73 = .ok (.iload_n 2, 1) := by decide +kernel
theorem dX12_goes_74 : decode cX12_goes 74 = .ok (.invokevirtual 227, 3) := by decide +kernel
theorem dX12_goes_77 : decode cX12_goes 77 = .ok (.goto 9, 3) := by decide +kernel
theorem dX12_goes_80 : decode cX12_goes 80 = .ok (.aload_n 0, 1) := by decide +kernel
theorem dX12_goes_81 : decode cX12_goes 81 = .ok (.iload_n 1, 1) := by decide +kernel
theorem dX12_goes_82 : decode cX12_goes 82 = .ok (.invokevirtual 230, 3) := by decide +kernel
theorem dX12_goes_85 : decode cX12_goes 85 = .ok (.istore_n 3, 1) := by decide +kernel
theorem dX12_goes_86 : decode cX12_goes 86 = .ok (.iload_n 3, 1) := by decide +kernel
theorem dX12_goes_87 : decode cX12_goes 87 = .ok (.iconst (-1), 1) := by decide +kernel
theorem dX12_goes_88 : decode cX12_goes 88 = .ok (.if_icmp .ne 9, 3) := by decide +kernel
theorem dX12_goes_91 : decode cX12_goes 91 = .ok (.iload_n 1, 1) := by decide +kernel
theorem dX12_goes_92 : decode cX12_goes 92 = .ok (.iconst 1, 1) := by decide +kernel
theorem dX12_goes_93 : decode cX12_goes 93 = .ok (.iadd, 1) := by decide +kernel
theorem dX12_goes_94 : decode cX12_goes 94 = .ok (.goto 4, 3) := by decide +kernel
theorem dX12_goes_97 : decode cX12_goes 97 = .ok (.iload_n 3, 1) := by decide +kernel
theorem dX12_goes_98 : decode cX12_goes 98 = .ok (.istore_n 1, 1) := by decide +kernel
theorem dX12_goes_99 : decode cX12_goes 99 = .ok (.goto (-92), 3) := by decide +kernel
theorem dX12_goes_102 : decode cX12_goes 102 = .ok (.aload_n 0, 1) := by decide +kernel
theorem dX12_goes_103 : decode cX12_goes 103 = .ok (.getfield 51, 3) := by decide +kernel
theorem dX12_goes_106 : decode cX12_goes 106 = .ok (.iconst 0, 1) := by decide +kernel
theorem dX12_goes_107 : decode cX12_goes 107 = .ok (.baload, 1) := by decide +kernel
theorem dX12_goes_108 : decode cX12_goes 108 = .ok (.ifCond .ne 7, 3) := by decide +kernel
theorem dX12_goes_111 : decode cX12_goes 111 = .ok (.iconst 1, 1) := by decide +kernel
theorem dX12_goes_112 : decode cX12_goes 112 = .ok (.goto 4, 3) := by decide +kernel
theorem dX12_goes_115 : decode cX12_goes 115 = .ok (.iconst 0, 1) := by decide +kernel
theorem dX12_goes_116 : decode cX12_goes 116 = .ok (.ireturn, 1) := by decide +kernel
def f_X12_goes_b102 (M : q_Mem) (a0 : Nat) : Option (Int32 × q_Mem) :=
  (q_gR 11 17 M a0).bind fun v38 =>
  (q_lZ M v38 (0 : Int32)).bind fun v40 =>
  (if v40 = 0 then
    some ((1 : Int32), M)
  else
    some ((0 : Int32), M))
def f_X12_goes_b86 (kk7 : Int32 → q_Mem → Option (Int32 × q_Mem)) (M : q_Mem) (a0 : Nat) (a1 : Int32) (a3 : Int32) : Option (Int32 × q_Mem) :=
  (if a3 = (-1 : Int32) then
    kk7 (a1 + (1 : Int32)) M
  else
    kk7 a3 M)
def f_X12_goes_b33 (kk7 : Int32 → q_Mem → Option (Int32 × q_Mem)) (M : q_Mem) (a0 : Nat) (a1 : Int32) (a2 : Int32) (a3 : Int32) : Option (Int32 × q_Mem) :=
  (if a2 = 0 then
    (q_gR 11 6 M a0).bind fun v18 =>
    (q_lI M v18 a1).bind fun v20 =>
    (f_X12_puts M a0 v20.toInt64 (0 : Int32)).bind fun M24 =>
    f_X12_goes_b86 kk7 M24 a0 a1 a3
  else
    (q_gR 11 14 M a0).bind fun v25 =>
    (q_gR 11 6 M a0).bind fun v27 =>
    (q_lI M v27 a1).bind fun v29 =>
    (q_lJ M v25 v29).bind fun v31 =>
    (f_X12_puts M a0 v31 (0 : Int32)).bind fun M35 =>
    f_X12_goes_b86 kk7 M35 a0 a1 a3)
def f_X12_goes_b7 (a0 : Nat) : Nat → Int32 → q_Mem → Option (Int32 × q_Mem)
  | 0, _, _ => none
  | n + 1, a1, M =>
    (q_gI 11 4 M a0).bind fun v3 =>
    (if a1 < v3 then
      (q_gR 11 5 M a0).bind fun v5 =>
      (q_lI M v5 a1).bind fun v7 =>
      (if v7 = 0 then
        f_X12_goes_b33 (f_X12_goes_b7 a0 n) M a0 a1 v7 (-1 : Int32)
      else
        (if v7 = (1 : Int32) then
          f_X12_goes_b33 (f_X12_goes_b7 a0 n) M a0 a1 v7 (-1 : Int32)
        else
          (if v7 < (12 : Int32) then
            (f_X12_works M a0 v7).bind fun M11 =>
            f_X12_goes_b86 (f_X12_goes_b7 a0 n) M11 a0 a1 (-1 : Int32)
          else
            (f_X12_jumps M a0 a1).bind fun r13 =>
            f_X12_goes_b86 (f_X12_goes_b7 a0 n) r13.2 a0 a1 r13.1)))
    else
      f_X12_goes_b102 M a0)
def f_X12_goes (M : q_Mem) (a0 : Nat) : Option (Int32 × q_Mem) :=
  q_ob 11 M a0 ((q_pI 11 18 M a0 (0 : Int32)).bind fun M1 =>
  f_X12_goes_b7 a0 q_fuel (0 : Int32) M1)
set_option maxRecDepth 20000 in
theorem v_X12_goes_b102 {M : q_Mem} {a0 : Nat}  : q_V Y_X12_goes none (fun x : Int32 × q_Mem => (some (.int x.1), x.2)) 0 0 102 [(0, .ref a0)] [] M (f_X12_goes_b102 M a0 ) := by
  unfold f_X12_goes_b102
  refine q_aload_n 0 dX12_goes_102 rfl ?_
  refine q_getR (f := 17) cl_X12 (by decide) qw_1133 rfl dX12_goes_103 (fun _ _ _ => rfl) (fun v38 h39 => ?_)
  refine q_iconst (x := (0 : Int32)) dX12_goes_106 rfl ?_
  refine q_zald dX12_goes_107 (fun v40 h41 => ?_)
  refine q_if_ne (tgt := 115) dX12_goes_108 (by decide) (fun c42 => ?_) (fun c42 => ?_)
  · refine q_iconst (x := (1 : Int32)) dX12_goes_111 rfl ?_
    refine q_goto (tgt := 116) dX12_goes_112 (by decide) ?_
    exact q_zretL dX12_goes_116 rfl (Or.inr rfl) rfl (Nat.le_of_ble_eq_true rfl) rfl
  · refine q_iconst (x := (0 : Int32)) dX12_goes_115 rfl ?_
    exact q_zretL dX12_goes_116 rfl (Or.inl rfl) rfl (Nat.le_of_ble_eq_true rfl) rfl
set_option maxRecDepth 20000 in
theorem v_X12_goes_b86 {kk7 : Int32 → q_Mem → Option (Int32 × q_Mem)} {M : q_Mem} {a0 : Nat} {a1 : Int32} {a3 : Int32}  (hk7 : ∀ (a1 : Int32) (M : q_Mem), q_V Y_X12_goes none (fun x : Int32 × q_Mem => (some (.int x.1), x.2)) 0 0 7 [(0, .ref a0), (1, .int a1)] [] M (kk7 a1 M)): q_V Y_X12_goes none (fun x : Int32 × q_Mem => (some (.int x.1), x.2)) 0 0 86 [(0, .ref a0), (1, .int a1), (3, .int a3)] [] M (f_X12_goes_b86 kk7 M a0 a1 a3 ) := by
  unfold f_X12_goes_b86
  refine q_iload_n 2 dX12_goes_86 rfl ?_
  refine q_iconst (x := (-1 : Int32)) dX12_goes_87 rfl ?_
  refine q_icmp_ne (tgt := 97) dX12_goes_88 (by decide) (fun c37 => ?_) (fun c37 => ?_)
  · refine q_iload_n 1 dX12_goes_91 rfl ?_
    refine q_iconst (x := (1 : Int32)) dX12_goes_92 rfl ?_
    refine q_iadd dX12_goes_93 ?_
    refine q_goto (tgt := 98) dX12_goes_94 (by decide) ?_
    refine q_istore_n (ls' := [(1, .int (a1 + (1 : Int32))), (0, .ref a0), (3, .int a3)]) dX12_goes_98 (by decide) rfl ?_
    refine q_goto (tgt := 7) dX12_goes_99 (by decide) ?_
    refine q_sub (ls' := [(0, .ref a0), (1, .int (a1 + (1 : Int32)))]) [1, 0] rfl ?_
    exact hk7 _ _
  · refine q_iload_n 2 dX12_goes_97 rfl ?_
    refine q_istore_n (ls' := [(1, .int a3), (0, .ref a0), (3, .int a3)]) dX12_goes_98 (by decide) rfl ?_
    refine q_goto (tgt := 7) dX12_goes_99 (by decide) ?_
    refine q_sub (ls' := [(0, .ref a0), (1, .int a3)]) [1, 0] rfl ?_
    exact hk7 _ _
set_option maxRecDepth 20000 in
theorem v_X12_goes_b33 {kk7 : Int32 → q_Mem → Option (Int32 × q_Mem)} {M : q_Mem} {a0 : Nat} {a1 : Int32} {a2 : Int32} {a3 : Int32}  (hk7 : ∀ (a1 : Int32) (M : q_Mem), q_V Y_X12_goes none (fun x : Int32 × q_Mem => (some (.int x.1), x.2)) 0 0 7 [(0, .ref a0), (1, .int a1)] [] M (kk7 a1 M)): q_V Y_X12_goes none (fun x : Int32 × q_Mem => (some (.int x.1), x.2)) 0 0 33 [(0, .ref a0), (1, .int a1), (2, .int a2), (3, .int a3)] [] M (f_X12_goes_b33 kk7 M a0 a1 a2 a3 ) := by
  unfold f_X12_goes_b33
  refine q_aload_n 0 dX12_goes_33 rfl ?_
  refine q_iload_n 2 dX12_goes_34 rfl ?_
  refine q_if_ne (tgt := 48) dX12_goes_35 (by decide) (fun c36 => ?_) (fun c36 => ?_)
  · refine q_aload_n 0 dX12_goes_38 rfl ?_
    refine q_getR (f := 6) cl_X12 (by decide) qw_1123 rfl dX12_goes_39 (fun _ _ _ => rfl) (fun v18 h19 => ?_)
    refine q_iload_n 1 dX12_goes_42 rfl ?_
    refine q_iald dX12_goes_43 (fun v20 h21 => ?_)
    refine q_i2l dX12_goes_44 ?_
    refine q_goto (tgt := 59) dX12_goes_45 (by decide) ?_
    refine q_iconst (x := (0 : Int32)) dX12_goes_59 rfl ?_
    refine q_cVM (Y2 := Y_X12_puts) (As := [.long v20.toInt64, .int (0 : Int32)]) (b := a0) (st := []) cl_X12 mv_X12_puts qw_1463 dX12_goes_60 ⟨Nat.le_of_ble_eq_true rfl, Nat.le_of_ble_eq_true rfl⟩ rfl (fun _ _ => rfl) (Nat.le_of_ble_eq_true rfl) ⟨Nat.le_of_ble_eq_true rfl, Nat.le_of_ble_eq_true rfl⟩ (fun M24 h22 => q_ob_is h22) (fun M24 h22 => m_X12_puts h22) (fun M24 h22 => ?_)
    refine q_goto (tgt := 86) dX12_goes_63 (by decide) ?_
    refine q_sub (ls' := [(0, .ref a0), (1, .int a1), (3, .int a3)]) [0, 1, 3] rfl ?_
    exact v_X12_goes_b86 (hk7)
  · refine q_aload_n 0 dX12_goes_48 rfl ?_
    refine q_getR (f := 14) cl_X12 (by decide) qw_1130 rfl dX12_goes_49 (fun _ _ _ => rfl) (fun v25 h26 => ?_)
    refine q_aload_n 0 dX12_goes_52 rfl ?_
    refine q_getR (f := 6) cl_X12 (by decide) qw_1123 rfl dX12_goes_53 (fun _ _ _ => rfl) (fun v27 h28 => ?_)
    refine q_iload_n 1 dX12_goes_56 rfl ?_
    refine q_iald dX12_goes_57 (fun v29 h30 => ?_)
    refine q_lald dX12_goes_58 (fun v31 h32 => ?_)
    refine q_iconst (x := (0 : Int32)) dX12_goes_59 rfl ?_
    refine q_cVM (Y2 := Y_X12_puts) (As := [.long v31, .int (0 : Int32)]) (b := a0) (st := []) cl_X12 mv_X12_puts qw_1463 dX12_goes_60 ⟨Nat.le_of_ble_eq_true rfl, Nat.le_of_ble_eq_true rfl⟩ rfl (fun _ _ => rfl) (Nat.le_of_ble_eq_true rfl) ⟨Nat.le_of_ble_eq_true rfl, Nat.le_of_ble_eq_true rfl⟩ (fun M35 h33 => q_ob_is h33) (fun M35 h33 => m_X12_puts h33) (fun M35 h33 => ?_)
    refine q_goto (tgt := 86) dX12_goes_63 (by decide) ?_
    refine q_sub (ls' := [(0, .ref a0), (1, .int a1), (3, .int a3)]) [0, 1, 3] rfl ?_
    exact v_X12_goes_b86 (hk7)
set_option maxRecDepth 20000 in
theorem v_X12_goes_b7 {a0 : Nat}  : ∀ (n : Nat) (a1 : Int32) (M : q_Mem), q_V Y_X12_goes none (fun x : Int32 × q_Mem => (some (.int x.1), x.2)) 0 0 7 [(0, .ref a0), (1, .int a1)] [] M (f_X12_goes_b7 a0 n a1 M) := by
  intro n
  induction n with
  | zero => intro a1 M; exact q_none
  | succ n ih =>
    intro a1 M
    rw [f_X12_goes_b7.eq_2]
    refine q_iload_n 1 dX12_goes_7 rfl ?_
    refine q_aload_n 0 dX12_goes_8 rfl ?_
    refine q_getI (f := 4) cl_X12 (by decide) qw_1121 rfl dX12_goes_9 (Or.inl rfl) (fun v3 h4 => ?_)
    refine q_icmp_ge (tgt := 102) dX12_goes_12 (by decide) (fun c17 => ?_) (fun c17 => ?_)
    · refine q_aload_n 0 dX12_goes_15 rfl ?_
      refine q_getR (f := 5) cl_X12 (by decide) qw_1122 rfl dX12_goes_16 (fun _ _ _ => rfl) (fun v5 h6 => ?_)
      refine q_iload_n 1 dX12_goes_19 rfl ?_
      refine q_iald dX12_goes_20 (fun v7 h8 => ?_)
      refine q_istore_n (ls' := [(2, .int v7), (0, .ref a0), (1, .int a1)]) dX12_goes_21 (by decide) rfl ?_
      refine q_iconst (x := (-1 : Int32)) dX12_goes_22 rfl ?_
      refine q_istore_n (ls' := [(3, .int (-1 : Int32)), (2, .int v7), (0, .ref a0), (1, .int a1)]) dX12_goes_23 (by decide) rfl ?_
      refine q_iload_n 1 dX12_goes_24 rfl ?_
      refine q_if_eq (tgt := 33) dX12_goes_25 (by decide) (fun c16 => ?_) (fun c16 => ?_)
      · refine q_sub (ls' := [(0, .ref a0), (1, .int a1), (2, .int v7), (3, .int (-1 : Int32))]) [2, 3, 1, 0] rfl ?_
        exact v_X12_goes_b33 (ih)
      · refine q_iload_n 1 dX12_goes_28 rfl ?_
        refine q_iconst (x := (1 : Int32)) dX12_goes_29 rfl ?_
        refine q_icmp_ne (tgt := 66) dX12_goes_30 (by decide) (fun c15 => ?_) (fun c15 => ?_)
        · refine q_sub (ls' := [(0, .ref a0), (1, .int a1), (2, .int v7), (3, .int (-1 : Int32))]) [2, 3, 1, 0] rfl ?_
          exact v_X12_goes_b33 (ih)
        · refine q_iload_n 1 dX12_goes_66 rfl ?_
          refine q_bipush (x := (12 : Int32)) dX12_goes_67 rfl ?_
          refine q_icmp_ge (tgt := 80) dX12_goes_69 (by decide) (fun c14 => ?_) (fun c14 => ?_)
          · refine q_aload_n 2 dX12_goes_72 rfl ?_
            refine q_iload_n 1 dX12_goes_73 rfl ?_
            refine q_cVM (Y2 := Y_X12_works) (As := [.int v7]) (b := a0) (st := []) cl_X12 mv_X12_works qw_1467 dX12_goes_74 ⟨Nat.le_of_ble_eq_true rfl, Nat.le_of_ble_eq_true rfl⟩ rfl (fun _ _ => rfl) (Nat.le_of_ble_eq_true rfl) ⟨Nat.le_of_ble_eq_true rfl, Nat.le_of_ble_eq_true rfl⟩ (fun M11 h9 => q_ob_is h9) (fun M11 h9 => m_X12_works h9) (fun M11 h9 => ?_)
            refine q_goto (tgt := 86) dX12_goes_77 (by decide) ?_
            refine q_sub (ls' := [(0, .ref a0), (1, .int a1), (3, .int (-1 : Int32))]) [2, 3, 0] rfl ?_
            exact v_X12_goes_b86 (ih)
          · refine q_aload_n 2 dX12_goes_80 rfl ?_
            refine q_iload_n 3 dX12_goes_81 rfl ?_
            refine q_cVMI (Y2 := Y_X12_jumps) (As := [.int a1]) (b := a0) (st := []) cl_X12 mv_X12_jumps qw_1474 dX12_goes_82 ⟨Nat.le_of_ble_eq_true rfl, Nat.le_of_ble_eq_true rfl⟩ rfl (fun _ _ => rfl) (Nat.le_of_ble_eq_true rfl) ⟨Nat.le_of_ble_eq_true rfl, Nat.le_of_ble_eq_true rfl⟩ (fun r13 h12 => q_ob_is h12) (fun r13 h12 => m_X12_jumps h12) (fun r13 h12 => ?_)
            refine q_istore_n (ls' := [(3, .int r13.1), (2, .int v7), (0, .ref a0), (1, .int a1)]) dX12_goes_85 (by decide) rfl ?_
            refine q_sub (ls' := [(0, .ref a0), (1, .int a1), (3, .int r13.1)]) [2, 3, 0] rfl ?_
            exact v_X12_goes_b86 (ih)
    · refine q_sub (ls' := [(0, .ref a0)]) [0] rfl ?_
      exact v_X12_goes_b102
set_option maxRecDepth 20000 in
theorem m_X12_goes {M : q_Mem} {a0 : Nat} {x : (Int32 × q_Mem)} (h : f_X12_goes M a0 = some x) : q_C Y_X12_goes [.ref a0] M (some (.int x.1)) x.2 := by
  refine q_met (φ := (fun x : Int32 × q_Mem => (some (.int x.1), x.2))) (r := f_X12_goes M a0) (by decide +kernel) (Nat.le_of_ble_eq_true rfl) ?_ h (fun _ _ => rfl)
  show q_V Y_X12_goes none (fun x : Int32 × q_Mem => (some (.int x.1), x.2)) 0 0 0 [(0, .ref a0)] [] M (f_X12_goes M a0)
  unfold f_X12_goes
  refine q_obV ?_
  refine q_aload_n 0 dX12_goes_0 rfl ?_
  refine q_iconst (x := (0 : Int32)) dX12_goes_1 rfl ?_
  refine q_putI (f := 18) cl_X12 (by decide) qw_1134 rfl (Or.inl rfl) dX12_goes_2 rfl (fun M1 h2 => ?_)
  refine q_iconst (x := (0 : Int32)) dX12_goes_5 rfl ?_
  refine q_istore_n (ls' := [(1, .int (0 : Int32)), (0, .ref a0)]) dX12_goes_6 (by decide) rfl ?_
  refine q_sub (ls' := [(0, .ref a0), (1, .int (0 : Int32))]) [1, 0] rfl ?_
  exact v_X12_goes_b7 _ _ _
theorem dX12_isText_0 : decode cX12_isText 0 = .ok (.iload_n 0, 1) := by decide +kernel
theorem dX12_isText_1 : decode cX12_isText 1 = .ok (.iconst 0, 1) := by decide +kernel
theorem dX12_isText_2 : decode cX12_isText 2 = .ok (.iconst 5, 1) := by decide +kernel
theorem dX12_isText_3 : decode cX12_isText 3 = .ok (.invokestatic 78, 3) := by decide +kernel
theorem dX12_isText_6 : decode cX12_isText 6 = .ok (.ireturn, 1) := by decide +kernel
def f_X12_isText (M : q_Mem) (a0 : Int32) : Option Int32 :=
  (f_X12_in M a0 (0 : Int32) (5 : Int32)).bind fun v2 =>
  (if v2 = 0 ∨ v2 = 1 then some v2 else none)
set_option maxRecDepth 20000 in
theorem m_X12_isText {M : q_Mem} {a0 : Int32} {x : Int32} (h : f_X12_isText M a0 = some x) : q_C Y_X12_isText [.int a0] M (some (.int x)) M := by
  refine q_met (φ := (fun x : Int32 => (some (.int x), M))) (r := f_X12_isText M a0) (by decide +kernel) (Nat.le_of_ble_eq_true rfl) ?_ h (fun _ _ => rfl)
  show q_V Y_X12_isText none (fun x : Int32 => (some (.int x), M)) 0 0 0 [(0, .int a0)] [] M (f_X12_isText M a0)
  unfold f_X12_isText
  refine q_iload_n 0 dX12_isText_0 rfl ?_
  refine q_iconst (x := (0 : Int32)) dX12_isText_1 rfl ?_
  refine q_iconst (x := (5 : Int32)) dX12_isText_2 rfl ?_
  refine q_cSI (Y2 := Y_X12_in) (As := [.int a0, .int (0 : Int32), .int (5 : Int32)]) (st := []) ms_X12_in qw_1214 dX12_isText_3 ⟨Nat.le_of_ble_eq_true rfl, Nat.le_of_ble_eq_true rfl⟩ rfl (fun _ _ => rfl) (Nat.le_of_ble_eq_true rfl) ⟨Nat.le_of_ble_eq_true rfl, Nat.le_of_ble_eq_true rfl⟩ (fun v2 h1 => m_X12_in h1) (fun v2 h1 => ?_)
  exact q_zret dX12_isText_6 rfl rfl (Nat.le_of_ble_eq_true rfl) rfl
theorem dX12_write_0 : decode cX12_write 0 = .ok (.iload_n 1, 1) := by decide +kernel
theorem dX12_write_1 : decode cX12_write 1 = .ok (.invokestatic 233, 3) := by decide +kernel
theorem dX12_write_4 : decode cX12_write 4 = .ok (.ifCond .eq 13, 3) := by decide +kernel
theorem dX12_write_7 : decode cX12_write 7 = .ok (.iload_n 2, 1) := by decide +kernel
theorem dX12_write_8 : decode cX12_write 8 = .ok (.iconst 0, 1) := by decide +kernel
theorem dX12_write_9 : decode cX12_write 9 = .ok (.bipush 127, 2) := by decide +kernel
theorem dX12_write_11 : decode cX12_write 11 = .ok (.invokestatic 78, 3) := by decide +kernel
theorem dX12_write_14 : decode cX12_write 14 = .ok (.ifCond .ne 6, 3) := by decide +kernel
theorem dX12_write_17 : decode cX12_write 17 = .ok (.bipush (-2), 2) := by decide +kernel
theorem dX12_write_19 : decode cX12_write 19 = .ok (.ireturn, 1) := by decide +kernel
theorem dX12_write_20 : decode cX12_write 20 = .ok (.sipush 3320, 3) := by decide +kernel
theorem dX12_write_23 : decode cX12_write 23 = .ok (.bipush 61, 2) := by decide +kernel
theorem dX12_write_25 : decode cX12_write 25 = .ok (.iload_n 1, 1) := by decide +kernel
theorem dX12_write_26 : decode cX12_write 26 = .ok (.imul, 1) := by decide +kernel
theorem dX12_write_27 : decode cX12_write 27 = .ok (.iadd, 1) := by decide +kernel
theorem dX12_write_28 : decode cX12_write 28 = .ok (.istore_n 3, 1) := by decide +kernel
theorem dX12_write_29 : decode cX12_write 29 = .ok (.aload_n 0, 1) := by decide +kernel
theorem dX12_write_30 : decode cX12_write 30 = .ok (.getfield 7, 3) := by decide +kernel
theorem dX12_write_33 : decode cX12_write 33 = .ok (.iload_n 3, 1) := by decide +kernel
theorem dX12_write_34 : decode cX12_write 34 = .ok (.iaload, 1) := by decide +kernel
theorem dX12_write_35 : decode cX12_write 35 = .ok (.bipush 60, 2) := by decide +kernel
theorem dX12_write_37 : decode cX12_write 37 = .ok (.if_icmp .ne 6, 3) := by decide +kernel
theorem dX12_write_40 : decode cX12_write 40 = .ok (.bipush (-4), 2) := by decide +kernel
theorem dX12_write_42 : decode cX12_write 42 = .ok (.ireturn, 1) := by decide +kernel
theorem dX12_write_43 : decode cX12_write 43 = .ok (.aload_n 0, 1) := by decide +kernel
theorem dX12_write_44 : decode cX12_write 44 = .ok (.getfield 7, 3) := by decide +kernel
theorem dX12_write_47 : decode cX12_write 47 = .ok (.iload_n 3, 1) := by decide +kernel
theorem dX12_write_48 : decode cX12_write 48 = .ok (.dup2, 1) := by decide +kernel
theorem dX12_write_49 : decode cX12_write 49 = .ok (.iaload, 1) := by decide +kernel
theorem dX12_write_50 : decode cX12_write 50 = .ok (.iconst 1, 1) := by decide +kernel
theorem dX12_write_51 : decode cX12_write 51 = .ok (.iadd, 1) := by decide +kernel
theorem dX12_write_52 : decode cX12_write 52 = .ok (.iastore, 1) := by decide +kernel
theorem dX12_write_53 : decode cX12_write 53 = .ok (.aload_n 0, 1) := by decide +kernel
theorem dX12_write_54 : decode cX12_write 54 = .ok (.getfield 7, 3) := by decide +kernel
theorem dX12_write_57 : decode cX12_write 57 = .ok (.iload_n 3, 1) := by decide +kernel
theorem dX12_write_58 : decode cX12_write 58 = .ok (.aload_n 0, 1) := by decide +kernel
theorem dX12_write_59 : decode cX12_write 59 = .ok (.getfield 7, 3) := by decide +kernel
theorem dX12_write_62 : decode cX12_write 62 = .ok (.iload_n 3, 1) := by decide +kernel
theorem dX12_write_63 : decode cX12_write 63 = .ok (.iaload, 1) := by decide +kernel
theorem dX12_write_64 : decode cX12_write 64 = .ok (.iadd, 1) := by decide +kernel
theorem dX12_write_65 : decode cX12_write 65 = .ok (.iload_n 2, 1) := by decide +kernel
theorem dX12_write_66 : decode cX12_write 66 = .ok (.iastore, 1) := by decide +kernel
theorem dX12_write_67 : decode cX12_write 67 = .ok (.aload_n 0, 1) := by decide +kernel
theorem dX12_write_68 : decode cX12_write 68 = .ok (.getfield 7, 3) := by decide +kernel
theorem dX12_write_71 : decode cX12_write 71 = .ok (.iload_n 3, 1) := by decide +kernel
theorem dX12_write_72 : decode cX12_write 72 = .ok (.iaload, 1) := by decide +kernel
theorem dX12_write_73 : decode cX12_write 73 = .ok (.ireturn, 1) := by decide +kernel
def f_X12_write (M : q_Mem) (a0 : Nat) (a1 : Int32) (a2 : Int32) : Option (Int32 × q_Mem) :=
  q_ob 11 M a0 ((f_X12_isText M a1).bind fun v2 =>
  (if v2 = 0 then
    some ((-2 : Int32), M)
  else
    (f_X12_in M a2 (0 : Int32) (127 : Int32)).bind fun v4 =>
    (if v4 = 0 then
      some ((-2 : Int32), M)
    else
      (q_gR 11 0 M a0).bind fun v5 =>
      (q_lI M v5 ((3320 : Int32) + ((61 : Int32) * a1))).bind fun v7 =>
      (if v7 = (60 : Int32) then
        some ((-4 : Int32), M)
      else
        (q_gR 11 0 M a0).bind fun v9 =>
        (q_lI M v9 ((3320 : Int32) + ((61 : Int32) * a1))).bind fun v11 =>
        (q_tI M v9 ((3320 : Int32) + ((61 : Int32) * a1)) (v11 + (1 : Int32))).bind fun M13 =>
        (q_gR 11 0 M13 a0).bind fun v15 =>
        (q_gR 11 0 M13 a0).bind fun v17 =>
        (q_lI M13 v17 ((3320 : Int32) + ((61 : Int32) * a1))).bind fun v19 =>
        (q_tI M13 v15 (((3320 : Int32) + ((61 : Int32) * a1)) + v19) a2).bind fun M21 =>
        (q_gR 11 0 M21 a0).bind fun v23 =>
        (q_lI M21 v23 ((3320 : Int32) + ((61 : Int32) * a1))).bind fun v25 =>
        some (v25, M21)))))
set_option maxRecDepth 20000 in
theorem m_X12_write {M : q_Mem} {a0 : Nat} {a1 : Int32} {a2 : Int32} {x : (Int32 × q_Mem)} (h : f_X12_write M a0 a1 a2 = some x) : q_C Y_X12_write [.ref a0, .int a1, .int a2] M (some (.int x.1)) x.2 := by
  refine q_met (φ := (fun x : Int32 × q_Mem => (some (.int x.1), x.2))) (r := f_X12_write M a0 a1 a2) (by decide +kernel) (Nat.le_of_ble_eq_true rfl) ?_ h (fun _ _ => rfl)
  show q_V Y_X12_write none (fun x : Int32 × q_Mem => (some (.int x.1), x.2)) 0 0 0 [(0, .ref a0), (1, .int a1), (2, .int a2)] [] M (f_X12_write M a0 a1 a2)
  unfold f_X12_write
  refine q_obV ?_
  refine q_iload_n 1 dX12_write_0 rfl ?_
  refine q_cSI (Y2 := Y_X12_isText) (As := [.int a1]) (st := []) ms_X12_isText qw_1384 dX12_write_1 ⟨Nat.le_of_ble_eq_true rfl, Nat.le_of_ble_eq_true rfl⟩ rfl (fun _ _ => rfl) (Nat.le_of_ble_eq_true rfl) ⟨Nat.le_of_ble_eq_true rfl, Nat.le_of_ble_eq_true rfl⟩ (fun v2 h1 => m_X12_isText h1) (fun v2 h1 => ?_)
  refine q_if_eq (tgt := 17) dX12_write_4 (by decide) (fun c29 => ?_) (fun c29 => ?_)
  · refine q_bipush (x := (-2 : Int32)) dX12_write_17 rfl ?_
    exact q_iret dX12_write_19 rfl rfl (Nat.le_of_ble_eq_true rfl) rfl
  · refine q_iload_n 2 dX12_write_7 rfl ?_
    refine q_iconst (x := (0 : Int32)) dX12_write_8 rfl ?_
    refine q_bipush (x := (127 : Int32)) dX12_write_9 rfl ?_
    refine q_cSI (Y2 := Y_X12_in) (As := [.int a2, .int (0 : Int32), .int (127 : Int32)]) (st := []) ms_X12_in qw_1214 dX12_write_11 ⟨Nat.le_of_ble_eq_true rfl, Nat.le_of_ble_eq_true rfl⟩ rfl (fun _ _ => rfl) (Nat.le_of_ble_eq_true rfl) ⟨Nat.le_of_ble_eq_true rfl, Nat.le_of_ble_eq_true rfl⟩ (fun v4 h3 => m_X12_in h3) (fun v4 h3 => ?_)
    refine q_if_ne (tgt := 20) dX12_write_14 (by decide) (fun c28 => ?_) (fun c28 => ?_)
    · refine q_bipush (x := (-2 : Int32)) dX12_write_17 rfl ?_
      exact q_iret dX12_write_19 rfl rfl (Nat.le_of_ble_eq_true rfl) rfl
    · refine q_sipush (x := (3320 : Int32)) dX12_write_20 rfl ?_
      refine q_bipush (x := (61 : Int32)) dX12_write_23 rfl ?_
      refine q_iload_n 1 dX12_write_25 rfl ?_
      refine q_imul dX12_write_26 ?_
      refine q_iadd dX12_write_27 ?_
      refine q_istore_n (ls' := [(3, .int ((3320 : Int32) + ((61 : Int32) * a1))), (0, .ref a0), (1, .int a1), (2, .int a2)]) dX12_write_28 (by decide) rfl ?_
      refine q_aload_n 1 dX12_write_29 rfl ?_
      refine q_getR (f := 0) cl_X12 (by decide) qw_1117 rfl dX12_write_30 (fun _ _ _ => rfl) (fun v5 h6 => ?_)
      refine q_iload_n 0 dX12_write_33 rfl ?_
      refine q_iald dX12_write_34 (fun v7 h8 => ?_)
      refine q_bipush (x := (60 : Int32)) dX12_write_35 rfl ?_
      refine q_icmp_ne (tgt := 43) dX12_write_37 (by decide) (fun c27 => ?_) (fun c27 => ?_)
      · refine q_bipush (x := (-4 : Int32)) dX12_write_40 rfl ?_
        exact q_iret dX12_write_42 rfl rfl (Nat.le_of_ble_eq_true rfl) rfl
      · refine q_aload_n 1 dX12_write_43 rfl ?_
        refine q_getR (f := 0) cl_X12 (by decide) qw_1117 rfl dX12_write_44 (fun _ _ _ => rfl) (fun v9 h10 => ?_)
        refine q_iload_n 0 dX12_write_47 rfl ?_
        refine q_dup2 dX12_write_48 rfl rfl ?_
        refine q_iald dX12_write_49 (fun v11 h12 => ?_)
        refine q_iconst (x := (1 : Int32)) dX12_write_50 rfl ?_
        refine q_iadd dX12_write_51 ?_
        refine q_iast dX12_write_52 (fun M13 h14 => ?_)
        refine q_aload_n 1 dX12_write_53 rfl ?_
        refine q_getR (f := 0) cl_X12 (by decide) qw_1117 rfl dX12_write_54 (fun _ _ _ => rfl) (fun v15 h16 => ?_)
        refine q_iload_n 0 dX12_write_57 rfl ?_
        refine q_aload_n 1 dX12_write_58 rfl ?_
        refine q_getR (f := 0) cl_X12 (by decide) qw_1117 rfl dX12_write_59 (fun _ _ _ => rfl) (fun v17 h18 => ?_)
        refine q_iload_n 0 dX12_write_62 rfl ?_
        refine q_iald dX12_write_63 (fun v19 h20 => ?_)
        refine q_iadd dX12_write_64 ?_
        refine q_iload_n 3 dX12_write_65 rfl ?_
        refine q_iast dX12_write_66 (fun M21 h22 => ?_)
        refine q_aload_n 1 dX12_write_67 rfl ?_
        refine q_getR (f := 0) cl_X12 (by decide) qw_1117 rfl dX12_write_68 (fun _ _ _ => rfl) (fun v23 h24 => ?_)
        refine q_iload_n 0 dX12_write_71 rfl ?_
        refine q_iald dX12_write_72 (fun v25 h26 => ?_)
        exact q_iret dX12_write_73 rfl rfl (Nat.le_of_ble_eq_true rfl) rfl
theorem dX12_erase_0 : decode cX12_erase 0 = .ok (.iload_n 1, 1) := by decide +kernel
theorem dX12_erase_1 : decode cX12_erase 1 = .ok (.invokestatic 233, 3) := by decide +kernel
theorem dX12_erase_4 : decode cX12_erase 4 = .ok (.ifCond .ne 6, 3) := by decide +kernel
theorem dX12_erase_7 : decode cX12_erase 7 = .ok (.bipush (-2), 2) := by decide +kernel
theorem dX12_erase_9 : decode cX12_erase 9 = .ok (.ireturn, 1) := by decide +kernel
theorem dX12_erase_10 : decode cX12_erase 10 = .ok (.aload_n 0, 1) := by decide +kernel
theorem dX12_erase_11 : decode cX12_erase 11 = .ok (.getfield 7, 3) := by decide +kernel
theorem dX12_erase_14 : decode cX12_erase 14 = .ok (.sipush 3320, 3) := by decide +kernel
theorem dX12_erase_17 : decode cX12_erase 17 = .ok (.bipush 61, 2) := by decide +kernel
theorem dX12_erase_19 : decode cX12_erase 19 = .ok (.iload_n 1, 1) := by decide +kernel
theorem dX12_erase_20 : decode cX12_erase 20 = .ok (.imul, 1) := by decide +kernel
theorem dX12_erase_21 : decode cX12_erase 21 = .ok (.iadd, 1) := by decide +kernel
theorem dX12_erase_22 : decode cX12_erase 22 = .ok (.iaload, 1) := by decide +kernel
theorem dX12_erase_23 : decode cX12_erase 23 = .ok (.istore_n 2, 1) := by decide +kernel
theorem dX12_erase_24 : decode cX12_erase 24 = .ok (.aload_n 0, 1) := by decide +kernel
theorem dX12_erase_25 : decode cX12_erase 25 = .ok (.getfield 7, 3) := by decide +kernel
theorem dX12_erase_28 : decode cX12_erase 28 = .ok (.sipush 3320, 3) := by decide +kernel
theorem dX12_erase_31 : decode cX12_erase 31 = .ok (.bipush 61, 2) := by decide +kernel
theorem dX12_erase_33 : decode cX12_erase 33 = .ok (.iload_n 1, 1) := by decide +kernel
theorem dX12_erase_34 : decode cX12_erase 34 = .ok (.imul, 1) := by decide +kernel
theorem dX12_erase_35 : decode cX12_erase 35 = .ok (.iadd, 1) := by decide +kernel
theorem dX12_erase_36 : decode cX12_erase 36 = .ok (.iconst 0, 1) := by decide +kernel
theorem dX12_erase_37 : decode cX12_erase 37 = .ok (.iastore, 1) := by decide +kernel
theorem dX12_erase_38 : decode cX12_erase 38 = .ok (.iload_n 2, 1) := by decide +kernel
theorem dX12_erase_39 : decode cX12_erase 39 = .ok (.ireturn, 1) := by decide +kernel
def f_X12_erase (M : q_Mem) (a0 : Nat) (a1 : Int32) : Option (Int32 × q_Mem) :=
  q_ob 11 M a0 ((f_X12_isText M a1).bind fun v2 =>
  (if v2 = 0 then
    some ((-2 : Int32), M)
  else
    (q_gR 11 0 M a0).bind fun v3 =>
    (q_lI M v3 ((3320 : Int32) + ((61 : Int32) * a1))).bind fun v5 =>
    (q_gR 11 0 M a0).bind fun v7 =>
    (q_tI M v7 ((3320 : Int32) + ((61 : Int32) * a1)) (0 : Int32)).bind fun M9 =>
    some (v5, M9)))
set_option maxRecDepth 20000 in
theorem m_X12_erase {M : q_Mem} {a0 : Nat} {a1 : Int32} {x : (Int32 × q_Mem)} (h : f_X12_erase M a0 a1 = some x) : q_C Y_X12_erase [.ref a0, .int a1] M (some (.int x.1)) x.2 := by
  refine q_met (φ := (fun x : Int32 × q_Mem => (some (.int x.1), x.2))) (r := f_X12_erase M a0 a1) (by decide +kernel) (Nat.le_of_ble_eq_true rfl) ?_ h (fun _ _ => rfl)
  show q_V Y_X12_erase none (fun x : Int32 × q_Mem => (some (.int x.1), x.2)) 0 0 0 [(0, .ref a0), (1, .int a1)] [] M (f_X12_erase M a0 a1)
  unfold f_X12_erase
  refine q_obV ?_
  refine q_iload_n 1 dX12_erase_0 rfl ?_
  refine q_cSI (Y2 := Y_X12_isText) (As := [.int a1]) (st := []) ms_X12_isText qw_1384 dX12_erase_1 ⟨Nat.le_of_ble_eq_true rfl, Nat.le_of_ble_eq_true rfl⟩ rfl (fun _ _ => rfl) (Nat.le_of_ble_eq_true rfl) ⟨Nat.le_of_ble_eq_true rfl, Nat.le_of_ble_eq_true rfl⟩ (fun v2 h1 => m_X12_isText h1) (fun v2 h1 => ?_)
  refine q_if_ne (tgt := 10) dX12_erase_4 (by decide) (fun c11 => ?_) (fun c11 => ?_)
  · refine q_bipush (x := (-2 : Int32)) dX12_erase_7 rfl ?_
    exact q_iret dX12_erase_9 rfl rfl (Nat.le_of_ble_eq_true rfl) rfl
  · refine q_aload_n 0 dX12_erase_10 rfl ?_
    refine q_getR (f := 0) cl_X12 (by decide) qw_1117 rfl dX12_erase_11 (fun _ _ _ => rfl) (fun v3 h4 => ?_)
    refine q_sipush (x := (3320 : Int32)) dX12_erase_14 rfl ?_
    refine q_bipush (x := (61 : Int32)) dX12_erase_17 rfl ?_
    refine q_iload_n 1 dX12_erase_19 rfl ?_
    refine q_imul dX12_erase_20 ?_
    refine q_iadd dX12_erase_21 ?_
    refine q_iald dX12_erase_22 (fun v5 h6 => ?_)
    refine q_istore_n (ls' := [(2, .int v5), (0, .ref a0), (1, .int a1)]) dX12_erase_23 (by decide) rfl ?_
    refine q_aload_n 1 dX12_erase_24 rfl ?_
    refine q_getR (f := 0) cl_X12 (by decide) qw_1117 rfl dX12_erase_25 (fun _ _ _ => rfl) (fun v7 h8 => ?_)
    refine q_sipush (x := (3320 : Int32)) dX12_erase_28 rfl ?_
    refine q_bipush (x := (61 : Int32)) dX12_erase_31 rfl ?_
    refine q_iload_n 2 dX12_erase_33 rfl ?_
    refine q_imul dX12_erase_34 ?_
    refine q_iadd dX12_erase_35 ?_
    refine q_iconst (x := (0 : Int32)) dX12_erase_36 rfl ?_
    refine q_iast dX12_erase_37 (fun M9 h10 => ?_)
    refine q_iload_n 0 dX12_erase_38 rfl ?_
    exact q_iret dX12_erase_39 rfl rfl (Nat.le_of_ble_eq_true rfl) rfl
theorem dX12_fault_0 : decode cX12_fault 0 = .ok (.iload_n 1, 1) := by decide +kernel
theorem dX12_fault_1 : decode cX12_fault 1 = .ok (.invokestatic 233, 3) := by decide +kernel
theorem dX12_fault_4 : decode cX12_fault 4 = .ok (.ifCond .eq 18, 3) := by decide +kernel
theorem dX12_fault_7 : decode cX12_fault 7 = .ok (.aload_n 0, 1) := by decide +kernel
theorem dX12_fault_8 : decode cX12_fault 8 = .ok (.sipush 3320, 3) := by decide +kernel
theorem dX12_fault_11 : decode cX12_fault 11 = .ok (.bipush 61, 2) := by decide +kernel
theorem dX12_fault_13 : decode cX12_fault 13 = .ok (.iload_n 1, 1) := by decide +kernel
theorem dX12_fault_14 : decode cX12_fault 14 = .ok (.imul, 1) := by decide +kernel
theorem dX12_fault_15 : decode cX12_fault 15 = .ok (.iadd, 1) := by decide +kernel
theorem dX12_fault_16 : decode cX12_fault 16 = .ok (.invokevirtual 236, 3) := by decide +kernel
theorem dX12_fault_19 : decode cX12_fault 19 = .ok (.goto 5, 3) := by decide +kernel
theorem dX12_fault_22 : decode cX12_fault 22 = .ok (.bipush (-2), 2) := by decide +kernel
theorem dX12_fault_24 : decode cX12_fault 24 = .ok (.ireturn, 1) := by decide +kernel
def f_X12_fault (M : q_Mem) (a0 : Nat) (a1 : Int32) : Option (Int32 × q_Mem) :=
  q_ob 11 M a0 ((f_X12_isText M a1).bind fun v2 =>
  (if v2 = 0 then
    some ((-2 : Int32), M)
  else
    (f_X12_reads M a0 ((3320 : Int32) + ((61 : Int32) * a1))).bind fun r4 =>
    some (r4.1, r4.2)))
set_option maxRecDepth 20000 in
theorem m_X12_fault {M : q_Mem} {a0 : Nat} {a1 : Int32} {x : (Int32 × q_Mem)} (h : f_X12_fault M a0 a1 = some x) : q_C Y_X12_fault [.ref a0, .int a1] M (some (.int x.1)) x.2 := by
  refine q_met (φ := (fun x : Int32 × q_Mem => (some (.int x.1), x.2))) (r := f_X12_fault M a0 a1) (by decide +kernel) (Nat.le_of_ble_eq_true rfl) ?_ h (fun _ _ => rfl)
  show q_V Y_X12_fault none (fun x : Int32 × q_Mem => (some (.int x.1), x.2)) 0 0 0 [(0, .ref a0), (1, .int a1)] [] M (f_X12_fault M a0 a1)
  unfold f_X12_fault
  refine q_obV ?_
  refine q_iload_n 1 dX12_fault_0 rfl ?_
  refine q_cSI (Y2 := Y_X12_isText) (As := [.int a1]) (st := []) ms_X12_isText qw_1384 dX12_fault_1 ⟨Nat.le_of_ble_eq_true rfl, Nat.le_of_ble_eq_true rfl⟩ rfl (fun _ _ => rfl) (Nat.le_of_ble_eq_true rfl) ⟨Nat.le_of_ble_eq_true rfl, Nat.le_of_ble_eq_true rfl⟩ (fun v2 h1 => m_X12_isText h1) (fun v2 h1 => ?_)
  refine q_if_eq (tgt := 22) dX12_fault_4 (by decide) (fun c5 => ?_) (fun c5 => ?_)
  · refine q_bipush (x := (-2 : Int32)) dX12_fault_22 rfl ?_
    exact q_iret dX12_fault_24 rfl rfl (Nat.le_of_ble_eq_true rfl) rfl
  · refine q_aload_n 0 dX12_fault_7 rfl ?_
    refine q_sipush (x := (3320 : Int32)) dX12_fault_8 rfl ?_
    refine q_bipush (x := (61 : Int32)) dX12_fault_11 rfl ?_
    refine q_iload_n 1 dX12_fault_13 rfl ?_
    refine q_imul dX12_fault_14 ?_
    refine q_iadd dX12_fault_15 ?_
    refine q_cVMI (Y2 := Y_X12_reads) (As := [.int ((3320 : Int32) + ((61 : Int32) * a1))]) (b := a0) (st := []) cl_X12 mv_X12_reads qw_1395 dX12_fault_16 ⟨Nat.le_of_ble_eq_true rfl, Nat.le_of_ble_eq_true rfl⟩ rfl (fun _ _ => rfl) (Nat.le_of_ble_eq_true rfl) ⟨Nat.le_of_ble_eq_true rfl, Nat.le_of_ble_eq_true rfl⟩ (fun r4 h3 => q_ob_is h3) (fun r4 h3 => m_X12_reads h3) (fun r4 h3 => ?_)
    refine q_goto (tgt := 24) dX12_fault_19 (by decide) ?_
    exact q_iret dX12_fault_24 rfl rfl (Nat.le_of_ble_eq_true rfl) rfl
theorem dX12_tells_0 : decode cX12_tells 0 = .ok (.iload_n 1, 1) := by decide +kernel
theorem dX12_tells_1 : decode cX12_tells 1 = .ok (.invokestatic 233, 3) := by decide +kernel
theorem dX12_tells_4 : decode cX12_tells 4 = .ok (.ifCond .eq 27, 3) := by decide +kernel
theorem dX12_tells_7 : decode cX12_tells 7 = .ok (.aload_n 0, 1) := by decide +kernel
theorem dX12_tells_8 : decode cX12_tells 8 = .ok (.iconst 0, 1) := by decide +kernel
theorem dX12_tells_9 : decode cX12_tells 9 = .ok (.iload_n 2, 1) := by decide +kernel
theorem dX12_tells_10 : decode cX12_tells 10 = .ok (.invokevirtual 86, 3) := by decide +kernel
theorem dX12_tells_13 : decode cX12_tells 13 = .ok (.ifCond .eq 18, 3) := by decide +kernel
theorem dX12_tells_16 : decode cX12_tells 16 = .ok (.iload_n 3, 1) := by decide +kernel
theorem dX12_tells_17 : decode cX12_tells 17 = .ok (.invokestatic 120, 3) := by decide +kernel
theorem dX12_tells_20 : decode cX12_tells 20 = .ok (.ifCond .eq 11, 3) := by decide +kernel
theorem dX12_tells_23 : decode cX12_tells 23 = .ok (.iload 4, 2) := by decide +kernel
theorem dX12_tells_25 : decode cX12_tells 25 = .ok (.invokestatic 90, 3) := by decide +kernel
theorem dX12_tells_28 : decode cX12_tells 28 = .ok (.ifCond .ne 7, 3) := by decide +kernel
theorem dX12_tells_31 : decode cX12_tells 31 = .ok (.ldc2_w 239, 3) := by decide +kernel
theorem dX12_tells_34 : decode cX12_tells 34 = .ok (.lreturn, 1) := by decide +kernel
theorem dX12_tells_35 : decode cX12_tells 35 = .ok (.aload_n 0, 1) := by decide +kernel
theorem dX12_tells_36 : decode cX12_tells 36 = .ok (.sipush 3320, 3) := by decide +kernel
theorem dX12_tells_39 : decode cX12_tells 39 = .ok (.bipush 61, 2) := by decide +kernel
theorem dX12_tells_41 : decode cX12_tells 41 = .ok (.iload_n 1, 1) := by decide +kernel
theorem dX12_tells_42 : decode cX12_tells 42 = .ok (.imul, 1) := by decide +kernel
theorem dX12_tells_43 : decode cX12_tells 43 = .ok (.iadd, 1) := by decide +kernel
theorem dX12_tells_44 : decode cX12_tells 44 = .ok (.invokevirtual 236, 3) := by decide +kernel
theorem dX12_tells_47 : decode cX12_tells 47 = .ok (.iconst (-1), 1) := by decide +kernel
theorem dX12_tells_48 : decode cX12_tells 48 = .ok (.if_icmp .eq 7, 3) := by decide +kernel
theorem dX12_tells_51 : decode cX12_tells 51 = .ok (.ldc2_w 241, 3) := by decide +kernel
theorem dX12_tells_54 : decode cX12_tells 54 = .ok (.lreturn, 1) := by decide +kernel
theorem dX12_tells_55 : decode cX12_tells 55 = .ok (.aload_n 0, 1) := by decide +kernel
theorem dX12_tells_56 : decode cX12_tells 56 = .ok (.iload 4, 2) := by decide +kernel
theorem dX12_tells_58 : decode cX12_tells 58 = .ok (.invokevirtual 113, 3) := by decide +kernel
theorem dX12_tells_61 : decode cX12_tells 61 = .ok (.aload_n 0, 1) := by decide +kernel
theorem dX12_tells_62 : decode cX12_tells 62 = .ok (.iload_n 2, 1) := by decide +kernel
theorem dX12_tells_63 : decode cX12_tells 63 = .ok (.iload_n 3, 1) := by decide +kernel
theorem dX12_tells_64 : decode cX12_tells 64 = .ok (.invokevirtual 243, 3) := by decide +kernel
theorem dX12_tells_67 : decode cX12_tells 67 = .ok (.aload_n 0, 1) := by decide +kernel
theorem dX12_tells_68 : decode cX12_tells 68 = .ok (.invokevirtual 247, 3) := by decide +kernel
theorem dX12_tells_71 : decode cX12_tells 71 = .ok (.ifCond .eq 12, 3) := by decide +kernel
theorem dX12_tells_74 : decode cX12_tells 74 = .ok (.aload_n 0, 1) := by decide +kernel
theorem dX12_tells_75 : decode cX12_tells 75 = .ok (.getfield 48, 3) := by decide +kernel
theorem dX12_tells_78 : decode cX12_tells 78 = .ok (.iconst 0, 1) := by decide +kernel
theorem dX12_tells_79 : decode cX12_tells 79 = .ok (.laload, 1) := by decide +kernel
theorem dX12_tells_80 : decode cX12_tells 80 = .ok (.goto 6, 3) := by decide +kernel
theorem dX12_tells_83 : decode cX12_tells 83 = .ok (.ldc2_w 251, 3) := by decide +kernel
theorem dX12_tells_86 : decode cX12_tells 86 = .ok (.lreturn, 1) := by decide +kernel
def f_X12_tells (M : q_Mem) (a0 : Nat) (a1 : Int32) (a2 : Int32) (a3 : Int32) (a4 : Int32) : Option (Int64 × q_Mem) :=
  q_ob 11 M a0 ((f_X12_isText M a1).bind fun v2 =>
  (if v2 = 0 then
    some ((-2000000000000000000 : Int64), M)
  else
    (f_X12_is M a0 (0 : Int32) a2).bind fun v4 =>
    (if v4 = 0 then
      some ((-2000000000000000000 : Int64), M)
    else
      (f_X12_isWeek M a3).bind fun v6 =>
      (if v6 = 0 then
        some ((-2000000000000000000 : Int64), M)
      else
        (f_X12_isDay M a4).bind fun v8 =>
        (if v8 = 0 then
          some ((-2000000000000000000 : Int64), M)
        else
          (f_X12_reads M a0 ((3320 : Int32) + ((61 : Int32) * a1))).bind fun r10 =>
          (if r10.1 = (-1 : Int32) then
            (f_X12_findRates r10.2 a0 a4).bind fun M13 =>
            (f_X12_findNames M13 a0 a2 a3).bind fun M16 =>
            (f_X12_goes M16 a0).bind fun r18 =>
            (if r18.1 = 0 then
              some ((-1000000000000000000 : Int64), r18.2)
            else
              (q_gR 11 16 r18.2 a0).bind fun v19 =>
              (q_lJ r18.2 v19 (0 : Int32)).bind fun v21 =>
              some (v21, r18.2))
          else
            some ((-3000000000000000000 : Int64), r10.2)))))))
set_option maxRecDepth 20000 in
theorem m_X12_tells {M : q_Mem} {a0 : Nat} {a1 : Int32} {a2 : Int32} {a3 : Int32} {a4 : Int32} {x : (Int64 × q_Mem)} (h : f_X12_tells M a0 a1 a2 a3 a4 = some x) : q_C Y_X12_tells [.ref a0, .int a1, .int a2, .int a3, .int a4] M (some (.long x.1)) x.2 := by
  refine q_met (φ := (fun x : Int64 × q_Mem => (some (.long x.1), x.2))) (r := f_X12_tells M a0 a1 a2 a3 a4) (by decide +kernel) (Nat.le_of_ble_eq_true rfl) ?_ h (fun _ _ => rfl)
  show q_V Y_X12_tells none (fun x : Int64 × q_Mem => (some (.long x.1), x.2)) 0 0 0 [(0, .ref a0), (1, .int a1), (2, .int a2), (3, .int a3), (4, .int a4)] [] M (f_X12_tells M a0 a1 a2 a3 a4)
  unfold f_X12_tells
  refine q_obV ?_
  refine q_iload_n 1 dX12_tells_0 rfl ?_
  refine q_cSI (Y2 := Y_X12_isText) (As := [.int a1]) (st := []) ms_X12_isText qw_1384 dX12_tells_1 ⟨Nat.le_of_ble_eq_true rfl, Nat.le_of_ble_eq_true rfl⟩ rfl (fun _ _ => rfl) (Nat.le_of_ble_eq_true rfl) ⟨Nat.le_of_ble_eq_true rfl, Nat.le_of_ble_eq_true rfl⟩ (fun v2 h1 => m_X12_isText h1) (fun v2 h1 => ?_)
  refine q_if_eq (tgt := 31) dX12_tells_4 (by decide) (fun c28 => ?_) (fun c28 => ?_)
  · refine q_ldc2 (x := (-2000000000000000000 : Int64)) qw_1436 dX12_tells_31 ?_
    exact q_lret dX12_tells_34 rfl rfl (Nat.le_of_ble_eq_true rfl) rfl
  · refine q_aload_n 0 dX12_tells_7 rfl ?_
    refine q_iconst (x := (0 : Int32)) dX12_tells_8 rfl ?_
    refine q_iload_n 2 dX12_tells_9 rfl ?_
    refine q_cVI (Y2 := Y_X12_is) (As := [.int (0 : Int32), .int a2]) (b := a0) (st := []) cl_X12 mv_X12_is qw_1225 dX12_tells_10 ⟨Nat.le_of_ble_eq_true rfl, Nat.le_of_ble_eq_true rfl⟩ rfl (fun _ _ => rfl) (Nat.le_of_ble_eq_true rfl) ⟨Nat.le_of_ble_eq_true rfl, Nat.le_of_ble_eq_true rfl⟩ (fun v4 h3 => q_ob_is h3) (fun v4 h3 => m_X12_is h3) (fun v4 h3 => ?_)
    refine q_if_eq (tgt := 31) dX12_tells_13 (by decide) (fun c27 => ?_) (fun c27 => ?_)
    · refine q_ldc2 (x := (-2000000000000000000 : Int64)) qw_1436 dX12_tells_31 ?_
      exact q_lret dX12_tells_34 rfl rfl (Nat.le_of_ble_eq_true rfl) rfl
    · refine q_iload_n 3 dX12_tells_16 rfl ?_
      refine q_cSI (Y2 := Y_X12_isWeek) (As := [.int a3]) (st := []) ms_X12_isWeek qw_1296 dX12_tells_17 ⟨Nat.le_of_ble_eq_true rfl, Nat.le_of_ble_eq_true rfl⟩ rfl (fun _ _ => rfl) (Nat.le_of_ble_eq_true rfl) ⟨Nat.le_of_ble_eq_true rfl, Nat.le_of_ble_eq_true rfl⟩ (fun v6 h5 => m_X12_isWeek h5) (fun v6 h5 => ?_)
      refine q_if_eq (tgt := 31) dX12_tells_20 (by decide) (fun c26 => ?_) (fun c26 => ?_)
      · refine q_ldc2 (x := (-2000000000000000000 : Int64)) qw_1436 dX12_tells_31 ?_
        exact q_lret dX12_tells_34 rfl rfl (Nat.le_of_ble_eq_true rfl) rfl
      · refine q_iload 4 dX12_tells_23 rfl ?_
        refine q_cSI (Y2 := Y_X12_isDay) (As := [.int a4]) (st := []) ms_X12_isDay qw_1233 dX12_tells_25 ⟨Nat.le_of_ble_eq_true rfl, Nat.le_of_ble_eq_true rfl⟩ rfl (fun _ _ => rfl) (Nat.le_of_ble_eq_true rfl) ⟨Nat.le_of_ble_eq_true rfl, Nat.le_of_ble_eq_true rfl⟩ (fun v8 h7 => m_X12_isDay h7) (fun v8 h7 => ?_)
        refine q_if_ne (tgt := 35) dX12_tells_28 (by decide) (fun c25 => ?_) (fun c25 => ?_)
        · refine q_ldc2 (x := (-2000000000000000000 : Int64)) qw_1436 dX12_tells_31 ?_
          exact q_lret dX12_tells_34 rfl rfl (Nat.le_of_ble_eq_true rfl) rfl
        · refine q_aload_n 0 dX12_tells_35 rfl ?_
          refine q_sipush (x := (3320 : Int32)) dX12_tells_36 rfl ?_
          refine q_bipush (x := (61 : Int32)) dX12_tells_39 rfl ?_
          refine q_iload_n 1 dX12_tells_41 rfl ?_
          refine q_imul dX12_tells_42 ?_
          refine q_iadd dX12_tells_43 ?_
          refine q_cVMI (Y2 := Y_X12_reads) (As := [.int ((3320 : Int32) + ((61 : Int32) * a1))]) (b := a0) (st := []) cl_X12 mv_X12_reads qw_1395 dX12_tells_44 ⟨Nat.le_of_ble_eq_true rfl, Nat.le_of_ble_eq_true rfl⟩ rfl (fun _ _ => rfl) (Nat.le_of_ble_eq_true rfl) ⟨Nat.le_of_ble_eq_true rfl, Nat.le_of_ble_eq_true rfl⟩ (fun r10 h9 => q_ob_is h9) (fun r10 h9 => m_X12_reads h9) (fun r10 h9 => ?_)
          refine q_iconst (x := (-1 : Int32)) dX12_tells_47 rfl ?_
          refine q_icmp_eq (tgt := 55) dX12_tells_48 (by decide) (fun c24 => ?_) (fun c24 => ?_)
          · refine q_aload_n 0 dX12_tells_55 rfl ?_
            refine q_iload 4 dX12_tells_56 rfl ?_
            refine q_cVM (Y2 := Y_X12_findRates) (As := [.int a4]) (b := a0) (st := []) cl_X12 mv_X12_findRates qw_1280 dX12_tells_58 ⟨Nat.le_of_ble_eq_true rfl, Nat.le_of_ble_eq_true rfl⟩ rfl (fun _ _ => rfl) (Nat.le_of_ble_eq_true rfl) ⟨Nat.le_of_ble_eq_true rfl, Nat.le_of_ble_eq_true rfl⟩ (fun M13 h11 => q_ob_is h11) (fun M13 h11 => m_X12_findRates h11) (fun M13 h11 => ?_)
            refine q_aload_n 0 dX12_tells_61 rfl ?_
            refine q_iload_n 2 dX12_tells_62 rfl ?_
            refine q_iload_n 3 dX12_tells_63 rfl ?_
            refine q_cVM (Y2 := Y_X12_findNames) (As := [.int a2, .int a3]) (b := a0) (st := []) cl_X12 mv_X12_findNames qw_1438 dX12_tells_64 ⟨Nat.le_of_ble_eq_true rfl, Nat.le_of_ble_eq_true rfl⟩ rfl (fun _ _ => rfl) (Nat.le_of_ble_eq_true rfl) ⟨Nat.le_of_ble_eq_true rfl, Nat.le_of_ble_eq_true rfl⟩ (fun M16 h14 => q_ob_is h14) (fun M16 h14 => m_X12_findNames h14) (fun M16 h14 => ?_)
            refine q_aload_n 0 dX12_tells_67 rfl ?_
            refine q_cVMI (Y2 := Y_X12_goes) (As := []) (b := a0) (st := []) cl_X12 mv_X12_goes qw_1459 dX12_tells_68 ⟨Nat.le_of_ble_eq_true rfl, Nat.le_of_ble_eq_true rfl⟩ rfl (fun _ _ => rfl) (Nat.le_of_ble_eq_true rfl) ⟨Nat.le_of_ble_eq_true rfl, Nat.le_of_ble_eq_true rfl⟩ (fun r18 h17 => q_ob_is h17) (fun r18 h17 => m_X12_goes h17) (fun r18 h17 => ?_)
            refine q_if_eq (tgt := 83) dX12_tells_71 (by decide) (fun c23 => ?_) (fun c23 => ?_)
            · refine q_ldc2 (x := (-1000000000000000000 : Int64)) qw_1478 dX12_tells_83 ?_
              exact q_lret dX12_tells_86 rfl rfl (Nat.le_of_ble_eq_true rfl) rfl
            · refine q_aload_n 0 dX12_tells_74 rfl ?_
              refine q_getR (f := 16) cl_X12 (by decide) qw_1132 rfl dX12_tells_75 (fun _ _ _ => rfl) (fun v19 h20 => ?_)
              refine q_iconst (x := (0 : Int32)) dX12_tells_78 rfl ?_
              refine q_lald dX12_tells_79 (fun v21 h22 => ?_)
              refine q_goto (tgt := 86) dX12_tells_80 (by decide) ?_
              exact q_lret dX12_tells_86 rfl rfl (Nat.le_of_ble_eq_true rfl) rfl
          · refine q_ldc2 (x := (-3000000000000000000 : Int64)) qw_1437 dX12_tells_51 ?_
            exact q_lret dX12_tells_54 rfl rfl (Nat.le_of_ble_eq_true rfl) rfl
theorem dX12_motion_0 : decode cX12_motion 0 = .ok (.iload_n 1, 1) := by decide +kernel
theorem dX12_motion_1 : decode cX12_motion 1 = .ok (.invokestatic 233, 3) := by decide +kernel
theorem dX12_motion_4 : decode cX12_motion 4 = .ok (.ifCond .eq 10, 3) := by decide +kernel
theorem dX12_motion_7 : decode cX12_motion 7 = .ok (.iload_n 2, 1) := by decide +kernel
theorem dX12_motion_8 : decode cX12_motion 8 = .ok (.invokestatic 90, 3) := by decide +kernel
theorem dX12_motion_11 : decode cX12_motion 11 = .ok (.ifCond .ne 6, 3) := by decide +kernel
theorem dX12_motion_14 : decode cX12_motion 14 = .ok (.bipush (-2), 2) := by decide +kernel
theorem dX12_motion_16 : decode cX12_motion 16 = .ok (.ireturn, 1) := by decide +kernel
theorem dX12_motion_17 : decode cX12_motion 17 = .ok (.aload_n 0, 1) := by decide +kernel
theorem dX12_motion_18 : decode cX12_motion 18 = .ok (.sipush 3320, 3) := by decide +kernel
theorem dX12_motion_21 : decode cX12_motion 21 = .ok (.bipush 61, 2) := by decide +kernel
theorem dX12_motion_23 : decode cX12_motion 23 = .ok (.iload_n 1, 1) := by decide +kernel
theorem dX12_motion_24 : decode cX12_motion 24 = .ok (.imul, 1) := by decide +kernel
theorem dX12_motion_25 : decode cX12_motion 25 = .ok (.iadd, 1) := by decide +kernel
theorem dX12_motion_26 : decode cX12_motion 26 = .ok (.invokevirtual 236, 3) := by decide +kernel
theorem dX12_motion_29 : decode cX12_motion 29 = .ok (.iconst (-1), 1) := by decide +kernel
theorem dX12_motion_30 : decode cX12_motion 30 = .ok (.if_icmp .eq 6, 3) := by decide +kernel
theorem dX12_motion_33 : decode cX12_motion 33 = .ok (.bipush (-3), 2) := by decide +kernel
theorem dX12_motion_35 : decode cX12_motion 35 = .ok (.ireturn, 1) := by decide +kernel
theorem dX12_motion_36 : decode cX12_motion 36 = .ok (.aload_n 0, 1) := by decide +kernel
theorem dX12_motion_37 : decode cX12_motion 37 = .ok (.getfield 7, 3) := by decide +kernel
theorem dX12_motion_40 : decode cX12_motion 40 = .ok (.iconst 5, 1) := by decide +kernel
theorem dX12_motion_41 : decode cX12_motion 41 = .ok (.iaload, 1) := by decide +kernel
theorem dX12_motion_42 : decode cX12_motion 42 = .ok (.bipush 10, 2) := by decide +kernel
theorem dX12_motion_44 : decode cX12_motion 44 = .ok (.if_icmp .ne 6, 3) := by decide +kernel
theorem dX12_motion_47 : decode cX12_motion 47 = .ok (.bipush (-4), 2) := by decide +kernel
theorem dX12_motion_49 : decode cX12_motion 49 = .ok (.ireturn, 1) := by decide +kernel
theorem dX12_motion_50 : decode cX12_motion 50 = .ok (.sipush 3686, 3) := by decide +kernel
theorem dX12_motion_53 : decode cX12_motion 53 = .ok (.bipush 84, 2) := by decide +kernel
theorem dX12_motion_55 : decode cX12_motion 55 = .ok (.aload_n 0, 1) := by decide +kernel
theorem dX12_motion_56 : decode cX12_motion 56 = .ok (.getfield 7, 3) := by decide +kernel
theorem dX12_motion_59 : decode cX12_motion 59 = .ok (.iconst 5, 1) := by decide +kernel
theorem dX12_motion_60 : decode cX12_motion 60 = .ok (.iaload, 1) := by decide +kernel
theorem dX12_motion_61 : decode cX12_motion 61 = .ok (.imul, 1) := by decide +kernel
theorem dX12_motion_62 : decode cX12_motion 62 = .ok (.iadd, 1) := by decide +kernel
theorem dX12_motion_63 : decode cX12_motion 63 = .ok (.istore 4, 2) := by decide +kernel
theorem dX12_motion_65 : decode cX12_motion 65 = .ok (.iconst 0, 1) := by decide +kernel
theorem dX12_motion_66 : decode cX12_motion 66 = .ok (.istore 5, 2) := by decide +kernel
theorem dX12_motion_68 : decode cX12_motion 68 = .ok (.iload 5, 2) := by decide +kernel
theorem dX12_motion_70 : decode cX12_motion 70 = .ok (.bipush 61, 2) := by decide +kernel
theorem dX12_motion_72 : decode cX12_motion 72 = .ok (.if_icmp .ge 35, 3) := by decide +kernel
theorem dX12_motion_75 : decode cX12_motion 75 = .ok (.aload_n 0, 1) := by decide +kernel
theorem dX12_motion_76 : decode cX12_motion 76 = .ok (.getfield 7, 3) := by decide +kernel
theorem dX12_motion_79 : decode cX12_motion 79 = .ok (.iload 4, 2) := by decide +kernel
theorem dX12_motion_81 : decode cX12_motion 81 = .ok (.iload 5, 2) := by decide +kernel
theorem dX12_motion_83 : decode cX12_motion 83 = .ok (.iadd, 1) := by decide +kernel
theorem dX12_motion_84 : decode cX12_motion 84 = .ok (.aload_n 0, 1) := by decide +kernel
theorem dX12_motion_85 : decode cX12_motion 85 = .ok (.getfield 7, 3) := by decide +kernel
theorem dX12_motion_88 : decode cX12_motion 88 = .ok (.sipush 3320, 3) := by decide +kernel
theorem dX12_motion_91 : decode cX12_motion 91 = .ok (.bipush 61, 2) := by decide +kernel
theorem dX12_motion_93 : decode cX12_motion 93 = .ok (.iload_n 1, 1) := by decide +kernel
theorem dX12_motion_94 : decode cX12_motion 94 = .ok (.imul, 1) := by decide +kernel
theorem dX12_motion_95 : decode cX12_motion 95 = .ok (.iadd, 1) := by decide +kernel
theorem dX12_motion_96 : decode cX12_motion 96 = .ok (.iload 5, 2) := by decide +kernel
theorem dX12_motion_98 : decode cX12_motion 98 = .ok (.iadd, 1) := by decide +kernel
theorem dX12_motion_99 : decode cX12_motion 99 = .ok (.iaload, 1) := by decide +kernel
theorem dX12_motion_100 : decode cX12_motion 100 = .ok (.iastore, 1) := by decide +kernel
theorem dX12_motion_101 : decode cX12_motion 101 = .ok (.iinc 5 1, 3) := by decide +kernel
theorem dX12_motion_104 : decode cX12_motion 104 = .ok (.goto (-36), 3) := by decide +kernel
theorem dX12_motion_107 : decode cX12_motion 107 = .ok (.aload_n 0, 1) := by decide +kernel
theorem dX12_motion_108 : decode cX12_motion 108 = .ok (.getfield 7, 3) := by decide +kernel
theorem dX12_motion_111 : decode cX12_motion 111 = .ok (.iload 4, 2) := by decide +kernel
theorem dX12_motion_113 : decode cX12_motion 113 = .ok (.bipush 61, 2) := by decide +kernel
theorem dX12_motion_115 : decode cX12_motion 115 = .ok (.iadd, 1) := by decide +kernel
theorem dX12_motion_116 : decode cX12_motion 116 = .ok (.iload_n 2, 1) := by decide +kernel
theorem dX12_motion_117 : decode cX12_motion 117 = .ok (.iastore, 1) := by decide +kernel
theorem dX12_motion_118 : decode cX12_motion 118 = .ok (.aload_n 0, 1) := by decide +kernel
theorem dX12_motion_119 : decode cX12_motion 119 = .ok (.getfield 7, 3) := by decide +kernel
theorem dX12_motion_122 : decode cX12_motion 122 = .ok (.iload 4, 2) := by decide +kernel
theorem dX12_motion_124 : decode cX12_motion 124 = .ok (.bipush 62, 2) := by decide +kernel
theorem dX12_motion_126 : decode cX12_motion 126 = .ok (.iadd, 1) := by decide +kernel
theorem dX12_motion_127 : decode cX12_motion 127 = .ok (.iload_n 3, 1) := by decide +kernel
theorem dX12_motion_128 : decode cX12_motion 128 = .ok (.ifCond .eq 7, 3) := by decide +kernel
theorem dX12_motion_131 : decode cX12_motion 131 = .ok (.iconst 1, 1) := by decide +kernel
theorem dX12_motion_132 : decode cX12_motion 132 = .ok (.goto 4, 3) := by decide +kernel
theorem dX12_motion_135 : decode cX12_motion 135 = .ok (.iconst 0, 1) := by decide +kernel
theorem dX12_motion_136 : decode cX12_motion 136 = .ok (.iastore, 1) := by decide +kernel
theorem dX12_motion_137 : decode cX12_motion 137 = .ok (.aload_n 0, 1) := by decide +kernel
theorem dX12_motion_138 : decode cX12_motion 138 = .ok (.getfield 7, 3) := by decide +kernel
theorem dX12_motion_141 : decode cX12_motion 141 = .ok (.iload 4, 2) := by decide +kernel
theorem dX12_motion_143 : decode cX12_motion 143 = .ok (.bipush 63, 2) := by decide +kernel
theorem dX12_motion_145 : decode cX12_motion 145 = .ok (.iadd, 1) := by decide +kernel
theorem dX12_motion_146 : decode cX12_motion 146 = .ok (.iconst 0, 1) := by decide +kernel
theorem dX12_motion_147 : decode cX12_motion 147 = .ok (.iastore, 1) := by decide +kernel
theorem dX12_motion_148 : decode cX12_motion 148 = .ok (.iconst 0, 1) := by decide +kernel
theorem dX12_motion_149 : decode cX12_motion 149 = .ok (.istore 5, 2) := by decide +kernel
theorem dX12_motion_151 : decode cX12_motion 151 = .ok (.iload 5, 2) := by decide +kernel
theorem dX12_motion_153 : decode cX12_motion 153 = .ok (.bipush 20, 2) := by decide +kernel
theorem dX12_motion_155 : decode cX12_motion 155 = .ok (.if_icmp .ge 23, 3) := by decide +kernel
theorem dX12_motion_158 : decode cX12_motion 158 = .ok (.aload_n 0, 1) := by decide +kernel
theorem dX12_motion_159 : decode cX12_motion 159 = .ok (.getfield 7, 3) := by decide +kernel
theorem dX12_motion_162 : decode cX12_motion 162 = .ok (.iload 4, 2) := by decide +kernel
theorem dX12_motion_164 : decode cX12_motion 164 = .ok (.bipush 64, 2) := by decide +kernel
theorem dX12_motion_166 : decode cX12_motion 166 = .ok (.iadd, 1) := by decide +kernel
theorem dX12_motion_167 : decode cX12_motion 167 = .ok (.iload 5, 2) := by decide +kernel
theorem dX12_motion_169 : decode cX12_motion 169 = .ok (.iadd, 1) := by decide +kernel
theorem dX12_motion_170 : decode cX12_motion 170 = .ok (.iconst 0, 1) := by decide +kernel
theorem dX12_motion_171 : decode cX12_motion 171 = .ok (.iastore, 1) := by decide +kernel
theorem dX12_motion_172 : decode cX12_motion 172 = .ok (.iinc 5 1, 3) := by decide +kernel
theorem dX12_motion_175 : decode cX12_motion 175 = .ok (.goto (-24), 3) := by decide +kernel
theorem dX12_motion_178 : decode cX12_motion 178 = .ok (.aload_n 0, 1) := by decide +kernel
theorem dX12_motion_179 : decode cX12_motion 179 = .ok (.iconst 5, 1) := by decide +kernel
theorem dX12_motion_180 : decode cX12_motion 180 = .ok (.invokevirtual 82, 3) := by decide +kernel
theorem dX12_motion_183 : decode cX12_motion 183 = .ok (.ireturn, 1) := by decide +kernel
def f_X12_motion_b151 (a0 : Nat) (a4 : Int32) : Nat → Int32 → q_Mem → Option (Int32 × q_Mem)
  | 0, _, _ => none
  | n + 1, a5, M =>
    (if a5 < (20 : Int32) then
      (q_gR 11 0 M a0).bind fun v41 =>
      (q_tI M v41 ((a4 + (64 : Int32)) + a5) (0 : Int32)).bind fun M43 =>
      f_X12_motion_b151 a0 a4 n (a5 + (1 : Int32)) M43
    else
      (f_X12_more M a0 (5 : Int32)).bind fun r46 =>
      some (r46.1, r46.2))
def f_X12_motion_b136 (M : q_Mem) (a0 : Nat) (a4 : Int32) (s0 : Nat) (s1 : Int32) (s2 : Int32) : Option (Int32 × q_Mem) :=
  (q_tI M s0 s1 s2).bind fun M35 =>
  (q_gR 11 0 M35 a0).bind fun v37 =>
  (q_tI M35 v37 (a4 + (63 : Int32)) (0 : Int32)).bind fun M39 =>
  f_X12_motion_b151 a0 a4 q_fuel (0 : Int32) M39
def f_X12_motion_b107 (M : q_Mem) (a0 : Nat) (a2 : Int32) (a3 : Int32) (a4 : Int32) : Option (Int32 × q_Mem) :=
  (q_gR 11 0 M a0).bind fun v28 =>
  (q_tI M v28 (a4 + (61 : Int32)) a2).bind fun M30 =>
  (q_gR 11 0 M30 a0).bind fun v32 =>
  (if a3 = 0 then
    f_X12_motion_b136 M30 a0 a4 v32 (a4 + (62 : Int32)) (0 : Int32)
  else
    f_X12_motion_b136 M30 a0 a4 v32 (a4 + (62 : Int32)) (1 : Int32))
def f_X12_motion_b68 (a0 : Nat) (a1 : Int32) (a2 : Int32) (a3 : Int32) (a4 : Int32) : Nat → Int32 → q_Mem → Option (Int32 × q_Mem)
  | 0, _, _ => none
  | n + 1, a5, M =>
    (if a5 < (61 : Int32) then
      (q_gR 11 0 M a0).bind fun v19 =>
      (q_gR 11 0 M a0).bind fun v21 =>
      (q_lI M v21 (((3320 : Int32) + ((61 : Int32) * a1)) + a5)).bind fun v23 =>
      (q_tI M v19 (a4 + a5) v23).bind fun M25 =>
      f_X12_motion_b68 a0 a1 a2 a3 a4 n (a5 + (1 : Int32)) M25
    else
      f_X12_motion_b107 M a0 a2 a3 a4)
def f_X12_motion (M : q_Mem) (a0 : Nat) (a1 : Int32) (a2 : Int32) (a3 : Int32) : Option (Int32 × q_Mem) :=
  q_ob 11 M a0 ((f_X12_isText M a1).bind fun v2 =>
  (if v2 = 0 then
    some ((-2 : Int32), M)
  else
    (f_X12_isDay M a2).bind fun v4 =>
    (if v4 = 0 then
      some ((-2 : Int32), M)
    else
      (f_X12_reads M a0 ((3320 : Int32) + ((61 : Int32) * a1))).bind fun r6 =>
      (if r6.1 = (-1 : Int32) then
        (q_gR 11 0 r6.2 a0).bind fun v7 =>
        (q_lI r6.2 v7 (5 : Int32)).bind fun v9 =>
        (if v9 = (10 : Int32) then
          some ((-4 : Int32), r6.2)
        else
          (q_gR 11 0 r6.2 a0).bind fun v11 =>
          (q_lI r6.2 v11 (5 : Int32)).bind fun v13 =>
          f_X12_motion_b68 a0 a1 a2 a3 ((3686 : Int32) + ((84 : Int32) * v13)) q_fuel (0 : Int32) r6.2)
      else
        some ((-3 : Int32), r6.2)))))
set_option maxRecDepth 20000 in
theorem v_X12_motion_b151 {a0 : Nat} {a4 : Int32}  : ∀ (n : Nat) (a5 : Int32) (M : q_Mem), q_V Y_X12_motion none (fun x : Int32 × q_Mem => (some (.int x.1), x.2)) 0 0 151 [(0, .ref a0), (4, .int a4), (5, .int a5)] [] M (f_X12_motion_b151 a0 a4 n a5 M) := by
  intro n
  induction n with
  | zero => intro a5 M; exact q_none
  | succ n ih =>
    intro a5 M
    rw [f_X12_motion_b151.eq_2]
    refine q_iload 2 dX12_motion_151 rfl ?_
    refine q_bipush (x := (20 : Int32)) dX12_motion_153 rfl ?_
    refine q_icmp_ge (tgt := 178) dX12_motion_155 (by decide) (fun c47 => ?_) (fun c47 => ?_)
    · refine q_aload_n 0 dX12_motion_158 rfl ?_
      refine q_getR (f := 0) cl_X12 (by decide) qw_1117 rfl dX12_motion_159 (fun _ _ _ => rfl) (fun v41 h42 => ?_)
      refine q_iload 1 dX12_motion_162 rfl ?_
      refine q_bipush (x := (64 : Int32)) dX12_motion_164 rfl ?_
      refine q_iadd dX12_motion_166 ?_
      refine q_iload 2 dX12_motion_167 rfl ?_
      refine q_iadd dX12_motion_169 ?_
      refine q_iconst (x := (0 : Int32)) dX12_motion_170 rfl ?_
      refine q_iast dX12_motion_171 (fun M43 h44 => ?_)
      refine q_iinc 2 (y := (a5 + (1 : Int32))) (ls' := [(5, .int (a5 + (1 : Int32))), (0, .ref a0), (4, .int a4)]) dX12_motion_172 rfl rfl (by decide) rfl ?_
      refine q_goto (tgt := 151) dX12_motion_175 (by decide) ?_
      refine q_sub (ls' := [(0, .ref a0), (4, .int a4), (5, .int (a5 + (1 : Int32)))]) [1, 2, 0] rfl ?_
      exact ih _ _
    · refine q_aload_n 0 dX12_motion_178 rfl ?_
      refine q_iconst (x := (5 : Int32)) dX12_motion_179 rfl ?_
      refine q_cVMI (Y2 := Y_X12_more) (As := [.int (5 : Int32)]) (b := a0) (st := []) cl_X12 mv_X12_more qw_1217 dX12_motion_180 ⟨Nat.le_of_ble_eq_true rfl, Nat.le_of_ble_eq_true rfl⟩ rfl (fun _ _ => rfl) (Nat.le_of_ble_eq_true rfl) ⟨Nat.le_of_ble_eq_true rfl, Nat.le_of_ble_eq_true rfl⟩ (fun r46 h45 => q_ob_is h45) (fun r46 h45 => m_X12_more h45) (fun r46 h45 => ?_)
      exact q_iret dX12_motion_183 rfl rfl (Nat.le_of_ble_eq_true rfl) rfl
set_option maxRecDepth 20000 in
theorem v_X12_motion_b136 {M : q_Mem} {a0 : Nat} {a4 : Int32} {s0 : Nat} {s1 : Int32} {s2 : Int32}  : q_V Y_X12_motion none (fun x : Int32 × q_Mem => (some (.int x.1), x.2)) 0 0 136 [(0, .ref a0), (4, .int a4)] [.int s2, .int s1, .ref s0] M (f_X12_motion_b136 M a0 a4 s0 s1 s2) := by
  unfold f_X12_motion_b136
  refine q_iast dX12_motion_136 (fun M35 h36 => ?_)
  refine q_aload_n 0 dX12_motion_137 rfl ?_
  refine q_getR (f := 0) cl_X12 (by decide) qw_1117 rfl dX12_motion_138 (fun _ _ _ => rfl) (fun v37 h38 => ?_)
  refine q_iload 1 dX12_motion_141 rfl ?_
  refine q_bipush (x := (63 : Int32)) dX12_motion_143 rfl ?_
  refine q_iadd dX12_motion_145 ?_
  refine q_iconst (x := (0 : Int32)) dX12_motion_146 rfl ?_
  refine q_iast dX12_motion_147 (fun M39 h40 => ?_)
  refine q_iconst (x := (0 : Int32)) dX12_motion_148 rfl ?_
  refine q_istore (ls' := [(5, .int (0 : Int32)), (0, .ref a0), (4, .int a4)]) dX12_motion_149 (by decide) rfl ?_
  refine q_sub (ls' := [(0, .ref a0), (4, .int a4), (5, .int (0 : Int32))]) [1, 2, 0] rfl ?_
  exact v_X12_motion_b151 _ _ _
set_option maxRecDepth 20000 in
theorem v_X12_motion_b107 {M : q_Mem} {a0 : Nat} {a2 : Int32} {a3 : Int32} {a4 : Int32}  : q_V Y_X12_motion none (fun x : Int32 × q_Mem => (some (.int x.1), x.2)) 0 0 107 [(0, .ref a0), (2, .int a2), (3, .int a3), (4, .int a4)] [] M (f_X12_motion_b107 M a0 a2 a3 a4 ) := by
  unfold f_X12_motion_b107
  refine q_aload_n 0 dX12_motion_107 rfl ?_
  refine q_getR (f := 0) cl_X12 (by decide) qw_1117 rfl dX12_motion_108 (fun _ _ _ => rfl) (fun v28 h29 => ?_)
  refine q_iload 3 dX12_motion_111 rfl ?_
  refine q_bipush (x := (61 : Int32)) dX12_motion_113 rfl ?_
  refine q_iadd dX12_motion_115 ?_
  refine q_iload_n 1 dX12_motion_116 rfl ?_
  refine q_iast dX12_motion_117 (fun M30 h31 => ?_)
  refine q_aload_n 0 dX12_motion_118 rfl ?_
  refine q_getR (f := 0) cl_X12 (by decide) qw_1117 rfl dX12_motion_119 (fun _ _ _ => rfl) (fun v32 h33 => ?_)
  refine q_iload 3 dX12_motion_122 rfl ?_
  refine q_bipush (x := (62 : Int32)) dX12_motion_124 rfl ?_
  refine q_iadd dX12_motion_126 ?_
  refine q_iload_n 2 dX12_motion_127 rfl ?_
  refine q_if_eq (tgt := 135) dX12_motion_128 (by decide) (fun c34 => ?_) (fun c34 => ?_)
  · refine q_iconst (x := (0 : Int32)) dX12_motion_135 rfl ?_
    refine q_sub (ls' := [(0, .ref a0), (4, .int a4)]) [0, 3] rfl ?_
    exact v_X12_motion_b136
  · refine q_iconst (x := (1 : Int32)) dX12_motion_131 rfl ?_
    refine q_goto (tgt := 136) dX12_motion_132 (by decide) ?_
    refine q_sub (ls' := [(0, .ref a0), (4, .int a4)]) [0, 3] rfl ?_
    exact v_X12_motion_b136
set_option maxRecDepth 20000 in
theorem v_X12_motion_b68 {a0 : Nat} {a1 : Int32} {a2 : Int32} {a3 : Int32} {a4 : Int32}  : ∀ (n : Nat) (a5 : Int32) (M : q_Mem), q_V Y_X12_motion none (fun x : Int32 × q_Mem => (some (.int x.1), x.2)) 0 0 68 [(0, .ref a0), (1, .int a1), (2, .int a2), (3, .int a3), (4, .int a4), (5, .int a5)] [] M (f_X12_motion_b68 a0 a1 a2 a3 a4 n a5 M) := by
  intro n
  induction n with
  | zero => intro a5 M; exact q_none
  | succ n ih =>
    intro a5 M
    rw [f_X12_motion_b68.eq_2]
    refine q_iload 5 dX12_motion_68 rfl ?_
    refine q_bipush (x := (61 : Int32)) dX12_motion_70 rfl ?_
    refine q_icmp_ge (tgt := 107) dX12_motion_72 (by decide) (fun c27 => ?_) (fun c27 => ?_)
    · refine q_aload_n 0 dX12_motion_75 rfl ?_
      refine q_getR (f := 0) cl_X12 (by decide) qw_1117 rfl dX12_motion_76 (fun _ _ _ => rfl) (fun v19 h20 => ?_)
      refine q_iload 4 dX12_motion_79 rfl ?_
      refine q_iload 5 dX12_motion_81 rfl ?_
      refine q_iadd dX12_motion_83 ?_
      refine q_aload_n 0 dX12_motion_84 rfl ?_
      refine q_getR (f := 0) cl_X12 (by decide) qw_1117 rfl dX12_motion_85 (fun _ _ _ => rfl) (fun v21 h22 => ?_)
      refine q_sipush (x := (3320 : Int32)) dX12_motion_88 rfl ?_
      refine q_bipush (x := (61 : Int32)) dX12_motion_91 rfl ?_
      refine q_iload_n 1 dX12_motion_93 rfl ?_
      refine q_imul dX12_motion_94 ?_
      refine q_iadd dX12_motion_95 ?_
      refine q_iload 5 dX12_motion_96 rfl ?_
      refine q_iadd dX12_motion_98 ?_
      refine q_iald dX12_motion_99 (fun v23 h24 => ?_)
      refine q_iast dX12_motion_100 (fun M25 h26 => ?_)
      refine q_iinc 5 (y := (a5 + (1 : Int32))) (ls' := [(5, .int (a5 + (1 : Int32))), (0, .ref a0), (1, .int a1), (2, .int a2), (3, .int a3), (4, .int a4)]) dX12_motion_101 rfl rfl (by decide) rfl ?_
      refine q_goto (tgt := 68) dX12_motion_104 (by decide) ?_
      refine q_sub (ls' := [(0, .ref a0), (1, .int a1), (2, .int a2), (3, .int a3), (4, .int a4), (5, .int (a5 + (1 : Int32)))]) [1, 2, 3, 4, 5, 0] rfl ?_
      exact ih _ _
    · refine q_sub (ls' := [(0, .ref a0), (2, .int a2), (3, .int a3), (4, .int a4)]) [0, 2, 3, 4] rfl ?_
      exact v_X12_motion_b107
set_option maxRecDepth 20000 in
theorem m_X12_motion {M : q_Mem} {a0 : Nat} {a1 : Int32} {a2 : Int32} {a3 : Int32} {x : (Int32 × q_Mem)} (h : f_X12_motion M a0 a1 a2 a3 = some x) : q_C Y_X12_motion [.ref a0, .int a1, .int a2, .int a3] M (some (.int x.1)) x.2 := by
  refine q_met (φ := (fun x : Int32 × q_Mem => (some (.int x.1), x.2))) (r := f_X12_motion M a0 a1 a2 a3) (by decide +kernel) (Nat.le_of_ble_eq_true rfl) ?_ h (fun _ _ => rfl)
  show q_V Y_X12_motion none (fun x : Int32 × q_Mem => (some (.int x.1), x.2)) 0 0 0 [(0, .ref a0), (1, .int a1), (2, .int a2), (3, .int a3)] [] M (f_X12_motion M a0 a1 a2 a3)
  unfold f_X12_motion
  refine q_obV ?_
  refine q_iload_n 1 dX12_motion_0 rfl ?_
  refine q_cSI (Y2 := Y_X12_isText) (As := [.int a1]) (st := []) ms_X12_isText qw_1384 dX12_motion_1 ⟨Nat.le_of_ble_eq_true rfl, Nat.le_of_ble_eq_true rfl⟩ rfl (fun _ _ => rfl) (Nat.le_of_ble_eq_true rfl) ⟨Nat.le_of_ble_eq_true rfl, Nat.le_of_ble_eq_true rfl⟩ (fun v2 h1 => m_X12_isText h1) (fun v2 h1 => ?_)
  refine q_if_eq (tgt := 14) dX12_motion_4 (by decide) (fun c18 => ?_) (fun c18 => ?_)
  · refine q_bipush (x := (-2 : Int32)) dX12_motion_14 rfl ?_
    exact q_iret dX12_motion_16 rfl rfl (Nat.le_of_ble_eq_true rfl) rfl
  · refine q_iload_n 2 dX12_motion_7 rfl ?_
    refine q_cSI (Y2 := Y_X12_isDay) (As := [.int a2]) (st := []) ms_X12_isDay qw_1233 dX12_motion_8 ⟨Nat.le_of_ble_eq_true rfl, Nat.le_of_ble_eq_true rfl⟩ rfl (fun _ _ => rfl) (Nat.le_of_ble_eq_true rfl) ⟨Nat.le_of_ble_eq_true rfl, Nat.le_of_ble_eq_true rfl⟩ (fun v4 h3 => m_X12_isDay h3) (fun v4 h3 => ?_)
    refine q_if_ne (tgt := 17) dX12_motion_11 (by decide) (fun c17 => ?_) (fun c17 => ?_)
    · refine q_bipush (x := (-2 : Int32)) dX12_motion_14 rfl ?_
      exact q_iret dX12_motion_16 rfl rfl (Nat.le_of_ble_eq_true rfl) rfl
    · refine q_aload_n 0 dX12_motion_17 rfl ?_
      refine q_sipush (x := (3320 : Int32)) dX12_motion_18 rfl ?_
      refine q_bipush (x := (61 : Int32)) dX12_motion_21 rfl ?_
      refine q_iload_n 1 dX12_motion_23 rfl ?_
      refine q_imul dX12_motion_24 ?_
      refine q_iadd dX12_motion_25 ?_
      refine q_cVMI (Y2 := Y_X12_reads) (As := [.int ((3320 : Int32) + ((61 : Int32) * a1))]) (b := a0) (st := []) cl_X12 mv_X12_reads qw_1395 dX12_motion_26 ⟨Nat.le_of_ble_eq_true rfl, Nat.le_of_ble_eq_true rfl⟩ rfl (fun _ _ => rfl) (Nat.le_of_ble_eq_true rfl) ⟨Nat.le_of_ble_eq_true rfl, Nat.le_of_ble_eq_true rfl⟩ (fun r6 h5 => q_ob_is h5) (fun r6 h5 => m_X12_reads h5) (fun r6 h5 => ?_)
      refine q_iconst (x := (-1 : Int32)) dX12_motion_29 rfl ?_
      refine q_icmp_eq (tgt := 36) dX12_motion_30 (by decide) (fun c16 => ?_) (fun c16 => ?_)
      · refine q_aload_n 0 dX12_motion_36 rfl ?_
        refine q_getR (f := 0) cl_X12 (by decide) qw_1117 rfl dX12_motion_37 (fun _ _ _ => rfl) (fun v7 h8 => ?_)
        refine q_iconst (x := (5 : Int32)) dX12_motion_40 rfl ?_
        refine q_iald dX12_motion_41 (fun v9 h10 => ?_)
        refine q_bipush (x := (10 : Int32)) dX12_motion_42 rfl ?_
        refine q_icmp_ne (tgt := 50) dX12_motion_44 (by decide) (fun c15 => ?_) (fun c15 => ?_)
        · refine q_bipush (x := (-4 : Int32)) dX12_motion_47 rfl ?_
          exact q_iret dX12_motion_49 rfl rfl (Nat.le_of_ble_eq_true rfl) rfl
        · refine q_sipush (x := (3686 : Int32)) dX12_motion_50 rfl ?_
          refine q_bipush (x := (84 : Int32)) dX12_motion_53 rfl ?_
          refine q_aload_n 0 dX12_motion_55 rfl ?_
          refine q_getR (f := 0) cl_X12 (by decide) qw_1117 rfl dX12_motion_56 (fun _ _ _ => rfl) (fun v11 h12 => ?_)
          refine q_iconst (x := (5 : Int32)) dX12_motion_59 rfl ?_
          refine q_iald dX12_motion_60 (fun v13 h14 => ?_)
          refine q_imul dX12_motion_61 ?_
          refine q_iadd dX12_motion_62 ?_
          refine q_istore (ls' := [(4, .int ((3686 : Int32) + ((84 : Int32) * v13))), (0, .ref a0), (1, .int a1), (2, .int a2), (3, .int a3)]) dX12_motion_63 (by decide) rfl ?_
          refine q_iconst (x := (0 : Int32)) dX12_motion_65 rfl ?_
          refine q_istore (ls' := [(5, .int (0 : Int32)), (4, .int ((3686 : Int32) + ((84 : Int32) * v13))), (0, .ref a0), (1, .int a1), (2, .int a2), (3, .int a3)]) dX12_motion_66 (by decide) rfl ?_
          refine q_sub (ls' := [(0, .ref a0), (1, .int a1), (2, .int a2), (3, .int a3), (4, .int ((3686 : Int32) + ((84 : Int32) * v13))), (5, .int (0 : Int32))]) [2, 3, 4, 5, 1, 0] rfl ?_
          exact v_X12_motion_b68 _ _ _
      · refine q_bipush (x := (-3 : Int32)) dX12_motion_33 rfl ?_
        exact q_iret dX12_motion_35 rfl rfl (Nat.le_of_ble_eq_true rfl) rfl
theorem dX12_vote_0 : decode cX12_vote 0 = .ok (.aload_n 0, 1) := by decide +kernel
theorem dX12_vote_1 : decode cX12_vote 1 = .ok (.iconst 5, 1) := by decide +kernel
theorem dX12_vote_2 : decode cX12_vote 2 = .ok (.iload_n 1, 1) := by decide +kernel
theorem dX12_vote_3 : decode cX12_vote 3 = .ok (.invokevirtual 86, 3) := by decide +kernel
theorem dX12_vote_6 : decode cX12_vote 6 = .ok (.ifCond .eq 21, 3) := by decide +kernel
theorem dX12_vote_9 : decode cX12_vote 9 = .ok (.aload_n 0, 1) := by decide +kernel
theorem dX12_vote_10 : decode cX12_vote 10 = .ok (.iconst 0, 1) := by decide +kernel
theorem dX12_vote_11 : decode cX12_vote 11 = .ok (.iload_n 2, 1) := by decide +kernel
theorem dX12_vote_12 : decode cX12_vote 12 = .ok (.invokevirtual 86, 3) := by decide +kernel
theorem dX12_vote_15 : decode cX12_vote 15 = .ok (.ifCond .eq 12, 3) := by decide +kernel
theorem dX12_vote_18 : decode cX12_vote 18 = .ok (.iload_n 3, 1) := by decide +kernel
theorem dX12_vote_19 : decode cX12_vote 19 = .ok (.iconst (-1), 1) := by decide +kernel
theorem dX12_vote_20 : decode cX12_vote 20 = .ok (.iconst 1, 1) := by decide +kernel
theorem dX12_vote_21 : decode cX12_vote 21 = .ok (.invokestatic 78, 3) := by decide +kernel
theorem dX12_vote_24 : decode cX12_vote 24 = .ok (.ifCond .ne 6, 3) := by decide +kernel
theorem dX12_vote_27 : decode cX12_vote 27 = .ok (.bipush (-10), 2) := by decide +kernel
theorem dX12_vote_29 : decode cX12_vote 29 = .ok (.ireturn, 1) := by decide +kernel
theorem dX12_vote_30 : decode cX12_vote 30 = .ok (.sipush 3686, 3) := by decide +kernel
theorem dX12_vote_33 : decode cX12_vote 33 = .ok (.bipush 84, 2) := by decide +kernel
theorem dX12_vote_35 : decode cX12_vote 35 = .ok (.iload_n 1, 1) := by decide +kernel
theorem dX12_vote_36 : decode cX12_vote 36 = .ok (.imul, 1) := by decide +kernel
theorem dX12_vote_37 : decode cX12_vote 37 = .ok (.iadd, 1) := by decide +kernel
theorem dX12_vote_38 : decode cX12_vote 38 = .ok (.istore 4, 2) := by decide +kernel
theorem dX12_vote_40 : decode cX12_vote 40 = .ok (.aload_n 0, 1) := by decide +kernel
theorem dX12_vote_41 : decode cX12_vote 41 = .ok (.iload_n 2, 1) := by decide +kernel
theorem dX12_vote_42 : decode cX12_vote 42 = .ok (.invokevirtual 207, 3) := by decide +kernel
theorem dX12_vote_45 : decode cX12_vote 45 = .ok (.ifCond .eq 17, 3) := by decide +kernel
theorem dX12_vote_48 : decode cX12_vote 48 = .ok (.aload_n 0, 1) := by decide +kernel
theorem dX12_vote_49 : decode cX12_vote 49 = .ok (.getfield 7, 3) := by decide +kernel
theorem dX12_vote_52 : decode cX12_vote 52 = .ok (.iload 4, 2) := by decide +kernel
theorem dX12_vote_54 : decode cX12_vote 54 = .ok (.bipush 63, 2) := by decide +kernel
theorem dX12_vote_56 : decode cX12_vote 56 = .ok (.iadd, 1) := by decide +kernel
theorem dX12_vote_57 : decode cX12_vote 57 = .ok (.iaload, 1) := by decide +kernel
theorem dX12_vote_58 : decode cX12_vote 58 = .ok (.iconst 1, 1) := by decide +kernel
theorem dX12_vote_59 : decode cX12_vote 59 = .ok (.if_icmp .ne 6, 3) := by decide +kernel
theorem dX12_vote_62 : decode cX12_vote 62 = .ok (.bipush (-20), 2) := by decide +kernel
theorem dX12_vote_64 : decode cX12_vote 64 = .ok (.ireturn, 1) := by decide +kernel
theorem dX12_vote_65 : decode cX12_vote 65 = .ok (.aload_n 0, 1) := by decide +kernel
theorem dX12_vote_66 : decode cX12_vote 66 = .ok (.getfield 7, 3) := by decide +kernel
theorem dX12_vote_69 : decode cX12_vote 69 = .ok (.iload 4, 2) := by decide +kernel
theorem dX12_vote_71 : decode cX12_vote 71 = .ok (.bipush 64, 2) := by decide +kernel
theorem dX12_vote_73 : decode cX12_vote 73 = .ok (.iadd, 1) := by decide +kernel
theorem dX12_vote_74 : decode cX12_vote 74 = .ok (.iload_n 2, 1) := by decide +kernel
theorem dX12_vote_75 : decode cX12_vote 75 = .ok (.iadd, 1) := by decide +kernel
theorem dX12_vote_76 : decode cX12_vote 76 = .ok (.iaload, 1) := by decide +kernel
theorem dX12_vote_77 : decode cX12_vote 77 = .ok (.istore 5, 2) := by decide +kernel
theorem dX12_vote_79 : decode cX12_vote 79 = .ok (.aload_n 0, 1) := by decide +kernel
theorem dX12_vote_80 : decode cX12_vote 80 = .ok (.getfield 7, 3) := by decide +kernel
theorem dX12_vote_83 : decode cX12_vote 83 = .ok (.iload 4, 2) := by decide +kernel
theorem dX12_vote_85 : decode cX12_vote 85 = .ok (.bipush 64, 2) := by decide +kernel
theorem dX12_vote_87 : decode cX12_vote 87 = .ok (.iadd, 1) := by decide +kernel
theorem dX12_vote_88 : decode cX12_vote 88 = .ok (.iload_n 2, 1) := by decide +kernel
theorem dX12_vote_89 : decode cX12_vote 89 = .ok (.iadd, 1) := by decide +kernel
theorem dX12_vote_90 : decode cX12_vote 90 = .ok (.iload_n 3, 1) := by decide +kernel
theorem dX12_vote_91 : decode cX12_vote 91 = .ok (.iastore, 1) := by decide +kernel
theorem dX12_vote_92 : decode cX12_vote 92 = .ok (.iload 5, 2) := by decide +kernel
theorem dX12_vote_94 : decode cX12_vote 94 = .ok (.ireturn, 1) := by decide +kernel
def f_X12_vote (M : q_Mem) (a0 : Nat) (a1 : Int32) (a2 : Int32) (a3 : Int32) : Option (Int32 × q_Mem) :=
  q_ob 11 M a0 ((f_X12_is M a0 (5 : Int32) a1).bind fun v2 =>
  (if v2 = 0 then
    some ((-10 : Int32), M)
  else
    (f_X12_is M a0 (0 : Int32) a2).bind fun v4 =>
    (if v4 = 0 then
      some ((-10 : Int32), M)
    else
      (f_X12_in M a3 (-1 : Int32) (1 : Int32)).bind fun v6 =>
      (if v6 = 0 then
        some ((-10 : Int32), M)
      else
        (f_X12_isMember M a0 a2).bind fun v8 =>
        (if v8 = 0 then
          some ((-20 : Int32), M)
        else
          (q_gR 11 0 M a0).bind fun v9 =>
          (q_lI M v9 (((3686 : Int32) + ((84 : Int32) * a1)) + (63 : Int32))).bind fun v11 =>
          (if v11 = (1 : Int32) then
            some ((-20 : Int32), M)
          else
            (q_gR 11 0 M a0).bind fun v13 =>
            (q_lI M v13 ((((3686 : Int32) + ((84 : Int32) * a1)) + (64 : Int32)) + a2)).bind fun v15 =>
            (q_gR 11 0 M a0).bind fun v17 =>
            (q_tI M v17 ((((3686 : Int32) + ((84 : Int32) * a1)) + (64 : Int32)) + a2) a3).bind fun M19 =>
            some (v15, M19)))))))
set_option maxRecDepth 20000 in
theorem m_X12_vote {M : q_Mem} {a0 : Nat} {a1 : Int32} {a2 : Int32} {a3 : Int32} {x : (Int32 × q_Mem)} (h : f_X12_vote M a0 a1 a2 a3 = some x) : q_C Y_X12_vote [.ref a0, .int a1, .int a2, .int a3] M (some (.int x.1)) x.2 := by
  refine q_met (φ := (fun x : Int32 × q_Mem => (some (.int x.1), x.2))) (r := f_X12_vote M a0 a1 a2 a3) (by decide +kernel) (Nat.le_of_ble_eq_true rfl) ?_ h (fun _ _ => rfl)
  show q_V Y_X12_vote none (fun x : Int32 × q_Mem => (some (.int x.1), x.2)) 0 0 0 [(0, .ref a0), (1, .int a1), (2, .int a2), (3, .int a3)] [] M (f_X12_vote M a0 a1 a2 a3)
  unfold f_X12_vote
  refine q_obV ?_
  refine q_aload_n 0 dX12_vote_0 rfl ?_
  refine q_iconst (x := (5 : Int32)) dX12_vote_1 rfl ?_
  refine q_iload_n 1 dX12_vote_2 rfl ?_
  refine q_cVI (Y2 := Y_X12_is) (As := [.int (5 : Int32), .int a1]) (b := a0) (st := []) cl_X12 mv_X12_is qw_1225 dX12_vote_3 ⟨Nat.le_of_ble_eq_true rfl, Nat.le_of_ble_eq_true rfl⟩ rfl (fun _ _ => rfl) (Nat.le_of_ble_eq_true rfl) ⟨Nat.le_of_ble_eq_true rfl, Nat.le_of_ble_eq_true rfl⟩ (fun v2 h1 => q_ob_is h1) (fun v2 h1 => m_X12_is h1) (fun v2 h1 => ?_)
  refine q_if_eq (tgt := 27) dX12_vote_6 (by decide) (fun c25 => ?_) (fun c25 => ?_)
  · refine q_bipush (x := (-10 : Int32)) dX12_vote_27 rfl ?_
    exact q_iret dX12_vote_29 rfl rfl (Nat.le_of_ble_eq_true rfl) rfl
  · refine q_aload_n 0 dX12_vote_9 rfl ?_
    refine q_iconst (x := (0 : Int32)) dX12_vote_10 rfl ?_
    refine q_iload_n 2 dX12_vote_11 rfl ?_
    refine q_cVI (Y2 := Y_X12_is) (As := [.int (0 : Int32), .int a2]) (b := a0) (st := []) cl_X12 mv_X12_is qw_1225 dX12_vote_12 ⟨Nat.le_of_ble_eq_true rfl, Nat.le_of_ble_eq_true rfl⟩ rfl (fun _ _ => rfl) (Nat.le_of_ble_eq_true rfl) ⟨Nat.le_of_ble_eq_true rfl, Nat.le_of_ble_eq_true rfl⟩ (fun v4 h3 => q_ob_is h3) (fun v4 h3 => m_X12_is h3) (fun v4 h3 => ?_)
    refine q_if_eq (tgt := 27) dX12_vote_15 (by decide) (fun c24 => ?_) (fun c24 => ?_)
    · refine q_bipush (x := (-10 : Int32)) dX12_vote_27 rfl ?_
      exact q_iret dX12_vote_29 rfl rfl (Nat.le_of_ble_eq_true rfl) rfl
    · refine q_iload_n 3 dX12_vote_18 rfl ?_
      refine q_iconst (x := (-1 : Int32)) dX12_vote_19 rfl ?_
      refine q_iconst (x := (1 : Int32)) dX12_vote_20 rfl ?_
      refine q_cSI (Y2 := Y_X12_in) (As := [.int a3, .int (-1 : Int32), .int (1 : Int32)]) (st := []) ms_X12_in qw_1214 dX12_vote_21 ⟨Nat.le_of_ble_eq_true rfl, Nat.le_of_ble_eq_true rfl⟩ rfl (fun _ _ => rfl) (Nat.le_of_ble_eq_true rfl) ⟨Nat.le_of_ble_eq_true rfl, Nat.le_of_ble_eq_true rfl⟩ (fun v6 h5 => m_X12_in h5) (fun v6 h5 => ?_)
      refine q_if_ne (tgt := 30) dX12_vote_24 (by decide) (fun c23 => ?_) (fun c23 => ?_)
      · refine q_bipush (x := (-10 : Int32)) dX12_vote_27 rfl ?_
        exact q_iret dX12_vote_29 rfl rfl (Nat.le_of_ble_eq_true rfl) rfl
      · refine q_sipush (x := (3686 : Int32)) dX12_vote_30 rfl ?_
        refine q_bipush (x := (84 : Int32)) dX12_vote_33 rfl ?_
        refine q_iload_n 1 dX12_vote_35 rfl ?_
        refine q_imul dX12_vote_36 ?_
        refine q_iadd dX12_vote_37 ?_
        refine q_istore (ls' := [(4, .int ((3686 : Int32) + ((84 : Int32) * a1))), (0, .ref a0), (1, .int a1), (2, .int a2), (3, .int a3)]) dX12_vote_38 (by decide) rfl ?_
        refine q_aload_n 1 dX12_vote_40 rfl ?_
        refine q_iload_n 3 dX12_vote_41 rfl ?_
        refine q_cVI (Y2 := Y_X12_isMember) (As := [.int a2]) (b := a0) (st := []) cl_X12 mv_X12_isMember qw_1447 dX12_vote_42 ⟨Nat.le_of_ble_eq_true rfl, Nat.le_of_ble_eq_true rfl⟩ rfl (fun _ _ => rfl) (Nat.le_of_ble_eq_true rfl) ⟨Nat.le_of_ble_eq_true rfl, Nat.le_of_ble_eq_true rfl⟩ (fun v8 h7 => q_ob_is h7) (fun v8 h7 => m_X12_isMember h7) (fun v8 h7 => ?_)
        refine q_if_eq (tgt := 62) dX12_vote_45 (by decide) (fun c22 => ?_) (fun c22 => ?_)
        · refine q_bipush (x := (-20 : Int32)) dX12_vote_62 rfl ?_
          exact q_iret dX12_vote_64 rfl rfl (Nat.le_of_ble_eq_true rfl) rfl
        · refine q_aload_n 1 dX12_vote_48 rfl ?_
          refine q_getR (f := 0) cl_X12 (by decide) qw_1117 rfl dX12_vote_49 (fun _ _ _ => rfl) (fun v9 h10 => ?_)
          refine q_iload 0 dX12_vote_52 rfl ?_
          refine q_bipush (x := (63 : Int32)) dX12_vote_54 rfl ?_
          refine q_iadd dX12_vote_56 ?_
          refine q_iald dX12_vote_57 (fun v11 h12 => ?_)
          refine q_iconst (x := (1 : Int32)) dX12_vote_58 rfl ?_
          refine q_icmp_ne (tgt := 65) dX12_vote_59 (by decide) (fun c21 => ?_) (fun c21 => ?_)
          · refine q_bipush (x := (-20 : Int32)) dX12_vote_62 rfl ?_
            exact q_iret dX12_vote_64 rfl rfl (Nat.le_of_ble_eq_true rfl) rfl
          · refine q_aload_n 1 dX12_vote_65 rfl ?_
            refine q_getR (f := 0) cl_X12 (by decide) qw_1117 rfl dX12_vote_66 (fun _ _ _ => rfl) (fun v13 h14 => ?_)
            refine q_iload 0 dX12_vote_69 rfl ?_
            refine q_bipush (x := (64 : Int32)) dX12_vote_71 rfl ?_
            refine q_iadd dX12_vote_73 ?_
            refine q_iload_n 3 dX12_vote_74 rfl ?_
            refine q_iadd dX12_vote_75 ?_
            refine q_iald dX12_vote_76 (fun v15 h16 => ?_)
            refine q_istore (ls' := [(5, .int v15), (4, .int ((3686 : Int32) + ((84 : Int32) * a1))), (0, .ref a0), (1, .int a1), (2, .int a2), (3, .int a3)]) dX12_vote_77 (by decide) rfl ?_
            refine q_aload_n 2 dX12_vote_79 rfl ?_
            refine q_getR (f := 0) cl_X12 (by decide) qw_1117 rfl dX12_vote_80 (fun _ _ _ => rfl) (fun v17 h18 => ?_)
            refine q_iload 1 dX12_vote_83 rfl ?_
            refine q_bipush (x := (64 : Int32)) dX12_vote_85 rfl ?_
            refine q_iadd dX12_vote_87 ?_
            refine q_iload_n 4 dX12_vote_88 rfl ?_
            refine q_iadd dX12_vote_89 ?_
            refine q_iload_n 5 dX12_vote_90 rfl ?_
            refine q_iast dX12_vote_91 (fun M19 h20 => ?_)
            refine q_iload 0 dX12_vote_92 rfl ?_
            exact q_iret dX12_vote_94 rfl rfl (Nat.le_of_ble_eq_true rfl) rfl
theorem dX12_tear_0 : decode cX12_tear 0 = .ok (.aload_n 0, 1) := by decide +kernel
theorem dX12_tear_1 : decode cX12_tear 1 = .ok (.iconst 5, 1) := by decide +kernel
theorem dX12_tear_2 : decode cX12_tear 2 = .ok (.iload_n 1, 1) := by decide +kernel
theorem dX12_tear_3 : decode cX12_tear 3 = .ok (.invokevirtual 86, 3) := by decide +kernel
theorem dX12_tear_6 : decode cX12_tear 6 = .ok (.ifCond .ne 6, 3) := by decide +kernel
theorem dX12_tear_9 : decode cX12_tear 9 = .ok (.bipush (-2), 2) := by decide +kernel
theorem dX12_tear_11 : decode cX12_tear 11 = .ok (.ireturn, 1) := by decide +kernel
theorem dX12_tear_12 : decode cX12_tear 12 = .ok (.sipush 3686, 3) := by decide +kernel
theorem dX12_tear_15 : decode cX12_tear 15 = .ok (.bipush 84, 2) := by decide +kernel
theorem dX12_tear_17 : decode cX12_tear 17 = .ok (.iload_n 1, 1) := by decide +kernel
theorem dX12_tear_18 : decode cX12_tear 18 = .ok (.imul, 1) := by decide +kernel
theorem dX12_tear_19 : decode cX12_tear 19 = .ok (.iadd, 1) := by decide +kernel
theorem dX12_tear_20 : decode cX12_tear 20 = .ok (.bipush 63, 2) := by decide +kernel
theorem dX12_tear_22 : decode cX12_tear 22 = .ok (.iadd, 1) := by decide +kernel
theorem dX12_tear_23 : decode cX12_tear 23 = .ok (.istore_n 3, 1) := by decide +kernel
theorem dX12_tear_24 : decode cX12_tear 24 = .ok (.aload_n 0, 1) := by decide +kernel
theorem dX12_tear_25 : decode cX12_tear 25 = .ok (.getfield 7, 3) := by decide +kernel
theorem dX12_tear_28 : decode cX12_tear 28 = .ok (.iload_n 3, 1) := by decide +kernel
theorem dX12_tear_29 : decode cX12_tear 29 = .ok (.iaload, 1) := by decide +kernel
theorem dX12_tear_30 : decode cX12_tear 30 = .ok (.iconst 1, 1) := by decide +kernel
theorem dX12_tear_31 : decode cX12_tear 31 = .ok (.if_icmp .ne 7, 3) := by decide +kernel
theorem dX12_tear_34 : decode cX12_tear 34 = .ok (.iconst 1, 1) := by decide +kernel
theorem dX12_tear_35 : decode cX12_tear 35 = .ok (.goto 4, 3) := by decide +kernel
theorem dX12_tear_38 : decode cX12_tear 38 = .ok (.iconst 0, 1) := by decide +kernel
theorem dX12_tear_39 : decode cX12_tear 39 = .ok (.iload_n 2, 1) := by decide +kernel
theorem dX12_tear_40 : decode cX12_tear 40 = .ok (.if_icmp .ne 6, 3) := by decide +kernel
theorem dX12_tear_43 : decode cX12_tear 43 = .ok (.bipush (-3), 2) := by decide +kernel
theorem dX12_tear_45 : decode cX12_tear 45 = .ok (.ireturn, 1) := by decide +kernel
theorem dX12_tear_46 : decode cX12_tear 46 = .ok (.aload_n 0, 1) := by decide +kernel
theorem dX12_tear_47 : decode cX12_tear 47 = .ok (.getfield 7, 3) := by decide +kernel
theorem dX12_tear_50 : decode cX12_tear 50 = .ok (.iload_n 3, 1) := by decide +kernel
theorem dX12_tear_51 : decode cX12_tear 51 = .ok (.iload_n 2, 1) := by decide +kernel
theorem dX12_tear_52 : decode cX12_tear 52 = .ok (.ifCond .eq 7, 3) := by decide +kernel
theorem dX12_tear_55 : decode cX12_tear 55 = .ok (.iconst 1, 1) := by decide +kernel
theorem dX12_tear_56 : decode cX12_tear 56 = .ok (.goto 4, 3) := by decide +kernel
theorem dX12_tear_59 : decode cX12_tear 59 = .ok (.iconst 0, 1) := by decide +kernel
theorem dX12_tear_60 : decode cX12_tear 60 = .ok (.iastore, 1) := by decide +kernel
theorem dX12_tear_61 : decode cX12_tear 61 = .ok (.iconst 1, 1) := by decide +kernel
theorem dX12_tear_62 : decode cX12_tear 62 = .ok (.ireturn, 1) := by decide +kernel
def f_X12_tear_b39 (M : q_Mem) (a0 : Nat) (a2 : Int32) (a3 : Int32) (s0 : Int32) : Option (Int32 × q_Mem) :=
  (if s0 = a2 then
    some ((-3 : Int32), M)
  else
    (q_gR 11 0 M a0).bind fun v9 =>
    (if a2 = 0 then
      (q_tI M v9 a3 (0 : Int32)).bind fun M11 =>
      some ((1 : Int32), M11)
    else
      (q_tI M v9 a3 (1 : Int32)).bind fun M13 =>
      some ((1 : Int32), M13)))
def f_X12_tear (M : q_Mem) (a0 : Nat) (a1 : Int32) (a2 : Int32) : Option (Int32 × q_Mem) :=
  q_ob 11 M a0 ((f_X12_is M a0 (5 : Int32) a1).bind fun v2 =>
  (if v2 = 0 then
    some ((-2 : Int32), M)
  else
    (q_gR 11 0 M a0).bind fun v3 =>
    (q_lI M v3 (((3686 : Int32) + ((84 : Int32) * a1)) + (63 : Int32))).bind fun v5 =>
    (if v5 = (1 : Int32) then
      f_X12_tear_b39 M a0 a2 (((3686 : Int32) + ((84 : Int32) * a1)) + (63 : Int32)) (1 : Int32)
    else
      f_X12_tear_b39 M a0 a2 (((3686 : Int32) + ((84 : Int32) * a1)) + (63 : Int32)) (0 : Int32))))
set_option maxRecDepth 20000 in
theorem v_X12_tear_b39 {M : q_Mem} {a0 : Nat} {a2 : Int32} {a3 : Int32} {s0 : Int32}  : q_V Y_X12_tear none (fun x : Int32 × q_Mem => (some (.int x.1), x.2)) 0 0 39 [(0, .ref a0), (2, .int a2), (3, .int a3)] [.int s0] M (f_X12_tear_b39 M a0 a2 a3 s0) := by
  unfold f_X12_tear_b39
  refine q_iload_n 1 dX12_tear_39 rfl ?_
  refine q_icmp_ne (tgt := 46) dX12_tear_40 (by decide) (fun c16 => ?_) (fun c16 => ?_)
  · refine q_bipush (x := (-3 : Int32)) dX12_tear_43 rfl ?_
    exact q_iret dX12_tear_45 rfl rfl (Nat.le_of_ble_eq_true rfl) rfl
  · refine q_aload_n 0 dX12_tear_46 rfl ?_
    refine q_getR (f := 0) cl_X12 (by decide) qw_1117 rfl dX12_tear_47 (fun _ _ _ => rfl) (fun v9 h10 => ?_)
    refine q_iload_n 2 dX12_tear_50 rfl ?_
    refine q_iload_n 1 dX12_tear_51 rfl ?_
    refine q_if_eq (tgt := 59) dX12_tear_52 (by decide) (fun c15 => ?_) (fun c15 => ?_)
    · refine q_iconst (x := (0 : Int32)) dX12_tear_59 rfl ?_
      refine q_iast dX12_tear_60 (fun M11 h12 => ?_)
      refine q_iconst (x := (1 : Int32)) dX12_tear_61 rfl ?_
      exact q_iret dX12_tear_62 rfl rfl (Nat.le_of_ble_eq_true rfl) rfl
    · refine q_iconst (x := (1 : Int32)) dX12_tear_55 rfl ?_
      refine q_goto (tgt := 60) dX12_tear_56 (by decide) ?_
      refine q_iast dX12_tear_60 (fun M13 h14 => ?_)
      refine q_iconst (x := (1 : Int32)) dX12_tear_61 rfl ?_
      exact q_iret dX12_tear_62 rfl rfl (Nat.le_of_ble_eq_true rfl) rfl
set_option maxRecDepth 20000 in
theorem m_X12_tear {M : q_Mem} {a0 : Nat} {a1 : Int32} {a2 : Int32} {x : (Int32 × q_Mem)} (h : f_X12_tear M a0 a1 a2 = some x) : q_C Y_X12_tear [.ref a0, .int a1, .int a2] M (some (.int x.1)) x.2 := by
  refine q_met (φ := (fun x : Int32 × q_Mem => (some (.int x.1), x.2))) (r := f_X12_tear M a0 a1 a2) (by decide +kernel) (Nat.le_of_ble_eq_true rfl) ?_ h (fun _ _ => rfl)
  show q_V Y_X12_tear none (fun x : Int32 × q_Mem => (some (.int x.1), x.2)) 0 0 0 [(0, .ref a0), (1, .int a1), (2, .int a2)] [] M (f_X12_tear M a0 a1 a2)
  unfold f_X12_tear
  refine q_obV ?_
  refine q_aload_n 0 dX12_tear_0 rfl ?_
  refine q_iconst (x := (5 : Int32)) dX12_tear_1 rfl ?_
  refine q_iload_n 1 dX12_tear_2 rfl ?_
  refine q_cVI (Y2 := Y_X12_is) (As := [.int (5 : Int32), .int a1]) (b := a0) (st := []) cl_X12 mv_X12_is qw_1225 dX12_tear_3 ⟨Nat.le_of_ble_eq_true rfl, Nat.le_of_ble_eq_true rfl⟩ rfl (fun _ _ => rfl) (Nat.le_of_ble_eq_true rfl) ⟨Nat.le_of_ble_eq_true rfl, Nat.le_of_ble_eq_true rfl⟩ (fun v2 h1 => q_ob_is h1) (fun v2 h1 => m_X12_is h1) (fun v2 h1 => ?_)
  refine q_if_ne (tgt := 12) dX12_tear_6 (by decide) (fun c8 => ?_) (fun c8 => ?_)
  · refine q_bipush (x := (-2 : Int32)) dX12_tear_9 rfl ?_
    exact q_iret dX12_tear_11 rfl rfl (Nat.le_of_ble_eq_true rfl) rfl
  · refine q_sipush (x := (3686 : Int32)) dX12_tear_12 rfl ?_
    refine q_bipush (x := (84 : Int32)) dX12_tear_15 rfl ?_
    refine q_iload_n 1 dX12_tear_17 rfl ?_
    refine q_imul dX12_tear_18 ?_
    refine q_iadd dX12_tear_19 ?_
    refine q_bipush (x := (63 : Int32)) dX12_tear_20 rfl ?_
    refine q_iadd dX12_tear_22 ?_
    refine q_istore_n (ls' := [(3, .int (((3686 : Int32) + ((84 : Int32) * a1)) + (63 : Int32))), (0, .ref a0), (1, .int a1), (2, .int a2)]) dX12_tear_23 (by decide) rfl ?_
    refine q_aload_n 1 dX12_tear_24 rfl ?_
    refine q_getR (f := 0) cl_X12 (by decide) qw_1117 rfl dX12_tear_25 (fun _ _ _ => rfl) (fun v3 h4 => ?_)
    refine q_iload_n 0 dX12_tear_28 rfl ?_
    refine q_iald dX12_tear_29 (fun v5 h6 => ?_)
    refine q_iconst (x := (1 : Int32)) dX12_tear_30 rfl ?_
    refine q_icmp_ne (tgt := 38) dX12_tear_31 (by decide) (fun c7 => ?_) (fun c7 => ?_)
    · refine q_iconst (x := (1 : Int32)) dX12_tear_34 rfl ?_
      refine q_goto (tgt := 39) dX12_tear_35 (by decide) ?_
      refine q_sub (ls' := [(0, .ref a0), (2, .int a2), (3, .int (((3686 : Int32) + ((84 : Int32) * a1)) + (63 : Int32)))]) [1, 3, 0] rfl ?_
      exact v_X12_tear_b39
    · refine q_iconst (x := (0 : Int32)) dX12_tear_38 rfl ?_
      refine q_sub (ls' := [(0, .ref a0), (2, .int a2), (3, .int (((3686 : Int32) + ((84 : Int32) * a1)) + (63 : Int32)))]) [1, 3, 0] rfl ?_
      exact v_X12_tear_b39
theorem dX12_voted_0 : decode cX12_voted 0 = .ok (.sipush 3686, 3) := by decide +kernel
theorem dX12_voted_3 : decode cX12_voted 3 = .ok (.bipush 84, 2) := by decide +kernel
theorem dX12_voted_5 : decode cX12_voted 5 = .ok (.iload_n 1, 1) := by decide +kernel
theorem dX12_voted_6 : decode cX12_voted 6 = .ok (.imul, 1) := by decide +kernel
theorem dX12_voted_7 : decode cX12_voted 7 = .ok (.iadd, 1) := by decide +kernel
theorem dX12_voted_8 : decode cX12_voted 8 = .ok (.istore_n 3, 1) := by decide +kernel
theorem dX12_voted_9 : decode cX12_voted 9 = .ok (.iconst 0, 1) := by decide +kernel
theorem dX12_voted_10 : decode cX12_voted 10 = .ok (.istore 4, 2) := by decide +kernel
theorem dX12_voted_12 : decode cX12_voted 12 = .ok (.iconst 0, 1) := by decide +kernel
theorem dX12_voted_13 : decode cX12_voted 13 = .ok (.istore 5, 2) := by decide +kernel
theorem dX12_voted_15 : decode cX12_voted 15 = .ok (.iload 5, 2) := by decide +kernel
theorem dX12_voted_17 : decode cX12_voted 17 = .ok (.aload_n 0, 1) := by decide +kernel
theorem dX12_voted_18 : decode cX12_voted 18 = .ok (.getfield 7, 3) := by decide +kernel
theorem dX12_voted_21 : decode cX12_voted 21 = .ok (.iconst 0, 1) := by decide +kernel
theorem dX12_voted_22 : decode cX12_voted 22 = .ok (.iaload, 1) := by decide +kernel
theorem dX12_voted_23 : decode cX12_voted 23 = .ok (.if_icmp .ge 71, 3) := by decide +kernel
theorem dX12_voted_26 : decode cX12_voted 26 = .ok (.iload 4, 2) := by decide +kernel
theorem dX12_voted_28 : decode cX12_voted 28 = .ok (.aload_n 0, 1) := by decide +kernel
theorem dX12_voted_29 : decode cX12_voted 29 = .ok (.iload 5, 2) := by decide +kernel
theorem dX12_voted_31 : decode cX12_voted 31 = .ok (.invokevirtual 207, 3) := by decide +kernel
theorem dX12_voted_34 : decode cX12_voted 34 = .ok (.ifCond .eq 50, 3) := by decide +kernel
theorem dX12_voted_37 : decode cX12_voted 37 = .ok (.iload_n 2, 1) := by decide +kernel
theorem dX12_voted_38 : decode cX12_voted 38 = .ok (.iconst 2, 1) := by decide +kernel
theorem dX12_voted_39 : decode cX12_voted 39 = .ok (.if_icmp .eq 19, 3) := by decide +kernel
theorem dX12_voted_42 : decode cX12_voted 42 = .ok (.aload_n 0, 1) := by decide +kernel
theorem dX12_voted_43 : decode cX12_voted 43 = .ok (.getfield 7, 3) := by decide +kernel
theorem dX12_voted_46 : decode cX12_voted 46 = .ok (.iload_n 3, 1) := by decide +kernel
theorem dX12_voted_47 : decode cX12_voted 47 = .ok (.bipush 64, 2) := by decide +kernel
theorem dX12_voted_49 : decode cX12_voted 49 = .ok (.iadd, 1) := by decide +kernel
theorem dX12_voted_50 : decode cX12_voted 50 = .ok (.iload 5, 2) := by decide +kernel
theorem dX12_voted_52 : decode cX12_voted 52 = .ok (.iadd, 1) := by decide +kernel
theorem dX12_voted_53 : decode cX12_voted 53 = .ok (.iaload, 1) := by decide +kernel
theorem dX12_voted_54 : decode cX12_voted 54 = .ok (.iload_n 2, 1) := by decide +kernel
theorem dX12_voted_55 : decode cX12_voted 55 = .ok (.if_icmp .ne 29, 3) := by decide +kernel
theorem dX12_voted_58 : decode cX12_voted 58 = .ok (.aload_n 0, 1) := by decide +kernel
theorem dX12_voted_59 : decode cX12_voted 59 = .ok (.getfield 7, 3) := by decide +kernel
theorem dX12_voted_62 : decode cX12_voted 62 = .ok (.iload_n 3, 1) := by decide +kernel
theorem dX12_voted_63 : decode cX12_voted 63 = .ok (.bipush 62, 2) := by decide +kernel
theorem dX12_voted_65 : decode cX12_voted 65 = .ok (.iadd, 1) := by decide +kernel
theorem dX12_voted_66 : decode cX12_voted 66 = .ok (.iaload, 1) := by decide +kernel
theorem dX12_voted_67 : decode cX12_voted 67 = .ok (.iconst 1, 1) := by decide +kernel
theorem dX12_voted_68 : decode cX12_voted 68 = .ok (.if_icmp .ne 12, 3) := by decide +kernel
theorem dX12_voted_71 : decode cX12_voted 71 = .ok (.aload_n 0, 1) := by decide +kernel
theorem dX12_voted_72 : decode cX12_voted 72 = .ok (.iload 5, 2) := by decide +kernel
theorem dX12_voted_74 : decode cX12_voted 74 = .ok (.invokevirtual 210, 3) := by decide +kernel
theorem dX12_voted_77 : decode cX12_voted 77 = .ok (.goto 8, 3) := by decide +kernel
theorem dX12_voted_80 : decode cX12_voted 80 = .ok (.iconst 1, 1) := by decide +kernel
theorem dX12_voted_81 : decode cX12_voted 81 = .ok (.goto 4, 3) := by decide +kernel
theorem dX12_voted_84 : decode cX12_voted 84 = .ok (.iconst 0, 1) := by decide +kernel
theorem dX12_voted_85 : decode cX12_voted 85 = .ok (.iadd, 1) := by decide +kernel
theorem dX12_voted_86 : decode cX12_voted 86 = .ok (.istore 4, 2) := by decide +kernel
theorem dX12_voted_88 : decode cX12_voted 88 = .ok (.iinc 5 1, 3) := by decide +kernel
theorem dX12_voted_91 : decode cX12_voted 91 = .ok (.goto (-76), 3) := by decide +kernel
theorem dX12_voted_94 : decode cX12_voted 94 = .ok (.iload 4, 2) := by decide +kernel
theorem dX12_voted_96 : decode cX12_voted 96 = .ok (.ireturn, 1) := by decide +kernel
def f_X12_voted_b84 (kk15 : Int32 → Int32 → Option Int32) (M : q_Mem) (a0 : Nat) (a2 : Int32) (a3 : Int32) (a5 : Int32) (s0 : Int32) : Option Int32 :=
  kk15 (s0 + (0 : Int32)) (a5 + (1 : Int32))
def f_X12_voted_b58 (kk15 : Int32 → Int32 → Option Int32) (M : q_Mem) (a0 : Nat) (a2 : Int32) (a3 : Int32) (a5 : Int32) (s0 : Int32) : Option Int32 :=
  (q_gR 11 0 M a0).bind fun v15 =>
  (q_lI M v15 (a3 + (62 : Int32))).bind fun v17 =>
  (if v17 = (1 : Int32) then
    (f_X12_cows M a0 a5).bind fun v20 =>
    kk15 (s0 + v20) (a5 + (1 : Int32))
  else
    kk15 (s0 + (1 : Int32)) (a5 + (1 : Int32)))
def f_X12_voted_b15 (M : q_Mem) (a0 : Nat) (a2 : Int32) (a3 : Int32) : Nat → Int32 → Int32 → Option Int32
  | 0, _, _ => none
  | n + 1, a4, a5 =>
    (q_gR 11 0 M a0).bind fun v1 =>
    (q_lI M v1 (0 : Int32)).bind fun v3 =>
    (if a5 < v3 then
      (f_X12_isMember M a0 a5).bind fun v6 =>
      (if v6 = 0 then
        f_X12_voted_b84 (f_X12_voted_b15 M a0 a2 a3 n) M a0 a2 a3 a5 a4
      else
        (if a2 = (2 : Int32) then
          f_X12_voted_b58 (f_X12_voted_b15 M a0 a2 a3 n) M a0 a2 a3 a5 a4
        else
          (q_gR 11 0 M a0).bind fun v7 =>
          (q_lI M v7 ((a3 + (64 : Int32)) + a5)).bind fun v9 =>
          (if v9 = a2 then
            f_X12_voted_b58 (f_X12_voted_b15 M a0 a2 a3 n) M a0 a2 a3 a5 a4
          else
            f_X12_voted_b84 (f_X12_voted_b15 M a0 a2 a3 n) M a0 a2 a3 a5 a4)))
    else
      some a4)
def f_X12_voted (M : q_Mem) (a0 : Nat) (a1 : Int32) (a2 : Int32) : Option Int32 :=
  q_ob 11 M a0 (f_X12_voted_b15 M a0 a2 ((3686 : Int32) + ((84 : Int32) * a1)) q_fuel (0 : Int32) (0 : Int32))
set_option maxRecDepth 20000 in
theorem v_X12_voted_b84 {kk15 : Int32 → Int32 → Option Int32} {M : q_Mem} {a0 : Nat} {a2 : Int32} {a3 : Int32} {a5 : Int32} {s0 : Int32}  (hk15 : ∀ (a4 : Int32) (a5 : Int32), q_V Y_X12_voted none (fun x : Int32 => (some (.int x), M)) 0 0 15 [(0, .ref a0), (2, .int a2), (3, .int a3), (4, .int a4), (5, .int a5)] [] M (kk15 a4 a5)): q_V Y_X12_voted none (fun x : Int32 => (some (.int x), M)) 0 0 84 [(0, .ref a0), (2, .int a2), (3, .int a3), (5, .int a5)] [.int s0] M (f_X12_voted_b84 kk15 M a0 a2 a3 a5 s0) := by
  unfold f_X12_voted_b84
  refine q_iconst (x := (0 : Int32)) dX12_voted_84 rfl ?_
  refine q_iadd dX12_voted_85 ?_
  refine q_istore (ls' := [(4, .int (s0 + (0 : Int32))), (0, .ref a0), (2, .int a2), (3, .int a3), (5, .int a5)]) dX12_voted_86 (by decide) rfl ?_
  refine q_iinc 4 (y := (a5 + (1 : Int32))) (ls' := [(5, .int (a5 + (1 : Int32))), (4, .int (s0 + (0 : Int32))), (0, .ref a0), (2, .int a2), (3, .int a3)]) dX12_voted_88 rfl rfl (by decide) rfl ?_
  refine q_goto (tgt := 15) dX12_voted_91 (by decide) ?_
  refine q_sub (ls' := [(0, .ref a0), (2, .int a2), (3, .int a3), (4, .int (s0 + (0 : Int32))), (5, .int (a5 + (1 : Int32)))]) [2, 3, 4, 1, 0] rfl ?_
  exact hk15 _ _
set_option maxRecDepth 20000 in
theorem v_X12_voted_b58 {kk15 : Int32 → Int32 → Option Int32} {M : q_Mem} {a0 : Nat} {a2 : Int32} {a3 : Int32} {a5 : Int32} {s0 : Int32}  (hk15 : ∀ (a4 : Int32) (a5 : Int32), q_V Y_X12_voted none (fun x : Int32 => (some (.int x), M)) 0 0 15 [(0, .ref a0), (2, .int a2), (3, .int a3), (4, .int a4), (5, .int a5)] [] M (kk15 a4 a5)): q_V Y_X12_voted none (fun x : Int32 => (some (.int x), M)) 0 0 58 [(0, .ref a0), (2, .int a2), (3, .int a3), (5, .int a5)] [.int s0] M (f_X12_voted_b58 kk15 M a0 a2 a3 a5 s0) := by
  unfold f_X12_voted_b58
  refine q_aload_n 0 dX12_voted_58 rfl ?_
  refine q_getR (f := 0) cl_X12 (by decide) qw_1117 rfl dX12_voted_59 (fun _ _ _ => rfl) (fun v15 h16 => ?_)
  refine q_iload_n 2 dX12_voted_62 rfl ?_
  refine q_bipush (x := (62 : Int32)) dX12_voted_63 rfl ?_
  refine q_iadd dX12_voted_65 ?_
  refine q_iald dX12_voted_66 (fun v17 h18 => ?_)
  refine q_iconst (x := (1 : Int32)) dX12_voted_67 rfl ?_
  refine q_icmp_ne (tgt := 80) dX12_voted_68 (by decide) (fun c21 => ?_) (fun c21 => ?_)
  · refine q_aload_n 0 dX12_voted_71 rfl ?_
    refine q_iload 3 dX12_voted_72 rfl ?_
    refine q_cVI (Y2 := Y_X12_cows) (As := [.int a5]) (b := a0) (st := [.int s0]) cl_X12 mv_X12_cows qw_1451 dX12_voted_74 ⟨Nat.le_of_ble_eq_true rfl, Nat.le_of_ble_eq_true rfl⟩ rfl (fun _ _ => rfl) (Nat.le_of_ble_eq_true rfl) ⟨Nat.le_of_ble_eq_true rfl, Nat.le_of_ble_eq_true rfl⟩ (fun v20 h19 => q_ob_is h19) (fun v20 h19 => m_X12_cows h19) (fun v20 h19 => ?_)
    refine q_goto (tgt := 85) dX12_voted_77 (by decide) ?_
    refine q_iadd dX12_voted_85 ?_
    refine q_istore (ls' := [(4, .int (s0 + v20)), (0, .ref a0), (2, .int a2), (3, .int a3), (5, .int a5)]) dX12_voted_86 (by decide) rfl ?_
    refine q_iinc 4 (y := (a5 + (1 : Int32))) (ls' := [(5, .int (a5 + (1 : Int32))), (4, .int (s0 + v20)), (0, .ref a0), (2, .int a2), (3, .int a3)]) dX12_voted_88 rfl rfl (by decide) rfl ?_
    refine q_goto (tgt := 15) dX12_voted_91 (by decide) ?_
    refine q_sub (ls' := [(0, .ref a0), (2, .int a2), (3, .int a3), (4, .int (s0 + v20)), (5, .int (a5 + (1 : Int32)))]) [2, 3, 4, 1, 0] rfl ?_
    exact hk15 _ _
  · refine q_iconst (x := (1 : Int32)) dX12_voted_80 rfl ?_
    refine q_goto (tgt := 85) dX12_voted_81 (by decide) ?_
    refine q_iadd dX12_voted_85 ?_
    refine q_istore (ls' := [(4, .int (s0 + (1 : Int32))), (0, .ref a0), (2, .int a2), (3, .int a3), (5, .int a5)]) dX12_voted_86 (by decide) rfl ?_
    refine q_iinc 4 (y := (a5 + (1 : Int32))) (ls' := [(5, .int (a5 + (1 : Int32))), (4, .int (s0 + (1 : Int32))), (0, .ref a0), (2, .int a2), (3, .int a3)]) dX12_voted_88 rfl rfl (by decide) rfl ?_
    refine q_goto (tgt := 15) dX12_voted_91 (by decide) ?_
    refine q_sub (ls' := [(0, .ref a0), (2, .int a2), (3, .int a3), (4, .int (s0 + (1 : Int32))), (5, .int (a5 + (1 : Int32)))]) [2, 3, 4, 1, 0] rfl ?_
    exact hk15 _ _
set_option maxRecDepth 20000 in
theorem v_X12_voted_b15 {M : q_Mem} {a0 : Nat} {a2 : Int32} {a3 : Int32}  : ∀ (n : Nat) (a4 : Int32) (a5 : Int32), q_V Y_X12_voted none (fun x : Int32 => (some (.int x), M)) 0 0 15 [(0, .ref a0), (2, .int a2), (3, .int a3), (4, .int a4), (5, .int a5)] [] M (f_X12_voted_b15 M a0 a2 a3 n a4 a5) := by
  intro n
  induction n with
  | zero => intro a4 a5; exact q_none
  | succ n ih =>
    intro a4 a5
    rw [f_X12_voted_b15.eq_2]
    refine q_iload 4 dX12_voted_15 rfl ?_
    refine q_aload_n 0 dX12_voted_17 rfl ?_
    refine q_getR (f := 0) cl_X12 (by decide) qw_1117 rfl dX12_voted_18 (fun _ _ _ => rfl) (fun v1 h2 => ?_)
    refine q_iconst (x := (0 : Int32)) dX12_voted_21 rfl ?_
    refine q_iald dX12_voted_22 (fun v3 h4 => ?_)
    refine q_icmp_ge (tgt := 94) dX12_voted_23 (by decide) (fun c14 => ?_) (fun c14 => ?_)
    · refine q_iload 3 dX12_voted_26 rfl ?_
      refine q_aload_n 0 dX12_voted_28 rfl ?_
      refine q_iload 4 dX12_voted_29 rfl ?_
      refine q_cVI (Y2 := Y_X12_isMember) (As := [.int a5]) (b := a0) (st := [.int a4]) cl_X12 mv_X12_isMember qw_1447 dX12_voted_31 ⟨Nat.le_of_ble_eq_true rfl, Nat.le_of_ble_eq_true rfl⟩ rfl (fun _ _ => rfl) (Nat.le_of_ble_eq_true rfl) ⟨Nat.le_of_ble_eq_true rfl, Nat.le_of_ble_eq_true rfl⟩ (fun v6 h5 => q_ob_is h5) (fun v6 h5 => m_X12_isMember h5) (fun v6 h5 => ?_)
      refine q_if_eq (tgt := 84) dX12_voted_34 (by decide) (fun c13 => ?_) (fun c13 => ?_)
      · refine q_sub (ls' := [(0, .ref a0), (2, .int a2), (3, .int a3), (5, .int a5)]) [0, 1, 2, 4] rfl ?_
        exact v_X12_voted_b84 (ih)
      · refine q_iload_n 1 dX12_voted_37 rfl ?_
        refine q_iconst (x := (2 : Int32)) dX12_voted_38 rfl ?_
        refine q_icmp_eq (tgt := 58) dX12_voted_39 (by decide) (fun c12 => ?_) (fun c12 => ?_)
        · refine q_sub (ls' := [(0, .ref a0), (2, .int a2), (3, .int a3), (5, .int a5)]) [0, 1, 2, 4] rfl ?_
          exact v_X12_voted_b58 (ih)
        · refine q_aload_n 0 dX12_voted_42 rfl ?_
          refine q_getR (f := 0) cl_X12 (by decide) qw_1117 rfl dX12_voted_43 (fun _ _ _ => rfl) (fun v7 h8 => ?_)
          refine q_iload_n 2 dX12_voted_46 rfl ?_
          refine q_bipush (x := (64 : Int32)) dX12_voted_47 rfl ?_
          refine q_iadd dX12_voted_49 ?_
          refine q_iload 4 dX12_voted_50 rfl ?_
          refine q_iadd dX12_voted_52 ?_
          refine q_iald dX12_voted_53 (fun v9 h10 => ?_)
          refine q_iload_n 1 dX12_voted_54 rfl ?_
          refine q_icmp_ne (tgt := 84) dX12_voted_55 (by decide) (fun c11 => ?_) (fun c11 => ?_)
          · refine q_sub (ls' := [(0, .ref a0), (2, .int a2), (3, .int a3), (5, .int a5)]) [0, 1, 2, 4] rfl ?_
            exact v_X12_voted_b58 (ih)
          · refine q_sub (ls' := [(0, .ref a0), (2, .int a2), (3, .int a3), (5, .int a5)]) [0, 1, 2, 4] rfl ?_
            exact v_X12_voted_b84 (ih)
    · refine q_iload 3 dX12_voted_94 rfl ?_
      exact q_iret dX12_voted_96 rfl rfl (Nat.le_of_ble_eq_true rfl) rfl
set_option maxRecDepth 20000 in
theorem m_X12_voted {M : q_Mem} {a0 : Nat} {a1 : Int32} {a2 : Int32} {x : Int32} (h : f_X12_voted M a0 a1 a2 = some x) : q_C Y_X12_voted [.ref a0, .int a1, .int a2] M (some (.int x)) M := by
  refine q_met (φ := (fun x : Int32 => (some (.int x), M))) (r := f_X12_voted M a0 a1 a2) (by decide +kernel) (Nat.le_of_ble_eq_true rfl) ?_ h (fun _ _ => rfl)
  show q_V Y_X12_voted none (fun x : Int32 => (some (.int x), M)) 0 0 0 [(0, .ref a0), (1, .int a1), (2, .int a2)] [] M (f_X12_voted M a0 a1 a2)
  unfold f_X12_voted
  refine q_obV ?_
  refine q_sipush (x := (3686 : Int32)) dX12_voted_0 rfl ?_
  refine q_bipush (x := (84 : Int32)) dX12_voted_3 rfl ?_
  refine q_iload_n 1 dX12_voted_5 rfl ?_
  refine q_imul dX12_voted_6 ?_
  refine q_iadd dX12_voted_7 ?_
  refine q_istore_n (ls' := [(3, .int ((3686 : Int32) + ((84 : Int32) * a1))), (0, .ref a0), (1, .int a1), (2, .int a2)]) dX12_voted_8 (by decide) rfl ?_
  refine q_iconst (x := (0 : Int32)) dX12_voted_9 rfl ?_
  refine q_istore (ls' := [(4, .int (0 : Int32)), (3, .int ((3686 : Int32) + ((84 : Int32) * a1))), (0, .ref a0), (1, .int a1), (2, .int a2)]) dX12_voted_10 (by decide) rfl ?_
  refine q_iconst (x := (0 : Int32)) dX12_voted_12 rfl ?_
  refine q_istore (ls' := [(5, .int (0 : Int32)), (4, .int (0 : Int32)), (3, .int ((3686 : Int32) + ((84 : Int32) * a1))), (0, .ref a0), (1, .int a1), (2, .int a2)]) dX12_voted_13 (by decide) rfl ?_
  refine q_sub (ls' := [(0, .ref a0), (2, .int a2), (3, .int ((3686 : Int32) + ((84 : Int32) * a1))), (4, .int (0 : Int32)), (5, .int (0 : Int32))]) [3, 5, 2, 1, 0] rfl ?_
  exact v_X12_voted_b15 _ _ _
theorem dX12_isPassed_0 : decode cX12_isPassed 0 = .ok (.aload_n 0, 1) := by decide +kernel
theorem dX12_isPassed_1 : decode cX12_isPassed 1 = .ok (.iload_n 1, 1) := by decide +kernel
theorem dX12_isPassed_2 : decode cX12_isPassed 2 = .ok (.iconst 1, 1) := by decide +kernel
theorem dX12_isPassed_3 : decode cX12_isPassed 3 = .ok (.invokevirtual 253, 3) := by decide +kernel
theorem dX12_isPassed_6 : decode cX12_isPassed 6 = .ok (.istore_n 2, 1) := by decide +kernel
theorem dX12_isPassed_7 : decode cX12_isPassed 7 = .ok (.aload_n 0, 1) := by decide +kernel
theorem dX12_isPassed_8 : decode cX12_isPassed 8 = .ok (.iload_n 1, 1) := by decide +kernel
theorem dX12_isPassed_9 : decode cX12_isPassed 9 = .ok (.iconst (-1), 1) := by decide +kernel
theorem dX12_isPassed_10 : decode cX12_isPassed 10 = .ok (.invokevirtual 253, 3) := by decide +kernel
theorem dX12_isPassed_13 : decode cX12_isPassed 13 = .ok (.istore_n 3, 1) := by decide +kernel
theorem dX12_isPassed_14 : decode cX12_isPassed 14 = .ok (.iload_n 2, 1) := by decide +kernel
theorem dX12_isPassed_15 : decode cX12_isPassed 15 = .ok (.iload_n 3, 1) := by decide +kernel
theorem dX12_isPassed_16 : decode cX12_isPassed 16 = .ok (.if_icmp .le 21, 3) := by decide +kernel
theorem dX12_isPassed_19 : decode cX12_isPassed 19 = .ok (.iconst 2, 1) := by decide +kernel
theorem dX12_isPassed_20 : decode cX12_isPassed 20 = .ok (.iload_n 2, 1) := by decide +kernel
theorem dX12_isPassed_21 : decode cX12_isPassed 21 = .ok (.iload_n 3, 1) := by decide +kernel
theorem dX12_isPassed_22 : decode cX12_isPassed 22 = .ok (.iadd, 1) := by decide +kernel
theorem dX12_isPassed_23 : decode cX12_isPassed 23 = .ok (.imul, 1) := by decide +kernel
theorem dX12_isPassed_24 : decode cX12_isPassed 24 = .ok (.aload_n 0, 1) := by decide +kernel
theorem dX12_isPassed_25 : decode cX12_isPassed 25 = .ok (.iload_n 1, 1) := by decide +kernel
theorem dX12_isPassed_26 : decode cX12_isPassed 26 = .ok (.iconst 2, 1) := by decide +kernel
theorem dX12_isPassed_27 : decode cX12_isPassed 27 = .ok (.invokevirtual 253, 3) := by decide +kernel
theorem dX12_isPassed_30 : decode cX12_isPassed 30 = .ok (.if_icmp .lt 7, 3) := by decide +kernel
theorem dX12_isPassed_33 : decode cX12_isPassed 33 = .ok (.iconst 1, 1) := by decide +kernel
theorem dX12_isPassed_34 : decode cX12_isPassed 34 = .ok (.goto 4, 3) := by decide +kernel
theorem dX12_isPassed_37 : decode cX12_isPassed 37 = .ok (.iconst 0, 1) := by decide +kernel
theorem dX12_isPassed_38 : decode cX12_isPassed 38 = .ok (.ireturn, 1) := by decide +kernel
def f_X12_isPassed (M : q_Mem) (a0 : Nat) (a1 : Int32) : Option Int32 :=
  q_ob 11 M a0 ((f_X12_voted M a0 a1 (1 : Int32)).bind fun v2 =>
  (f_X12_voted M a0 a1 (-1 : Int32)).bind fun v4 =>
  (if v4 < v2 then
    (f_X12_voted M a0 a1 (2 : Int32)).bind fun v6 =>
    (if ((2 : Int32) * (v2 + v4)) < v6 then
      some (0 : Int32)
    else
      some (1 : Int32))
  else
    some (0 : Int32)))
set_option maxRecDepth 20000 in
theorem m_X12_isPassed {M : q_Mem} {a0 : Nat} {a1 : Int32} {x : Int32} (h : f_X12_isPassed M a0 a1 = some x) : q_C Y_X12_isPassed [.ref a0, .int a1] M (some (.int x)) M := by
  refine q_met (φ := (fun x : Int32 => (some (.int x), M))) (r := f_X12_isPassed M a0 a1) (by decide +kernel) (Nat.le_of_ble_eq_true rfl) ?_ h (fun _ _ => rfl)
  show q_V Y_X12_isPassed none (fun x : Int32 => (some (.int x), M)) 0 0 0 [(0, .ref a0), (1, .int a1)] [] M (f_X12_isPassed M a0 a1)
  unfold f_X12_isPassed
  refine q_obV ?_
  refine q_aload_n 0 dX12_isPassed_0 rfl ?_
  refine q_iload_n 1 dX12_isPassed_1 rfl ?_
  refine q_iconst (x := (1 : Int32)) dX12_isPassed_2 rfl ?_
  refine q_cVI (Y2 := Y_X12_voted) (As := [.int a1, .int (1 : Int32)]) (b := a0) (st := []) cl_X12 mv_X12_voted qw_1499 dX12_isPassed_3 ⟨Nat.le_of_ble_eq_true rfl, Nat.le_of_ble_eq_true rfl⟩ rfl (fun _ _ => rfl) (Nat.le_of_ble_eq_true rfl) ⟨Nat.le_of_ble_eq_true rfl, Nat.le_of_ble_eq_true rfl⟩ (fun v2 h1 => q_ob_is h1) (fun v2 h1 => m_X12_voted h1) (fun v2 h1 => ?_)
  refine q_istore_n (ls' := [(2, .int v2), (0, .ref a0), (1, .int a1)]) dX12_isPassed_6 (by decide) rfl ?_
  refine q_aload_n 1 dX12_isPassed_7 rfl ?_
  refine q_iload_n 2 dX12_isPassed_8 rfl ?_
  refine q_iconst (x := (-1 : Int32)) dX12_isPassed_9 rfl ?_
  refine q_cVI (Y2 := Y_X12_voted) (As := [.int a1, .int (-1 : Int32)]) (b := a0) (st := []) cl_X12 mv_X12_voted qw_1499 dX12_isPassed_10 ⟨Nat.le_of_ble_eq_true rfl, Nat.le_of_ble_eq_true rfl⟩ rfl (fun _ _ => rfl) (Nat.le_of_ble_eq_true rfl) ⟨Nat.le_of_ble_eq_true rfl, Nat.le_of_ble_eq_true rfl⟩ (fun v4 h3 => q_ob_is h3) (fun v4 h3 => m_X12_voted h3) (fun v4 h3 => ?_)
  refine q_istore_n (ls' := [(3, .int v4), (2, .int v2), (0, .ref a0), (1, .int a1)]) dX12_isPassed_13 (by decide) rfl ?_
  refine q_iload_n 1 dX12_isPassed_14 rfl ?_
  refine q_iload_n 0 dX12_isPassed_15 rfl ?_
  refine q_icmp_le (tgt := 37) dX12_isPassed_16 (by decide) (fun c8 => ?_) (fun c8 => ?_)
  · refine q_iconst (x := (2 : Int32)) dX12_isPassed_19 rfl ?_
    refine q_iload_n 1 dX12_isPassed_20 rfl ?_
    refine q_iload_n 0 dX12_isPassed_21 rfl ?_
    refine q_iadd dX12_isPassed_22 ?_
    refine q_imul dX12_isPassed_23 ?_
    refine q_aload_n 2 dX12_isPassed_24 rfl ?_
    refine q_iload_n 3 dX12_isPassed_25 rfl ?_
    refine q_iconst (x := (2 : Int32)) dX12_isPassed_26 rfl ?_
    refine q_cVI (Y2 := Y_X12_voted) (As := [.int a1, .int (2 : Int32)]) (b := a0) (st := [.int ((2 : Int32) * (v2 + v4))]) cl_X12 mv_X12_voted qw_1499 dX12_isPassed_27 ⟨Nat.le_of_ble_eq_true rfl, Nat.le_of_ble_eq_true rfl⟩ rfl (fun _ _ => rfl) (Nat.le_of_ble_eq_true rfl) ⟨Nat.le_of_ble_eq_true rfl, Nat.le_of_ble_eq_true rfl⟩ (fun v6 h5 => q_ob_is h5) (fun v6 h5 => m_X12_voted h5) (fun v6 h5 => ?_)
    refine q_icmp_lt (tgt := 37) dX12_isPassed_30 (by decide) (fun c7 => ?_) (fun c7 => ?_)
    · refine q_iconst (x := (0 : Int32)) dX12_isPassed_37 rfl ?_
      exact q_zretL dX12_isPassed_38 rfl (Or.inl rfl) rfl (Nat.le_of_ble_eq_true rfl) rfl
    · refine q_iconst (x := (1 : Int32)) dX12_isPassed_33 rfl ?_
      refine q_goto (tgt := 38) dX12_isPassed_34 (by decide) ?_
      exact q_zretL dX12_isPassed_38 rfl (Or.inr rfl) rfl (Nat.le_of_ble_eq_true rfl) rfl
  · refine q_iconst (x := (0 : Int32)) dX12_isPassed_37 rfl ?_
    exact q_zretL dX12_isPassed_38 rfl (Or.inl rfl) rfl (Nat.le_of_ble_eq_true rfl) rfl
theorem dX12_motionOf_0 : decode cX12_motionOf 0 = .ok (.iload_n 2, 1) := by decide +kernel
theorem dX12_motionOf_1 : decode cX12_motionOf 1 = .ok (.tableswitch 66 0 3 #[31, 38, 45, 52], 31) := by decide +kernel
theorem dX12_motionOf_32 : decode cX12_motionOf 32 = .ok (.aload_n 0, 1) := by decide +kernel
theorem dX12_motionOf_33 : decode cX12_motionOf 33 = .ok (.iload_n 1, 1) := by decide +kernel
theorem dX12_motionOf_34 : decode cX12_motionOf 34 = .ok (.iconst 1, 1) := by decide +kernel
theorem dX12_motionOf_35 : decode cX12_motionOf 35 = .ok (.invokevirtual 253, 3) := by decide +kernel
theorem dX12_motionOf_38 : decode cX12_motionOf 38 = .ok (.ireturn, 1) := by decide +kernel
theorem dX12_motionOf_39 : decode cX12_motionOf 39 = .ok (.aload_n 0, 1) := by decide +kernel
theorem dX12_motionOf_40 : decode cX12_motionOf 40 = .ok (.iload_n 1, 1) := by decide +kernel
theorem dX12_motionOf_41 : decode cX12_motionOf 41 = .ok (.iconst (-1), 1) := by decide +kernel
theorem dX12_motionOf_42 : decode cX12_motionOf 42 = .ok (.invokevirtual 253, 3) := by decide +kernel
theorem dX12_motionOf_45 : decode cX12_motionOf 45 = .ok (.ireturn, 1) := by decide +kernel
theorem dX12_motionOf_46 : decode cX12_motionOf 46 = .ok (.aload_n 0, 1) := by decide +kernel
theorem dX12_motionOf_47 : decode cX12_motionOf 47 = .ok (.iload_n 1, 1) := by decide +kernel
theorem dX12_motionOf_48 : decode cX12_motionOf 48 = .ok (.iconst 2, 1) := by decide +kernel
theorem dX12_motionOf_49 : decode cX12_motionOf 49 = .ok (.invokevirtual 253, 3) := by decide +kernel
theorem dX12_motionOf_52 : decode cX12_motionOf 52 = .ok (.ireturn, 1) := by decide +kernel
theorem dX12_motionOf_53 : decode cX12_motionOf 53 = .ok (.aload_n 0, 1) := by decide +kernel
theorem dX12_motionOf_54 : decode cX12_motionOf 54 = .ok (.iload_n 1, 1) := by decide +kernel
theorem dX12_motionOf_55 : decode cX12_motionOf 55 = .ok (.invokevirtual 256, 3) := by decide +kernel
theorem dX12_motionOf_58 : decode cX12_motionOf 58 = .ok (.ifCond .eq 7, 3) := by decide +kernel
theorem dX12_motionOf_61 : decode cX12_motionOf 61 = .ok (.iconst 1, 1) := by decide +kernel
theorem dX12_motionOf_62 : decode cX12_motionOf 62 = .ok (.goto 4, 3) := by decide +kernel
theorem dX12_motionOf_65 : decode cX12_motionOf 65 = .ok (.iconst 0, 1) := by decide +kernel
theorem dX12_motionOf_66 : decode cX12_motionOf 66 = .ok (.ireturn, 1) := by decide +kernel
theorem dX12_motionOf_67 : decode cX12_motionOf 67 = .ok (.aload_n 0, 1) := by decide +kernel
theorem dX12_motionOf_68 : decode cX12_motionOf 68 = .ok (.getfield 7, 3) := by decide +kernel
theorem dX12_motionOf_71 : decode cX12_motionOf 71 = .ok (.sipush 3686, 3) := by decide +kernel
theorem dX12_motionOf_74 : decode cX12_motionOf 74 = .ok (.bipush 84, 2) := by decide +kernel
theorem dX12_motionOf_76 : decode cX12_motionOf 76 = .ok (.iload_n 1, 1) := by decide +kernel
theorem dX12_motionOf_77 : decode cX12_motionOf 77 = .ok (.imul, 1) := by decide +kernel
theorem dX12_motionOf_78 : decode cX12_motionOf 78 = .ok (.iadd, 1) := by decide +kernel
theorem dX12_motionOf_79 : decode cX12_motionOf 79 = .ok (.bipush 63, 2) := by decide +kernel
theorem dX12_motionOf_81 : decode cX12_motionOf 81 = .ok (.iadd, 1) := by decide +kernel
theorem dX12_motionOf_82 : decode cX12_motionOf 82 = .ok (.iaload, 1) := by decide +kernel
theorem dX12_motionOf_83 : decode cX12_motionOf 83 = .ok (.ireturn, 1) := by decide +kernel
def f_X12_motionOf (M : q_Mem) (a0 : Nat) (a1 : Int32) (a2 : Int32) : Option Int32 :=
  q_ob 11 M a0 ((if a2 < 0 then
    (q_gR 11 0 M a0).bind fun v1 =>
    (q_lI M v1 (((3686 : Int32) + ((84 : Int32) * a1)) + (63 : Int32))).bind fun v3 =>
    some v3
  else
   (if a2 = 0 then
    (f_X12_voted M a0 a1 (1 : Int32)).bind fun v8 =>
    some v8
   else
   (if a2 = 1 then
    (f_X12_voted M a0 a1 (-1 : Int32)).bind fun v12 =>
    some v12
   else
   (if a2 = 2 then
    (f_X12_voted M a0 a1 (2 : Int32)).bind fun v16 =>
    some v16
   else
   (if a2 = 3 then
    (f_X12_isPassed M a0 a1).bind fun v20 =>
    (if v20 = 0 then
      some (0 : Int32)
    else
      some (1 : Int32))
   else
   (q_gR 11 0 M a0).bind fun v1 =>
  (q_lI M v1 (((3686 : Int32) + ((84 : Int32) * a1)) + (63 : Int32))).bind fun v3 =>
  some v3))))))
set_option maxRecDepth 20000 in
theorem m_X12_motionOf {M : q_Mem} {a0 : Nat} {a1 : Int32} {a2 : Int32} {x : Int32} (h : f_X12_motionOf M a0 a1 a2 = some x) : q_C Y_X12_motionOf [.ref a0, .int a1, .int a2] M (some (.int x)) M := by
  refine q_met (φ := (fun x : Int32 => (some (.int x), M))) (r := f_X12_motionOf M a0 a1 a2) (by decide +kernel) (Nat.le_of_ble_eq_true rfl) ?_ h (fun _ _ => rfl)
  show q_V Y_X12_motionOf none (fun x : Int32 => (some (.int x), M)) 0 0 0 [(0, .ref a0), (1, .int a1), (2, .int a2)] [] M (f_X12_motionOf M a0 a1 a2)
  unfold f_X12_motionOf
  refine q_obV ?_
  refine q_iload_n 2 dX12_motionOf_0 rfl ?_
  refine q_ifV (fun c5 => ?_) (fun c5 => ?_)
  · refine q_tabOut (tgt := 67) dX12_motionOf_1 (Or.inl (q_lt c5 rfl)) (by decide) ?_
    refine q_aload_n 0 dX12_motionOf_67 rfl ?_
    refine q_getR (f := 0) cl_X12 (by decide) qw_1117 rfl dX12_motionOf_68 (fun _ _ _ => rfl) (fun v1 h2 => ?_)
    refine q_sipush (x := (3686 : Int32)) dX12_motionOf_71 rfl ?_
    refine q_bipush (x := (84 : Int32)) dX12_motionOf_74 rfl ?_
    refine q_iload_n 1 dX12_motionOf_76 rfl ?_
    refine q_imul dX12_motionOf_77 ?_
    refine q_iadd dX12_motionOf_78 ?_
    refine q_bipush (x := (63 : Int32)) dX12_motionOf_79 rfl ?_
    refine q_iadd dX12_motionOf_81 ?_
    refine q_iald dX12_motionOf_82 (fun v3 h4 => ?_)
    exact q_iret dX12_motionOf_83 rfl rfl (Nat.le_of_ble_eq_true rfl) rfl
  · have b6 := q_nlt (b := 0) c5 rfl
    refine q_ifV (fun c9 => ?_) (fun c9 => ?_)
    · refine q_tabIn (tgt := 32) 0 dX12_motionOf_1 c9 (by decide) (by decide) rfl (by decide) ?_
      refine q_aload_n 0 dX12_motionOf_32 rfl ?_
      refine q_iload_n 1 dX12_motionOf_33 rfl ?_
      refine q_iconst (x := (1 : Int32)) dX12_motionOf_34 rfl ?_
      refine q_cVI (Y2 := Y_X12_voted) (As := [.int a1, .int (1 : Int32)]) (b := a0) (st := []) cl_X12 mv_X12_voted qw_1499 dX12_motionOf_35 ⟨Nat.le_of_ble_eq_true rfl, Nat.le_of_ble_eq_true rfl⟩ rfl (fun _ _ => rfl) (Nat.le_of_ble_eq_true rfl) ⟨Nat.le_of_ble_eq_true rfl, Nat.le_of_ble_eq_true rfl⟩ (fun v8 h7 => q_ob_is h7) (fun v8 h7 => m_X12_voted h7) (fun v8 h7 => ?_)
      exact q_iret dX12_motionOf_38 rfl rfl (Nat.le_of_ble_eq_true rfl) rfl
    · have b10 := q_step (c := 1) b6 c9 rfl (by decide)
      refine q_ifV (fun c13 => ?_) (fun c13 => ?_)
      · refine q_tabIn (tgt := 39) 1 dX12_motionOf_1 c13 (by decide) (by decide) rfl (by decide) ?_
        refine q_aload_n 0 dX12_motionOf_39 rfl ?_
        refine q_iload_n 1 dX12_motionOf_40 rfl ?_
        refine q_iconst (x := (-1 : Int32)) dX12_motionOf_41 rfl ?_
        refine q_cVI (Y2 := Y_X12_voted) (As := [.int a1, .int (-1 : Int32)]) (b := a0) (st := []) cl_X12 mv_X12_voted qw_1499 dX12_motionOf_42 ⟨Nat.le_of_ble_eq_true rfl, Nat.le_of_ble_eq_true rfl⟩ rfl (fun _ _ => rfl) (Nat.le_of_ble_eq_true rfl) ⟨Nat.le_of_ble_eq_true rfl, Nat.le_of_ble_eq_true rfl⟩ (fun v12 h11 => q_ob_is h11) (fun v12 h11 => m_X12_voted h11) (fun v12 h11 => ?_)
        exact q_iret dX12_motionOf_45 rfl rfl (Nat.le_of_ble_eq_true rfl) rfl
      · have b14 := q_step (c := 2) b10 c13 rfl (by decide)
        refine q_ifV (fun c17 => ?_) (fun c17 => ?_)
        · refine q_tabIn (tgt := 46) 2 dX12_motionOf_1 c17 (by decide) (by decide) rfl (by decide) ?_
          refine q_aload_n 0 dX12_motionOf_46 rfl ?_
          refine q_iload_n 1 dX12_motionOf_47 rfl ?_
          refine q_iconst (x := (2 : Int32)) dX12_motionOf_48 rfl ?_
          refine q_cVI (Y2 := Y_X12_voted) (As := [.int a1, .int (2 : Int32)]) (b := a0) (st := []) cl_X12 mv_X12_voted qw_1499 dX12_motionOf_49 ⟨Nat.le_of_ble_eq_true rfl, Nat.le_of_ble_eq_true rfl⟩ rfl (fun _ _ => rfl) (Nat.le_of_ble_eq_true rfl) ⟨Nat.le_of_ble_eq_true rfl, Nat.le_of_ble_eq_true rfl⟩ (fun v16 h15 => q_ob_is h15) (fun v16 h15 => m_X12_voted h15) (fun v16 h15 => ?_)
          exact q_iret dX12_motionOf_52 rfl rfl (Nat.le_of_ble_eq_true rfl) rfl
        · have b18 := q_step (c := 3) b14 c17 rfl (by decide)
          refine q_ifV (fun c22 => ?_) (fun c22 => ?_)
          · refine q_tabIn (tgt := 53) 3 dX12_motionOf_1 c22 (by decide) (by decide) rfl (by decide) ?_
            refine q_aload_n 0 dX12_motionOf_53 rfl ?_
            refine q_iload_n 1 dX12_motionOf_54 rfl ?_
            refine q_cVI (Y2 := Y_X12_isPassed) (As := [.int a1]) (b := a0) (st := []) cl_X12 mv_X12_isPassed qw_1503 dX12_motionOf_55 ⟨Nat.le_of_ble_eq_true rfl, Nat.le_of_ble_eq_true rfl⟩ rfl (fun _ _ => rfl) (Nat.le_of_ble_eq_true rfl) ⟨Nat.le_of_ble_eq_true rfl, Nat.le_of_ble_eq_true rfl⟩ (fun v20 h19 => q_ob_is h19) (fun v20 h19 => m_X12_isPassed h19) (fun v20 h19 => ?_)
            refine q_if_eq (tgt := 65) dX12_motionOf_58 (by decide) (fun c21 => ?_) (fun c21 => ?_)
            · refine q_iconst (x := (0 : Int32)) dX12_motionOf_65 rfl ?_
              exact q_iret dX12_motionOf_66 rfl rfl (Nat.le_of_ble_eq_true rfl) rfl
            · refine q_iconst (x := (1 : Int32)) dX12_motionOf_61 rfl ?_
              refine q_goto (tgt := 66) dX12_motionOf_62 (by decide) ?_
              exact q_iret dX12_motionOf_66 rfl rfl (Nat.le_of_ble_eq_true rfl) rfl
          · have b23 := q_step (c := 4) b18 c22 rfl (by decide)
            refine q_tabOut (tgt := 67) dX12_motionOf_1 (Or.inr (Int.lt_of_lt_of_le (by decide) b23)) (by decide) ?_
            refine q_aload_n 0 dX12_motionOf_67 rfl ?_
            refine q_getR (f := 0) cl_X12 (by decide) qw_1117 rfl dX12_motionOf_68 (fun _ _ _ => rfl) (fun v1 h2 => ?_)
            refine q_sipush (x := (3686 : Int32)) dX12_motionOf_71 rfl ?_
            refine q_bipush (x := (84 : Int32)) dX12_motionOf_74 rfl ?_
            refine q_iload_n 1 dX12_motionOf_76 rfl ?_
            refine q_imul dX12_motionOf_77 ?_
            refine q_iadd dX12_motionOf_78 ?_
            refine q_bipush (x := (63 : Int32)) dX12_motionOf_79 rfl ?_
            refine q_iadd dX12_motionOf_81 ?_
            refine q_iald dX12_motionOf_82 (fun v3 h4 => ?_)
            exact q_iret dX12_motionOf_83 rfl rfl (Nat.le_of_ble_eq_true rfl) rfl
theorem dX12_motionAt_0 : decode cX12_motionAt 0 = .ok (.aload_n 0, 1) := by decide +kernel
theorem dX12_motionAt_1 : decode cX12_motionAt 1 = .ok (.iconst 5, 1) := by decide +kernel
theorem dX12_motionAt_2 : decode cX12_motionAt 2 = .ok (.iload_n 1, 1) := by decide +kernel
theorem dX12_motionAt_3 : decode cX12_motionAt 3 = .ok (.invokevirtual 86, 3) := by decide +kernel
theorem dX12_motionAt_6 : decode cX12_motionAt 6 = .ok (.ifCond .eq 21, 3) := by decide +kernel
theorem dX12_motionAt_9 : decode cX12_motionAt 9 = .ok (.iload_n 2, 1) := by decide +kernel
theorem dX12_motionAt_10 : decode cX12_motionAt 10 = .ok (.iconst 0, 1) := by decide +kernel
theorem dX12_motionAt_11 : decode cX12_motionAt 11 = .ok (.iconst 4, 1) := by decide +kernel
theorem dX12_motionAt_12 : decode cX12_motionAt 12 = .ok (.invokestatic 78, 3) := by decide +kernel
theorem dX12_motionAt_15 : decode cX12_motionAt 15 = .ok (.ifCond .eq 12, 3) := by decide +kernel
theorem dX12_motionAt_18 : decode cX12_motionAt 18 = .ok (.aload_n 0, 1) := by decide +kernel
theorem dX12_motionAt_19 : decode cX12_motionAt 19 = .ok (.iload_n 1, 1) := by decide +kernel
theorem dX12_motionAt_20 : decode cX12_motionAt 20 = .ok (.iload_n 2, 1) := by decide +kernel
theorem dX12_motionAt_21 : decode cX12_motionAt 21 = .ok (.invokevirtual 259, 3) := by decide +kernel
theorem dX12_motionAt_24 : decode cX12_motionAt 24 = .ok (.goto 5, 3) := by decide +kernel
theorem dX12_motionAt_27 : decode cX12_motionAt 27 = .ok (.bipush (-2), 2) := by decide +kernel
theorem dX12_motionAt_29 : decode cX12_motionAt 29 = .ok (.ireturn, 1) := by decide +kernel
def f_X12_motionAt (M : q_Mem) (a0 : Nat) (a1 : Int32) (a2 : Int32) : Option Int32 :=
  q_ob 11 M a0 ((f_X12_is M a0 (5 : Int32) a1).bind fun v2 =>
  (if v2 = 0 then
    some (-2 : Int32)
  else
    (f_X12_in M a2 (0 : Int32) (4 : Int32)).bind fun v4 =>
    (if v4 = 0 then
      some (-2 : Int32)
    else
      (f_X12_motionOf M a0 a1 a2).bind fun v6 =>
      some v6)))
set_option maxRecDepth 20000 in
theorem m_X12_motionAt {M : q_Mem} {a0 : Nat} {a1 : Int32} {a2 : Int32} {x : Int32} (h : f_X12_motionAt M a0 a1 a2 = some x) : q_C Y_X12_motionAt [.ref a0, .int a1, .int a2] M (some (.int x)) M := by
  refine q_met (φ := (fun x : Int32 => (some (.int x), M))) (r := f_X12_motionAt M a0 a1 a2) (by decide +kernel) (Nat.le_of_ble_eq_true rfl) ?_ h (fun _ _ => rfl)
  show q_V Y_X12_motionAt none (fun x : Int32 => (some (.int x), M)) 0 0 0 [(0, .ref a0), (1, .int a1), (2, .int a2)] [] M (f_X12_motionAt M a0 a1 a2)
  unfold f_X12_motionAt
  refine q_obV ?_
  refine q_aload_n 0 dX12_motionAt_0 rfl ?_
  refine q_iconst (x := (5 : Int32)) dX12_motionAt_1 rfl ?_
  refine q_iload_n 1 dX12_motionAt_2 rfl ?_
  refine q_cVI (Y2 := Y_X12_is) (As := [.int (5 : Int32), .int a1]) (b := a0) (st := []) cl_X12 mv_X12_is qw_1225 dX12_motionAt_3 ⟨Nat.le_of_ble_eq_true rfl, Nat.le_of_ble_eq_true rfl⟩ rfl (fun _ _ => rfl) (Nat.le_of_ble_eq_true rfl) ⟨Nat.le_of_ble_eq_true rfl, Nat.le_of_ble_eq_true rfl⟩ (fun v2 h1 => q_ob_is h1) (fun v2 h1 => m_X12_is h1) (fun v2 h1 => ?_)
  refine q_if_eq (tgt := 27) dX12_motionAt_6 (by decide) (fun c8 => ?_) (fun c8 => ?_)
  · refine q_bipush (x := (-2 : Int32)) dX12_motionAt_27 rfl ?_
    exact q_iret dX12_motionAt_29 rfl rfl (Nat.le_of_ble_eq_true rfl) rfl
  · refine q_iload_n 2 dX12_motionAt_9 rfl ?_
    refine q_iconst (x := (0 : Int32)) dX12_motionAt_10 rfl ?_
    refine q_iconst (x := (4 : Int32)) dX12_motionAt_11 rfl ?_
    refine q_cSI (Y2 := Y_X12_in) (As := [.int a2, .int (0 : Int32), .int (4 : Int32)]) (st := []) ms_X12_in qw_1214 dX12_motionAt_12 ⟨Nat.le_of_ble_eq_true rfl, Nat.le_of_ble_eq_true rfl⟩ rfl (fun _ _ => rfl) (Nat.le_of_ble_eq_true rfl) ⟨Nat.le_of_ble_eq_true rfl, Nat.le_of_ble_eq_true rfl⟩ (fun v4 h3 => m_X12_in h3) (fun v4 h3 => ?_)
    refine q_if_eq (tgt := 27) dX12_motionAt_15 (by decide) (fun c7 => ?_) (fun c7 => ?_)
    · refine q_bipush (x := (-2 : Int32)) dX12_motionAt_27 rfl ?_
      exact q_iret dX12_motionAt_29 rfl rfl (Nat.le_of_ble_eq_true rfl) rfl
    · refine q_aload_n 0 dX12_motionAt_18 rfl ?_
      refine q_iload_n 1 dX12_motionAt_19 rfl ?_
      refine q_iload_n 2 dX12_motionAt_20 rfl ?_
      refine q_cVI (Y2 := Y_X12_motionOf) (As := [.int a1, .int a2]) (b := a0) (st := []) cl_X12 mv_X12_motionOf qw_1495 dX12_motionAt_21 ⟨Nat.le_of_ble_eq_true rfl, Nat.le_of_ble_eq_true rfl⟩ rfl (fun _ _ => rfl) (Nat.le_of_ble_eq_true rfl) ⟨Nat.le_of_ble_eq_true rfl, Nat.le_of_ble_eq_true rfl⟩ (fun v6 h5 => q_ob_is h5) (fun v6 h5 => m_X12_motionOf h5) (fun v6 h5 => ?_)
      refine q_goto (tgt := 29) dX12_motionAt_24 (by decide) ?_
      exact q_iret dX12_motionAt_29 rfl rfl (Nat.le_of_ble_eq_true rfl) rfl
theorem dX12_forceOf_0 : decode cX12_forceOf 0 = .ok (.iconst (-1), 1) := by decide +kernel
theorem dX12_forceOf_1 : decode cX12_forceOf 1 = .ok (.istore_n 2, 1) := by decide +kernel
theorem dX12_forceOf_2 : decode cX12_forceOf 2 = .ok (.iconst (-1), 1) := by decide +kernel
theorem dX12_forceOf_3 : decode cX12_forceOf 3 = .ok (.istore_n 3, 1) := by decide +kernel
theorem dX12_forceOf_4 : decode cX12_forceOf 4 = .ok (.iconst 0, 1) := by decide +kernel
theorem dX12_forceOf_5 : decode cX12_forceOf 5 = .ok (.istore 4, 2) := by decide +kernel
theorem dX12_forceOf_7 : decode cX12_forceOf 7 = .ok (.iload 4, 2) := by decide +kernel
theorem dX12_forceOf_9 : decode cX12_forceOf 9 = .ok (.aload_n 0, 1) := by decide +kernel
theorem dX12_forceOf_10 : decode cX12_forceOf 10 = .ok (.getfield 7, 3) := by decide +kernel
theorem dX12_forceOf_13 : decode cX12_forceOf 13 = .ok (.iconst 5, 1) := by decide +kernel
theorem dX12_forceOf_14 : decode cX12_forceOf 14 = .ok (.iaload, 1) := by decide +kernel
theorem dX12_forceOf_15 : decode cX12_forceOf 15 = .ok (.if_icmp .ge 75, 3) := by decide +kernel
theorem dX12_forceOf_18 : decode cX12_forceOf 18 = .ok (.aload_n 0, 1) := by decide +kernel
theorem dX12_forceOf_19 : decode cX12_forceOf 19 = .ok (.getfield 7, 3) := by decide +kernel
theorem dX12_forceOf_22 : decode cX12_forceOf 22 = .ok (.sipush 3686, 3) := by decide +kernel
theorem dX12_forceOf_25 : decode cX12_forceOf 25 = .ok (.bipush 84, 2) := by decide +kernel
theorem dX12_forceOf_27 : decode cX12_forceOf 27 = .ok (.iload 4, 2) := by decide +kernel
theorem dX12_forceOf_29 : decode cX12_forceOf 29 = .ok (.imul, 1) := by decide +kernel
theorem dX12_forceOf_30 : decode cX12_forceOf 30 = .ok (.iadd, 1) := by decide +kernel
theorem dX12_forceOf_31 : decode cX12_forceOf 31 = .ok (.bipush 61, 2) := by decide +kernel
theorem dX12_forceOf_33 : decode cX12_forceOf 33 = .ok (.iadd, 1) := by decide +kernel
theorem dX12_forceOf_34 : decode cX12_forceOf 34 = .ok (.iaload, 1) := by decide +kernel
theorem dX12_forceOf_35 : decode cX12_forceOf 35 = .ok (.istore 5, 2) := by decide +kernel
theorem dX12_forceOf_37 : decode cX12_forceOf 37 = .ok (.iload 5, 2) := by decide +kernel
theorem dX12_forceOf_39 : decode cX12_forceOf 39 = .ok (.iload_n 1, 1) := by decide +kernel
theorem dX12_forceOf_40 : decode cX12_forceOf 40 = .ok (.if_icmp .gt 44, 3) := by decide +kernel
theorem dX12_forceOf_43 : decode cX12_forceOf 43 = .ok (.iload 5, 2) := by decide +kernel
theorem dX12_forceOf_45 : decode cX12_forceOf 45 = .ok (.iload_n 3, 1) := by decide +kernel
theorem dX12_forceOf_46 : decode cX12_forceOf 46 = .ok (.if_icmp .lt 38, 3) := by decide +kernel
theorem dX12_forceOf_49 : decode cX12_forceOf 49 = .ok (.aload_n 0, 1) := by decide +kernel
theorem dX12_forceOf_50 : decode cX12_forceOf 50 = .ok (.getfield 7, 3) := by decide +kernel
theorem dX12_forceOf_53 : decode cX12_forceOf 53 = .ok (.sipush 3686, 3) := by decide +kernel
theorem dX12_forceOf_56 : decode cX12_forceOf 56 = .ok (.bipush 84, 2) := by decide +kernel
theorem dX12_forceOf_58 : decode cX12_forceOf 58 = .ok (.iload 4, 2) := by decide +kernel
theorem dX12_forceOf_60 : decode cX12_forceOf 60 = .ok (.imul, 1) := by decide +kernel
theorem dX12_forceOf_61 : decode cX12_forceOf 61 = .ok (.iadd, 1) := by decide +kernel
theorem dX12_forceOf_62 : decode cX12_forceOf 62 = .ok (.bipush 63, 2) := by decide +kernel
theorem dX12_forceOf_64 : decode cX12_forceOf 64 = .ok (.iadd, 1) := by decide +kernel
theorem dX12_forceOf_65 : decode cX12_forceOf 65 = .ok (.iaload, 1) := by decide +kernel
theorem dX12_forceOf_66 : decode cX12_forceOf 66 = .ok (.ifCond .ne 18, 3) := by decide +kernel
theorem dX12_forceOf_69 : decode cX12_forceOf 69 = .ok (.aload_n 0, 1) := by decide +kernel
theorem dX12_forceOf_70 : decode cX12_forceOf 70 = .ok (.iload 4, 2) := by decide +kernel
theorem dX12_forceOf_72 : decode cX12_forceOf 72 = .ok (.invokevirtual 256, 3) := by decide +kernel
theorem dX12_forceOf_75 : decode cX12_forceOf 75 = .ok (.ifCond .eq 9, 3) := by decide +kernel
theorem dX12_forceOf_78 : decode cX12_forceOf 78 = .ok (.iload 4, 2) := by decide +kernel
theorem dX12_forceOf_80 : decode cX12_forceOf 80 = .ok (.istore_n 2, 1) := by decide +kernel
theorem dX12_forceOf_81 : decode cX12_forceOf 81 = .ok (.iload 5, 2) := by decide +kernel
theorem dX12_forceOf_83 : decode cX12_forceOf 83 = .ok (.istore_n 3, 1) := by decide +kernel
theorem dX12_forceOf_84 : decode cX12_forceOf 84 = .ok (.iinc 4 1, 3) := by decide +kernel
theorem dX12_forceOf_87 : decode cX12_forceOf 87 = .ok (.goto (-80), 3) := by decide +kernel
theorem dX12_forceOf_90 : decode cX12_forceOf 90 = .ok (.iload_n 2, 1) := by decide +kernel
theorem dX12_forceOf_91 : decode cX12_forceOf 91 = .ok (.ireturn, 1) := by decide +kernel
def f_X12_forceOf_b7 (M : q_Mem) (a0 : Nat) (a1 : Int32) : Nat → Int32 → Int32 → Int32 → Option Int32
  | 0, _, _, _ => none
  | n + 1, a2, a3, a4 =>
    (q_gR 11 0 M a0).bind fun v1 =>
    (q_lI M v1 (5 : Int32)).bind fun v3 =>
    (if a4 < v3 then
      (q_gR 11 0 M a0).bind fun v5 =>
      (q_lI M v5 (((3686 : Int32) + ((84 : Int32) * a4)) + (61 : Int32))).bind fun v7 =>
      (if a1 < v7 then
        f_X12_forceOf_b7 M a0 a1 n a2 a3 (a4 + (1 : Int32))
      else
        (if v7 < a3 then
          f_X12_forceOf_b7 M a0 a1 n a2 a3 (a4 + (1 : Int32))
        else
          (q_gR 11 0 M a0).bind fun v9 =>
          (q_lI M v9 (((3686 : Int32) + ((84 : Int32) * a4)) + (63 : Int32))).bind fun v11 =>
          (if v11 = 0 then
            (f_X12_isPassed M a0 a4).bind fun v14 =>
            (if v14 = 0 then
              f_X12_forceOf_b7 M a0 a1 n a2 a3 (a4 + (1 : Int32))
            else
              f_X12_forceOf_b7 M a0 a1 n a4 v7 (a4 + (1 : Int32)))
          else
            f_X12_forceOf_b7 M a0 a1 n a2 a3 (a4 + (1 : Int32)))))
    else
      some a2)
def f_X12_forceOf (M : q_Mem) (a0 : Nat) (a1 : Int32) : Option Int32 :=
  q_ob 11 M a0 (f_X12_forceOf_b7 M a0 a1 q_fuel (-1 : Int32) (-1 : Int32) (0 : Int32))
set_option maxRecDepth 20000 in
theorem v_X12_forceOf_b7 {M : q_Mem} {a0 : Nat} {a1 : Int32}  : ∀ (n : Nat) (a2 : Int32) (a3 : Int32) (a4 : Int32), q_V Y_X12_forceOf none (fun x : Int32 => (some (.int x), M)) 0 0 7 [(0, .ref a0), (1, .int a1), (2, .int a2), (3, .int a3), (4, .int a4)] [] M (f_X12_forceOf_b7 M a0 a1 n a2 a3 a4) := by
  intro n
  induction n with
  | zero => intro a2 a3 a4; exact q_none
  | succ n ih =>
    intro a2 a3 a4
    rw [f_X12_forceOf_b7.eq_2]
    refine q_iload 4 dX12_forceOf_7 rfl ?_
    refine q_aload_n 0 dX12_forceOf_9 rfl ?_
    refine q_getR (f := 0) cl_X12 (by decide) qw_1117 rfl dX12_forceOf_10 (fun _ _ _ => rfl) (fun v1 h2 => ?_)
    refine q_iconst (x := (5 : Int32)) dX12_forceOf_13 rfl ?_
    refine q_iald dX12_forceOf_14 (fun v3 h4 => ?_)
    refine q_icmp_ge (tgt := 90) dX12_forceOf_15 (by decide) (fun c19 => ?_) (fun c19 => ?_)
    · refine q_aload_n 0 dX12_forceOf_18 rfl ?_
      refine q_getR (f := 0) cl_X12 (by decide) qw_1117 rfl dX12_forceOf_19 (fun _ _ _ => rfl) (fun v5 h6 => ?_)
      refine q_sipush (x := (3686 : Int32)) dX12_forceOf_22 rfl ?_
      refine q_bipush (x := (84 : Int32)) dX12_forceOf_25 rfl ?_
      refine q_iload 4 dX12_forceOf_27 rfl ?_
      refine q_imul dX12_forceOf_29 ?_
      refine q_iadd dX12_forceOf_30 ?_
      refine q_bipush (x := (61 : Int32)) dX12_forceOf_31 rfl ?_
      refine q_iadd dX12_forceOf_33 ?_
      refine q_iald dX12_forceOf_34 (fun v7 h8 => ?_)
      refine q_istore (ls' := [(5, .int v7), (0, .ref a0), (1, .int a1), (2, .int a2), (3, .int a3), (4, .int a4)]) dX12_forceOf_35 (by decide) rfl ?_
      refine q_iload 0 dX12_forceOf_37 rfl ?_
      refine q_iload_n 2 dX12_forceOf_39 rfl ?_
      refine q_icmp_gt (tgt := 84) dX12_forceOf_40 (by decide) (fun c18 => ?_) (fun c18 => ?_)
      · refine q_iinc 5 (y := (a4 + (1 : Int32))) (ls' := [(4, .int (a4 + (1 : Int32))), (5, .int v7), (0, .ref a0), (1, .int a1), (2, .int a2), (3, .int a3)]) dX12_forceOf_84 rfl rfl (by decide) rfl ?_
        refine q_goto (tgt := 7) dX12_forceOf_87 (by decide) ?_
        refine q_sub (ls' := [(0, .ref a0), (1, .int a1), (2, .int a2), (3, .int a3), (4, .int (a4 + (1 : Int32)))]) [2, 3, 4, 5, 0] rfl ?_
        exact ih _ _ _
      · refine q_iload 0 dX12_forceOf_43 rfl ?_
        refine q_iload_n 4 dX12_forceOf_45 rfl ?_
        refine q_icmp_lt (tgt := 84) dX12_forceOf_46 (by decide) (fun c17 => ?_) (fun c17 => ?_)
        · refine q_iinc 5 (y := (a4 + (1 : Int32))) (ls' := [(4, .int (a4 + (1 : Int32))), (5, .int v7), (0, .ref a0), (1, .int a1), (2, .int a2), (3, .int a3)]) dX12_forceOf_84 rfl rfl (by decide) rfl ?_
          refine q_goto (tgt := 7) dX12_forceOf_87 (by decide) ?_
          refine q_sub (ls' := [(0, .ref a0), (1, .int a1), (2, .int a2), (3, .int a3), (4, .int (a4 + (1 : Int32)))]) [2, 3, 4, 5, 0] rfl ?_
          exact ih _ _ _
        · refine q_aload_n 1 dX12_forceOf_49 rfl ?_
          refine q_getR (f := 0) cl_X12 (by decide) qw_1117 rfl dX12_forceOf_50 (fun _ _ _ => rfl) (fun v9 h10 => ?_)
          refine q_sipush (x := (3686 : Int32)) dX12_forceOf_53 rfl ?_
          refine q_bipush (x := (84 : Int32)) dX12_forceOf_56 rfl ?_
          refine q_iload 5 dX12_forceOf_58 rfl ?_
          refine q_imul dX12_forceOf_60 ?_
          refine q_iadd dX12_forceOf_61 ?_
          refine q_bipush (x := (63 : Int32)) dX12_forceOf_62 rfl ?_
          refine q_iadd dX12_forceOf_64 ?_
          refine q_iald dX12_forceOf_65 (fun v11 h12 => ?_)
          refine q_if_ne (tgt := 84) dX12_forceOf_66 (by decide) (fun c16 => ?_) (fun c16 => ?_)
          · refine q_aload_n 1 dX12_forceOf_69 rfl ?_
            refine q_iload 5 dX12_forceOf_70 rfl ?_
            refine q_cVI (Y2 := Y_X12_isPassed) (As := [.int a4]) (b := a0) (st := []) cl_X12 mv_X12_isPassed qw_1503 dX12_forceOf_72 ⟨Nat.le_of_ble_eq_true rfl, Nat.le_of_ble_eq_true rfl⟩ rfl (fun _ _ => rfl) (Nat.le_of_ble_eq_true rfl) ⟨Nat.le_of_ble_eq_true rfl, Nat.le_of_ble_eq_true rfl⟩ (fun v14 h13 => q_ob_is h13) (fun v14 h13 => m_X12_isPassed h13) (fun v14 h13 => ?_)
            refine q_if_eq (tgt := 84) dX12_forceOf_75 (by decide) (fun c15 => ?_) (fun c15 => ?_)
            · refine q_iinc 5 (y := (a4 + (1 : Int32))) (ls' := [(4, .int (a4 + (1 : Int32))), (5, .int v7), (0, .ref a0), (1, .int a1), (2, .int a2), (3, .int a3)]) dX12_forceOf_84 rfl rfl (by decide) rfl ?_
              refine q_goto (tgt := 7) dX12_forceOf_87 (by decide) ?_
              refine q_sub (ls' := [(0, .ref a0), (1, .int a1), (2, .int a2), (3, .int a3), (4, .int (a4 + (1 : Int32)))]) [2, 3, 4, 5, 0] rfl ?_
              exact ih _ _ _
            · refine q_iload 5 dX12_forceOf_78 rfl ?_
              refine q_istore_n (ls' := [(2, .int a4), (5, .int v7), (0, .ref a0), (1, .int a1), (3, .int a3), (4, .int a4)]) dX12_forceOf_80 (by decide) rfl ?_
              refine q_iload 1 dX12_forceOf_81 rfl ?_
              refine q_istore_n (ls' := [(3, .int v7), (2, .int a4), (5, .int v7), (0, .ref a0), (1, .int a1), (4, .int a4)]) dX12_forceOf_83 (by decide) rfl ?_
              refine q_iinc 5 (y := (a4 + (1 : Int32))) (ls' := [(4, .int (a4 + (1 : Int32))), (3, .int v7), (2, .int a4), (5, .int v7), (0, .ref a0), (1, .int a1)]) dX12_forceOf_84 rfl rfl (by decide) rfl ?_
              refine q_goto (tgt := 7) dX12_forceOf_87 (by decide) ?_
              refine q_sub (ls' := [(0, .ref a0), (1, .int a1), (2, .int a4), (3, .int v7), (4, .int (a4 + (1 : Int32)))]) [4, 5, 2, 1, 0] rfl ?_
              exact ih _ _ _
          · refine q_iinc 5 (y := (a4 + (1 : Int32))) (ls' := [(4, .int (a4 + (1 : Int32))), (5, .int v7), (0, .ref a0), (1, .int a1), (2, .int a2), (3, .int a3)]) dX12_forceOf_84 rfl rfl (by decide) rfl ?_
            refine q_goto (tgt := 7) dX12_forceOf_87 (by decide) ?_
            refine q_sub (ls' := [(0, .ref a0), (1, .int a1), (2, .int a2), (3, .int a3), (4, .int (a4 + (1 : Int32)))]) [2, 3, 4, 5, 0] rfl ?_
            exact ih _ _ _
    · refine q_iload_n 2 dX12_forceOf_90 rfl ?_
      exact q_iret dX12_forceOf_91 rfl rfl (Nat.le_of_ble_eq_true rfl) rfl
set_option maxRecDepth 20000 in
theorem m_X12_forceOf {M : q_Mem} {a0 : Nat} {a1 : Int32} {x : Int32} (h : f_X12_forceOf M a0 a1 = some x) : q_C Y_X12_forceOf [.ref a0, .int a1] M (some (.int x)) M := by
  refine q_met (φ := (fun x : Int32 => (some (.int x), M))) (r := f_X12_forceOf M a0 a1) (by decide +kernel) (Nat.le_of_ble_eq_true rfl) ?_ h (fun _ _ => rfl)
  show q_V Y_X12_forceOf none (fun x : Int32 => (some (.int x), M)) 0 0 0 [(0, .ref a0), (1, .int a1)] [] M (f_X12_forceOf M a0 a1)
  unfold f_X12_forceOf
  refine q_obV ?_
  refine q_iconst (x := (-1 : Int32)) dX12_forceOf_0 rfl ?_
  refine q_istore_n (ls' := [(2, .int (-1 : Int32)), (0, .ref a0), (1, .int a1)]) dX12_forceOf_1 (by decide) rfl ?_
  refine q_iconst (x := (-1 : Int32)) dX12_forceOf_2 rfl ?_
  refine q_istore_n (ls' := [(3, .int (-1 : Int32)), (2, .int (-1 : Int32)), (0, .ref a0), (1, .int a1)]) dX12_forceOf_3 (by decide) rfl ?_
  refine q_iconst (x := (0 : Int32)) dX12_forceOf_4 rfl ?_
  refine q_istore (ls' := [(4, .int (0 : Int32)), (3, .int (-1 : Int32)), (2, .int (-1 : Int32)), (0, .ref a0), (1, .int a1)]) dX12_forceOf_5 (by decide) rfl ?_
  refine q_sub (ls' := [(0, .ref a0), (1, .int a1), (2, .int (-1 : Int32)), (3, .int (-1 : Int32)), (4, .int (0 : Int32))]) [3, 4, 2, 1, 0] rfl ?_
  exact v_X12_forceOf_b7 _ _ _ _
theorem dX12_force_0 : decode cX12_force 0 = .ok (.iload_n 1, 1) := by decide +kernel
theorem dX12_force_1 : decode cX12_force 1 = .ok (.invokestatic 90, 3) := by decide +kernel
theorem dX12_force_4 : decode cX12_force 4 = .ok (.ifCond .eq 11, 3) := by decide +kernel
theorem dX12_force_7 : decode cX12_force 7 = .ok (.aload_n 0, 1) := by decide +kernel
theorem dX12_force_8 : decode cX12_force 8 = .ok (.iload_n 1, 1) := by decide +kernel
theorem dX12_force_9 : decode cX12_force 9 = .ok (.invokevirtual 262, 3) := by decide +kernel
theorem dX12_force_12 : decode cX12_force 12 = .ok (.goto 5, 3) := by decide +kernel
theorem dX12_force_15 : decode cX12_force 15 = .ok (.bipush (-2), 2) := by decide +kernel
theorem dX12_force_17 : decode cX12_force 17 = .ok (.ireturn, 1) := by decide +kernel
def f_X12_force (M : q_Mem) (a0 : Nat) (a1 : Int32) : Option Int32 :=
  q_ob 11 M a0 ((f_X12_isDay M a1).bind fun v2 =>
  (if v2 = 0 then
    some (-2 : Int32)
  else
    (f_X12_forceOf M a0 a1).bind fun v4 =>
    some v4))
set_option maxRecDepth 20000 in
theorem m_X12_force {M : q_Mem} {a0 : Nat} {a1 : Int32} {x : Int32} (h : f_X12_force M a0 a1 = some x) : q_C Y_X12_force [.ref a0, .int a1] M (some (.int x)) M := by
  refine q_met (φ := (fun x : Int32 => (some (.int x), M))) (r := f_X12_force M a0 a1) (by decide +kernel) (Nat.le_of_ble_eq_true rfl) ?_ h (fun _ _ => rfl)
  show q_V Y_X12_force none (fun x : Int32 => (some (.int x), M)) 0 0 0 [(0, .ref a0), (1, .int a1)] [] M (f_X12_force M a0 a1)
  unfold f_X12_force
  refine q_obV ?_
  refine q_iload_n 1 dX12_force_0 rfl ?_
  refine q_cSI (Y2 := Y_X12_isDay) (As := [.int a1]) (st := []) ms_X12_isDay qw_1233 dX12_force_1 ⟨Nat.le_of_ble_eq_true rfl, Nat.le_of_ble_eq_true rfl⟩ rfl (fun _ _ => rfl) (Nat.le_of_ble_eq_true rfl) ⟨Nat.le_of_ble_eq_true rfl, Nat.le_of_ble_eq_true rfl⟩ (fun v2 h1 => m_X12_isDay h1) (fun v2 h1 => ?_)
  refine q_if_eq (tgt := 15) dX12_force_4 (by decide) (fun c5 => ?_) (fun c5 => ?_)
  · refine q_bipush (x := (-2 : Int32)) dX12_force_15 rfl ?_
    exact q_iret dX12_force_17 rfl rfl (Nat.le_of_ble_eq_true rfl) rfl
  · refine q_aload_n 0 dX12_force_7 rfl ?_
    refine q_iload_n 1 dX12_force_8 rfl ?_
    refine q_cVI (Y2 := Y_X12_forceOf) (As := [.int a1]) (b := a0) (st := []) cl_X12 mv_X12_forceOf qw_1511 dX12_force_9 ⟨Nat.le_of_ble_eq_true rfl, Nat.le_of_ble_eq_true rfl⟩ rfl (fun _ _ => rfl) (Nat.le_of_ble_eq_true rfl) ⟨Nat.le_of_ble_eq_true rfl, Nat.le_of_ble_eq_true rfl⟩ (fun v4 h3 => q_ob_is h3) (fun v4 h3 => m_X12_forceOf h3) (fun v4 h3 => ?_)
    refine q_goto (tgt := 17) dX12_force_12 (by decide) ?_
    exact q_iret dX12_force_17 rfl rfl (Nat.le_of_ble_eq_true rfl) rfl
theorem dX12_moneyOf_0 : decode cX12_moneyOf 0 = .ok (.lconst 0, 1) := by decide +kernel
theorem dX12_moneyOf_1 : decode cX12_moneyOf 1 = .ok (.lstore_n 3, 1) := by decide +kernel
theorem dX12_moneyOf_2 : decode cX12_moneyOf 2 = .ok (.iconst 0, 1) := by decide +kernel
theorem dX12_moneyOf_3 : decode cX12_moneyOf 3 = .ok (.istore 5, 2) := by decide +kernel
theorem dX12_moneyOf_5 : decode cX12_moneyOf 5 = .ok (.iload 5, 2) := by decide +kernel
theorem dX12_moneyOf_7 : decode cX12_moneyOf 7 = .ok (.aload_n 0, 1) := by decide +kernel
theorem dX12_moneyOf_8 : decode cX12_moneyOf 8 = .ok (.getfield 7, 3) := by decide +kernel
theorem dX12_moneyOf_11 : decode cX12_moneyOf 11 = .ok (.iconst 3, 1) := by decide +kernel
theorem dX12_moneyOf_12 : decode cX12_moneyOf 12 = .ok (.iaload, 1) := by decide +kernel
theorem dX12_moneyOf_13 : decode cX12_moneyOf 13 = .ok (.if_icmp .ge 43, 3) := by decide +kernel
theorem dX12_moneyOf_16 : decode cX12_moneyOf 16 = .ok (.lload_n 3, 1) := by decide +kernel
theorem dX12_moneyOf_17 : decode cX12_moneyOf 17 = .ok (.aload_n 0, 1) := by decide +kernel
theorem dX12_moneyOf_18 : decode cX12_moneyOf 18 = .ok (.getfield 7, 3) := by decide +kernel
theorem dX12_moneyOf_21 : decode cX12_moneyOf 21 = .ok (.sipush 2700, 3) := by decide +kernel
theorem dX12_moneyOf_24 : decode cX12_moneyOf 24 = .ok (.iconst 3, 1) := by decide +kernel
theorem dX12_moneyOf_25 : decode cX12_moneyOf 25 = .ok (.iload 5, 2) := by decide +kernel
theorem dX12_moneyOf_27 : decode cX12_moneyOf 27 = .ok (.imul, 1) := by decide +kernel
theorem dX12_moneyOf_28 : decode cX12_moneyOf 28 = .ok (.iadd, 1) := by decide +kernel
theorem dX12_moneyOf_29 : decode cX12_moneyOf 29 = .ok (.iaload, 1) := by decide +kernel
theorem dX12_moneyOf_30 : decode cX12_moneyOf 30 = .ok (.bipush 7, 2) := by decide +kernel
theorem dX12_moneyOf_32 : decode cX12_moneyOf 32 = .ok (.idiv, 1) := by decide +kernel
theorem dX12_moneyOf_33 : decode cX12_moneyOf 33 = .ok (.iload_n 1, 1) := by decide +kernel
theorem dX12_moneyOf_34 : decode cX12_moneyOf 34 = .ok (.if_icmp .ne 13, 3) := by decide +kernel
theorem dX12_moneyOf_37 : decode cX12_moneyOf 37 = .ok (.aload_n 0, 1) := by decide +kernel
theorem dX12_moneyOf_38 : decode cX12_moneyOf 38 = .ok (.iload 5, 2) := by decide +kernel
theorem dX12_moneyOf_40 : decode cX12_moneyOf 40 = .ok (.iload_n 2, 1) := by decide +kernel
theorem dX12_moneyOf_41 : decode cX12_moneyOf 41 = .ok (.invokevirtual 155, 3) := by decide +kernel
theorem dX12_moneyOf_44 : decode cX12_moneyOf 44 = .ok (.goto 4, 3) := by decide +kernel
theorem dX12_moneyOf_47 : decode cX12_moneyOf 47 = .ok (.lconst 0, 1) := by decide +kernel
theorem dX12_moneyOf_48 : decode cX12_moneyOf 48 = .ok (.ladd, 1) := by decide +kernel
theorem dX12_moneyOf_49 : decode cX12_moneyOf 49 = .ok (.lstore_n 3, 1) := by decide +kernel
theorem dX12_moneyOf_50 : decode cX12_moneyOf 50 = .ok (.iinc 5 1, 3) := by decide +kernel
theorem dX12_moneyOf_53 : decode cX12_moneyOf 53 = .ok (.goto (-48), 3) := by decide +kernel
theorem dX12_moneyOf_56 : decode cX12_moneyOf 56 = .ok (.lload_n 3, 1) := by decide +kernel
theorem dX12_moneyOf_57 : decode cX12_moneyOf 57 = .ok (.lreturn, 1) := by decide +kernel
def f_X12_moneyOf_b5 (M : q_Mem) (a0 : Nat) (a1 : Int32) (a2 : Int32) : Nat → Int64 → Int32 → Option Int64
  | 0, _, _ => none
  | n + 1, a3, a5 =>
    (q_gR 11 0 M a0).bind fun v1 =>
    (q_lI M v1 (3 : Int32)).bind fun v3 =>
    (if a5 < v3 then
      (q_gR 11 0 M a0).bind fun v5 =>
      (q_lI M v5 ((2700 : Int32) + ((3 : Int32) * a5))).bind fun v7 =>
      (q_dv v7 (7 : Int32)).bind fun v9 =>
      (if v9 = a1 then
        (f_X12_penceOf M a0 a5 a2).bind fun v12 =>
        f_X12_moneyOf_b5 M a0 a1 a2 n (a3 + v12) (a5 + (1 : Int32))
      else
        f_X12_moneyOf_b5 M a0 a1 a2 n (a3 + (0 : Int64)) (a5 + (1 : Int32)))
    else
      some a3)
def f_X12_moneyOf (M : q_Mem) (a0 : Nat) (a1 : Int32) (a2 : Int32) : Option Int64 :=
  q_ob 11 M a0 (f_X12_moneyOf_b5 M a0 a1 a2 q_fuel (0 : Int64) (0 : Int32))
set_option maxRecDepth 20000 in
theorem v_X12_moneyOf_b5 {M : q_Mem} {a0 : Nat} {a1 : Int32} {a2 : Int32}  : ∀ (n : Nat) (a3 : Int64) (a5 : Int32), q_V Y_X12_moneyOf none (fun x : Int64 => (some (.long x), M)) 0 0 5 [(0, .ref a0), (1, .int a1), (2, .int a2), (3, .long a3), (5, .int a5)] [] M (f_X12_moneyOf_b5 M a0 a1 a2 n a3 a5) := by
  intro n
  induction n with
  | zero => intro a3 a5; exact q_none
  | succ n ih =>
    intro a3 a5
    rw [f_X12_moneyOf_b5.eq_2]
    refine q_iload 4 dX12_moneyOf_5 rfl ?_
    refine q_aload_n 0 dX12_moneyOf_7 rfl ?_
    refine q_getR (f := 0) cl_X12 (by decide) qw_1117 rfl dX12_moneyOf_8 (fun _ _ _ => rfl) (fun v1 h2 => ?_)
    refine q_iconst (x := (3 : Int32)) dX12_moneyOf_11 rfl ?_
    refine q_iald dX12_moneyOf_12 (fun v3 h4 => ?_)
    refine q_icmp_ge (tgt := 56) dX12_moneyOf_13 (by decide) (fun c14 => ?_) (fun c14 => ?_)
    · refine q_lload_n 3 dX12_moneyOf_16 rfl ?_
      refine q_aload_n 0 dX12_moneyOf_17 rfl ?_
      refine q_getR (f := 0) cl_X12 (by decide) qw_1117 rfl dX12_moneyOf_18 (fun _ _ _ => rfl) (fun v5 h6 => ?_)
      refine q_sipush (x := (2700 : Int32)) dX12_moneyOf_21 rfl ?_
      refine q_iconst (x := (3 : Int32)) dX12_moneyOf_24 rfl ?_
      refine q_iload 4 dX12_moneyOf_25 rfl ?_
      refine q_imul dX12_moneyOf_27 ?_
      refine q_iadd dX12_moneyOf_28 ?_
      refine q_iald dX12_moneyOf_29 (fun v7 h8 => ?_)
      refine q_bipush (x := (7 : Int32)) dX12_moneyOf_30 rfl ?_
      refine q_idiv dX12_moneyOf_32 (fun v9 h10 => ?_)
      refine q_iload_n 1 dX12_moneyOf_33 rfl ?_
      refine q_icmp_ne (tgt := 47) dX12_moneyOf_34 (by decide) (fun c13 => ?_) (fun c13 => ?_)
      · refine q_aload_n 0 dX12_moneyOf_37 rfl ?_
        refine q_iload 4 dX12_moneyOf_38 rfl ?_
        refine q_iload_n 2 dX12_moneyOf_40 rfl ?_
        refine q_cVJ (Y2 := Y_X12_penceOf) (As := [.int a5, .int a2]) (b := a0) (st := [.long a3]) cl_X12 mv_X12_penceOf qw_1345 dX12_moneyOf_41 ⟨Nat.le_of_ble_eq_true rfl, Nat.le_of_ble_eq_true rfl⟩ rfl (fun _ _ => rfl) (Nat.le_of_ble_eq_true rfl) ⟨Nat.le_of_ble_eq_true rfl, Nat.le_of_ble_eq_true rfl⟩ (fun v12 h11 => q_ob_is h11) (fun v12 h11 => m_X12_penceOf h11) (fun v12 h11 => ?_)
        refine q_goto (tgt := 48) dX12_moneyOf_44 (by decide) ?_
        refine q_ladd dX12_moneyOf_48 ?_
        refine q_lstore_n (ls' := [(3, .long (a3 + v12)), (0, .ref a0), (1, .int a1), (2, .int a2), (5, .int a5)]) dX12_moneyOf_49 (by decide) rfl ?_
        refine q_iinc 4 (y := (a5 + (1 : Int32))) (ls' := [(5, .int (a5 + (1 : Int32))), (3, .long (a3 + v12)), (0, .ref a0), (1, .int a1), (2, .int a2)]) dX12_moneyOf_50 rfl rfl (by decide) rfl ?_
        refine q_goto (tgt := 5) dX12_moneyOf_53 (by decide) ?_
        refine q_sub (ls' := [(0, .ref a0), (1, .int a1), (2, .int a2), (3, .long (a3 + v12)), (5, .int (a5 + (1 : Int32)))]) [2, 3, 4, 1, 0] rfl ?_
        exact ih _ _
      · refine q_lconst (x := (0 : Int64)) dX12_moneyOf_47 rfl ?_
        refine q_ladd dX12_moneyOf_48 ?_
        refine q_lstore_n (ls' := [(3, .long (a3 + (0 : Int64))), (0, .ref a0), (1, .int a1), (2, .int a2), (5, .int a5)]) dX12_moneyOf_49 (by decide) rfl ?_
        refine q_iinc 4 (y := (a5 + (1 : Int32))) (ls' := [(5, .int (a5 + (1 : Int32))), (3, .long (a3 + (0 : Int64))), (0, .ref a0), (1, .int a1), (2, .int a2)]) dX12_moneyOf_50 rfl rfl (by decide) rfl ?_
        refine q_goto (tgt := 5) dX12_moneyOf_53 (by decide) ?_
        refine q_sub (ls' := [(0, .ref a0), (1, .int a1), (2, .int a2), (3, .long (a3 + (0 : Int64))), (5, .int (a5 + (1 : Int32)))]) [2, 3, 4, 1, 0] rfl ?_
        exact ih _ _
    · refine q_lload_n 3 dX12_moneyOf_56 rfl ?_
      exact q_lret dX12_moneyOf_57 rfl rfl (Nat.le_of_ble_eq_true rfl) rfl
set_option maxRecDepth 20000 in
theorem m_X12_moneyOf {M : q_Mem} {a0 : Nat} {a1 : Int32} {a2 : Int32} {x : Int64} (h : f_X12_moneyOf M a0 a1 a2 = some x) : q_C Y_X12_moneyOf [.ref a0, .int a1, .int a2] M (some (.long x)) M := by
  refine q_met (φ := (fun x : Int64 => (some (.long x), M))) (r := f_X12_moneyOf M a0 a1 a2) (by decide +kernel) (Nat.le_of_ble_eq_true rfl) ?_ h (fun _ _ => rfl)
  show q_V Y_X12_moneyOf none (fun x : Int64 => (some (.long x), M)) 0 0 0 [(0, .ref a0), (1, .int a1), (2, .int a2)] [] M (f_X12_moneyOf M a0 a1 a2)
  unfold f_X12_moneyOf
  refine q_obV ?_
  refine q_lconst (x := (0 : Int64)) dX12_moneyOf_0 rfl ?_
  refine q_lstore_n (ls' := [(3, .long (0 : Int64)), (0, .ref a0), (1, .int a1), (2, .int a2)]) dX12_moneyOf_1 (by decide) rfl ?_
  refine q_iconst (x := (0 : Int32)) dX12_moneyOf_2 rfl ?_
  refine q_istore (ls' := [(5, .int (0 : Int32)), (3, .long (0 : Int64)), (0, .ref a0), (1, .int a1), (2, .int a2)]) dX12_moneyOf_3 (by decide) rfl ?_
  refine q_sub (ls' := [(0, .ref a0), (1, .int a1), (2, .int a2), (3, .long (0 : Int64)), (5, .int (0 : Int32))]) [2, 3, 4, 1, 0] rfl ?_
  exact v_X12_moneyOf_b5 _ _ _
