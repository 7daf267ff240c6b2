theorem dX12_layNodes_22 : decode cX12_layNodes 22 = .ok (.aload_n 0, 1) := by decide +kernel
theorem dX12_layNodes_23 : decode cX12_layNodes 23 = .ok (.getfield 148, 3) := by decide +kernel
theorem dX12_layNodes_26 : decode cX12_layNodes 26 = .ok (.iload_n 1, 1) := by decide +kernel
theorem dX12_layNodes_27 : decode cX12_layNodes 27 = .ok (.iaload, 1) := by decide +kernel
theorem dX12_layNodes_28 : decode cX12_layNodes 28 = .ok (.iadd, 1) := by decide +kernel
theorem dX12_layNodes_29 : decode cX12_layNodes 29 = .ok (.istore 8, 2) := by decide +kernel
theorem dX12_layNodes_31 : decode cX12_layNodes 31 = .ok (.aload_n 0, 1) := by decide +kernel
theorem dX12_layNodes_32 : decode cX12_layNodes 32 = .ok (.getfield 148, 3) := by decide +kernel
theorem dX12_layNodes_35 : decode cX12_layNodes 35 = .ok (.iload_n 1, 1) := by decide +kernel
theorem dX12_layNodes_36 : decode cX12_layNodes 36 = .ok (.dup2, 1) := by decide +kernel
theorem dX12_layNodes_37 : decode cX12_layNodes 37 = .ok (.iaload, 1) := by decide +kernel
theorem dX12_layNodes_38 : decode cX12_layNodes 38 = .ok (.iconst 1, 1) := by decide +kernel
theorem dX12_layNodes_39 : decode cX12_layNodes 39 = .ok (.iadd, 1) := by decide +kernel
theorem dX12_layNodes_40 : decode cX12_layNodes 40 = .ok (.iastore, 1) := by decide +kernel
theorem dX12_layNodes_41 : decode cX12_layNodes 41 = .ok (.aload_n 0, 1) := by decide +kernel
theorem dX12_layNodes_42 : decode cX12_layNodes 42 = .ok (.getfield 151, 3) := by decide +kernel
theorem dX12_layNodes_45 : decode cX12_layNodes 45 = .ok (.iload 8, 2) := by decide +kernel
theorem dX12_layNodes_47 : decode cX12_layNodes 47 = .ok (.iload 7, 2) := by decide +kernel
theorem dX12_layNodes_49 : decode cX12_layNodes 49 = .ok (.iastore, 1) := by decide +kernel
theorem dX12_layNodes_50 : decode cX12_layNodes 50 = .ok (.aload_n 0, 1) := by decide +kernel
theorem dX12_layNodes_51 : decode cX12_layNodes 51 = .ok (.getfield 154, 3) := by decide +kernel
theorem dX12_layNodes_54 : decode cX12_layNodes 54 = .ok (.iload 8, 2) := by decide +kernel
theorem dX12_layNodes_56 : decode cX12_layNodes 56 = .ok (.iconst 0, 1) := by decide +kernel
theorem dX12_layNodes_57 : decode cX12_layNodes 57 = .ok (.iastore, 1) := by decide +kernel
theorem dX12_layNodes_58 : decode cX12_layNodes 58 = .ok (.aload_n 0, 1) := by decide +kernel
theorem dX12_layNodes_59 : decode cX12_layNodes 59 = .ok (.getfield 157, 3) := by decide +kernel
theorem dX12_layNodes_62 : decode cX12_layNodes 62 = .ok (.iload 8, 2) := by decide +kernel
theorem dX12_layNodes_64 : decode cX12_layNodes 64 = .ok (.iconst (-1), 1) := by decide +kernel
theorem dX12_layNodes_65 : decode cX12_layNodes 65 = .ok (.iastore, 1) := by decide +kernel
theorem dX12_layNodes_66 : decode cX12_layNodes 66 = .ok (.aload_n 0, 1) := by decide +kernel
theorem dX12_layNodes_67 : decode cX12_layNodes 67 = .ok (.getfield 163, 3) := by decide +kernel
theorem dX12_layNodes_70 : decode cX12_layNodes 70 = .ok (.iload 8, 2) := by decide +kernel
theorem dX12_layNodes_72 : decode cX12_layNodes 72 = .ok (.iconst 0, 1) := by decide +kernel
theorem dX12_layNodes_73 : decode cX12_layNodes 73 = .ok (.iastore, 1) := by decide +kernel
theorem dX12_layNodes_74 : decode cX12_layNodes 74 = .ok (.aload_n 0, 1) := by decide +kernel
theorem dX12_layNodes_75 : decode cX12_layNodes 75 = .ok (.getfield 166, 3) := by decide +kernel
theorem dX12_layNodes_78 : decode cX12_layNodes 78 = .ok (.iload 8, 2) := by decide +kernel
theorem dX12_layNodes_80 : decode cX12_layNodes 80 = .ok (.iload 5, 2) := by decide +kernel
theorem dX12_layNodes_82 : decode cX12_layNodes 82 = .ok (.iastore, 1) := by decide +kernel
theorem dX12_layNodes_83 : decode cX12_layNodes 83 = .ok (.iload 5, 2) := by decide +kernel
theorem dX12_layNodes_85 : decode cX12_layNodes 85 = .ok (.iconst (-1), 1) := by decide +kernel
theorem dX12_layNodes_86 : decode cX12_layNodes 86 = .ok (.if_icmp .eq 19, 3) := by decide +kernel
theorem dX12_layNodes_89 : decode cX12_layNodes 89 = .ok (.aload_n 0, 1) := by decide +kernel
theorem dX12_layNodes_90 : decode cX12_layNodes 90 = .ok (.getfield 163, 3) := by decide +kernel
theorem dX12_layNodes_93 : decode cX12_layNodes 93 = .ok (.bipush 24, 2) := by decide +kernel
theorem dX12_layNodes_95 : decode cX12_layNodes 95 = .ok (.iload_n 1, 1) := by decide +kernel
theorem dX12_layNodes_96 : decode cX12_layNodes 96 = .ok (.imul, 1) := by decide +kernel
theorem dX12_layNodes_97 : decode cX12_layNodes 97 = .ok (.iload 5, 2) := by decide +kernel
theorem dX12_layNodes_99 : decode cX12_layNodes 99 = .ok (.iadd, 1) := by decide +kernel
theorem dX12_layNodes_100 : decode cX12_layNodes 100 = .ok (.dup2, 1) := by decide +kernel
theorem dX12_layNodes_101 : decode cX12_layNodes 101 = .ok (.iaload, 1) := by decide +kernel
theorem dX12_layNodes_102 : decode cX12_layNodes 102 = .ok (.iconst 1, 1) := by decide +kernel
theorem dX12_layNodes_103 : decode cX12_layNodes 103 = .ok (.iadd, 1) := by decide +kernel
theorem dX12_layNodes_104 : decode cX12_layNodes 104 = .ok (.iastore, 1) := by decide +kernel
theorem dX12_layNodes_105 : decode cX12_layNodes 105 = .ok (.iload 7, 2) := by decide +kernel
theorem dX12_layNodes_107 : decode cX12_layNodes 107 = .ok (.iconst 1, 1) := by decide +kernel
theorem dX12_layNodes_108 : decode cX12_layNodes 108 = .ok (.iadd, 1) := by decide +kernel
theorem dX12_layNodes_109 : decode cX12_layNodes 109 = .ok (.istore 9, 2) := by decide +kernel
theorem dX12_layNodes_111 : decode cX12_layNodes 111 = .ok (.iload_n 3, 1) := by decide +kernel
theorem dX12_layNodes_112 : decode cX12_layNodes 112 = .ok (.istore 10, 2) := by decide +kernel
theorem dX12_layNodes_114 : decode cX12_layNodes 114 = .ok (.iload_n 3, 1) := by decide +kernel
theorem dX12_layNodes_115 : decode cX12_layNodes 115 = .ok (.istore 11, 2) := by decide +kernel
theorem dX12_layNodes_117 : decode cX12_layNodes 117 = .ok (.iload 11, 2) := by decide +kernel
theorem dX12_layNodes_119 : decode cX12_layNodes 119 = .ok (.iload 4, 2) := by decide +kernel
theorem dX12_layNodes_121 : decode cX12_layNodes 121 = .ok (.if_icmp .ge 150, 3) := by decide +kernel
theorem dX12_layNodes_124 : decode cX12_layNodes 124 = .ok (.aload_n 0, 1) := by decide +kernel
theorem dX12_layNodes_125 : decode cX12_layNodes 125 = .ok (.getfield 142, 3) := by decide +kernel
theorem dX12_layNodes_128 : decode cX12_layNodes 128 = .ok (.iload 11, 2) := by decide +kernel
theorem dX12_layNodes_130 : decode cX12_layNodes 130 = .ok (.iaload, 1) := by decide +kernel
theorem dX12_layNodes_131 : decode cX12_layNodes 131 = .ok (.istore 12, 2) := by decide +kernel
theorem dX12_layNodes_133 : decode cX12_layNodes 133 = .ok (.aload_n 0, 1) := by decide +kernel
theorem dX12_layNodes_134 : decode cX12_layNodes 134 = .ok (.iload_n 2, 1) := by decide +kernel
theorem dX12_layNodes_135 : decode cX12_layNodes 135 = .ok (.iload 12, 2) := by decide +kernel
theorem dX12_layNodes_137 : decode cX12_layNodes 137 = .ok (.invokevirtual 294, 3) := by decide +kernel
theorem dX12_layNodes_140 : decode cX12_layNodes 140 = .ok (.ifCond .eq 125, 3) := by decide +kernel
theorem dX12_layNodes_143 : decode cX12_layNodes 143 = .ok (.aload_n 0, 1) := by decide +kernel
theorem dX12_layNodes_144 : decode cX12_layNodes 144 = .ok (.getfield 139, 3) := by decide +kernel
theorem dX12_layNodes_147 : decode cX12_layNodes 147 = .ok (.iload 12, 2) := by decide +kernel
theorem dX12_layNodes_149 : decode cX12_layNodes 149 = .ok (.iaload, 1) := by decide +kernel
theorem dX12_layNodes_150 : decode cX12_layNodes 150 = .ok (.iload 7, 2) := by decide +kernel
theorem dX12_layNodes_152 : decode cX12_layNodes 152 = .ok (.if_icmp .eq 6, 3) := by decide +kernel
theorem dX12_layNodes_155 : decode cX12_layNodes 155 = .ok (.goto 110, 3) := by decide +kernel
theorem dX12_layNodes_158 : decode cX12_layNodes 158 = .ok (.iload 9, 2) := by decide +kernel
theorem dX12_layNodes_160 : decode cX12_layNodes 160 = .ok (.aload_n 0, 1) := by decide +kernel
theorem dX12_layNodes_161 : decode cX12_layNodes 161 = .ok (.iload_n 1, 1) := by decide +kernel
theorem dX12_layNodes_162 : decode cX12_layNodes 162 = .ok (.iload_n 2, 1) := by decide +kernel
theorem dX12_layNodes_163 : decode cX12_layNodes 163 = .ok (.iload 10, 2) := by decide +kernel
theorem dX12_layNodes_165 : decode cX12_layNodes 165 = .ok (.iload 11, 2) := by decide +kernel
theorem dX12_layNodes_167 : decode cX12_layNodes 167 = .ok (.iload 8, 2) := by decide +kernel
theorem dX12_layNodes_169 : decode cX12_layNodes 169 = .ok (.bipush 24, 2) := by decide +kernel
theorem dX12_layNodes_171 : decode cX12_layNodes 171 = .ok (.iload_n 1, 1) := by decide +kernel
theorem dX12_layNodes_172 : decode cX12_layNodes 172 = .ok (.imul, 1) := by decide +kernel
theorem dX12_layNodes_173 : decode cX12_layNodes 173 = .ok (.isub, 1) := by decide +kernel
theorem dX12_layNodes_174 : decode cX12_layNodes 174 = .ok (.iload 6, 2) := by decide +kernel
theorem dX12_layNodes_176 : decode cX12_layNodes 176 = .ok (.iconst 1, 1) := by decide +kernel
theorem dX12_layNodes_177 : decode cX12_layNodes 177 = .ok (.iadd, 1) := by decide +kernel
theorem dX12_layNodes_178 : decode cX12_layNodes 178 = .ok (.invokevirtual 301, 3) := by decide +kernel
theorem dX12_layNodes_181 : decode cX12_layNodes 181 = .ok (.invokestatic 278, 3) := by decide +kernel
theorem dX12_layNodes_184 : decode cX12_layNodes 184 = .ok (.istore 9, 2) := by decide +kernel
theorem dX12_layNodes_186 : decode cX12_layNodes 186 = .ok (.iload 9, 2) := by decide +kernel
theorem dX12_layNodes_188 : decode cX12_layNodes 188 = .ok (.aload_n 0, 1) := by decide +kernel
theorem dX12_layNodes_189 : decode cX12_layNodes 189 = .ok (.iload_n 2, 1) := by decide +kernel
theorem dX12_layNodes_190 : decode cX12_layNodes 190 = .ok (.iload 12, 2) := by decide +kernel
theorem dX12_layNodes_192 : decode cX12_layNodes 192 = .ok (.invokevirtual 305, 3) := by decide +kernel
theorem dX12_layNodes_195 : decode cX12_layNodes 195 = .ok (.invokestatic 278, 3) := by decide +kernel
theorem dX12_layNodes_198 : decode cX12_layNodes 198 = .ok (.istore 9, 2) := by decide +kernel
theorem dX12_layNodes_200 : decode cX12_layNodes 200 = .ok (.aload_n 0, 1) := by decide +kernel
theorem dX12_layNodes_201 : decode cX12_layNodes 201 = .ok (.getfield 154, 3) := by decide +kernel
theorem dX12_layNodes_204 : decode cX12_layNodes 204 = .ok (.iload 8, 2) := by decide +kernel
theorem dX12_layNodes_206 : decode cX12_layNodes 206 = .ok (.dup2, 1) := by decide +kernel
theorem dX12_layNodes_207 : decode cX12_layNodes 207 = .ok (.iaload, 1) := by decide +kernel
theorem dX12_layNodes_208 : decode cX12_layNodes 208 = .ok (.iconst 1, 1) := by decide +kernel
theorem dX12_layNodes_209 : decode cX12_layNodes 209 = .ok (.iload 12, 2) := by decide +kernel
theorem dX12_layNodes_211 : decode cX12_layNodes 211 = .ok (.ishl, 1) := by decide +kernel
theorem dX12_layNodes_212 : decode cX12_layNodes 212 = .ok (.ior, 1) := by decide +kernel
theorem dX12_layNodes_213 : decode cX12_layNodes 213 = .ok (.iastore, 1) := by decide +kernel
theorem dX12_layNodes_214 : decode cX12_layNodes 214 = .ok (.aload_n 0, 1) := by decide +kernel
theorem dX12_layNodes_215 : decode cX12_layNodes 215 = .ok (.getfield 157, 3) := by decide +kernel
theorem dX12_layNodes_218 : decode cX12_layNodes 218 = .ok (.iload 8, 2) := by decide +kernel
theorem dX12_layNodes_220 : decode cX12_layNodes 220 = .ok (.iaload, 1) := by decide +kernel
theorem dX12_layNodes_221 : decode cX12_layNodes 221 = .ok (.iconst (-1), 1) := by decide +kernel
theorem dX12_layNodes_222 : decode cX12_layNodes 222 = .ok (.if_icmp .ne 12, 3) := by decide +kernel
theorem dX12_layNodes_225 : decode cX12_layNodes 225 = .ok (.aload_n 0, 1) := by decide +kernel
theorem dX12_layNodes_226 : decode cX12_layNodes 226 = .ok (.getfield 157, 3) := by decide +kernel
theorem dX12_layNodes_229 : decode cX12_layNodes 229 = .ok (.iload 8, 2) := by decide +kernel
theorem dX12_layNodes_231 : decode cX12_layNodes 231 = .ok (.iload 12, 2) := by decide +kernel
theorem dX12_layNodes_233 : decode cX12_layNodes 233 = .ok (.iastore, 1) := by decide +kernel
theorem dX12_layNodes_234 : decode cX12_layNodes 234 = .ok (.aload_n 0, 1) := by decide +kernel
theorem dX12_layNodes_235 : decode cX12_layNodes 235 = .ok (.getfield 160, 3) := by decide +kernel
theorem dX12_layNodes_238 : decode cX12_layNodes 238 = .ok (.iload 8, 2) := by decide +kernel
theorem dX12_layNodes_240 : decode cX12_layNodes 240 = .ok (.iload 12, 2) := by decide +kernel
theorem dX12_layNodes_242 : decode cX12_layNodes 242 = .ok (.iastore, 1) := by decide +kernel
theorem dX12_layNodes_243 : decode cX12_layNodes 243 = .ok (.aload_n 0, 1) := by decide +kernel
theorem dX12_layNodes_244 : decode cX12_layNodes 244 = .ok (.getfield 172, 3) := by decide +kernel
theorem dX12_layNodes_247 : decode cX12_layNodes 247 = .ok (.bipush 24, 2) := by decide +kernel
theorem dX12_layNodes_249 : decode cX12_layNodes 249 = .ok (.iload_n 1, 1) := by decide +kernel
theorem dX12_layNodes_250 : decode cX12_layNodes 250 = .ok (.imul, 1) := by decide +kernel
theorem dX12_layNodes_251 : decode cX12_layNodes 251 = .ok (.iload 12, 2) := by decide +kernel
theorem dX12_layNodes_253 : decode cX12_layNodes 253 = .ok (.iadd, 1) := by decide +kernel
theorem dX12_layNodes_254 : decode cX12_layNodes 254 = .ok (.iload 6, 2) := by decide +kernel
theorem dX12_layNodes_256 : decode cX12_layNodes 256 = .ok (.iconst 1, 1) := by decide +kernel
theorem dX12_layNodes_257 : decode cX12_layNodes 257 = .ok (.iadd, 1) := by decide +kernel
theorem dX12_layNodes_258 : decode cX12_layNodes 258 = .ok (.iastore, 1) := by decide +kernel
theorem dX12_layNodes_259 : decode cX12_layNodes 259 = .ok (.iload 11, 2) := by decide +kernel
theorem dX12_layNodes_261 : decode cX12_layNodes 261 = .ok (.iconst 1, 1) := by decide +kernel
theorem dX12_layNodes_262 : decode cX12_layNodes 262 = .ok (.iadd, 1) := by decide +kernel
theorem dX12_layNodes_263 : decode cX12_layNodes 263 = .ok (.istore 10, 2) := by decide +kernel
theorem dX12_layNodes_265 : decode cX12_layNodes 265 = .ok (.iinc 11 1, 3) := by decide +kernel
theorem dX12_layNodes_268 : decode cX12_layNodes 268 = .ok (.goto (-151), 3) := by decide +kernel
theorem dX12_layNodes_271 : decode cX12_layNodes 271 = .ok (.aload_n 0, 1) := by decide +kernel
theorem dX12_layNodes_272 : decode cX12_layNodes 272 = .ok (.getfield 169, 3) := by decide +kernel
theorem dX12_layNodes_275 : decode cX12_layNodes 275 = .ok (.iload 8, 2) := by decide +kernel
theorem dX12_layNodes_277 : decode cX12_layNodes 277 = .ok (.iload 9, 2) := by decide +kernel
theorem dX12_layNodes_279 : decode cX12_layNodes 279 = .ok (.aload_n 0, 1) := by decide +kernel
theorem dX12_layNodes_280 : decode cX12_layNodes 280 = .ok (.iload_n 1, 1) := by decide +kernel
theorem dX12_layNodes_281 : decode cX12_layNodes 281 = .ok (.iload_n 2, 1) := by decide +kernel
theorem dX12_layNodes_282 : decode cX12_layNodes 282 = .ok (.iload 10, 2) := by decide +kernel
theorem dX12_layNodes_284 : decode cX12_layNodes 284 = .ok (.iload 4, 2) := by decide +kernel
theorem dX12_layNodes_286 : decode cX12_layNodes 286 = .ok (.iload 8, 2) := by decide +kernel
theorem dX12_layNodes_288 : decode cX12_layNodes 288 = .ok (.bipush 24, 2) := by decide +kernel
theorem dX12_layNodes_290 : decode cX12_layNodes 290 = .ok (.iload_n 1, 1) := by decide +kernel
theorem dX12_layNodes_291 : decode cX12_layNodes 291 = .ok (.imul, 1) := by decide +kernel
theorem dX12_layNodes_292 : decode cX12_layNodes 292 = .ok (.isub, 1) := by decide +kernel
theorem dX12_layNodes_293 : decode cX12_layNodes 293 = .ok (.iload 6, 2) := by decide +kernel
theorem dX12_layNodes_295 : decode cX12_layNodes 295 = .ok (.iconst 1, 1) := by decide +kernel
theorem dX12_layNodes_296 : decode cX12_layNodes 296 = .ok (.iadd, 1) := by decide +kernel
theorem dX12_layNodes_297 : decode cX12_layNodes 297 = .ok (.invokevirtual 301, 3) := by decide +kernel
theorem dX12_layNodes_300 : decode cX12_layNodes 300 = .ok (.invokestatic 278, 3) := by decide +kernel
theorem dX12_layNodes_303 : decode cX12_layNodes 303 = .ok (.iastore, 1) := by decide +kernel
theorem dX12_layNodes_304 : decode cX12_layNodes 304 = .ok (.aload_n 0, 1) := by decide +kernel
theorem dX12_layNodes_305 : decode cX12_layNodes 305 = .ok (.getfield 169, 3) := by decide +kernel
theorem dX12_layNodes_308 : decode cX12_layNodes 308 = .ok (.iload 8, 2) := by decide +kernel
theorem dX12_layNodes_310 : decode cX12_layNodes 310 = .ok (.iaload, 1) := by decide +kernel
theorem dX12_layNodes_311 : decode cX12_layNodes 311 = .ok (.ireturn, 1) := by decide +kernel
theorem dX12_layTree_0 : decode cX12_layTree 0 = .ok (.aload_n 0, 1) := by decide +kernel
theorem dX12_layTree_1 : decode cX12_layTree 1 = .ok (.getfield 148, 3) := by decide +kernel
theorem dX12_layTree_4 : decode cX12_layTree 4 = .ok (.iload_n 1, 1) := by decide +kernel
theorem dX12_layTree_5 : decode cX12_layTree 5 = .ok (.iconst 0, 1) := by decide +kernel
theorem dX12_layTree_6 : decode cX12_layTree 6 = .ok (.iastore, 1) := by decide +kernel
theorem dX12_layTree_7 : decode cX12_layTree 7 = .ok (.aload_n 0, 1) := by decide +kernel
theorem dX12_layTree_8 : decode cX12_layTree 8 = .ok (.iload_n 1, 1) := by decide +kernel
theorem dX12_layTree_9 : decode cX12_layTree 9 = .ok (.iload_n 2, 1) := by decide +kernel
theorem dX12_layTree_10 : decode cX12_layTree 10 = .ok (.iconst 0, 1) := by decide +kernel
theorem dX12_layTree_11 : decode cX12_layTree 11 = .ok (.aload_n 0, 1) := by decide +kernel
theorem dX12_layTree_12 : decode cX12_layTree 12 = .ok (.getfield 98, 3) := by decide +kernel
theorem dX12_layTree_15 : decode cX12_layTree 15 = .ok (.iconst 0, 1) := by decide +kernel
theorem dX12_layTree_16 : decode cX12_layTree 16 = .ok (.iaload, 1) := by decide +kernel
theorem dX12_layTree_17 : decode cX12_layTree 17 = .ok (.iconst (-1), 1) := by decide +kernel
theorem dX12_layTree_18 : decode cX12_layTree 18 = .ok (.iconst 0, 1) := by decide +kernel
theorem dX12_layTree_19 : decode cX12_layTree 19 = .ok (.invokevirtual 301, 3) := by decide +kernel
theorem dX12_layTree_22 : decode cX12_layTree 22 = .ok (.ireturn, 1) := by decide +kernel
theorem dX12_rootOf_0 : decode cX12_rootOf 0 = .ok (.aload_n 0, 1) := by decide +kernel
theorem dX12_rootOf_1 : decode cX12_rootOf 1 = .ok (.iconst 0, 1) := by decide +kernel
theorem dX12_rootOf_2 : decode cX12_rootOf 2 = .ok (.iload_n 1, 1) := by decide +kernel
theorem dX12_rootOf_3 : decode cX12_rootOf 3 = .ok (.invokevirtual 308, 3) := by decide +kernel
theorem dX12_rootOf_6 : decode cX12_rootOf 6 = .ok (.ireturn, 1) := by decide +kernel
theorem dX12_isDigest_0 : decode cX12_isDigest 0 = .ok (.iconst 0, 1) := by decide +kernel
theorem dX12_isDigest_1 : decode cX12_isDigest 1 = .ok (.istore_n 3, 1) := by decide +kernel
theorem dX12_isDigest_2 : decode cX12_isDigest 2 = .ok (.iload_n 3, 1) := by decide +kernel
theorem dX12_isDigest_3 : decode cX12_isDigest 3 = .ok (.aload_n 0, 1) := by decide +kernel
theorem dX12_isDigest_4 : decode cX12_isDigest 4 = .ok (.getfield 148, 3) := by decide +kernel
theorem dX12_isDigest_7 : decode cX12_isDigest 7 = .ok (.iload_n 1, 1) := by decide +kernel
theorem dX12_isDigest_8 : decode cX12_isDigest 8 = .ok (.iaload, 1) := by decide +kernel
theorem dX12_isDigest_9 : decode cX12_isDigest 9 = .ok (.if_icmp .ge 26, 3) := by decide +kernel
theorem dX12_isDigest_12 : decode cX12_isDigest 12 = .ok (.aload_n 0, 1) := by decide +kernel
theorem dX12_isDigest_13 : decode cX12_isDigest 13 = .ok (.getfield 169, 3) := by decide +kernel
theorem dX12_isDigest_16 : decode cX12_isDigest 16 = .ok (.bipush 24, 2) := by decide +kernel
theorem dX12_isDigest_18 : decode cX12_isDigest 18 = .ok (.iload_n 1, 1) := by decide +kernel
theorem dX12_isDigest_19 : decode cX12_isDigest 19 = .ok (.imul, 1) := by decide +kernel
theorem dX12_isDigest_20 : decode cX12_isDigest 20 = .ok (.iload_n 3, 1) := by decide +kernel
theorem dX12_isDigest_21 : decode cX12_isDigest 21 = .ok (.iadd, 1) := by decide +kernel
theorem dX12_isDigest_22 : decode cX12_isDigest 22 = .ok (.iaload, 1) := by decide +kernel
theorem dX12_isDigest_23 : decode cX12_isDigest 23 = .ok (.iload_n 2, 1) := by decide +kernel
theorem dX12_isDigest_24 : decode cX12_isDigest 24 = .ok (.if_icmp .ne 5, 3) := by decide +kernel
theorem dX12_isDigest_27 : decode cX12_isDigest 27 = .ok (.iconst 1, 1) := by decide +kernel
theorem dX12_isDigest_28 : decode cX12_isDigest 28 = .ok (.ireturn, 1) := by decide +kernel
theorem dX12_isDigest_29 : decode cX12_isDigest 29 = .ok (.iinc 3 1, 3) := by decide +kernel
theorem dX12_isDigest_32 : decode cX12_isDigest 32 = .ok (.goto (-30), 3) := by decide +kernel
theorem dX12_isDigest_35 : decode cX12_isDigest 35 = .ok (.iconst 0, 1) := by decide +kernel
theorem dX12_isDigest_36 : decode cX12_isDigest 36 = .ok (.ireturn, 1) := by decide +kernel
theorem dX12_visited_0 : decode cX12_visited 0 = .ok (.iconst 0, 1) := by decide +kernel
theorem dX12_visited_1 : decode cX12_visited 1 = .ok (.istore_n 1, 1) := by decide +kernel
theorem dX12_visited_2 : decode cX12_visited 2 = .ok (.iconst 0, 1) := by decide +kernel
theorem dX12_visited_3 : decode cX12_visited 3 = .ok (.istore_n 2, 1) := by decide +kernel
theorem dX12_visited_4 : decode cX12_visited 4 = .ok (.iload_n 2, 1) := by decide +kernel
theorem dX12_visited_5 : decode cX12_visited 5 = .ok (.aload_n 0, 1) := by decide +kernel
theorem dX12_visited_6 : decode cX12_visited 6 = .ok (.getfield 148, 3) := by decide +kernel
theorem dX12_visited_9 : decode cX12_visited 9 = .ok (.iconst 0, 1) := by decide +kernel
theorem dX12_visited_10 : decode cX12_visited 10 = .ok (.iaload, 1) := by decide +kernel
theorem dX12_visited_11 : decode cX12_visited 11 = .ok (.if_icmp .ge 52, 3) := by decide +kernel
theorem dX12_visited_14 : decode cX12_visited 14 = .ok (.aload_n 0, 1) := by decide +kernel
theorem dX12_visited_15 : decode cX12_visited 15 = .ok (.getfield 166, 3) := by decide +kernel
theorem dX12_visited_18 : decode cX12_visited 18 = .ok (.iload_n 2, 1) := by decide +kernel
theorem dX12_visited_19 : decode cX12_visited 19 = .ok (.iaload, 1) := by decide +kernel
theorem dX12_visited_20 : decode cX12_visited 20 = .ok (.iconst (-1), 1) := by decide +kernel
theorem dX12_visited_21 : decode cX12_visited 21 = .ok (.if_icmp .eq 16, 3) := by decide +kernel
theorem dX12_visited_24 : decode cX12_visited 24 = .ok (.iload_n 1, 1) := by decide +kernel
theorem dX12_visited_25 : decode cX12_visited 25 = .ok (.aload_n 0, 1) := by decide +kernel
theorem dX12_visited_26 : decode cX12_visited 26 = .ok (.getfield 166, 3) := by decide +kernel
theorem dX12_visited_29 : decode cX12_visited 29 = .ok (.iload_n 2, 1) := by decide +kernel
theorem dX12_visited_30 : decode cX12_visited 30 = .ok (.iaload, 1) := by decide +kernel
theorem dX12_visited_31 : decode cX12_visited 31 = .ok (.invokestatic 233, 3) := by decide +kernel
theorem dX12_visited_34 : decode cX12_visited 34 = .ok (.ifCond .eq 23, 3) := by decide +kernel
theorem dX12_visited_37 : decode cX12_visited 37 = .ok (.aload_n 0, 1) := by decide +kernel
theorem dX12_visited_38 : decode cX12_visited 38 = .ok (.iconst 1, 1) := by decide +kernel
theorem dX12_visited_39 : decode cX12_visited 39 = .ok (.aload_n 0, 1) := by decide +kernel
theorem dX12_visited_40 : decode cX12_visited 40 = .ok (.getfield 169, 3) := by decide +kernel
theorem dX12_visited_43 : decode cX12_visited 43 = .ok (.iload_n 2, 1) := by decide +kernel
theorem dX12_visited_44 : decode cX12_visited 44 = .ok (.iaload, 1) := by decide +kernel
theorem dX12_visited_45 : decode cX12_visited 45 = .ok (.invokevirtual 311, 3) := by decide +kernel
theorem dX12_visited_48 : decode cX12_visited 48 = .ok (.ifCond .ne 9, 3) := by decide +kernel
theorem dX12_visited_51 : decode cX12_visited 51 = .ok (.iload_n 1, 1) := by decide +kernel
theorem dX12_visited_52 : decode cX12_visited 52 = .ok (.iconst 1, 1) := by decide +kernel
theorem dX12_visited_53 : decode cX12_visited 53 = .ok (.iload_n 2, 1) := by decide +kernel
theorem dX12_visited_54 : decode cX12_visited 54 = .ok (.ishl, 1) := by decide +kernel
theorem dX12_visited_55 : decode cX12_visited 55 = .ok (.ior, 1) := by decide +kernel
theorem dX12_visited_56 : decode cX12_visited 56 = .ok (.istore_n 1, 1) := by decide +kernel
theorem dX12_visited_57 : decode cX12_visited 57 = .ok (.iinc 2 1, 3) := by decide +kernel
theorem dX12_visited_60 : decode cX12_visited 60 = .ok (.goto (-56), 3) := by decide +kernel
theorem dX12_visited_63 : decode cX12_visited 63 = .ok (.iload_n 1, 1) := by decide +kernel
theorem dX12_visited_64 : decode cX12_visited 64 = .ok (.ireturn, 1) := by decide +kernel
theorem dX12_visitedOf_0 : decode cX12_visitedOf 0 = .ok (.aload_n 0, 1) := by decide +kernel
theorem dX12_visitedOf_1 : decode cX12_visitedOf 1 = .ok (.iconst 0, 1) := by decide +kernel
theorem dX12_visitedOf_2 : decode cX12_visitedOf 2 = .ok (.iload_n 1, 1) := by decide +kernel
theorem dX12_visitedOf_3 : decode cX12_visitedOf 3 = .ok (.invokevirtual 308, 3) := by decide +kernel
theorem dX12_visitedOf_6 : decode cX12_visitedOf 6 = .ok (.pop, 1) := by decide +kernel
theorem dX12_visitedOf_7 : decode cX12_visitedOf 7 = .ok (.aload_n 0, 1) := by decide +kernel
theorem dX12_visitedOf_8 : decode cX12_visitedOf 8 = .ok (.iconst 1, 1) := by decide +kernel
theorem dX12_visitedOf_9 : decode cX12_visitedOf 9 = .ok (.iload_n 2, 1) := by decide +kernel
theorem dX12_visitedOf_10 : decode cX12_visitedOf 10 = .ok (.invokevirtual 308, 3) := by decide +kernel
theorem dX12_visitedOf_13 : decode cX12_visitedOf 13 = .ok (.pop, 1) := by decide +kernel
theorem dX12_visitedOf_14 : decode cX12_visitedOf 14 = .ok (.aload_n 0, 1) := by decide +kernel
theorem dX12_visitedOf_15 : decode cX12_visitedOf 15 = .ok (.invokevirtual 314, 3) := by decide +kernel
theorem dX12_visitedOf_18 : decode cX12_visitedOf 18 = .ok (.ireturn, 1) := by decide +kernel
theorem dX12_entriesOf_0 : decode cX12_entriesOf 0 = .ok (.iconst 0, 1) := by decide +kernel
theorem dX12_entriesOf_1 : decode cX12_entriesOf 1 = .ok (.istore_n 2, 1) := by decide +kernel
theorem dX12_entriesOf_2 : decode cX12_entriesOf 2 = .ok (.iconst 0, 1) := by decide +kernel
theorem dX12_entriesOf_3 : decode cX12_entriesOf 3 = .ok (.istore_n 3, 1) := by decide +kernel
theorem dX12_entriesOf_4 : decode cX12_entriesOf 4 = .ok (.iload_n 3, 1) := by decide +kernel
theorem dX12_entriesOf_5 : decode cX12_entriesOf 5 = .ok (.aload_n 0, 1) := by decide +kernel
theorem dX12_entriesOf_6 : decode cX12_entriesOf 6 = .ok (.getfield 98, 3) := by decide +kernel
theorem dX12_entriesOf_9 : decode cX12_entriesOf 9 = .ok (.iconst 0, 1) := by decide +kernel
theorem dX12_entriesOf_10 : decode cX12_entriesOf 10 = .ok (.iaload, 1) := by decide +kernel
theorem dX12_entriesOf_11 : decode cX12_entriesOf 11 = .ok (.if_icmp .ge 21, 3) := by decide +kernel
theorem dX12_entriesOf_14 : decode cX12_entriesOf 14 = .ok (.aload_n 0, 1) := by decide +kernel
theorem dX12_entriesOf_15 : decode cX12_entriesOf 15 = .ok (.iload_n 1, 1) := by decide +kernel
theorem dX12_entriesOf_16 : decode cX12_entriesOf 16 = .ok (.iload_n 3, 1) := by decide +kernel
theorem dX12_entriesOf_17 : decode cX12_entriesOf 17 = .ok (.invokevirtual 294, 3) := by decide +kernel
theorem dX12_entriesOf_20 : decode cX12_entriesOf 20 = .ok (.ifCond .eq 6, 3) := by decide +kernel
theorem dX12_entriesOf_23 : decode cX12_entriesOf 23 = .ok (.iinc 2 1, 3) := by decide +kernel
theorem dX12_entriesOf_26 : decode cX12_entriesOf 26 = .ok (.iinc 3 1, 3) := by decide +kernel
theorem dX12_entriesOf_29 : decode cX12_entriesOf 29 = .ok (.goto (-25), 3) := by decide +kernel
theorem dX12_entriesOf_32 : decode cX12_entriesOf 32 = .ok (.iload_n 2, 1) := by decide +kernel
theorem dX12_entriesOf_33 : decode cX12_entriesOf 33 = .ok (.ireturn, 1) := by decide +kernel
theorem dX12_goneOf_0 : decode cX12_goneOf 0 = .ok (.iconst 0, 1) := by decide +kernel
theorem dX12_goneOf_1 : decode cX12_goneOf 1 = .ok (.istore_n 2, 1) := by decide +kernel
theorem dX12_goneOf_2 : decode cX12_goneOf 2 = .ok (.iconst 0, 1) := by decide +kernel
theorem dX12_goneOf_3 : decode cX12_goneOf 3 = .ok (.istore_n 3, 1) := by decide +kernel
theorem dX12_goneOf_4 : decode cX12_goneOf 4 = .ok (.iload_n 3, 1) := by decide +kernel
theorem dX12_goneOf_5 : decode cX12_goneOf 5 = .ok (.aload_n 0, 1) := by decide +kernel
theorem dX12_goneOf_6 : decode cX12_goneOf 6 = .ok (.getfield 98, 3) := by decide +kernel
theorem dX12_goneOf_9 : decode cX12_goneOf 9 = .ok (.iconst 0, 1) := by decide +kernel
theorem dX12_goneOf_10 : decode cX12_goneOf 10 = .ok (.iaload, 1) := by decide +kernel
theorem dX12_goneOf_11 : decode cX12_goneOf 11 = .ok (.if_icmp .ge 39, 3) := by decide +kernel
theorem dX12_goneOf_14 : decode cX12_goneOf 14 = .ok (.aload_n 0, 1) := by decide +kernel
theorem dX12_goneOf_15 : decode cX12_goneOf 15 = .ok (.iload_n 1, 1) := by decide +kernel
theorem dX12_goneOf_16 : decode cX12_goneOf 16 = .ok (.iload_n 3, 1) := by decide +kernel
theorem dX12_goneOf_17 : decode cX12_goneOf 17 = .ok (.invokevirtual 294, 3) := by decide +kernel
theorem dX12_goneOf_20 : decode cX12_goneOf 20 = .ok (.ifCond .eq 24, 3) := by decide +kernel
theorem dX12_goneOf_23 : decode cX12_goneOf 23 = .ok (.aload_n 0, 1) := by decide +kernel
theorem dX12_goneOf_24 : decode cX12_goneOf 24 = .ok (.getfield 98, 3) := by decide +kernel
theorem dX12_goneOf_27 : decode cX12_goneOf 27 = .ok (.sipush 213, 3) := by decide +kernel
theorem dX12_goneOf_30 : decode cX12_goneOf 30 = .ok (.iload_n 1, 1) := by decide +kernel
theorem dX12_goneOf_31 : decode cX12_goneOf 31 = .ok (.iload_n 3, 1) := by decide +kernel
theorem dX12_goneOf_32 : decode cX12_goneOf 32 = .ok (.invokestatic 291, 3) := by decide +kernel
theorem dX12_goneOf_35 : decode cX12_goneOf 35 = .ok (.iadd, 1) := by decide +kernel
theorem dX12_goneOf_36 : decode cX12_goneOf 36 = .ok (.iaload, 1) := by decide +kernel
theorem dX12_goneOf_37 : decode cX12_goneOf 37 = .ok (.iconst (-1), 1) := by decide +kernel
theorem dX12_goneOf_38 : decode cX12_goneOf 38 = .ok (.if_icmp .ne 6, 3) := by decide +kernel
theorem dX12_goneOf_41 : decode cX12_goneOf 41 = .ok (.iinc 2 1, 3) := by decide +kernel
theorem dX12_goneOf_44 : decode cX12_goneOf 44 = .ok (.iinc 3 1, 3) := by decide +kernel
theorem dX12_goneOf_47 : decode cX12_goneOf 47 = .ok (.goto (-43), 3) := by decide +kernel
theorem dX12_goneOf_50 : decode cX12_goneOf 50 = .ok (.iload_n 2, 1) := by decide +kernel
theorem dX12_goneOf_51 : decode cX12_goneOf 51 = .ok (.ireturn, 1) := by decide +kernel
theorem dX12_rootsLike_0 : decode cX12_rootsLike 0 = .ok (.aload_n 0, 1) := by decide +kernel
theorem dX12_rootsLike_1 : decode cX12_rootsLike 1 = .ok (.iload_n 1, 1) := by decide +kernel
theorem dX12_rootsLike_2 : decode cX12_rootsLike 2 = .ok (.invokevirtual 317, 3) := by decide +kernel
theorem dX12_rootsLike_5 : decode cX12_rootsLike 5 = .ok (.istore_n 2, 1) := by decide +kernel
theorem dX12_rootsLike_6 : decode cX12_rootsLike 6 = .ok (.iconst 0, 1) := by decide +kernel
theorem dX12_rootsLike_7 : decode cX12_rootsLike 7 = .ok (.istore_n 3, 1) := by decide +kernel
theorem dX12_rootsLike_8 : decode cX12_rootsLike 8 = .ok (.iconst 0, 1) := by decide +kernel
theorem dX12_rootsLike_9 : decode cX12_rootsLike 9 = .ok (.istore 4, 2) := by decide +kernel
theorem dX12_rootsLike_11 : decode cX12_rootsLike 11 = .ok (.iload 4, 2) := by decide +kernel
theorem dX12_rootsLike_13 : decode cX12_rootsLike 13 = .ok (.aload_n 0, 1) := by decide +kernel
theorem dX12_rootsLike_14 : decode cX12_rootsLike 14 = .ok (.getfield 98, 3) := by decide +kernel
theorem dX12_rootsLike_17 : decode cX12_rootsLike 17 = .ok (.iconst 1, 1) := by decide +kernel
theorem dX12_rootsLike_18 : decode cX12_rootsLike 18 = .ok (.iaload, 1) := by decide +kernel
theorem dX12_rootsLike_19 : decode cX12_rootsLike 19 = .ok (.if_icmp .ge 26, 3) := by decide +kernel
theorem dX12_rootsLike_22 : decode cX12_rootsLike 22 = .ok (.aload_n 0, 1) := by decide +kernel
theorem dX12_rootsLike_23 : decode cX12_rootsLike 23 = .ok (.iload 4, 2) := by decide +kernel
theorem dX12_rootsLike_25 : decode cX12_rootsLike 25 = .ok (.invokevirtual 317, 3) := by decide +kernel
theorem dX12_rootsLike_28 : decode cX12_rootsLike 28 = .ok (.iload_n 2, 1) := by decide +kernel
theorem dX12_rootsLike_29 : decode cX12_rootsLike 29 = .ok (.if_icmp .ne 10, 3) := by decide +kernel
theorem dX12_rootsLike_32 : decode cX12_rootsLike 32 = .ok (.iload_n 3, 1) := by decide +kernel
theorem dX12_rootsLike_33 : decode cX12_rootsLike 33 = .ok (.iconst 1, 1) := by decide +kernel
theorem dX12_rootsLike_34 : decode cX12_rootsLike 34 = .ok (.iload 4, 2) := by decide +kernel
theorem dX12_rootsLike_36 : decode cX12_rootsLike 36 = .ok (.ishl, 1) := by decide +kernel
theorem dX12_rootsLike_37 : decode cX12_rootsLike 37 = .ok (.ior, 1) := by decide +kernel
theorem dX12_rootsLike_38 : decode cX12_rootsLike 38 = .ok (.istore_n 3, 1) := by decide +kernel
theorem dX12_rootsLike_39 : decode cX12_rootsLike 39 = .ok (.iinc 4 1, 3) := by decide +kernel
theorem dX12_rootsLike_42 : decode cX12_rootsLike 42 = .ok (.goto (-31), 3) := by decide +kernel
theorem dX12_rootsLike_45 : decode cX12_rootsLike 45 = .ok (.iload_n 3, 1) := by decide +kernel
theorem dX12_rootsLike_46 : decode cX12_rootsLike 46 = .ok (.ireturn, 1) := by decide +kernel
theorem dX12_rootMany_0 : decode cX12_rootMany 0 = .ok (.iconst 0, 1) := by decide +kernel
theorem dX12_rootMany_1 : decode cX12_rootMany 1 = .ok (.istore_n 1, 1) := by decide +kernel
theorem dX12_rootMany_2 : decode cX12_rootMany 2 = .ok (.iconst 0, 1) := by decide +kernel
theorem dX12_rootMany_3 : decode cX12_rootMany 3 = .ok (.istore_n 2, 1) := by decide +kernel
theorem dX12_rootMany_4 : decode cX12_rootMany 4 = .ok (.iload_n 2, 1) := by decide +kernel
theorem dX12_rootMany_5 : decode cX12_rootMany 5 = .ok (.aload_n 0, 1) := by decide +kernel
theorem dX12_rootMany_6 : decode cX12_rootMany 6 = .ok (.getfield 98, 3) := by decide +kernel
theorem dX12_rootMany_9 : decode cX12_rootMany 9 = .ok (.iconst 1, 1) := by decide +kernel
theorem dX12_rootMany_10 : decode cX12_rootMany 10 = .ok (.iaload, 1) := by decide +kernel
theorem dX12_rootMany_11 : decode cX12_rootMany 11 = .ok (.if_icmp .ge 26, 3) := by decide +kernel
theorem dX12_rootMany_14 : decode cX12_rootMany 14 = .ok (.aload_n 0, 1) := by decide +kernel
theorem dX12_rootMany_15 : decode cX12_rootMany 15 = .ok (.iload_n 2, 1) := by decide +kernel
theorem dX12_rootMany_16 : decode cX12_rootMany 16 = .ok (.invokevirtual 320, 3) := by decide +kernel
theorem dX12_rootMany_19 : decode cX12_rootMany 19 = .ok (.iconst 1, 1) := by decide +kernel
theorem dX12_rootMany_20 : decode cX12_rootMany 20 = .ok (.iload_n 2, 1) := by decide +kernel
theorem dX12_rootMany_21 : decode cX12_rootMany 21 = .ok (.ishl, 1) := by decide +kernel
theorem dX12_rootMany_22 : decode cX12_rootMany 22 = .ok (.iconst 1, 1) := by decide +kernel
theorem dX12_rootMany_23 : decode cX12_rootMany 23 = .ok (.isub, 1) := by decide +kernel
theorem dX12_rootMany_24 : decode cX12_rootMany 24 = .ok (.iand, 1) := by decide +kernel
theorem dX12_rootMany_25 : decode cX12_rootMany 25 = .ok (.ifCond .ne 6, 3) := by decide +kernel
theorem dX12_rootMany_28 : decode cX12_rootMany 28 = .ok (.iinc 1 1, 3) := by decide +kernel
theorem dX12_rootMany_31 : decode cX12_rootMany 31 = .ok (.iinc 2 1, 3) := by decide +kernel
theorem dX12_rootMany_34 : decode cX12_rootMany 34 = .ok (.goto (-30), 3) := by decide +kernel
theorem dX12_rootMany_37 : decode cX12_rootMany 37 = .ok (.iload_n 1, 1) := by decide +kernel
theorem dX12_rootMany_38 : decode cX12_rootMany 38 = .ok (.ireturn, 1) := by decide +kernel
theorem dX12_isTorn_0 : decode cX12_isTorn 0 = .ok (.iconst 1, 1) := by decide +kernel
theorem dX12_isTorn_1 : decode cX12_isTorn 1 = .ok (.istore_n 2, 1) := by decide +kernel
theorem dX12_isTorn_2 : decode cX12_isTorn 2 = .ok (.iload_n 2, 1) := by decide +kernel
theorem dX12_isTorn_3 : decode cX12_isTorn 3 = .ok (.aload_n 0, 1) := by decide +kernel
theorem dX12_isTorn_4 : decode cX12_isTorn 4 = .ok (.getfield 98, 3) := by decide +kernel
theorem dX12_isTorn_7 : decode cX12_isTorn 7 = .ok (.iconst 1, 1) := by decide +kernel
theorem dX12_isTorn_8 : decode cX12_isTorn 8 = .ok (.iaload, 1) := by decide +kernel
theorem dX12_isTorn_9 : decode cX12_isTorn 9 = .ok (.if_icmp .ge 21, 3) := by decide +kernel
theorem dX12_isTorn_12 : decode cX12_isTorn 12 = .ok (.aload_n 0, 1) := by decide +kernel
theorem dX12_isTorn_13 : decode cX12_isTorn 13 = .ok (.iconst 0, 1) := by decide +kernel
theorem dX12_isTorn_14 : decode cX12_isTorn 14 = .ok (.iload_n 2, 1) := by decide +kernel
theorem dX12_isTorn_15 : decode cX12_isTorn 15 = .ok (.iload_n 1, 1) := by decide +kernel
theorem dX12_isTorn_16 : decode cX12_isTorn 16 = .ok (.invokevirtual 323, 3) := by decide +kernel
theorem dX12_isTorn_19 : decode cX12_isTorn 19 = .ok (.ifCond .ne 5, 3) := by decide +kernel
theorem dX12_isTorn_22 : decode cX12_isTorn 22 = .ok (.iconst 1, 1) := by decide +kernel
theorem dX12_isTorn_23 : decode cX12_isTorn 23 = .ok (.ireturn, 1) := by decide +kernel
theorem dX12_isTorn_24 : decode cX12_isTorn 24 = .ok (.iinc 2 1, 3) := by decide +kernel
theorem dX12_isTorn_27 : decode cX12_isTorn 27 = .ok (.goto (-25), 3) := by decide +kernel
theorem dX12_isTorn_30 : decode cX12_isTorn 30 = .ok (.iconst 0, 1) := by decide +kernel
theorem dX12_isTorn_31 : decode cX12_isTorn 31 = .ok (.ireturn, 1) := by decide +kernel
theorem dX12_key_0 : decode cX12_key 0 = .ok (.aload_n 0, 1) := by decide +kernel
theorem dX12_key_1 : decode cX12_key 1 = .ok (.iconst 0, 1) := by decide +kernel
theorem dX12_key_2 : decode cX12_key 2 = .ok (.putfield 1, 3) := by decide +kernel
theorem dX12_key_5 : decode cX12_key 5 = .ok (.aload_n 0, 1) := by decide +kernel
theorem dX12_key_6 : decode cX12_key 6 = .ok (.iload_n 1, 1) := by decide +kernel
theorem dX12_key_7 : decode cX12_key 7 = .ok (.invokevirtual 326, 3) := by decide +kernel
theorem dX12_key_10 : decode cX12_key 10 = .ok (.ifCond .ne 5, 3) := by decide +kernel
theorem dX12_key_13 : decode cX12_key 13 = .ok (.iconst (-1), 1) := by decide +kernel
theorem dX12_key_14 : decode cX12_key 14 = .ok (.ireturn, 1) := by decide +kernel
theorem dX12_key_15 : decode cX12_key 15 = .ok (.iload_n 2, 1) := by decide +kernel
theorem dX12_key_16 : decode cX12_key 16 = .ok (.tableswitch 83 0 2 #[28, 35, 42], 28) := by decide +kernel
theorem dX12_key_44 : decode cX12_key 44 = .ok (.aload_n 0, 1) := by decide +kernel
theorem dX12_key_45 : decode cX12_key 45 = .ok (.getfield 139, 3) := by decide +kernel
theorem dX12_key_48 : decode cX12_key 48 = .ok (.iload_n 1, 1) := by decide +kernel
theorem dX12_key_49 : decode cX12_key 49 = .ok (.iaload, 1) := by decide +kernel
theorem dX12_key_50 : decode cX12_key 50 = .ok (.ireturn, 1) := by decide +kernel
theorem dX12_key_51 : decode cX12_key 51 = .ok (.aload_n 0, 1) := by decide +kernel
theorem dX12_key_52 : decode cX12_key 52 = .ok (.getfield 145, 3) := by decide +kernel
theorem dX12_key_55 : decode cX12_key 55 = .ok (.iload_n 1, 1) := by decide +kernel
theorem dX12_key_56 : decode cX12_key 56 = .ok (.iaload, 1) := by decide +kernel
theorem dX12_key_57 : decode cX12_key 57 = .ok (.ireturn, 1) := by decide +kernel
theorem dX12_key_58 : decode cX12_key 58 = .ok (.iconst 0, 1) := by decide +kernel
theorem dX12_key_59 : decode cX12_key 59 = .ok (.istore_n 3, 1) := by decide +kernel
theorem dX12_key_60 : decode cX12_key 60 = .ok (.iconst 0, 1) := by decide +kernel
theorem dX12_key_61 : decode cX12_key 61 = .ok (.istore 4, 2) := by decide +kernel
theorem dX12_key_63 : decode cX12_key 63 = .ok (.iload 4, 2) := by decide +kernel
theorem dX12_key_65 : decode cX12_key 65 = .ok (.aload_n 0, 1) := by decide +kernel
theorem dX12_key_66 : decode cX12_key 66 = .ok (.getfield 98, 3) := by decide +kernel
theorem dX12_key_69 : decode cX12_key 69 = .ok (.iconst 1, 1) := by decide +kernel
theorem dX12_key_70 : decode cX12_key 70 = .ok (.iaload, 1) := by decide +kernel
theorem dX12_key_71 : decode cX12_key 71 = .ok (.if_icmp .ge 26, 3) := by decide +kernel
theorem dX12_key_74 : decode cX12_key 74 = .ok (.aload_n 0, 1) := by decide +kernel
theorem dX12_key_75 : decode cX12_key 75 = .ok (.iload 4, 2) := by decide +kernel
theorem dX12_key_77 : decode cX12_key 77 = .ok (.iload_n 1, 1) := by decide +kernel
theorem dX12_key_78 : decode cX12_key 78 = .ok (.invokevirtual 294, 3) := by decide +kernel
theorem dX12_key_81 : decode cX12_key 81 = .ok (.ifCond .eq 10, 3) := by decide +kernel
theorem dX12_key_84 : decode cX12_key 84 = .ok (.iload_n 3, 1) := by decide +kernel
theorem dX12_key_85 : decode cX12_key 85 = .ok (.iconst 1, 1) := by decide +kernel
theorem dX12_key_86 : decode cX12_key 86 = .ok (.iload 4, 2) := by decide +kernel
theorem dX12_key_88 : decode cX12_key 88 = .ok (.ishl, 1) := by decide +kernel
theorem dX12_key_89 : decode cX12_key 89 = .ok (.ior, 1) := by decide +kernel
theorem dX12_key_90 : decode cX12_key 90 = .ok (.istore_n 3, 1) := by decide +kernel
theorem dX12_key_91 : decode cX12_key 91 = .ok (.iinc 4 1, 3) := by decide +kernel
theorem dX12_key_94 : decode cX12_key 94 = .ok (.goto (-31), 3) := by decide +kernel
theorem dX12_key_97 : decode cX12_key 97 = .ok (.iload_n 3, 1) := by decide +kernel
theorem dX12_key_98 : decode cX12_key 98 = .ok (.ireturn, 1) := by decide +kernel
theorem dX12_key_99 : decode cX12_key 99 = .ok (.iconst (-1), 1) := by decide +kernel
theorem dX12_key_100 : decode cX12_key 100 = .ok (.ireturn, 1) := by decide +kernel
theorem dX12_digest_0 : decode cX12_digest 0 = .ok (.aload_n 0, 1) := by decide +kernel
theorem dX12_digest_1 : decode cX12_digest 1 = .ok (.iconst 0, 1) := by decide +kernel
theorem dX12_digest_2 : decode cX12_digest 2 = .ok (.putfield 1, 3) := by decide +kernel
theorem dX12_digest_5 : decode cX12_digest 5 = .ok (.aload_n 0, 1) := by decide +kernel
theorem dX12_digest_6 : decode cX12_digest 6 = .ok (.iload_n 1, 1) := by decide +kernel
theorem dX12_digest_7 : decode cX12_digest 7 = .ok (.invokevirtual 326, 3) := by decide +kernel
theorem dX12_digest_10 : decode cX12_digest 10 = .ok (.ifCond .eq 12, 3) := by decide +kernel
theorem dX12_digest_13 : decode cX12_digest 13 = .ok (.aload_n 0, 1) := by decide +kernel
theorem dX12_digest_14 : decode cX12_digest 14 = .ok (.getfield 136, 3) := by decide +kernel
theorem dX12_digest_17 : decode cX12_digest 17 = .ok (.iload_n 1, 1) := by decide +kernel
theorem dX12_digest_18 : decode cX12_digest 18 = .ok (.iaload, 1) := by decide +kernel
theorem dX12_digest_19 : decode cX12_digest 19 = .ok (.goto 7, 3) := by decide +kernel
theorem dX12_digest_22 : decode cX12_digest 22 = .ok (.aload_n 0, 1) := by decide +kernel
theorem dX12_digest_23 : decode cX12_digest 23 = .ok (.invokevirtual 329, 3) := by decide +kernel
theorem dX12_digest_26 : decode cX12_digest 26 = .ok (.ireturn, 1) := by decide +kernel
theorem dX12_peer_0 : decode cX12_peer 0 = .ok (.aload_n 0, 1) := by decide +kernel
theorem dX12_peer_1 : decode cX12_peer 1 = .ok (.iconst 0, 1) := by decide +kernel
theorem dX12_peer_2 : decode cX12_peer 2 = .ok (.putfield 1, 3) := by decide +kernel
theorem dX12_peer_5 : decode cX12_peer 5 = .ok (.aload_n 0, 1) := by decide +kernel
theorem dX12_peer_6 : decode cX12_peer 6 = .ok (.iload_n 1, 1) := by decide +kernel
theorem dX12_peer_7 : decode cX12_peer 7 = .ok (.invokevirtual 288, 3) := by decide +kernel
theorem dX12_peer_10 : decode cX12_peer 10 = .ok (.ifCond .ne 5, 3) := by decide +kernel
theorem dX12_peer_13 : decode cX12_peer 13 = .ok (.iconst (-1), 1) := by decide +kernel
theorem dX12_peer_14 : decode cX12_peer 14 = .ok (.ireturn, 1) := by decide +kernel
theorem dX12_peer_15 : decode cX12_peer 15 = .ok (.aload_n 0, 1) := by decide +kernel
theorem dX12_peer_16 : decode cX12_peer 16 = .ok (.iconst 0, 1) := by decide +kernel
theorem dX12_peer_17 : decode cX12_peer 17 = .ok (.iload_n 1, 1) := by decide +kernel
theorem dX12_peer_18 : decode cX12_peer 18 = .ok (.invokevirtual 308, 3) := by decide +kernel
theorem dX12_peer_21 : decode cX12_peer 21 = .ok (.pop, 1) := by decide +kernel
theorem dX12_peer_22 : decode cX12_peer 22 = .ok (.iload_n 2, 1) := by decide +kernel
theorem dX12_peer_23 : decode cX12_peer 23 = .ok (.tableswitch 108 0 6 #[41, 47, 53, 60, 80, 91, 97], 41) := by decide +kernel
theorem dX12_peer_64 : decode cX12_peer 64 = .ok (.aload_n 0, 1) := by decide +kernel
theorem dX12_peer_65 : decode cX12_peer 65 = .ok (.iload_n 1, 1) := by decide +kernel
theorem dX12_peer_66 : decode cX12_peer 66 = .ok (.invokevirtual 332, 3) := by decide +kernel
theorem dX12_peer_69 : decode cX12_peer 69 = .ok (.ireturn, 1) := by decide +kernel
theorem dX12_peer_70 : decode cX12_peer 70 = .ok (.aload_n 0, 1) := by decide +kernel
theorem dX12_peer_71 : decode cX12_peer 71 = .ok (.iload_n 1, 1) := by decide +kernel
theorem dX12_peer_72 : decode cX12_peer 72 = .ok (.invokevirtual 335, 3) := by decide +kernel
theorem dX12_peer_75 : decode cX12_peer 75 = .ok (.ireturn, 1) := by decide +kernel
theorem dX12_peer_76 : decode cX12_peer 76 = .ok (.aload_n 0, 1) := by decide +kernel
theorem dX12_peer_77 : decode cX12_peer 77 = .ok (.getfield 148, 3) := by decide +kernel
theorem dX12_peer_80 : decode cX12_peer 80 = .ok (.iconst 0, 1) := by decide +kernel
theorem dX12_peer_81 : decode cX12_peer 81 = .ok (.iaload, 1) := by decide +kernel
theorem dX12_peer_82 : decode cX12_peer 82 = .ok (.ireturn, 1) := by decide +kernel
theorem dX12_peer_83 : decode cX12_peer 83 = .ok (.aload_n 0, 1) := by decide +kernel
theorem dX12_peer_84 : decode cX12_peer 84 = .ok (.getfield 148, 3) := by decide +kernel
theorem dX12_peer_87 : decode cX12_peer 87 = .ok (.iconst 0, 1) := by decide +kernel
theorem dX12_peer_88 : decode cX12_peer 88 = .ok (.iaload, 1) := by decide +kernel
theorem dX12_peer_89 : decode cX12_peer 89 = .ok (.ifCond .ne 7, 3) := by decide +kernel
theorem dX12_peer_92 : decode cX12_peer 92 = .ok (.iconst (-1), 1) := by decide +kernel
theorem dX12_peer_93 : decode cX12_peer 93 = .ok (.goto 9, 3) := by decide +kernel
theorem dX12_peer_96 : decode cX12_peer 96 = .ok (.aload_n 0, 1) := by decide +kernel
theorem dX12_peer_97 : decode cX12_peer 97 = .ok (.getfield 151, 3) := by decide +kernel
theorem dX12_peer_100 : decode cX12_peer 100 = .ok (.iconst 0, 1) := by decide +kernel
theorem dX12_peer_101 : decode cX12_peer 101 = .ok (.iaload, 1) := by decide +kernel
theorem dX12_peer_102 : decode cX12_peer 102 = .ok (.ireturn, 1) := by decide +kernel
theorem dX12_peer_103 : decode cX12_peer 103 = .ok (.aload_n 0, 1) := by decide +kernel
theorem dX12_peer_104 : decode cX12_peer 104 = .ok (.getfield 98, 3) := by decide +kernel
theorem dX12_peer_107 : decode cX12_peer 107 = .ok (.sipush 205, 3) := by decide +kernel
theorem dX12_peer_110 : decode cX12_peer 110 = .ok (.iload_n 1, 1) := by decide +kernel
theorem dX12_peer_111 : decode cX12_peer 111 = .ok (.iadd, 1) := by decide +kernel
theorem dX12_peer_112 : decode cX12_peer 112 = .ok (.iaload, 1) := by decide +kernel
theorem dX12_peer_113 : decode cX12_peer 113 = .ok (.ireturn, 1) := by decide +kernel
theorem dX12_peer_114 : decode cX12_peer 114 = .ok (.aload_n 0, 1) := by decide +kernel
theorem dX12_peer_115 : decode cX12_peer 115 = .ok (.iload_n 1, 1) := by decide +kernel
theorem dX12_peer_116 : decode cX12_peer 116 = .ok (.invokevirtual 320, 3) := by decide +kernel
theorem dX12_peer_119 : decode cX12_peer 119 = .ok (.ireturn, 1) := by decide +kernel
theorem dX12_peer_120 : decode cX12_peer 120 = .ok (.aload_n 0, 1) := by decide +kernel
theorem dX12_peer_121 : decode cX12_peer 121 = .ok (.getfield 98, 3) := by decide +kernel
theorem dX12_peer_124 : decode cX12_peer 124 = .ok (.sipush 209, 3) := by decide +kernel
theorem dX12_peer_127 : decode cX12_peer 127 = .ok (.iload_n 1, 1) := by decide +kernel
theorem dX12_peer_128 : decode cX12_peer 128 = .ok (.iadd, 1) := by decide +kernel
theorem dX12_peer_129 : decode cX12_peer 129 = .ok (.iaload, 1) := by decide +kernel
theorem dX12_peer_130 : decode cX12_peer 130 = .ok (.ireturn, 1) := by decide +kernel
theorem dX12_peer_131 : decode cX12_peer 131 = .ok (.iconst (-1), 1) := by decide +kernel
theorem dX12_peer_132 : decode cX12_peer 132 = .ok (.ireturn, 1) := by decide +kernel
theorem dX12_root_0 : decode cX12_root 0 = .ok (.aload_n 0, 1) := by decide +kernel
theorem dX12_root_1 : decode cX12_root 1 = .ok (.iconst 0, 1) := by decide +kernel
theorem dX12_root_2 : decode cX12_root 2 = .ok (.putfield 1, 3) := by decide +kernel
theorem dX12_root_5 : decode cX12_root 5 = .ok (.aload_n 0, 1) := by decide +kernel
theorem dX12_root_6 : decode cX12_root 6 = .ok (.iload_n 1, 1) := by decide +kernel
theorem dX12_root_7 : decode cX12_root 7 = .ok (.invokevirtual 288, 3) := by decide +kernel
theorem dX12_root_10 : decode cX12_root 10 = .ok (.ifCond .eq 11, 3) := by decide +kernel
theorem dX12_root_13 : decode cX12_root 13 = .ok (.aload_n 0, 1) := by decide +kernel
theorem dX12_root_14 : decode cX12_root 14 = .ok (.iload_n 1, 1) := by decide +kernel
theorem dX12_root_15 : decode cX12_root 15 = .ok (.invokevirtual 317, 3) := by decide +kernel
theorem dX12_root_18 : decode cX12_root 18 = .ok (.goto 7, 3) := by decide +kernel
theorem dX12_root_21 : decode cX12_root 21 = .ok (.aload_n 0, 1) := by decide +kernel
theorem dX12_root_22 : decode cX12_root 22 = .ok (.invokevirtual 329, 3) := by decide +kernel
theorem dX12_root_25 : decode cX12_root 25 = .ok (.ireturn, 1) := by decide +kernel
theorem dX12_entry_0 : decode cX12_entry 0 = .ok (.aload_n 0, 1) := by decide +kernel
theorem dX12_entry_1 : decode cX12_entry 1 = .ok (.iconst 0, 1) := by decide +kernel
theorem dX12_entry_2 : decode cX12_entry 2 = .ok (.putfield 1, 3) := by decide +kernel
theorem dX12_entry_5 : decode cX12_entry 5 = .ok (.aload_n 0, 1) := by decide +kernel
theorem dX12_entry_6 : decode cX12_entry 6 = .ok (.iload_n 1, 1) := by decide +kernel
theorem dX12_entry_7 : decode cX12_entry 7 = .ok (.invokevirtual 288, 3) := by decide +kernel
theorem dX12_entry_10 : decode cX12_entry 10 = .ok (.ifCond .eq 20, 3) := by decide +kernel
theorem dX12_entry_13 : decode cX12_entry 13 = .ok (.aload_n 0, 1) := by decide +kernel
theorem dX12_entry_14 : decode cX12_entry 14 = .ok (.iload_n 2, 1) := by decide +kernel
theorem dX12_entry_15 : decode cX12_entry 15 = .ok (.invokevirtual 326, 3) := by decide +kernel
theorem dX12_entry_18 : decode cX12_entry 18 = .ok (.ifCond .eq 12, 3) := by decide +kernel
theorem dX12_entry_21 : decode cX12_entry 21 = .ok (.aload_n 0, 1) := by decide +kernel
theorem dX12_entry_22 : decode cX12_entry 22 = .ok (.iload_n 1, 1) := by decide +kernel
theorem dX12_entry_23 : decode cX12_entry 23 = .ok (.iload_n 2, 1) := by decide +kernel
theorem dX12_entry_24 : decode cX12_entry 24 = .ok (.invokevirtual 294, 3) := by decide +kernel
theorem dX12_entry_27 : decode cX12_entry 27 = .ok (.ifCond .ne 8, 3) := by decide +kernel
theorem dX12_entry_30 : decode cX12_entry 30 = .ok (.aload_n 0, 1) := by decide +kernel
theorem dX12_entry_31 : decode cX12_entry 31 = .ok (.invokevirtual 329, 3) := by decide +kernel
theorem dX12_entry_34 : decode cX12_entry 34 = .ok (.ireturn, 1) := by decide +kernel
theorem dX12_entry_35 : decode cX12_entry 35 = .ok (.iload_n 3, 1) := by decide +kernel
theorem dX12_entry_36 : decode cX12_entry 36 = .ok (.tableswitch 65 0 2 #[28, 43, 58], 28) := by decide +kernel
theorem dX12_entry_64 : decode cX12_entry 64 = .ok (.aload_n 0, 1) := by decide +kernel
theorem dX12_entry_65 : decode cX12_entry 65 = .ok (.getfield 98, 3) := by decide +kernel
theorem dX12_entry_68 : decode cX12_entry 68 = .ok (.sipush 213, 3) := by decide +kernel
theorem dX12_entry_71 : decode cX12_entry 71 = .ok (.iload_n 1, 1) := by decide +kernel
theorem dX12_entry_72 : decode cX12_entry 72 = .ok (.iload_n 2, 1) := by decide +kernel
theorem dX12_entry_73 : decode cX12_entry 73 = .ok (.invokestatic 291, 3) := by decide +kernel
theorem dX12_entry_76 : decode cX12_entry 76 = .ok (.iadd, 1) := by decide +kernel
theorem dX12_entry_77 : decode cX12_entry 77 = .ok (.iaload, 1) := by decide +kernel
theorem dX12_entry_78 : decode cX12_entry 78 = .ok (.ireturn, 1) := by decide +kernel
theorem dX12_entry_79 : decode cX12_entry 79 = .ok (.aload_n 0, 1) := by decide +kernel
theorem dX12_entry_80 : decode cX12_entry 80 = .ok (.getfield 98, 3) := by decide +kernel
theorem dX12_entry_83 : decode cX12_entry 83 = .ok (.sipush 309, 3) := by decide +kernel
theorem dX12_entry_86 : decode cX12_entry 86 = .ok (.iload_n 1, 1) := by decide +kernel
theorem dX12_entry_87 : decode cX12_entry 87 = .ok (.iload_n 2, 1) := by decide +kernel
theorem dX12_entry_88 : decode cX12_entry 88 = .ok (.invokestatic 291, 3) := by decide +kernel
theorem dX12_entry_91 : decode cX12_entry 91 = .ok (.iadd, 1) := by decide +kernel
theorem dX12_entry_92 : decode cX12_entry 92 = .ok (.iaload, 1) := by decide +kernel
theorem dX12_entry_93 : decode cX12_entry 93 = .ok (.ireturn, 1) := by decide +kernel
theorem dX12_entry_94 : decode cX12_entry 94 = .ok (.aload_n 0, 1) := by decide +kernel
theorem dX12_entry_95 : decode cX12_entry 95 = .ok (.iload_n 1, 1) := by decide +kernel
theorem dX12_entry_96 : decode cX12_entry 96 = .ok (.iload_n 2, 1) := by decide +kernel
theorem dX12_entry_97 : decode cX12_entry 97 = .ok (.invokevirtual 305, 3) := by decide +kernel
theorem dX12_entry_100 : decode cX12_entry 100 = .ok (.ireturn, 1) := by decide +kernel
theorem dX12_entry_101 : decode cX12_entry 101 = .ok (.aload_n 0, 1) := by decide +kernel
theorem dX12_entry_102 : decode cX12_entry 102 = .ok (.invokevirtual 329, 3) := by decide +kernel
theorem dX12_entry_105 : decode cX12_entry 105 = .ok (.ireturn, 1) := by decide +kernel
theorem dX12_node_0 : decode cX12_node 0 = .ok (.aload_n 0, 1) := by decide +kernel
theorem dX12_node_1 : decode cX12_node 1 = .ok (.iconst 0, 1) := by decide +kernel
theorem dX12_node_2 : decode cX12_node 2 = .ok (.putfield 1, 3) := by decide +kernel
theorem dX12_node_5 : decode cX12_node 5 = .ok (.aload_n 0, 1) := by decide +kernel
theorem dX12_node_6 : decode cX12_node 6 = .ok (.iload_n 1, 1) := by decide +kernel
theorem dX12_node_7 : decode cX12_node 7 = .ok (.invokevirtual 288, 3) := by decide +kernel
theorem dX12_node_10 : decode cX12_node 10 = .ok (.ifCond .ne 8, 3) := by decide +kernel
theorem dX12_node_13 : decode cX12_node 13 = .ok (.aload_n 0, 1) := by decide +kernel
theorem dX12_node_14 : decode cX12_node 14 = .ok (.invokevirtual 329, 3) := by decide +kernel
theorem dX12_node_17 : decode cX12_node 17 = .ok (.ireturn, 1) := by decide +kernel
theorem dX12_node_18 : decode cX12_node 18 = .ok (.aload_n 0, 1) := by decide +kernel
theorem dX12_node_19 : decode cX12_node 19 = .ok (.iconst 0, 1) := by decide +kernel
theorem dX12_node_20 : decode cX12_node 20 = .ok (.iload_n 1, 1) := by decide +kernel
theorem dX12_node_21 : decode cX12_node 21 = .ok (.invokevirtual 308, 3) := by decide +kernel
theorem dX12_node_24 : decode cX12_node 24 = .ok (.pop, 1) := by decide +kernel
theorem dX12_node_25 : decode cX12_node 25 = .ok (.iload_n 2, 1) := by decide +kernel
theorem dX12_node_26 : decode cX12_node 26 = .ok (.iconst 0, 1) := by decide +kernel
theorem dX12_node_27 : decode cX12_node 27 = .ok (.aload_n 0, 1) := by decide +kernel
theorem dX12_node_28 : decode cX12_node 28 = .ok (.getfield 148, 3) := by decide +kernel
theorem dX12_node_31 : decode cX12_node 31 = .ok (.iconst 0, 1) := by decide +kernel
theorem dX12_node_32 : decode cX12_node 32 = .ok (.iaload, 1) := by decide +kernel
theorem dX12_node_33 : decode cX12_node 33 = .ok (.iconst 1, 1) := by decide +kernel
theorem dX12_node_34 : decode cX12_node 34 = .ok (.isub, 1) := by decide +kernel
theorem dX12_node_35 : decode cX12_node 35 = .ok (.invokestatic 75, 3) := by decide +kernel
theorem dX12_node_38 : decode cX12_node 38 = .ok (.ifCond .ne 8, 3) := by decide +kernel
theorem dX12_node_41 : decode cX12_node 41 = .ok (.aload_n 0, 1) := by decide +kernel
theorem dX12_node_42 : decode cX12_node 42 = .ok (.invokevirtual 329, 3) := by decide +kernel
theorem dX12_node_45 : decode cX12_node 45 = .ok (.ireturn, 1) := by decide +kernel
theorem dX12_node_46 : decode cX12_node 46 = .ok (.iload_n 3, 1) := by decide +kernel
theorem dX12_node_47 : decode cX12_node 47 = .ok (.tableswitch 93 0 6 #[41, 48, 58, 65, 72, 79, 86], 41) := by decide +kernel
theorem dX12_node_88 : decode cX12_node 88 = .ok (.aload_n 0, 1) := by decide +kernel
theorem dX12_node_89 : decode cX12_node 89 = .ok (.getfield 151, 3) := by decide +kernel
theorem dX12_node_92 : decode cX12_node 92 = .ok (.iload_n 2, 1) := by decide +kernel
theorem dX12_node_93 : decode cX12_node 93 = .ok (.iaload, 1) := by decide +kernel
theorem dX12_node_94 : decode cX12_node 94 = .ok (.ireturn, 1) := by decide +kernel
theorem dX12_node_95 : decode cX12_node 95 = .ok (.aload_n 0, 1) := by decide +kernel
theorem dX12_node_96 : decode cX12_node 96 = .ok (.getfield 154, 3) := by decide +kernel
theorem dX12_node_99 : decode cX12_node 99 = .ok (.iload_n 2, 1) := by decide +kernel
theorem dX12_node_100 : decode cX12_node 100 = .ok (.iaload, 1) := by decide +kernel
theorem dX12_node_101 : decode cX12_node 101 = .ok (.invokestatic 338, 3) := by decide +kernel
theorem dX12_node_104 : decode cX12_node 104 = .ok (.ireturn, 1) := by decide +kernel
theorem dX12_node_105 : decode cX12_node 105 = .ok (.aload_n 0, 1) := by decide +kernel
theorem dX12_node_106 : decode cX12_node 106 = .ok (.getfield 157, 3) := by decide +kernel
theorem dX12_node_109 : decode cX12_node 109 = .ok (.iload_n 2, 1) := by decide +kernel
theorem dX12_node_110 : decode cX12_node 110 = .ok (.iaload, 1) := by decide +kernel
theorem dX12_node_111 : decode cX12_node 111 = .ok (.ireturn, 1) := by decide +kernel
theorem dX12_node_112 : decode cX12_node 112 = .ok (.aload_n 0, 1) := by decide +kernel
theorem dX12_node_113 : decode cX12_node 113 = .ok (.getfield 160, 3) := by decide +kernel
theorem dX12_node_116 : decode cX12_node 116 = .ok (.iload_n 2, 1) := by decide +kernel
theorem dX12_node_117 : decode cX12_node 117 = .ok (.iaload, 1) := by decide +kernel
theorem dX12_node_118 : decode cX12_node 118 = .ok (.ireturn, 1) := by decide +kernel
theorem dX12_node_119 : decode cX12_node 119 = .ok (.aload_n 0, 1) := by decide +kernel
theorem dX12_node_120 : decode cX12_node 120 = .ok (.getfield 163, 3) := by decide +kernel
theorem dX12_node_123 : decode cX12_node 123 = .ok (.iload_n 2, 1) := by decide +kernel
theorem dX12_node_124 : decode cX12_node 124 = .ok (.iaload, 1) := by decide +kernel
theorem dX12_node_125 : decode cX12_node 125 = .ok (.ireturn, 1) := by decide +kernel
theorem dX12_node_126 : decode cX12_node 126 = .ok (.aload_n 0, 1) := by decide +kernel
theorem dX12_node_127 : decode cX12_node 127 = .ok (.getfield 166, 3) := by decide +kernel
theorem dX12_node_130 : decode cX12_node 130 = .ok (.iload_n 2, 1) := by decide +kernel
theorem dX12_node_131 : decode cX12_node 131 = .ok (.iaload, 1) := by decide +kernel
theorem dX12_node_132 : decode cX12_node 132 = .ok (.ireturn, 1) := by decide +kernel
theorem dX12_node_133 : decode cX12_node 133 = .ok (.aload_n 0, 1) := by decide +kernel
theorem dX12_node_134 : decode cX12_node 134 = .ok (.getfield 169, 3) := by decide +kernel
theorem dX12_node_137 : decode cX12_node 137 = .ok (.iload_n 2, 1) := by decide +kernel
theorem dX12_node_138 : decode cX12_node 138 = .ok (.iaload, 1) := by decide +kernel
theorem dX12_node_139 : decode cX12_node 139 = .ok (.ireturn, 1) := by decide +kernel
theorem dX12_node_140 : decode cX12_node 140 = .ok (.aload_n 0, 1) := by decide +kernel
theorem dX12_node_141 : decode cX12_node 141 = .ok (.invokevirtual 329, 3) := by decide +kernel
theorem dX12_node_144 : decode cX12_node 144 = .ok (.ireturn, 1) := by decide +kernel
theorem dX12_now_0 : decode cX12_now 0 = .ok (.aload_n 0, 1) := by decide +kernel
theorem dX12_now_1 : decode cX12_now 1 = .ok (.iconst 0, 1) := by decide +kernel
theorem dX12_now_2 : decode cX12_now 2 = .ok (.putfield 1, 3) := by decide +kernel
theorem dX12_now_5 : decode cX12_now 5 = .ok (.iconst 0, 1) := by decide +kernel
theorem dX12_now_6 : decode cX12_now 6 = .ok (.istore_n 2, 1) := by decide +kernel
theorem dX12_now_7 : decode cX12_now 7 = .ok (.iload_n 1, 1) := by decide +kernel
theorem dX12_now_8 : decode cX12_now 8 = .ok (.tableswitch 102 0 4 #[36, 45, 54, 63, 97], 36) := by decide +kernel
theorem dX12_now_44 : decode cX12_now 44 = .ok (.aload_n 0, 1) := by decide +kernel
theorem dX12_now_45 : decode cX12_now 45 = .ok (.getfield 98, 3) := by decide +kernel
theorem dX12_now_48 : decode cX12_now 48 = .ok (.sipush 202, 3) := by decide +kernel
theorem dX12_now_51 : decode cX12_now 51 = .ok (.iaload, 1) := by decide +kernel
theorem dX12_now_52 : decode cX12_now 52 = .ok (.ireturn, 1) := by decide +kernel
theorem dX12_now_53 : decode cX12_now 53 = .ok (.aload_n 0, 1) := by decide +kernel
theorem dX12_now_54 : decode cX12_now 54 = .ok (.getfield 98, 3) := by decide +kernel
theorem dX12_now_57 : decode cX12_now 57 = .ok (.sipush 203, 3) := by decide +kernel
theorem dX12_now_60 : decode cX12_now 60 = .ok (.iaload, 1) := by decide +kernel
theorem dX12_now_61 : decode cX12_now 61 = .ok (.ireturn, 1) := by decide +kernel
theorem dX12_now_62 : decode cX12_now 62 = .ok (.aload_n 0, 1) := by decide +kernel
theorem dX12_now_63 : decode cX12_now 63 = .ok (.getfield 98, 3) := by decide +kernel
theorem dX12_now_66 : decode cX12_now 66 = .ok (.sipush 204, 3) := by decide +kernel
theorem dX12_now_69 : decode cX12_now 69 = .ok (.iaload, 1) := by decide +kernel
theorem dX12_now_70 : decode cX12_now 70 = .ok (.ireturn, 1) := by decide +kernel
theorem dX12_now_71 : decode cX12_now 71 = .ok (.iconst 0, 1) := by decide +kernel
theorem dX12_now_72 : decode cX12_now 72 = .ok (.istore_n 3, 1) := by decide +kernel
theorem dX12_now_73 : decode cX12_now 73 = .ok (.iload_n 3, 1) := by decide +kernel
theorem dX12_now_74 : decode cX12_now 74 = .ok (.aload_n 0, 1) := by decide +kernel
theorem dX12_now_75 : decode cX12_now 75 = .ok (.getfield 98, 3) := by decide +kernel
theorem dX12_now_78 : decode cX12_now 78 = .ok (.iconst 0, 1) := by decide +kernel
theorem dX12_now_79 : decode cX12_now 79 = .ok (.iaload, 1) := by decide +kernel
theorem dX12_now_80 : decode cX12_now 80 = .ok (.if_icmp .ge 23, 3) := by decide +kernel
theorem dX12_now_83 : decode cX12_now 83 = .ok (.aload_n 0, 1) := by decide +kernel
theorem dX12_now_84 : decode cX12_now 84 = .ok (.iload_n 3, 1) := by decide +kernel
theorem dX12_now_85 : decode cX12_now 85 = .ok (.invokevirtual 341, 3) := by decide +kernel
theorem dX12_now_88 : decode cX12_now 88 = .ok (.ifCond .eq 9, 3) := by decide +kernel
theorem dX12_now_91 : decode cX12_now 91 = .ok (.iload_n 2, 1) := by decide +kernel
theorem dX12_now_92 : decode cX12_now 92 = .ok (.iconst 1, 1) := by decide +kernel
theorem dX12_now_93 : decode cX12_now 93 = .ok (.iload_n 3, 1) := by decide +kernel
theorem dX12_now_94 : decode cX12_now 94 = .ok (.ishl, 1) := by decide +kernel
theorem dX12_now_95 : decode cX12_now 95 = .ok (.ior, 1) := by decide +kernel
theorem dX12_now_96 : decode cX12_now 96 = .ok (.istore_n 2, 1) := by decide +kernel
theorem dX12_now_97 : decode cX12_now 97 = .ok (.iinc 3 1, 3) := by decide +kernel
theorem dX12_now_100 : decode cX12_now 100 = .ok (.goto (-27), 3) := by decide +kernel
theorem dX12_now_103 : decode cX12_now 103 = .ok (.iload_n 2, 1) := by decide +kernel
theorem dX12_now_104 : decode cX12_now 104 = .ok (.ireturn, 1) := by decide +kernel
theorem dX12_now_105 : decode cX12_now 105 = .ok (.aload_n 0, 1) := by decide +kernel
theorem dX12_now_106 : decode cX12_now 106 = .ok (.invokevirtual 344, 3) := by decide +kernel
theorem dX12_now_109 : decode cX12_now 109 = .ok (.ireturn, 1) := by decide +kernel
theorem dX12_now_110 : decode cX12_now 110 = .ok (.iconst (-1), 1) := by decide +kernel
theorem dX12_now_111 : decode cX12_now 111 = .ok (.ireturn, 1) := by decide +kernel
theorem dX12_wins_0 : decode cX12_wins 0 = .ok (.aload_n 0, 1) := by decide +kernel
theorem dX12_wins_1 : decode cX12_wins 1 = .ok (.getfield 98, 3) := by decide +kernel
theorem dX12_wins_4 : decode cX12_wins 4 = .ok (.iconst 4, 1) := by decide +kernel
theorem dX12_wins_5 : decode cX12_wins 5 = .ok (.iaload, 1) := by decide +kernel
theorem dX12_wins_6 : decode cX12_wins 6 = .ok (.ifCond .ne 10, 3) := by decide +kernel
theorem dX12_wins_9 : decode cX12_wins 9 = .ok (.iload_n 2, 1) := by decide +kernel
theorem dX12_wins_10 : decode cX12_wins 10 = .ok (.iload 4, 2) := by decide +kernel
theorem dX12_wins_12 : decode cX12_wins 12 = .ok (.isub, 1) := by decide +kernel
theorem dX12_wins_13 : decode cX12_wins 13 = .ok (.goto 28, 3) := by decide +kernel
theorem dX12_wins_16 : decode cX12_wins 16 = .ok (.aload_n 0, 1) := by decide +kernel
theorem dX12_wins_17 : decode cX12_wins 17 = .ok (.getfield 98, 3) := by decide +kernel
theorem dX12_wins_20 : decode cX12_wins 20 = .ok (.iconst 4, 1) := by decide +kernel
theorem dX12_wins_21 : decode cX12_wins 21 = .ok (.iaload, 1) := by decide +kernel
theorem dX12_wins_22 : decode cX12_wins 22 = .ok (.iconst 1, 1) := by decide +kernel
theorem dX12_wins_23 : decode cX12_wins 23 = .ok (.if_icmp .ne 9, 3) := by decide +kernel
theorem dX12_wins_26 : decode cX12_wins 26 = .ok (.iload_n 1, 1) := by decide +kernel
theorem dX12_wins_27 : decode cX12_wins 27 = .ok (.iload_n 3, 1) := by decide +kernel
theorem dX12_wins_28 : decode cX12_wins 28 = .ok (.isub, 1) := by decide +kernel
theorem dX12_wins_29 : decode cX12_wins 29 = .ok (.goto 12, 3) := by decide +kernel
theorem dX12_wins_32 : decode cX12_wins 32 = .ok (.iload_n 3, 1) := by decide +kernel
theorem dX12_wins_33 : decode cX12_wins 33 = .ok (.invokestatic 347, 3) := by decide +kernel
theorem dX12_wins_36 : decode cX12_wins 36 = .ok (.iload_n 1, 1) := by decide +kernel
theorem dX12_wins_37 : decode cX12_wins 37 = .ok (.invokestatic 347, 3) := by decide +kernel
theorem dX12_wins_40 : decode cX12_wins 40 = .ok (.isub, 1) := by decide +kernel
theorem dX12_wins_41 : decode cX12_wins 41 = .ok (.istore 5, 2) := by decide +kernel
theorem dX12_wins_43 : decode cX12_wins 43 = .ok (.aload_n 0, 1) := by decide +kernel
theorem dX12_wins_44 : decode cX12_wins 44 = .ok (.getfield 98, 3) := by decide +kernel
theorem dX12_wins_47 : decode cX12_wins 47 = .ok (.iconst 4, 1) := by decide +kernel
theorem dX12_wins_48 : decode cX12_wins 48 = .ok (.iaload, 1) := by decide +kernel
theorem dX12_wins_49 : decode cX12_wins 49 = .ok (.ifCond .ne 9, 3) := by decide +kernel
theorem dX12_wins_52 : decode cX12_wins 52 = .ok (.iload_n 1, 1) := by decide +kernel
theorem dX12_wins_53 : decode cX12_wins 53 = .ok (.iload_n 3, 1) := by decide +kernel
theorem dX12_wins_54 : decode cX12_wins 54 = .ok (.isub, 1) := by decide +kernel
theorem dX12_wins_55 : decode cX12_wins 55 = .ok (.goto 7, 3) := by decide +kernel
theorem dX12_wins_58 : decode cX12_wins 58 = .ok (.iload_n 2, 1) := by decide +kernel
theorem dX12_wins_59 : decode cX12_wins 59 = .ok (.iload 4, 2) := by decide +kernel
theorem dX12_wins_61 : decode cX12_wins 61 = .ok (.isub, 1) := by decide +kernel
theorem dX12_wins_62 : decode cX12_wins 62 = .ok (.istore 6, 2) := by decide +kernel
theorem dX12_wins_64 : decode cX12_wins 64 = .ok (.iload 5, 2) := by decide +kernel
theorem dX12_wins_66 : decode cX12_wins 66 = .ok (.ifCond .gt 13, 3) := by decide +kernel
theorem dX12_wins_69 : decode cX12_wins 69 = .ok (.iload 5, 2) := by decide +kernel
theorem dX12_wins_71 : decode cX12_wins 71 = .ok (.ifCond .ne 12, 3) := by decide +kernel
theorem dX12_wins_74 : decode cX12_wins 74 = .ok (.iload 6, 2) := by decide +kernel
theorem dX12_wins_76 : decode cX12_wins 76 = .ok (.ifCond .le 7, 3) := by decide +kernel
theorem dX12_wins_79 : decode cX12_wins 79 = .ok (.iconst 1, 1) := by decide +kernel
theorem dX12_wins_80 : decode cX12_wins 80 = .ok (.goto 4, 3) := by decide +kernel
theorem dX12_wins_83 : decode cX12_wins 83 = .ok (.iconst 0, 1) := by decide +kernel
theorem dX12_wins_84 : decode cX12_wins 84 = .ok (.ireturn, 1) := by decide +kernel
theorem dX12_worthLeast_0 : decode cX12_worthLeast 0 = .ok (.iload_n 0, 1) := by decide +kernel
theorem dX12_worthLeast_1 : decode cX12_worthLeast 1 = .ok (.iconst (-1), 1) := by decide +kernel
theorem dX12_worthLeast_2 : decode cX12_worthLeast 2 = .ok (.if_icmp .ne 9, 3) := by decide +kernel
theorem dX12_worthLeast_5 : decode cX12_worthLeast 5 = .ok (.sipush 1000, 3) := by decide +kernel
theorem dX12_worthLeast_8 : decode cX12_worthLeast 8 = .ok (.goto 4, 3) := by decide +kernel
theorem dX12_worthLeast_11 : decode cX12_worthLeast 11 = .ok (.iload_n 0, 1) := by decide +kernel
theorem dX12_worthLeast_12 : decode cX12_worthLeast 12 = .ok (.ireturn, 1) := by decide +kernel
theorem dX12_isOffer_0 : decode cX12_isOffer 0 = .ok (.aload_n 0, 1) := by decide +kernel
theorem dX12_isOffer_1 : decode cX12_isOffer 1 = .ok (.iload_n 1, 1) := by decide +kernel
theorem dX12_isOffer_2 : decode cX12_isOffer 2 = .ok (.iload_n 3, 1) := by decide +kernel
theorem dX12_isOffer_3 : decode cX12_isOffer 3 = .ok (.invokevirtual 294, 3) := by decide +kernel
theorem dX12_isOffer_6 : decode cX12_isOffer 6 = .ok (.ifCond .eq 66, 3) := by decide +kernel
theorem dX12_isOffer_9 : decode cX12_isOffer 9 = .ok (.aload_n 0, 1) := by decide +kernel
theorem dX12_isOffer_10 : decode cX12_isOffer 10 = .ok (.aload_n 0, 1) := by decide +kernel
theorem dX12_isOffer_11 : decode cX12_isOffer 11 = .ok (.getfield 98, 3) := by decide +kernel
theorem dX12_isOffer_14 : decode cX12_isOffer 14 = .ok (.sipush 213, 3) := by decide +kernel
theorem dX12_isOffer_17 : decode cX12_isOffer 17 = .ok (.iload_n 2, 1) := by decide +kernel
theorem dX12_isOffer_18 : decode cX12_isOffer 18 = .ok (.iload_n 3, 1) := by decide +kernel
theorem dX12_isOffer_19 : decode cX12_isOffer 19 = .ok (.invokestatic 291, 3) := by decide +kernel
theorem dX12_isOffer_22 : decode cX12_isOffer 22 = .ok (.iadd, 1) := by decide +kernel
theorem dX12_isOffer_23 : decode cX12_isOffer 23 = .ok (.iaload, 1) := by decide +kernel
theorem dX12_isOffer_24 : decode cX12_isOffer 24 = .ok (.aload_n 0, 1) := by decide +kernel
theorem dX12_isOffer_25 : decode cX12_isOffer 25 = .ok (.getfield 98, 3) := by decide +kernel
theorem dX12_isOffer_28 : decode cX12_isOffer 28 = .ok (.sipush 309, 3) := by decide +kernel
theorem dX12_isOffer_31 : decode cX12_isOffer 31 = .ok (.iload_n 2, 1) := by decide +kernel
theorem dX12_isOffer_32 : decode cX12_isOffer 32 = .ok (.iload_n 3, 1) := by decide +kernel
theorem dX12_isOffer_33 : decode cX12_isOffer 33 = .ok (.invokestatic 291, 3) := by decide +kernel
theorem dX12_isOffer_36 : decode cX12_isOffer 36 = .ok (.iadd, 1) := by decide +kernel
theorem dX12_isOffer_37 : decode cX12_isOffer 37 = .ok (.iaload, 1) := by decide +kernel
theorem dX12_isOffer_38 : decode cX12_isOffer 38 = .ok (.aload_n 0, 1) := by decide +kernel
theorem dX12_isOffer_39 : decode cX12_isOffer 39 = .ok (.getfield 98, 3) := by decide +kernel
theorem dX12_isOffer_42 : decode cX12_isOffer 42 = .ok (.sipush 213, 3) := by decide +kernel
theorem dX12_isOffer_45 : decode cX12_isOffer 45 = .ok (.iload_n 1, 1) := by decide +kernel
theorem dX12_isOffer_46 : decode cX12_isOffer 46 = .ok (.iload_n 3, 1) := by decide +kernel
theorem dX12_isOffer_47 : decode cX12_isOffer 47 = .ok (.invokestatic 291, 3) := by decide +kernel
theorem dX12_isOffer_50 : decode cX12_isOffer 50 = .ok (.iadd, 1) := by decide +kernel
theorem dX12_isOffer_51 : decode cX12_isOffer 51 = .ok (.iaload, 1) := by decide +kernel
theorem dX12_isOffer_52 : decode cX12_isOffer 52 = .ok (.aload_n 0, 1) := by decide +kernel
theorem dX12_isOffer_53 : decode cX12_isOffer 53 = .ok (.getfield 98, 3) := by decide +kernel
theorem dX12_isOffer_56 : decode cX12_isOffer 56 = .ok (.sipush 309, 3) := by decide +kernel
theorem dX12_isOffer_59 : decode cX12_isOffer 59 = .ok (.iload_n 1, 1) := by decide +kernel
theorem dX12_isOffer_60 : decode cX12_isOffer 60 = .ok (.iload_n 3, 1) := by decide +kernel
theorem dX12_isOffer_61 : decode cX12_isOffer 61 = .ok (.invokestatic 291, 3) := by decide +kernel
theorem dX12_isOffer_64 : decode cX12_isOffer 64 = .ok (.iadd, 1) := by decide +kernel
theorem dX12_isOffer_65 : decode cX12_isOffer 65 = .ok (.iaload, 1) := by decide +kernel
theorem dX12_isOffer_66 : decode cX12_isOffer 66 = .ok (.invokevirtual 350, 3) := by decide +kernel
theorem dX12_isOffer_69 : decode cX12_isOffer 69 = .ok (.ifCond .eq 7, 3) := by decide +kernel
theorem dX12_isOffer_72 : decode cX12_isOffer 72 = .ok (.iconst 1, 1) := by decide +kernel
theorem dX12_isOffer_73 : decode cX12_isOffer 73 = .ok (.goto 4, 3) := by decide +kernel
theorem dX12_isOffer_76 : decode cX12_isOffer 76 = .ok (.iconst 0, 1) := by decide +kernel
theorem dX12_isOffer_77 : decode cX12_isOffer 77 = .ok (.ireturn, 1) := by decide +kernel
theorem dX12_layOffers_0 : decode cX12_layOffers 0 = .ok (.aload_n 0, 1) := by decide +kernel
theorem dX12_layOffers_1 : decode cX12_layOffers 1 = .ok (.iload_n 2, 1) := by decide +kernel
theorem dX12_layOffers_2 : decode cX12_layOffers 2 = .ok (.iload_n 1, 1) := by decide +kernel
theorem dX12_layOffers_3 : decode cX12_layOffers 3 = .ok (.invokevirtual 354, 3) := by decide +kernel
theorem dX12_layOffers_6 : decode cX12_layOffers 6 = .ok (.istore_n 3, 1) := by decide +kernel
theorem dX12_layOffers_7 : decode cX12_layOffers 7 = .ok (.iconst 0, 1) := by decide +kernel
theorem dX12_layOffers_8 : decode cX12_layOffers 8 = .ok (.istore 4, 2) := by decide +kernel
theorem dX12_layOffers_10 : decode cX12_layOffers 10 = .ok (.iconst 0, 1) := by decide +kernel
theorem dX12_layOffers_11 : decode cX12_layOffers 11 = .ok (.istore 5, 2) := by decide +kernel
theorem dX12_layOffers_13 : decode cX12_layOffers 13 = .ok (.iload 5, 2) := by decide +kernel
theorem dX12_layOffers_15 : decode cX12_layOffers 15 = .ok (.aload_n 0, 1) := by decide +kernel
theorem dX12_layOffers_16 : decode cX12_layOffers 16 = .ok (.getfield 148, 3) := by decide +kernel
theorem dX12_layOffers_19 : decode cX12_layOffers 19 = .ok (.iconst 0, 1) := by decide +kernel
theorem dX12_layOffers_20 : decode cX12_layOffers 20 = .ok (.iaload, 1) := by decide +kernel
theorem dX12_layOffers_21 : decode cX12_layOffers 21 = .ok (.if_icmp .ge 30, 3) := by decide +kernel
theorem dX12_layOffers_24 : decode cX12_layOffers 24 = .ok (.iload_n 3, 1) := by decide +kernel
theorem dX12_layOffers_25 : decode cX12_layOffers 25 = .ok (.iload 5, 2) := by decide +kernel
theorem dX12_layOffers_27 : decode cX12_layOffers 27 = .ok (.invokestatic 233, 3) := by decide +kernel
theorem dX12_layOffers_30 : decode cX12_layOffers 30 = .ok (.ifCond .eq 15, 3) := by decide +kernel
theorem dX12_layOffers_33 : decode cX12_layOffers 33 = .ok (.iload 4, 2) := by decide +kernel
theorem dX12_layOffers_35 : decode cX12_layOffers 35 = .ok (.aload_n 0, 1) := by decide +kernel
theorem dX12_layOffers_36 : decode cX12_layOffers 36 = .ok (.getfield 154, 3) := by decide +kernel
theorem dX12_layOffers_39 : decode cX12_layOffers 39 = .ok (.iload 5, 2) := by decide +kernel
theorem dX12_layOffers_41 : decode cX12_layOffers 41 = .ok (.iaload, 1) := by decide +kernel
theorem dX12_layOffers_42 : decode cX12_layOffers 42 = .ok (.ior, 1) := by decide +kernel
theorem dX12_layOffers_43 : decode cX12_layOffers 43 = .ok (.istore 4, 2) := by decide +kernel
theorem dX12_layOffers_45 : decode cX12_layOffers 45 = .ok (.iinc 5 1, 3) := by decide +kernel
theorem dX12_layOffers_48 : decode cX12_layOffers 48 = .ok (.goto (-35), 3) := by decide +kernel
theorem dX12_layOffers_51 : decode cX12_layOffers 51 = .ok (.aload_n 0, 1) := by decide +kernel
theorem dX12_layOffers_52 : decode cX12_layOffers 52 = .ok (.iconst 0, 1) := by decide +kernel
theorem dX12_layOffers_53 : decode cX12_layOffers 53 = .ok (.putfield 357, 3) := by decide +kernel
theorem dX12_layOffers_56 : decode cX12_layOffers 56 = .ok (.iconst 0, 1) := by decide +kernel
theorem dX12_layOffers_57 : decode cX12_layOffers 57 = .ok (.istore 5, 2) := by decide +kernel
theorem dX12_layOffers_59 : decode cX12_layOffers 59 = .ok (.iload 5, 2) := by decide +kernel
theorem dX12_layOffers_61 : decode cX12_layOffers 61 = .ok (.aload_n 0, 1) := by decide +kernel
theorem dX12_layOffers_62 : decode cX12_layOffers 62 = .ok (.getfield 98, 3) := by decide +kernel
theorem dX12_layOffers_65 : decode cX12_layOffers 65 = .ok (.iconst 0, 1) := by decide +kernel
theorem dX12_layOffers_66 : decode cX12_layOffers 66 = .ok (.iaload, 1) := by decide +kernel
theorem dX12_layOffers_67 : decode cX12_layOffers 67 = .ok (.if_icmp .ge 63, 3) := by decide +kernel
theorem dX12_layOffers_70 : decode cX12_layOffers 70 = .ok (.aload_n 0, 1) := by decide +kernel
theorem dX12_layOffers_71 : decode cX12_layOffers 71 = .ok (.getfield 142, 3) := by decide +kernel
theorem dX12_layOffers_74 : decode cX12_layOffers 74 = .ok (.iload 5, 2) := by decide +kernel
theorem dX12_layOffers_76 : decode cX12_layOffers 76 = .ok (.iaload, 1) := by decide +kernel
theorem dX12_layOffers_77 : decode cX12_layOffers 77 = .ok (.istore 6, 2) := by decide +kernel
theorem dX12_layOffers_79 : decode cX12_layOffers 79 = .ok (.iload 4, 2) := by decide +kernel
theorem dX12_layOffers_81 : decode cX12_layOffers 81 = .ok (.iload 6, 2) := by decide +kernel
theorem dX12_layOffers_83 : decode cX12_layOffers 83 = .ok (.invokestatic 233, 3) := by decide +kernel
theorem dX12_layOffers_86 : decode cX12_layOffers 86 = .ok (.ifCond .eq 38, 3) := by decide +kernel
theorem dX12_layOffers_89 : decode cX12_layOffers 89 = .ok (.aload_n 0, 1) := by decide +kernel
theorem dX12_layOffers_90 : decode cX12_layOffers 90 = .ok (.iload_n 1, 1) := by decide +kernel
theorem dX12_layOffers_91 : decode cX12_layOffers 91 = .ok (.iload_n 2, 1) := by decide +kernel
theorem dX12_layOffers_92 : decode cX12_layOffers 92 = .ok (.iload 6, 2) := by decide +kernel
theorem dX12_layOffers_94 : decode cX12_layOffers 94 = .ok (.invokevirtual 360, 3) := by decide +kernel
theorem dX12_layOffers_97 : decode cX12_layOffers 97 = .ok (.ifCond .ne 6, 3) := by decide +kernel
theorem dX12_layOffers_100 : decode cX12_layOffers 100 = .ok (.goto 24, 3) := by decide +kernel
theorem dX12_layOffers_103 : decode cX12_layOffers 103 = .ok (.aload_n 0, 1) := by decide +kernel
theorem dX12_layOffers_104 : decode cX12_layOffers 104 = .ok (.getfield 175, 3) := by decide +kernel
theorem dX12_layOffers_107 : decode cX12_layOffers 107 = .ok (.aload_n 0, 1) := by decide +kernel
theorem dX12_layOffers_108 : decode cX12_layOffers 108 = .ok (.getfield 357, 3) := by decide +kernel
theorem dX12_layOffers_111 : decode cX12_layOffers 111 = .ok (.iload 6, 2) := by decide +kernel
theorem dX12_layOffers_113 : decode cX12_layOffers 113 = .ok (.iastore, 1) := by decide +kernel
theorem dX12_layOffers_114 : decode cX12_layOffers 114 = .ok (.aload_n 0, 1) := by decide +kernel
theorem dX12_layOffers_115 : decode cX12_layOffers 115 = .ok (.dup, 1) := by decide +kernel
theorem dX12_layOffers_116 : decode cX12_layOffers 116 = .ok (.getfield 357, 3) := by decide +kernel
theorem dX12_layOffers_119 : decode cX12_layOffers 119 = .ok (.iconst 1, 1) := by decide +kernel
theorem dX12_layOffers_120 : decode cX12_layOffers 120 = .ok (.iadd, 1) := by decide +kernel
theorem dX12_layOffers_121 : decode cX12_layOffers 121 = .ok (.putfield 357, 3) := by decide +kernel
theorem dX12_layOffers_124 : decode cX12_layOffers 124 = .ok (.iinc 5 1, 3) := by decide +kernel
theorem dX12_layOffers_127 : decode cX12_layOffers 127 = .ok (.goto (-68), 3) := by decide +kernel
theorem dX12_layOffers_130 : decode cX12_layOffers 130 = .ok (.return_, 1) := by decide +kernel
theorem dX12_offers_0 : decode cX12_offers 0 = .ok (.aload_n 0, 1) := by decide +kernel
theorem dX12_offers_1 : decode cX12_offers 1 = .ok (.iconst 0, 1) := by decide +kernel
theorem dX12_offers_2 : decode cX12_offers 2 = .ok (.putfield 1, 3) := by decide +kernel
theorem dX12_offers_5 : decode cX12_offers 5 = .ok (.aload_n 0, 1) := by decide +kernel
theorem dX12_offers_6 : decode cX12_offers 6 = .ok (.iload_n 1, 1) := by decide +kernel
theorem dX12_offers_7 : decode cX12_offers 7 = .ok (.iload_n 2, 1) := by decide +kernel
theorem dX12_offers_8 : decode cX12_offers 8 = .ok (.invokevirtual 363, 3) := by decide +kernel
theorem dX12_offers_11 : decode cX12_offers 11 = .ok (.ifCond .ne 5, 3) := by decide +kernel
theorem dX12_offers_14 : decode cX12_offers 14 = .ok (.iconst (-1), 1) := by decide +kernel
theorem dX12_offers_15 : decode cX12_offers 15 = .ok (.ireturn, 1) := by decide +kernel
theorem dX12_offers_16 : decode cX12_offers 16 = .ok (.aload_n 0, 1) := by decide +kernel
theorem dX12_offers_17 : decode cX12_offers 17 = .ok (.iload_n 1, 1) := by decide +kernel
theorem dX12_offers_18 : decode cX12_offers 18 = .ok (.iload_n 2, 1) := by decide +kernel
theorem dX12_offers_19 : decode cX12_offers 19 = .ok (.invokevirtual 366, 3) := by decide +kernel
theorem dX12_offers_22 : decode cX12_offers 22 = .ok (.aload_n 0, 1) := by decide +kernel
theorem dX12_offers_23 : decode cX12_offers 23 = .ok (.aload_n 0, 1) := by decide +kernel
theorem dX12_offers_24 : decode cX12_offers 24 = .ok (.getfield 357, 3) := by decide +kernel
theorem dX12_offers_27 : decode cX12_offers 27 = .ok (.putfield 370, 3) := by decide +kernel
theorem dX12_offers_30 : decode cX12_offers 30 = .ok (.iconst 0, 1) := by decide +kernel
theorem dX12_offers_31 : decode cX12_offers 31 = .ok (.istore_n 3, 1) := by decide +kernel
theorem dX12_offers_32 : decode cX12_offers 32 = .ok (.iload_n 3, 1) := by decide +kernel
theorem dX12_offers_33 : decode cX12_offers 33 = .ok (.aload_n 0, 1) := by decide +kernel
theorem dX12_offers_34 : decode cX12_offers 34 = .ok (.getfield 370, 3) := by decide +kernel
theorem dX12_offers_37 : decode cX12_offers 37 = .ok (.if_icmp .ge 21, 3) := by decide +kernel
theorem dX12_offers_40 : decode cX12_offers 40 = .ok (.aload_n 0, 1) := by decide +kernel
theorem dX12_offers_41 : decode cX12_offers 41 = .ok (.getfield 178, 3) := by decide +kernel
theorem dX12_offers_44 : decode cX12_offers 44 = .ok (.iload_n 3, 1) := by decide +kernel
theorem dX12_offers_45 : decode cX12_offers 45 = .ok (.aload_n 0, 1) := by decide +kernel
theorem dX12_offers_46 : decode cX12_offers 46 = .ok (.getfield 175, 3) := by decide +kernel
theorem dX12_offers_49 : decode cX12_offers 49 = .ok (.iload_n 3, 1) := by decide +kernel
theorem dX12_offers_50 : decode cX12_offers 50 = .ok (.iaload, 1) := by decide +kernel
theorem dX12_offers_51 : decode cX12_offers 51 = .ok (.iastore, 1) := by decide +kernel
theorem dX12_offers_52 : decode cX12_offers 52 = .ok (.iinc 3 1, 3) := by decide +kernel
theorem dX12_offers_55 : decode cX12_offers 55 = .ok (.goto (-23), 3) := by decide +kernel
theorem dX12_offers_58 : decode cX12_offers 58 = .ok (.aload_n 0, 1) := by decide +kernel
theorem dX12_offers_59 : decode cX12_offers 59 = .ok (.getfield 370, 3) := by decide +kernel
theorem dX12_offers_62 : decode cX12_offers 62 = .ok (.ireturn, 1) := by decide +kernel
theorem dX12_offerAt_0 : decode cX12_offerAt 0 = .ok (.aload_n 0, 1) := by decide +kernel
theorem dX12_offerAt_1 : decode cX12_offerAt 1 = .ok (.iconst 0, 1) := by decide +kernel
theorem dX12_offerAt_2 : decode cX12_offerAt 2 = .ok (.putfield 1, 3) := by decide +kernel
theorem dX12_offerAt_5 : decode cX12_offerAt 5 = .ok (.iload_n 1, 1) := by decide +kernel
theorem dX12_offerAt_6 : decode cX12_offerAt 6 = .ok (.iconst 0, 1) := by decide +kernel
theorem dX12_offerAt_7 : decode cX12_offerAt 7 = .ok (.aload_n 0, 1) := by decide +kernel
theorem dX12_offerAt_8 : decode cX12_offerAt 8 = .ok (.getfield 370, 3) := by decide +kernel
theorem dX12_offerAt_11 : decode cX12_offerAt 11 = .ok (.iconst 1, 1) := by decide +kernel
theorem dX12_offerAt_12 : decode cX12_offerAt 12 = .ok (.isub, 1) := by decide +kernel
theorem dX12_offerAt_13 : decode cX12_offerAt 13 = .ok (.invokestatic 75, 3) := by decide +kernel
theorem dX12_offerAt_16 : decode cX12_offerAt 16 = .ok (.ifCond .eq 12, 3) := by decide +kernel
theorem dX12_offerAt_19 : decode cX12_offerAt 19 = .ok (.aload_n 0, 1) := by decide +kernel
theorem dX12_offerAt_20 : decode cX12_offerAt 20 = .ok (.getfield 178, 3) := by decide +kernel
theorem dX12_offerAt_23 : decode cX12_offerAt 23 = .ok (.iload_n 1, 1) := by decide +kernel
theorem dX12_offerAt_24 : decode cX12_offerAt 24 = .ok (.iaload, 1) := by decide +kernel
theorem dX12_offerAt_25 : decode cX12_offerAt 25 = .ok (.goto 4, 3) := by decide +kernel
theorem dX12_offerAt_28 : decode cX12_offerAt 28 = .ok (.iconst (-1), 1) := by decide +kernel
theorem dX12_offerAt_29 : decode cX12_offerAt 29 = .ok (.ireturn, 1) := by decide +kernel
theorem dX12_visits_0 : decode cX12_visits 0 = .ok (.aload_n 0, 1) := by decide +kernel
theorem dX12_visits_1 : decode cX12_visits 1 = .ok (.iconst 0, 1) := by decide +kernel
theorem dX12_visits_2 : decode cX12_visits 2 = .ok (.putfield 1, 3) := by decide +kernel
theorem dX12_visits_5 : decode cX12_visits 5 = .ok (.aload_n 0, 1) := by decide +kernel
theorem dX12_visits_6 : decode cX12_visits 6 = .ok (.iload_n 1, 1) := by decide +kernel
theorem dX12_visits_7 : decode cX12_visits 7 = .ok (.iload_n 2, 1) := by decide +kernel
theorem dX12_visits_8 : decode cX12_visits 8 = .ok (.invokevirtual 363, 3) := by decide +kernel
theorem dX12_visits_11 : decode cX12_visits 11 = .ok (.ifCond .eq 15, 3) := by decide +kernel
theorem dX12_visits_14 : decode cX12_visits 14 = .ok (.aload_n 0, 1) := by decide +kernel
theorem dX12_visits_15 : decode cX12_visits 15 = .ok (.iload_n 1, 1) := by decide +kernel
theorem dX12_visits_16 : decode cX12_visits 16 = .ok (.iload_n 2, 1) := by decide +kernel
theorem dX12_visits_17 : decode cX12_visits 17 = .ok (.invokevirtual 354, 3) := by decide +kernel
theorem dX12_visits_20 : decode cX12_visits 20 = .ok (.invokestatic 338, 3) := by decide +kernel
theorem dX12_visits_23 : decode cX12_visits 23 = .ok (.goto 4, 3) := by decide +kernel
theorem dX12_visits_26 : decode cX12_visits 26 = .ok (.iconst (-1), 1) := by decide +kernel
theorem dX12_visits_27 : decode cX12_visits 27 = .ok (.ireturn, 1) := by decide +kernel
theorem dX12_differs_0 : decode cX12_differs 0 = .ok (.aload_n 0, 1) := by decide +kernel
theorem dX12_differs_1 : decode cX12_differs 1 = .ok (.iconst 0, 1) := by decide +kernel
theorem dX12_differs_2 : decode cX12_differs 2 = .ok (.putfield 1, 3) := by decide +kernel
theorem dX12_differs_5 : decode cX12_differs 5 = .ok (.aload_n 0, 1) := by decide +kernel
theorem dX12_differs_6 : decode cX12_differs 6 = .ok (.iload_n 1, 1) := by decide +kernel
theorem dX12_differs_7 : decode cX12_differs 7 = .ok (.iload_n 2, 1) := by decide +kernel
theorem dX12_differs_8 : decode cX12_differs 8 = .ok (.invokevirtual 363, 3) := by decide +kernel
theorem dX12_differs_11 : decode cX12_differs 11 = .ok (.ifCond .ne 5, 3) := by decide +kernel
theorem dX12_differs_14 : decode cX12_differs 14 = .ok (.iconst (-1), 1) := by decide +kernel
theorem dX12_differs_15 : decode cX12_differs 15 = .ok (.ireturn, 1) := by decide +kernel
theorem dX12_differs_16 : decode cX12_differs 16 = .ok (.iconst 0, 1) := by decide +kernel
theorem dX12_differs_17 : decode cX12_differs 17 = .ok (.istore_n 3, 1) := by decide +kernel
theorem dX12_differs_18 : decode cX12_differs 18 = .ok (.iconst 0, 1) := by decide +kernel
theorem dX12_differs_19 : decode cX12_differs 19 = .ok (.istore 4, 2) := by decide +kernel
theorem dX12_differs_21 : decode cX12_differs 21 = .ok (.iload 4, 2) := by decide +kernel
theorem dX12_differs_23 : decode cX12_differs 23 = .ok (.aload_n 0, 1) := by decide +kernel
theorem dX12_differs_24 : decode cX12_differs 24 = .ok (.getfield 98, 3) := by decide +kernel
theorem dX12_differs_27 : decode cX12_differs 27 = .ok (.iconst 0, 1) := by decide +kernel
theorem dX12_differs_28 : decode cX12_differs 28 = .ok (.iaload, 1) := by decide +kernel
theorem dX12_differs_29 : decode cX12_differs 29 = .ok (.if_icmp .ge 27, 3) := by decide +kernel
theorem dX12_differs_32 : decode cX12_differs 32 = .ok (.aload_n 0, 1) := by decide +kernel
theorem dX12_differs_33 : decode cX12_differs 33 = .ok (.iload_n 1, 1) := by decide +kernel
theorem dX12_differs_34 : decode cX12_differs 34 = .ok (.iload_n 2, 1) := by decide +kernel
theorem dX12_differs_35 : decode cX12_differs 35 = .ok (.iload 4, 2) := by decide +kernel
theorem dX12_differs_37 : decode cX12_differs 37 = .ok (.invokevirtual 323, 3) := by decide +kernel
theorem dX12_differs_40 : decode cX12_differs 40 = .ok (.ifCond .ne 10, 3) := by decide +kernel
theorem dX12_differs_43 : decode cX12_differs 43 = .ok (.iload_n 3, 1) := by decide +kernel
theorem dX12_differs_44 : decode cX12_differs 44 = .ok (.iconst 1, 1) := by decide +kernel
theorem dX12_differs_45 : decode cX12_differs 45 = .ok (.iload 4, 2) := by decide +kernel
theorem dX12_differs_47 : decode cX12_differs 47 = .ok (.ishl, 1) := by decide +kernel
theorem dX12_differs_48 : decode cX12_differs 48 = .ok (.ior, 1) := by decide +kernel
theorem dX12_differs_49 : decode cX12_differs 49 = .ok (.istore_n 3, 1) := by decide +kernel
theorem dX12_differs_50 : decode cX12_differs 50 = .ok (.iinc 4 1, 3) := by decide +kernel
theorem dX12_differs_53 : decode cX12_differs 53 = .ok (.goto (-32), 3) := by decide +kernel
theorem dX12_differs_56 : decode cX12_differs 56 = .ok (.iload_n 3, 1) := by decide +kernel
theorem dX12_differs_57 : decode cX12_differs 57 = .ok (.ireturn, 1) := by decide +kernel
theorem dX12_save_0 : decode cX12_save 0 = .ok (.iconst 0, 1) := by decide +kernel
theorem dX12_save_1 : decode cX12_save 1 = .ok (.istore_n 3, 1) := by decide +kernel
theorem dX12_save_2 : decode cX12_save 2 = .ok (.iload_n 3, 1) := by decide +kernel
theorem dX12_save_3 : decode cX12_save 3 = .ok (.sipush 203, 3) := by decide +kernel
theorem dX12_save_6 : decode cX12_save 6 = .ok (.if_icmp .ge 24, 3) := by decide +kernel
theorem dX12_save_9 : decode cX12_save 9 = .ok (.aload_n 1, 1) := by decide +kernel
theorem dX12_save_10 : decode cX12_save 10 = .ok (.iload_n 2, 1) := by decide +kernel
theorem dX12_save_11 : decode cX12_save 11 = .ok (.iload_n 3, 1) := by decide +kernel
theorem dX12_save_12 : decode cX12_save 12 = .ok (.iadd, 1) := by decide +kernel
theorem dX12_save_13 : decode cX12_save 13 = .ok (.aload_n 0, 1) := by decide +kernel
theorem dX12_save_14 : decode cX12_save 14 = .ok (.getfield 98, 3) := by decide +kernel
theorem dX12_save_17 : decode cX12_save 17 = .ok (.sipush 202, 3) := by decide +kernel
theorem dX12_save_20 : decode cX12_save 20 = .ok (.iload_n 3, 1) := by decide +kernel
theorem dX12_save_21 : decode cX12_save 21 = .ok (.iadd, 1) := by decide +kernel
theorem dX12_save_22 : decode cX12_save 22 = .ok (.iaload, 1) := by decide +kernel
theorem dX12_save_23 : decode cX12_save 23 = .ok (.iastore, 1) := by decide +kernel
theorem dX12_save_24 : decode cX12_save 24 = .ok (.iinc 3 1, 3) := by decide +kernel
theorem dX12_save_27 : decode cX12_save 27 = .ok (.goto (-25), 3) := by decide +kernel
theorem dX12_save_30 : decode cX12_save 30 = .ok (.return_, 1) := by decide +kernel
theorem dX12_comeBack_0 : decode cX12_comeBack 0 = .ok (.iconst 0, 1) := by decide +kernel
theorem dX12_comeBack_1 : decode cX12_comeBack 1 = .ok (.istore_n 3, 1) := by decide +kernel
theorem dX12_comeBack_2 : decode cX12_comeBack 2 = .ok (.iload_n 3, 1) := by decide +kernel
theorem dX12_comeBack_3 : decode cX12_comeBack 3 = .ok (.sipush 203, 3) := by decide +kernel
theorem dX12_comeBack_6 : decode cX12_comeBack 6 = .ok (.if_icmp .ge 24, 3) := by decide +kernel
theorem dX12_comeBack_9 : decode cX12_comeBack 9 = .ok (.aload_n 0, 1) := by decide +kernel
theorem dX12_comeBack_10 : decode cX12_comeBack 10 = .ok (.getfield 98, 3) := by decide +kernel
theorem dX12_comeBack_13 : decode cX12_comeBack 13 = .ok (.sipush 202, 3) := by decide +kernel
theorem dX12_comeBack_16 : decode cX12_comeBack 16 = .ok (.iload_n 3, 1) := by decide +kernel
theorem dX12_comeBack_17 : decode cX12_comeBack 17 = .ok (.iadd, 1) := by decide +kernel
theorem dX12_comeBack_18 : decode cX12_comeBack 18 = .ok (.aload_n 1, 1) := by decide +kernel
theorem dX12_comeBack_19 : decode cX12_comeBack 19 = .ok (.iload_n 2, 1) := by decide +kernel
theorem dX12_comeBack_20 : decode cX12_comeBack 20 = .ok (.iload_n 3, 1) := by decide +kernel
theorem dX12_comeBack_21 : decode cX12_comeBack 21 = .ok (.iadd, 1) := by decide +kernel
theorem dX12_comeBack_22 : decode cX12_comeBack 22 = .ok (.iaload, 1) := by decide +kernel
theorem dX12_comeBack_23 : decode cX12_comeBack 23 = .ok (.iastore, 1) := by decide +kernel
theorem dX12_comeBack_24 : decode cX12_comeBack 24 = .ok (.iinc 3 1, 3) := by decide +kernel
theorem dX12_comeBack_27 : decode cX12_comeBack 27 = .ok (.goto (-25), 3) := by decide +kernel
theorem dX12_comeBack_30 : decode cX12_comeBack 30 = .ok (.return_, 1) := by decide +kernel
theorem dX12_snap_0 : decode cX12_snap 0 = .ok (.aload_n 0, 1) := by decide +kernel
theorem dX12_snap_1 : decode cX12_snap 1 = .ok (.getfield 263, 3) := by decide +kernel
theorem dX12_snap_4 : decode cX12_snap 4 = .ok (.bipush 8, 2) := by decide +kernel
theorem dX12_snap_6 : decode cX12_snap 6 = .ok (.if_icmp .ne 44, 3) := by decide +kernel
theorem dX12_snap_9 : decode cX12_snap 9 = .ok (.iconst 0, 1) := by decide +kernel
theorem dX12_snap_10 : decode cX12_snap 10 = .ok (.istore_n 1, 1) := by decide +kernel
theorem dX12_snap_11 : decode cX12_snap 11 = .ok (.iload_n 1, 1) := by decide +kernel
theorem dX12_snap_12 : decode cX12_snap 12 = .ok (.sipush 1421, 3) := by decide +kernel
theorem dX12_snap_15 : decode cX12_snap 15 = .ok (.if_icmp .ge 25, 3) := by decide +kernel
theorem dX12_snap_18 : decode cX12_snap 18 = .ok (.aload_n 0, 1) := by decide +kernel
theorem dX12_snap_19 : decode cX12_snap 19 = .ok (.getfield 107, 3) := by decide +kernel
theorem dX12_snap_22 : decode cX12_snap 22 = .ok (.iload_n 1, 1) := by decide +kernel
theorem dX12_snap_23 : decode cX12_snap 23 = .ok (.aload_n 0, 1) := by decide +kernel
theorem dX12_snap_24 : decode cX12_snap 24 = .ok (.getfield 107, 3) := by decide +kernel
theorem dX12_snap_27 : decode cX12_snap 27 = .ok (.iload_n 1, 1) := by decide +kernel
theorem dX12_snap_28 : decode cX12_snap 28 = .ok (.sipush 203, 3) := by decide +kernel
theorem dX12_snap_31 : decode cX12_snap 31 = .ok (.iadd, 1) := by decide +kernel
theorem dX12_snap_32 : decode cX12_snap 32 = .ok (.iaload, 1) := by decide +kernel
theorem dX12_snap_33 : decode cX12_snap 33 = .ok (.iastore, 1) := by decide +kernel
theorem dX12_snap_34 : decode cX12_snap 34 = .ok (.iinc 1 1, 3) := by decide +kernel
theorem dX12_snap_37 : decode cX12_snap 37 = .ok (.goto (-26), 3) := by decide +kernel
theorem dX12_snap_40 : decode cX12_snap 40 = .ok (.aload_n 0, 1) := by decide +kernel
theorem dX12_snap_41 : decode cX12_snap 41 = .ok (.dup, 1) := by decide +kernel
theorem dX12_snap_42 : decode cX12_snap 42 = .ok (.getfield 263, 3) := by decide +kernel
theorem dX12_snap_45 : decode cX12_snap 45 = .ok (.iconst 1, 1) := by decide +kernel
theorem dX12_snap_46 : decode cX12_snap 46 = .ok (.isub, 1) := by decide +kernel
theorem dX12_snap_47 : decode cX12_snap 47 = .ok (.putfield 263, 3) := by decide +kernel
theorem dX12_snap_50 : decode cX12_snap 50 = .ok (.aload_n 0, 1) := by decide +kernel
theorem dX12_snap_51 : decode cX12_snap 51 = .ok (.aload_n 0, 1) := by decide +kernel
theorem dX12_snap_52 : decode cX12_snap 52 = .ok (.getfield 107, 3) := by decide +kernel
theorem dX12_snap_55 : decode cX12_snap 55 = .ok (.sipush 203, 3) := by decide +kernel
theorem dX12_snap_58 : decode cX12_snap 58 = .ok (.aload_n 0, 1) := by decide +kernel
theorem dX12_snap_59 : decode cX12_snap 59 = .ok (.getfield 263, 3) := by decide +kernel
theorem dX12_snap_62 : decode cX12_snap 62 = .ok (.imul, 1) := by decide +kernel
theorem dX12_snap_63 : decode cX12_snap 63 = .ok (.invokevirtual 373, 3) := by decide +kernel
theorem dX12_snap_66 : decode cX12_snap 66 = .ok (.aload_n 0, 1) := by decide +kernel
theorem dX12_snap_67 : decode cX12_snap 67 = .ok (.dup, 1) := by decide +kernel
theorem dX12_snap_68 : decode cX12_snap 68 = .ok (.getfield 263, 3) := by decide +kernel
theorem dX12_snap_71 : decode cX12_snap 71 = .ok (.iconst 1, 1) := by decide +kernel
theorem dX12_snap_72 : decode cX12_snap 72 = .ok (.iadd, 1) := by decide +kernel
theorem dX12_snap_73 : decode cX12_snap 73 = .ok (.putfield 263, 3) := by decide +kernel
theorem dX12_snap_76 : decode cX12_snap 76 = .ok (.return_, 1) := by decide +kernel
theorem dX12_areCut_0 : decode cX12_areCut 0 = .ok (.aload_n 0, 1) := by decide +kernel
theorem dX12_areCut_1 : decode cX12_areCut 1 = .ok (.getfield 98, 3) := by decide +kernel
theorem dX12_areCut_4 : decode cX12_areCut 4 = .ok (.sipush 205, 3) := by decide +kernel
theorem dX12_areCut_7 : decode cX12_areCut 7 = .ok (.iload_n 1, 1) := by decide +kernel
theorem dX12_areCut_8 : decode cX12_areCut 8 = .ok (.iadd, 1) := by decide +kernel
theorem dX12_areCut_9 : decode cX12_areCut 9 = .ok (.iaload, 1) := by decide +kernel
theorem dX12_areCut_10 : decode cX12_areCut 10 = .ok (.iload_n 2, 1) := by decide +kernel
theorem dX12_areCut_11 : decode cX12_areCut 11 = .ok (.invokestatic 233, 3) := by decide +kernel
theorem dX12_areCut_14 : decode cX12_areCut 14 = .ok (.ireturn, 1) := by decide +kernel
theorem dX12_whyPull_0 : decode cX12_whyPull 0 = .ok (.aload_n 0, 1) := by decide +kernel
theorem dX12_whyPull_1 : decode cX12_whyPull 1 = .ok (.iload_n 1, 1) := by decide +kernel
theorem dX12_whyPull_2 : decode cX12_whyPull 2 = .ok (.iload_n 2, 1) := by decide +kernel
theorem dX12_whyPull_3 : decode cX12_whyPull 3 = .ok (.invokevirtual 377, 3) := by decide +kernel
theorem dX12_whyPull_6 : decode cX12_whyPull 6 = .ok (.ifCond .eq 5, 3) := by decide +kernel
theorem dX12_whyPull_9 : decode cX12_whyPull 9 = .ok (.iconst 1, 1) := by decide +kernel
theorem dX12_whyPull_10 : decode cX12_whyPull 10 = .ok (.ireturn, 1) := by decide +kernel
theorem dX12_whyPull_11 : decode cX12_whyPull 11 = .ok (.aload_n 0, 1) := by decide +kernel
theorem dX12_whyPull_12 : decode cX12_whyPull 12 = .ok (.iload_n 1, 1) := by decide +kernel
theorem dX12_whyPull_13 : decode cX12_whyPull 13 = .ok (.invokevirtual 317, 3) := by decide +kernel
theorem dX12_whyPull_16 : decode cX12_whyPull 16 = .ok (.aload_n 0, 1) := by decide +kernel
theorem dX12_whyPull_17 : decode cX12_whyPull 17 = .ok (.iload_n 2, 1) := by decide +kernel
theorem dX12_whyPull_18 : decode cX12_whyPull 18 = .ok (.invokevirtual 317, 3) := by decide +kernel
theorem dX12_whyPull_21 : decode cX12_whyPull 21 = .ok (.if_icmp .ne 5, 3) := by decide +kernel
theorem dX12_whyPull_24 : decode cX12_whyPull 24 = .ok (.iconst 2, 1) := by decide +kernel
theorem dX12_whyPull_25 : decode cX12_whyPull 25 = .ok (.ireturn, 1) := by decide +kernel
theorem dX12_whyPull_26 : decode cX12_whyPull 26 = .ok (.aload_n 0, 1) := by decide +kernel
theorem dX12_whyPull_27 : decode cX12_whyPull 27 = .ok (.iload_n 1, 1) := by decide +kernel
theorem dX12_whyPull_28 : decode cX12_whyPull 28 = .ok (.iload_n 2, 1) := by decide +kernel
theorem dX12_whyPull_29 : decode cX12_whyPull 29 = .ok (.invokevirtual 366, 3) := by decide +kernel
theorem dX12_whyPull_32 : decode cX12_whyPull 32 = .ok (.aload_n 0, 1) := by decide +kernel
theorem dX12_whyPull_33 : decode cX12_whyPull 33 = .ok (.getfield 357, 3) := by decide +kernel
theorem dX12_whyPull_36 : decode cX12_whyPull 36 = .ok (.ifCond .ne 7, 3) := by decide +kernel
theorem dX12_whyPull_39 : decode cX12_whyPull 39 = .ok (.iconst 3, 1) := by decide +kernel
theorem dX12_whyPull_40 : decode cX12_whyPull 40 = .ok (.goto 4, 3) := by decide +kernel
theorem dX12_whyPull_43 : decode cX12_whyPull 43 = .ok (.iconst 0, 1) := by decide +kernel
theorem dX12_whyPull_44 : decode cX12_whyPull 44 = .ok (.ireturn, 1) := by decide +kernel
theorem dX12_why_0 : decode cX12_why 0 = .ok (.iload_n 1, 1) := by decide +kernel
theorem dX12_why_1 : decode cX12_why 1 = .ok (.tableswitch 120 0 3 #[31, 65, 98, 105], 31) := by decide +kernel
theorem dX12_why_32 : decode cX12_why 32 = .ok (.aload_n 0, 1) := by decide +kernel
theorem dX12_why_33 : decode cX12_why 33 = .ok (.iload_n 2, 1) := by decide +kernel
theorem dX12_why_34 : decode cX12_why 34 = .ok (.iload_n 3, 1) := by decide +kernel
theorem dX12_why_35 : decode cX12_why 35 = .ok (.invokevirtual 294, 3) := by decide +kernel
theorem dX12_why_38 : decode cX12_why 38 = .ok (.ifCond .eq 26, 3) := by decide +kernel
theorem dX12_why_41 : decode cX12_why 41 = .ok (.aload_n 0, 1) := by decide +kernel
theorem dX12_why_42 : decode cX12_why 42 = .ok (.getfield 98, 3) := by decide +kernel
theorem dX12_why_45 : decode cX12_why 45 = .ok (.sipush 213, 3) := by decide +kernel
theorem dX12_why_48 : decode cX12_why 48 = .ok (.iload_n 2, 1) := by decide +kernel
theorem dX12_why_49 : decode cX12_why 49 = .ok (.iload_n 3, 1) := by decide +kernel
theorem dX12_why_50 : decode cX12_why 50 = .ok (.invokestatic 291, 3) := by decide +kernel
theorem dX12_why_53 : decode cX12_why 53 = .ok (.iadd, 1) := by decide +kernel
theorem dX12_why_54 : decode cX12_why 54 = .ok (.iaload, 1) := by decide +kernel
theorem dX12_why_55 : decode cX12_why 55 = .ok (.iload 4, 2) := by decide +kernel
theorem dX12_why_57 : decode cX12_why 57 = .ok (.if_icmp .ne 7, 3) := by decide +kernel
theorem dX12_why_60 : decode cX12_why 60 = .ok (.iconst 1, 1) := by decide +kernel
theorem dX12_why_61 : decode cX12_why 61 = .ok (.goto 4, 3) := by decide +kernel
theorem dX12_why_64 : decode cX12_why 64 = .ok (.iconst 0, 1) := by decide +kernel
theorem dX12_why_65 : decode cX12_why 65 = .ok (.ireturn, 1) := by decide +kernel
theorem dX12_why_66 : decode cX12_why 66 = .ok (.aload_n 0, 1) := by decide +kernel
theorem dX12_why_67 : decode cX12_why 67 = .ok (.iload_n 2, 1) := by decide +kernel
theorem dX12_why_68 : decode cX12_why 68 = .ok (.iload_n 3, 1) := by decide +kernel
theorem dX12_why_69 : decode cX12_why 69 = .ok (.invokevirtual 294, 3) := by decide +kernel
theorem dX12_why_72 : decode cX12_why 72 = .ok (.ifCond .eq 21, 3) := by decide +kernel
theorem dX12_why_75 : decode cX12_why 75 = .ok (.aload_n 0, 1) := by decide +kernel
theorem dX12_why_76 : decode cX12_why 76 = .ok (.getfield 98, 3) := by decide +kernel
theorem dX12_why_79 : decode cX12_why 79 = .ok (.sipush 213, 3) := by decide +kernel
theorem dX12_why_82 : decode cX12_why 82 = .ok (.iload_n 2, 1) := by decide +kernel
theorem dX12_why_83 : decode cX12_why 83 = .ok (.iload_n 3, 1) := by decide +kernel
theorem dX12_why_84 : decode cX12_why 84 = .ok (.invokestatic 291, 3) := by decide +kernel
theorem dX12_why_87 : decode cX12_why 87 = .ok (.iadd, 1) := by decide +kernel
theorem dX12_why_88 : decode cX12_why 88 = .ok (.iaload, 1) := by decide +kernel
theorem dX12_why_89 : decode cX12_why 89 = .ok (.iconst (-1), 1) := by decide +kernel
theorem dX12_why_90 : decode cX12_why 90 = .ok (.if_icmp .ne 7, 3) := by decide +kernel
theorem dX12_why_93 : decode cX12_why 93 = .ok (.iconst 1, 1) := by decide +kernel
theorem dX12_why_94 : decode cX12_why 94 = .ok (.goto 4, 3) := by decide +kernel
theorem dX12_why_97 : decode cX12_why 97 = .ok (.iconst 0, 1) := by decide +kernel
theorem dX12_why_98 : decode cX12_why 98 = .ok (.ireturn, 1) := by decide +kernel
theorem dX12_why_99 : decode cX12_why 99 = .ok (.aload_n 0, 1) := by decide +kernel
theorem dX12_why_100 : decode cX12_why 100 = .ok (.iload_n 2, 1) := by decide +kernel
theorem dX12_why_101 : decode cX12_why 101 = .ok (.iload_n 3, 1) := by decide +kernel
theorem dX12_why_102 : decode cX12_why 102 = .ok (.invokevirtual 380, 3) := by decide +kernel
theorem dX12_why_105 : decode cX12_why 105 = .ok (.ireturn, 1) := by decide +kernel
theorem dX12_why_106 : decode cX12_why 106 = .ok (.aload_n 0, 1) := by decide +kernel
theorem dX12_why_107 : decode cX12_why 107 = .ok (.iload_n 2, 1) := by decide +kernel
theorem dX12_why_108 : decode cX12_why 108 = .ok (.iload_n 3, 1) := by decide +kernel
theorem dX12_why_109 : decode cX12_why 109 = .ok (.invokevirtual 377, 3) := by decide +kernel
theorem dX12_why_112 : decode cX12_why 112 = .ok (.ifCond .eq 7, 3) := by decide +kernel
theorem dX12_why_115 : decode cX12_why 115 = .ok (.iconst 1, 1) := by decide +kernel
theorem dX12_why_116 : decode cX12_why 116 = .ok (.goto 4, 3) := by decide +kernel
theorem dX12_why_119 : decode cX12_why 119 = .ok (.iconst 0, 1) := by decide +kernel
theorem dX12_why_120 : decode cX12_why 120 = .ok (.ireturn, 1) := by decide +kernel
theorem dX12_why_121 : decode cX12_why 121 = .ok (.aload_n 0, 1) := by decide +kernel
theorem dX12_why_122 : decode cX12_why 122 = .ok (.iload_n 2, 1) := by decide +kernel
theorem dX12_why_123 : decode cX12_why 123 = .ok (.iload_n 3, 1) := by decide +kernel
theorem dX12_why_124 : decode cX12_why 124 = .ok (.invokevirtual 377, 3) := by decide +kernel
theorem dX12_why_127 : decode cX12_why 127 = .ok (.ifCond .eq 7, 3) := by decide +kernel
theorem dX12_why_130 : decode cX12_why 130 = .ok (.iconst 0, 1) := by decide +kernel
theorem dX12_why_131 : decode cX12_why 131 = .ok (.goto 4, 3) := by decide +kernel
theorem dX12_why_134 : decode cX12_why 134 = .ok (.iconst 1, 1) := by decide +kernel
theorem dX12_why_135 : decode cX12_why 135 = .ok (.ireturn, 1) := by decide +kernel
theorem dX12_write_0 : decode cX12_write 0 = .ok (.aload_n 0, 1) := by decide +kernel
theorem dX12_write_1 : decode cX12_write 1 = .ok (.getfield 98, 3) := by decide +kernel
theorem dX12_write_4 : decode cX12_write 4 = .ok (.sipush 204, 3) := by decide +kernel
theorem dX12_write_7 : decode cX12_write 7 = .ok (.dup2, 1) := by decide +kernel
theorem dX12_write_8 : decode cX12_write 8 = .ok (.iaload, 1) := by decide +kernel
theorem dX12_write_9 : decode cX12_write 9 = .ok (.iconst 1, 1) := by decide +kernel
theorem dX12_write_10 : decode cX12_write 10 = .ok (.iadd, 1) := by decide +kernel
theorem dX12_write_11 : decode cX12_write 11 = .ok (.iastore, 1) := by decide +kernel
theorem dX12_write_12 : decode cX12_write 12 = .ok (.aload_n 0, 1) := by decide +kernel
theorem dX12_write_13 : decode cX12_write 13 = .ok (.getfield 98, 3) := by decide +kernel
theorem dX12_write_16 : decode cX12_write 16 = .ok (.sipush 213, 3) := by decide +kernel
theorem dX12_write_19 : decode cX12_write 19 = .ok (.iload_n 1, 1) := by decide +kernel
theorem dX12_write_20 : decode cX12_write 20 = .ok (.iload_n 2, 1) := by decide +kernel
theorem dX12_write_21 : decode cX12_write 21 = .ok (.invokestatic 291, 3) := by decide +kernel
theorem dX12_write_24 : decode cX12_write 24 = .ok (.iadd, 1) := by decide +kernel
theorem dX12_write_25 : decode cX12_write 25 = .ok (.iload_n 3, 1) := by decide +kernel
theorem dX12_write_26 : decode cX12_write 26 = .ok (.iastore, 1) := by decide +kernel
theorem dX12_write_27 : decode cX12_write 27 = .ok (.aload_n 0, 1) := by decide +kernel
theorem dX12_write_28 : decode cX12_write 28 = .ok (.getfield 98, 3) := by decide +kernel
theorem dX12_write_31 : decode cX12_write 31 = .ok (.sipush 309, 3) := by decide +kernel
theorem dX12_write_34 : decode cX12_write 34 = .ok (.iload_n 1, 1) := by decide +kernel
theorem dX12_write_35 : decode cX12_write 35 = .ok (.iload_n 2, 1) := by decide +kernel
theorem dX12_write_36 : decode cX12_write 36 = .ok (.invokestatic 291, 3) := by decide +kernel
theorem dX12_write_39 : decode cX12_write 39 = .ok (.iadd, 1) := by decide +kernel
theorem dX12_write_40 : decode cX12_write 40 = .ok (.aload_n 0, 1) := by decide +kernel
theorem dX12_write_41 : decode cX12_write 41 = .ok (.getfield 98, 3) := by decide +kernel
theorem dX12_write_44 : decode cX12_write 44 = .ok (.sipush 204, 3) := by decide +kernel
theorem dX12_write_47 : decode cX12_write 47 = .ok (.iaload, 1) := by decide +kernel
theorem dX12_write_48 : decode cX12_write 48 = .ok (.iastore, 1) := by decide +kernel
theorem dX12_write_49 : decode cX12_write 49 = .ok (.return_, 1) := by decide +kernel
theorem dX12_comesOver_0 : decode cX12_comesOver 0 = .ok (.aload_n 0, 1) := by decide +kernel
theorem dX12_comesOver_1 : decode cX12_comesOver 1 = .ok (.getfield 357, 3) := by decide +kernel
theorem dX12_comesOver_4 : decode cX12_comesOver 4 = .ok (.aload_n 0, 1) := by decide +kernel
theorem dX12_comesOver_5 : decode cX12_comesOver 5 = .ok (.getfield 98, 3) := by decide +kernel
theorem dX12_comesOver_8 : decode cX12_comesOver 8 = .ok (.iconst 3, 1) := by decide +kernel
theorem dX12_comesOver_9 : decode cX12_comesOver 9 = .ok (.iaload, 1) := by decide +kernel
theorem dX12_comesOver_10 : decode cX12_comesOver 10 = .ok (.invokestatic 383, 3) := by decide +kernel
theorem dX12_comesOver_13 : decode cX12_comesOver 13 = .ok (.istore_n 3, 1) := by decide +kernel
theorem dX12_comesOver_14 : decode cX12_comesOver 14 = .ok (.iconst 0, 1) := by decide +kernel
theorem dX12_comesOver_15 : decode cX12_comesOver 15 = .ok (.istore 4, 2) := by decide +kernel
theorem dX12_comesOver_17 : decode cX12_comesOver 17 = .ok (.iload 4, 2) := by decide +kernel
theorem dX12_comesOver_19 : decode cX12_comesOver 19 = .ok (.iload_n 3, 1) := by decide +kernel
theorem dX12_comesOver_20 : decode cX12_comesOver 20 = .ok (.if_icmp .ge 89, 3) := by decide +kernel
theorem dX12_comesOver_23 : decode cX12_comesOver 23 = .ok (.aload_n 0, 1) := by decide +kernel
theorem dX12_comesOver_24 : decode cX12_comesOver 24 = .ok (.getfield 98, 3) := by decide +kernel
theorem dX12_comesOver_27 : decode cX12_comesOver 27 = .ok (.sipush 213, 3) := by decide +kernel
theorem dX12_comesOver_30 : decode cX12_comesOver 30 = .ok (.iload_n 1, 1) := by decide +kernel
theorem dX12_comesOver_31 : decode cX12_comesOver 31 = .ok (.aload_n 0, 1) := by decide +kernel
theorem dX12_comesOver_32 : decode cX12_comesOver 32 = .ok (.getfield 175, 3) := by decide +kernel
theorem dX12_comesOver_35 : decode cX12_comesOver 35 = .ok (.iload 4, 2) := by decide +kernel
theorem dX12_comesOver_37 : decode cX12_comesOver 37 = .ok (.iaload, 1) := by decide +kernel
theorem dX12_comesOver_38 : decode cX12_comesOver 38 = .ok (.invokestatic 291, 3) := by decide +kernel
theorem dX12_comesOver_41 : decode cX12_comesOver 41 = .ok (.iadd, 1) := by decide +kernel
theorem dX12_comesOver_42 : decode cX12_comesOver 42 = .ok (.aload_n 0, 1) := by decide +kernel
theorem dX12_comesOver_43 : decode cX12_comesOver 43 = .ok (.getfield 98, 3) := by decide +kernel
theorem dX12_comesOver_46 : decode cX12_comesOver 46 = .ok (.sipush 213, 3) := by decide +kernel
theorem dX12_comesOver_49 : decode cX12_comesOver 49 = .ok (.iload_n 2, 1) := by decide +kernel
theorem dX12_comesOver_50 : decode cX12_comesOver 50 = .ok (.aload_n 0, 1) := by decide +kernel
theorem dX12_comesOver_51 : decode cX12_comesOver 51 = .ok (.getfield 175, 3) := by decide +kernel
theorem dX12_comesOver_54 : decode cX12_comesOver 54 = .ok (.iload 4, 2) := by decide +kernel
theorem dX12_comesOver_56 : decode cX12_comesOver 56 = .ok (.iaload, 1) := by decide +kernel
theorem dX12_comesOver_57 : decode cX12_comesOver 57 = .ok (.invokestatic 291, 3) := by decide +kernel
theorem dX12_comesOver_60 : decode cX12_comesOver 60 = .ok (.iadd, 1) := by decide +kernel
theorem dX12_comesOver_61 : decode cX12_comesOver 61 = .ok (.iaload, 1) := by decide +kernel
theorem dX12_comesOver_62 : decode cX12_comesOver 62 = .ok (.iastore, 1) := by decide +kernel
theorem dX12_comesOver_63 : decode cX12_comesOver 63 = .ok (.aload_n 0, 1) := by decide +kernel
theorem dX12_comesOver_64 : decode cX12_comesOver 64 = .ok (.getfield 98, 3) := by decide +kernel
theorem dX12_comesOver_67 : decode cX12_comesOver 67 = .ok (.sipush 309, 3) := by decide +kernel
theorem dX12_comesOver_70 : decode cX12_comesOver 70 = .ok (.iload_n 1, 1) := by decide +kernel
theorem dX12_comesOver_71 : decode cX12_comesOver 71 = .ok (.aload_n 0, 1) := by decide +kernel
theorem dX12_comesOver_72 : decode cX12_comesOver 72 = .ok (.getfield 175, 3) := by decide +kernel
theorem dX12_comesOver_75 : decode cX12_comesOver 75 = .ok (.iload 4, 2) := by decide +kernel
theorem dX12_comesOver_77 : decode cX12_comesOver 77 = .ok (.iaload, 1) := by decide +kernel
theorem dX12_comesOver_78 : decode cX12_comesOver 78 = .ok (.invokestatic 291, 3) := by decide +kernel
theorem dX12_comesOver_81 : decode cX12_comesOver 81 = .ok (.iadd, 1) := by decide +kernel
theorem dX12_comesOver_82 : decode cX12_comesOver 82 = .ok (.aload_n 0, 1) := by decide +kernel
theorem dX12_comesOver_83 : decode cX12_comesOver 83 = .ok (.getfield 98, 3) := by decide +kernel
theorem dX12_comesOver_86 : decode cX12_comesOver 86 = .ok (.sipush 309, 3) := by decide +kernel
theorem dX12_comesOver_89 : decode cX12_comesOver 89 = .ok (.iload_n 2, 1) := by decide +kernel
theorem dX12_comesOver_90 : decode cX12_comesOver 90 = .ok (.aload_n 0, 1) := by decide +kernel
theorem dX12_comesOver_91 : decode cX12_comesOver 91 = .ok (.getfield 175, 3) := by decide +kernel
theorem dX12_comesOver_94 : decode cX12_comesOver 94 = .ok (.iload 4, 2) := by decide +kernel
theorem dX12_comesOver_96 : decode cX12_comesOver 96 = .ok (.iaload, 1) := by decide +kernel
theorem dX12_comesOver_97 : decode cX12_comesOver 97 = .ok (.invokestatic 291, 3) := by decide +kernel
theorem dX12_comesOver_100 : decode cX12_comesOver 100 = .ok (.iadd, 1) := by decide +kernel
theorem dX12_comesOver_101 : decode cX12_comesOver 101 = .ok (.iaload, 1) := by decide +kernel
theorem dX12_comesOver_102 : decode cX12_comesOver 102 = .ok (.iastore, 1) := by decide +kernel
theorem dX12_comesOver_103 : decode cX12_comesOver 103 = .ok (.iinc 4 1, 3) := by decide +kernel
theorem dX12_comesOver_106 : decode cX12_comesOver 106 = .ok (.goto (-89), 3) := by decide +kernel
theorem dX12_comesOver_109 : decode cX12_comesOver 109 = .ok (.aload_n 0, 1) := by decide +kernel
theorem dX12_comesOver_110 : decode cX12_comesOver 110 = .ok (.getfield 98, 3) := by decide +kernel
theorem dX12_comesOver_113 : decode cX12_comesOver 113 = .ok (.sipush 202, 3) := by decide +kernel
theorem dX12_comesOver_116 : decode cX12_comesOver 116 = .ok (.dup2, 1) := by decide +kernel
theorem dX12_comesOver_117 : decode cX12_comesOver 117 = .ok (.iaload, 1) := by decide +kernel
theorem dX12_comesOver_118 : decode cX12_comesOver 118 = .ok (.iconst 1, 1) := by decide +kernel
theorem dX12_comesOver_119 : decode cX12_comesOver 119 = .ok (.iadd, 1) := by decide +kernel
theorem dX12_comesOver_120 : decode cX12_comesOver 120 = .ok (.iastore, 1) := by decide +kernel
theorem dX12_comesOver_121 : decode cX12_comesOver 121 = .ok (.aload_n 0, 1) := by decide +kernel
theorem dX12_comesOver_122 : decode cX12_comesOver 122 = .ok (.getfield 98, 3) := by decide +kernel
theorem dX12_comesOver_125 : decode cX12_comesOver 125 = .ok (.sipush 203, 3) := by decide +kernel
theorem dX12_comesOver_128 : decode cX12_comesOver 128 = .ok (.dup2, 1) := by decide +kernel
theorem dX12_comesOver_129 : decode cX12_comesOver 129 = .ok (.iaload, 1) := by decide +kernel
theorem dX12_comesOver_130 : decode cX12_comesOver 130 = .ok (.iload_n 3, 1) := by decide +kernel
theorem dX12_comesOver_131 : decode cX12_comesOver 131 = .ok (.iadd, 1) := by decide +kernel
theorem dX12_comesOver_132 : decode cX12_comesOver 132 = .ok (.iastore, 1) := by decide +kernel
theorem dX12_comesOver_133 : decode cX12_comesOver 133 = .ok (.aload_n 0, 1) := by decide +kernel
theorem dX12_comesOver_134 : decode cX12_comesOver 134 = .ok (.getfield 98, 3) := by decide +kernel
theorem dX12_comesOver_137 : decode cX12_comesOver 137 = .ok (.sipush 209, 3) := by decide +kernel
theorem dX12_comesOver_140 : decode cX12_comesOver 140 = .ok (.iload_n 1, 1) := by decide +kernel
theorem dX12_comesOver_141 : decode cX12_comesOver 141 = .ok (.iadd, 1) := by decide +kernel
theorem dX12_comesOver_142 : decode cX12_comesOver 142 = .ok (.dup2, 1) := by decide +kernel
theorem dX12_comesOver_143 : decode cX12_comesOver 143 = .ok (.iaload, 1) := by decide +kernel
theorem dX12_comesOver_144 : decode cX12_comesOver 144 = .ok (.iload_n 3, 1) := by decide +kernel
theorem dX12_comesOver_145 : decode cX12_comesOver 145 = .ok (.iadd, 1) := by decide +kernel
theorem dX12_comesOver_146 : decode cX12_comesOver 146 = .ok (.iastore, 1) := by decide +kernel
theorem dX12_comesOver_147 : decode cX12_comesOver 147 = .ok (.return_, 1) := by decide +kernel
theorem dX12_live_0 : decode cX12_live 0 = .ok (.iload_n 1, 1) := by decide +kernel
theorem dX12_live_1 : decode cX12_live 1 = .ok (.tableswitch 57 0 2 #[27, 36, 44], 27) := by decide +kernel
theorem dX12_live_28 : decode cX12_live 28 = .ok (.aload_n 0, 1) := by decide +kernel
theorem dX12_live_29 : decode cX12_live 29 = .ok (.iload_n 2, 1) := by decide +kernel
theorem dX12_live_30 : decode cX12_live 30 = .ok (.iload_n 3, 1) := by decide +kernel
theorem dX12_live_31 : decode cX12_live 31 = .ok (.iload 4, 2) := by decide +kernel
theorem dX12_live_33 : decode cX12_live 33 = .ok (.invokevirtual 386, 3) := by decide +kernel
theorem dX12_live_36 : decode cX12_live 36 = .ok (.return_, 1) := by decide +kernel
theorem dX12_live_37 : decode cX12_live 37 = .ok (.aload_n 0, 1) := by decide +kernel
theorem dX12_live_38 : decode cX12_live 38 = .ok (.iload_n 2, 1) := by decide +kernel
theorem dX12_live_39 : decode cX12_live 39 = .ok (.iload_n 3, 1) := by decide +kernel
theorem dX12_live_40 : decode cX12_live 40 = .ok (.iconst (-1), 1) := by decide +kernel
theorem dX12_live_41 : decode cX12_live 41 = .ok (.invokevirtual 386, 3) := by decide +kernel
theorem dX12_live_44 : decode cX12_live 44 = .ok (.return_, 1) := by decide +kernel
theorem dX12_live_45 : decode cX12_live 45 = .ok (.aload_n 0, 1) := by decide +kernel
theorem dX12_live_46 : decode cX12_live 46 = .ok (.iload_n 2, 1) := by decide +kernel
theorem dX12_live_47 : decode cX12_live 47 = .ok (.iload_n 3, 1) := by decide +kernel
theorem dX12_live_48 : decode cX12_live 48 = .ok (.invokevirtual 366, 3) := by decide +kernel
theorem dX12_live_51 : decode cX12_live 51 = .ok (.aload_n 0, 1) := by decide +kernel
theorem dX12_live_52 : decode cX12_live 52 = .ok (.iload_n 2, 1) := by decide +kernel
theorem dX12_live_53 : decode cX12_live 53 = .ok (.iload_n 3, 1) := by decide +kernel
theorem dX12_live_54 : decode cX12_live 54 = .ok (.invokevirtual 390, 3) := by decide +kernel
theorem dX12_live_57 : decode cX12_live 57 = .ok (.return_, 1) := by decide +kernel
theorem dX12_live_58 : decode cX12_live 58 = .ok (.aload_n 0, 1) := by decide +kernel
theorem dX12_live_59 : decode cX12_live 59 = .ok (.getfield 98, 3) := by decide +kernel
theorem dX12_live_62 : decode cX12_live 62 = .ok (.sipush 205, 3) := by decide +kernel
theorem dX12_live_65 : decode cX12_live 65 = .ok (.iload_n 2, 1) := by decide +kernel
theorem dX12_live_66 : decode cX12_live 66 = .ok (.iadd, 1) := by decide +kernel
theorem dX12_live_67 : decode cX12_live 67 = .ok (.dup2, 1) := by decide +kernel
theorem dX12_live_68 : decode cX12_live 68 = .ok (.iaload, 1) := by decide +kernel
theorem dX12_live_69 : decode cX12_live 69 = .ok (.iconst 1, 1) := by decide +kernel
theorem dX12_live_70 : decode cX12_live 70 = .ok (.iload_n 3, 1) := by decide +kernel
theorem dX12_live_71 : decode cX12_live 71 = .ok (.ishl, 1) := by decide +kernel
theorem dX12_live_72 : decode cX12_live 72 = .ok (.ixor, 1) := by decide +kernel
theorem dX12_live_73 : decode cX12_live 73 = .ok (.iastore, 1) := by decide +kernel
theorem dX12_live_74 : decode cX12_live 74 = .ok (.aload_n 0, 1) := by decide +kernel
theorem dX12_live_75 : decode cX12_live 75 = .ok (.getfield 98, 3) := by decide +kernel
theorem dX12_live_78 : decode cX12_live 78 = .ok (.sipush 205, 3) := by decide +kernel
theorem dX12_live_81 : decode cX12_live 81 = .ok (.iload_n 3, 1) := by decide +kernel
theorem dX12_live_82 : decode cX12_live 82 = .ok (.iadd, 1) := by decide +kernel
theorem dX12_live_83 : decode cX12_live 83 = .ok (.dup2, 1) := by decide +kernel
theorem dX12_live_84 : decode cX12_live 84 = .ok (.iaload, 1) := by decide +kernel
theorem dX12_live_85 : decode cX12_live 85 = .ok (.iconst 1, 1) := by decide +kernel
theorem dX12_live_86 : decode cX12_live 86 = .ok (.iload_n 2, 1) := by decide +kernel
theorem dX12_live_87 : decode cX12_live 87 = .ok (.ishl, 1) := by decide +kernel
theorem dX12_live_88 : decode cX12_live 88 = .ok (.ixor, 1) := by decide +kernel
theorem dX12_live_89 : decode cX12_live 89 = .ok (.iastore, 1) := by decide +kernel
theorem dX12_live_90 : decode cX12_live 90 = .ok (.return_, 1) := by decide +kernel
theorem dX12_act_0 : decode cX12_act 0 = .ok (.iload 5, 2) := by decide +kernel
theorem dX12_act_2 : decode cX12_act 2 = .ok (.ifCond .ne 5, 3) := by decide +kernel
theorem dX12_act_5 : decode cX12_act 5 = .ok (.iconst (-1), 1) := by decide +kernel
theorem dX12_act_6 : decode cX12_act 6 = .ok (.ireturn, 1) := by decide +kernel
theorem dX12_act_7 : decode cX12_act 7 = .ok (.aload_n 0, 1) := by decide +kernel
theorem dX12_act_8 : decode cX12_act 8 = .ok (.iload_n 1, 1) := by decide +kernel
theorem dX12_act_9 : decode cX12_act 9 = .ok (.iload_n 2, 1) := by decide +kernel
theorem dX12_act_10 : decode cX12_act 10 = .ok (.iload_n 3, 1) := by decide +kernel
theorem dX12_act_11 : decode cX12_act 11 = .ok (.iload 4, 2) := by decide +kernel
theorem dX12_act_13 : decode cX12_act 13 = .ok (.invokevirtual 393, 3) := by decide +kernel
theorem dX12_act_16 : decode cX12_act 16 = .ok (.istore 6, 2) := by decide +kernel
theorem dX12_act_18 : decode cX12_act 18 = .ok (.iload 6, 2) := by decide +kernel
theorem dX12_act_20 : decode cX12_act 20 = .ok (.ifCond .eq 6, 3) := by decide +kernel
theorem dX12_act_23 : decode cX12_act 23 = .ok (.iload 6, 2) := by decide +kernel
theorem dX12_act_25 : decode cX12_act 25 = .ok (.ireturn, 1) := by decide +kernel
theorem dX12_act_26 : decode cX12_act 26 = .ok (.aload_n 0, 1) := by decide +kernel
theorem dX12_act_27 : decode cX12_act 27 = .ok (.invokevirtual 397, 3) := by decide +kernel
theorem dX12_act_30 : decode cX12_act 30 = .ok (.aload_n 0, 1) := by decide +kernel
theorem dX12_act_31 : decode cX12_act 31 = .ok (.iload_n 1, 1) := by decide +kernel
theorem dX12_act_32 : decode cX12_act 32 = .ok (.iload_n 2, 1) := by decide +kernel
theorem dX12_act_33 : decode cX12_act 33 = .ok (.iload_n 3, 1) := by decide +kernel
theorem dX12_act_34 : decode cX12_act 34 = .ok (.iload 4, 2) := by decide +kernel
theorem dX12_act_36 : decode cX12_act 36 = .ok (.invokevirtual 400, 3) := by decide +kernel
theorem dX12_act_39 : decode cX12_act 39 = .ok (.iconst 0, 1) := by decide +kernel
theorem dX12_act_40 : decode cX12_act 40 = .ok (.ireturn, 1) := by decide +kernel
theorem dX12_put_0 : decode cX12_put 0 = .ok (.aload_n 0, 1) := by decide +kernel
theorem dX12_put_1 : decode cX12_put 1 = .ok (.iconst 0, 1) := by decide +kernel
theorem dX12_put_2 : decode cX12_put 2 = .ok (.putfield 1, 3) := by decide +kernel
theorem dX12_put_5 : decode cX12_put 5 = .ok (.aload_n 0, 1) := by decide +kernel
theorem dX12_put_6 : decode cX12_put 6 = .ok (.iconst 0, 1) := by decide +kernel
theorem dX12_put_7 : decode cX12_put 7 = .ok (.iload_n 1, 1) := by decide +kernel
theorem dX12_put_8 : decode cX12_put 8 = .ok (.iload_n 2, 1) := by decide +kernel
theorem dX12_put_9 : decode cX12_put 9 = .ok (.iload_n 3, 1) := by decide +kernel
theorem dX12_put_10 : decode cX12_put 10 = .ok (.aload_n 0, 1) := by decide +kernel
theorem dX12_put_11 : decode cX12_put 11 = .ok (.iload_n 1, 1) := by decide +kernel
theorem dX12_put_12 : decode cX12_put 12 = .ok (.invokevirtual 288, 3) := by decide +kernel
theorem dX12_put_15 : decode cX12_put 15 = .ok (.ifCond .eq 26, 3) := by decide +kernel
theorem dX12_put_18 : decode cX12_put 18 = .ok (.aload_n 0, 1) := by decide +kernel
theorem dX12_put_19 : decode cX12_put 19 = .ok (.iload_n 2, 1) := by decide +kernel
theorem dX12_put_20 : decode cX12_put 20 = .ok (.invokevirtual 326, 3) := by decide +kernel
theorem dX12_put_23 : decode cX12_put 23 = .ok (.ifCond .eq 18, 3) := by decide +kernel
theorem dX12_put_26 : decode cX12_put 26 = .ok (.iload_n 3, 1) := by decide +kernel
theorem dX12_put_27 : decode cX12_put 27 = .ok (.iconst 0, 1) := by decide +kernel
theorem dX12_put_28 : decode cX12_put 28 = .ok (.sipush 999, 3) := by decide +kernel
theorem dX12_put_31 : decode cX12_put 31 = .ok (.invokestatic 75, 3) := by decide +kernel
theorem dX12_put_34 : decode cX12_put 34 = .ok (.ifCond .eq 7, 3) := by decide +kernel
theorem dX12_put_37 : decode cX12_put 37 = .ok (.iconst 1, 1) := by decide +kernel
theorem dX12_put_38 : decode cX12_put 38 = .ok (.goto 4, 3) := by decide +kernel
theorem dX12_put_41 : decode cX12_put 41 = .ok (.iconst 0, 1) := by decide +kernel
theorem dX12_put_42 : decode cX12_put 42 = .ok (.invokevirtual 404, 3) := by decide +kernel
theorem dX12_put_45 : decode cX12_put 45 = .ok (.ireturn, 1) := by decide +kernel
theorem dX12_drop_0 : decode cX12_drop 0 = .ok (.aload_n 0, 1) := by decide +kernel
theorem dX12_drop_1 : decode cX12_drop 1 = .ok (.iconst 0, 1) := by decide +kernel
theorem dX12_drop_2 : decode cX12_drop 2 = .ok (.putfield 1, 3) := by decide +kernel
theorem dX12_drop_5 : decode cX12_drop 5 = .ok (.aload_n 0, 1) := by decide +kernel
theorem dX12_drop_6 : decode cX12_drop 6 = .ok (.iconst 1, 1) := by decide +kernel
theorem dX12_drop_7 : decode cX12_drop 7 = .ok (.iload_n 1, 1) := by decide +kernel
theorem dX12_drop_8 : decode cX12_drop 8 = .ok (.iload_n 2, 1) := by decide +kernel
theorem dX12_drop_9 : decode cX12_drop 9 = .ok (.iconst 0, 1) := by decide +kernel
theorem dX12_drop_10 : decode cX12_drop 10 = .ok (.aload_n 0, 1) := by decide +kernel
theorem dX12_drop_11 : decode cX12_drop 11 = .ok (.iload_n 1, 1) := by decide +kernel
theorem dX12_drop_12 : decode cX12_drop 12 = .ok (.invokevirtual 288, 3) := by decide +kernel
theorem dX12_drop_15 : decode cX12_drop 15 = .ok (.ifCond .eq 15, 3) := by decide +kernel
theorem dX12_drop_18 : decode cX12_drop 18 = .ok (.aload_n 0, 1) := by decide +kernel
theorem dX12_drop_19 : decode cX12_drop 19 = .ok (.iload_n 2, 1) := by decide +kernel
theorem dX12_drop_20 : decode cX12_drop 20 = .ok (.invokevirtual 326, 3) := by decide +kernel
theorem dX12_drop_23 : decode cX12_drop 23 = .ok (.ifCond .eq 7, 3) := by decide +kernel
theorem dX12_drop_26 : decode cX12_drop 26 = .ok (.iconst 1, 1) := by decide +kernel
theorem dX12_drop_27 : decode cX12_drop 27 = .ok (.goto 4, 3) := by decide +kernel
theorem dX12_drop_30 : decode cX12_drop 30 = .ok (.iconst 0, 1) := by decide +kernel
theorem dX12_drop_31 : decode cX12_drop 31 = .ok (.invokevirtual 404, 3) := by decide +kernel
theorem dX12_drop_34 : decode cX12_drop 34 = .ok (.ireturn, 1) := by decide +kernel
theorem dX12_pull_0 : decode cX12_pull 0 = .ok (.aload_n 0, 1) := by decide +kernel
theorem dX12_pull_1 : decode cX12_pull 1 = .ok (.iconst 0, 1) := by decide +kernel
theorem dX12_pull_2 : decode cX12_pull 2 = .ok (.putfield 1, 3) := by decide +kernel
theorem dX12_pull_5 : decode cX12_pull 5 = .ok (.aload_n 0, 1) := by decide +kernel
theorem dX12_pull_6 : decode cX12_pull 6 = .ok (.iconst 2, 1) := by decide +kernel
theorem dX12_pull_7 : decode cX12_pull 7 = .ok (.iload_n 1, 1) := by decide +kernel
theorem dX12_pull_8 : decode cX12_pull 8 = .ok (.iload_n 2, 1) := by decide +kernel
theorem dX12_pull_9 : decode cX12_pull 9 = .ok (.iconst 0, 1) := by decide +kernel
theorem dX12_pull_10 : decode cX12_pull 10 = .ok (.aload_n 0, 1) := by decide +kernel
theorem dX12_pull_11 : decode cX12_pull 11 = .ok (.iload_n 1, 1) := by decide +kernel
theorem dX12_pull_12 : decode cX12_pull 12 = .ok (.iload_n 2, 1) := by decide +kernel
theorem dX12_pull_13 : decode cX12_pull 13 = .ok (.invokevirtual 363, 3) := by decide +kernel
theorem dX12_pull_16 : decode cX12_pull 16 = .ok (.invokevirtual 404, 3) := by decide +kernel
theorem dX12_pull_19 : decode cX12_pull 19 = .ok (.ireturn, 1) := by decide +kernel
theorem dX12_cut_0 : decode cX12_cut 0 = .ok (.aload_n 0, 1) := by decide +kernel
theorem dX12_cut_1 : decode cX12_cut 1 = .ok (.iconst 0, 1) := by decide +kernel
theorem dX12_cut_2 : decode cX12_cut 2 = .ok (.putfield 1, 3) := by decide +kernel
theorem dX12_cut_5 : decode cX12_cut 5 = .ok (.aload_n 0, 1) := by decide +kernel
theorem dX12_cut_6 : decode cX12_cut 6 = .ok (.iconst 3, 1) := by decide +kernel
theorem dX12_cut_7 : decode cX12_cut 7 = .ok (.iload_n 1, 1) := by decide +kernel
theorem dX12_cut_8 : decode cX12_cut 8 = .ok (.iload_n 2, 1) := by decide +kernel
theorem dX12_cut_9 : decode cX12_cut 9 = .ok (.iconst 0, 1) := by decide +kernel
theorem dX12_cut_10 : decode cX12_cut 10 = .ok (.aload_n 0, 1) := by decide +kernel
theorem dX12_cut_11 : decode cX12_cut 11 = .ok (.iload_n 1, 1) := by decide +kernel
theorem dX12_cut_12 : decode cX12_cut 12 = .ok (.iload_n 2, 1) := by decide +kernel
theorem dX12_cut_13 : decode cX12_cut 13 = .ok (.invokevirtual 363, 3) := by decide +kernel
theorem dX12_cut_16 : decode cX12_cut 16 = .ok (.invokevirtual 404, 3) := by decide +kernel
theorem dX12_cut_19 : decode cX12_cut 19 = .ok (.ireturn, 1) := by decide +kernel
theorem dX12_heal_0 : decode cX12_heal 0 = .ok (.aload_n 0, 1) := by decide +kernel
theorem dX12_heal_1 : decode cX12_heal 1 = .ok (.iconst 0, 1) := by decide +kernel
theorem dX12_heal_2 : decode cX12_heal 2 = .ok (.putfield 1, 3) := by decide +kernel
theorem dX12_heal_5 : decode cX12_heal 5 = .ok (.aload_n 0, 1) := by decide +kernel
theorem dX12_heal_6 : decode cX12_heal 6 = .ok (.iconst 4, 1) := by decide +kernel
theorem dX12_heal_7 : decode cX12_heal 7 = .ok (.iload_n 1, 1) := by decide +kernel
theorem dX12_heal_8 : decode cX12_heal 8 = .ok (.iload_n 2, 1) := by decide +kernel
theorem dX12_heal_9 : decode cX12_heal 9 = .ok (.iconst 0, 1) := by decide +kernel
theorem dX12_heal_10 : decode cX12_heal 10 = .ok (.aload_n 0, 1) := by decide +kernel
theorem dX12_heal_11 : decode cX12_heal 11 = .ok (.iload_n 1, 1) := by decide +kernel
theorem dX12_heal_12 : decode cX12_heal 12 = .ok (.iload_n 2, 1) := by decide +kernel
theorem dX12_heal_13 : decode cX12_heal 13 = .ok (.invokevirtual 363, 3) := by decide +kernel
theorem dX12_heal_16 : decode cX12_heal 16 = .ok (.invokevirtual 404, 3) := by decide +kernel
theorem dX12_heal_19 : decode cX12_heal 19 = .ok (.ireturn, 1) := by decide +kernel
theorem dX12_undo_0 : decode cX12_undo 0 = .ok (.aload_n 0, 1) := by decide +kernel
theorem dX12_undo_1 : decode cX12_undo 1 = .ok (.iconst 0, 1) := by decide +kernel
theorem dX12_undo_2 : decode cX12_undo 2 = .ok (.putfield 1, 3) := by decide +kernel
theorem dX12_undo_5 : decode cX12_undo 5 = .ok (.aload_n 0, 1) := by decide +kernel
theorem dX12_undo_6 : decode cX12_undo 6 = .ok (.getfield 263, 3) := by decide +kernel
theorem dX12_undo_9 : decode cX12_undo 9 = .ok (.ifCond .ne 5, 3) := by decide +kernel
theorem dX12_undo_12 : decode cX12_undo 12 = .ok (.iconst (-1), 1) := by decide +kernel
theorem dX12_undo_13 : decode cX12_undo 13 = .ok (.ireturn, 1) := by decide +kernel
theorem dX12_undo_14 : decode cX12_undo 14 = .ok (.aload_n 0, 1) := by decide +kernel
theorem dX12_undo_15 : decode cX12_undo 15 = .ok (.dup, 1) := by decide +kernel
theorem dX12_undo_16 : decode cX12_undo 16 = .ok (.getfield 263, 3) := by decide +kernel
theorem dX12_undo_19 : decode cX12_undo 19 = .ok (.iconst 1, 1) := by decide +kernel
theorem dX12_undo_20 : decode cX12_undo 20 = .ok (.isub, 1) := by decide +kernel
theorem dX12_undo_21 : decode cX12_undo 21 = .ok (.putfield 263, 3) := by decide +kernel
theorem dX12_undo_24 : decode cX12_undo 24 = .ok (.aload_n 0, 1) := by decide +kernel
theorem dX12_undo_25 : decode cX12_undo 25 = .ok (.aload_n 0, 1) := by decide +kernel
theorem dX12_undo_26 : decode cX12_undo 26 = .ok (.getfield 107, 3) := by decide +kernel
theorem dX12_undo_29 : decode cX12_undo 29 = .ok (.sipush 203, 3) := by decide +kernel
theorem dX12_undo_32 : decode cX12_undo 32 = .ok (.aload_n 0, 1) := by decide +kernel
theorem dX12_undo_33 : decode cX12_undo 33 = .ok (.getfield 263, 3) := by decide +kernel
theorem dX12_undo_36 : decode cX12_undo 36 = .ok (.imul, 1) := by decide +kernel
theorem dX12_undo_37 : decode cX12_undo 37 = .ok (.invokevirtual 408, 3) := by decide +kernel
theorem dX12_undo_40 : decode cX12_undo 40 = .ok (.aload_n 0, 1) := by decide +kernel
theorem dX12_undo_41 : decode cX12_undo 41 = .ok (.getfield 263, 3) := by decide +kernel
theorem dX12_undo_44 : decode cX12_undo 44 = .ok (.ireturn, 1) := by decide +kernel
theorem dX12_fresh_0 : decode cX12_fresh 0 = .ok (.aload_n 0, 1) := by decide +kernel
theorem dX12_fresh_1 : decode cX12_fresh 1 = .ok (.iconst 0, 1) := by decide +kernel
theorem dX12_fresh_2 : decode cX12_fresh 2 = .ok (.putfield 1, 3) := by decide +kernel
theorem dX12_fresh_5 : decode cX12_fresh 5 = .ok (.aload_n 0, 1) := by decide +kernel
theorem dX12_fresh_6 : decode cX12_fresh 6 = .ok (.iload_n 1, 1) := by decide +kernel
theorem dX12_fresh_7 : decode cX12_fresh 7 = .ok (.invokevirtual 288, 3) := by decide +kernel
theorem dX12_fresh_10 : decode cX12_fresh 10 = .ok (.ifCond .eq 22, 3) := by decide +kernel
theorem dX12_fresh_13 : decode cX12_fresh 13 = .ok (.aload_n 0, 1) := by decide +kernel
theorem dX12_fresh_14 : decode cX12_fresh 14 = .ok (.iload_n 2, 1) := by decide +kernel
theorem dX12_fresh_15 : decode cX12_fresh 15 = .ok (.invokevirtual 326, 3) := by decide +kernel
theorem dX12_fresh_18 : decode cX12_fresh 18 = .ok (.ifCond .eq 14, 3) := by decide +kernel
theorem dX12_fresh_21 : decode cX12_fresh 21 = .ok (.iload_n 3, 1) := by decide +kernel
theorem dX12_fresh_22 : decode cX12_fresh 22 = .ok (.iconst 0, 1) := by decide +kernel
theorem dX12_fresh_23 : decode cX12_fresh 23 = .ok (.sipush 999, 3) := by decide +kernel
theorem dX12_fresh_26 : decode cX12_fresh 26 = .ok (.invokestatic 75, 3) := by decide +kernel
theorem dX12_fresh_29 : decode cX12_fresh 29 = .ok (.ifCond .ne 5, 3) := by decide +kernel
theorem dX12_fresh_32 : decode cX12_fresh 32 = .ok (.iconst (-1), 1) := by decide +kernel
theorem dX12_fresh_33 : decode cX12_fresh 33 = .ok (.ireturn, 1) := by decide +kernel
theorem dX12_fresh_34 : decode cX12_fresh 34 = .ok (.aload_n 0, 1) := by decide +kernel
theorem dX12_fresh_35 : decode cX12_fresh 35 = .ok (.iconst 0, 1) := by decide +kernel
theorem dX12_fresh_36 : decode cX12_fresh 36 = .ok (.iload_n 1, 1) := by decide +kernel
theorem dX12_fresh_37 : decode cX12_fresh 37 = .ok (.iload_n 2, 1) := by decide +kernel
theorem dX12_fresh_38 : decode cX12_fresh 38 = .ok (.iload_n 3, 1) := by decide +kernel
theorem dX12_fresh_39 : decode cX12_fresh 39 = .ok (.invokevirtual 393, 3) := by decide +kernel
theorem dX12_fresh_42 : decode cX12_fresh 42 = .ok (.ifCond .eq 5, 3) := by decide +kernel
theorem dX12_fresh_45 : decode cX12_fresh 45 = .ok (.iconst 0, 1) := by decide +kernel
theorem dX12_fresh_46 : decode cX12_fresh 46 = .ok (.ireturn, 1) := by decide +kernel
theorem dX12_fresh_47 : decode cX12_fresh 47 = .ok (.aload_n 0, 1) := by decide +kernel
theorem dX12_fresh_48 : decode cX12_fresh 48 = .ok (.iconst 1, 1) := by decide +kernel
theorem dX12_fresh_49 : decode cX12_fresh 49 = .ok (.iload_n 1, 1) := by decide +kernel
theorem dX12_fresh_50 : decode cX12_fresh 50 = .ok (.invokevirtual 308, 3) := by decide +kernel
theorem dX12_fresh_53 : decode cX12_fresh 53 = .ok (.pop, 1) := by decide +kernel
theorem dX12_fresh_54 : decode cX12_fresh 54 = .ok (.aload_n 0, 1) := by decide +kernel
theorem dX12_fresh_55 : decode cX12_fresh 55 = .ok (.getfield 98, 3) := by decide +kernel
theorem dX12_fresh_58 : decode cX12_fresh 58 = .ok (.sipush 213, 3) := by decide +kernel
theorem dX12_fresh_61 : decode cX12_fresh 61 = .ok (.iload_n 1, 1) := by decide +kernel
theorem dX12_fresh_62 : decode cX12_fresh 62 = .ok (.iload_n 2, 1) := by decide +kernel
theorem dX12_fresh_63 : decode cX12_fresh 63 = .ok (.invokestatic 291, 3) := by decide +kernel
theorem dX12_fresh_66 : decode cX12_fresh 66 = .ok (.iadd, 1) := by decide +kernel
theorem dX12_fresh_67 : decode cX12_fresh 67 = .ok (.iaload, 1) := by decide +kernel
theorem dX12_fresh_68 : decode cX12_fresh 68 = .ok (.istore 4, 2) := by decide +kernel
theorem dX12_fresh_70 : decode cX12_fresh 70 = .ok (.aload_n 0, 1) := by decide +kernel
theorem dX12_fresh_71 : decode cX12_fresh 71 = .ok (.getfield 98, 3) := by decide +kernel
theorem dX12_fresh_74 : decode cX12_fresh 74 = .ok (.sipush 309, 3) := by decide +kernel
theorem dX12_fresh_77 : decode cX12_fresh 77 = .ok (.iload_n 1, 1) := by decide +kernel
theorem dX12_fresh_78 : decode cX12_fresh 78 = .ok (.iload_n 2, 1) := by decide +kernel
theorem dX12_fresh_79 : decode cX12_fresh 79 = .ok (.invokestatic 291, 3) := by decide +kernel
theorem dX12_fresh_82 : decode cX12_fresh 82 = .ok (.iadd, 1) := by decide +kernel
theorem dX12_fresh_83 : decode cX12_fresh 83 = .ok (.iaload, 1) := by decide +kernel
theorem dX12_fresh_84 : decode cX12_fresh 84 = .ok (.istore 5, 2) := by decide +kernel
theorem dX12_fresh_86 : decode cX12_fresh 86 = .ok (.aload_n 0, 1) := by decide +kernel
theorem dX12_fresh_87 : decode cX12_fresh 87 = .ok (.iload_n 1, 1) := by decide +kernel
theorem dX12_fresh_88 : decode cX12_fresh 88 = .ok (.iload_n 2, 1) := by decide +kernel
theorem dX12_fresh_89 : decode cX12_fresh 89 = .ok (.iload_n 3, 1) := by decide +kernel
theorem dX12_fresh_90 : decode cX12_fresh 90 = .ok (.invokevirtual 386, 3) := by decide +kernel
theorem dX12_fresh_93 : decode cX12_fresh 93 = .ok (.aload_n 0, 1) := by decide +kernel
theorem dX12_fresh_94 : decode cX12_fresh 94 = .ok (.iconst 0, 1) := by decide +kernel
theorem dX12_fresh_95 : decode cX12_fresh 95 = .ok (.iload_n 1, 1) := by decide +kernel
theorem dX12_fresh_96 : decode cX12_fresh 96 = .ok (.invokevirtual 308, 3) := by decide +kernel
theorem dX12_fresh_99 : decode cX12_fresh 99 = .ok (.pop, 1) := by decide +kernel
theorem dX12_fresh_100 : decode cX12_fresh 100 = .ok (.aload_n 0, 1) := by decide +kernel
theorem dX12_fresh_101 : decode cX12_fresh 101 = .ok (.getfield 98, 3) := by decide +kernel
theorem dX12_fresh_104 : decode cX12_fresh 104 = .ok (.sipush 204, 3) := by decide +kernel
theorem dX12_fresh_107 : decode cX12_fresh 107 = .ok (.dup2, 1) := by decide +kernel
theorem dX12_fresh_108 : decode cX12_fresh 108 = .ok (.iaload, 1) := by decide +kernel
theorem dX12_fresh_109 : decode cX12_fresh 109 = .ok (.iconst 1, 1) := by decide +kernel
theorem dX12_fresh_110 : decode cX12_fresh 110 = .ok (.isub, 1) := by decide +kernel
theorem dX12_fresh_111 : decode cX12_fresh 111 = .ok (.iastore, 1) := by decide +kernel
theorem dX12_fresh_112 : decode cX12_fresh 112 = .ok (.aload_n 0, 1) := by decide +kernel
theorem dX12_fresh_113 : decode cX12_fresh 113 = .ok (.getfield 98, 3) := by decide +kernel
theorem dX12_fresh_116 : decode cX12_fresh 116 = .ok (.sipush 213, 3) := by decide +kernel
theorem dX12_fresh_119 : decode cX12_fresh 119 = .ok (.iload_n 1, 1) := by decide +kernel
theorem dX12_fresh_120 : decode cX12_fresh 120 = .ok (.iload_n 2, 1) := by decide +kernel
theorem dX12_fresh_121 : decode cX12_fresh 121 = .ok (.invokestatic 291, 3) := by decide +kernel
theorem dX12_fresh_124 : decode cX12_fresh 124 = .ok (.iadd, 1) := by decide +kernel
theorem dX12_fresh_125 : decode cX12_fresh 125 = .ok (.iload 4, 2) := by decide +kernel
theorem dX12_fresh_127 : decode cX12_fresh 127 = .ok (.iastore, 1) := by decide +kernel
theorem dX12_fresh_128 : decode cX12_fresh 128 = .ok (.aload_n 0, 1) := by decide +kernel
theorem dX12_fresh_129 : decode cX12_fresh 129 = .ok (.getfield 98, 3) := by decide +kernel
theorem dX12_fresh_132 : decode cX12_fresh 132 = .ok (.sipush 309, 3) := by decide +kernel
theorem dX12_fresh_135 : decode cX12_fresh 135 = .ok (.iload_n 1, 1) := by decide +kernel
theorem dX12_fresh_136 : decode cX12_fresh 136 = .ok (.iload_n 2, 1) := by decide +kernel
theorem dX12_fresh_137 : decode cX12_fresh 137 = .ok (.invokestatic 291, 3) := by decide +kernel
theorem dX12_fresh_140 : decode cX12_fresh 140 = .ok (.iadd, 1) := by decide +kernel
theorem dX12_fresh_141 : decode cX12_fresh 141 = .ok (.iload 5, 2) := by decide +kernel
theorem dX12_fresh_143 : decode cX12_fresh 143 = .ok (.iastore, 1) := by decide +kernel
theorem dX12_fresh_144 : decode cX12_fresh 144 = .ok (.iconst 0, 1) := by decide +kernel
theorem dX12_fresh_145 : decode cX12_fresh 145 = .ok (.istore 6, 2) := by decide +kernel
theorem dX12_fresh_147 : decode cX12_fresh 147 = .ok (.iconst 0, 1) := by decide +kernel
theorem dX12_fresh_148 : decode cX12_fresh 148 = .ok (.istore 7, 2) := by decide +kernel
theorem dX12_fresh_150 : decode cX12_fresh 150 = .ok (.iload 7, 2) := by decide +kernel
theorem dX12_fresh_152 : decode cX12_fresh 152 = .ok (.aload_n 0, 1) := by decide +kernel
theorem dX12_fresh_153 : decode cX12_fresh 153 = .ok (.getfield 148, 3) := by decide +kernel
theorem dX12_fresh_156 : decode cX12_fresh 156 = .ok (.iconst 0, 1) := by decide +kernel
theorem dX12_fresh_157 : decode cX12_fresh 157 = .ok (.iaload, 1) := by decide +kernel
theorem dX12_fresh_158 : decode cX12_fresh 158 = .ok (.if_icmp .ge 27, 3) := by decide +kernel
theorem dX12_fresh_161 : decode cX12_fresh 161 = .ok (.aload_n 0, 1) := by decide +kernel
theorem dX12_fresh_162 : decode cX12_fresh 162 = .ok (.iconst 1, 1) := by decide +kernel
theorem dX12_fresh_163 : decode cX12_fresh 163 = .ok (.aload_n 0, 1) := by decide +kernel
theorem dX12_fresh_164 : decode cX12_fresh 164 = .ok (.getfield 169, 3) := by decide +kernel
theorem dX12_fresh_167 : decode cX12_fresh 167 = .ok (.iload 7, 2) := by decide +kernel
theorem dX12_fresh_169 : decode cX12_fresh 169 = .ok (.iaload, 1) := by decide +kernel
theorem dX12_fresh_170 : decode cX12_fresh 170 = .ok (.invokevirtual 311, 3) := by decide +kernel
theorem dX12_fresh_173 : decode cX12_fresh 173 = .ok (.ifCond .ne 6, 3) := by decide +kernel
theorem dX12_fresh_176 : decode cX12_fresh 176 = .ok (.iinc 6 1, 3) := by decide +kernel
theorem dX12_fresh_179 : decode cX12_fresh 179 = .ok (.iinc 7 1, 3) := by decide +kernel
theorem dX12_fresh_182 : decode cX12_fresh 182 = .ok (.goto (-32), 3) := by decide +kernel
theorem dX12_fresh_185 : decode cX12_fresh 185 = .ok (.iload 6, 2) := by decide +kernel
theorem dX12_fresh_187 : decode cX12_fresh 187 = .ok (.ireturn, 1) := by decide +kernel
theorem dX12_pulls_0 : decode cX12_pulls 0 = .ok (.aload_n 0, 1) := by decide +kernel
theorem dX12_pulls_1 : decode cX12_pulls 1 = .ok (.iconst 0, 1) := by decide +kernel
theorem dX12_pulls_2 : decode cX12_pulls 2 = .ok (.putfield 1, 3) := by decide +kernel
theorem dX12_pulls_5 : decode cX12_pulls 5 = .ok (.aload_n 0, 1) := by decide +kernel
theorem dX12_pulls_6 : decode cX12_pulls 6 = .ok (.iload_n 1, 1) := by decide +kernel
theorem dX12_pulls_7 : decode cX12_pulls 7 = .ok (.iload_n 2, 1) := by decide +kernel
theorem dX12_pulls_8 : decode cX12_pulls 8 = .ok (.invokevirtual 363, 3) := by decide +kernel
theorem dX12_pulls_11 : decode cX12_pulls 11 = .ok (.ifCond .eq 12, 3) := by decide +kernel
theorem dX12_pulls_14 : decode cX12_pulls 14 = .ok (.aload_n 0, 1) := by decide +kernel
theorem dX12_pulls_15 : decode cX12_pulls 15 = .ok (.iload_n 1, 1) := by decide +kernel
theorem dX12_pulls_16 : decode cX12_pulls 16 = .ok (.iload_n 2, 1) := by decide +kernel
theorem dX12_pulls_17 : decode cX12_pulls 17 = .ok (.invokevirtual 377, 3) := by decide +kernel
theorem dX12_pulls_20 : decode cX12_pulls 20 = .ok (.ifCond .eq 5, 3) := by decide +kernel
theorem dX12_pulls_23 : decode cX12_pulls 23 = .ok (.iconst (-1), 1) := by decide +kernel
theorem dX12_pulls_24 : decode cX12_pulls 24 = .ok (.ireturn, 1) := by decide +kernel
theorem dX12_pulls_25 : decode cX12_pulls 25 = .ok (.aload_n 0, 1) := by decide +kernel
theorem dX12_pulls_26 : decode cX12_pulls 26 = .ok (.aload_n 0, 1) := by decide +kernel
theorem dX12_pulls_27 : decode cX12_pulls 27 = .ok (.getfield 113, 3) := by decide +kernel
theorem dX12_pulls_30 : decode cX12_pulls 30 = .ok (.iconst 0, 1) := by decide +kernel
theorem dX12_pulls_31 : decode cX12_pulls 31 = .ok (.invokevirtual 373, 3) := by decide +kernel
theorem dX12_pulls_34 : decode cX12_pulls 34 = .ok (.iconst 0, 1) := by decide +kernel
theorem dX12_pulls_35 : decode cX12_pulls 35 = .ok (.istore_n 3, 1) := by decide +kernel
theorem dX12_pulls_36 : decode cX12_pulls 36 = .ok (.iload_n 3, 1) := by decide +kernel
theorem dX12_pulls_37 : decode cX12_pulls 37 = .ok (.bipush 100, 2) := by decide +kernel
theorem dX12_pulls_39 : decode cX12_pulls 39 = .ok (.if_icmp .ge 66, 3) := by decide +kernel
theorem dX12_pulls_42 : decode cX12_pulls 42 = .ok (.aload_n 0, 1) := by decide +kernel
theorem dX12_pulls_43 : decode cX12_pulls 43 = .ok (.iload_n 1, 1) := by decide +kernel
theorem dX12_pulls_44 : decode cX12_pulls 44 = .ok (.invokevirtual 317, 3) := by decide +kernel
theorem dX12_pulls_47 : decode cX12_pulls 47 = .ok (.aload_n 0, 1) := by decide +kernel
theorem dX12_pulls_48 : decode cX12_pulls 48 = .ok (.iload_n 2, 1) := by decide +kernel
theorem dX12_pulls_49 : decode cX12_pulls 49 = .ok (.invokevirtual 317, 3) := by decide +kernel
theorem dX12_pulls_52 : decode cX12_pulls 52 = .ok (.if_icmp .eq 53, 3) := by decide +kernel
theorem dX12_pulls_55 : decode cX12_pulls 55 = .ok (.iload_n 3, 1) := by decide +kernel
theorem dX12_pulls_56 : decode cX12_pulls 56 = .ok (.iconst 2, 1) := by decide +kernel
theorem dX12_pulls_57 : decode cX12_pulls 57 = .ok (.irem, 1) := by decide +kernel
theorem dX12_pulls_58 : decode cX12_pulls 58 = .ok (.ifCond .ne 7, 3) := by decide +kernel
theorem dX12_pulls_61 : decode cX12_pulls 61 = .ok (.iload_n 1, 1) := by decide +kernel
theorem dX12_pulls_62 : decode cX12_pulls 62 = .ok (.goto 4, 3) := by decide +kernel
theorem dX12_pulls_65 : decode cX12_pulls 65 = .ok (.iload_n 2, 1) := by decide +kernel
theorem dX12_pulls_66 : decode cX12_pulls 66 = .ok (.istore 4, 2) := by decide +kernel
theorem dX12_pulls_68 : decode cX12_pulls 68 = .ok (.aload_n 0, 1) := by decide +kernel
theorem dX12_pulls_69 : decode cX12_pulls 69 = .ok (.iconst 2, 1) := by decide +kernel
theorem dX12_pulls_70 : decode cX12_pulls 70 = .ok (.iload 4, 2) := by decide +kernel
theorem dX12_pulls_72 : decode cX12_pulls 72 = .ok (.iload_n 1, 1) := by decide +kernel
theorem dX12_pulls_73 : decode cX12_pulls 73 = .ok (.iload_n 2, 1) := by decide +kernel
theorem dX12_pulls_74 : decode cX12_pulls 74 = .ok (.iadd, 1) := by decide +kernel
theorem dX12_pulls_75 : decode cX12_pulls 75 = .ok (.iload 4, 2) := by decide +kernel
theorem dX12_pulls_77 : decode cX12_pulls 77 = .ok (.isub, 1) := by decide +kernel
theorem dX12_pulls_78 : decode cX12_pulls 78 = .ok (.iconst 0, 1) := by decide +kernel
theorem dX12_pulls_79 : decode cX12_pulls 79 = .ok (.invokevirtual 393, 3) := by decide +kernel
theorem dX12_pulls_82 : decode cX12_pulls 82 = .ok (.ifCond .ne 17, 3) := by decide +kernel
theorem dX12_pulls_85 : decode cX12_pulls 85 = .ok (.aload_n 0, 1) := by decide +kernel
theorem dX12_pulls_86 : decode cX12_pulls 86 = .ok (.iconst 2, 1) := by decide +kernel
theorem dX12_pulls_87 : decode cX12_pulls 87 = .ok (.iload 4, 2) := by decide +kernel
theorem dX12_pulls_89 : decode cX12_pulls 89 = .ok (.iload_n 1, 1) := by decide +kernel
theorem dX12_pulls_90 : decode cX12_pulls 90 = .ok (.iload_n 2, 1) := by decide +kernel
theorem dX12_pulls_91 : decode cX12_pulls 91 = .ok (.iadd, 1) := by decide +kernel
theorem dX12_pulls_92 : decode cX12_pulls 92 = .ok (.iload 4, 2) := by decide +kernel
theorem dX12_pulls_94 : decode cX12_pulls 94 = .ok (.isub, 1) := by decide +kernel
theorem dX12_pulls_95 : decode cX12_pulls 95 = .ok (.iconst 0, 1) := by decide +kernel
theorem dX12_pulls_96 : decode cX12_pulls 96 = .ok (.invokevirtual 400, 3) := by decide +kernel
theorem dX12_pulls_99 : decode cX12_pulls 99 = .ok (.iinc 3 1, 3) := by decide +kernel
theorem dX12_pulls_102 : decode cX12_pulls 102 = .ok (.goto (-66), 3) := by decide +kernel
theorem dX12_pulls_105 : decode cX12_pulls 105 = .ok (.aload_n 0, 1) := by decide +kernel
theorem dX12_pulls_106 : decode cX12_pulls 106 = .ok (.iload_n 1, 1) := by decide +kernel
theorem dX12_pulls_107 : decode cX12_pulls 107 = .ok (.invokevirtual 317, 3) := by decide +kernel
theorem dX12_pulls_110 : decode cX12_pulls 110 = .ok (.aload_n 0, 1) := by decide +kernel
theorem dX12_pulls_111 : decode cX12_pulls 111 = .ok (.iload_n 2, 1) := by decide +kernel
theorem dX12_pulls_112 : decode cX12_pulls 112 = .ok (.invokevirtual 317, 3) := by decide +kernel
theorem dX12_pulls_115 : decode cX12_pulls 115 = .ok (.if_icmp .ne 7, 3) := by decide +kernel
theorem dX12_pulls_118 : decode cX12_pulls 118 = .ok (.iconst 1, 1) := by decide +kernel
theorem dX12_pulls_119 : decode cX12_pulls 119 = .ok (.goto 4, 3) := by decide +kernel
theorem dX12_pulls_122 : decode cX12_pulls 122 = .ok (.iconst 0, 1) := by decide +kernel
theorem dX12_pulls_123 : decode cX12_pulls 123 = .ok (.istore 4, 2) := by decide +kernel
theorem dX12_pulls_125 : decode cX12_pulls 125 = .ok (.aload_n 0, 1) := by decide +kernel
theorem dX12_pulls_126 : decode cX12_pulls 126 = .ok (.aload_n 0, 1) := by decide +kernel
theorem dX12_pulls_127 : decode cX12_pulls 127 = .ok (.getfield 113, 3) := by decide +kernel
theorem dX12_pulls_130 : decode cX12_pulls 130 = .ok (.iconst 0, 1) := by decide +kernel
theorem dX12_pulls_131 : decode cX12_pulls 131 = .ok (.invokevirtual 408, 3) := by decide +kernel
theorem dX12_pulls_134 : decode cX12_pulls 134 = .ok (.iload 4, 2) := by decide +kernel
theorem dX12_pulls_136 : decode cX12_pulls 136 = .ok (.ifCond .eq 7, 3) := by decide +kernel
theorem dX12_pulls_139 : decode cX12_pulls 139 = .ok (.iload_n 3, 1) := by decide +kernel
theorem dX12_pulls_140 : decode cX12_pulls 140 = .ok (.goto 4, 3) := by decide +kernel
theorem dX12_pulls_143 : decode cX12_pulls 143 = .ok (.iconst (-1), 1) := by decide +kernel
theorem dX12_pulls_144 : decode cX12_pulls 144 = .ok (.ireturn, 1) := by decide +kernel
theorem dX12_path_0 : decode cX12_path 0 = .ok (.aload_n 0, 1) := by decide +kernel
theorem dX12_path_1 : decode cX12_path 1 = .ok (.iconst 0, 1) := by decide +kernel
theorem dX12_path_2 : decode cX12_path 2 = .ok (.putfield 1, 3) := by decide +kernel
theorem dX12_path_5 : decode cX12_path 5 = .ok (.aload_n 0, 1) := by decide +kernel
theorem dX12_path_6 : decode cX12_path 6 = .ok (.iload_n 1, 1) := by decide +kernel
theorem dX12_path_7 : decode cX12_path 7 = .ok (.invokevirtual 288, 3) := by decide +kernel
theorem dX12_path_10 : decode cX12_path 10 = .ok (.ifCond .eq 20, 3) := by decide +kernel
theorem dX12_path_13 : decode cX12_path 13 = .ok (.aload_n 0, 1) := by decide +kernel
theorem dX12_path_14 : decode cX12_path 14 = .ok (.iload_n 2, 1) := by decide +kernel
theorem dX12_path_15 : decode cX12_path 15 = .ok (.invokevirtual 326, 3) := by decide +kernel
theorem dX12_path_18 : decode cX12_path 18 = .ok (.ifCond .eq 12, 3) := by decide +kernel
theorem dX12_path_21 : decode cX12_path 21 = .ok (.aload_n 0, 1) := by decide +kernel
theorem dX12_path_22 : decode cX12_path 22 = .ok (.iload_n 1, 1) := by decide +kernel
theorem dX12_path_23 : decode cX12_path 23 = .ok (.iload_n 2, 1) := by decide +kernel
theorem dX12_path_24 : decode cX12_path 24 = .ok (.invokevirtual 294, 3) := by decide +kernel
theorem dX12_path_27 : decode cX12_path 27 = .ok (.ifCond .ne 5, 3) := by decide +kernel
theorem dX12_path_30 : decode cX12_path 30 = .ok (.iconst (-1), 1) := by decide +kernel
theorem dX12_path_31 : decode cX12_path 31 = .ok (.ireturn, 1) := by decide +kernel
theorem dX12_path_32 : decode cX12_path 32 = .ok (.aload_n 0, 1) := by decide +kernel
theorem dX12_path_33 : decode cX12_path 33 = .ok (.iconst 0, 1) := by decide +kernel
theorem dX12_path_34 : decode cX12_path 34 = .ok (.iload_n 1, 1) := by decide +kernel
theorem dX12_path_35 : decode cX12_path 35 = .ok (.invokevirtual 308, 3) := by decide +kernel
theorem dX12_path_38 : decode cX12_path 38 = .ok (.pop, 1) := by decide +kernel
theorem dX12_path_39 : decode cX12_path 39 = .ok (.aload_n 0, 1) := by decide +kernel
theorem dX12_path_40 : decode cX12_path 40 = .ok (.getfield 172, 3) := by decide +kernel
theorem dX12_path_43 : decode cX12_path 43 = .ok (.iload_n 2, 1) := by decide +kernel
theorem dX12_path_44 : decode cX12_path 44 = .ok (.iaload, 1) := by decide +kernel
theorem dX12_path_45 : decode cX12_path 45 = .ok (.ireturn, 1) := by decide +kernel
theorem dX12_fraction_0 : decode cX12_fraction 0 = .ok (.iload_n 3, 1) := by decide +kernel
theorem dX12_fraction_1 : decode cX12_fraction 1 = .ok (.ifCond .ne 7, 3) := by decide +kernel
theorem dX12_fraction_4 : decode cX12_fraction 4 = .ok (.iload_n 1, 1) := by decide +kernel
theorem dX12_fraction_5 : decode cX12_fraction 5 = .ok (.goto 4, 3) := by decide +kernel
theorem dX12_fraction_8 : decode cX12_fraction 8 = .ok (.iload_n 2, 1) := by decide +kernel
theorem dX12_fraction_9 : decode cX12_fraction 9 = .ok (.iload_n 1, 1) := by decide +kernel
theorem dX12_fraction_10 : decode cX12_fraction 10 = .ok (.iload_n 2, 1) := by decide +kernel
theorem dX12_fraction_11 : decode cX12_fraction 11 = .ok (.invokestatic 411, 3) := by decide +kernel
theorem dX12_fraction_14 : decode cX12_fraction 14 = .ok (.idiv, 1) := by decide +kernel
theorem dX12_fraction_15 : decode cX12_fraction 15 = .ok (.ireturn, 1) := by decide +kernel
theorem dX12_mean_0 : decode cX12_mean 0 = .ok (.aload_n 0, 1) := by decide +kernel
theorem dX12_mean_1 : decode cX12_mean 1 = .ok (.iconst 0, 1) := by decide +kernel
theorem dX12_mean_2 : decode cX12_mean 2 = .ok (.putfield 1, 3) := by decide +kernel
theorem dX12_mean_5 : decode cX12_mean 5 = .ok (.aload_n 0, 1) := by decide +kernel
theorem dX12_mean_6 : decode cX12_mean 6 = .ok (.iload_n 1, 1) := by decide +kernel
theorem dX12_mean_7 : decode cX12_mean 7 = .ok (.invokevirtual 288, 3) := by decide +kernel
theorem dX12_mean_10 : decode cX12_mean 10 = .ok (.ifCond .eq 20, 3) := by decide +kernel
theorem dX12_mean_13 : decode cX12_mean 13 = .ok (.aload_n 0, 1) := by decide +kernel
theorem dX12_mean_14 : decode cX12_mean 14 = .ok (.iload_n 1, 1) := by decide +kernel
theorem dX12_mean_15 : decode cX12_mean 15 = .ok (.invokevirtual 332, 3) := by decide +kernel
theorem dX12_mean_18 : decode cX12_mean 18 = .ok (.ifCond .eq 12, 3) := by decide +kernel
theorem dX12_mean_21 : decode cX12_mean 21 = .ok (.iload_n 2, 1) := by decide +kernel
theorem dX12_mean_22 : decode cX12_mean 22 = .ok (.iconst 0, 1) := by decide +kernel
theorem dX12_mean_23 : decode cX12_mean 23 = .ok (.iconst 1, 1) := by decide +kernel
theorem dX12_mean_24 : decode cX12_mean 24 = .ok (.invokestatic 75, 3) := by decide +kernel
theorem dX12_mean_27 : decode cX12_mean 27 = .ok (.ifCond .ne 8, 3) := by decide +kernel
theorem dX12_mean_30 : decode cX12_mean 30 = .ok (.aload_n 0, 1) := by decide +kernel
theorem dX12_mean_31 : decode cX12_mean 31 = .ok (.invokevirtual 329, 3) := by decide +kernel
theorem dX12_mean_34 : decode cX12_mean 34 = .ok (.ireturn, 1) := by decide +kernel
theorem dX12_mean_35 : decode cX12_mean 35 = .ok (.aload_n 0, 1) := by decide +kernel
theorem dX12_mean_36 : decode cX12_mean 36 = .ok (.iconst 0, 1) := by decide +kernel
theorem dX12_mean_37 : decode cX12_mean 37 = .ok (.iload_n 1, 1) := by decide +kernel
theorem dX12_mean_38 : decode cX12_mean 38 = .ok (.invokevirtual 308, 3) := by decide +kernel
theorem dX12_mean_41 : decode cX12_mean 41 = .ok (.pop, 1) := by decide +kernel
theorem dX12_mean_42 : decode cX12_mean 42 = .ok (.aload_n 0, 1) := by decide +kernel
theorem dX12_mean_43 : decode cX12_mean 43 = .ok (.aload_n 0, 1) := by decide +kernel
theorem dX12_mean_44 : decode cX12_mean 44 = .ok (.iload_n 1, 1) := by decide +kernel
theorem dX12_mean_45 : decode cX12_mean 45 = .ok (.invokevirtual 332, 3) := by decide +kernel
theorem dX12_mean_48 : decode cX12_mean 48 = .ok (.aload_n 0, 1) := by decide +kernel
theorem dX12_mean_49 : decode cX12_mean 49 = .ok (.getfield 148, 3) := by decide +kernel
theorem dX12_mean_52 : decode cX12_mean 52 = .ok (.iconst 0, 1) := by decide +kernel
theorem dX12_mean_53 : decode cX12_mean 53 = .ok (.iaload, 1) := by decide +kernel
theorem dX12_mean_54 : decode cX12_mean 54 = .ok (.iload_n 2, 1) := by decide +kernel
theorem dX12_mean_55 : decode cX12_mean 55 = .ok (.invokevirtual 414, 3) := by decide +kernel
theorem dX12_mean_58 : decode cX12_mean 58 = .ok (.ireturn, 1) := by decide +kernel
theorem dX12_part_0 : decode cX12_part 0 = .ok (.aload_n 0, 1) := by decide +kernel
theorem dX12_part_1 : decode cX12_part 1 = .ok (.iconst 0, 1) := by decide +kernel
theorem dX12_part_2 : decode cX12_part 2 = .ok (.putfield 1, 3) := by decide +kernel
theorem dX12_part_5 : decode cX12_part 5 = .ok (.aload_n 0, 1) := by decide +kernel
theorem dX12_part_6 : decode cX12_part 6 = .ok (.iload_n 1, 1) := by decide +kernel
theorem dX12_part_7 : decode cX12_part 7 = .ok (.iload_n 2, 1) := by decide +kernel
theorem dX12_part_8 : decode cX12_part 8 = .ok (.invokevirtual 363, 3) := by decide +kernel
theorem dX12_part_11 : decode cX12_part 11 = .ok (.ifCond .eq 20, 3) := by decide +kernel
theorem dX12_part_14 : decode cX12_part 14 = .ok (.aload_n 0, 1) := by decide +kernel
theorem dX12_part_15 : decode cX12_part 15 = .ok (.iload_n 1, 1) := by decide +kernel
theorem dX12_part_16 : decode cX12_part 16 = .ok (.invokevirtual 332, 3) := by decide +kernel
theorem dX12_part_19 : decode cX12_part 19 = .ok (.ifCond .eq 12, 3) := by decide +kernel
theorem dX12_part_22 : decode cX12_part 22 = .ok (.iload_n 3, 1) := by decide +kernel
theorem dX12_part_23 : decode cX12_part 23 = .ok (.iconst 0, 1) := by decide +kernel
theorem dX12_part_24 : decode cX12_part 24 = .ok (.iconst 1, 1) := by decide +kernel
theorem dX12_part_25 : decode cX12_part 25 = .ok (.invokestatic 75, 3) := by decide +kernel
theorem dX12_part_28 : decode cX12_part 28 = .ok (.ifCond .ne 8, 3) := by decide +kernel
theorem dX12_part_31 : decode cX12_part 31 = .ok (.aload_n 0, 1) := by decide +kernel
theorem dX12_part_32 : decode cX12_part 32 = .ok (.invokevirtual 329, 3) := by decide +kernel
theorem dX12_part_35 : decode cX12_part 35 = .ok (.ireturn, 1) := by decide +kernel
theorem dX12_part_36 : decode cX12_part 36 = .ok (.aload_n 0, 1) := by decide +kernel
theorem dX12_part_37 : decode cX12_part 37 = .ok (.iload_n 1, 1) := by decide +kernel
theorem dX12_part_38 : decode cX12_part 38 = .ok (.iload_n 2, 1) := by decide +kernel
theorem dX12_part_39 : decode cX12_part 39 = .ok (.invokevirtual 354, 3) := by decide +kernel
theorem dX12_part_42 : decode cX12_part 42 = .ok (.invokestatic 338, 3) := by decide +kernel
theorem dX12_part_45 : decode cX12_part 45 = .ok (.istore 4, 2) := by decide +kernel
theorem dX12_part_47 : decode cX12_part 47 = .ok (.aload_n 0, 1) := by decide +kernel
theorem dX12_part_48 : decode cX12_part 48 = .ok (.iload 4, 2) := by decide +kernel
theorem dX12_part_50 : decode cX12_part 50 = .ok (.aload_n 0, 1) := by decide +kernel
theorem dX12_part_51 : decode cX12_part 51 = .ok (.getfield 148, 3) := by decide +kernel
theorem dX12_part_54 : decode cX12_part 54 = .ok (.iconst 0, 1) := by decide +kernel
theorem dX12_part_55 : decode cX12_part 55 = .ok (.iaload, 1) := by decide +kernel
theorem dX12_part_56 : decode cX12_part 56 = .ok (.iload_n 3, 1) := by decide +kernel
theorem dX12_part_57 : decode cX12_part 57 = .ok (.invokevirtual 414, 3) := by decide +kernel
theorem dX12_part_60 : decode cX12_part 60 = .ok (.ireturn, 1) := by decide +kernel
theorem dX12_say_0 : decode cX12_say 0 = .ok (.aload_n 0, 1) := by decide +kernel
theorem dX12_say_1 : decode cX12_say 1 = .ok (.getfield 181, 3) := by decide +kernel
theorem dX12_say_4 : decode cX12_say 4 = .ok (.aload_n 0, 1) := by decide +kernel
theorem dX12_say_5 : decode cX12_say 5 = .ok (.getfield 417, 3) := by decide +kernel
theorem dX12_say_8 : decode cX12_say 8 = .ok (.iload_n 1, 1) := by decide +kernel
theorem dX12_say_9 : decode cX12_say 9 = .ok (.iastore, 1) := by decide +kernel
theorem dX12_say_10 : decode cX12_say 10 = .ok (.aload_n 0, 1) := by decide +kernel
theorem dX12_say_11 : decode cX12_say 11 = .ok (.dup, 1) := by decide +kernel
theorem dX12_say_12 : decode cX12_say 12 = .ok (.getfield 417, 3) := by decide +kernel
theorem dX12_say_15 : decode cX12_say 15 = .ok (.iconst 1, 1) := by decide +kernel
theorem dX12_say_16 : decode cX12_say 16 = .ok (.iadd, 1) := by decide +kernel
theorem dX12_say_17 : decode cX12_say 17 = .ok (.putfield 417, 3) := by decide +kernel
theorem dX12_say_20 : decode cX12_say 20 = .ok (.return_, 1) := by decide +kernel
theorem dX12_sayWord_0 : decode cX12_sayWord 0 = .ok (.lload_n 1, 1) := by decide +kernel
theorem dX12_sayWord_1 : decode cX12_sayWord 1 = .ok (.ldc2_w 54, 3) := by decide +kernel
theorem dX12_sayWord_4 : decode cX12_sayWord 4 = .ok (.lcmp, 1) := by decide +kernel
theorem dX12_sayWord_5 : decode cX12_sayWord 5 = .ok (.ifCond .lt 12, 3) := by decide +kernel
theorem dX12_sayWord_8 : decode cX12_sayWord 8 = .ok (.aload_n 0, 1) := by decide +kernel
theorem dX12_sayWord_9 : decode cX12_sayWord 9 = .ok (.lload_n 1, 1) := by decide +kernel
theorem dX12_sayWord_10 : decode cX12_sayWord 10 = .ok (.ldc2_w 54, 3) := by decide +kernel
theorem dX12_sayWord_13 : decode cX12_sayWord 13 = .ok (.ldiv, 1) := by decide +kernel
theorem dX12_sayWord_14 : decode cX12_sayWord 14 = .ok (.invokevirtual 420, 3) := by decide +kernel
theorem dX12_sayWord_17 : decode cX12_sayWord 17 = .ok (.aload_n 0, 1) := by decide +kernel
theorem dX12_sayWord_18 : decode cX12_sayWord 18 = .ok (.bipush 96, 2) := by decide +kernel
theorem dX12_sayWord_20 : decode cX12_sayWord 20 = .ok (.lload_n 1, 1) := by decide +kernel
theorem dX12_sayWord_21 : decode cX12_sayWord 21 = .ok (.ldc2_w 54, 3) := by decide +kernel
theorem dX12_sayWord_24 : decode cX12_sayWord 24 = .ok (.lrem, 1) := by decide +kernel
theorem dX12_sayWord_25 : decode cX12_sayWord 25 = .ok (.l2i, 1) := by decide +kernel
theorem dX12_sayWord_26 : decode cX12_sayWord 26 = .ok (.iadd, 1) := by decide +kernel
theorem dX12_sayWord_27 : decode cX12_sayWord 27 = .ok (.invokevirtual 424, 3) := by decide +kernel
theorem dX12_sayWord_30 : decode cX12_sayWord 30 = .ok (.return_, 1) := by decide +kernel
theorem dX12_sayNext_0 : decode cX12_sayNext 0 = .ok (.aload_n 0, 1) := by decide +kernel
theorem dX12_sayNext_1 : decode cX12_sayNext 1 = .ok (.bipush 32, 2) := by decide +kernel
theorem dX12_sayNext_3 : decode cX12_sayNext 3 = .ok (.invokevirtual 424, 3) := by decide +kernel
theorem dX12_sayNext_6 : decode cX12_sayNext 6 = .ok (.aload_n 0, 1) := by decide +kernel
theorem dX12_sayNext_7 : decode cX12_sayNext 7 = .ok (.lload_n 1, 1) := by decide +kernel
theorem dX12_sayNext_8 : decode cX12_sayNext 8 = .ok (.invokevirtual 420, 3) := by decide +kernel
theorem dX12_sayNext_11 : decode cX12_sayNext 11 = .ok (.return_, 1) := by decide +kernel
theorem dX12_sayNumber_0 : decode cX12_sayNumber 0 = .ok (.iload_n 1, 1) := by decide +kernel
theorem dX12_sayNumber_1 : decode cX12_sayNumber 1 = .ok (.bipush 9, 2) := by decide +kernel
theorem dX12_sayNumber_3 : decode cX12_sayNumber 3 = .ok (.if_icmp .le 11, 3) := by decide +kernel
theorem dX12_sayNumber_6 : decode cX12_sayNumber 6 = .ok (.aload_n 0, 1) := by decide +kernel
theorem dX12_sayNumber_7 : decode cX12_sayNumber 7 = .ok (.iload_n 1, 1) := by decide +kernel
theorem dX12_sayNumber_8 : decode cX12_sayNumber 8 = .ok (.bipush 10, 2) := by decide +kernel
theorem dX12_sayNumber_10 : decode cX12_sayNumber 10 = .ok (.idiv, 1) := by decide +kernel
theorem dX12_sayNumber_11 : decode cX12_sayNumber 11 = .ok (.invokevirtual 427, 3) := by decide +kernel
theorem dX12_sayNumber_14 : decode cX12_sayNumber 14 = .ok (.aload_n 0, 1) := by decide +kernel
theorem dX12_sayNumber_15 : decode cX12_sayNumber 15 = .ok (.bipush 48, 2) := by decide +kernel
theorem dX12_sayNumber_17 : decode cX12_sayNumber 17 = .ok (.iload_n 1, 1) := by decide +kernel
theorem dX12_sayNumber_18 : decode cX12_sayNumber 18 = .ok (.bipush 10, 2) := by decide +kernel
theorem dX12_sayNumber_20 : decode cX12_sayNumber 20 = .ok (.irem, 1) := by decide +kernel
theorem dX12_sayNumber_21 : decode cX12_sayNumber 21 = .ok (.iadd, 1) := by decide +kernel
theorem dX12_sayNumber_22 : decode cX12_sayNumber 22 = .ok (.invokevirtual 424, 3) := by decide +kernel
theorem dX12_sayNumber_25 : decode cX12_sayNumber 25 = .ok (.return_, 1) := by decide +kernel
theorem dX12_tag_0 : decode cX12_tag 0 = .ok (.aload_n 0, 1) := by decide +kernel
theorem dX12_tag_1 : decode cX12_tag 1 = .ok (.iconst 0, 1) := by decide +kernel
theorem dX12_tag_2 : decode cX12_tag 2 = .ok (.putfield 1, 3) := by decide +kernel
theorem dX12_tag_5 : decode cX12_tag 5 = .ok (.aload_n 0, 1) := by decide +kernel
theorem dX12_tag_6 : decode cX12_tag 6 = .ok (.iload_n 1, 1) := by decide +kernel
theorem dX12_tag_7 : decode cX12_tag 7 = .ok (.invokevirtual 288, 3) := by decide +kernel
theorem dX12_tag_10 : decode cX12_tag 10 = .ok (.ifCond .ne 5, 3) := by decide +kernel
theorem dX12_tag_13 : decode cX12_tag 13 = .ok (.iconst (-1), 1) := by decide +kernel
theorem dX12_tag_14 : decode cX12_tag 14 = .ok (.ireturn, 1) := by decide +kernel
theorem dX12_tag_15 : decode cX12_tag 15 = .ok (.aload_n 0, 1) := by decide +kernel
theorem dX12_tag_16 : decode cX12_tag 16 = .ok (.iconst 0, 1) := by decide +kernel
theorem dX12_tag_17 : decode cX12_tag 17 = .ok (.iload_n 1, 1) := by decide +kernel
theorem dX12_tag_18 : decode cX12_tag 18 = .ok (.invokevirtual 308, 3) := by decide +kernel
theorem dX12_tag_21 : decode cX12_tag 21 = .ok (.pop, 1) := by decide +kernel
theorem dX12_tag_22 : decode cX12_tag 22 = .ok (.aload_n 0, 1) := by decide +kernel
theorem dX12_tag_23 : decode cX12_tag 23 = .ok (.iconst 0, 1) := by decide +kernel
theorem dX12_tag_24 : decode cX12_tag 24 = .ok (.putfield 417, 3) := by decide +kernel
theorem dX12_tag_27 : decode cX12_tag 27 = .ok (.aload_n 0, 1) := by decide +kernel
theorem dX12_tag_28 : decode cX12_tag 28 = .ok (.aload_n 0, 1) := by decide +kernel
theorem dX12_tag_29 : decode cX12_tag 29 = .ok (.getfield 116, 3) := by decide +kernel
theorem dX12_tag_32 : decode cX12_tag 32 = .ok (.bipush 24, 2) := by decide +kernel
theorem dX12_tag_34 : decode cX12_tag 34 = .ok (.iload_n 1, 1) := by decide +kernel
theorem dX12_tag_35 : decode cX12_tag 35 = .ok (.iadd, 1) := by decide +kernel
theorem dX12_tag_36 : decode cX12_tag 36 = .ok (.laload, 1) := by decide +kernel
theorem dX12_tag_37 : decode cX12_tag 37 = .ok (.invokevirtual 420, 3) := by decide +kernel
theorem dX12_tag_40 : decode cX12_tag 40 = .ok (.aload_n 0, 1) := by decide +kernel
theorem dX12_tag_41 : decode cX12_tag 41 = .ok (.bipush 8, 2) := by decide +kernel
theorem dX12_tag_43 : decode cX12_tag 43 = .ok (.invokestatic 62, 3) := by decide +kernel
theorem dX12_tag_46 : decode cX12_tag 46 = .ok (.invokevirtual 430, 3) := by decide +kernel
theorem dX12_tag_49 : decode cX12_tag 49 = .ok (.aload_n 0, 1) := by decide +kernel
theorem dX12_tag_50 : decode cX12_tag 50 = .ok (.bipush 32, 2) := by decide +kernel
theorem dX12_tag_52 : decode cX12_tag 52 = .ok (.invokevirtual 424, 3) := by decide +kernel
theorem dX12_tag_55 : decode cX12_tag 55 = .ok (.aload_n 0, 1) := by decide +kernel
theorem dX12_tag_56 : decode cX12_tag 56 = .ok (.aload_n 0, 1) := by decide +kernel
theorem dX12_tag_57 : decode cX12_tag 57 = .ok (.iload_n 1, 1) := by decide +kernel
theorem dX12_tag_58 : decode cX12_tag 58 = .ok (.invokevirtual 332, 3) := by decide +kernel
theorem dX12_tag_61 : decode cX12_tag 61 = .ok (.invokevirtual 427, 3) := by decide +kernel
theorem dX12_tag_64 : decode cX12_tag 64 = .ok (.aload_n 0, 1) := by decide +kernel
theorem dX12_tag_65 : decode cX12_tag 65 = .ok (.bipush 105, 2) := by decide +kernel
theorem dX12_tag_67 : decode cX12_tag 67 = .ok (.bipush 110, 2) := by decide +kernel
theorem dX12_tag_69 : decode cX12_tag 69 = .ok (.iconst 0, 1) := by decide +kernel
theorem dX12_tag_70 : decode cX12_tag 70 = .ok (.iconst 0, 1) := by decide +kernel
theorem dX12_tag_71 : decode cX12_tag 71 = .ok (.iconst 0, 1) := by decide +kernel
theorem dX12_tag_72 : decode cX12_tag 72 = .ok (.iconst 0, 1) := by decide +kernel
theorem dX12_tag_73 : decode cX12_tag 73 = .ok (.invokestatic 58, 3) := by decide +kernel
theorem dX12_tag_76 : decode cX12_tag 76 = .ok (.invokevirtual 430, 3) := by decide +kernel
theorem dX12_tag_79 : decode cX12_tag 79 = .ok (.aload_n 0, 1) := by decide +kernel
theorem dX12_tag_80 : decode cX12_tag 80 = .ok (.bipush 32, 2) := by decide +kernel
theorem dX12_tag_82 : decode cX12_tag 82 = .ok (.invokevirtual 424, 3) := by decide +kernel
theorem dX12_tag_85 : decode cX12_tag 85 = .ok (.aload_n 0, 1) := by decide +kernel
theorem dX12_tag_86 : decode cX12_tag 86 = .ok (.aload_n 0, 1) := by decide +kernel
theorem dX12_tag_87 : decode cX12_tag 87 = .ok (.getfield 148, 3) := by decide +kernel
theorem dX12_tag_90 : decode cX12_tag 90 = .ok (.iconst 0, 1) := by decide +kernel
theorem dX12_tag_91 : decode cX12_tag 91 = .ok (.iaload, 1) := by decide +kernel
theorem dX12_tag_92 : decode cX12_tag 92 = .ok (.invokevirtual 427, 3) := by decide +kernel
theorem dX12_tag_95 : decode cX12_tag 95 = .ok (.aload_n 0, 1) := by decide +kernel
theorem dX12_tag_96 : decode cX12_tag 96 = .ok (.getfield 98, 3) := by decide +kernel
theorem dX12_tag_99 : decode cX12_tag 99 = .ok (.sipush 205, 3) := by decide +kernel
theorem dX12_tag_102 : decode cX12_tag 102 = .ok (.iload_n 1, 1) := by decide +kernel
theorem dX12_tag_103 : decode cX12_tag 103 = .ok (.iadd, 1) := by decide +kernel
theorem dX12_tag_104 : decode cX12_tag 104 = .ok (.iaload, 1) := by decide +kernel
theorem dX12_tag_105 : decode cX12_tag 105 = .ok (.ifCond .ne 8, 3) := by decide +kernel
theorem dX12_tag_108 : decode cX12_tag 108 = .ok (.aload_n 0, 1) := by decide +kernel
theorem dX12_tag_109 : decode cX12_tag 109 = .ok (.getfield 417, 3) := by decide +kernel
theorem dX12_tag_112 : decode cX12_tag 112 = .ok (.ireturn, 1) := by decide +kernel
theorem dX12_tag_113 : decode cX12_tag 113 = .ok (.aload_n 0, 1) := by decide +kernel
theorem dX12_tag_114 : decode cX12_tag 114 = .ok (.bipush 12, 2) := by decide +kernel
theorem dX12_tag_116 : decode cX12_tag 116 = .ok (.invokestatic 62, 3) := by decide +kernel
theorem dX12_tag_119 : decode cX12_tag 119 = .ok (.invokevirtual 430, 3) := by decide +kernel
theorem dX12_tag_122 : decode cX12_tag 122 = .ok (.iconst 0, 1) := by decide +kernel
theorem dX12_tag_123 : decode cX12_tag 123 = .ok (.istore_n 2, 1) := by decide +kernel
theorem dX12_tag_124 : decode cX12_tag 124 = .ok (.aload_n 0, 1) := by decide +kernel
theorem dX12_tag_125 : decode cX12_tag 125 = .ok (.iload_n 1, 1) := by decide +kernel
theorem dX12_tag_126 : decode cX12_tag 126 = .ok (.iload_n 2, 1) := by decide +kernel
theorem dX12_tag_127 : decode cX12_tag 127 = .ok (.invokevirtual 377, 3) := by decide +kernel
theorem dX12_tag_130 : decode cX12_tag 130 = .ok (.ifCond .ne 9, 3) := by decide +kernel
theorem dX12_tag_133 : decode cX12_tag 133 = .ok (.iinc 2 1, 3) := by decide +kernel
theorem dX12_tag_136 : decode cX12_tag 136 = .ok (.goto (-12), 3) := by decide +kernel
theorem dX12_tag_139 : decode cX12_tag 139 = .ok (.aload_n 0, 1) := by decide +kernel
theorem dX12_tag_140 : decode cX12_tag 140 = .ok (.aload_n 0, 1) := by decide +kernel
theorem dX12_tag_141 : decode cX12_tag 141 = .ok (.getfield 116, 3) := by decide +kernel
theorem dX12_tag_144 : decode cX12_tag 144 = .ok (.bipush 24, 2) := by decide +kernel
theorem dX12_tag_146 : decode cX12_tag 146 = .ok (.iload_n 2, 1) := by decide +kernel
theorem dX12_tag_147 : decode cX12_tag 147 = .ok (.iadd, 1) := by decide +kernel
theorem dX12_tag_148 : decode cX12_tag 148 = .ok (.laload, 1) := by decide +kernel
theorem dX12_tag_149 : decode cX12_tag 149 = .ok (.invokevirtual 430, 3) := by decide +kernel
theorem dX12_tag_152 : decode cX12_tag 152 = .ok (.aload_n 0, 1) := by decide +kernel
theorem dX12_tag_153 : decode cX12_tag 153 = .ok (.getfield 417, 3) := by decide +kernel
theorem dX12_tag_156 : decode cX12_tag 156 = .ok (.ireturn, 1) := by decide +kernel
theorem dX12_byteAt_0 : decode cX12_byteAt 0 = .ok (.aload_n 0, 1) := by decide +kernel
theorem dX12_byteAt_1 : decode cX12_byteAt 1 = .ok (.iconst 0, 1) := by decide +kernel
theorem dX12_byteAt_2 : decode cX12_byteAt 2 = .ok (.putfield 1, 3) := by decide +kernel
theorem dX12_byteAt_5 : decode cX12_byteAt 5 = .ok (.iload_n 1, 1) := by decide +kernel
theorem dX12_byteAt_6 : decode cX12_byteAt 6 = .ok (.iconst 0, 1) := by decide +kernel
theorem dX12_byteAt_7 : decode cX12_byteAt 7 = .ok (.aload_n 0, 1) := by decide +kernel
theorem dX12_byteAt_8 : decode cX12_byteAt 8 = .ok (.getfield 417, 3) := by decide +kernel
theorem dX12_byteAt_11 : decode cX12_byteAt 11 = .ok (.iconst 1, 1) := by decide +kernel
theorem dX12_byteAt_12 : decode cX12_byteAt 12 = .ok (.isub, 1) := by decide +kernel
theorem dX12_byteAt_13 : decode cX12_byteAt 13 = .ok (.invokestatic 75, 3) := by decide +kernel
theorem dX12_byteAt_16 : decode cX12_byteAt 16 = .ok (.ifCond .eq 12, 3) := by decide +kernel
theorem dX12_byteAt_19 : decode cX12_byteAt 19 = .ok (.aload_n 0, 1) := by decide +kernel
theorem dX12_byteAt_20 : decode cX12_byteAt 20 = .ok (.getfield 181, 3) := by decide +kernel
theorem dX12_byteAt_23 : decode cX12_byteAt 23 = .ok (.iload_n 1, 1) := by decide +kernel
theorem dX12_byteAt_24 : decode cX12_byteAt 24 = .ok (.iaload, 1) := by decide +kernel
theorem dX12_byteAt_25 : decode cX12_byteAt 25 = .ok (.goto 4, 3) := by decide +kernel
theorem dX12_byteAt_28 : decode cX12_byteAt 28 = .ok (.iconst (-1), 1) := by decide +kernel
theorem dX12_byteAt_29 : decode cX12_byteAt 29 = .ok (.ireturn, 1) := by decide +kernel
theorem dX12_draw_0 : decode cX12_draw 0 = .ok (.aload_n 0, 1) := by decide +kernel
theorem dX12_draw_1 : decode cX12_draw 1 = .ok (.aload_n 0, 1) := by decide +kernel
theorem dX12_draw_2 : decode cX12_draw 2 = .ok (.getfield 433, 3) := by decide +kernel
theorem dX12_draw_5 : decode cX12_draw 5 = .ok (.ldc_w 436, 3) := by decide +kernel
theorem dX12_draw_8 : decode cX12_draw 8 = .ok (.imul, 1) := by decide +kernel
theorem dX12_draw_9 : decode cX12_draw 9 = .ok (.sipush 12345, 3) := by decide +kernel
theorem dX12_draw_12 : decode cX12_draw 12 = .ok (.iadd, 1) := by decide +kernel
theorem dX12_draw_13 : decode cX12_draw 13 = .ok (.putfield 433, 3) := by decide +kernel
theorem dX12_draw_16 : decode cX12_draw 16 = .ok (.aload_n 0, 1) := by decide +kernel
theorem dX12_draw_17 : decode cX12_draw 17 = .ok (.getfield 433, 3) := by decide +kernel
theorem dX12_draw_20 : decode cX12_draw 20 = .ok (.bipush 8, 2) := by decide +kernel
theorem dX12_draw_22 : decode cX12_draw 22 = .ok (.iushr, 1) := by decide +kernel
theorem dX12_draw_23 : decode cX12_draw 23 = .ok (.iload_n 1, 1) := by decide +kernel
theorem dX12_draw_24 : decode cX12_draw 24 = .ok (.irem, 1) := by decide +kernel
theorem dX12_draw_25 : decode cX12_draw 25 = .ok (.ireturn, 1) := by decide +kernel
theorem dX12_doIf_0 : decode cX12_doIf 0 = .ok (.aload_n 0, 1) := by decide +kernel
theorem dX12_doIf_1 : decode cX12_doIf 1 = .ok (.iload_n 1, 1) := by decide +kernel
theorem dX12_doIf_2 : decode cX12_doIf 2 = .ok (.iload_n 2, 1) := by decide +kernel
theorem dX12_doIf_3 : decode cX12_doIf 3 = .ok (.iload_n 3, 1) := by decide +kernel
theorem dX12_doIf_4 : decode cX12_doIf 4 = .ok (.iload 4, 2) := by decide +kernel
theorem dX12_doIf_6 : decode cX12_doIf 6 = .ok (.invokevirtual 393, 3) := by decide +kernel
theorem dX12_doIf_9 : decode cX12_doIf 9 = .ok (.istore 5, 2) := by decide +kernel
theorem dX12_doIf_11 : decode cX12_doIf 11 = .ok (.iload 5, 2) := by decide +kernel
theorem dX12_doIf_13 : decode cX12_doIf 13 = .ok (.ifCond .ne 15, 3) := by decide +kernel
theorem dX12_doIf_16 : decode cX12_doIf 16 = .ok (.aload_n 0, 1) := by decide +kernel
theorem dX12_doIf_17 : decode cX12_doIf 17 = .ok (.iload_n 1, 1) := by decide +kernel
theorem dX12_doIf_18 : decode cX12_doIf 18 = .ok (.iload_n 2, 1) := by decide +kernel
theorem dX12_doIf_19 : decode cX12_doIf 19 = .ok (.iload_n 3, 1) := by decide +kernel
theorem dX12_doIf_20 : decode cX12_doIf 20 = .ok (.iload 4, 2) := by decide +kernel
theorem dX12_doIf_22 : decode cX12_doIf 22 = .ok (.invokevirtual 400, 3) := by decide +kernel
theorem dX12_doIf_25 : decode cX12_doIf 25 = .ok (.goto 14, 3) := by decide +kernel
theorem dX12_doIf_28 : decode cX12_doIf 28 = .ok (.aload_n 0, 1) := by decide +kernel
theorem dX12_doIf_29 : decode cX12_doIf 29 = .ok (.getfield 184, 3) := by decide +kernel
theorem dX12_doIf_32 : decode cX12_doIf 32 = .ok (.iload 5, 2) := by decide +kernel
theorem dX12_doIf_34 : decode cX12_doIf 34 = .ok (.dup2, 1) := by decide +kernel
theorem dX12_doIf_35 : decode cX12_doIf 35 = .ok (.iaload, 1) := by decide +kernel
theorem dX12_doIf_36 : decode cX12_doIf 36 = .ok (.iconst 1, 1) := by decide +kernel
theorem dX12_doIf_37 : decode cX12_doIf 37 = .ok (.iadd, 1) := by decide +kernel
theorem dX12_doIf_38 : decode cX12_doIf 38 = .ok (.iastore, 1) := by decide +kernel
theorem dX12_doIf_39 : decode cX12_doIf 39 = .ok (.return_, 1) := by decide +kernel
theorem dX12_drawsRound_0 : decode cX12_drawsRound 0 = .ok (.aload_n 0, 1) := by decide +kernel
theorem dX12_drawsRound_1 : decode cX12_drawsRound 1 = .ok (.bipush 8, 2) := by decide +kernel
theorem dX12_drawsRound_3 : decode cX12_drawsRound 3 = .ok (.invokevirtual 437, 3) := by decide +kernel
theorem dX12_drawsRound_6 : decode cX12_drawsRound 6 = .ok (.istore_n 1, 1) := by decide +kernel
theorem dX12_drawsRound_7 : decode cX12_drawsRound 7 = .ok (.aload_n 0, 1) := by decide +kernel
theorem dX12_drawsRound_8 : decode cX12_drawsRound 8 = .ok (.aload_n 0, 1) := by decide +kernel
theorem dX12_drawsRound_9 : decode cX12_drawsRound 9 = .ok (.getfield 98, 3) := by decide +kernel
theorem dX12_drawsRound_12 : decode cX12_drawsRound 12 = .ok (.iconst 1, 1) := by decide +kernel
theorem dX12_drawsRound_13 : decode cX12_drawsRound 13 = .ok (.iaload, 1) := by decide +kernel
theorem dX12_drawsRound_14 : decode cX12_drawsRound 14 = .ok (.invokevirtual 437, 3) := by decide +kernel
theorem dX12_drawsRound_17 : decode cX12_drawsRound 17 = .ok (.istore_n 2, 1) := by decide +kernel
theorem dX12_drawsRound_18 : decode cX12_drawsRound 18 = .ok (.iload_n 1, 1) := by decide +kernel
theorem dX12_drawsRound_19 : decode cX12_drawsRound 19 = .ok (.iconst 2, 1) := by decide +kernel
theorem dX12_drawsRound_20 : decode cX12_drawsRound 20 = .ok (.if_icmp .ge 28, 3) := by decide +kernel
theorem dX12_drawsRound_23 : decode cX12_drawsRound 23 = .ok (.aload_n 0, 1) := by decide +kernel
theorem dX12_drawsRound_24 : decode cX12_drawsRound 24 = .ok (.aload_n 0, 1) := by decide +kernel
theorem dX12_drawsRound_25 : decode cX12_drawsRound 25 = .ok (.getfield 98, 3) := by decide +kernel
theorem dX12_drawsRound_28 : decode cX12_drawsRound 28 = .ok (.iconst 0, 1) := by decide +kernel
theorem dX12_drawsRound_29 : decode cX12_drawsRound 29 = .ok (.iaload, 1) := by decide +kernel
theorem dX12_drawsRound_30 : decode cX12_drawsRound 30 = .ok (.invokevirtual 437, 3) := by decide +kernel
theorem dX12_drawsRound_33 : decode cX12_drawsRound 33 = .ok (.istore_n 3, 1) := by decide +kernel
theorem dX12_drawsRound_34 : decode cX12_drawsRound 34 = .ok (.aload_n 0, 1) := by decide +kernel
theorem dX12_drawsRound_35 : decode cX12_drawsRound 35 = .ok (.iconst 0, 1) := by decide +kernel
theorem dX12_drawsRound_36 : decode cX12_drawsRound 36 = .ok (.iload_n 2, 1) := by decide +kernel
theorem dX12_drawsRound_37 : decode cX12_drawsRound 37 = .ok (.iload_n 3, 1) := by decide +kernel
theorem dX12_drawsRound_38 : decode cX12_drawsRound 38 = .ok (.aload_n 0, 1) := by decide +kernel
theorem dX12_drawsRound_39 : decode cX12_drawsRound 39 = .ok (.bipush 10, 2) := by decide +kernel
theorem dX12_drawsRound_41 : decode cX12_drawsRound 41 = .ok (.invokevirtual 437, 3) := by decide +kernel
theorem dX12_drawsRound_44 : decode cX12_drawsRound 44 = .ok (.invokevirtual 440, 3) := by decide +kernel
theorem dX12_drawsRound_47 : decode cX12_drawsRound 47 = .ok (.return_, 1) := by decide +kernel
theorem dX12_drawsRound_48 : decode cX12_drawsRound 48 = .ok (.iload_n 1, 1) := by decide +kernel
theorem dX12_drawsRound_49 : decode cX12_drawsRound 49 = .ok (.iconst 2, 1) := by decide +kernel
theorem dX12_drawsRound_50 : decode cX12_drawsRound 50 = .ok (.if_icmp .ne 21, 3) := by decide +kernel
theorem dX12_drawsRound_53 : decode cX12_drawsRound 53 = .ok (.aload_n 0, 1) := by decide +kernel
theorem dX12_drawsRound_54 : decode cX12_drawsRound 54 = .ok (.iconst 1, 1) := by decide +kernel
theorem dX12_drawsRound_55 : decode cX12_drawsRound 55 = .ok (.iload_n 2, 1) := by decide +kernel
theorem dX12_drawsRound_56 : decode cX12_drawsRound 56 = .ok (.aload_n 0, 1) := by decide +kernel
theorem dX12_drawsRound_57 : decode cX12_drawsRound 57 = .ok (.aload_n 0, 1) := by decide +kernel
theorem dX12_drawsRound_58 : decode cX12_drawsRound 58 = .ok (.getfield 98, 3) := by decide +kernel
theorem dX12_drawsRound_61 : decode cX12_drawsRound 61 = .ok (.iconst 0, 1) := by decide +kernel
theorem dX12_drawsRound_62 : decode cX12_drawsRound 62 = .ok (.iaload, 1) := by decide +kernel
theorem dX12_drawsRound_63 : decode cX12_drawsRound 63 = .ok (.invokevirtual 437, 3) := by decide +kernel
theorem dX12_drawsRound_66 : decode cX12_drawsRound 66 = .ok (.iconst 0, 1) := by decide +kernel
theorem dX12_drawsRound_67 : decode cX12_drawsRound 67 = .ok (.invokevirtual 440, 3) := by decide +kernel
theorem dX12_drawsRound_70 : decode cX12_drawsRound 70 = .ok (.return_, 1) := by decide +kernel
theorem dX12_drawsRound_71 : decode cX12_drawsRound 71 = .ok (.aload_n 0, 1) := by decide +kernel
theorem dX12_drawsRound_72 : decode cX12_drawsRound 72 = .ok (.aload_n 0, 1) := by decide +kernel
theorem dX12_drawsRound_73 : decode cX12_drawsRound 73 = .ok (.getfield 98, 3) := by decide +kernel
theorem dX12_drawsRound_76 : decode cX12_drawsRound 76 = .ok (.iconst 1, 1) := by decide +kernel
theorem dX12_drawsRound_77 : decode cX12_drawsRound 77 = .ok (.iaload, 1) := by decide +kernel
theorem dX12_drawsRound_78 : decode cX12_drawsRound 78 = .ok (.invokevirtual 437, 3) := by decide +kernel
theorem dX12_drawsRound_81 : decode cX12_drawsRound 81 = .ok (.istore_n 3, 1) := by decide +kernel
theorem dX12_drawsRound_82 : decode cX12_drawsRound 82 = .ok (.iload_n 3, 1) := by decide +kernel
theorem dX12_drawsRound_83 : decode cX12_drawsRound 83 = .ok (.iload_n 2, 1) := by decide +kernel
theorem dX12_drawsRound_84 : decode cX12_drawsRound 84 = .ok (.if_icmp .ne 4, 3) := by decide +kernel
theorem dX12_drawsRound_87 : decode cX12_drawsRound 87 = .ok (.return_, 1) := by decide +kernel
theorem dX12_drawsRound_88 : decode cX12_drawsRound 88 = .ok (.iload_n 1, 1) := by decide +kernel
theorem dX12_drawsRound_89 : decode cX12_drawsRound 89 = .ok (.bipush 7, 2) := by decide +kernel
theorem dX12_drawsRound_91 : decode cX12_drawsRound 91 = .ok (.if_icmp .ge 14, 3) := by decide +kernel
theorem dX12_drawsRound_94 : decode cX12_drawsRound 94 = .ok (.aload_n 0, 1) := by decide +kernel
theorem dX12_drawsRound_95 : decode cX12_drawsRound 95 = .ok (.iconst 2, 1) := by decide +kernel
theorem dX12_drawsRound_96 : decode cX12_drawsRound 96 = .ok (.iload_n 2, 1) := by decide +kernel
theorem dX12_drawsRound_97 : decode cX12_drawsRound 97 = .ok (.iload_n 3, 1) := by decide +kernel
theorem dX12_drawsRound_98 : decode cX12_drawsRound 98 = .ok (.iconst 0, 1) := by decide +kernel
theorem dX12_drawsRound_99 : decode cX12_drawsRound 99 = .ok (.invokevirtual 440, 3) := by decide +kernel
theorem dX12_drawsRound_102 : decode cX12_drawsRound 102 = .ok (.goto 11, 3) := by decide +kernel
theorem dX12_drawsRound_105 : decode cX12_drawsRound 105 = .ok (.aload_n 0, 1) := by decide +kernel
theorem dX12_drawsRound_106 : decode cX12_drawsRound 106 = .ok (.iconst 3, 1) := by decide +kernel
theorem dX12_drawsRound_107 : decode cX12_drawsRound 107 = .ok (.iload_n 2, 1) := by decide +kernel
theorem dX12_drawsRound_108 : decode cX12_drawsRound 108 = .ok (.iload_n 3, 1) := by decide +kernel
theorem dX12_drawsRound_109 : decode cX12_drawsRound 109 = .ok (.iconst 0, 1) := by decide +kernel
theorem dX12_drawsRound_110 : decode cX12_drawsRound 110 = .ok (.invokevirtual 400, 3) := by decide +kernel
theorem dX12_drawsRound_113 : decode cX12_drawsRound 113 = .ok (.return_, 1) := by decide +kernel
theorem dX12_isBare_0 : decode cX12_isBare 0 = .ok (.aload_n 0, 1) := by decide +kernel
theorem dX12_isBare_1 : decode cX12_isBare 1 = .ok (.getfield 98, 3) := by decide +kernel
theorem dX12_isBare_4 : decode cX12_isBare 4 = .ok (.iconst 1, 1) := by decide +kernel
theorem dX12_isBare_5 : decode cX12_isBare 5 = .ok (.iaload, 1) := by decide +kernel
theorem dX12_isBare_6 : decode cX12_isBare 6 = .ok (.ifCond .eq 12, 3) := by decide +kernel
theorem dX12_isBare_9 : decode cX12_isBare 9 = .ok (.aload_n 0, 1) := by decide +kernel
theorem dX12_isBare_10 : decode cX12_isBare 10 = .ok (.getfield 98, 3) := by decide +kernel
theorem dX12_isBare_13 : decode cX12_isBare 13 = .ok (.iconst 0, 1) := by decide +kernel
theorem dX12_isBare_14 : decode cX12_isBare 14 = .ok (.iaload, 1) := by decide +kernel
theorem dX12_isBare_15 : decode cX12_isBare 15 = .ok (.ifCond .ne 7, 3) := by decide +kernel
theorem dX12_isBare_18 : decode cX12_isBare 18 = .ok (.iconst 1, 1) := by decide +kernel
theorem dX12_isBare_19 : decode cX12_isBare 19 = .ok (.goto 4, 3) := by decide +kernel
theorem dX12_isBare_22 : decode cX12_isBare 22 = .ok (.iconst 0, 1) := by decide +kernel
theorem dX12_isBare_23 : decode cX12_isBare 23 = .ok (.ireturn, 1) := by decide +kernel
theorem dX12_drawRounds_0 : decode cX12_drawRounds 0 = .ok (.aload_n 0, 1) := by decide +kernel
theorem dX12_drawRounds_1 : decode cX12_drawRounds 1 = .ok (.iload_n 2, 1) := by decide +kernel
theorem dX12_drawRounds_2 : decode cX12_drawRounds 2 = .ok (.putfield 433, 3) := by decide +kernel
theorem dX12_drawRounds_5 : decode cX12_drawRounds 5 = .ok (.iconst 0, 1) := by decide +kernel
theorem dX12_drawRounds_6 : decode cX12_drawRounds 6 = .ok (.istore_n 3, 1) := by decide +kernel
theorem dX12_drawRounds_7 : decode cX12_drawRounds 7 = .ok (.iload_n 3, 1) := by decide +kernel
theorem dX12_drawRounds_8 : decode cX12_drawRounds 8 = .ok (.iconst 4, 1) := by decide +kernel
theorem dX12_drawRounds_9 : decode cX12_drawRounds 9 = .ok (.if_icmp .ge 16, 3) := by decide +kernel
theorem dX12_drawRounds_12 : decode cX12_drawRounds 12 = .ok (.aload_n 0, 1) := by decide +kernel
theorem dX12_drawRounds_13 : decode cX12_drawRounds 13 = .ok (.getfield 184, 3) := by decide +kernel
theorem dX12_drawRounds_16 : decode cX12_drawRounds 16 = .ok (.iload_n 3, 1) := by decide +kernel
theorem dX12_drawRounds_17 : decode cX12_drawRounds 17 = .ok (.iconst 0, 1) := by decide +kernel
theorem dX12_drawRounds_18 : decode cX12_drawRounds 18 = .ok (.iastore, 1) := by decide +kernel
theorem dX12_drawRounds_19 : decode cX12_drawRounds 19 = .ok (.iinc 3 1, 3) := by decide +kernel
theorem dX12_drawRounds_22 : decode cX12_drawRounds 22 = .ok (.goto (-15), 3) := by decide +kernel
theorem dX12_drawRounds_25 : decode cX12_drawRounds 25 = .ok (.iconst 0, 1) := by decide +kernel
theorem dX12_drawRounds_26 : decode cX12_drawRounds 26 = .ok (.istore_n 3, 1) := by decide +kernel
theorem dX12_drawRounds_27 : decode cX12_drawRounds 27 = .ok (.iload_n 3, 1) := by decide +kernel
theorem dX12_drawRounds_28 : decode cX12_drawRounds 28 = .ok (.iload_n 1, 1) := by decide +kernel
theorem dX12_drawRounds_29 : decode cX12_drawRounds 29 = .ok (.if_icmp .ge 13, 3) := by decide +kernel
theorem dX12_drawRounds_32 : decode cX12_drawRounds 32 = .ok (.aload_n 0, 1) := by decide +kernel
theorem dX12_drawRounds_33 : decode cX12_drawRounds 33 = .ok (.invokevirtual 443, 3) := by decide +kernel
theorem dX12_drawRounds_36 : decode cX12_drawRounds 36 = .ok (.iinc 3 1, 3) := by decide +kernel
theorem dX12_drawRounds_39 : decode cX12_drawRounds 39 = .ok (.goto (-12), 3) := by decide +kernel
theorem dX12_drawRounds_42 : decode cX12_drawRounds 42 = .ok (.return_, 1) := by decide +kernel
theorem dX12_drawn_0 : decode cX12_drawn 0 = .ok (.aload_n 0, 1) := by decide +kernel
theorem dX12_drawn_1 : decode cX12_drawn 1 = .ok (.iconst 0, 1) := by decide +kernel
theorem dX12_drawn_2 : decode cX12_drawn 2 = .ok (.putfield 1, 3) := by decide +kernel
theorem dX12_drawn_5 : decode cX12_drawn 5 = .ok (.iload_n 1, 1) := by decide +kernel
theorem dX12_drawn_6 : decode cX12_drawn 6 = .ok (.iconst 1, 1) := by decide +kernel
theorem dX12_drawn_7 : decode cX12_drawn 7 = .ok (.bipush 60, 2) := by decide +kernel
theorem dX12_drawn_9 : decode cX12_drawn 9 = .ok (.invokestatic 75, 3) := by decide +kernel
theorem dX12_drawn_12 : decode cX12_drawn 12 = .ok (.ifCond .ne 5, 3) := by decide +kernel
theorem dX12_drawn_15 : decode cX12_drawn 15 = .ok (.iconst (-1), 1) := by decide +kernel
theorem dX12_drawn_16 : decode cX12_drawn 16 = .ok (.ireturn, 1) := by decide +kernel
theorem dX12_drawn_17 : decode cX12_drawn 17 = .ok (.aload_n 0, 1) := by decide +kernel
theorem dX12_drawn_18 : decode cX12_drawn 18 = .ok (.invokevirtual 446, 3) := by decide +kernel
theorem dX12_drawn_21 : decode cX12_drawn 21 = .ok (.ifCond .eq 5, 3) := by decide +kernel
theorem dX12_drawn_24 : decode cX12_drawn 24 = .ok (.iconst 0, 1) := by decide +kernel
theorem dX12_drawn_25 : decode cX12_drawn 25 = .ok (.ireturn, 1) := by decide +kernel
theorem dX12_drawn_26 : decode cX12_drawn 26 = .ok (.aload_n 0, 1) := by decide +kernel
theorem dX12_drawn_27 : decode cX12_drawn 27 = .ok (.invokevirtual 397, 3) := by decide +kernel
theorem dX12_drawn_30 : decode cX12_drawn 30 = .ok (.aload_n 0, 1) := by decide +kernel
theorem dX12_drawn_31 : decode cX12_drawn 31 = .ok (.iload_n 1, 1) := by decide +kernel
theorem dX12_drawn_32 : decode cX12_drawn 32 = .ok (.iload_n 2, 1) := by decide +kernel
theorem dX12_drawn_33 : decode cX12_drawn 33 = .ok (.invokevirtual 449, 3) := by decide +kernel
theorem dX12_drawn_36 : decode cX12_drawn 36 = .ok (.iconst 0, 1) := by decide +kernel
theorem dX12_drawn_37 : decode cX12_drawn 37 = .ok (.istore_n 3, 1) := by decide +kernel
theorem dX12_drawn_38 : decode cX12_drawn 38 = .ok (.iload_n 3, 1) := by decide +kernel
theorem dX12_drawn_39 : decode cX12_drawn 39 = .ok (.iconst 4, 1) := by decide +kernel
theorem dX12_drawn_40 : decode cX12_drawn 40 = .ok (.if_icmp .ge 21, 3) := by decide +kernel
theorem dX12_drawn_43 : decode cX12_drawn 43 = .ok (.aload_n 0, 1) := by decide +kernel
theorem dX12_drawn_44 : decode cX12_drawn 44 = .ok (.getfield 187, 3) := by decide +kernel
theorem dX12_drawn_47 : decode cX12_drawn 47 = .ok (.iload_n 3, 1) := by decide +kernel
theorem dX12_drawn_48 : decode cX12_drawn 48 = .ok (.aload_n 0, 1) := by decide +kernel
theorem dX12_drawn_49 : decode cX12_drawn 49 = .ok (.getfield 184, 3) := by decide +kernel
theorem dX12_drawn_52 : decode cX12_drawn 52 = .ok (.iload_n 3, 1) := by decide +kernel
theorem dX12_drawn_53 : decode cX12_drawn 53 = .ok (.iaload, 1) := by decide +kernel
theorem dX12_drawn_54 : decode cX12_drawn 54 = .ok (.iastore, 1) := by decide +kernel
theorem dX12_drawn_55 : decode cX12_drawn 55 = .ok (.iinc 3 1, 3) := by decide +kernel
theorem dX12_drawn_58 : decode cX12_drawn 58 = .ok (.goto (-20), 3) := by decide +kernel
theorem dX12_drawn_61 : decode cX12_drawn 61 = .ok (.aload_n 0, 1) := by decide +kernel
theorem dX12_drawn_62 : decode cX12_drawn 62 = .ok (.iconst 1, 1) := by decide +kernel
theorem dX12_drawn_63 : decode cX12_drawn 63 = .ok (.putfield 452, 3) := by decide +kernel
theorem dX12_drawn_66 : decode cX12_drawn 66 = .ok (.iload_n 1, 1) := by decide +kernel
theorem dX12_drawn_67 : decode cX12_drawn 67 = .ok (.ireturn, 1) := by decide +kernel
theorem dX12_refused_0 : decode cX12_refused 0 = .ok (.aload_n 0, 1) := by decide +kernel
theorem dX12_refused_1 : decode cX12_refused 1 = .ok (.iconst 0, 1) := by decide +kernel
theorem dX12_refused_2 : decode cX12_refused 2 = .ok (.putfield 1, 3) := by decide +kernel
theorem dX12_refused_5 : decode cX12_refused 5 = .ok (.aload_n 0, 1) := by decide +kernel
theorem dX12_refused_6 : decode cX12_refused 6 = .ok (.getfield 452, 3) := by decide +kernel
theorem dX12_refused_9 : decode cX12_refused 9 = .ok (.ifCond .eq 21, 3) := by decide +kernel
theorem dX12_refused_12 : decode cX12_refused 12 = .ok (.iload_n 1, 1) := by decide +kernel
theorem dX12_refused_13 : decode cX12_refused 13 = .ok (.iconst 1, 1) := by decide +kernel
theorem dX12_refused_14 : decode cX12_refused 14 = .ok (.iconst 3, 1) := by decide +kernel
theorem dX12_refused_15 : decode cX12_refused 15 = .ok (.invokestatic 75, 3) := by decide +kernel
theorem dX12_refused_18 : decode cX12_refused 18 = .ok (.ifCond .eq 12, 3) := by decide +kernel
theorem dX12_refused_21 : decode cX12_refused 21 = .ok (.aload_n 0, 1) := by decide +kernel
theorem dX12_refused_22 : decode cX12_refused 22 = .ok (.getfield 187, 3) := by decide +kernel
theorem dX12_refused_25 : decode cX12_refused 25 = .ok (.iload_n 1, 1) := by decide +kernel
theorem dX12_refused_26 : decode cX12_refused 26 = .ok (.iaload, 1) := by decide +kernel
theorem dX12_refused_27 : decode cX12_refused 27 = .ok (.goto 4, 3) := by decide +kernel
theorem dX12_refused_30 : decode cX12_refused 30 = .ok (.iconst (-1), 1) := by decide +kernel
theorem dX12_refused_31 : decode cX12_refused 31 = .ok (.ireturn, 1) := by decide +kernel
theorem dX12_odds_0 : decode cX12_odds 0 = .ok (.aload_n 0, 1) := by decide +kernel
theorem dX12_odds_1 : decode cX12_odds 1 = .ok (.iconst 0, 1) := by decide +kernel
theorem dX12_odds_2 : decode cX12_odds 2 = .ok (.putfield 1, 3) := by decide +kernel
theorem dX12_odds_5 : decode cX12_odds 5 = .ok (.iload_n 1, 1) := by decide +kernel
theorem dX12_odds_6 : decode cX12_odds 6 = .ok (.iconst 1, 1) := by decide +kernel
theorem dX12_odds_7 : decode cX12_odds 7 = .ok (.bipush 20, 2) := by decide +kernel
theorem dX12_odds_9 : decode cX12_odds 9 = .ok (.invokestatic 75, 3) := by decide +kernel
theorem dX12_odds_12 : decode cX12_odds 12 = .ok (.ifCond .ne 5, 3) := by decide +kernel
theorem dX12_odds_15 : decode cX12_odds 15 = .ok (.iconst (-1), 1) := by decide +kernel
theorem dX12_odds_16 : decode cX12_odds 16 = .ok (.ireturn, 1) := by decide +kernel
theorem dX12_odds_17 : decode cX12_odds 17 = .ok (.aload_n 0, 1) := by decide +kernel
theorem dX12_odds_18 : decode cX12_odds 18 = .ok (.aload_n 0, 1) := by decide +kernel
theorem dX12_odds_19 : decode cX12_odds 19 = .ok (.getfield 113, 3) := by decide +kernel
theorem dX12_odds_22 : decode cX12_odds 22 = .ok (.iconst 0, 1) := by decide +kernel
theorem dX12_odds_23 : decode cX12_odds 23 = .ok (.invokevirtual 373, 3) := by decide +kernel
theorem dX12_odds_26 : decode cX12_odds 26 = .ok (.iconst 0, 1) := by decide +kernel
theorem dX12_odds_27 : decode cX12_odds 27 = .ok (.istore_n 3, 1) := by decide +kernel
theorem dX12_odds_28 : decode cX12_odds 28 = .ok (.iconst 0, 1) := by decide +kernel
theorem dX12_odds_29 : decode cX12_odds 29 = .ok (.istore 4, 2) := by decide +kernel
theorem dX12_odds_31 : decode cX12_odds 31 = .ok (.iload 4, 2) := by decide +kernel
theorem dX12_odds_33 : decode cX12_odds 33 = .ok (.iload_n 1, 1) := by decide +kernel
theorem dX12_odds_34 : decode cX12_odds 34 = .ok (.if_icmp .ge 46, 3) := by decide +kernel
theorem dX12_odds_37 : decode cX12_odds 37 = .ok (.aload_n 0, 1) := by decide +kernel
theorem dX12_odds_38 : decode cX12_odds 38 = .ok (.invokevirtual 446, 3) := by decide +kernel
theorem dX12_odds_41 : decode cX12_odds 41 = .ok (.ifCond .ne 13, 3) := by decide +kernel
theorem dX12_odds_44 : decode cX12_odds 44 = .ok (.aload_n 0, 1) := by decide +kernel
theorem dX12_odds_45 : decode cX12_odds 45 = .ok (.bipush 20, 2) := by decide +kernel
theorem dX12_odds_47 : decode cX12_odds 47 = .ok (.iload_n 2, 1) := by decide +kernel
theorem dX12_odds_48 : decode cX12_odds 48 = .ok (.iload 4, 2) := by decide +kernel
theorem dX12_odds_50 : decode cX12_odds 50 = .ok (.iadd, 1) := by decide +kernel
theorem dX12_odds_51 : decode cX12_odds 51 = .ok (.invokevirtual 449, 3) := by decide +kernel
theorem dX12_odds_54 : decode cX12_odds 54 = .ok (.aload_n 0, 1) := by decide +kernel
theorem dX12_odds_55 : decode cX12_odds 55 = .ok (.invokevirtual 344, 3) := by decide +kernel
theorem dX12_odds_58 : decode cX12_odds 58 = .ok (.iconst 1, 1) := by decide +kernel
theorem dX12_odds_59 : decode cX12_odds 59 = .ok (.if_icmp .gt 6, 3) := by decide +kernel
theorem dX12_odds_62 : decode cX12_odds 62 = .ok (.iinc 3 1, 3) := by decide +kernel
theorem dX12_odds_65 : decode cX12_odds 65 = .ok (.aload_n 0, 1) := by decide +kernel
theorem dX12_odds_66 : decode cX12_odds 66 = .ok (.aload_n 0, 1) := by decide +kernel
theorem dX12_odds_67 : decode cX12_odds 67 = .ok (.getfield 113, 3) := by decide +kernel
theorem dX12_odds_70 : decode cX12_odds 70 = .ok (.iconst 0, 1) := by decide +kernel
theorem dX12_odds_71 : decode cX12_odds 71 = .ok (.invokevirtual 408, 3) := by decide +kernel
theorem dX12_odds_74 : decode cX12_odds 74 = .ok (.iinc 4 1, 3) := by decide +kernel
theorem dX12_odds_77 : decode cX12_odds 77 = .ok (.goto (-46), 3) := by decide +kernel
theorem dX12_odds_80 : decode cX12_odds 80 = .ok (.iload_n 3, 1) := by decide +kernel
theorem dX12_odds_81 : decode cX12_odds 81 = .ok (.ireturn, 1) := by decide +kernel
theorem dX12_keep_0 : decode cX12_keep 0 = .ok (.iload_n 2, 1) := by decide +kernel
theorem dX12_keep_1 : decode cX12_keep 1 = .ok (.ifCond .eq 13, 3) := by decide +kernel
theorem dX12_keep_4 : decode cX12_keep 4 = .ok (.aload_n 0, 1) := by decide +kernel
theorem dX12_keep_5 : decode cX12_keep 5 = .ok (.getfield 190, 3) := by decide +kernel
theorem dX12_keep_8 : decode cX12_keep 8 = .ok (.iload_n 1, 1) := by decide +kernel
theorem dX12_keep_9 : decode cX12_keep 9 = .ok (.aload_n 0, 1) := by decide +kernel
theorem dX12_keep_10 : decode cX12_keep 10 = .ok (.getfield 79, 3) := by decide +kernel
theorem dX12_keep_13 : decode cX12_keep 13 = .ok (.iastore, 1) := by decide +kernel
theorem dX12_keep_14 : decode cX12_keep 14 = .ok (.iload_n 2, 1) := by decide +kernel
theorem dX12_keep_15 : decode cX12_keep 15 = .ok (.ireturn, 1) := by decide +kernel
theorem dX12_readNamed_0 : decode cX12_readNamed 0 = .ok (.aload_n 0, 1) := by decide +kernel
theorem dX12_readNamed_1 : decode cX12_readNamed 1 = .ok (.invokevirtual 202, 3) := by decide +kernel
theorem dX12_readNamed_4 : decode cX12_readNamed 4 = .ok (.ifCond .ne 9, 3) := by decide +kernel
theorem dX12_readNamed_7 : decode cX12_readNamed 7 = .ok (.aload_n 0, 1) := by decide +kernel
theorem dX12_readNamed_8 : decode cX12_readNamed 8 = .ok (.iconst 1, 1) := by decide +kernel
theorem dX12_readNamed_9 : decode cX12_readNamed 9 = .ok (.invokevirtual 72, 3) := by decide +kernel
theorem dX12_readNamed_12 : decode cX12_readNamed 12 = .ok (.ireturn, 1) := by decide +kernel
theorem dX12_readNamed_13 : decode cX12_readNamed 13 = .ok (.aload_n 0, 1) := by decide +kernel
theorem dX12_readNamed_14 : decode cX12_readNamed 14 = .ok (.aload_n 0, 1) := by decide +kernel
theorem dX12_readNamed_15 : decode cX12_readNamed 15 = .ok (.getfield 116, 3) := by decide +kernel
theorem dX12_readNamed_18 : decode cX12_readNamed 18 = .ok (.iload_n 1, 1) := by decide +kernel
theorem dX12_readNamed_19 : decode cX12_readNamed 19 = .ok (.iload_n 2, 1) := by decide +kernel
theorem dX12_readNamed_20 : decode cX12_readNamed 20 = .ok (.aload_n 0, 1) := by decide +kernel
theorem dX12_readNamed_21 : decode cX12_readNamed 21 = .ok (.getfield 43, 3) := by decide +kernel
theorem dX12_readNamed_24 : decode cX12_readNamed 24 = .ok (.invokestatic 206, 3) := by decide +kernel
theorem dX12_readNamed_27 : decode cX12_readNamed 27 = .ok (.putfield 79, 3) := by decide +kernel
theorem dX12_readNamed_30 : decode cX12_readNamed 30 = .ok (.aload_n 0, 1) := by decide +kernel
theorem dX12_readNamed_31 : decode cX12_readNamed 31 = .ok (.getfield 79, 3) := by decide +kernel
theorem dX12_readNamed_34 : decode cX12_readNamed 34 = .ok (.iconst (-1), 1) := by decide +kernel
theorem dX12_readNamed_35 : decode cX12_readNamed 35 = .ok (.if_icmp .ne 9, 3) := by decide +kernel
theorem dX12_readNamed_38 : decode cX12_readNamed 38 = .ok (.aload_n 0, 1) := by decide +kernel
theorem dX12_readNamed_39 : decode cX12_readNamed 39 = .ok (.iconst 3, 1) := by decide +kernel
theorem dX12_readNamed_40 : decode cX12_readNamed 40 = .ok (.invokevirtual 72, 3) := by decide +kernel
theorem dX12_readNamed_43 : decode cX12_readNamed 43 = .ok (.ireturn, 1) := by decide +kernel
theorem dX12_readNamed_44 : decode cX12_readNamed 44 = .ok (.aload_n 0, 1) := by decide +kernel
theorem dX12_readNamed_45 : decode cX12_readNamed 45 = .ok (.invokevirtual 82, 3) := by decide +kernel
theorem dX12_readNamed_48 : decode cX12_readNamed 48 = .ok (.iconst 1, 1) := by decide +kernel
theorem dX12_readNamed_49 : decode cX12_readNamed 49 = .ok (.ireturn, 1) := by decide +kernel
theorem dX12_readPeerName_0 : decode cX12_readPeerName 0 = .ok (.aload_n 0, 1) := by decide +kernel
theorem dX12_readPeerName_1 : decode cX12_readPeerName 1 = .ok (.bipush 24, 2) := by decide +kernel
theorem dX12_readPeerName_3 : decode cX12_readPeerName 3 = .ok (.aload_n 0, 1) := by decide +kernel
theorem dX12_readPeerName_4 : decode cX12_readPeerName 4 = .ok (.getfield 98, 3) := by decide +kernel
theorem dX12_readPeerName_7 : decode cX12_readPeerName 7 = .ok (.iconst 1, 1) := by decide +kernel
theorem dX12_readPeerName_8 : decode cX12_readPeerName 8 = .ok (.iaload, 1) := by decide +kernel
theorem dX12_readPeerName_9 : decode cX12_readPeerName 9 = .ok (.invokevirtual 456, 3) := by decide +kernel
theorem dX12_readPeerName_12 : decode cX12_readPeerName 12 = .ok (.ireturn, 1) := by decide +kernel
theorem dX12_readOther_0 : decode cX12_readOther 0 = .ok (.aload_n 0, 1) := by decide +kernel
theorem dX12_readOther_1 : decode cX12_readOther 1 = .ok (.invokevirtual 202, 3) := by decide +kernel
theorem dX12_readOther_4 : decode cX12_readOther 4 = .ok (.ifCond .ne 9, 3) := by decide +kernel
theorem dX12_readOther_7 : decode cX12_readOther 7 = .ok (.aload_n 0, 1) := by decide +kernel
theorem dX12_readOther_8 : decode cX12_readOther 8 = .ok (.iconst 1, 1) := by decide +kernel
theorem dX12_readOther_9 : decode cX12_readOther 9 = .ok (.invokevirtual 72, 3) := by decide +kernel
theorem dX12_readOther_12 : decode cX12_readOther 12 = .ok (.ireturn, 1) := by decide +kernel
theorem dX12_readOther_13 : decode cX12_readOther 13 = .ok (.aload_n 0, 1) := by decide +kernel
theorem dX12_readOther_14 : decode cX12_readOther 14 = .ok (.getfield 190, 3) := by decide +kernel
theorem dX12_readOther_17 : decode cX12_readOther 17 = .ok (.iload_n 1, 1) := by decide +kernel
theorem dX12_readOther_18 : decode cX12_readOther 18 = .ok (.iconst 1, 1) := by decide +kernel
theorem dX12_readOther_19 : decode cX12_readOther 19 = .ok (.iadd, 1) := by decide +kernel
theorem dX12_readOther_20 : decode cX12_readOther 20 = .ok (.aload_n 0, 1) := by decide +kernel
theorem dX12_readOther_21 : decode cX12_readOther 21 = .ok (.getfield 116, 3) := by decide +kernel
theorem dX12_readOther_24 : decode cX12_readOther 24 = .ok (.bipush 24, 2) := by decide +kernel
theorem dX12_readOther_26 : decode cX12_readOther 26 = .ok (.aload_n 0, 1) := by decide +kernel
theorem dX12_readOther_27 : decode cX12_readOther 27 = .ok (.getfield 98, 3) := by decide +kernel
theorem dX12_readOther_30 : decode cX12_readOther 30 = .ok (.iconst 1, 1) := by decide +kernel
theorem dX12_readOther_31 : decode cX12_readOther 31 = .ok (.iaload, 1) := by decide +kernel
theorem dX12_readOther_32 : decode cX12_readOther 32 = .ok (.aload_n 0, 1) := by decide +kernel
theorem dX12_readOther_33 : decode cX12_readOther 33 = .ok (.getfield 43, 3) := by decide +kernel
theorem dX12_readOther_36 : decode cX12_readOther 36 = .ok (.invokestatic 206, 3) := by decide +kernel
theorem dX12_readOther_39 : decode cX12_readOther 39 = .ok (.iastore, 1) := by decide +kernel
theorem dX12_readOther_40 : decode cX12_readOther 40 = .ok (.aload_n 0, 1) := by decide +kernel
theorem dX12_readOther_41 : decode cX12_readOther 41 = .ok (.getfield 190, 3) := by decide +kernel
theorem dX12_readOther_44 : decode cX12_readOther 44 = .ok (.iload_n 1, 1) := by decide +kernel
theorem dX12_readOther_45 : decode cX12_readOther 45 = .ok (.iconst 1, 1) := by decide +kernel
theorem dX12_readOther_46 : decode cX12_readOther 46 = .ok (.iadd, 1) := by decide +kernel
theorem dX12_readOther_47 : decode cX12_readOther 47 = .ok (.iaload, 1) := by decide +kernel
theorem dX12_readOther_48 : decode cX12_readOther 48 = .ok (.iconst (-1), 1) := by decide +kernel
theorem dX12_readOther_49 : decode cX12_readOther 49 = .ok (.if_icmp .eq 20, 3) := by decide +kernel
theorem dX12_readOther_52 : decode cX12_readOther 52 = .ok (.aload_n 0, 1) := by decide +kernel
theorem dX12_readOther_53 : decode cX12_readOther 53 = .ok (.getfield 190, 3) := by decide +kernel
theorem dX12_readOther_56 : decode cX12_readOther 56 = .ok (.iload_n 1, 1) := by decide +kernel
theorem dX12_readOther_57 : decode cX12_readOther 57 = .ok (.iconst 1, 1) := by decide +kernel
theorem dX12_readOther_58 : decode cX12_readOther 58 = .ok (.iadd, 1) := by decide +kernel
theorem dX12_readOther_59 : decode cX12_readOther 59 = .ok (.iaload, 1) := by decide +kernel
theorem dX12_readOther_60 : decode cX12_readOther 60 = .ok (.aload_n 0, 1) := by decide +kernel
theorem dX12_readOther_61 : decode cX12_readOther 61 = .ok (.getfield 190, 3) := by decide +kernel
theorem dX12_readOther_64 : decode cX12_readOther 64 = .ok (.iload_n 1, 1) := by decide +kernel
theorem dX12_readOther_65 : decode cX12_readOther 65 = .ok (.iaload, 1) := by decide +kernel
theorem dX12_readOther_66 : decode cX12_readOther 66 = .ok (.if_icmp .ne 9, 3) := by decide +kernel
theorem dX12_readOther_69 : decode cX12_readOther 69 = .ok (.aload_n 0, 1) := by decide +kernel
theorem dX12_readOther_70 : decode cX12_readOther 70 = .ok (.iconst 3, 1) := by decide +kernel
theorem dX12_readOther_71 : decode cX12_readOther 71 = .ok (.invokevirtual 72, 3) := by decide +kernel
theorem dX12_readOther_74 : decode cX12_readOther 74 = .ok (.ireturn, 1) := by decide +kernel
theorem dX12_readOther_75 : decode cX12_readOther 75 = .ok (.aload_n 0, 1) := by decide +kernel
theorem dX12_readOther_76 : decode cX12_readOther 76 = .ok (.invokevirtual 82, 3) := by decide +kernel
theorem dX12_readOther_79 : decode cX12_readOther 79 = .ok (.iconst 1, 1) := by decide +kernel
theorem dX12_readOther_80 : decode cX12_readOther 80 = .ok (.ireturn, 1) := by decide +kernel
theorem dX12_readBookLine_0 : decode cX12_readBookLine 0 = .ok (.iconst (-1), 1) := by decide +kernel
theorem dX12_readBookLine_1 : decode cX12_readBookLine 1 = .ok (.istore_n 1, 1) := by decide +kernel
theorem dX12_readBookLine_2 : decode cX12_readBookLine 2 = .ok (.iconst 0, 1) := by decide +kernel
theorem dX12_readBookLine_3 : decode cX12_readBookLine 3 = .ok (.istore_n 2, 1) := by decide +kernel
theorem dX12_readBookLine_4 : decode cX12_readBookLine 4 = .ok (.iload_n 2, 1) := by decide +kernel
theorem dX12_readBookLine_5 : decode cX12_readBookLine 5 = .ok (.iconst 4, 1) := by decide +kernel
theorem dX12_readBookLine_6 : decode cX12_readBookLine 6 = .ok (.if_icmp .gt 22, 3) := by decide +kernel
theorem dX12_readBookLine_9 : decode cX12_readBookLine 9 = .ok (.aload_n 0, 1) := by decide +kernel
theorem dX12_readBookLine_10 : decode cX12_readBookLine 10 = .ok (.bipush 9, 2) := by decide +kernel
theorem dX12_readBookLine_12 : decode cX12_readBookLine 12 = .ok (.iload_n 2, 1) := by decide +kernel
theorem dX12_readBookLine_13 : decode cX12_readBookLine 13 = .ok (.iadd, 1) := by decide +kernel
theorem dX12_readBookLine_14 : decode cX12_readBookLine 14 = .ok (.invokevirtual 213, 3) := by decide +kernel
theorem dX12_readBookLine_17 : decode cX12_readBookLine 17 = .ok (.ifCond .eq 5, 3) := by decide +kernel
theorem dX12_readBookLine_20 : decode cX12_readBookLine 20 = .ok (.iload_n 2, 1) := by decide +kernel
theorem dX12_readBookLine_21 : decode cX12_readBookLine 21 = .ok (.istore_n 1, 1) := by decide +kernel
theorem dX12_readBookLine_22 : decode cX12_readBookLine 22 = .ok (.iinc 2 1, 3) := by decide +kernel
theorem dX12_readBookLine_25 : decode cX12_readBookLine 25 = .ok (.goto (-21), 3) := by decide +kernel
theorem dX12_readBookLine_28 : decode cX12_readBookLine 28 = .ok (.iload_n 1, 1) := by decide +kernel
theorem dX12_readBookLine_29 : decode cX12_readBookLine 29 = .ok (.iconst (-1), 1) := by decide +kernel
theorem dX12_readBookLine_30 : decode cX12_readBookLine 30 = .ok (.if_icmp .ne 9, 3) := by decide +kernel
theorem dX12_readBookLine_33 : decode cX12_readBookLine 33 = .ok (.aload_n 0, 1) := by decide +kernel
theorem dX12_readBookLine_34 : decode cX12_readBookLine 34 = .ok (.iconst 1, 1) := by decide +kernel
theorem dX12_readBookLine_35 : decode cX12_readBookLine 35 = .ok (.invokevirtual 72, 3) := by decide +kernel
theorem dX12_readBookLine_38 : decode cX12_readBookLine 38 = .ok (.ireturn, 1) := by decide +kernel
theorem dX12_readBookLine_39 : decode cX12_readBookLine 39 = .ok (.aload_n 0, 1) := by decide +kernel
theorem dX12_readBookLine_40 : decode cX12_readBookLine 40 = .ok (.getfield 459, 3) := by decide +kernel
theorem dX12_readBookLine_43 : decode cX12_readBookLine 43 = .ok (.bipush 40, 2) := by decide +kernel
theorem dX12_readBookLine_45 : decode cX12_readBookLine 45 = .ok (.if_icmp .ne 9, 3) := by decide +kernel
theorem dX12_readBookLine_48 : decode cX12_readBookLine 48 = .ok (.aload_n 0, 1) := by decide +kernel
theorem dX12_readBookLine_49 : decode cX12_readBookLine 49 = .ok (.iconst 4, 1) := by decide +kernel
theorem dX12_readBookLine_50 : decode cX12_readBookLine 50 = .ok (.invokevirtual 72, 3) := by decide +kernel
theorem dX12_readBookLine_53 : decode cX12_readBookLine 53 = .ok (.ireturn, 1) := by decide +kernel
theorem dX12_readBookLine_54 : decode cX12_readBookLine 54 = .ok (.iconst 4, 1) := by decide +kernel
theorem dX12_readBookLine_55 : decode cX12_readBookLine 55 = .ok (.aload_n 0, 1) := by decide +kernel
theorem dX12_readBookLine_56 : decode cX12_readBookLine 56 = .ok (.getfield 459, 3) := by decide +kernel
theorem dX12_readBookLine_59 : decode cX12_readBookLine 59 = .ok (.imul, 1) := by decide +kernel
theorem dX12_readBookLine_60 : decode cX12_readBookLine 60 = .ok (.istore_n 2, 1) := by decide +kernel
theorem dX12_readBookLine_61 : decode cX12_readBookLine 61 = .ok (.aload_n 0, 1) := by decide +kernel
theorem dX12_readBookLine_62 : decode cX12_readBookLine 62 = .ok (.getfield 190, 3) := by decide +kernel
theorem dX12_readBookLine_65 : decode cX12_readBookLine 65 = .ok (.iload_n 2, 1) := by decide +kernel
theorem dX12_readBookLine_66 : decode cX12_readBookLine 66 = .ok (.iload_n 1, 1) := by decide +kernel
theorem dX12_readBookLine_67 : decode cX12_readBookLine 67 = .ok (.iastore, 1) := by decide +kernel
theorem dX12_readBookLine_68 : decode cX12_readBookLine 68 = .ok (.aload_n 0, 1) := by decide +kernel
theorem dX12_readBookLine_69 : decode cX12_readBookLine 69 = .ok (.getfield 190, 3) := by decide +kernel
theorem dX12_readBookLine_72 : decode cX12_readBookLine 72 = .ok (.iload_n 2, 1) := by decide +kernel
theorem dX12_readBookLine_73 : decode cX12_readBookLine 73 = .ok (.iconst 3, 1) := by decide +kernel
theorem dX12_readBookLine_74 : decode cX12_readBookLine 74 = .ok (.iadd, 1) := by decide +kernel
theorem dX12_readBookLine_75 : decode cX12_readBookLine 75 = .ok (.iconst 0, 1) := by decide +kernel
theorem dX12_readBookLine_76 : decode cX12_readBookLine 76 = .ok (.iastore, 1) := by decide +kernel
theorem dX12_readBookLine_77 : decode cX12_readBookLine 77 = .ok (.aload_n 0, 1) := by decide +kernel
theorem dX12_readBookLine_78 : decode cX12_readBookLine 78 = .ok (.invokevirtual 82, 3) := by decide +kernel
theorem dX12_readBookLine_81 : decode cX12_readBookLine 81 = .ok (.aload_n 0, 1) := by decide +kernel
theorem dX12_readBookLine_82 : decode cX12_readBookLine 82 = .ok (.iload_n 2, 1) := by decide +kernel
theorem dX12_readBookLine_83 : decode cX12_readBookLine 83 = .ok (.iconst 1, 1) := by decide +kernel
theorem dX12_readBookLine_84 : decode cX12_readBookLine 84 = .ok (.iadd, 1) := by decide +kernel
theorem dX12_readBookLine_85 : decode cX12_readBookLine 85 = .ok (.aload_n 0, 1) := by decide +kernel
theorem dX12_readBookLine_86 : decode cX12_readBookLine 86 = .ok (.invokevirtual 462, 3) := by decide +kernel
theorem dX12_readBookLine_89 : decode cX12_readBookLine 89 = .ok (.invokevirtual 465, 3) := by decide +kernel
theorem dX12_readBookLine_92 : decode cX12_readBookLine 92 = .ok (.ifCond .ne 5, 3) := by decide +kernel
theorem dX12_readBookLine_95 : decode cX12_readBookLine 95 = .ok (.iconst 0, 1) := by decide +kernel
theorem dX12_readBookLine_96 : decode cX12_readBookLine 96 = .ok (.ireturn, 1) := by decide +kernel
theorem dX12_readBookLine_97 : decode cX12_readBookLine 97 = .ok (.iload_n 1, 1) := by decide +kernel
theorem dX12_readBookLine_98 : decode cX12_readBookLine 98 = .ok (.iconst 2, 1) := by decide +kernel
theorem dX12_readBookLine_99 : decode cX12_readBookLine 99 = .ok (.if_icmp .lt 26, 3) := by decide +kernel
theorem dX12_readBookLine_102 : decode cX12_readBookLine 102 = .ok (.aload_n 0, 1) := by decide +kernel
theorem dX12_readBookLine_103 : decode cX12_readBookLine 103 = .ok (.iload_n 2, 1) := by decide +kernel
theorem dX12_readBookLine_104 : decode cX12_readBookLine 104 = .ok (.iconst 1, 1) := by decide +kernel
theorem dX12_readBookLine_105 : decode cX12_readBookLine 105 = .ok (.iadd, 1) := by decide +kernel
theorem dX12_readBookLine_106 : decode cX12_readBookLine 106 = .ok (.invokevirtual 468, 3) := by decide +kernel
theorem dX12_readBookLine_109 : decode cX12_readBookLine 109 = .ok (.ifCond .eq 14, 3) := by decide +kernel
theorem dX12_readBookLine_112 : decode cX12_readBookLine 112 = .ok (.aload_n 0, 1) := by decide +kernel
theorem dX12_readBookLine_113 : decode cX12_readBookLine 113 = .ok (.invokevirtual 257, 3) := by decide +kernel
theorem dX12_readBookLine_116 : decode cX12_readBookLine 116 = .ok (.ifCond .eq 7, 3) := by decide +kernel
theorem dX12_readBookLine_119 : decode cX12_readBookLine 119 = .ok (.iconst 1, 1) := by decide +kernel
theorem dX12_readBookLine_120 : decode cX12_readBookLine 120 = .ok (.goto 4, 3) := by decide +kernel
theorem dX12_readBookLine_123 : decode cX12_readBookLine 123 = .ok (.iconst 0, 1) := by decide +kernel
theorem dX12_readBookLine_124 : decode cX12_readBookLine 124 = .ok (.ireturn, 1) := by decide +kernel
theorem dX12_readBookLine_125 : decode cX12_readBookLine 125 = .ok (.aload_n 0, 1) := by decide +kernel
theorem dX12_readBookLine_126 : decode cX12_readBookLine 126 = .ok (.iload_n 2, 1) := by decide +kernel
theorem dX12_readBookLine_127 : decode cX12_readBookLine 127 = .ok (.iconst 2, 1) := by decide +kernel
theorem dX12_readBookLine_128 : decode cX12_readBookLine 128 = .ok (.iadd, 1) := by decide +kernel
theorem dX12_readBookLine_129 : decode cX12_readBookLine 129 = .ok (.aload_n 0, 1) := by decide +kernel
theorem dX12_readBookLine_130 : decode cX12_readBookLine 130 = .ok (.iconst 0, 1) := by decide +kernel
theorem dX12_readBookLine_131 : decode cX12_readBookLine 131 = .ok (.aload_n 0, 1) := by decide +kernel
theorem dX12_readBookLine_132 : decode cX12_readBookLine 132 = .ok (.getfield 98, 3) := by decide +kernel
theorem dX12_readBookLine_135 : decode cX12_readBookLine 135 = .ok (.iconst 0, 1) := by decide +kernel
theorem dX12_readBookLine_136 : decode cX12_readBookLine 136 = .ok (.iaload, 1) := by decide +kernel
theorem dX12_readBookLine_137 : decode cX12_readBookLine 137 = .ok (.invokevirtual 456, 3) := by decide +kernel
theorem dX12_readBookLine_140 : decode cX12_readBookLine 140 = .ok (.invokevirtual 465, 3) := by decide +kernel
theorem dX12_readBookLine_143 : decode cX12_readBookLine 143 = .ok (.ifCond .ne 5, 3) := by decide +kernel
theorem dX12_readBookLine_146 : decode cX12_readBookLine 146 = .ok (.iconst 0, 1) := by decide +kernel
theorem dX12_readBookLine_147 : decode cX12_readBookLine 147 = .ok (.ireturn, 1) := by decide +kernel
theorem dX12_readBookLine_148 : decode cX12_readBookLine 148 = .ok (.iload_n 1, 1) := by decide +kernel
theorem dX12_readBookLine_149 : decode cX12_readBookLine 149 = .ok (.iconst 1, 1) := by decide +kernel
theorem dX12_readBookLine_150 : decode cX12_readBookLine 150 = .ok (.if_icmp .eq 21, 3) := by decide +kernel
theorem dX12_readBookLine_153 : decode cX12_readBookLine 153 = .ok (.aload_n 0, 1) := by decide +kernel
theorem dX12_readBookLine_154 : decode cX12_readBookLine 154 = .ok (.iload_n 2, 1) := by decide +kernel
theorem dX12_readBookLine_155 : decode cX12_readBookLine 155 = .ok (.iconst 3, 1) := by decide +kernel
theorem dX12_readBookLine_156 : decode cX12_readBookLine 156 = .ok (.iadd, 1) := by decide +kernel
theorem dX12_readBookLine_157 : decode cX12_readBookLine 157 = .ok (.aload_n 0, 1) := by decide +kernel
theorem dX12_readBookLine_158 : decode cX12_readBookLine 158 = .ok (.iconst 0, 1) := by decide +kernel
theorem dX12_readBookLine_159 : decode cX12_readBookLine 159 = .ok (.sipush 999, 3) := by decide +kernel
theorem dX12_readBookLine_162 : decode cX12_readBookLine 162 = .ok (.invokevirtual 226, 3) := by decide +kernel
theorem dX12_readBookLine_165 : decode cX12_readBookLine 165 = .ok (.invokevirtual 465, 3) := by decide +kernel
theorem dX12_readBookLine_168 : decode cX12_readBookLine 168 = .ok (.ifCond .eq 14, 3) := by decide +kernel
theorem dX12_readBookLine_171 : decode cX12_readBookLine 171 = .ok (.aload_n 0, 1) := by decide +kernel
theorem dX12_readBookLine_172 : decode cX12_readBookLine 172 = .ok (.invokevirtual 257, 3) := by decide +kernel
theorem dX12_readBookLine_175 : decode cX12_readBookLine 175 = .ok (.ifCond .eq 7, 3) := by decide +kernel
theorem dX12_readBookLine_178 : decode cX12_readBookLine 178 = .ok (.iconst 1, 1) := by decide +kernel
theorem dX12_readBookLine_179 : decode cX12_readBookLine 179 = .ok (.goto 4, 3) := by decide +kernel
theorem dX12_readBookLine_182 : decode cX12_readBookLine 182 = .ok (.iconst 0, 1) := by decide +kernel
theorem dX12_readBookLine_183 : decode cX12_readBookLine 183 = .ok (.ireturn, 1) := by decide +kernel
theorem dX12_goBy_0 : decode cX12_goBy 0 = .ok (.aload_n 0, 1) := by decide +kernel
theorem dX12_goBy_1 : decode cX12_goBy 1 = .ok (.getfield 190, 3) := by decide +kernel
theorem dX12_goBy_4 : decode cX12_goBy 4 = .ok (.iload_n 1, 1) := by decide +kernel
theorem dX12_goBy_5 : decode cX12_goBy 5 = .ok (.iaload, 1) := by decide +kernel
theorem dX12_goBy_6 : decode cX12_goBy 6 = .ok (.istore_n 2, 1) := by decide +kernel
theorem dX12_goBy_7 : decode cX12_goBy 7 = .ok (.aload_n 0, 1) := by decide +kernel
theorem dX12_goBy_8 : decode cX12_goBy 8 = .ok (.iload_n 2, 1) := by decide +kernel
theorem dX12_goBy_9 : decode cX12_goBy 9 = .ok (.aload_n 0, 1) := by decide +kernel
theorem dX12_goBy_10 : decode cX12_goBy 10 = .ok (.getfield 190, 3) := by decide +kernel
theorem dX12_goBy_13 : decode cX12_goBy 13 = .ok (.iload_n 1, 1) := by decide +kernel
theorem dX12_goBy_14 : decode cX12_goBy 14 = .ok (.iconst 1, 1) := by decide +kernel
theorem dX12_goBy_15 : decode cX12_goBy 15 = .ok (.iadd, 1) := by decide +kernel
theorem dX12_goBy_16 : decode cX12_goBy 16 = .ok (.iaload, 1) := by decide +kernel
theorem dX12_goBy_17 : decode cX12_goBy 17 = .ok (.aload_n 0, 1) := by decide +kernel
theorem dX12_goBy_18 : decode cX12_goBy 18 = .ok (.getfield 190, 3) := by decide +kernel
theorem dX12_goBy_21 : decode cX12_goBy 21 = .ok (.iload_n 1, 1) := by decide +kernel
theorem dX12_goBy_22 : decode cX12_goBy 22 = .ok (.iconst 2, 1) := by decide +kernel
theorem dX12_goBy_23 : decode cX12_goBy 23 = .ok (.iadd, 1) := by decide +kernel
theorem dX12_goBy_24 : decode cX12_goBy 24 = .ok (.iaload, 1) := by decide +kernel
theorem dX12_goBy_25 : decode cX12_goBy 25 = .ok (.aload_n 0, 1) := by decide +kernel
theorem dX12_goBy_26 : decode cX12_goBy 26 = .ok (.getfield 190, 3) := by decide +kernel
theorem dX12_goBy_29 : decode cX12_goBy 29 = .ok (.iload_n 1, 1) := by decide +kernel
theorem dX12_goBy_30 : decode cX12_goBy 30 = .ok (.iconst 3, 1) := by decide +kernel
theorem dX12_goBy_31 : decode cX12_goBy 31 = .ok (.iadd, 1) := by decide +kernel
theorem dX12_goBy_32 : decode cX12_goBy 32 = .ok (.iaload, 1) := by decide +kernel
theorem dX12_goBy_33 : decode cX12_goBy 33 = .ok (.invokevirtual 393, 3) := by decide +kernel
theorem dX12_goBy_36 : decode cX12_goBy 36 = .ok (.istore_n 3, 1) := by decide +kernel
theorem dX12_goBy_37 : decode cX12_goBy 37 = .ok (.iload_n 3, 1) := by decide +kernel
theorem dX12_goBy_38 : decode cX12_goBy 38 = .ok (.ifCond .eq 10, 3) := by decide +kernel
theorem dX12_goBy_41 : decode cX12_goBy 41 = .ok (.bipush 10, 2) := by decide +kernel
theorem dX12_goBy_43 : decode cX12_goBy 43 = .ok (.iload_n 2, 1) := by decide +kernel
theorem dX12_goBy_44 : decode cX12_goBy 44 = .ok (.imul, 1) := by decide +kernel
theorem dX12_goBy_45 : decode cX12_goBy 45 = .ok (.iload_n 3, 1) := by decide +kernel
theorem dX12_goBy_46 : decode cX12_goBy 46 = .ok (.iadd, 1) := by decide +kernel
theorem dX12_goBy_47 : decode cX12_goBy 47 = .ok (.ireturn, 1) := by decide +kernel
theorem dX12_goBy_48 : decode cX12_goBy 48 = .ok (.aload_n 0, 1) := by decide +kernel
theorem dX12_goBy_49 : decode cX12_goBy 49 = .ok (.iload_n 2, 1) := by decide +kernel
theorem dX12_goBy_50 : decode cX12_goBy 50 = .ok (.aload_n 0, 1) := by decide +kernel
theorem dX12_goBy_51 : decode cX12_goBy 51 = .ok (.getfield 190, 3) := by decide +kernel
theorem dX12_goBy_54 : decode cX12_goBy 54 = .ok (.iload_n 1, 1) := by decide +kernel
theorem dX12_goBy_55 : decode cX12_goBy 55 = .ok (.iconst 1, 1) := by decide +kernel
theorem dX12_goBy_56 : decode cX12_goBy 56 = .ok (.iadd, 1) := by decide +kernel
theorem dX12_goBy_57 : decode cX12_goBy 57 = .ok (.iaload, 1) := by decide +kernel
theorem dX12_goBy_58 : decode cX12_goBy 58 = .ok (.aload_n 0, 1) := by decide +kernel
theorem dX12_goBy_59 : decode cX12_goBy 59 = .ok (.getfield 190, 3) := by decide +kernel
theorem dX12_goBy_62 : decode cX12_goBy 62 = .ok (.iload_n 1, 1) := by decide +kernel
theorem dX12_goBy_63 : decode cX12_goBy 63 = .ok (.iconst 2, 1) := by decide +kernel
theorem dX12_goBy_64 : decode cX12_goBy 64 = .ok (.iadd, 1) := by decide +kernel
theorem dX12_goBy_65 : decode cX12_goBy 65 = .ok (.iaload, 1) := by decide +kernel
theorem dX12_goBy_66 : decode cX12_goBy 66 = .ok (.aload_n 0, 1) := by decide +kernel
theorem dX12_goBy_67 : decode cX12_goBy 67 = .ok (.getfield 190, 3) := by decide +kernel
theorem dX12_goBy_70 : decode cX12_goBy 70 = .ok (.iload_n 1, 1) := by decide +kernel
theorem dX12_goBy_71 : decode cX12_goBy 71 = .ok (.iconst 3, 1) := by decide +kernel
theorem dX12_goBy_72 : decode cX12_goBy 72 = .ok (.iadd, 1) := by decide +kernel
theorem dX12_goBy_73 : decode cX12_goBy 73 = .ok (.iaload, 1) := by decide +kernel
theorem dX12_goBy_74 : decode cX12_goBy 74 = .ok (.invokevirtual 400, 3) := by decide +kernel
theorem dX12_goBy_77 : decode cX12_goBy 77 = .ok (.iconst 0, 1) := by decide +kernel
theorem dX12_goBy_78 : decode cX12_goBy 78 = .ok (.ireturn, 1) := by decide +kernel
theorem dX12_book_0 : decode cX12_book 0 = .ok (.aload_n 0, 1) := by decide +kernel
theorem dX12_book_1 : decode cX12_book 1 = .ok (.iconst 0, 1) := by decide +kernel
theorem dX12_book_2 : decode cX12_book 2 = .ok (.putfield 1, 3) := by decide +kernel
theorem dX12_book_5 : decode cX12_book 5 = .ok (.iload_n 1, 1) := by decide +kernel
theorem dX12_book_6 : decode cX12_book 6 = .ok (.iconst 0, 1) := by decide +kernel
theorem dX12_book_7 : decode cX12_book 7 = .ok (.iconst 1, 1) := by decide +kernel
theorem dX12_book_8 : decode cX12_book 8 = .ok (.invokestatic 75, 3) := by decide +kernel
theorem dX12_book_11 : decode cX12_book 11 = .ok (.ifCond .ne 7, 3) := by decide +kernel
theorem dX12_book_14 : decode cX12_book 14 = .ok (.sipush (-1000), 3) := by decide +kernel
theorem dX12_book_17 : decode cX12_book 17 = .ok (.ireturn, 1) := by decide +kernel
theorem dX12_book_18 : decode cX12_book 18 = .ok (.aload_n 0, 1) := by decide +kernel
theorem dX12_book_19 : decode cX12_book 19 = .ok (.sipush 400, 3) := by decide +kernel
theorem dX12_book_22 : decode cX12_book 22 = .ok (.invokevirtual 251, 3) := by decide +kernel
theorem dX12_book_25 : decode cX12_book 25 = .ok (.aload_n 0, 1) := by decide +kernel
theorem dX12_book_26 : decode cX12_book 26 = .ok (.iconst 0, 1) := by decide +kernel
theorem dX12_book_27 : decode cX12_book 27 = .ok (.putfield 459, 3) := by decide +kernel
theorem dX12_book_30 : decode cX12_book 30 = .ok (.aload_n 0, 1) := by decide +kernel
theorem dX12_book_31 : decode cX12_book 31 = .ok (.iconst (-1), 1) := by decide +kernel
theorem dX12_book_32 : decode cX12_book 32 = .ok (.putfield 133, 3) := by decide +kernel
theorem dX12_book_35 : decode cX12_book 35 = .ok (.aload_n 0, 1) := by decide +kernel
theorem dX12_book_36 : decode cX12_book 36 = .ok (.getfield 30, 3) := by decide +kernel
theorem dX12_book_39 : decode cX12_book 39 = .ok (.ifCond .eq 39, 3) := by decide +kernel
theorem dX12_book_42 : decode cX12_book 42 = .ok (.aload_n 0, 1) := by decide +kernel
theorem dX12_book_43 : decode cX12_book 43 = .ok (.invokevirtual 471, 3) := by decide +kernel
theorem dX12_book_46 : decode cX12_book 46 = .ok (.ifCond .ne 19, 3) := by decide +kernel
theorem dX12_book_49 : decode cX12_book 49 = .ok (.aload_n 0, 1) := by decide +kernel
theorem dX12_book_50 : decode cX12_book 50 = .ok (.aload_n 0, 1) := by decide +kernel
theorem dX12_book_51 : decode cX12_book 51 = .ok (.getfield 459, 3) := by decide +kernel
theorem dX12_book_54 : decode cX12_book 54 = .ok (.putfield 133, 3) := by decide +kernel
theorem dX12_book_57 : decode cX12_book 57 = .ok (.bipush (-2), 2) := by decide +kernel
theorem dX12_book_59 : decode cX12_book 59 = .ok (.aload_n 0, 1) := by decide +kernel
theorem dX12_book_60 : decode cX12_book 60 = .ok (.getfield 69, 3) := by decide +kernel
theorem dX12_book_63 : decode cX12_book 63 = .ok (.isub, 1) := by decide +kernel
theorem dX12_book_64 : decode cX12_book 64 = .ok (.ireturn, 1) := by decide +kernel
theorem dX12_book_65 : decode cX12_book 65 = .ok (.aload_n 0, 1) := by decide +kernel
theorem dX12_book_66 : decode cX12_book 66 = .ok (.dup, 1) := by decide +kernel
theorem dX12_book_67 : decode cX12_book 67 = .ok (.getfield 459, 3) := by decide +kernel
theorem dX12_book_70 : decode cX12_book 70 = .ok (.iconst 1, 1) := by decide +kernel
theorem dX12_book_71 : decode cX12_book 71 = .ok (.iadd, 1) := by decide +kernel
theorem dX12_book_72 : decode cX12_book 72 = .ok (.putfield 459, 3) := by decide +kernel
theorem dX12_book_75 : decode cX12_book 75 = .ok (.goto (-40), 3) := by decide +kernel
theorem dX12_book_78 : decode cX12_book 78 = .ok (.aload_n 0, 1) := by decide +kernel
theorem dX12_book_79 : decode cX12_book 79 = .ok (.aload_n 0, 1) := by decide +kernel
theorem dX12_book_80 : decode cX12_book 80 = .ok (.getfield 113, 3) := by decide +kernel
theorem dX12_book_83 : decode cX12_book 83 = .ok (.iconst 0, 1) := by decide +kernel
theorem dX12_book_84 : decode cX12_book 84 = .ok (.invokevirtual 373, 3) := by decide +kernel
theorem dX12_book_87 : decode cX12_book 87 = .ok (.iconst 0, 1) := by decide +kernel
theorem dX12_book_88 : decode cX12_book 88 = .ok (.istore_n 2, 1) := by decide +kernel
theorem dX12_book_89 : decode cX12_book 89 = .ok (.iconst 0, 1) := by decide +kernel
theorem dX12_book_90 : decode cX12_book 90 = .ok (.istore_n 3, 1) := by decide +kernel
theorem dX12_book_91 : decode cX12_book 91 = .ok (.iload_n 2, 1) := by decide +kernel
theorem dX12_book_92 : decode cX12_book 92 = .ok (.aload_n 0, 1) := by decide +kernel
theorem dX12_book_93 : decode cX12_book 93 = .ok (.getfield 459, 3) := by decide +kernel
theorem dX12_book_96 : decode cX12_book 96 = .ok (.if_icmp .ge 25, 3) := by decide +kernel
theorem dX12_book_99 : decode cX12_book 99 = .ok (.iload_n 3, 1) := by decide +kernel
theorem dX12_book_100 : decode cX12_book 100 = .ok (.ifCond .ne 21, 3) := by decide +kernel
theorem dX12_book_103 : decode cX12_book 103 = .ok (.aload_n 0, 1) := by decide +kernel
theorem dX12_book_104 : decode cX12_book 104 = .ok (.iconst 4, 1) := by decide +kernel
theorem dX12_book_105 : decode cX12_book 105 = .ok (.iload_n 2, 1) := by decide +kernel
theorem dX12_book_106 : decode cX12_book 106 = .ok (.imul, 1) := by decide +kernel
theorem dX12_book_107 : decode cX12_book 107 = .ok (.invokevirtual 474, 3) := by decide +kernel
theorem dX12_book_110 : decode cX12_book 110 = .ok (.istore_n 3, 1) := by decide +kernel
theorem dX12_book_111 : decode cX12_book 111 = .ok (.iload_n 3, 1) := by decide +kernel
theorem dX12_book_112 : decode cX12_book 112 = .ok (.ifCond .ne (-21), 3) := by decide +kernel
theorem dX12_book_115 : decode cX12_book 115 = .ok (.iinc 2 1, 3) := by decide +kernel
theorem dX12_book_118 : decode cX12_book 118 = .ok (.goto (-27), 3) := by decide +kernel
theorem dX12_book_121 : decode cX12_book 121 = .ok (.aload_n 0, 1) := by decide +kernel
theorem dX12_book_122 : decode cX12_book 122 = .ok (.getfield 193, 3) := by decide +kernel
theorem dX12_book_125 : decode cX12_book 125 = .ok (.iconst 0, 1) := by decide +kernel
theorem dX12_book_126 : decode cX12_book 126 = .ok (.iload_n 3, 1) := by decide +kernel
theorem dX12_book_127 : decode cX12_book 127 = .ok (.iastore, 1) := by decide +kernel
theorem dX12_book_128 : decode cX12_book 128 = .ok (.aload_n 0, 1) := by decide +kernel
theorem dX12_book_129 : decode cX12_book 129 = .ok (.getfield 193, 3) := by decide +kernel
theorem dX12_book_132 : decode cX12_book 132 = .ok (.iconst 1, 1) := by decide +kernel
theorem dX12_book_133 : decode cX12_book 133 = .ok (.iload_n 2, 1) := by decide +kernel
theorem dX12_book_134 : decode cX12_book 134 = .ok (.iastore, 1) := by decide +kernel
theorem dX12_book_135 : decode cX12_book 135 = .ok (.aload_n 0, 1) := by decide +kernel
theorem dX12_book_136 : decode cX12_book 136 = .ok (.getfield 193, 3) := by decide +kernel
theorem dX12_book_139 : decode cX12_book 139 = .ok (.iconst 2, 1) := by decide +kernel
theorem dX12_book_140 : decode cX12_book 140 = .ok (.aload_n 0, 1) := by decide +kernel
theorem dX12_book_141 : decode cX12_book 141 = .ok (.getfield 98, 3) := by decide +kernel
theorem dX12_book_144 : decode cX12_book 144 = .ok (.sipush 204, 3) := by decide +kernel
theorem dX12_book_147 : decode cX12_book 147 = .ok (.iaload, 1) := by decide +kernel
theorem dX12_book_148 : decode cX12_book 148 = .ok (.iastore, 1) := by decide +kernel
theorem dX12_book_149 : decode cX12_book 149 = .ok (.aload_n 0, 1) := by decide +kernel
theorem dX12_book_150 : decode cX12_book 150 = .ok (.getfield 193, 3) := by decide +kernel
theorem dX12_book_153 : decode cX12_book 153 = .ok (.iconst 3, 1) := by decide +kernel
theorem dX12_book_154 : decode cX12_book 154 = .ok (.aload_n 0, 1) := by decide +kernel
theorem dX12_book_155 : decode cX12_book 155 = .ok (.invokevirtual 344, 3) := by decide +kernel
theorem dX12_book_158 : decode cX12_book 158 = .ok (.iastore, 1) := by decide +kernel
theorem dX12_book_159 : decode cX12_book 159 = .ok (.aload_n 0, 1) := by decide +kernel
theorem dX12_book_160 : decode cX12_book 160 = .ok (.iconst 1, 1) := by decide +kernel
theorem dX12_book_161 : decode cX12_book 161 = .ok (.putfield 477, 3) := by decide +kernel
theorem dX12_book_164 : decode cX12_book 164 = .ok (.aload_n 0, 1) := by decide +kernel
theorem dX12_book_165 : decode cX12_book 165 = .ok (.iload_n 1, 1) := by decide +kernel
theorem dX12_book_166 : decode cX12_book 166 = .ok (.iconst 1, 1) := by decide +kernel
theorem dX12_book_167 : decode cX12_book 167 = .ok (.if_icmp .ne 11, 3) := by decide +kernel
theorem dX12_book_170 : decode cX12_book 170 = .ok (.iload_n 2, 1) := by decide +kernel
theorem dX12_book_171 : decode cX12_book 171 = .ok (.ifCond .le 7, 3) := by decide +kernel
theorem dX12_book_174 : decode cX12_book 174 = .ok (.iconst 1, 1) := by decide +kernel
theorem dX12_book_175 : decode cX12_book 175 = .ok (.goto 4, 3) := by decide +kernel
theorem dX12_book_178 : decode cX12_book 178 = .ok (.iconst 0, 1) := by decide +kernel
theorem dX12_book_179 : decode cX12_book 179 = .ok (.invokevirtual 480, 3) := by decide +kernel
theorem dX12_book_182 : decode cX12_book 182 = .ok (.iload_n 3, 1) := by decide +kernel
theorem dX12_book_183 : decode cX12_book 183 = .ok (.ifCond .ne 7, 3) := by decide +kernel
theorem dX12_book_186 : decode cX12_book 186 = .ok (.iconst (-1), 1) := by decide +kernel
theorem dX12_book_187 : decode cX12_book 187 = .ok (.goto 4, 3) := by decide +kernel
theorem dX12_book_190 : decode cX12_book 190 = .ok (.iload_n 2, 1) := by decide +kernel
theorem dX12_book_191 : decode cX12_book 191 = .ok (.ireturn, 1) := by decide +kernel
theorem dX12_stay_0 : decode cX12_stay 0 = .ok (.aload_n 0, 1) := by decide +kernel
theorem dX12_stay_1 : decode cX12_stay 1 = .ok (.aload_n 0, 1) := by decide +kernel
theorem dX12_stay_2 : decode cX12_stay 2 = .ok (.getfield 110, 3) := by decide +kernel
theorem dX12_stay_5 : decode cX12_stay 5 = .ok (.iconst 0, 1) := by decide +kernel
theorem dX12_stay_6 : decode cX12_stay 6 = .ok (.invokevirtual 373, 3) := by decide +kernel
theorem dX12_stay_9 : decode cX12_stay 9 = .ok (.aload_n 0, 1) := by decide +kernel
theorem dX12_stay_10 : decode cX12_stay 10 = .ok (.aload_n 0, 1) := by decide +kernel
theorem dX12_stay_11 : decode cX12_stay 11 = .ok (.getfield 113, 3) := by decide +kernel
theorem dX12_stay_14 : decode cX12_stay 14 = .ok (.iconst 0, 1) := by decide +kernel
theorem dX12_stay_15 : decode cX12_stay 15 = .ok (.invokevirtual 408, 3) := by decide +kernel
theorem dX12_stay_18 : decode cX12_stay 18 = .ok (.iload_n 1, 1) := by decide +kernel
theorem dX12_stay_19 : decode cX12_stay 19 = .ok (.ifCond .ne 4, 3) := by decide +kernel
theorem dX12_stay_22 : decode cX12_stay 22 = .ok (.return_, 1) := by decide +kernel
theorem dX12_stay_23 : decode cX12_stay 23 = .ok (.aload_n 0, 1) := by decide +kernel
theorem dX12_stay_24 : decode cX12_stay 24 = .ok (.invokevirtual 397, 3) := by decide +kernel
theorem dX12_stay_27 : decode cX12_stay 27 = .ok (.aload_n 0, 1) := by decide +kernel
theorem dX12_stay_28 : decode cX12_stay 28 = .ok (.aload_n 0, 1) := by decide +kernel
theorem dX12_stay_29 : decode cX12_stay 29 = .ok (.getfield 110, 3) := by decide +kernel
theorem dX12_stay_32 : decode cX12_stay 32 = .ok (.iconst 0, 1) := by decide +kernel
theorem dX12_stay_33 : decode cX12_stay 33 = .ok (.invokevirtual 408, 3) := by decide +kernel
theorem dX12_stay_36 : decode cX12_stay 36 = .ok (.return_, 1) := by decide +kernel
theorem dX12_told_0 : decode cX12_told 0 = .ok (.aload_n 0, 1) := by decide +kernel
theorem dX12_told_1 : decode cX12_told 1 = .ok (.iconst 0, 1) := by decide +kernel
theorem dX12_told_2 : decode cX12_told 2 = .ok (.putfield 1, 3) := by decide +kernel
theorem dX12_told_5 : decode cX12_told 5 = .ok (.aload_n 0, 1) := by decide +kernel
theorem dX12_told_6 : decode cX12_told 6 = .ok (.getfield 477, 3) := by decide +kernel
theorem dX12_told_9 : decode cX12_told 9 = .ok (.ifCond .eq 21, 3) := by decide +kernel
theorem dX12_told_12 : decode cX12_told 12 = .ok (.iload_n 1, 1) := by decide +kernel
theorem dX12_told_13 : decode cX12_told 13 = .ok (.iconst 0, 1) := by decide +kernel
theorem dX12_told_14 : decode cX12_told 14 = .ok (.iconst 3, 1) := by decide +kernel
theorem dX12_told_15 : decode cX12_told 15 = .ok (.invokestatic 75, 3) := by decide +kernel
theorem dX12_told_18 : decode cX12_told 18 = .ok (.ifCond .eq 12, 3) := by decide +kernel
theorem dX12_told_21 : decode cX12_told 21 = .ok (.aload_n 0, 1) := by decide +kernel
theorem dX12_told_22 : decode cX12_told 22 = .ok (.getfield 193, 3) := by decide +kernel
theorem dX12_told_25 : decode cX12_told 25 = .ok (.iload_n 1, 1) := by decide +kernel
theorem dX12_told_26 : decode cX12_told 26 = .ok (.iaload, 1) := by decide +kernel
theorem dX12_told_27 : decode cX12_told 27 = .ok (.goto 4, 3) := by decide +kernel
theorem dX12_told_30 : decode cX12_told 30 = .ok (.iconst (-1), 1) := by decide +kernel
theorem dX12_told_31 : decode cX12_told 31 = .ok (.ireturn, 1) := by decide +kernel
theorem dX12_copiesOf_0 : decode cX12_copiesOf 0 = .ok (.iconst 0, 1) := by decide +kernel
theorem dX12_copiesOf_1 : decode cX12_copiesOf 1 = .ok (.istore_n 2, 1) := by decide +kernel
theorem dX12_copiesOf_2 : decode cX12_copiesOf 2 = .ok (.iconst 0, 1) := by decide +kernel
theorem dX12_copiesOf_3 : decode cX12_copiesOf 3 = .ok (.istore_n 3, 1) := by decide +kernel
theorem dX12_copiesOf_4 : decode cX12_copiesOf 4 = .ok (.iload_n 3, 1) := by decide +kernel
theorem dX12_copiesOf_5 : decode cX12_copiesOf 5 = .ok (.aload_n 0, 1) := by decide +kernel
theorem dX12_copiesOf_6 : decode cX12_copiesOf 6 = .ok (.getfield 98, 3) := by decide +kernel
theorem dX12_copiesOf_9 : decode cX12_copiesOf 9 = .ok (.iconst 1, 1) := by decide +kernel
theorem dX12_copiesOf_10 : decode cX12_copiesOf 10 = .ok (.iaload, 1) := by decide +kernel
theorem dX12_copiesOf_11 : decode cX12_copiesOf 11 = .ok (.if_icmp .ge 21, 3) := by decide +kernel
theorem dX12_copiesOf_14 : decode cX12_copiesOf 14 = .ok (.aload_n 0, 1) := by decide +kernel
theorem dX12_copiesOf_15 : decode cX12_copiesOf 15 = .ok (.iload_n 3, 1) := by decide +kernel
theorem dX12_copiesOf_16 : decode cX12_copiesOf 16 = .ok (.iload_n 1, 1) := by decide +kernel
theorem dX12_copiesOf_17 : decode cX12_copiesOf 17 = .ok (.invokevirtual 294, 3) := by decide +kernel
theorem dX12_copiesOf_20 : decode cX12_copiesOf 20 = .ok (.ifCond .eq 6, 3) := by decide +kernel
theorem dX12_copiesOf_23 : decode cX12_copiesOf 23 = .ok (.iinc 2 1, 3) := by decide +kernel
theorem dX12_copiesOf_26 : decode cX12_copiesOf 26 = .ok (.iinc 3 1, 3) := by decide +kernel
theorem dX12_copiesOf_29 : decode cX12_copiesOf 29 = .ok (.goto (-25), 3) := by decide +kernel
theorem dX12_copiesOf_32 : decode cX12_copiesOf 32 = .ok (.iload_n 2, 1) := by decide +kernel
theorem dX12_copiesOf_33 : decode cX12_copiesOf 33 = .ok (.ireturn, 1) := by decide +kernel
theorem dX12_latestOf_0 : decode cX12_latestOf 0 = .ok (.iconst 0, 1) := by decide +kernel
theorem dX12_latestOf_1 : decode cX12_latestOf 1 = .ok (.istore_n 2, 1) := by decide +kernel
theorem dX12_latestOf_2 : decode cX12_latestOf 2 = .ok (.iconst 0, 1) := by decide +kernel
theorem dX12_latestOf_3 : decode cX12_latestOf 3 = .ok (.istore_n 3, 1) := by decide +kernel
theorem dX12_latestOf_4 : decode cX12_latestOf 4 = .ok (.iload_n 3, 1) := by decide +kernel
theorem dX12_latestOf_5 : decode cX12_latestOf 5 = .ok (.aload_n 0, 1) := by decide +kernel
theorem dX12_latestOf_6 : decode cX12_latestOf 6 = .ok (.getfield 98, 3) := by decide +kernel
theorem dX12_latestOf_9 : decode cX12_latestOf 9 = .ok (.iconst 1, 1) := by decide +kernel
theorem dX12_latestOf_10 : decode cX12_latestOf 10 = .ok (.iaload, 1) := by decide +kernel
theorem dX12_latestOf_11 : decode cX12_latestOf 11 = .ok (.if_icmp .ge 42, 3) := by decide +kernel
theorem dX12_latestOf_14 : decode cX12_latestOf 14 = .ok (.aload_n 0, 1) := by decide +kernel
theorem dX12_latestOf_15 : decode cX12_latestOf 15 = .ok (.getfield 98, 3) := by decide +kernel
theorem dX12_latestOf_18 : decode cX12_latestOf 18 = .ok (.sipush 309, 3) := by decide +kernel
theorem dX12_latestOf_21 : decode cX12_latestOf 21 = .ok (.iload_n 3, 1) := by decide +kernel
theorem dX12_latestOf_22 : decode cX12_latestOf 22 = .ok (.iload_n 1, 1) := by decide +kernel
theorem dX12_latestOf_23 : decode cX12_latestOf 23 = .ok (.invokestatic 291, 3) := by decide +kernel
theorem dX12_latestOf_26 : decode cX12_latestOf 26 = .ok (.iadd, 1) := by decide +kernel
theorem dX12_latestOf_27 : decode cX12_latestOf 27 = .ok (.iaload, 1) := by decide +kernel
theorem dX12_latestOf_28 : decode cX12_latestOf 28 = .ok (.iload_n 2, 1) := by decide +kernel
theorem dX12_latestOf_29 : decode cX12_latestOf 29 = .ok (.if_icmp .le 18, 3) := by decide +kernel
theorem dX12_latestOf_32 : decode cX12_latestOf 32 = .ok (.aload_n 0, 1) := by decide +kernel
theorem dX12_latestOf_33 : decode cX12_latestOf 33 = .ok (.getfield 98, 3) := by decide +kernel
theorem dX12_latestOf_36 : decode cX12_latestOf 36 = .ok (.sipush 309, 3) := by decide +kernel
theorem dX12_latestOf_39 : decode cX12_latestOf 39 = .ok (.iload_n 3, 1) := by decide +kernel
theorem dX12_latestOf_40 : decode cX12_latestOf 40 = .ok (.iload_n 1, 1) := by decide +kernel
theorem dX12_latestOf_41 : decode cX12_latestOf 41 = .ok (.invokestatic 291, 3) := by decide +kernel
theorem dX12_latestOf_44 : decode cX12_latestOf 44 = .ok (.iadd, 1) := by decide +kernel
theorem dX12_latestOf_45 : decode cX12_latestOf 45 = .ok (.iaload, 1) := by decide +kernel
theorem dX12_latestOf_46 : decode cX12_latestOf 46 = .ok (.istore_n 2, 1) := by decide +kernel
theorem dX12_latestOf_47 : decode cX12_latestOf 47 = .ok (.iinc 3 1, 3) := by decide +kernel
theorem dX12_latestOf_50 : decode cX12_latestOf 50 = .ok (.goto (-46), 3) := by decide +kernel
theorem dX12_latestOf_53 : decode cX12_latestOf 53 = .ok (.iload_n 2, 1) := by decide +kernel
theorem dX12_latestOf_54 : decode cX12_latestOf 54 = .ok (.ireturn, 1) := by decide +kernel
theorem dX12_saysOne_0 : decode cX12_saysOne 0 = .ok (.iconst 4, 1) := by decide +kernel
theorem dX12_saysOne_1 : decode cX12_saysOne 1 = .ok (.aload_n 0, 1) := by decide +kernel
theorem dX12_saysOne_2 : decode cX12_saysOne 2 = .ok (.getfield 484, 3) := by decide +kernel
theorem dX12_saysOne_5 : decode cX12_saysOne 5 = .ok (.imul, 1) := by decide +kernel
theorem dX12_saysOne_6 : decode cX12_saysOne 6 = .ok (.istore 5, 2) := by decide +kernel
theorem dX12_saysOne_8 : decode cX12_saysOne 8 = .ok (.aload_n 0, 1) := by decide +kernel
theorem dX12_saysOne_9 : decode cX12_saysOne 9 = .ok (.getfield 196, 3) := by decide +kernel
theorem dX12_saysOne_12 : decode cX12_saysOne 12 = .ok (.iload 5, 2) := by decide +kernel
theorem dX12_saysOne_14 : decode cX12_saysOne 14 = .ok (.iload_n 1, 1) := by decide +kernel
theorem dX12_saysOne_15 : decode cX12_saysOne 15 = .ok (.iastore, 1) := by decide +kernel
theorem dX12_saysOne_16 : decode cX12_saysOne 16 = .ok (.aload_n 0, 1) := by decide +kernel
theorem dX12_saysOne_17 : decode cX12_saysOne 17 = .ok (.getfield 196, 3) := by decide +kernel
theorem dX12_saysOne_20 : decode cX12_saysOne 20 = .ok (.iload 5, 2) := by decide +kernel
theorem dX12_saysOne_22 : decode cX12_saysOne 22 = .ok (.iconst 1, 1) := by decide +kernel
theorem dX12_saysOne_23 : decode cX12_saysOne 23 = .ok (.iadd, 1) := by decide +kernel
theorem dX12_saysOne_24 : decode cX12_saysOne 24 = .ok (.iload_n 2, 1) := by decide +kernel
theorem dX12_saysOne_25 : decode cX12_saysOne 25 = .ok (.iastore, 1) := by decide +kernel
theorem dX12_saysOne_26 : decode cX12_saysOne 26 = .ok (.aload_n 0, 1) := by decide +kernel
theorem dX12_saysOne_27 : decode cX12_saysOne 27 = .ok (.getfield 196, 3) := by decide +kernel
theorem dX12_saysOne_30 : decode cX12_saysOne 30 = .ok (.iload 5, 2) := by decide +kernel
theorem dX12_saysOne_32 : decode cX12_saysOne 32 = .ok (.iconst 2, 1) := by decide +kernel
theorem dX12_saysOne_33 : decode cX12_saysOne 33 = .ok (.iadd, 1) := by decide +kernel
theorem dX12_saysOne_34 : decode cX12_saysOne 34 = .ok (.iload_n 3, 1) := by decide +kernel
theorem dX12_saysOne_35 : decode cX12_saysOne 35 = .ok (.iastore, 1) := by decide +kernel
theorem dX12_saysOne_36 : decode cX12_saysOne 36 = .ok (.aload_n 0, 1) := by decide +kernel
theorem dX12_saysOne_37 : decode cX12_saysOne 37 = .ok (.getfield 196, 3) := by decide +kernel
theorem dX12_saysOne_40 : decode cX12_saysOne 40 = .ok (.iload 5, 2) := by decide +kernel
theorem dX12_saysOne_42 : decode cX12_saysOne 42 = .ok (.iconst 3, 1) := by decide +kernel
theorem dX12_saysOne_43 : decode cX12_saysOne 43 = .ok (.iadd, 1) := by decide +kernel
theorem dX12_saysOne_44 : decode cX12_saysOne 44 = .ok (.iload 4, 2) := by decide +kernel
theorem dX12_saysOne_46 : decode cX12_saysOne 46 = .ok (.iastore, 1) := by decide +kernel
theorem dX12_saysOne_47 : decode cX12_saysOne 47 = .ok (.aload_n 0, 1) := by decide +kernel
theorem dX12_saysOne_48 : decode cX12_saysOne 48 = .ok (.dup, 1) := by decide +kernel
theorem dX12_saysOne_49 : decode cX12_saysOne 49 = .ok (.getfield 484, 3) := by decide +kernel
theorem dX12_saysOne_52 : decode cX12_saysOne 52 = .ok (.iconst 1, 1) := by decide +kernel
theorem dX12_saysOne_53 : decode cX12_saysOne 53 = .ok (.iadd, 1) := by decide +kernel
theorem dX12_saysOne_54 : decode cX12_saysOne 54 = .ok (.putfield 484, 3) := by decide +kernel
theorem dX12_saysOne_57 : decode cX12_saysOne 57 = .ok (.aload_n 0, 1) := by decide +kernel
theorem dX12_saysOne_58 : decode cX12_saysOne 58 = .ok (.getfield 484, 3) := by decide +kernel
theorem dX12_saysOne_61 : decode cX12_saysOne 61 = .ok (.iconst 1, 1) := by decide +kernel
theorem dX12_saysOne_62 : decode cX12_saysOne 62 = .ok (.isub, 1) := by decide +kernel
theorem dX12_saysOne_63 : decode cX12_saysOne 63 = .ok (.ireturn, 1) := by decide +kernel
theorem dX12_readOr_0 : decode cX12_readOr 0 = .ok (.aload_n 0, 1) := by decide +kernel
theorem dX12_readOr_1 : decode cX12_readOr 1 = .ok (.invokevirtual 487, 3) := by decide +kernel
theorem dX12_readOr_4 : decode cX12_readOr 4 = .ok (.ifCond .ne 5, 3) := by decide +kernel
theorem dX12_readOr_7 : decode cX12_readOr 7 = .ok (.iconst 0, 1) := by decide +kernel
theorem dX12_readOr_8 : decode cX12_readOr 8 = .ok (.ireturn, 1) := by decide +kernel
theorem dX12_readOr_9 : decode cX12_readOr 9 = .ok (.aload_n 0, 1) := by decide +kernel
theorem dX12_readOr_10 : decode cX12_readOr 10 = .ok (.getfield 490, 3) := by decide +kernel
theorem dX12_readOr_13 : decode cX12_readOr 13 = .ok (.istore_n 1, 1) := by decide +kernel
theorem dX12_readOr_14 : decode cX12_readOr 14 = .ok (.aload_n 0, 1) := by decide +kernel
theorem dX12_readOr_15 : decode cX12_readOr 15 = .ok (.bipush 14, 2) := by decide +kernel
theorem dX12_readOr_17 : decode cX12_readOr 17 = .ok (.invokevirtual 213, 3) := by decide +kernel
theorem dX12_readOr_20 : decode cX12_readOr 20 = .ok (.ifCond .eq 31, 3) := by decide +kernel
theorem dX12_readOr_23 : decode cX12_readOr 23 = .ok (.aload_n 0, 1) := by decide +kernel
theorem dX12_readOr_24 : decode cX12_readOr 24 = .ok (.invokevirtual 82, 3) := by decide +kernel
theorem dX12_readOr_27 : decode cX12_readOr 27 = .ok (.aload_n 0, 1) := by decide +kernel
theorem dX12_readOr_28 : decode cX12_readOr 28 = .ok (.invokevirtual 487, 3) := by decide +kernel
theorem dX12_readOr_31 : decode cX12_readOr 31 = .ok (.ifCond .ne 5, 3) := by decide +kernel
theorem dX12_readOr_34 : decode cX12_readOr 34 = .ok (.iconst 0, 1) := by decide +kernel
theorem dX12_readOr_35 : decode cX12_readOr 35 = .ok (.ireturn, 1) := by decide +kernel
theorem dX12_readOr_36 : decode cX12_readOr 36 = .ok (.aload_n 0, 1) := by decide +kernel
theorem dX12_readOr_37 : decode cX12_readOr 37 = .ok (.iconst 3, 1) := by decide +kernel
theorem dX12_readOr_38 : decode cX12_readOr 38 = .ok (.iload_n 1, 1) := by decide +kernel
theorem dX12_readOr_39 : decode cX12_readOr 39 = .ok (.aload_n 0, 1) := by decide +kernel
theorem dX12_readOr_40 : decode cX12_readOr 40 = .ok (.getfield 490, 3) := by decide +kernel
theorem dX12_readOr_43 : decode cX12_readOr 43 = .ok (.iconst 0, 1) := by decide +kernel
theorem dX12_readOr_44 : decode cX12_readOr 44 = .ok (.invokevirtual 493, 3) := by decide +kernel
theorem dX12_readOr_47 : decode cX12_readOr 47 = .ok (.istore_n 1, 1) := by decide +kernel
theorem dX12_readOr_48 : decode cX12_readOr 48 = .ok (.goto (-34), 3) := by decide +kernel
theorem dX12_readOr_51 : decode cX12_readOr 51 = .ok (.aload_n 0, 1) := by decide +kernel
theorem dX12_readOr_52 : decode cX12_readOr 52 = .ok (.iload_n 1, 1) := by decide +kernel
theorem dX12_readOr_53 : decode cX12_readOr 53 = .ok (.putfield 490, 3) := by decide +kernel
theorem dX12_readOr_56 : decode cX12_readOr 56 = .ok (.iconst 1, 1) := by decide +kernel
theorem dX12_readOr_57 : decode cX12_readOr 57 = .ok (.ireturn, 1) := by decide +kernel
theorem dX12_readAnd_0 : decode cX12_readAnd 0 = .ok (.aload_n 0, 1) := by decide +kernel
theorem dX12_readAnd_1 : decode cX12_readAnd 1 = .ok (.invokevirtual 496, 3) := by decide +kernel
theorem dX12_readAnd_4 : decode cX12_readAnd 4 = .ok (.ifCond .ne 5, 3) := by decide +kernel
theorem dX12_readAnd_7 : decode cX12_readAnd 7 = .ok (.iconst 0, 1) := by decide +kernel
theorem dX12_readAnd_8 : decode cX12_readAnd 8 = .ok (.ireturn, 1) := by decide +kernel
theorem dX12_readAnd_9 : decode cX12_readAnd 9 = .ok (.aload_n 0, 1) := by decide +kernel
theorem dX12_readAnd_10 : decode cX12_readAnd 10 = .ok (.getfield 490, 3) := by decide +kernel
theorem dX12_readAnd_13 : decode cX12_readAnd 13 = .ok (.istore_n 1, 1) := by decide +kernel
theorem dX12_readAnd_14 : decode cX12_readAnd 14 = .ok (.aload_n 0, 1) := by decide +kernel
theorem dX12_readAnd_15 : decode cX12_readAnd 15 = .ok (.bipush 15, 2) := by decide +kernel
theorem dX12_readAnd_17 : decode cX12_readAnd 17 = .ok (.invokevirtual 213, 3) := by decide +kernel
theorem dX12_readAnd_20 : decode cX12_readAnd 20 = .ok (.ifCond .eq 31, 3) := by decide +kernel
theorem dX12_readAnd_23 : decode cX12_readAnd 23 = .ok (.aload_n 0, 1) := by decide +kernel
theorem dX12_readAnd_24 : decode cX12_readAnd 24 = .ok (.invokevirtual 82, 3) := by decide +kernel
theorem dX12_readAnd_27 : decode cX12_readAnd 27 = .ok (.aload_n 0, 1) := by decide +kernel
theorem dX12_readAnd_28 : decode cX12_readAnd 28 = .ok (.invokevirtual 496, 3) := by decide +kernel
theorem dX12_readAnd_31 : decode cX12_readAnd 31 = .ok (.ifCond .ne 5, 3) := by decide +kernel
theorem dX12_readAnd_34 : decode cX12_readAnd 34 = .ok (.iconst 0, 1) := by decide +kernel
theorem dX12_readAnd_35 : decode cX12_readAnd 35 = .ok (.ireturn, 1) := by decide +kernel
theorem dX12_readAnd_36 : decode cX12_readAnd 36 = .ok (.aload_n 0, 1) := by decide +kernel
theorem dX12_readAnd_37 : decode cX12_readAnd 37 = .ok (.iconst 2, 1) := by decide +kernel
theorem dX12_readAnd_38 : decode cX12_readAnd 38 = .ok (.iload_n 1, 1) := by decide +kernel
theorem dX12_readAnd_39 : decode cX12_readAnd 39 = .ok (.aload_n 0, 1) := by decide +kernel
theorem dX12_readAnd_40 : decode cX12_readAnd 40 = .ok (.getfield 490, 3) := by decide +kernel
theorem dX12_readAnd_43 : decode cX12_readAnd 43 = .ok (.iconst 0, 1) := by decide +kernel
theorem dX12_readAnd_44 : decode cX12_readAnd 44 = .ok (.invokevirtual 493, 3) := by decide +kernel
theorem dX12_readAnd_47 : decode cX12_readAnd 47 = .ok (.istore_n 1, 1) := by decide +kernel
theorem dX12_readAnd_48 : decode cX12_readAnd 48 = .ok (.goto (-34), 3) := by decide +kernel
theorem dX12_readAnd_51 : decode cX12_readAnd 51 = .ok (.aload_n 0, 1) := by decide +kernel
theorem dX12_readAnd_52 : decode cX12_readAnd 52 = .ok (.iload_n 1, 1) := by decide +kernel
theorem dX12_readAnd_53 : decode cX12_readAnd 53 = .ok (.putfield 490, 3) := by decide +kernel
theorem dX12_readAnd_56 : decode cX12_readAnd 56 = .ok (.iconst 1, 1) := by decide +kernel
theorem dX12_readAnd_57 : decode cX12_readAnd 57 = .ok (.ireturn, 1) := by decide +kernel
theorem dX12_readSaid_0 : decode cX12_readSaid 0 = .ok (.aload_n 0, 1) := by decide +kernel
theorem dX12_readSaid_1 : decode cX12_readSaid 1 = .ok (.bipush 40, 2) := by decide +kernel
theorem dX12_readSaid_3 : decode cX12_readSaid 3 = .ok (.invokevirtual 86, 3) := by decide +kernel
theorem dX12_readSaid_6 : decode cX12_readSaid 6 = .ok (.istore_n 1, 1) := by decide +kernel
theorem dX12_readSaid_7 : decode cX12_readSaid 7 = .ok (.bipush 16, 2) := by decide +kernel
theorem dX12_readSaid_9 : decode cX12_readSaid 9 = .ok (.istore_n 2, 1) := by decide +kernel
theorem dX12_readSaid_10 : decode cX12_readSaid 10 = .ok (.iload_n 2, 1) := by decide +kernel
theorem dX12_readSaid_11 : decode cX12_readSaid 11 = .ok (.bipush 23, 2) := by decide +kernel
theorem dX12_readSaid_13 : decode cX12_readSaid 13 = .ok (.if_icmp .gt 17, 3) := by decide +kernel
theorem dX12_readSaid_16 : decode cX12_readSaid 16 = .ok (.aload_n 0, 1) := by decide +kernel
theorem dX12_readSaid_17 : decode cX12_readSaid 17 = .ok (.iload_n 2, 1) := by decide +kernel
theorem dX12_readSaid_18 : decode cX12_readSaid 18 = .ok (.invokevirtual 213, 3) := by decide +kernel
theorem dX12_readSaid_21 : decode cX12_readSaid 21 = .ok (.ifCond .ne 9, 3) := by decide +kernel
theorem dX12_readSaid_24 : decode cX12_readSaid 24 = .ok (.iinc 2 1, 3) := by decide +kernel
theorem dX12_readSaid_27 : decode cX12_readSaid 27 = .ok (.goto (-17), 3) := by decide +kernel
theorem dX12_readSaid_30 : decode cX12_readSaid 30 = .ok (.iload_n 1, 1) := by decide +kernel
theorem dX12_readSaid_31 : decode cX12_readSaid 31 = .ok (.ifCond .ne 15, 3) := by decide +kernel
theorem dX12_readSaid_34 : decode cX12_readSaid 34 = .ok (.iload_n 2, 1) := by decide +kernel
theorem dX12_readSaid_35 : decode cX12_readSaid 35 = .ok (.bipush 23, 2) := by decide +kernel
theorem dX12_readSaid_37 : decode cX12_readSaid 37 = .ok (.if_icmp .le 9, 3) := by decide +kernel
theorem dX12_readSaid_40 : decode cX12_readSaid 40 = .ok (.aload_n 0, 1) := by decide +kernel
theorem dX12_readSaid_41 : decode cX12_readSaid 41 = .ok (.iconst 1, 1) := by decide +kernel
theorem dX12_readSaid_42 : decode cX12_readSaid 42 = .ok (.invokevirtual 72, 3) := by decide +kernel
theorem dX12_readSaid_45 : decode cX12_readSaid 45 = .ok (.ireturn, 1) := by decide +kernel
theorem dX12_readSaid_46 : decode cX12_readSaid 46 = .ok (.aload_n 0, 1) := by decide +kernel
theorem dX12_readSaid_47 : decode cX12_readSaid 47 = .ok (.getfield 499, 3) := by decide +kernel
theorem dX12_readSaid_50 : decode cX12_readSaid 50 = .ok (.bipush 20, 2) := by decide +kernel
theorem dX12_readSaid_52 : decode cX12_readSaid 52 = .ok (.if_icmp .eq 12, 3) := by decide +kernel
theorem dX12_readSaid_55 : decode cX12_readSaid 55 = .ok (.aload_n 0, 1) := by decide +kernel
theorem dX12_readSaid_56 : decode cX12_readSaid 56 = .ok (.getfield 502, 3) := by decide +kernel
theorem dX12_readSaid_59 : decode cX12_readSaid 59 = .ok (.bipush 8, 2) := by decide +kernel
theorem dX12_readSaid_61 : decode cX12_readSaid 61 = .ok (.if_icmp .ne 9, 3) := by decide +kernel
theorem dX12_readSaid_64 : decode cX12_readSaid 64 = .ok (.aload_n 0, 1) := by decide +kernel
theorem dX12_readSaid_65 : decode cX12_readSaid 65 = .ok (.iconst 4, 1) := by decide +kernel
theorem dX12_readSaid_66 : decode cX12_readSaid 66 = .ok (.invokevirtual 72, 3) := by decide +kernel
theorem dX12_readSaid_69 : decode cX12_readSaid 69 = .ok (.ireturn, 1) := by decide +kernel
theorem dX12_readSaid_70 : decode cX12_readSaid 70 = .ok (.aload_n 0, 1) := by decide +kernel
theorem dX12_readSaid_71 : decode cX12_readSaid 71 = .ok (.dup, 1) := by decide +kernel
theorem dX12_readSaid_72 : decode cX12_readSaid 72 = .ok (.getfield 499, 3) := by decide +kernel
theorem dX12_readSaid_75 : decode cX12_readSaid 75 = .ok (.iconst 1, 1) := by decide +kernel
theorem dX12_readSaid_76 : decode cX12_readSaid 76 = .ok (.iadd, 1) := by decide +kernel
theorem dX12_readSaid_77 : decode cX12_readSaid 77 = .ok (.putfield 499, 3) := by decide +kernel
theorem dX12_readSaid_80 : decode cX12_readSaid 80 = .ok (.aload_n 0, 1) := by decide +kernel
theorem dX12_readSaid_81 : decode cX12_readSaid 81 = .ok (.dup, 1) := by decide +kernel
theorem dX12_readSaid_82 : decode cX12_readSaid 82 = .ok (.getfield 502, 3) := by decide +kernel
theorem dX12_readSaid_85 : decode cX12_readSaid 85 = .ok (.iconst 1, 1) := by decide +kernel
theorem dX12_readSaid_86 : decode cX12_readSaid 86 = .ok (.iadd, 1) := by decide +kernel
theorem dX12_readSaid_87 : decode cX12_readSaid 87 = .ok (.putfield 502, 3) := by decide +kernel
theorem dX12_readSaid_90 : decode cX12_readSaid 90 = .ok (.aload_n 0, 1) := by decide +kernel
theorem dX12_readSaid_91 : decode cX12_readSaid 91 = .ok (.invokevirtual 82, 3) := by decide +kernel
theorem dX12_readSaid_94 : decode cX12_readSaid 94 = .ok (.iconst 1, 1) := by decide +kernel
theorem dX12_readSaid_95 : decode cX12_readSaid 95 = .ok (.istore_n 3, 1) := by decide +kernel
theorem dX12_readSaid_96 : decode cX12_readSaid 96 = .ok (.iload_n 1, 1) := by decide +kernel
theorem dX12_readSaid_97 : decode cX12_readSaid 97 = .ok (.ifCond .eq 11, 3) := by decide +kernel
theorem dX12_readSaid_100 : decode cX12_readSaid 100 = .ok (.aload_n 0, 1) := by decide +kernel
theorem dX12_readSaid_101 : decode cX12_readSaid 101 = .ok (.invokevirtual 505, 3) := by decide +kernel
theorem dX12_readSaid_104 : decode cX12_readSaid 104 = .ok (.istore_n 3, 1) := by decide +kernel
theorem dX12_readSaid_105 : decode cX12_readSaid 105 = .ok (.goto 61, 3) := by decide +kernel
theorem dX12_readSaid_108 : decode cX12_readSaid 108 = .ok (.iload_n 2, 1) := by decide +kernel
theorem dX12_readSaid_109 : decode cX12_readSaid 109 = .ok (.bipush 16, 2) := by decide +kernel
theorem dX12_readSaid_111 : decode cX12_readSaid 111 = .ok (.if_icmp .ne 11, 3) := by decide +kernel
theorem dX12_readSaid_114 : decode cX12_readSaid 114 = .ok (.aload_n 0, 1) := by decide +kernel
theorem dX12_readSaid_115 : decode cX12_readSaid 115 = .ok (.invokevirtual 508, 3) := by decide +kernel
theorem dX12_readSaid_118 : decode cX12_readSaid 118 = .ok (.istore_n 3, 1) := by decide +kernel
theorem dX12_readSaid_119 : decode cX12_readSaid 119 = .ok (.goto 47, 3) := by decide +kernel
theorem dX12_readSaid_122 : decode cX12_readSaid 122 = .ok (.iload_n 2, 1) := by decide +kernel
theorem dX12_readSaid_123 : decode cX12_readSaid 123 = .ok (.bipush 18, 2) := by decide +kernel
theorem dX12_readSaid_125 : decode cX12_readSaid 125 = .ok (.if_icmp .ge 21, 3) := by decide +kernel
theorem dX12_readSaid_128 : decode cX12_readSaid 128 = .ok (.aload_n 0, 1) := by decide +kernel
theorem dX12_readSaid_129 : decode cX12_readSaid 129 = .ok (.aload_n 0, 1) := by decide +kernel
theorem dX12_readSaid_130 : decode cX12_readSaid 130 = .ok (.bipush 50, 2) := by decide +kernel
theorem dX12_readSaid_132 : decode cX12_readSaid 132 = .ok (.iload_n 2, 1) := by decide +kernel
theorem dX12_readSaid_133 : decode cX12_readSaid 133 = .ok (.iadd, 1) := by decide +kernel
theorem dX12_readSaid_134 : decode cX12_readSaid 134 = .ok (.iconst 0, 1) := by decide +kernel
theorem dX12_readSaid_135 : decode cX12_readSaid 135 = .ok (.iconst 0, 1) := by decide +kernel
theorem dX12_readSaid_136 : decode cX12_readSaid 136 = .ok (.iconst 0, 1) := by decide +kernel
theorem dX12_readSaid_137 : decode cX12_readSaid 137 = .ok (.invokevirtual 493, 3) := by decide +kernel
theorem dX12_readSaid_140 : decode cX12_readSaid 140 = .ok (.putfield 490, 3) := by decide +kernel
theorem dX12_readSaid_143 : decode cX12_readSaid 143 = .ok (.goto 23, 3) := by decide +kernel
theorem dX12_readSaid_146 : decode cX12_readSaid 146 = .ok (.iload_n 2, 1) := by decide +kernel
theorem dX12_readSaid_147 : decode cX12_readSaid 147 = .ok (.bipush 20, 2) := by decide +kernel
theorem dX12_readSaid_149 : decode cX12_readSaid 149 = .ok (.if_icmp .ge 11, 3) := by decide +kernel
theorem dX12_readSaid_152 : decode cX12_readSaid 152 = .ok (.aload_n 0, 1) := by decide +kernel
theorem dX12_readSaid_153 : decode cX12_readSaid 153 = .ok (.iload_n 2, 1) := by decide +kernel
theorem dX12_readSaid_154 : decode cX12_readSaid 154 = .ok (.invokevirtual 511, 3) := by decide +kernel
theorem dX12_readSaid_157 : decode cX12_readSaid 157 = .ok (.goto 8, 3) := by decide +kernel
theorem dX12_readSaid_160 : decode cX12_readSaid 160 = .ok (.aload_n 0, 1) := by decide +kernel
theorem dX12_readSaid_161 : decode cX12_readSaid 161 = .ok (.iload_n 2, 1) := by decide +kernel
theorem dX12_readSaid_162 : decode cX12_readSaid 162 = .ok (.invokevirtual 514, 3) := by decide +kernel
theorem dX12_readSaid_165 : decode cX12_readSaid 165 = .ok (.istore_n 3, 1) := by decide +kernel
theorem dX12_readSaid_166 : decode cX12_readSaid 166 = .ok (.aload_n 0, 1) := by decide +kernel
theorem dX12_readSaid_167 : decode cX12_readSaid 167 = .ok (.dup, 1) := by decide +kernel
theorem dX12_readSaid_168 : decode cX12_readSaid 168 = .ok (.getfield 502, 3) := by decide +kernel
theorem dX12_readSaid_171 : decode cX12_readSaid 171 = .ok (.iconst 1, 1) := by decide +kernel
theorem dX12_readSaid_172 : decode cX12_readSaid 172 = .ok (.isub, 1) := by decide +kernel
theorem dX12_readSaid_173 : decode cX12_readSaid 173 = .ok (.putfield 502, 3) := by decide +kernel
theorem dX12_readSaid_176 : decode cX12_readSaid 176 = .ok (.iload_n 3, 1) := by decide +kernel
theorem dX12_readSaid_177 : decode cX12_readSaid 177 = .ok (.ireturn, 1) := by decide +kernel
theorem dX12_readNot_0 : decode cX12_readNot 0 = .ok (.aload_n 0, 1) := by decide +kernel
theorem dX12_readNot_1 : decode cX12_readNot 1 = .ok (.invokevirtual 496, 3) := by decide +kernel
theorem dX12_readNot_4 : decode cX12_readNot 4 = .ok (.ifCond .ne 5, 3) := by decide +kernel
theorem dX12_readNot_7 : decode cX12_readNot 7 = .ok (.iconst 0, 1) := by decide +kernel
theorem dX12_readNot_8 : decode cX12_readNot 8 = .ok (.ireturn, 1) := by decide +kernel
theorem dX12_readNot_9 : decode cX12_readNot 9 = .ok (.aload_n 0, 1) := by decide +kernel
theorem dX12_readNot_10 : decode cX12_readNot 10 = .ok (.aload_n 0, 1) := by decide +kernel
theorem dX12_readNot_11 : decode cX12_readNot 11 = .ok (.iconst 1, 1) := by decide +kernel
theorem dX12_readNot_12 : decode cX12_readNot 12 = .ok (.aload_n 0, 1) := by decide +kernel
theorem dX12_readNot_13 : decode cX12_readNot 13 = .ok (.getfield 490, 3) := by decide +kernel
theorem dX12_readNot_16 : decode cX12_readNot 16 = .ok (.iconst 0, 1) := by decide +kernel
theorem dX12_readNot_17 : decode cX12_readNot 17 = .ok (.iconst 0, 1) := by decide +kernel
theorem dX12_readNot_18 : decode cX12_readNot 18 = .ok (.invokevirtual 493, 3) := by decide +kernel
theorem dX12_readNot_21 : decode cX12_readNot 21 = .ok (.putfield 490, 3) := by decide +kernel
theorem dX12_readNot_24 : decode cX12_readNot 24 = .ok (.iconst 1, 1) := by decide +kernel
theorem dX12_readNot_25 : decode cX12_readNot 25 = .ok (.ireturn, 1) := by decide +kernel
theorem dX12_readBracket_0 : decode cX12_readBracket 0 = .ok (.aload_n 0, 1) := by decide +kernel
theorem dX12_readBracket_1 : decode cX12_readBracket 1 = .ok (.invokevirtual 517, 3) := by decide +kernel
theorem dX12_readBracket_4 : decode cX12_readBracket 4 = .ok (.ifCond .ne 5, 3) := by decide +kernel
theorem dX12_readBracket_7 : decode cX12_readBracket 7 = .ok (.iconst 0, 1) := by decide +kernel
theorem dX12_readBracket_8 : decode cX12_readBracket 8 = .ok (.ireturn, 1) := by decide +kernel
theorem dX12_readBracket_9 : decode cX12_readBracket 9 = .ok (.aload_n 0, 1) := by decide +kernel
theorem dX12_readBracket_10 : decode cX12_readBracket 10 = .ok (.bipush 41, 2) := by decide +kernel
theorem dX12_readBracket_12 : decode cX12_readBracket 12 = .ok (.invokevirtual 86, 3) := by decide +kernel
theorem dX12_readBracket_15 : decode cX12_readBracket 15 = .ok (.ifCond .ne 9, 3) := by decide +kernel
theorem dX12_readBracket_18 : decode cX12_readBracket 18 = .ok (.aload_n 0, 1) := by decide +kernel
theorem dX12_readBracket_19 : decode cX12_readBracket 19 = .ok (.iconst 1, 1) := by decide +kernel
theorem dX12_readBracket_20 : decode cX12_readBracket 20 = .ok (.invokevirtual 72, 3) := by decide +kernel
theorem dX12_readBracket_23 : decode cX12_readBracket 23 = .ok (.ireturn, 1) := by decide +kernel
theorem dX12_readBracket_24 : decode cX12_readBracket 24 = .ok (.aload_n 0, 1) := by decide +kernel
theorem dX12_readBracket_25 : decode cX12_readBracket 25 = .ok (.invokevirtual 82, 3) := by decide +kernel
theorem dX12_readBracket_28 : decode cX12_readBracket 28 = .ok (.iconst 1, 1) := by decide +kernel
theorem dX12_readBracket_29 : decode cX12_readBracket 29 = .ok (.ireturn, 1) := by decide +kernel
theorem dX12_readOf_0 : decode cX12_readOf 0 = .ok (.aload_n 0, 1) := by decide +kernel
theorem dX12_readOf_1 : decode cX12_readOf 1 = .ok (.invokevirtual 462, 3) := by decide +kernel
theorem dX12_readOf_4 : decode cX12_readOf 4 = .ok (.ifCond .ne 5, 3) := by decide +kernel
theorem dX12_readOf_7 : decode cX12_readOf 7 = .ok (.iconst 0, 1) := by decide +kernel
theorem dX12_readOf_8 : decode cX12_readOf 8 = .ok (.ireturn, 1) := by decide +kernel
theorem dX12_readOf_9 : decode cX12_readOf 9 = .ok (.aload_n 0, 1) := by decide +kernel
theorem dX12_readOf_10 : decode cX12_readOf 10 = .ok (.aload_n 0, 1) := by decide +kernel
theorem dX12_readOf_11 : decode cX12_readOf 11 = .ok (.bipush 50, 2) := by decide +kernel
theorem dX12_readOf_13 : decode cX12_readOf 13 = .ok (.iload_n 1, 1) := by decide +kernel
theorem dX12_readOf_14 : decode cX12_readOf 14 = .ok (.iadd, 1) := by decide +kernel
theorem dX12_readOf_15 : decode cX12_readOf 15 = .ok (.aload_n 0, 1) := by decide +kernel
theorem dX12_readOf_16 : decode cX12_readOf 16 = .ok (.getfield 79, 3) := by decide +kernel
theorem dX12_readOf_19 : decode cX12_readOf 19 = .ok (.iconst 0, 1) := by decide +kernel
theorem dX12_readOf_20 : decode cX12_readOf 20 = .ok (.iconst 0, 1) := by decide +kernel
theorem dX12_readOf_21 : decode cX12_readOf 21 = .ok (.invokevirtual 493, 3) := by decide +kernel
theorem dX12_readOf_24 : decode cX12_readOf 24 = .ok (.putfield 490, 3) := by decide +kernel
theorem dX12_readOf_27 : decode cX12_readOf 27 = .ok (.iconst 1, 1) := by decide +kernel
theorem dX12_readOf_28 : decode cX12_readOf 28 = .ok (.ireturn, 1) := by decide +kernel
theorem dX12_readCompare_0 : decode cX12_readCompare 0 = .ok (.aload_n 0, 1) := by decide +kernel
theorem dX12_readCompare_1 : decode cX12_readCompare 1 = .ok (.bipush 60, 2) := by decide +kernel
theorem dX12_readCompare_3 : decode cX12_readCompare 3 = .ok (.invokevirtual 86, 3) := by decide +kernel
theorem dX12_readCompare_6 : decode cX12_readCompare 6 = .ok (.ifCond .ne 27, 3) := by decide +kernel
theorem dX12_readCompare_9 : decode cX12_readCompare 9 = .ok (.aload_n 0, 1) := by decide +kernel
theorem dX12_readCompare_10 : decode cX12_readCompare 10 = .ok (.bipush 61, 2) := by decide +kernel
theorem dX12_readCompare_12 : decode cX12_readCompare 12 = .ok (.invokevirtual 86, 3) := by decide +kernel
theorem dX12_readCompare_15 : decode cX12_readCompare 15 = .ok (.ifCond .ne 18, 3) := by decide +kernel
theorem dX12_readCompare_18 : decode cX12_readCompare 18 = .ok (.aload_n 0, 1) := by decide +kernel
theorem dX12_readCompare_19 : decode cX12_readCompare 19 = .ok (.bipush 62, 2) := by decide +kernel
theorem dX12_readCompare_21 : decode cX12_readCompare 21 = .ok (.invokevirtual 86, 3) := by decide +kernel
theorem dX12_readCompare_24 : decode cX12_readCompare 24 = .ok (.ifCond .ne 9, 3) := by decide +kernel
theorem dX12_readCompare_27 : decode cX12_readCompare 27 = .ok (.aload_n 0, 1) := by decide +kernel
theorem dX12_readCompare_28 : decode cX12_readCompare 28 = .ok (.iconst 1, 1) := by decide +kernel
theorem dX12_readCompare_29 : decode cX12_readCompare 29 = .ok (.invokevirtual 72, 3) := by decide +kernel
theorem dX12_readCompare_32 : decode cX12_readCompare 32 = .ok (.ireturn, 1) := by decide +kernel
theorem dX12_readCompare_33 : decode cX12_readCompare 33 = .ok (.aload_n 0, 1) := by decide +kernel
theorem dX12_readCompare_34 : decode cX12_readCompare 34 = .ok (.getfield 40, 3) := by decide +kernel
theorem dX12_readCompare_37 : decode cX12_readCompare 37 = .ok (.istore_n 2, 1) := by decide +kernel
theorem dX12_readCompare_38 : decode cX12_readCompare 38 = .ok (.aload_n 0, 1) := by decide +kernel
theorem dX12_readCompare_39 : decode cX12_readCompare 39 = .ok (.invokevirtual 82, 3) := by decide +kernel
theorem dX12_readCompare_42 : decode cX12_readCompare 42 = .ok (.aload_n 0, 1) := by decide +kernel
theorem dX12_readCompare_43 : decode cX12_readCompare 43 = .ok (.iconst 0, 1) := by decide +kernel
theorem dX12_readCompare_44 : decode cX12_readCompare 44 = .ok (.sipush 999, 3) := by decide +kernel
theorem dX12_readCompare_47 : decode cX12_readCompare 47 = .ok (.invokevirtual 226, 3) := by decide +kernel
theorem dX12_readCompare_50 : decode cX12_readCompare 50 = .ok (.ifCond .ne 5, 3) := by decide +kernel
theorem dX12_readCompare_53 : decode cX12_readCompare 53 = .ok (.iconst 0, 1) := by decide +kernel
theorem dX12_readCompare_54 : decode cX12_readCompare 54 = .ok (.ireturn, 1) := by decide +kernel
theorem dX12_readCompare_55 : decode cX12_readCompare 55 = .ok (.aload_n 0, 1) := by decide +kernel
theorem dX12_readCompare_56 : decode cX12_readCompare 56 = .ok (.aload_n 0, 1) := by decide +kernel
theorem dX12_readCompare_57 : decode cX12_readCompare 57 = .ok (.bipush 50, 2) := by decide +kernel
theorem dX12_readCompare_59 : decode cX12_readCompare 59 = .ok (.iload_n 1, 1) := by decide +kernel
theorem dX12_readCompare_60 : decode cX12_readCompare 60 = .ok (.iadd, 1) := by decide +kernel
theorem dX12_readCompare_61 : decode cX12_readCompare 61 = .ok (.iconst 0, 1) := by decide +kernel
theorem dX12_readCompare_62 : decode cX12_readCompare 62 = .ok (.aload_n 0, 1) := by decide +kernel
theorem dX12_readCompare_63 : decode cX12_readCompare 63 = .ok (.getfield 79, 3) := by decide +kernel
theorem dX12_readCompare_66 : decode cX12_readCompare 66 = .ok (.iload_n 2, 1) := by decide +kernel
theorem dX12_readCompare_67 : decode cX12_readCompare 67 = .ok (.invokevirtual 493, 3) := by decide +kernel
theorem dX12_readCompare_70 : decode cX12_readCompare 70 = .ok (.putfield 490, 3) := by decide +kernel
theorem dX12_readCompare_73 : decode cX12_readCompare 73 = .ok (.iconst 1, 1) := by decide +kernel
theorem dX12_readCompare_74 : decode cX12_readCompare 74 = .ok (.ireturn, 1) := by decide +kernel
theorem dX12_sentence_0 : decode cX12_sentence 0 = .ok (.aload_n 0, 1) := by decide +kernel
theorem dX12_sentence_1 : decode cX12_sentence 1 = .ok (.sipush 200, 3) := by decide +kernel
theorem dX12_sentence_4 : decode cX12_sentence 4 = .ok (.invokevirtual 251, 3) := by decide +kernel
theorem dX12_sentence_7 : decode cX12_sentence 7 = .ok (.aload_n 0, 1) := by decide +kernel
theorem dX12_sentence_8 : decode cX12_sentence 8 = .ok (.iconst 0, 1) := by decide +kernel
theorem dX12_sentence_9 : decode cX12_sentence 9 = .ok (.putfield 133, 3) := by decide +kernel
theorem dX12_sentence_12 : decode cX12_sentence 12 = .ok (.aload_n 0, 1) := by decide +kernel
theorem dX12_sentence_13 : decode cX12_sentence 13 = .ok (.iconst 0, 1) := by decide +kernel
theorem dX12_sentence_14 : decode cX12_sentence 14 = .ok (.putfield 484, 3) := by decide +kernel
theorem dX12_sentence_17 : decode cX12_sentence 17 = .ok (.aload_n 0, 1) := by decide +kernel
theorem dX12_sentence_18 : decode cX12_sentence 18 = .ok (.iconst 0, 1) := by decide +kernel
theorem dX12_sentence_19 : decode cX12_sentence 19 = .ok (.putfield 499, 3) := by decide +kernel
theorem dX12_sentence_22 : decode cX12_sentence 22 = .ok (.aload_n 0, 1) := by decide +kernel
theorem dX12_sentence_23 : decode cX12_sentence 23 = .ok (.iconst 0, 1) := by decide +kernel
theorem dX12_sentence_24 : decode cX12_sentence 24 = .ok (.putfield 502, 3) := by decide +kernel
theorem dX12_sentence_27 : decode cX12_sentence 27 = .ok (.aload_n 0, 1) := by decide +kernel
theorem dX12_sentence_28 : decode cX12_sentence 28 = .ok (.invokevirtual 517, 3) := by decide +kernel
theorem dX12_sentence_31 : decode cX12_sentence 31 = .ok (.ifCond .ne 10, 3) := by decide +kernel
theorem dX12_sentence_34 : decode cX12_sentence 34 = .ok (.iconst (-1), 1) := by decide +kernel
theorem dX12_sentence_35 : decode cX12_sentence 35 = .ok (.aload_n 0, 1) := by decide +kernel
theorem dX12_sentence_36 : decode cX12_sentence 36 = .ok (.getfield 69, 3) := by decide +kernel
theorem dX12_sentence_39 : decode cX12_sentence 39 = .ok (.isub, 1) := by decide +kernel
theorem dX12_sentence_40 : decode cX12_sentence 40 = .ok (.ireturn, 1) := by decide +kernel
theorem dX12_sentence_41 : decode cX12_sentence 41 = .ok (.aload_n 0, 1) := by decide +kernel
theorem dX12_sentence_42 : decode cX12_sentence 42 = .ok (.getfield 30, 3) := by decide +kernel
theorem dX12_sentence_45 : decode cX12_sentence 45 = .ok (.ifCond .eq 16, 3) := by decide +kernel
theorem dX12_sentence_48 : decode cX12_sentence 48 = .ok (.aload_n 0, 1) := by decide +kernel
theorem dX12_sentence_49 : decode cX12_sentence 49 = .ok (.iconst 1, 1) := by decide +kernel
theorem dX12_sentence_50 : decode cX12_sentence 50 = .ok (.invokevirtual 72, 3) := by decide +kernel
theorem dX12_sentence_53 : decode cX12_sentence 53 = .ok (.pop, 1) := by decide +kernel
theorem dX12_sentence_54 : decode cX12_sentence 54 = .ok (.iconst (-1), 1) := by decide +kernel
theorem dX12_sentence_55 : decode cX12_sentence 55 = .ok (.aload_n 0, 1) := by decide +kernel
theorem dX12_sentence_56 : decode cX12_sentence 56 = .ok (.getfield 69, 3) := by decide +kernel
theorem dX12_sentence_59 : decode cX12_sentence 59 = .ok (.isub, 1) := by decide +kernel
theorem dX12_sentence_60 : decode cX12_sentence 60 = .ok (.ireturn, 1) := by decide +kernel
theorem dX12_sentence_61 : decode cX12_sentence 61 = .ok (.aload_n 0, 1) := by decide +kernel
theorem dX12_sentence_62 : decode cX12_sentence 62 = .ok (.iconst (-1), 1) := by decide +kernel
theorem dX12_sentence_63 : decode cX12_sentence 63 = .ok (.putfield 133, 3) := by decide +kernel
theorem dX12_sentence_66 : decode cX12_sentence 66 = .ok (.aload_n 0, 1) := by decide +kernel
theorem dX12_sentence_67 : decode cX12_sentence 67 = .ok (.getfield 98, 3) := by decide +kernel
theorem dX12_sentence_70 : decode cX12_sentence 70 = .ok (.sipush 405, 3) := by decide +kernel
theorem dX12_sentence_73 : decode cX12_sentence 73 = .ok (.iconst 1, 1) := by decide +kernel
theorem dX12_sentence_74 : decode cX12_sentence 74 = .ok (.iastore, 1) := by decide +kernel
theorem dX12_sentence_75 : decode cX12_sentence 75 = .ok (.aload_n 0, 1) := by decide +kernel
theorem dX12_sentence_76 : decode cX12_sentence 76 = .ok (.getfield 98, 3) := by decide +kernel
theorem dX12_sentence_79 : decode cX12_sentence 79 = .ok (.sipush 406, 3) := by decide +kernel
theorem dX12_sentence_82 : decode cX12_sentence 82 = .ok (.aload_n 0, 1) := by decide +kernel
theorem dX12_sentence_83 : decode cX12_sentence 83 = .ok (.getfield 490, 3) := by decide +kernel
theorem dX12_sentence_86 : decode cX12_sentence 86 = .ok (.iastore, 1) := by decide +kernel
theorem dX12_sentence_87 : decode cX12_sentence 87 = .ok (.iconst 0, 1) := by decide +kernel
theorem dX12_sentence_88 : decode cX12_sentence 88 = .ok (.istore_n 1, 1) := by decide +kernel
theorem dX12_sentence_89 : decode cX12_sentence 89 = .ok (.iload_n 1, 1) := by decide +kernel
theorem dX12_sentence_90 : decode cX12_sentence 90 = .ok (.sipush 240, 3) := by decide +kernel
theorem dX12_sentence_93 : decode cX12_sentence 93 = .ok (.if_icmp .ge 25, 3) := by decide +kernel
theorem dX12_sentence_96 : decode cX12_sentence 96 = .ok (.aload_n 0, 1) := by decide +kernel
theorem dX12_sentence_97 : decode cX12_sentence 97 = .ok (.getfield 98, 3) := by decide +kernel
theorem dX12_sentence_100 : decode cX12_sentence 100 = .ok (.sipush 407, 3) := by decide +kernel
theorem dX12_sentence_103 : decode cX12_sentence 103 = .ok (.iload_n 1, 1) := by decide +kernel
theorem dX12_sentence_104 : decode cX12_sentence 104 = .ok (.iadd, 1) := by decide +kernel
theorem dX12_sentence_105 : decode cX12_sentence 105 = .ok (.aload_n 0, 1) := by decide +kernel
theorem dX12_sentence_106 : decode cX12_sentence 106 = .ok (.getfield 196, 3) := by decide +kernel
theorem dX12_sentence_109 : decode cX12_sentence 109 = .ok (.iload_n 1, 1) := by decide +kernel
theorem dX12_sentence_110 : decode cX12_sentence 110 = .ok (.iaload, 1) := by decide +kernel
theorem dX12_sentence_111 : decode cX12_sentence 111 = .ok (.iastore, 1) := by decide +kernel
theorem dX12_sentence_112 : decode cX12_sentence 112 = .ok (.iinc 1 1, 3) := by decide +kernel
theorem dX12_sentence_115 : decode cX12_sentence 115 = .ok (.goto (-26), 3) := by decide +kernel
theorem dX12_sentence_118 : decode cX12_sentence 118 = .ok (.aload_n 0, 1) := by decide +kernel
theorem dX12_sentence_119 : decode cX12_sentence 119 = .ok (.getfield 499, 3) := by decide +kernel
theorem dX12_sentence_122 : decode cX12_sentence 122 = .ok (.ireturn, 1) := by decide +kernel
theorem dX12_holds_0 : decode cX12_holds 0 = .ok (.sipush 407, 3) := by decide +kernel
theorem dX12_holds_3 : decode cX12_holds 3 = .ok (.iconst 4, 1) := by decide +kernel
theorem dX12_holds_4 : decode cX12_holds 4 = .ok (.iload_n 1, 1) := by decide +kernel
theorem dX12_holds_5 : decode cX12_holds 5 = .ok (.imul, 1) := by decide +kernel
theorem dX12_holds_6 : decode cX12_holds 6 = .ok (.iadd, 1) := by decide +kernel
theorem dX12_holds_7 : decode cX12_holds 7 = .ok (.istore_n 3, 1) := by decide +kernel
theorem dX12_holds_8 : decode cX12_holds 8 = .ok (.aload_n 0, 1) := by decide +kernel
theorem dX12_holds_9 : decode cX12_holds 9 = .ok (.getfield 98, 3) := by decide +kernel
theorem dX12_holds_12 : decode cX12_holds 12 = .ok (.iload_n 3, 1) := by decide +kernel
theorem dX12_holds_13 : decode cX12_holds 13 = .ok (.iconst 1, 1) := by decide +kernel
theorem dX12_holds_14 : decode cX12_holds 14 = .ok (.iadd, 1) := by decide +kernel
theorem dX12_holds_15 : decode cX12_holds 15 = .ok (.iaload, 1) := by decide +kernel
theorem dX12_holds_16 : decode cX12_holds 16 = .ok (.istore 4, 2) := by decide +kernel
theorem dX12_holds_18 : decode cX12_holds 18 = .ok (.aload_n 0, 1) := by decide +kernel
theorem dX12_holds_19 : decode cX12_holds 19 = .ok (.getfield 98, 3) := by decide +kernel
theorem dX12_holds_22 : decode cX12_holds 22 = .ok (.iload_n 3, 1) := by decide +kernel
theorem dX12_holds_23 : decode cX12_holds 23 = .ok (.iconst 2, 1) := by decide +kernel
theorem dX12_holds_24 : decode cX12_holds 24 = .ok (.iadd, 1) := by decide +kernel
theorem dX12_holds_25 : decode cX12_holds 25 = .ok (.iaload, 1) := by decide +kernel
theorem dX12_holds_26 : decode cX12_holds 26 = .ok (.istore 5, 2) := by decide +kernel
theorem dX12_holds_28 : decode cX12_holds 28 = .ok (.aload_n 0, 1) := by decide +kernel
theorem dX12_holds_29 : decode cX12_holds 29 = .ok (.getfield 98, 3) := by decide +kernel
theorem dX12_holds_32 : decode cX12_holds 32 = .ok (.iload_n 3, 1) := by decide +kernel
theorem dX12_holds_33 : decode cX12_holds 33 = .ok (.iaload, 1) := by decide +kernel
theorem dX12_holds_34 : decode cX12_holds 34 = .ok (.lookupswitch 202 #[(1, 58), (2, 74), (3, 100), (67, 126), (68, 132), (69, 167)], 58) := by decide +kernel
theorem dX12_holds_92 : decode cX12_holds 92 = .ok (.aload_n 0, 1) := by decide +kernel
theorem dX12_holds_93 : decode cX12_holds 93 = .ok (.iload 4, 2) := by decide +kernel
theorem dX12_holds_95 : decode cX12_holds 95 = .ok (.iload_n 2, 1) := by decide +kernel
theorem dX12_holds_96 : decode cX12_holds 96 = .ok (.invokevirtual 520, 3) := by decide +kernel
theorem dX12_holds_99 : decode cX12_holds 99 = .ok (.ifCond .ne 7, 3) := by decide +kernel
theorem dX12_holds_102 : decode cX12_holds 102 = .ok (.iconst 1, 1) := by decide +kernel
theorem dX12_holds_103 : decode cX12_holds 103 = .ok (.goto 4, 3) := by decide +kernel
theorem dX12_holds_106 : decode cX12_holds 106 = .ok (.iconst 0, 1) := by decide +kernel
theorem dX12_holds_107 : decode cX12_holds 107 = .ok (.ireturn, 1) := by decide +kernel
theorem dX12_holds_108 : decode cX12_holds 108 = .ok (.aload_n 0, 1) := by decide +kernel
theorem dX12_holds_109 : decode cX12_holds 109 = .ok (.iload 4, 2) := by decide +kernel
theorem dX12_holds_111 : decode cX12_holds 111 = .ok (.iload_n 2, 1) := by decide +kernel
theorem dX12_holds_112 : decode cX12_holds 112 = .ok (.invokevirtual 520, 3) := by decide +kernel
theorem dX12_holds_115 : decode cX12_holds 115 = .ok (.ifCond .eq 17, 3) := by decide +kernel
theorem dX12_holds_118 : decode cX12_holds 118 = .ok (.aload_n 0, 1) := by decide +kernel
theorem dX12_holds_119 : decode cX12_holds 119 = .ok (.iload 5, 2) := by decide +kernel
theorem dX12_holds_121 : decode cX12_holds 121 = .ok (.iload_n 2, 1) := by decide +kernel
theorem dX12_holds_122 : decode cX12_holds 122 = .ok (.invokevirtual 520, 3) := by decide +kernel
theorem dX12_holds_125 : decode cX12_holds 125 = .ok (.ifCond .eq 7, 3) := by decide +kernel
theorem dX12_holds_128 : decode cX12_holds 128 = .ok (.iconst 1, 1) := by decide +kernel
theorem dX12_holds_129 : decode cX12_holds 129 = .ok (.goto 4, 3) := by decide +kernel
theorem dX12_holds_132 : decode cX12_holds 132 = .ok (.iconst 0, 1) := by decide +kernel
theorem dX12_holds_133 : decode cX12_holds 133 = .ok (.ireturn, 1) := by decide +kernel
theorem dX12_holds_134 : decode cX12_holds 134 = .ok (.aload_n 0, 1) := by decide +kernel
theorem dX12_holds_135 : decode cX12_holds 135 = .ok (.iload 4, 2) := by decide +kernel
theorem dX12_holds_137 : decode cX12_holds 137 = .ok (.iload_n 2, 1) := by decide +kernel
theorem dX12_holds_138 : decode cX12_holds 138 = .ok (.invokevirtual 520, 3) := by decide +kernel
theorem dX12_holds_141 : decode cX12_holds 141 = .ok (.ifCond .ne 13, 3) := by decide +kernel
theorem dX12_holds_144 : decode cX12_holds 144 = .ok (.aload_n 0, 1) := by decide +kernel
theorem dX12_holds_145 : decode cX12_holds 145 = .ok (.iload 5, 2) := by decide +kernel
theorem dX12_holds_147 : decode cX12_holds 147 = .ok (.iload_n 2, 1) := by decide +kernel
theorem dX12_holds_148 : decode cX12_holds 148 = .ok (.invokevirtual 520, 3) := by decide +kernel
theorem dX12_holds_151 : decode cX12_holds 151 = .ok (.ifCond .eq 7, 3) := by decide +kernel
theorem dX12_holds_154 : decode cX12_holds 154 = .ok (.iconst 1, 1) := by decide +kernel
theorem dX12_holds_155 : decode cX12_holds 155 = .ok (.goto 4, 3) := by decide +kernel
theorem dX12_holds_158 : decode cX12_holds 158 = .ok (.iconst 0, 1) := by decide +kernel
theorem dX12_holds_159 : decode cX12_holds 159 = .ok (.ireturn, 1) := by decide +kernel
theorem dX12_holds_160 : decode cX12_holds 160 = .ok (.aload_n 0, 1) := by decide +kernel
theorem dX12_holds_161 : decode cX12_holds 161 = .ok (.iload_n 2, 1) := by decide +kernel
theorem dX12_holds_162 : decode cX12_holds 162 = .ok (.invokevirtual 341, 3) := by decide +kernel
theorem dX12_holds_165 : decode cX12_holds 165 = .ok (.ireturn, 1) := by decide +kernel
theorem dX12_holds_166 : decode cX12_holds 166 = .ok (.aload_n 0, 1) := by decide +kernel
theorem dX12_holds_167 : decode cX12_holds 167 = .ok (.iload 4, 2) := by decide +kernel
theorem dX12_holds_169 : decode cX12_holds 169 = .ok (.iload_n 2, 1) := by decide +kernel
theorem dX12_holds_170 : decode cX12_holds 170 = .ok (.invokevirtual 294, 3) := by decide +kernel
theorem dX12_holds_173 : decode cX12_holds 173 = .ok (.ifCond .eq 26, 3) := by decide +kernel
theorem dX12_holds_176 : decode cX12_holds 176 = .ok (.aload_n 0, 1) := by decide +kernel
theorem dX12_holds_177 : decode cX12_holds 177 = .ok (.getfield 98, 3) := by decide +kernel
theorem dX12_holds_180 : decode cX12_holds 180 = .ok (.sipush 213, 3) := by decide +kernel
theorem dX12_holds_183 : decode cX12_holds 183 = .ok (.iload 4, 2) := by decide +kernel
theorem dX12_holds_185 : decode cX12_holds 185 = .ok (.iload_n 2, 1) := by decide +kernel
theorem dX12_holds_186 : decode cX12_holds 186 = .ok (.invokestatic 291, 3) := by decide +kernel
theorem dX12_holds_189 : decode cX12_holds 189 = .ok (.iadd, 1) := by decide +kernel
theorem dX12_holds_190 : decode cX12_holds 190 = .ok (.iaload, 1) := by decide +kernel
theorem dX12_holds_191 : decode cX12_holds 191 = .ok (.iconst (-1), 1) := by decide +kernel
theorem dX12_holds_192 : decode cX12_holds 192 = .ok (.if_icmp .eq 7, 3) := by decide +kernel
theorem dX12_holds_195 : decode cX12_holds 195 = .ok (.iconst 1, 1) := by decide +kernel
theorem dX12_holds_196 : decode cX12_holds 196 = .ok (.goto 4, 3) := by decide +kernel
theorem dX12_holds_199 : decode cX12_holds 199 = .ok (.iconst 0, 1) := by decide +kernel
theorem dX12_holds_200 : decode cX12_holds 200 = .ok (.ireturn, 1) := by decide +kernel
theorem dX12_holds_201 : decode cX12_holds 201 = .ok (.aload_n 0, 1) := by decide +kernel
theorem dX12_holds_202 : decode cX12_holds 202 = .ok (.iload 4, 2) := by decide +kernel
theorem dX12_holds_204 : decode cX12_holds 204 = .ok (.iload_n 2, 1) := by decide +kernel
theorem dX12_holds_205 : decode cX12_holds 205 = .ok (.invokevirtual 294, 3) := by decide +kernel
theorem dX12_holds_208 : decode cX12_holds 208 = .ok (.ifCond .eq 26, 3) := by decide +kernel
theorem dX12_holds_211 : decode cX12_holds 211 = .ok (.aload_n 0, 1) := by decide +kernel
theorem dX12_holds_212 : decode cX12_holds 212 = .ok (.getfield 98, 3) := by decide +kernel
theorem dX12_holds_215 : decode cX12_holds 215 = .ok (.sipush 213, 3) := by decide +kernel
theorem dX12_holds_218 : decode cX12_holds 218 = .ok (.iload 4, 2) := by decide +kernel
theorem dX12_holds_220 : decode cX12_holds 220 = .ok (.iload_n 2, 1) := by decide +kernel
theorem dX12_holds_221 : decode cX12_holds 221 = .ok (.invokestatic 291, 3) := by decide +kernel
theorem dX12_holds_224 : decode cX12_holds 224 = .ok (.iadd, 1) := by decide +kernel
theorem dX12_holds_225 : decode cX12_holds 225 = .ok (.iaload, 1) := by decide +kernel
theorem dX12_holds_226 : decode cX12_holds 226 = .ok (.iconst (-1), 1) := by decide +kernel
theorem dX12_holds_227 : decode cX12_holds 227 = .ok (.if_icmp .ne 7, 3) := by decide +kernel
theorem dX12_holds_230 : decode cX12_holds 230 = .ok (.iconst 1, 1) := by decide +kernel
theorem dX12_holds_231 : decode cX12_holds 231 = .ok (.goto 4, 3) := by decide +kernel
theorem dX12_holds_234 : decode cX12_holds 234 = .ok (.iconst 0, 1) := by decide +kernel
theorem dX12_holds_235 : decode cX12_holds 235 = .ok (.ireturn, 1) := by decide +kernel
theorem dX12_holds_236 : decode cX12_holds 236 = .ok (.aload_n 0, 1) := by decide +kernel
theorem dX12_holds_237 : decode cX12_holds 237 = .ok (.getfield 98, 3) := by decide +kernel
theorem dX12_holds_240 : decode cX12_holds 240 = .ok (.iload_n 3, 1) := by decide +kernel
theorem dX12_holds_241 : decode cX12_holds 241 = .ok (.iaload, 1) := by decide +kernel
theorem dX12_holds_242 : decode cX12_holds 242 = .ok (.bipush 50, 2) := by decide +kernel
theorem dX12_holds_244 : decode cX12_holds 244 = .ok (.isub, 1) := by decide +kernel
theorem dX12_holds_245 : decode cX12_holds 245 = .ok (.istore 6, 2) := by decide +kernel
theorem dX12_holds_247 : decode cX12_holds 247 = .ok (.iload 6, 2) := by decide +kernel
theorem dX12_holds_249 : decode cX12_holds 249 = .ok (.bipush 20, 2) := by decide +kernel
theorem dX12_holds_251 : decode cX12_holds 251 = .ok (.if_icmp .ne 12, 3) := by decide +kernel
theorem dX12_holds_254 : decode cX12_holds 254 = .ok (.aload_n 0, 1) := by decide +kernel
theorem dX12_holds_255 : decode cX12_holds 255 = .ok (.getfield 139, 3) := by decide +kernel
theorem dX12_holds_258 : decode cX12_holds 258 = .ok (.iload_n 2, 1) := by decide +kernel
theorem dX12_holds_259 : decode cX12_holds 259 = .ok (.iaload, 1) := by decide +kernel
theorem dX12_holds_260 : decode cX12_holds 260 = .ok (.goto 34, 3) := by decide +kernel
theorem dX12_holds_263 : decode cX12_holds 263 = .ok (.iload 6, 2) := by decide +kernel
theorem dX12_holds_265 : decode cX12_holds 265 = .ok (.bipush 21, 2) := by decide +kernel
theorem dX12_holds_267 : decode cX12_holds 267 = .ok (.if_icmp .ne 11, 3) := by decide +kernel
theorem dX12_holds_270 : decode cX12_holds 270 = .ok (.aload_n 0, 1) := by decide +kernel
theorem dX12_holds_271 : decode cX12_holds 271 = .ok (.iload_n 2, 1) := by decide +kernel
theorem dX12_holds_272 : decode cX12_holds 272 = .ok (.invokevirtual 523, 3) := by decide +kernel
theorem dX12_holds_275 : decode cX12_holds 275 = .ok (.goto 19, 3) := by decide +kernel
theorem dX12_holds_278 : decode cX12_holds 278 = .ok (.iload 6, 2) := by decide +kernel
theorem dX12_holds_280 : decode cX12_holds 280 = .ok (.bipush 22, 2) := by decide +kernel
theorem dX12_holds_282 : decode cX12_holds 282 = .ok (.if_icmp .ne 11, 3) := by decide +kernel
theorem dX12_holds_285 : decode cX12_holds 285 = .ok (.aload_n 0, 1) := by decide +kernel
theorem dX12_holds_286 : decode cX12_holds 286 = .ok (.iload_n 2, 1) := by decide +kernel
theorem dX12_holds_287 : decode cX12_holds 287 = .ok (.invokevirtual 526, 3) := by decide +kernel
theorem dX12_holds_290 : decode cX12_holds 290 = .ok (.goto 4, 3) := by decide +kernel
theorem dX12_holds_293 : decode cX12_holds 293 = .ok (.iload_n 2, 1) := by decide +kernel
theorem dX12_holds_294 : decode cX12_holds 294 = .ok (.istore 7, 2) := by decide +kernel
theorem dX12_holds_296 : decode cX12_holds 296 = .ok (.aload_n 0, 1) := by decide +kernel
theorem dX12_holds_297 : decode cX12_holds 297 = .ok (.getfield 98, 3) := by decide +kernel
theorem dX12_holds_300 : decode cX12_holds 300 = .ok (.iload_n 3, 1) := by decide +kernel
theorem dX12_holds_301 : decode cX12_holds 301 = .ok (.iconst 3, 1) := by decide +kernel
theorem dX12_holds_302 : decode cX12_holds 302 = .ok (.iadd, 1) := by decide +kernel
theorem dX12_holds_303 : decode cX12_holds 303 = .ok (.iaload, 1) := by decide +kernel
theorem dX12_holds_304 : decode cX12_holds 304 = .ok (.bipush 60, 2) := by decide +kernel
theorem dX12_holds_306 : decode cX12_holds 306 = .ok (.if_icmp .ne 18, 3) := by decide +kernel
theorem dX12_holds_309 : decode cX12_holds 309 = .ok (.iload 7, 2) := by decide +kernel
theorem dX12_holds_311 : decode cX12_holds 311 = .ok (.iload 5, 2) := by decide +kernel
theorem dX12_holds_313 : decode cX12_holds 313 = .ok (.if_icmp .ge 7, 3) := by decide +kernel
theorem dX12_holds_316 : decode cX12_holds 316 = .ok (.iconst 1, 1) := by decide +kernel
theorem dX12_holds_317 : decode cX12_holds 317 = .ok (.goto 47, 3) := by decide +kernel
theorem dX12_holds_320 : decode cX12_holds 320 = .ok (.iconst 0, 1) := by decide +kernel
theorem dX12_holds_321 : decode cX12_holds 321 = .ok (.goto 43, 3) := by decide +kernel
theorem dX12_holds_324 : decode cX12_holds 324 = .ok (.aload_n 0, 1) := by decide +kernel
theorem dX12_holds_325 : decode cX12_holds 325 = .ok (.getfield 98, 3) := by decide +kernel
theorem dX12_holds_328 : decode cX12_holds 328 = .ok (.iload_n 3, 1) := by decide +kernel
theorem dX12_holds_329 : decode cX12_holds 329 = .ok (.iconst 3, 1) := by decide +kernel
theorem dX12_holds_330 : decode cX12_holds 330 = .ok (.iadd, 1) := by decide +kernel
theorem dX12_holds_331 : decode cX12_holds 331 = .ok (.iaload, 1) := by decide +kernel
theorem dX12_holds_332 : decode cX12_holds 332 = .ok (.bipush 61, 2) := by decide +kernel
theorem dX12_holds_334 : decode cX12_holds 334 = .ok (.if_icmp .ne 18, 3) := by decide +kernel
theorem dX12_holds_337 : decode cX12_holds 337 = .ok (.iload 7, 2) := by decide +kernel
theorem dX12_holds_339 : decode cX12_holds 339 = .ok (.iload 5, 2) := by decide +kernel
theorem dX12_holds_341 : decode cX12_holds 341 = .ok (.if_icmp .ne 7, 3) := by decide +kernel
theorem dX12_holds_344 : decode cX12_holds 344 = .ok (.iconst 1, 1) := by decide +kernel
theorem dX12_holds_345 : decode cX12_holds 345 = .ok (.goto 19, 3) := by decide +kernel
theorem dX12_holds_348 : decode cX12_holds 348 = .ok (.iconst 0, 1) := by decide +kernel
theorem dX12_holds_349 : decode cX12_holds 349 = .ok (.goto 15, 3) := by decide +kernel
theorem dX12_holds_352 : decode cX12_holds 352 = .ok (.iload 7, 2) := by decide +kernel
theorem dX12_holds_354 : decode cX12_holds 354 = .ok (.iload 5, 2) := by decide +kernel
theorem dX12_holds_356 : decode cX12_holds 356 = .ok (.if_icmp .le 7, 3) := by decide +kernel
theorem dX12_holds_359 : decode cX12_holds 359 = .ok (.iconst 1, 1) := by decide +kernel
theorem dX12_holds_360 : decode cX12_holds 360 = .ok (.goto 4, 3) := by decide +kernel
theorem dX12_holds_363 : decode cX12_holds 363 = .ok (.iconst 0, 1) := by decide +kernel
theorem dX12_holds_364 : decode cX12_holds 364 = .ok (.ireturn, 1) := by decide +kernel
theorem dX12_said_0 : decode cX12_said 0 = .ok (.aload_n 0, 1) := by decide +kernel
theorem dX12_said_1 : decode cX12_said 1 = .ok (.iconst 0, 1) := by decide +kernel
theorem dX12_said_2 : decode cX12_said 2 = .ok (.putfield 1, 3) := by decide +kernel
theorem dX12_said_5 : decode cX12_said 5 = .ok (.aload_n 0, 1) := by decide +kernel
theorem dX12_said_6 : decode cX12_said 6 = .ok (.getfield 98, 3) := by decide +kernel
theorem dX12_said_9 : decode cX12_said 9 = .ok (.sipush 405, 3) := by decide +kernel
theorem dX12_said_12 : decode cX12_said 12 = .ok (.iaload, 1) := by decide +kernel
theorem dX12_said_13 : decode cX12_said 13 = .ok (.ifCond .ne 5, 3) := by decide +kernel
theorem dX12_said_16 : decode cX12_said 16 = .ok (.iconst (-1), 1) := by decide +kernel
theorem dX12_said_17 : decode cX12_said 17 = .ok (.ireturn, 1) := by decide +kernel
theorem dX12_said_18 : decode cX12_said 18 = .ok (.iconst 0, 1) := by decide +kernel
theorem dX12_said_19 : decode cX12_said 19 = .ok (.istore_n 2, 1) := by decide +kernel
theorem dX12_said_20 : decode cX12_said 20 = .ok (.iconst 0, 1) := by decide +kernel
theorem dX12_said_21 : decode cX12_said 21 = .ok (.istore_n 3, 1) := by decide +kernel
theorem dX12_said_22 : decode cX12_said 22 = .ok (.iload_n 3, 1) := by decide +kernel
theorem dX12_said_23 : decode cX12_said 23 = .ok (.aload_n 0, 1) := by decide +kernel
theorem dX12_said_24 : decode cX12_said 24 = .ok (.getfield 98, 3) := by decide +kernel
theorem dX12_said_27 : decode cX12_said 27 = .ok (.iconst 0, 1) := by decide +kernel
theorem dX12_said_28 : decode cX12_said 28 = .ok (.iaload, 1) := by decide +kernel
theorem dX12_said_29 : decode cX12_said 29 = .ok (.if_icmp .ge 38, 3) := by decide +kernel
theorem dX12_said_32 : decode cX12_said 32 = .ok (.aload_n 0, 1) := by decide +kernel
theorem dX12_said_33 : decode cX12_said 33 = .ok (.aload_n 0, 1) := by decide +kernel
theorem dX12_said_34 : decode cX12_said 34 = .ok (.getfield 98, 3) := by decide +kernel
theorem dX12_said_37 : decode cX12_said 37 = .ok (.sipush 406, 3) := by decide +kernel
theorem dX12_said_40 : decode cX12_said 40 = .ok (.iaload, 1) := by decide +kernel
theorem dX12_said_41 : decode cX12_said 41 = .ok (.iload_n 3, 1) := by decide +kernel
theorem dX12_said_42 : decode cX12_said 42 = .ok (.invokevirtual 520, 3) := by decide +kernel
theorem dX12_said_45 : decode cX12_said 45 = .ok (.ifCond .ne 6, 3) := by decide +kernel
theorem dX12_said_48 : decode cX12_said 48 = .ok (.goto 13, 3) := by decide +kernel
theorem dX12_said_51 : decode cX12_said 51 = .ok (.iload_n 2, 1) := by decide +kernel
theorem dX12_said_52 : decode cX12_said 52 = .ok (.iload_n 1, 1) := by decide +kernel
theorem dX12_said_53 : decode cX12_said 53 = .ok (.if_icmp .ne 5, 3) := by decide +kernel
theorem dX12_said_56 : decode cX12_said 56 = .ok (.iload_n 3, 1) := by decide +kernel
theorem dX12_said_57 : decode cX12_said 57 = .ok (.ireturn, 1) := by decide +kernel
theorem dX12_said_58 : decode cX12_said 58 = .ok (.iinc 2 1, 3) := by decide +kernel
theorem dX12_said_61 : decode cX12_said 61 = .ok (.iinc 3 1, 3) := by decide +kernel
theorem dX12_said_64 : decode cX12_said 64 = .ok (.goto (-42), 3) := by decide +kernel
theorem dX12_said_67 : decode cX12_said 67 = .ok (.iload_n 1, 1) := by decide +kernel
theorem dX12_said_68 : decode cX12_said 68 = .ok (.iconst (-1), 1) := by decide +kernel
theorem dX12_said_69 : decode cX12_said 69 = .ok (.if_icmp .ne 7, 3) := by decide +kernel
theorem dX12_said_72 : decode cX12_said 72 = .ok (.iload_n 2, 1) := by decide +kernel
theorem dX12_said_73 : decode cX12_said 73 = .ok (.goto 4, 3) := by decide +kernel
theorem dX12_said_76 : decode cX12_said 76 = .ok (.iconst (-1), 1) := by decide +kernel
theorem dX12_said_77 : decode cX12_said 77 = .ok (.ireturn, 1) := by decide +kernel
theorem dX12_image_0 : decode cX12_image 0 = .ok (.aload_n 0, 1) := by decide +kernel
theorem dX12_image_1 : decode cX12_image 1 = .ok (.iconst 0, 1) := by decide +kernel
theorem dX12_image_2 : decode cX12_image 2 = .ok (.putfield 1, 3) := by decide +kernel
theorem dX12_image_5 : decode cX12_image 5 = .ok (.iload_n 1, 1) := by decide +kernel
theorem dX12_image_6 : decode cX12_image 6 = .ok (.iconst 0, 1) := by decide +kernel
theorem dX12_image_7 : decode cX12_image 7 = .ok (.iconst 1, 1) := by decide +kernel
theorem dX12_image_8 : decode cX12_image 8 = .ok (.invokestatic 75, 3) := by decide +kernel
theorem dX12_image_11 : decode cX12_image 11 = .ok (.ifCond .ne 5, 3) := by decide +kernel
theorem dX12_image_14 : decode cX12_image 14 = .ok (.iconst 0, 1) := by decide +kernel
theorem dX12_image_15 : decode cX12_image 15 = .ok (.ireturn, 1) := by decide +kernel
theorem dX12_image_16 : decode cX12_image 16 = .ok (.iconst 0, 1) := by decide +kernel
theorem dX12_image_17 : decode cX12_image 17 = .ok (.istore_n 2, 1) := by decide +kernel
theorem dX12_image_18 : decode cX12_image 18 = .ok (.iload_n 2, 1) := by decide +kernel
theorem dX12_image_19 : decode cX12_image 19 = .ok (.sipush 647, 3) := by decide +kernel
theorem dX12_image_22 : decode cX12_image 22 = .ok (.if_icmp .ge 27, 3) := by decide +kernel
theorem dX12_image_25 : decode cX12_image 25 = .ok (.aload_n 0, 1) := by decide +kernel
theorem dX12_image_26 : decode cX12_image 26 = .ok (.getfield 104, 3) := by decide +kernel
theorem dX12_image_29 : decode cX12_image 29 = .ok (.sipush 647, 3) := by decide +kernel
theorem dX12_image_32 : decode cX12_image 32 = .ok (.iload_n 1, 1) := by decide +kernel
theorem dX12_image_33 : decode cX12_image 33 = .ok (.imul, 1) := by decide +kernel
theorem dX12_image_34 : decode cX12_image 34 = .ok (.iload_n 2, 1) := by decide +kernel
theorem dX12_image_35 : decode cX12_image 35 = .ok (.iadd, 1) := by decide +kernel
theorem dX12_image_36 : decode cX12_image 36 = .ok (.aload_n 0, 1) := by decide +kernel
theorem dX12_image_37 : decode cX12_image 37 = .ok (.getfield 98, 3) := by decide +kernel
theorem dX12_image_40 : decode cX12_image 40 = .ok (.iload_n 2, 1) := by decide +kernel
theorem dX12_image_41 : decode cX12_image 41 = .ok (.iaload, 1) := by decide +kernel
theorem dX12_image_42 : decode cX12_image 42 = .ok (.iastore, 1) := by decide +kernel
theorem dX12_image_43 : decode cX12_image 43 = .ok (.iinc 2 1, 3) := by decide +kernel
theorem dX12_image_46 : decode cX12_image 46 = .ok (.goto (-28), 3) := by decide +kernel
theorem dX12_image_49 : decode cX12_image 49 = .ok (.iconst 0, 1) := by decide +kernel
theorem dX12_image_50 : decode cX12_image 50 = .ok (.istore_n 2, 1) := by decide +kernel
theorem dX12_image_51 : decode cX12_image 51 = .ok (.iload_n 2, 1) := by decide +kernel
theorem dX12_image_52 : decode cX12_image 52 = .ok (.bipush 28, 2) := by decide +kernel
theorem dX12_image_54 : decode cX12_image 54 = .ok (.if_icmp .ge 26, 3) := by decide +kernel
theorem dX12_image_57 : decode cX12_image 57 = .ok (.aload_n 0, 1) := by decide +kernel
theorem dX12_image_58 : decode cX12_image 58 = .ok (.getfield 123, 3) := by decide +kernel
theorem dX12_image_61 : decode cX12_image 61 = .ok (.bipush 28, 2) := by decide +kernel
theorem dX12_image_63 : decode cX12_image 63 = .ok (.iload_n 1, 1) := by decide +kernel
theorem dX12_image_64 : decode cX12_image 64 = .ok (.imul, 1) := by decide +kernel
theorem dX12_image_65 : decode cX12_image 65 = .ok (.iload_n 2, 1) := by decide +kernel
theorem dX12_image_66 : decode cX12_image 66 = .ok (.iadd, 1) := by decide +kernel
theorem dX12_image_67 : decode cX12_image 67 = .ok (.aload_n 0, 1) := by decide +kernel
theorem dX12_image_68 : decode cX12_image 68 = .ok (.getfield 116, 3) := by decide +kernel
theorem dX12_image_71 : decode cX12_image 71 = .ok (.iload_n 2, 1) := by decide +kernel
theorem dX12_image_72 : decode cX12_image 72 = .ok (.laload, 1) := by decide +kernel
theorem dX12_image_73 : decode cX12_image 73 = .ok (.lastore, 1) := by decide +kernel
theorem dX12_image_74 : decode cX12_image 74 = .ok (.iinc 2 1, 3) := by decide +kernel
theorem dX12_image_77 : decode cX12_image 77 = .ok (.goto (-26), 3) := by decide +kernel
theorem dX12_image_80 : decode cX12_image 80 = .ok (.aload_n 0, 1) := by decide +kernel
theorem dX12_image_81 : decode cX12_image 81 = .ok (.getfield 126, 3) := by decide +kernel
theorem dX12_image_84 : decode cX12_image 84 = .ok (.iload_n 1, 1) := by decide +kernel
theorem dX12_image_85 : decode cX12_image 85 = .ok (.iconst 1, 1) := by decide +kernel
theorem dX12_image_86 : decode cX12_image 86 = .ok (.bastore, 1) := by decide +kernel
theorem dX12_image_87 : decode cX12_image 87 = .ok (.iconst 1, 1) := by decide +kernel
theorem dX12_image_88 : decode cX12_image 88 = .ok (.ireturn, 1) := by decide +kernel
theorem dX12_restore_0 : decode cX12_restore 0 = .ok (.aload_n 0, 1) := by decide +kernel
theorem dX12_restore_1 : decode cX12_restore 1 = .ok (.iconst 0, 1) := by decide +kernel
theorem dX12_restore_2 : decode cX12_restore 2 = .ok (.putfield 1, 3) := by decide +kernel
theorem dX12_restore_5 : decode cX12_restore 5 = .ok (.iload_n 1, 1) := by decide +kernel
theorem dX12_restore_6 : decode cX12_restore 6 = .ok (.iconst 0, 1) := by decide +kernel
theorem dX12_restore_7 : decode cX12_restore 7 = .ok (.iconst 1, 1) := by decide +kernel
theorem dX12_restore_8 : decode cX12_restore 8 = .ok (.invokestatic 75, 3) := by decide +kernel
theorem dX12_restore_11 : decode cX12_restore 11 = .ok (.ifCond .eq 12, 3) := by decide +kernel
theorem dX12_restore_14 : decode cX12_restore 14 = .ok (.aload_n 0, 1) := by decide +kernel
theorem dX12_restore_15 : decode cX12_restore 15 = .ok (.getfield 126, 3) := by decide +kernel
theorem dX12_restore_18 : decode cX12_restore 18 = .ok (.iload_n 1, 1) := by decide +kernel
theorem dX12_restore_19 : decode cX12_restore 19 = .ok (.baload, 1) := by decide +kernel
theorem dX12_restore_20 : decode cX12_restore 20 = .ok (.ifCond .ne 5, 3) := by decide +kernel
theorem dX12_restore_23 : decode cX12_restore 23 = .ok (.iconst 0, 1) := by decide +kernel
theorem dX12_restore_24 : decode cX12_restore 24 = .ok (.ireturn, 1) := by decide +kernel
theorem dX12_restore_25 : decode cX12_restore 25 = .ok (.iconst 0, 1) := by decide +kernel
theorem dX12_restore_26 : decode cX12_restore 26 = .ok (.istore_n 2, 1) := by decide +kernel
theorem dX12_restore_27 : decode cX12_restore 27 = .ok (.iload_n 2, 1) := by decide +kernel
theorem dX12_restore_28 : decode cX12_restore 28 = .ok (.sipush 647, 3) := by decide +kernel
theorem dX12_restore_31 : decode cX12_restore 31 = .ok (.if_icmp .ge 27, 3) := by decide +kernel
theorem dX12_restore_34 : decode cX12_restore 34 = .ok (.aload_n 0, 1) := by decide +kernel
theorem dX12_restore_35 : decode cX12_restore 35 = .ok (.getfield 98, 3) := by decide +kernel
theorem dX12_restore_38 : decode cX12_restore 38 = .ok (.iload_n 2, 1) := by decide +kernel
theorem dX12_restore_39 : decode cX12_restore 39 = .ok (.aload_n 0, 1) := by decide +kernel
theorem dX12_restore_40 : decode cX12_restore 40 = .ok (.getfield 104, 3) := by decide +kernel
theorem dX12_restore_43 : decode cX12_restore 43 = .ok (.sipush 647, 3) := by decide +kernel
theorem dX12_restore_46 : decode cX12_restore 46 = .ok (.iload_n 1, 1) := by decide +kernel
theorem dX12_restore_47 : decode cX12_restore 47 = .ok (.imul, 1) := by decide +kernel
theorem dX12_restore_48 : decode cX12_restore 48 = .ok (.iload_n 2, 1) := by decide +kernel
theorem dX12_restore_49 : decode cX12_restore 49 = .ok (.iadd, 1) := by decide +kernel
theorem dX12_restore_50 : decode cX12_restore 50 = .ok (.iaload, 1) := by decide +kernel
theorem dX12_restore_51 : decode cX12_restore 51 = .ok (.iastore, 1) := by decide +kernel
theorem dX12_restore_52 : decode cX12_restore 52 = .ok (.iinc 2 1, 3) := by decide +kernel
theorem dX12_restore_55 : decode cX12_restore 55 = .ok (.goto (-28), 3) := by decide +kernel
theorem dX12_restore_58 : decode cX12_restore 58 = .ok (.iconst 0, 1) := by decide +kernel
theorem dX12_restore_59 : decode cX12_restore 59 = .ok (.istore_n 2, 1) := by decide +kernel
theorem dX12_restore_60 : decode cX12_restore 60 = .ok (.iload_n 2, 1) := by decide +kernel
theorem dX12_restore_61 : decode cX12_restore 61 = .ok (.bipush 28, 2) := by decide +kernel
theorem dX12_restore_63 : decode cX12_restore 63 = .ok (.if_icmp .ge 26, 3) := by decide +kernel
theorem dX12_restore_66 : decode cX12_restore 66 = .ok (.aload_n 0, 1) := by decide +kernel
theorem dX12_restore_67 : decode cX12_restore 67 = .ok (.getfield 116, 3) := by decide +kernel
theorem dX12_restore_70 : decode cX12_restore 70 = .ok (.iload_n 2, 1) := by decide +kernel
theorem dX12_restore_71 : decode cX12_restore 71 = .ok (.aload_n 0, 1) := by decide +kernel
theorem dX12_restore_72 : decode cX12_restore 72 = .ok (.getfield 123, 3) := by decide +kernel
theorem dX12_restore_75 : decode cX12_restore 75 = .ok (.bipush 28, 2) := by decide +kernel
theorem dX12_restore_77 : decode cX12_restore 77 = .ok (.iload_n 1, 1) := by decide +kernel
theorem dX12_restore_78 : decode cX12_restore 78 = .ok (.imul, 1) := by decide +kernel
theorem dX12_restore_79 : decode cX12_restore 79 = .ok (.iload_n 2, 1) := by decide +kernel
theorem dX12_restore_80 : decode cX12_restore 80 = .ok (.iadd, 1) := by decide +kernel
theorem dX12_restore_81 : decode cX12_restore 81 = .ok (.laload, 1) := by decide +kernel
theorem dX12_restore_82 : decode cX12_restore 82 = .ok (.lastore, 1) := by decide +kernel
theorem dX12_restore_83 : decode cX12_restore 83 = .ok (.iinc 2 1, 3) := by decide +kernel
theorem dX12_restore_86 : decode cX12_restore 86 = .ok (.goto (-26), 3) := by decide +kernel
theorem dX12_restore_89 : decode cX12_restore 89 = .ok (.aload_n 0, 1) := by decide +kernel
theorem dX12_restore_90 : decode cX12_restore 90 = .ok (.invokevirtual 199, 3) := by decide +kernel
theorem dX12_restore_93 : decode cX12_restore 93 = .ok (.aload_n 0, 1) := by decide +kernel
theorem dX12_restore_94 : decode cX12_restore 94 = .ok (.iconst 0, 1) := by decide +kernel
theorem dX12_restore_95 : decode cX12_restore 95 = .ok (.putfield 263, 3) := by decide +kernel
theorem dX12_restore_98 : decode cX12_restore 98 = .ok (.iconst 1, 1) := by decide +kernel
theorem dX12_restore_99 : decode cX12_restore 99 = .ok (.ireturn, 1) := by decide +kernel
theorem dX12_count_0 : decode cX12_count 0 = .ok (.aload_n 0, 1) := by decide +kernel
theorem dX12_count_1 : decode cX12_count 1 = .ok (.iconst 0, 1) := by decide +kernel
theorem dX12_count_2 : decode cX12_count 2 = .ok (.putfield 1, 3) := by decide +kernel
theorem dX12_count_5 : decode cX12_count 5 = .ok (.iload_n 1, 1) := by decide +kernel
theorem dX12_count_6 : decode cX12_count 6 = .ok (.tableswitch 78 0 5 #[38, 45, 52, 59, 66, 73], 38) := by decide +kernel
theorem dX12_count_44 : decode cX12_count 44 = .ok (.aload_n 0, 1) := by decide +kernel
theorem dX12_count_45 : decode cX12_count 45 = .ok (.getfield 98, 3) := by decide +kernel
theorem dX12_count_48 : decode cX12_count 48 = .ok (.iconst 0, 1) := by decide +kernel
theorem dX12_count_49 : decode cX12_count 49 = .ok (.iaload, 1) := by decide +kernel
theorem dX12_count_50 : decode cX12_count 50 = .ok (.ireturn, 1) := by decide +kernel
theorem dX12_count_51 : decode cX12_count 51 = .ok (.aload_n 0, 1) := by decide +kernel
theorem dX12_count_52 : decode cX12_count 52 = .ok (.getfield 98, 3) := by decide +kernel
theorem dX12_count_55 : decode cX12_count 55 = .ok (.iconst 1, 1) := by decide +kernel
theorem dX12_count_56 : decode cX12_count 56 = .ok (.iaload, 1) := by decide +kernel
theorem dX12_count_57 : decode cX12_count 57 = .ok (.ireturn, 1) := by decide +kernel
theorem dX12_count_58 : decode cX12_count 58 = .ok (.aload_n 0, 1) := by decide +kernel
theorem dX12_count_59 : decode cX12_count 59 = .ok (.getfield 98, 3) := by decide +kernel
theorem dX12_count_62 : decode cX12_count 62 = .ok (.iconst 2, 1) := by decide +kernel
theorem dX12_count_63 : decode cX12_count 63 = .ok (.iaload, 1) := by decide +kernel
theorem dX12_count_64 : decode cX12_count 64 = .ok (.ireturn, 1) := by decide +kernel
theorem dX12_count_65 : decode cX12_count 65 = .ok (.aload_n 0, 1) := by decide +kernel
theorem dX12_count_66 : decode cX12_count 66 = .ok (.getfield 98, 3) := by decide +kernel
theorem dX12_count_69 : decode cX12_count 69 = .ok (.iconst 3, 1) := by decide +kernel
theorem dX12_count_70 : decode cX12_count 70 = .ok (.iaload, 1) := by decide +kernel
theorem dX12_count_71 : decode cX12_count 71 = .ok (.ireturn, 1) := by decide +kernel
theorem dX12_count_72 : decode cX12_count 72 = .ok (.aload_n 0, 1) := by decide +kernel
theorem dX12_count_73 : decode cX12_count 73 = .ok (.getfield 98, 3) := by decide +kernel
theorem dX12_count_76 : decode cX12_count 76 = .ok (.iconst 4, 1) := by decide +kernel
theorem dX12_count_77 : decode cX12_count 77 = .ok (.iaload, 1) := by decide +kernel
theorem dX12_count_78 : decode cX12_count 78 = .ok (.ireturn, 1) := by decide +kernel
theorem dX12_count_79 : decode cX12_count 79 = .ok (.aload_n 0, 1) := by decide +kernel
theorem dX12_count_80 : decode cX12_count 80 = .ok (.getfield 11, 3) := by decide +kernel
theorem dX12_count_83 : decode cX12_count 83 = .ok (.ireturn, 1) := by decide +kernel
theorem dX12_count_84 : decode cX12_count 84 = .ok (.iconst (-1), 1) := by decide +kernel
theorem dX12_count_85 : decode cX12_count 85 = .ok (.ireturn, 1) := by decide +kernel
theorem dJ6_bitCount_0f7a4_0 : decode cJ6_bitCount_0f7a4 0 = .ok (.iload_n 0, 1) := by decide +kernel
theorem dJ6_bitCount_0f7a4_1 : decode cJ6_bitCount_0f7a4 1 = .ok (.iload_n 0, 1) := by decide +kernel
theorem dJ6_bitCount_0f7a4_2 : decode cJ6_bitCount_0f7a4 2 = .ok (.iconst 1, 1) := by decide +kernel
theorem dJ6_bitCount_0f7a4_3 : decode cJ6_bitCount_0f7a4 3 = .ok (.iushr, 1) := by decide +kernel
theorem dJ6_bitCount_0f7a4_4 : decode cJ6_bitCount_0f7a4 4 = .ok (.ldc_w 265, 3) := by decide +kernel
theorem dJ6_bitCount_0f7a4_7 : decode cJ6_bitCount_0f7a4 7 = .ok (.iand, 1) := by decide +kernel
theorem dJ6_bitCount_0f7a4_8 : decode cJ6_bitCount_0f7a4 8 = .ok (.isub, 1) := by decide +kernel
theorem dJ6_bitCount_0f7a4_9 : decode cJ6_bitCount_0f7a4 9 = .ok (.istore_n 0, 1) := by decide +kernel
theorem dJ6_bitCount_0f7a4_10 : decode cJ6_bitCount_0f7a4 10 = .ok (.iload_n 0, 1) := by decide +kernel
theorem dJ6_bitCount_0f7a4_11 : decode cJ6_bitCount_0f7a4 11 = .ok (.ldc_w 266, 3) := by decide +kernel
theorem dJ6_bitCount_0f7a4_14 : decode cJ6_bitCount_0f7a4 14 = .ok (.iand, 1) := by decide +kernel
theorem dJ6_bitCount_0f7a4_15 : decode cJ6_bitCount_0f7a4 15 = .ok (.iload_n 0, 1) := by decide +kernel
theorem dJ6_bitCount_0f7a4_16 : decode cJ6_bitCount_0f7a4 16 = .ok (.iconst 2, 1) := by decide +kernel
theorem dJ6_bitCount_0f7a4_17 : decode cJ6_bitCount_0f7a4 17 = .ok (.iushr, 1) := by decide +kernel
theorem dJ6_bitCount_0f7a4_18 : decode cJ6_bitCount_0f7a4 18 = .ok (.ldc_w 266, 3) := by decide +kernel
theorem dJ6_bitCount_0f7a4_21 : decode cJ6_bitCount_0f7a4 21 = .ok (.iand, 1) := by decide +kernel
theorem dJ6_bitCount_0f7a4_22 : decode cJ6_bitCount_0f7a4 22 = .ok (.iadd, 1) := by decide +kernel
theorem dJ6_bitCount_0f7a4_23 : decode cJ6_bitCount_0f7a4 23 = .ok (.istore_n 0, 1) := by decide +kernel
theorem dJ6_bitCount_0f7a4_24 : decode cJ6_bitCount_0f7a4 24 = .ok (.iload_n 0, 1) := by decide +kernel
theorem dJ6_bitCount_0f7a4_25 : decode cJ6_bitCount_0f7a4 25 = .ok (.iload_n 0, 1) := by decide +kernel
theorem dJ6_bitCount_0f7a4_26 : decode cJ6_bitCount_0f7a4 26 = .ok (.iconst 4, 1) := by decide +kernel
theorem dJ6_bitCount_0f7a4_27 : decode cJ6_bitCount_0f7a4 27 = .ok (.iushr, 1) := by decide +kernel
theorem dJ6_bitCount_0f7a4_28 : decode cJ6_bitCount_0f7a4 28 = .ok (.iadd, 1) := by decide +kernel
theorem dJ6_bitCount_0f7a4_29 : decode cJ6_bitCount_0f7a4 29 = .ok (.ldc_w 267, 3) := by decide +kernel
theorem dJ6_bitCount_0f7a4_32 : decode cJ6_bitCount_0f7a4 32 = .ok (.iand, 1) := by decide +kernel
theorem dJ6_bitCount_0f7a4_33 : decode cJ6_bitCount_0f7a4 33 = .ok (.istore_n 0, 1) := by decide +kernel
theorem dJ6_bitCount_0f7a4_34 : decode cJ6_bitCount_0f7a4 34 = .ok (.iload_n 0, 1) := by decide +kernel
theorem dJ6_bitCount_0f7a4_35 : decode cJ6_bitCount_0f7a4 35 = .ok (.iload_n 0, 1) := by decide +kernel
theorem dJ6_bitCount_0f7a4_36 : decode cJ6_bitCount_0f7a4 36 = .ok (.bipush 8, 2) := by decide +kernel
theorem dJ6_bitCount_0f7a4_38 : decode cJ6_bitCount_0f7a4 38 = .ok (.iushr, 1) := by decide +kernel
theorem dJ6_bitCount_0f7a4_39 : decode cJ6_bitCount_0f7a4 39 = .ok (.iadd, 1) := by decide +kernel
theorem dJ6_bitCount_0f7a4_40 : decode cJ6_bitCount_0f7a4 40 = .ok (.istore_n 0, 1) := by decide +kernel
theorem dJ6_bitCount_0f7a4_41 : decode cJ6_bitCount_0f7a4 41 = .ok (.iload_n 0, 1) := by decide +kernel
theorem dJ6_bitCount_0f7a4_42 : decode cJ6_bitCount_0f7a4 42 = .ok (.iload_n 0, 1) := by decide +kernel
theorem dJ6_bitCount_0f7a4_43 : decode cJ6_bitCount_0f7a4 43 = .ok (.bipush 16, 2) := by decide +kernel
theorem dJ6_bitCount_0f7a4_45 : decode cJ6_bitCount_0f7a4 45 = .ok (.iushr, 1) := by decide +kernel
theorem dJ6_bitCount_0f7a4_46 : decode cJ6_bitCount_0f7a4 46 = .ok (.iadd, 1) := by decide +kernel
theorem dJ6_bitCount_0f7a4_47 : decode cJ6_bitCount_0f7a4 47 = .ok (.istore_n 0, 1) := by decide +kernel
theorem dJ6_bitCount_0f7a4_48 : decode cJ6_bitCount_0f7a4 48 = .ok (.iload_n 0, 1) := by decide +kernel
theorem dJ6_bitCount_0f7a4_49 : decode cJ6_bitCount_0f7a4 49 = .ok (.bipush 63, 2) := by decide +kernel
theorem dJ6_bitCount_0f7a4_51 : decode cJ6_bitCount_0f7a4 51 = .ok (.iand, 1) := by decide +kernel
theorem dJ6_bitCount_0f7a4_52 : decode cJ6_bitCount_0f7a4 52 = .ok (.ireturn, 1) := by decide +kernel
theorem dJ9_max_7cf53_0 : decode cJ9_max_7cf53 0 = .ok (.iload_n 0, 1) := by decide +kernel
theorem dJ9_max_7cf53_1 : decode cJ9_max_7cf53 1 = .ok (.iload_n 1, 1) := by decide +kernel
theorem dJ9_max_7cf53_2 : decode cJ9_max_7cf53 2 = .ok (.if_icmp .lt 7, 3) := by decide +kernel
theorem dJ9_max_7cf53_5 : decode cJ9_max_7cf53 5 = .ok (.iload_n 0, 1) := by decide +kernel
theorem dJ9_max_7cf53_6 : decode cJ9_max_7cf53 6 = .ok (.goto 4, 3) := by decide +kernel
theorem dJ9_max_7cf53_9 : decode cJ9_max_7cf53 9 = .ok (.iload_n 1, 1) := by decide +kernel
theorem dJ9_max_7cf53_10 : decode cJ9_max_7cf53 10 = .ok (.ireturn, 1) := by decide +kernel
theorem dJ9_min_7cf53_0 : decode cJ9_min_7cf53 0 = .ok (.iload_n 0, 1) := by decide +kernel
theorem dJ9_min_7cf53_1 : decode cJ9_min_7cf53 1 = .ok (.iload_n 1, 1) := by decide +kernel
theorem dJ9_min_7cf53_2 : decode cJ9_min_7cf53 2 = .ok (.if_icmp .gt 7, 3) := by decide +kernel
theorem dJ9_min_7cf53_5 : decode cJ9_min_7cf53 5 = .ok (.iload_n 0, 1) := by decide +kernel
theorem dJ9_min_7cf53_6 : decode cJ9_min_7cf53 6 = .ok (.goto 4, 3) := by decide +kernel
theorem dJ9_min_7cf53_9 : decode cJ9_min_7cf53 9 = .ok (.iload_n 1, 1) := by decide +kernel
theorem dJ9_min_7cf53_10 : decode cJ9_min_7cf53 10 = .ok (.ireturn, 1) := by decide +kernel
theorem dJ0_length_8abf5_0 : decode cJ0_length_8abf5 0 = .ok (.aload_n 0, 1) := by decide +kernel
theorem dJ0_length_8abf5_1 : decode cJ0_length_8abf5 1 = .ok (.getfield 9, 3) := by decide +kernel
theorem dJ0_length_8abf5_4 : decode cJ0_length_8abf5 4 = .ok (.arraylength, 1) := by decide +kernel
theorem dJ0_length_8abf5_5 : decode cJ0_length_8abf5 5 = .ok (.aload_n 0, 1) := by decide +kernel
theorem dJ0_length_8abf5_6 : decode cJ0_length_8abf5 6 = .ok (.invokevirtual 335, 3) := by decide +kernel
theorem dJ0_length_8abf5_9 : decode cJ0_length_8abf5 9 = .ok (.ishr, 1) := by decide +kernel
theorem dJ0_length_8abf5_10 : decode cJ0_length_8abf5 10 = .ok (.ireturn, 1) := by decide +kernel
theorem dJ0_charAt_5068e_0 : decode cJ0_charAt_5068e 0 = .ok (.aload_n 0, 1) := by decide +kernel
theorem dJ0_charAt_5068e_1 : decode cJ0_charAt_5068e 1 = .ok (.invokevirtual 492, 3) := by decide +kernel
theorem dJ0_charAt_5068e_4 : decode cJ0_charAt_5068e 4 = .ok (.ifCond .eq 12, 3) := by decide +kernel
theorem dJ0_charAt_5068e_7 : decode cJ0_charAt_5068e 7 = .ok (.aload_n 0, 1) := by decide +kernel
theorem dJ0_charAt_5068e_8 : decode cJ0_charAt_5068e 8 = .ok (.getfield 9, 3) := by decide +kernel
theorem dJ0_charAt_5068e_11 : decode cJ0_charAt_5068e 11 = .ok (.iload_n 1, 1) := by decide +kernel
theorem dJ0_charAt_5068e_12 : decode cJ0_charAt_5068e 12 = .ok (.invokestatic 495, 3) := by decide +kernel
theorem dJ0_charAt_5068e_15 : decode cJ0_charAt_5068e 15 = .ok (.ireturn, 1) := by decide +kernel
theorem dJ0_charAt_5068e_16 : decode cJ0_charAt_5068e 16 = .ok (.aload_n 0, 1) := by decide +kernel
theorem dJ0_charAt_5068e_17 : decode cJ0_charAt_5068e 17 = .ok (.getfield 9, 3) := by decide +kernel
theorem dJ0_charAt_5068e_20 : decode cJ0_charAt_5068e 20 = .ok (.iload_n 1, 1) := by decide +kernel
theorem dJ0_charAt_5068e_21 : decode cJ0_charAt_5068e 21 = .ok (.invokestatic 498, 3) := by decide +kernel
theorem dJ0_charAt_5068e_24 : decode cJ0_charAt_5068e 24 = .ok (.ireturn, 1) := by decide +kernel
theorem dJ0_coder_7d493_0 : decode cJ0_coder_7d493 0 = .ok (.getstatic 38, 3) := by decide +kernel
theorem dJ0_coder_7d493_3 : decode cJ0_coder_7d493 3 = .ok (.ifCond .eq 10, 3) := by decide +kernel
theorem dJ0_coder_7d493_6 : decode cJ0_coder_7d493 6 = .ok (.aload_n 0, 1) := by decide +kernel
theorem dJ0_coder_7d493_7 : decode cJ0_coder_7d493 7 = .ok (.getfield 15, 3) := by decide +kernel
theorem dJ0_coder_7d493_10 : decode cJ0_coder_7d493 10 = .ok (.goto 4, 3) := by decide +kernel
theorem dJ0_coder_7d493_13 : decode cJ0_coder_7d493 13 = .ok (.iconst 1, 1) := by decide +kernel
theorem dJ0_coder_7d493_14 : decode cJ0_coder_7d493 14 = .ok (.ireturn, 1) := by decide +kernel
theorem dJ0_isLatin1_aae02_0 : decode cJ0_isLatin1_aae02 0 = .ok (.getstatic 38, 3) := by decide +kernel
theorem dJ0_isLatin1_aae02_3 : decode cJ0_isLatin1_aae02 3 = .ok (.ifCond .eq 14, 3) := by decide +kernel
theorem dJ0_isLatin1_aae02_6 : decode cJ0_isLatin1_aae02 6 = .ok (.aload_n 0, 1) := by decide +kernel
theorem dJ0_isLatin1_aae02_7 : decode cJ0_isLatin1_aae02 7 = .ok (.getfield 15, 3) := by decide +kernel
theorem dJ0_isLatin1_aae02_10 : decode cJ0_isLatin1_aae02 10 = .ok (.ifCond .ne 7, 3) := by decide +kernel
theorem dJ0_isLatin1_aae02_13 : decode cJ0_isLatin1_aae02 13 = .ok (.iconst 1, 1) := by decide +kernel
theorem dJ0_isLatin1_aae02_14 : decode cJ0_isLatin1_aae02 14 = .ok (.goto 4, 3) := by decide +kernel
theorem dJ0_isLatin1_aae02_17 : decode cJ0_isLatin1_aae02 17 = .ok (.iconst 0, 1) := by decide +kernel
theorem dJ0_isLatin1_aae02_18 : decode cJ0_isLatin1_aae02 18 = .ok (.ireturn, 1) := by decide +kernel
theorem dJ0_checkIndex_df160_0 : decode cJ0_checkIndex_df160 0 = .ok (.iload_n 0, 1) := by decide +kernel
theorem dJ0_checkIndex_df160_1 : decode cJ0_checkIndex_df160 1 = .ok (.iload_n 1, 1) := by decide +kernel
theorem dJ0_checkIndex_df160_2 : decode cJ0_checkIndex_df160 2 = .ok (.getstatic 1053, 3) := by decide +kernel
theorem dJ0_checkIndex_df160_5 : decode cJ0_checkIndex_df160 5 = .ok (.invokestatic 1059, 3) := by decide +kernel
theorem dJ0_checkIndex_df160_8 : decode cJ0_checkIndex_df160 8 = .ok (.pop, 1) := by decide +kernel
theorem dJ0_checkIndex_df160_9 : decode cJ0_checkIndex_df160 9 = .ok (.return_, 1) := by decide +kernel
theorem dJ1_charAt_3b067_0 : decode cJ1_charAt_3b067 0 = .ok (.iload_n 1, 1) := by decide +kernel
theorem dJ1_charAt_3b067_1 : decode cJ1_charAt_3b067 1 = .ok (.aload_n 0, 1) := by decide +kernel
theorem dJ1_charAt_3b067_2 : decode cJ1_charAt_3b067 2 = .ok (.arraylength, 1) := by decide +kernel
theorem dJ1_charAt_3b067_3 : decode cJ1_charAt_3b067 3 = .ok (.invokestatic 9, 3) := by decide +kernel
theorem dJ1_charAt_3b067_6 : decode cJ1_charAt_3b067 6 = .ok (.aload_n 0, 1) := by decide +kernel
theorem dJ1_charAt_3b067_7 : decode cJ1_charAt_3b067 7 = .ok (.iload_n 1, 1) := by decide +kernel
theorem dJ1_charAt_3b067_8 : decode cJ1_charAt_3b067 8 = .ok (.baload, 1) := by decide +kernel
theorem dJ1_charAt_3b067_9 : decode cJ1_charAt_3b067 9 = .ok (.sipush 255, 3) := by decide +kernel
theorem dJ1_charAt_3b067_12 : decode cJ1_charAt_3b067 12 = .ok (.iand, 1) := by decide +kernel
theorem dJ1_charAt_3b067_13 : decode cJ1_charAt_3b067 13 = .ok (.i2c, 1) := by decide +kernel
theorem dJ1_charAt_3b067_14 : decode cJ1_charAt_3b067 14 = .ok (.ireturn, 1) := by decide +kernel
theorem dJ2_getChar_3b067_0 : decode cJ2_getChar_3b067 0 = .ok (.getstatic 44, 3) := by decide +kernel
theorem dJ2_getChar_3b067_3 : decode cJ2_getChar_3b067 3 = .ok (.ifCond .ne 25, 3) := by decide +kernel
theorem dJ2_getChar_3b067_6 : decode cJ2_getChar_3b067 6 = .ok (.iload_n 1, 1) := by decide +kernel
theorem dJ2_getChar_3b067_7 : decode cJ2_getChar_3b067 7 = .ok (.ifCond .lt 11, 3) := by decide +kernel
theorem dJ2_getChar_3b067_10 : decode cJ2_getChar_3b067 10 = .ok (.iload_n 1, 1) := by decide +kernel
theorem dJ2_getChar_3b067_11 : decode cJ2_getChar_3b067 11 = .ok (.aload_n 0, 1) := by decide +kernel
theorem dJ2_getChar_3b067_12 : decode cJ2_getChar_3b067 12 = .ok (.invokestatic 48, 3) := by decide +kernel
theorem dJ2_getChar_3b067_15 : decode cJ2_getChar_3b067 15 = .ok (.if_icmp .lt 13, 3) := by decide +kernel
theorem dJ2_getChar_3b067_18 : decode cJ2_getChar_3b067 18 = .ok (.new 52, 3) := by decide +kernel
theorem dJ2_getChar_3b067_21 : decode cJ2_getChar_3b067 21 = .ok (.dup, 1) := by decide +kernel
theorem dJ2_getChar_3b067_22 : decode cJ2_getChar_3b067 22 = .ok (.ldc 54, 2) := by decide +kernel
theorem dJ2_getChar_3b067_24 : decode cJ2_getChar_3b067 24 = .ok (.invokespecial 56, 3) := by decide +kernel
theorem dJ2_getChar_3b067_27 : decode cJ2_getChar_3b067 27 = .ok (.athrow, 1) := by decide +kernel
theorem dJ2_getChar_3b067_28 : decode cJ2_getChar_3b067 28 = .ok (.iload_n 1, 1) := by decide +kernel
theorem dJ2_getChar_3b067_29 : decode cJ2_getChar_3b067 29 = .ok (.iconst 1, 1) := by decide +kernel
theorem dJ2_getChar_3b067_30 : decode cJ2_getChar_3b067 30 = .ok (.ishl, 1) := by decide +kernel
theorem dJ2_getChar_3b067_31 : decode cJ2_getChar_3b067 31 = .ok (.istore_n 1, 1) := by decide +kernel
theorem dJ2_getChar_3b067_32 : decode cJ2_getChar_3b067 32 = .ok (.aload_n 0, 1) := by decide +kernel
theorem dJ2_getChar_3b067_33 : decode cJ2_getChar_3b067 33 = .ok (.iload_n 1, 1) := by decide +kernel
theorem dJ2_getChar_3b067_34 : decode cJ2_getChar_3b067 34 = .ok (.iinc 1 1, 3) := by decide +kernel
theorem dJ2_getChar_3b067_37 : decode cJ2_getChar_3b067 37 = .ok (.baload, 1) := by decide +kernel
theorem dJ2_getChar_3b067_38 : decode cJ2_getChar_3b067 38 = .ok (.sipush 255, 3) := by decide +kernel
theorem dJ2_getChar_3b067_41 : decode cJ2_getChar_3b067 41 = .ok (.iand, 1) := by decide +kernel
theorem dJ2_getChar_3b067_42 : decode cJ2_getChar_3b067 42 = .ok (.getstatic 59, 3) := by decide +kernel
theorem dJ2_getChar_3b067_45 : decode cJ2_getChar_3b067 45 = .ok (.ishl, 1) := by decide +kernel
theorem dJ2_getChar_3b067_46 : decode cJ2_getChar_3b067 46 = .ok (.aload_n 0, 1) := by decide +kernel
theorem dJ2_getChar_3b067_47 : decode cJ2_getChar_3b067 47 = .ok (.iload_n 1, 1) := by decide +kernel
theorem dJ2_getChar_3b067_48 : decode cJ2_getChar_3b067 48 = .ok (.baload, 1) := by decide +kernel
theorem dJ2_getChar_3b067_49 : decode cJ2_getChar_3b067 49 = .ok (.sipush 255, 3) := by decide +kernel
theorem dJ2_getChar_3b067_52 : decode cJ2_getChar_3b067 52 = .ok (.iand, 1) := by decide +kernel
theorem dJ2_getChar_3b067_53 : decode cJ2_getChar_3b067 53 = .ok (.getstatic 63, 3) := by decide +kernel
theorem dJ2_getChar_3b067_56 : decode cJ2_getChar_3b067 56 = .ok (.ishl, 1) := by decide +kernel
theorem dJ2_getChar_3b067_57 : decode cJ2_getChar_3b067 57 = .ok (.ior, 1) := by decide +kernel
theorem dJ2_getChar_3b067_58 : decode cJ2_getChar_3b067 58 = .ok (.i2c, 1) := by decide +kernel
theorem dJ2_getChar_3b067_59 : decode cJ2_getChar_3b067 59 = .ok (.ireturn, 1) := by decide +kernel
theorem dJ2_length_9d52b_0 : decode cJ2_length_9d52b 0 = .ok (.aload_n 0, 1) := by decide +kernel
theorem dJ2_length_9d52b_1 : decode cJ2_length_9d52b 1 = .ok (.arraylength, 1) := by decide +kernel
theorem dJ2_length_9d52b_2 : decode cJ2_length_9d52b 2 = .ok (.iconst 1, 1) := by decide +kernel
theorem dJ2_length_9d52b_3 : decode cJ2_length_9d52b 3 = .ok (.ishr, 1) := by decide +kernel
theorem dJ2_length_9d52b_4 : decode cJ2_length_9d52b 4 = .ok (.ireturn, 1) := by decide +kernel
theorem dJ2_charAt_3b067_0 : decode cJ2_charAt_3b067 0 = .ok (.iload_n 1, 1) := by decide +kernel
theorem dJ2_charAt_3b067_1 : decode cJ2_charAt_3b067 1 = .ok (.aload_n 0, 1) := by decide +kernel
theorem dJ2_charAt_3b067_2 : decode cJ2_charAt_3b067 2 = .ok (.invokestatic 67, 3) := by decide +kernel
theorem dJ2_charAt_3b067_5 : decode cJ2_charAt_3b067 5 = .ok (.aload_n 0, 1) := by decide +kernel
theorem dJ2_charAt_3b067_6 : decode cJ2_charAt_3b067 6 = .ok (.iload_n 1, 1) := by decide +kernel
theorem dJ2_charAt_3b067_7 : decode cJ2_charAt_3b067 7 = .ok (.invokestatic 71, 3) := by decide +kernel
theorem dJ2_charAt_3b067_10 : decode cJ2_charAt_3b067 10 = .ok (.ireturn, 1) := by decide +kernel
theorem dJ2_checkIndex_2214a_0 : decode cJ2_checkIndex_2214a 0 = .ok (.iload_n 0, 1) := by decide +kernel
theorem dJ2_checkIndex_2214a_1 : decode cJ2_checkIndex_2214a 1 = .ok (.aload_n 1, 1) := by decide +kernel
theorem dJ2_checkIndex_2214a_2 : decode cJ2_checkIndex_2214a 2 = .ok (.invokestatic 48, 3) := by decide +kernel
theorem dJ2_checkIndex_2214a_5 : decode cJ2_checkIndex_2214a 5 = .ok (.invokestatic 414, 3) := by decide +kernel
theorem dJ2_checkIndex_2214a_8 : decode cJ2_checkIndex_2214a 8 = .ok (.return_, 1) := by decide +kernel
theorem dJ3_checkIndex_8e157_0 : decode cJ3_checkIndex_8e157 0 = .ok (.iload_n 0, 1) := by decide +kernel
theorem dJ3_checkIndex_8e157_1 : decode cJ3_checkIndex_8e157 1 = .ok (.ifCond .lt 8, 3) := by decide +kernel
theorem dJ3_checkIndex_8e157_4 : decode cJ3_checkIndex_8e157 4 = .ok (.iload_n 0, 1) := by decide +kernel
theorem dJ3_checkIndex_8e157_5 : decode cJ3_checkIndex_8e157 5 = .ok (.iload_n 1, 1) := by decide +kernel
theorem dJ3_checkIndex_8e157_6 : decode cJ3_checkIndex_8e157 6 = .ok (.if_icmp .lt 10, 3) := by decide +kernel
theorem dJ3_checkIndex_8e157_9 : decode cJ3_checkIndex_8e157 9 = .ok (.aload_n 2, 1) := by decide +kernel
theorem dJ3_checkIndex_8e157_10 : decode cJ3_checkIndex_8e157 10 = .ok (.iload_n 0, 1) := by decide +kernel
theorem dJ3_checkIndex_8e157_11 : decode cJ3_checkIndex_8e157 11 = .ok (.iload_n 1, 1) := by decide +kernel
theorem dJ3_checkIndex_8e157_12 : decode cJ3_checkIndex_8e157 12 = .ok (.invokestatic 95, 3) := by decide +kernel
theorem dJ3_checkIndex_8e157_15 : decode cJ3_checkIndex_8e157 15 = .ok (.athrow, 1) := by decide +kernel
theorem dJ3_checkIndex_8e157_16 : decode cJ3_checkIndex_8e157 16 = .ok (.iload_n 0, 1) := by decide +kernel
theorem dJ3_checkIndex_8e157_17 : decode cJ3_checkIndex_8e157 17 = .ok (.ireturn, 1) := by decide +kernel
