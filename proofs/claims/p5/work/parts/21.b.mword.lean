theorem dX12_spelt_0 : decode cX12_spelt 0 = .ok (.ldc2_w 54, 3) := by decide +kernel
theorem dX12_spelt_3 : decode cX12_spelt 3 = .ok (.iload_n 0, 1) := by decide +kernel
theorem dX12_spelt_4 : decode cX12_spelt 4 = .ok (.i2l, 1) := by decide +kernel
theorem dX12_spelt_5 : decode cX12_spelt 5 = .ok (.ldc2_w 56, 3) := by decide +kernel
theorem dX12_spelt_8 : decode cX12_spelt 8 = .ok (.lsub, 1) := by decide +kernel
theorem dX12_spelt_9 : decode cX12_spelt 9 = .ok (.lmul, 1) := by decide +kernel
theorem dX12_spelt_10 : decode cX12_spelt 10 = .ok (.iload_n 1, 1) := by decide +kernel
theorem dX12_spelt_11 : decode cX12_spelt 11 = .ok (.i2l, 1) := by decide +kernel
theorem dX12_spelt_12 : decode cX12_spelt 12 = .ok (.ladd, 1) := by decide +kernel
theorem dX12_spelt_13 : decode cX12_spelt 13 = .ok (.ldc2_w 56, 3) := by decide +kernel
theorem dX12_spelt_16 : decode cX12_spelt 16 = .ok (.lsub, 1) := by decide +kernel
theorem dX12_spelt_17 : decode cX12_spelt 17 = .ok (.lstore 7, 2) := by decide +kernel
theorem dX12_spelt_19 : decode cX12_spelt 19 = .ok (.iload_n 2, 1) := by decide +kernel
theorem dX12_spelt_20 : decode cX12_spelt 20 = .ok (.ifCond .le 18, 3) := by decide +kernel
theorem dX12_spelt_38 : decode cX12_spelt 38 = .ok (.iload_n 3, 1) := by decide +kernel
theorem dX12_spelt_39 : decode cX12_spelt 39 = .ok (.ifCond .le 18, 3) := by decide +kernel
theorem dX12_spelt_57 : decode cX12_spelt 57 = .ok (.iload 4, 2) := by decide +kernel
theorem dX12_spelt_59 : decode cX12_spelt 59 = .ok (.ifCond .le 19, 3) := by decide +kernel
theorem dX12_spelt_78 : decode cX12_spelt 78 = .ok (.iload 5, 2) := by decide +kernel
theorem dX12_spelt_80 : decode cX12_spelt 80 = .ok (.ifCond .le 19, 3) := by decide +kernel
theorem dX12_spelt_99 : decode cX12_spelt 99 = .ok (.iload 6, 2) := by decide +kernel
theorem dX12_spelt_101 : decode cX12_spelt 101 = .ok (.ifCond .le 19, 3) := by decide +kernel
theorem dX12_spelt_120 : decode cX12_spelt 120 = .ok (.lload 7, 2) := by decide +kernel
theorem dX12_spelt_122 : decode cX12_spelt 122 = .ok (.lreturn, 1) := by decide +kernel
theorem dX12_spelt_104 : decode cX12_spelt 104 = .ok (.ldc2_w 54, 3) := by decide +kernel
theorem dX12_spelt_107 : decode cX12_spelt 107 = .ok (.lload 7, 2) := by decide +kernel
theorem dX12_spelt_109 : decode cX12_spelt 109 = .ok (.lmul, 1) := by decide +kernel
theorem dX12_spelt_110 : decode cX12_spelt 110 = .ok (.iload 6, 2) := by decide +kernel
theorem dX12_spelt_112 : decode cX12_spelt 112 = .ok (.i2l, 1) := by decide +kernel
theorem dX12_spelt_113 : decode cX12_spelt 113 = .ok (.ladd, 1) := by decide +kernel
theorem dX12_spelt_114 : decode cX12_spelt 114 = .ok (.ldc2_w 56, 3) := by decide +kernel
theorem dX12_spelt_117 : decode cX12_spelt 117 = .ok (.lsub, 1) := by decide +kernel
theorem dX12_spelt_118 : decode cX12_spelt 118 = .ok (.lstore 7, 2) := by decide +kernel
theorem dX12_spelt_83 : decode cX12_spelt 83 = .ok (.ldc2_w 54, 3) := by decide +kernel
theorem dX12_spelt_86 : decode cX12_spelt 86 = .ok (.lload 7, 2) := by decide +kernel
theorem dX12_spelt_88 : decode cX12_spelt 88 = .ok (.lmul, 1) := by decide +kernel
theorem dX12_spelt_89 : decode cX12_spelt 89 = .ok (.iload 5, 2) := by decide +kernel
theorem dX12_spelt_91 : decode cX12_spelt 91 = .ok (.i2l, 1) := by decide +kernel
theorem dX12_spelt_92 : decode cX12_spelt 92 = .ok (.ladd, 1) := by decide +kernel
theorem dX12_spelt_93 : decode cX12_spelt 93 = .ok (.ldc2_w 56, 3) := by decide +kernel
theorem dX12_spelt_96 : decode cX12_spelt 96 = .ok (.lsub, 1) := by decide +kernel
theorem dX12_spelt_97 : decode cX12_spelt 97 = .ok (.lstore 7, 2) := by decide +kernel
theorem dX12_spelt_62 : decode cX12_spelt 62 = .ok (.ldc2_w 54, 3) := by decide +kernel
theorem dX12_spelt_65 : decode cX12_spelt 65 = .ok (.lload 7, 2) := by decide +kernel
theorem dX12_spelt_67 : decode cX12_spelt 67 = .ok (.lmul, 1) := by decide +kernel
theorem dX12_spelt_68 : decode cX12_spelt 68 = .ok (.iload 4, 2) := by decide +kernel
theorem dX12_spelt_70 : decode cX12_spelt 70 = .ok (.i2l, 1) := by decide +kernel
theorem dX12_spelt_71 : decode cX12_spelt 71 = .ok (.ladd, 1) := by decide +kernel
theorem dX12_spelt_72 : decode cX12_spelt 72 = .ok (.ldc2_w 56, 3) := by decide +kernel
theorem dX12_spelt_75 : decode cX12_spelt 75 = .ok (.lsub, 1) := by decide +kernel
theorem dX12_spelt_76 : decode cX12_spelt 76 = .ok (.lstore 7, 2) := by decide +kernel
theorem dX12_spelt_42 : decode cX12_spelt 42 = .ok (.ldc2_w 54, 3) := by decide +kernel
theorem dX12_spelt_45 : decode cX12_spelt 45 = .ok (.lload 7, 2) := by decide +kernel
theorem dX12_spelt_47 : decode cX12_spelt 47 = .ok (.lmul, 1) := by decide +kernel
theorem dX12_spelt_48 : decode cX12_spelt 48 = .ok (.iload_n 3, 1) := by decide +kernel
theorem dX12_spelt_49 : decode cX12_spelt 49 = .ok (.i2l, 1) := by decide +kernel
theorem dX12_spelt_50 : decode cX12_spelt 50 = .ok (.ladd, 1) := by decide +kernel
theorem dX12_spelt_51 : decode cX12_spelt 51 = .ok (.ldc2_w 56, 3) := by decide +kernel
theorem dX12_spelt_54 : decode cX12_spelt 54 = .ok (.lsub, 1) := by decide +kernel
theorem dX12_spelt_55 : decode cX12_spelt 55 = .ok (.lstore 7, 2) := by decide +kernel
theorem dX12_spelt_23 : decode cX12_spelt 23 = .ok (.ldc2_w 54, 3) := by decide +kernel
theorem dX12_spelt_26 : decode cX12_spelt 26 = .ok (.lload 7, 2) := by decide +kernel
theorem dX12_spelt_28 : decode cX12_spelt 28 = .ok (.lmul, 1) := by decide +kernel
theorem dX12_spelt_29 : decode cX12_spelt 29 = .ok (.iload_n 2, 1) := by decide +kernel
theorem dX12_spelt_30 : decode cX12_spelt 30 = .ok (.i2l, 1) := by decide +kernel
theorem dX12_spelt_31 : decode cX12_spelt 31 = .ok (.ladd, 1) := by decide +kernel
theorem dX12_spelt_32 : decode cX12_spelt 32 = .ok (.ldc2_w 56, 3) := by decide +kernel
theorem dX12_spelt_35 : decode cX12_spelt 35 = .ok (.lsub, 1) := by decide +kernel
theorem dX12_spelt_36 : decode cX12_spelt 36 = .ok (.lstore 7, 2) := by decide +kernel
theorem dX12_wordOf_0 : decode cX12_wordOf 0 = .ok (.iload_n 0, 1) := by decide +kernel
theorem dX12_wordOf_1 : decode cX12_wordOf 1 = .ok (.tableswitch 518 0 25 #[119, 136, 151, 168, 183, 199, 214, 229, 245, 260, 276, 292, 310, 327, 342, 356, 369, 383, 397, 412, 427, 442, 457, 472, 487, 502], 119) := by decide +kernel
theorem dX12_wordOf_120 : decode cX12_wordOf 120 = .ok (.bipush 112, 2) := by decide +kernel
theorem dX12_wordOf_122 : decode cX12_wordOf 122 = .ok (.bipush 101, 2) := by decide +kernel
theorem dX12_wordOf_124 : decode cX12_wordOf 124 = .ok (.bipush 114, 2) := by decide +kernel
theorem dX12_wordOf_126 : decode cX12_wordOf 126 = .ok (.bipush 115, 2) := by decide +kernel
theorem dX12_wordOf_128 : decode cX12_wordOf 128 = .ok (.bipush 111, 2) := by decide +kernel
theorem dX12_wordOf_130 : decode cX12_wordOf 130 = .ok (.bipush 110, 2) := by decide +kernel
theorem dX12_wordOf_132 : decode cX12_wordOf 132 = .ok (.iconst 0, 1) := by decide +kernel
theorem dX12_wordOf_133 : decode cX12_wordOf 133 = .ok (.invokestatic 58, 3) := by decide +kernel
theorem G1656 : Cond.code ⟨"HookedCityModel", "spelt", "(IIIIIII)J"⟩ prog_14_method_17_code 9 (some .long) ∈ GW := gw_i 1656 (by decide +kernel) rfl
theorem G1654 : Cond.methodLink "HookedCityModel" 58 ⟨"HookedCityModel", "spelt", "(IIIIIII)J"⟩ ∈ GW := gw_i 1654 (by decide +kernel) rfl
theorem V_HookedCityModel_58 : VL "HookedCityModel" 58 yX12_spelt cX12_spelt 9 (some .long) 7 := ⟨G1656, G1654, G131, by decide +kernel, by decide +kernel, by decide +kernel⟩
theorem G1655 : Cond.static ⟨"HookedCityModel", "spelt", "(IIIIIII)J"⟩ ∈ GW := gw_i 1655 (by decide +kernel) rfl
theorem dX12_wordOf_136 : decode cX12_wordOf 136 = .ok (.lreturn, 1) := by decide +kernel
theorem dX12_wordOf_137 : decode cX12_wordOf 137 = .ok (.bipush 109, 2) := by decide +kernel
theorem dX12_wordOf_139 : decode cX12_wordOf 139 = .ok (.bipush 97, 2) := by decide +kernel
theorem dX12_wordOf_141 : decode cX12_wordOf 141 = .ok (.bipush 105, 2) := by decide +kernel
theorem dX12_wordOf_143 : decode cX12_wordOf 143 = .ok (.bipush 100, 2) := by decide +kernel
theorem dX12_wordOf_145 : decode cX12_wordOf 145 = .ok (.iconst 0, 1) := by decide +kernel
theorem dX12_wordOf_146 : decode cX12_wordOf 146 = .ok (.iconst 0, 1) := by decide +kernel
theorem dX12_wordOf_147 : decode cX12_wordOf 147 = .ok (.iconst 0, 1) := by decide +kernel
theorem dX12_wordOf_148 : decode cX12_wordOf 148 = .ok (.invokestatic 58, 3) := by decide +kernel
theorem dX12_wordOf_151 : decode cX12_wordOf 151 = .ok (.lreturn, 1) := by decide +kernel
theorem dX12_wordOf_152 : decode cX12_wordOf 152 = .ok (.bipush 115, 2) := by decide +kernel
theorem dX12_wordOf_154 : decode cX12_wordOf 154 = .ok (.bipush 116, 2) := by decide +kernel
theorem dX12_wordOf_156 : decode cX12_wordOf 156 = .ok (.bipush 114, 2) := by decide +kernel
theorem dX12_wordOf_158 : decode cX12_wordOf 158 = .ok (.bipush 101, 2) := by decide +kernel
theorem dX12_wordOf_160 : decode cX12_wordOf 160 = .ok (.bipush 101, 2) := by decide +kernel
theorem dX12_wordOf_162 : decode cX12_wordOf 162 = .ok (.bipush 116, 2) := by decide +kernel
theorem dX12_wordOf_164 : decode cX12_wordOf 164 = .ok (.iconst 0, 1) := by decide +kernel
theorem dX12_wordOf_165 : decode cX12_wordOf 165 = .ok (.invokestatic 58, 3) := by decide +kernel
theorem dX12_wordOf_168 : decode cX12_wordOf 168 = .ok (.lreturn, 1) := by decide +kernel
theorem dX12_wordOf_169 : decode cX12_wordOf 169 = .ok (.bipush 100, 2) := by decide +kernel
theorem dX12_wordOf_171 : decode cX12_wordOf 171 = .ok (.bipush 111, 2) := by decide +kernel
theorem dX12_wordOf_173 : decode cX12_wordOf 173 = .ok (.bipush 110, 2) := by decide +kernel
theorem dX12_wordOf_175 : decode cX12_wordOf 175 = .ok (.bipush 101, 2) := by decide +kernel
theorem dX12_wordOf_177 : decode cX12_wordOf 177 = .ok (.iconst 0, 1) := by decide +kernel
theorem dX12_wordOf_178 : decode cX12_wordOf 178 = .ok (.iconst 0, 1) := by decide +kernel
theorem dX12_wordOf_179 : decode cX12_wordOf 179 = .ok (.iconst 0, 1) := by decide +kernel
theorem dX12_wordOf_180 : decode cX12_wordOf 180 = .ok (.invokestatic 58, 3) := by decide +kernel
theorem dX12_wordOf_183 : decode cX12_wordOf 183 = .ok (.lreturn, 1) := by decide +kernel
theorem dX12_wordOf_184 : decode cX12_wordOf 184 = .ok (.bipush 115, 2) := by decide +kernel
theorem dX12_wordOf_186 : decode cX12_wordOf 186 = .ok (.bipush 112, 2) := by decide +kernel
theorem dX12_wordOf_188 : decode cX12_wordOf 188 = .ok (.bipush 97, 2) := by decide +kernel
theorem dX12_wordOf_190 : decode cX12_wordOf 190 = .ok (.bipush 114, 2) := by decide +kernel
theorem dX12_wordOf_192 : decode cX12_wordOf 192 = .ok (.bipush 101, 2) := by decide +kernel
theorem dX12_wordOf_194 : decode cX12_wordOf 194 = .ok (.iconst 0, 1) := by decide +kernel
theorem dX12_wordOf_195 : decode cX12_wordOf 195 = .ok (.iconst 0, 1) := by decide +kernel
theorem dX12_wordOf_196 : decode cX12_wordOf 196 = .ok (.invokestatic 58, 3) := by decide +kernel
theorem dX12_wordOf_199 : decode cX12_wordOf 199 = .ok (.lreturn, 1) := by decide +kernel
theorem dX12_wordOf_200 : decode cX12_wordOf 200 = .ok (.bipush 121, 2) := by decide +kernel
theorem dX12_wordOf_202 : decode cX12_wordOf 202 = .ok (.bipush 101, 2) := by decide +kernel
theorem dX12_wordOf_204 : decode cX12_wordOf 204 = .ok (.bipush 97, 2) := by decide +kernel
theorem dX12_wordOf_206 : decode cX12_wordOf 206 = .ok (.bipush 114, 2) := by decide +kernel
theorem dX12_wordOf_208 : decode cX12_wordOf 208 = .ok (.iconst 0, 1) := by decide +kernel
theorem dX12_wordOf_209 : decode cX12_wordOf 209 = .ok (.iconst 0, 1) := by decide +kernel
theorem dX12_wordOf_210 : decode cX12_wordOf 210 = .ok (.iconst 0, 1) := by decide +kernel
theorem dX12_wordOf_211 : decode cX12_wordOf 211 = .ok (.invokestatic 58, 3) := by decide +kernel
theorem dX12_wordOf_214 : decode cX12_wordOf 214 = .ok (.lreturn, 1) := by decide +kernel
theorem dX12_wordOf_215 : decode cX12_wordOf 215 = .ok (.bipush 106, 2) := by decide +kernel
theorem dX12_wordOf_217 : decode cX12_wordOf 217 = .ok (.bipush 117, 2) := by decide +kernel
theorem dX12_wordOf_219 : decode cX12_wordOf 219 = .ok (.bipush 108, 2) := by decide +kernel
theorem dX12_wordOf_221 : decode cX12_wordOf 221 = .ok (.bipush 121, 2) := by decide +kernel
theorem dX12_wordOf_223 : decode cX12_wordOf 223 = .ok (.iconst 0, 1) := by decide +kernel
theorem dX12_wordOf_224 : decode cX12_wordOf 224 = .ok (.iconst 0, 1) := by decide +kernel
theorem dX12_wordOf_225 : decode cX12_wordOf 225 = .ok (.iconst 0, 1) := by decide +kernel
theorem dX12_wordOf_226 : decode cX12_wordOf 226 = .ok (.invokestatic 58, 3) := by decide +kernel
theorem dX12_wordOf_229 : decode cX12_wordOf 229 = .ok (.lreturn, 1) := by decide +kernel
theorem dX12_wordOf_230 : decode cX12_wordOf 230 = .ok (.bipush 112, 2) := by decide +kernel
theorem dX12_wordOf_232 : decode cX12_wordOf 232 = .ok (.bipush 101, 2) := by decide +kernel
theorem dX12_wordOf_234 : decode cX12_wordOf 234 = .ok (.bipush 97, 2) := by decide +kernel
theorem dX12_wordOf_236 : decode cX12_wordOf 236 = .ok (.bipush 114, 2) := by decide +kernel
theorem dX12_wordOf_238 : decode cX12_wordOf 238 = .ok (.bipush 108, 2) := by decide +kernel
theorem dX12_wordOf_240 : decode cX12_wordOf 240 = .ok (.iconst 0, 1) := by decide +kernel
theorem dX12_wordOf_241 : decode cX12_wordOf 241 = .ok (.iconst 0, 1) := by decide +kernel
theorem dX12_wordOf_242 : decode cX12_wordOf 242 = .ok (.invokestatic 58, 3) := by decide +kernel
theorem dX12_wordOf_245 : decode cX12_wordOf 245 = .ok (.lreturn, 1) := by decide +kernel
theorem dX12_wordOf_246 : decode cX12_wordOf 246 = .ok (.bipush 98, 2) := by decide +kernel
theorem dX12_wordOf_248 : decode cX12_wordOf 248 = .ok (.bipush 111, 2) := by decide +kernel
theorem dX12_wordOf_250 : decode cX12_wordOf 250 = .ok (.bipush 110, 2) := by decide +kernel
theorem dX12_wordOf_252 : decode cX12_wordOf 252 = .ok (.bipush 101, 2) := by decide +kernel
theorem dX12_wordOf_254 : decode cX12_wordOf 254 = .ok (.iconst 0, 1) := by decide +kernel
theorem dX12_wordOf_255 : decode cX12_wordOf 255 = .ok (.iconst 0, 1) := by decide +kernel
theorem dX12_wordOf_256 : decode cX12_wordOf 256 = .ok (.iconst 0, 1) := by decide +kernel
theorem dX12_wordOf_257 : decode cX12_wordOf 257 = .ok (.invokestatic 58, 3) := by decide +kernel
theorem dX12_wordOf_260 : decode cX12_wordOf 260 = .ok (.lreturn, 1) := by decide +kernel
theorem dX12_wordOf_261 : decode cX12_wordOf 261 = .ok (.bipush 98, 2) := by decide +kernel
theorem dX12_wordOf_263 : decode cX12_wordOf 263 = .ok (.bipush 114, 2) := by decide +kernel
theorem dX12_wordOf_265 : decode cX12_wordOf 265 = .ok (.bipush 97, 2) := by decide +kernel
theorem dX12_wordOf_267 : decode cX12_wordOf 267 = .ok (.bipush 115, 2) := by decide +kernel
theorem dX12_wordOf_269 : decode cX12_wordOf 269 = .ok (.bipush 115, 2) := by decide +kernel
theorem dX12_wordOf_271 : decode cX12_wordOf 271 = .ok (.iconst 0, 1) := by decide +kernel
theorem dX12_wordOf_272 : decode cX12_wordOf 272 = .ok (.iconst 0, 1) := by decide +kernel
theorem dX12_wordOf_273 : decode cX12_wordOf 273 = .ok (.invokestatic 58, 3) := by decide +kernel
theorem dX12_wordOf_276 : decode cX12_wordOf 276 = .ok (.lreturn, 1) := by decide +kernel
theorem dX12_wordOf_277 : decode cX12_wordOf 277 = .ok (.bipush 103, 2) := by decide +kernel
theorem dX12_wordOf_279 : decode cX12_wordOf 279 = .ok (.bipush 108, 2) := by decide +kernel
theorem dX12_wordOf_281 : decode cX12_wordOf 281 = .ok (.bipush 97, 2) := by decide +kernel
theorem dX12_wordOf_283 : decode cX12_wordOf 283 = .ok (.bipush 115, 2) := by decide +kernel
theorem dX12_wordOf_285 : decode cX12_wordOf 285 = .ok (.bipush 115, 2) := by decide +kernel
theorem dX12_wordOf_287 : decode cX12_wordOf 287 = .ok (.iconst 0, 1) := by decide +kernel
theorem dX12_wordOf_288 : decode cX12_wordOf 288 = .ok (.iconst 0, 1) := by decide +kernel
theorem dX12_wordOf_289 : decode cX12_wordOf 289 = .ok (.invokestatic 58, 3) := by decide +kernel
theorem dX12_wordOf_292 : decode cX12_wordOf 292 = .ok (.lreturn, 1) := by decide +kernel
theorem dX12_wordOf_293 : decode cX12_wordOf 293 = .ok (.bipush 98, 2) := by decide +kernel
theorem dX12_wordOf_295 : decode cX12_wordOf 295 = .ok (.bipush 117, 2) := by decide +kernel
theorem dX12_wordOf_297 : decode cX12_wordOf 297 = .ok (.bipush 116, 2) := by decide +kernel
theorem dX12_wordOf_299 : decode cX12_wordOf 299 = .ok (.bipush 116, 2) := by decide +kernel
theorem dX12_wordOf_301 : decode cX12_wordOf 301 = .ok (.bipush 111, 2) := by decide +kernel
theorem dX12_wordOf_303 : decode cX12_wordOf 303 = .ok (.bipush 110, 2) := by decide +kernel
theorem dX12_wordOf_305 : decode cX12_wordOf 305 = .ok (.bipush 115, 2) := by decide +kernel
theorem dX12_wordOf_307 : decode cX12_wordOf 307 = .ok (.invokestatic 58, 3) := by decide +kernel
theorem dX12_wordOf_310 : decode cX12_wordOf 310 = .ok (.lreturn, 1) := by decide +kernel
theorem dX12_wordOf_311 : decode cX12_wordOf 311 = .ok (.bipush 108, 2) := by decide +kernel
theorem dX12_wordOf_313 : decode cX12_wordOf 313 = .ok (.bipush 111, 2) := by decide +kernel
theorem dX12_wordOf_315 : decode cX12_wordOf 315 = .ok (.bipush 111, 2) := by decide +kernel
theorem dX12_wordOf_317 : decode cX12_wordOf 317 = .ok (.bipush 115, 2) := by decide +kernel
theorem dX12_wordOf_319 : decode cX12_wordOf 319 = .ok (.bipush 101, 2) := by decide +kernel
theorem dX12_wordOf_321 : decode cX12_wordOf 321 = .ok (.bipush 115, 2) := by decide +kernel
theorem dX12_wordOf_323 : decode cX12_wordOf 323 = .ok (.iconst 0, 1) := by decide +kernel
theorem dX12_wordOf_324 : decode cX12_wordOf 324 = .ok (.invokestatic 58, 3) := by decide +kernel
theorem dX12_wordOf_327 : decode cX12_wordOf 327 = .ok (.lreturn, 1) := by decide +kernel
theorem dX12_wordOf_328 : decode cX12_wordOf 328 = .ok (.bipush 109, 2) := by decide +kernel
theorem dX12_wordOf_330 : decode cX12_wordOf 330 = .ok (.bipush 101, 2) := by decide +kernel
theorem dX12_wordOf_332 : decode cX12_wordOf 332 = .ok (.bipush 110, 2) := by decide +kernel
theorem dX12_wordOf_334 : decode cX12_wordOf 334 = .ok (.bipush 100, 2) := by decide +kernel
theorem dX12_wordOf_336 : decode cX12_wordOf 336 = .ok (.iconst 0, 1) := by decide +kernel
theorem dX12_wordOf_337 : decode cX12_wordOf 337 = .ok (.iconst 0, 1) := by decide +kernel
theorem dX12_wordOf_338 : decode cX12_wordOf 338 = .ok (.iconst 0, 1) := by decide +kernel
theorem dX12_wordOf_339 : decode cX12_wordOf 339 = .ok (.invokestatic 58, 3) := by decide +kernel
theorem dX12_wordOf_342 : decode cX12_wordOf 342 = .ok (.lreturn, 1) := by decide +kernel
theorem dX12_wordOf_343 : decode cX12_wordOf 343 = .ok (.bipush 100, 2) := by decide +kernel
theorem dX12_wordOf_345 : decode cX12_wordOf 345 = .ok (.bipush 97, 2) := by decide +kernel
theorem dX12_wordOf_347 : decode cX12_wordOf 347 = .ok (.bipush 121, 2) := by decide +kernel
theorem dX12_wordOf_349 : decode cX12_wordOf 349 = .ok (.iconst 0, 1) := by decide +kernel
theorem dX12_wordOf_350 : decode cX12_wordOf 350 = .ok (.iconst 0, 1) := by decide +kernel
theorem dX12_wordOf_351 : decode cX12_wordOf 351 = .ok (.iconst 0, 1) := by decide +kernel
theorem dX12_wordOf_352 : decode cX12_wordOf 352 = .ok (.iconst 0, 1) := by decide +kernel
theorem dX12_wordOf_353 : decode cX12_wordOf 353 = .ok (.invokestatic 58, 3) := by decide +kernel
theorem dX12_wordOf_356 : decode cX12_wordOf 356 = .ok (.lreturn, 1) := by decide +kernel
theorem dX12_wordOf_357 : decode cX12_wordOf 357 = .ok (.bipush 111, 2) := by decide +kernel
theorem dX12_wordOf_359 : decode cX12_wordOf 359 = .ok (.bipush 114, 2) := by decide +kernel
theorem dX12_wordOf_361 : decode cX12_wordOf 361 = .ok (.iconst 0, 1) := by decide +kernel
theorem dX12_wordOf_362 : decode cX12_wordOf 362 = .ok (.iconst 0, 1) := by decide +kernel
theorem dX12_wordOf_363 : decode cX12_wordOf 363 = .ok (.iconst 0, 1) := by decide +kernel
theorem dX12_wordOf_364 : decode cX12_wordOf 364 = .ok (.iconst 0, 1) := by decide +kernel
theorem dX12_wordOf_365 : decode cX12_wordOf 365 = .ok (.iconst 0, 1) := by decide +kernel
theorem dX12_wordOf_366 : decode cX12_wordOf 366 = .ok (.invokestatic 58, 3) := by decide +kernel
theorem dX12_wordOf_369 : decode cX12_wordOf 369 = .ok (.lreturn, 1) := by decide +kernel
theorem dX12_wordOf_370 : decode cX12_wordOf 370 = .ok (.bipush 97, 2) := by decide +kernel
theorem dX12_wordOf_372 : decode cX12_wordOf 372 = .ok (.bipush 110, 2) := by decide +kernel
theorem dX12_wordOf_374 : decode cX12_wordOf 374 = .ok (.bipush 100, 2) := by decide +kernel
theorem dX12_wordOf_376 : decode cX12_wordOf 376 = .ok (.iconst 0, 1) := by decide +kernel
theorem dX12_wordOf_377 : decode cX12_wordOf 377 = .ok (.iconst 0, 1) := by decide +kernel
theorem dX12_wordOf_378 : decode cX12_wordOf 378 = .ok (.iconst 0, 1) := by decide +kernel
theorem dX12_wordOf_379 : decode cX12_wordOf 379 = .ok (.iconst 0, 1) := by decide +kernel
theorem dX12_wordOf_380 : decode cX12_wordOf 380 = .ok (.invokestatic 58, 3) := by decide +kernel
theorem dX12_wordOf_383 : decode cX12_wordOf 383 = .ok (.lreturn, 1) := by decide +kernel
theorem dX12_wordOf_384 : decode cX12_wordOf 384 = .ok (.bipush 110, 2) := by decide +kernel
theorem dX12_wordOf_386 : decode cX12_wordOf 386 = .ok (.bipush 111, 2) := by decide +kernel
theorem dX12_wordOf_388 : decode cX12_wordOf 388 = .ok (.bipush 116, 2) := by decide +kernel
theorem dX12_wordOf_390 : decode cX12_wordOf 390 = .ok (.iconst 0, 1) := by decide +kernel
theorem dX12_wordOf_391 : decode cX12_wordOf 391 = .ok (.iconst 0, 1) := by decide +kernel
theorem dX12_wordOf_392 : decode cX12_wordOf 392 = .ok (.iconst 0, 1) := by decide +kernel
theorem dX12_wordOf_393 : decode cX12_wordOf 393 = .ok (.iconst 0, 1) := by decide +kernel
theorem dX12_wordOf_394 : decode cX12_wordOf 394 = .ok (.invokestatic 58, 3) := by decide +kernel
theorem dX12_wordOf_397 : decode cX12_wordOf 397 = .ok (.lreturn, 1) := by decide +kernel
theorem dX12_wordOf_398 : decode cX12_wordOf 398 = .ok (.bipush 111, 2) := by decide +kernel
theorem dX12_wordOf_400 : decode cX12_wordOf 400 = .ok (.bipush 112, 2) := by decide +kernel
theorem dX12_wordOf_402 : decode cX12_wordOf 402 = .ok (.bipush 101, 2) := by decide +kernel
theorem dX12_wordOf_404 : decode cX12_wordOf 404 = .ok (.bipush 110, 2) := by decide +kernel
theorem dX12_wordOf_406 : decode cX12_wordOf 406 = .ok (.iconst 0, 1) := by decide +kernel
theorem dX12_wordOf_407 : decode cX12_wordOf 407 = .ok (.iconst 0, 1) := by decide +kernel
theorem dX12_wordOf_408 : decode cX12_wordOf 408 = .ok (.iconst 0, 1) := by decide +kernel
theorem dX12_wordOf_409 : decode cX12_wordOf 409 = .ok (.invokestatic 58, 3) := by decide +kernel
theorem dX12_wordOf_412 : decode cX12_wordOf 412 = .ok (.lreturn, 1) := by decide +kernel
theorem dX12_wordOf_413 : decode cX12_wordOf 413 = .ok (.bipush 98, 2) := by decide +kernel
theorem dX12_wordOf_415 : decode cX12_wordOf 415 = .ok (.bipush 97, 2) := by decide +kernel
theorem dX12_wordOf_417 : decode cX12_wordOf 417 = .ok (.bipush 114, 2) := by decide +kernel
theorem dX12_wordOf_419 : decode cX12_wordOf 419 = .ok (.bipush 101, 2) := by decide +kernel
theorem dX12_wordOf_421 : decode cX12_wordOf 421 = .ok (.iconst 0, 1) := by decide +kernel
theorem dX12_wordOf_422 : decode cX12_wordOf 422 = .ok (.iconst 0, 1) := by decide +kernel
theorem dX12_wordOf_423 : decode cX12_wordOf 423 = .ok (.iconst 0, 1) := by decide +kernel
theorem dX12_wordOf_424 : decode cX12_wordOf 424 = .ok (.invokestatic 58, 3) := by decide +kernel
theorem dX12_wordOf_427 : decode cX12_wordOf 427 = .ok (.lreturn, 1) := by decide +kernel
theorem dX12_wordOf_428 : decode cX12_wordOf 428 = .ok (.bipush 116, 2) := by decide +kernel
theorem dX12_wordOf_430 : decode cX12_wordOf 430 = .ok (.bipush 111, 2) := by decide +kernel
theorem dX12_wordOf_432 : decode cX12_wordOf 432 = .ok (.bipush 114, 2) := by decide +kernel
theorem dX12_wordOf_434 : decode cX12_wordOf 434 = .ok (.bipush 110, 2) := by decide +kernel
theorem dX12_wordOf_436 : decode cX12_wordOf 436 = .ok (.iconst 0, 1) := by decide +kernel
theorem dX12_wordOf_437 : decode cX12_wordOf 437 = .ok (.iconst 0, 1) := by decide +kernel
theorem dX12_wordOf_438 : decode cX12_wordOf 438 = .ok (.iconst 0, 1) := by decide +kernel
theorem dX12_wordOf_439 : decode cX12_wordOf 439 = .ok (.invokestatic 58, 3) := by decide +kernel
theorem dX12_wordOf_442 : decode cX12_wordOf 442 = .ok (.lreturn, 1) := by decide +kernel
theorem dX12_wordOf_443 : decode cX12_wordOf 443 = .ok (.bipush 114, 2) := by decide +kernel
theorem dX12_wordOf_445 : decode cX12_wordOf 445 = .ok (.bipush 105, 2) := by decide +kernel
theorem dX12_wordOf_447 : decode cX12_wordOf 447 = .ok (.bipush 110, 2) := by decide +kernel
theorem dX12_wordOf_449 : decode cX12_wordOf 449 = .ok (.bipush 103, 2) := by decide +kernel
theorem dX12_wordOf_451 : decode cX12_wordOf 451 = .ok (.iconst 0, 1) := by decide +kernel
theorem dX12_wordOf_452 : decode cX12_wordOf 452 = .ok (.iconst 0, 1) := by decide +kernel
theorem dX12_wordOf_453 : decode cX12_wordOf 453 = .ok (.iconst 0, 1) := by decide +kernel
theorem dX12_wordOf_454 : decode cX12_wordOf 454 = .ok (.invokestatic 58, 3) := by decide +kernel
theorem dX12_wordOf_457 : decode cX12_wordOf 457 = .ok (.lreturn, 1) := by decide +kernel
theorem dX12_wordOf_458 : decode cX12_wordOf 458 = .ok (.bipush 119, 2) := by decide +kernel
theorem dX12_wordOf_460 : decode cX12_wordOf 460 = .ok (.bipush 105, 2) := by decide +kernel
theorem dX12_wordOf_462 : decode cX12_wordOf 462 = .ok (.bipush 116, 2) := by decide +kernel
theorem dX12_wordOf_464 : decode cX12_wordOf 464 = .ok (.bipush 104, 2) := by decide +kernel
theorem dX12_wordOf_466 : decode cX12_wordOf 466 = .ok (.iconst 0, 1) := by decide +kernel
theorem dX12_wordOf_467 : decode cX12_wordOf 467 = .ok (.iconst 0, 1) := by decide +kernel
theorem dX12_wordOf_468 : decode cX12_wordOf 468 = .ok (.iconst 0, 1) := by decide +kernel
theorem dX12_wordOf_469 : decode cX12_wordOf 469 = .ok (.invokestatic 58, 3) := by decide +kernel
theorem dX12_wordOf_472 : decode cX12_wordOf 472 = .ok (.lreturn, 1) := by decide +kernel
theorem dX12_wordOf_473 : decode cX12_wordOf 473 = .ok (.bipush 110, 2) := by decide +kernel
theorem dX12_wordOf_475 : decode cX12_wordOf 475 = .ok (.bipush 101, 2) := by decide +kernel
theorem dX12_wordOf_477 : decode cX12_wordOf 477 = .ok (.bipush 97, 2) := by decide +kernel
theorem dX12_wordOf_479 : decode cX12_wordOf 479 = .ok (.bipush 114, 2) := by decide +kernel
theorem dX12_wordOf_481 : decode cX12_wordOf 481 = .ok (.iconst 0, 1) := by decide +kernel
theorem dX12_wordOf_482 : decode cX12_wordOf 482 = .ok (.iconst 0, 1) := by decide +kernel
theorem dX12_wordOf_483 : decode cX12_wordOf 483 = .ok (.iconst 0, 1) := by decide +kernel
theorem dX12_wordOf_484 : decode cX12_wordOf 484 = .ok (.invokestatic 58, 3) := by decide +kernel
theorem dX12_wordOf_487 : decode cX12_wordOf 487 = .ok (.lreturn, 1) := by decide +kernel
theorem dX12_wordOf_488 : decode cX12_wordOf 488 = .ok (.bipush 108, 2) := by decide +kernel
theorem dX12_wordOf_490 : decode cX12_wordOf 490 = .ok (.bipush 111, 2) := by decide +kernel
theorem dX12_wordOf_492 : decode cX12_wordOf 492 = .ok (.bipush 111, 2) := by decide +kernel
theorem dX12_wordOf_494 : decode cX12_wordOf 494 = .ok (.bipush 112, 2) := by decide +kernel
theorem dX12_wordOf_496 : decode cX12_wordOf 496 = .ok (.iconst 0, 1) := by decide +kernel
theorem dX12_wordOf_497 : decode cX12_wordOf 497 = .ok (.iconst 0, 1) := by decide +kernel
theorem dX12_wordOf_498 : decode cX12_wordOf 498 = .ok (.iconst 0, 1) := by decide +kernel
theorem dX12_wordOf_499 : decode cX12_wordOf 499 = .ok (.invokestatic 58, 3) := by decide +kernel
theorem dX12_wordOf_502 : decode cX12_wordOf 502 = .ok (.lreturn, 1) := by decide +kernel
theorem dX12_wordOf_503 : decode cX12_wordOf 503 = .ok (.bipush 99, 2) := by decide +kernel
theorem dX12_wordOf_505 : decode cX12_wordOf 505 = .ok (.bipush 104, 2) := by decide +kernel
theorem dX12_wordOf_507 : decode cX12_wordOf 507 = .ok (.bipush 97, 2) := by decide +kernel
theorem dX12_wordOf_509 : decode cX12_wordOf 509 = .ok (.bipush 105, 2) := by decide +kernel
theorem dX12_wordOf_511 : decode cX12_wordOf 511 = .ok (.bipush 110, 2) := by decide +kernel
theorem dX12_wordOf_513 : decode cX12_wordOf 513 = .ok (.iconst 0, 1) := by decide +kernel
theorem dX12_wordOf_514 : decode cX12_wordOf 514 = .ok (.iconst 0, 1) := by decide +kernel
theorem dX12_wordOf_515 : decode cX12_wordOf 515 = .ok (.invokestatic 58, 3) := by decide +kernel
theorem dX12_wordOf_518 : decode cX12_wordOf 518 = .ok (.lreturn, 1) := by decide +kernel
theorem dX12_wordOf_519 : decode cX12_wordOf 519 = .ok (.bipush 110, 2) := by decide +kernel
theorem dX12_wordOf_521 : decode cX12_wordOf 521 = .ok (.bipush 117, 2) := by decide +kernel
theorem dX12_wordOf_523 : decode cX12_wordOf 523 = .ok (.bipush 109, 2) := by decide +kernel
theorem dX12_wordOf_525 : decode cX12_wordOf 525 = .ok (.bipush 98, 2) := by decide +kernel
theorem dX12_wordOf_527 : decode cX12_wordOf 527 = .ok (.bipush 101, 2) := by decide +kernel
theorem dX12_wordOf_529 : decode cX12_wordOf 529 = .ok (.bipush 114, 2) := by decide +kernel
theorem dX12_wordOf_531 : decode cX12_wordOf 531 = .ok (.iconst 0, 1) := by decide +kernel
theorem dX12_wordOf_532 : decode cX12_wordOf 532 = .ok (.invokestatic 58, 3) := by decide +kernel
theorem dX12_wordOf_535 : decode cX12_wordOf 535 = .ok (.lreturn, 1) := by decide +kernel
theorem dX12_isWord_0 : decode cX12_isWord 0 = .ok (.aload_n 0, 1) := by decide +kernel
theorem dX12_isWord_1 : decode cX12_isWord 1 = .ok (.getfield 30, 3) := by decide +kernel
theorem dX12_isWord_4 : decode cX12_isWord 4 = .ok (.iconst 2, 1) := by decide +kernel
theorem dX12_isWord_5 : decode cX12_isWord 5 = .ok (.if_icmp .ne 19, 3) := by decide +kernel
theorem dX12_isWord_24 : decode cX12_isWord 24 = .ok (.iconst 0, 1) := by decide +kernel
theorem dX12_isWord_25 : decode cX12_isWord 25 = .ok (.ireturn, 1) := by decide +kernel
theorem dX12_isWord_8 : decode cX12_isWord 8 = .ok (.aload_n 0, 1) := by decide +kernel
theorem dX12_isWord_9 : decode cX12_isWord 9 = .ok (.getfield 43, 3) := by decide +kernel
theorem dX12_isWord_12 : decode cX12_isWord 12 = .ok (.iload_n 1, 1) := by decide +kernel
theorem dX12_isWord_13 : decode cX12_isWord 13 = .ok (.invokestatic 62, 3) := by decide +kernel
theorem G1653 : Cond.code ⟨"HookedCityModel", "wordOf", "(I)J"⟩ prog_14_method_18_code 1 (some .long) ∈ GW := gw_i 1653 (by decide +kernel) rfl
theorem G1651 : Cond.methodLink "HookedCityModel" 62 ⟨"HookedCityModel", "wordOf", "(I)J"⟩ ∈ GW := gw_i 1651 (by decide +kernel) rfl
theorem V_HookedCityModel_62 : VL "HookedCityModel" 62 yX12_wordOf cX12_wordOf 1 (some .long) 1 := ⟨G1653, G1651, G131, by decide +kernel, by decide +kernel, by decide +kernel⟩
theorem G1652 : Cond.static ⟨"HookedCityModel", "wordOf", "(I)J"⟩ ∈ GW := gw_i 1652 (by decide +kernel) rfl
theorem dX12_isWord_16 : decode cX12_isWord 16 = .ok (.lcmp, 1) := by decide +kernel
theorem dX12_isWord_17 : decode cX12_isWord 17 = .ok (.ifCond .ne 7, 3) := by decide +kernel
theorem dX12_isWord_20 : decode cX12_isWord 20 = .ok (.iconst 1, 1) := by decide +kernel
theorem dX12_isWord_21 : decode cX12_isWord 21 = .ok (.goto 4, 3) := by decide +kernel
theorem dX12_isSign_0 : decode cX12_isSign 0 = .ok (.aload_n 0, 1) := by decide +kernel
theorem dX12_isSign_1 : decode cX12_isSign 1 = .ok (.getfield 30, 3) := by decide +kernel
theorem dX12_isSign_4 : decode cX12_isSign 4 = .ok (.iconst 4, 1) := by decide +kernel
theorem dX12_isSign_5 : decode cX12_isSign 5 = .ok (.if_icmp .ne 15, 3) := by decide +kernel
theorem dX12_isSign_20 : decode cX12_isSign 20 = .ok (.iconst 0, 1) := by decide +kernel
theorem dX12_isSign_21 : decode cX12_isSign 21 = .ok (.ireturn, 1) := by decide +kernel
theorem dX12_isSign_8 : decode cX12_isSign 8 = .ok (.aload_n 0, 1) := by decide +kernel
theorem dX12_isSign_9 : decode cX12_isSign 9 = .ok (.getfield 40, 3) := by decide +kernel
theorem dX12_isSign_12 : decode cX12_isSign 12 = .ok (.iload_n 1, 1) := by decide +kernel
theorem dX12_isSign_13 : decode cX12_isSign 13 = .ok (.if_icmp .ne 7, 3) := by decide +kernel
theorem dX12_isSign_16 : decode cX12_isSign 16 = .ok (.iconst 1, 1) := by decide +kernel
theorem dX12_isSign_17 : decode cX12_isSign 17 = .ok (.goto 4, 3) := by decide +kernel
theorem dX12_isName_0 : decode cX12_isName 0 = .ok (.aload_n 0, 1) := by decide +kernel
theorem dX12_isName_1 : decode cX12_isName 1 = .ok (.getfield 30, 3) := by decide +kernel
theorem dX12_isName_4 : decode cX12_isName 4 = .ok (.iconst 2, 1) := by decide +kernel
theorem dX12_isName_5 : decode cX12_isName 5 = .ok (.if_icmp .eq 5, 3) := by decide +kernel
theorem dX12_isName_10 : decode cX12_isName 10 = .ok (.iconst 0, 1) := by decide +kernel
theorem dX12_isName_11 : decode cX12_isName 11 = .ok (.istore_n 1, 1) := by decide +kernel
theorem dX12_isName_12 : decode cX12_isName 12 = .ok (.iload_n 1, 1) := by decide +kernel
theorem dX12_isName_13 : decode cX12_isName 13 = .ok (.bipush 26, 2) := by decide +kernel
theorem dX12_isName_15 : decode cX12_isName 15 = .ok (.if_icmp .gt 23, 3) := by decide +kernel
theorem dX12_isName_38 : decode cX12_isName 38 = .ok (.iconst 1, 1) := by decide +kernel
theorem dX12_isName_39 : decode cX12_isName 39 = .ok (.ireturn, 1) := by decide +kernel
theorem dX12_isName_18 : decode cX12_isName 18 = .ok (.aload_n 0, 1) := by decide +kernel
theorem dX12_isName_19 : decode cX12_isName 19 = .ok (.getfield 43, 3) := by decide +kernel
theorem dX12_isName_22 : decode cX12_isName 22 = .ok (.iload_n 1, 1) := by decide +kernel
theorem dX12_isName_23 : decode cX12_isName 23 = .ok (.invokestatic 62, 3) := by decide +kernel
theorem dX12_isName_26 : decode cX12_isName 26 = .ok (.lcmp, 1) := by decide +kernel
theorem dX12_isName_27 : decode cX12_isName 27 = .ok (.ifCond .ne 5, 3) := by decide +kernel
theorem dX12_isName_32 : decode cX12_isName 32 = .ok (.iinc 1 1, 3) := by decide +kernel
theorem dX12_isName_35 : decode cX12_isName 35 = .ok (.goto (-23), 3) := by decide +kernel
theorem dX12_isName_30 : decode cX12_isName 30 = .ok (.iconst 0, 1) := by decide +kernel
theorem dX12_isName_31 : decode cX12_isName 31 = .ok (.ireturn, 1) := by decide +kernel
theorem dX12_isName_8 : decode cX12_isName 8 = .ok (.iconst 0, 1) := by decide +kernel
theorem dX12_isName_9 : decode cX12_isName 9 = .ok (.ireturn, 1) := by decide +kernel
theorem dX12_bad_0 : decode cX12_bad 0 = .ok (.aload_n 0, 1) := by decide +kernel
theorem dX12_bad_1 : decode cX12_bad 1 = .ok (.aload_n 0, 1) := by decide +kernel
theorem dX12_bad_2 : decode cX12_bad 2 = .ok (.getfield 30, 3) := by decide +kernel
theorem dX12_bad_5 : decode cX12_bad 5 = .ok (.iconst 1, 1) := by decide +kernel
theorem dX12_bad_6 : decode cX12_bad 6 = .ok (.if_icmp .ne 7, 3) := by decide +kernel
theorem dX12_bad_13 : decode cX12_bad 13 = .ok (.iload_n 1, 1) := by decide +kernel
theorem dX12_bad_14 : decode cX12_bad 14 = .ok (.putfield 66, 3) := by decide +kernel
theorem G1473 : Cond.fieldLink "HookedCityModel" 66 "HookedCityModel" "fault" "I" ∈ GW := gw_i 1473 (by decide +kernel) rfl
theorem dX12_bad_17 : decode cX12_bad 17 = .ok (.aload_n 0, 1) := by decide +kernel
theorem dX12_bad_18 : decode cX12_bad 18 = .ok (.aload_n 0, 1) := by decide +kernel
theorem dX12_bad_19 : decode cX12_bad 19 = .ok (.getfield 24, 3) := by decide +kernel
theorem dX12_bad_22 : decode cX12_bad 22 = .ok (.putfield 69, 3) := by decide +kernel
theorem G1474 : Cond.fieldLink "HookedCityModel" 69 "HookedCityModel" "place" "I" ∈ GW := gw_i 1474 (by decide +kernel) rfl
theorem dX12_bad_25 : decode cX12_bad 25 = .ok (.iconst 0, 1) := by decide +kernel
theorem dX12_bad_26 : decode cX12_bad 26 = .ok (.ireturn, 1) := by decide +kernel
theorem dX12_bad_9 : decode cX12_bad 9 = .ok (.iconst 1, 1) := by decide +kernel
theorem dX12_bad_10 : decode cX12_bad 10 = .ok (.goto 4, 3) := by decide +kernel
theorem dX12_readNumber_0 : decode cX12_readNumber 0 = .ok (.aload_n 0, 1) := by decide +kernel
theorem dX12_readNumber_1 : decode cX12_readNumber 1 = .ok (.getfield 30, 3) := by decide +kernel
theorem dX12_readNumber_4 : decode cX12_readNumber 4 = .ok (.iconst 3, 1) := by decide +kernel
theorem dX12_readNumber_5 : decode cX12_readNumber 5 = .ok (.if_icmp .eq 9, 3) := by decide +kernel
theorem dX12_readNumber_14 : decode cX12_readNumber 14 = .ok (.aload_n 0, 1) := by decide +kernel
theorem dX12_readNumber_15 : decode cX12_readNumber 15 = .ok (.getfield 47, 3) := by decide +kernel
theorem dX12_readNumber_18 : decode cX12_readNumber 18 = .ok (.iload_n 1, 1) := by decide +kernel
theorem dX12_readNumber_19 : decode cX12_readNumber 19 = .ok (.iload_n 2, 1) := by decide +kernel
theorem dX12_readNumber_20 : decode cX12_readNumber 20 = .ok (.invokestatic 75, 3) := by decide +kernel
theorem G1694 : Cond.code ⟨"HookedCityModel", "isIn", "(III)Z"⟩ prog_14_method_7_code 3 (some .boolean) ∈ GW := gw_i 1694 (by decide +kernel) rfl
theorem G1692 : Cond.methodLink "HookedCityModel" 75 ⟨"HookedCityModel", "isIn", "(III)Z"⟩ ∈ GW := gw_i 1692 (by decide +kernel) rfl
theorem V_HookedCityModel_75 : VL "HookedCityModel" 75 yX12_isIn cX12_isIn 3 (some .boolean) 3 := ⟨G1694, G1692, G131, by decide +kernel, by decide +kernel, by decide +kernel⟩
theorem G1693 : Cond.static ⟨"HookedCityModel", "isIn", "(III)Z"⟩ ∈ GW := gw_i 1693 (by decide +kernel) rfl
theorem dX12_readNumber_23 : decode cX12_readNumber 23 = .ok (.ifCond .ne 9, 3) := by decide +kernel
theorem dX12_readNumber_26 : decode cX12_readNumber 26 = .ok (.aload_n 0, 1) := by decide +kernel
theorem dX12_readNumber_27 : decode cX12_readNumber 27 = .ok (.iconst 2, 1) := by decide +kernel
theorem dX12_readNumber_28 : decode cX12_readNumber 28 = .ok (.invokevirtual 72, 3) := by decide +kernel
theorem G1668 : Cond.code ⟨"HookedCityModel", "bad", "(I)Z"⟩ prog_14_method_22_code 2 (some .boolean) ∈ GW := gw_i 1668 (by decide +kernel) rfl
theorem G1665 : Cond.methodLink "HookedCityModel" 72 ⟨"HookedCityModel", "bad", "(I)Z"⟩ ∈ GW := gw_i 1665 (by decide +kernel) rfl
theorem V_HookedCityModel_72 : VL "HookedCityModel" 72 yX12_bad cX12_bad 2 (some .boolean) 1 := ⟨G1668, G1665, G131, by decide +kernel, by decide +kernel, by decide +kernel⟩
theorem G1667 : Cond.instanceMethod ⟨"HookedCityModel", "bad", "(I)Z"⟩ ∈ GW := gw_i 1667 (by decide +kernel) rfl
theorem G55 : Cond.selects "HookedCityModel" ⟨"HookedCityModel", "bad", "(I)Z"⟩ ⟨"HookedCityModel", "bad", "(I)Z"⟩ ∈ GW := gw_i 55 (by decide +kernel) rfl
theorem dX12_readNumber_31 : decode cX12_readNumber 31 = .ok (.ireturn, 1) := by decide +kernel
theorem dX12_readNumber_32 : decode cX12_readNumber 32 = .ok (.aload_n 0, 1) := by decide +kernel
theorem dX12_readNumber_33 : decode cX12_readNumber 33 = .ok (.aload_n 0, 1) := by decide +kernel
theorem dX12_readNumber_34 : decode cX12_readNumber 34 = .ok (.getfield 47, 3) := by decide +kernel
theorem dX12_readNumber_37 : decode cX12_readNumber 37 = .ok (.putfield 79, 3) := by decide +kernel
theorem G1476 : Cond.fieldLink "HookedCityModel" 79 "HookedCityModel" "told" "I" ∈ GW := gw_i 1476 (by decide +kernel) rfl
theorem dX12_readNumber_40 : decode cX12_readNumber 40 = .ok (.aload_n 0, 1) := by decide +kernel
theorem dX12_readNumber_41 : decode cX12_readNumber 41 = .ok (.invokevirtual 82, 3) := by decide +kernel
theorem G1630 : Cond.code ⟨"HookedCityModel", "go", "()V"⟩ prog_14_method_16_code 5 none ∈ GW := gw_i 1630 (by decide +kernel) rfl
theorem G1627 : Cond.methodLink "HookedCityModel" 82 ⟨"HookedCityModel", "go", "()V"⟩ ∈ GW := gw_i 1627 (by decide +kernel) rfl
theorem V_HookedCityModel_82 : VL "HookedCityModel" 82 yX12_go cX12_go 5 none 0 := ⟨G1630, G1627, G131, by decide +kernel, by decide +kernel, by decide +kernel⟩
theorem G1629 : Cond.instanceMethod ⟨"HookedCityModel", "go", "()V"⟩ ∈ GW := gw_i 1629 (by decide +kernel) rfl
theorem G49 : Cond.selects "HookedCityModel" ⟨"HookedCityModel", "go", "()V"⟩ ⟨"HookedCityModel", "go", "()V"⟩ ∈ GW := gw_i 49 (by decide +kernel) rfl
theorem dX12_readNumber_44 : decode cX12_readNumber 44 = .ok (.iconst 1, 1) := by decide +kernel
theorem dX12_readNumber_45 : decode cX12_readNumber 45 = .ok (.ireturn, 1) := by decide +kernel
theorem dX12_readNumber_8 : decode cX12_readNumber 8 = .ok (.aload_n 0, 1) := by decide +kernel
theorem dX12_readNumber_9 : decode cX12_readNumber 9 = .ok (.iconst 1, 1) := by decide +kernel
theorem dX12_readNumber_10 : decode cX12_readNumber 10 = .ok (.invokevirtual 72, 3) := by decide +kernel
theorem dX12_readNumber_13 : decode cX12_readNumber 13 = .ok (.ireturn, 1) := by decide +kernel
theorem dX12_readEnd_0 : decode cX12_readEnd 0 = .ok (.aload_n 0, 1) := by decide +kernel
theorem dX12_readEnd_1 : decode cX12_readEnd 1 = .ok (.bipush 59, 2) := by decide +kernel
theorem dX12_readEnd_3 : decode cX12_readEnd 3 = .ok (.invokevirtual 86, 3) := by decide +kernel
theorem G1725 : Cond.code ⟨"HookedCityModel", "isSign", "(I)Z"⟩ prog_14_method_20_code 2 (some .boolean) ∈ GW := gw_i 1725 (by decide +kernel) rfl
theorem G1722 : Cond.methodLink "HookedCityModel" 86 ⟨"HookedCityModel", "isSign", "(I)Z"⟩ ∈ GW := gw_i 1722 (by decide +kernel) rfl
theorem V_HookedCityModel_86 : VL "HookedCityModel" 86 yX12_isSign cX12_isSign 2 (some .boolean) 1 := ⟨G1725, G1722, G131, by decide +kernel, by decide +kernel, by decide +kernel⟩
theorem G1724 : Cond.instanceMethod ⟨"HookedCityModel", "isSign", "(I)Z"⟩ ∈ GW := gw_i 1724 (by decide +kernel) rfl
theorem G67 : Cond.selects "HookedCityModel" ⟨"HookedCityModel", "isSign", "(I)Z"⟩ ⟨"HookedCityModel", "isSign", "(I)Z"⟩ ∈ GW := gw_i 67 (by decide +kernel) rfl
theorem dX12_readEnd_6 : decode cX12_readEnd 6 = .ok (.ifCond .ne 9, 3) := by decide +kernel
theorem dX12_readEnd_15 : decode cX12_readEnd 15 = .ok (.aload_n 0, 1) := by decide +kernel
theorem dX12_readEnd_16 : decode cX12_readEnd 16 = .ok (.invokevirtual 82, 3) := by decide +kernel
theorem dX12_readEnd_19 : decode cX12_readEnd 19 = .ok (.iconst 1, 1) := by decide +kernel
theorem dX12_readEnd_20 : decode cX12_readEnd 20 = .ok (.ireturn, 1) := by decide +kernel
theorem dX12_readEnd_9 : decode cX12_readEnd 9 = .ok (.aload_n 0, 1) := by decide +kernel
theorem dX12_readEnd_10 : decode cX12_readEnd 10 = .ok (.iconst 1, 1) := by decide +kernel
theorem dX12_readEnd_11 : decode cX12_readEnd 11 = .ok (.invokevirtual 72, 3) := by decide +kernel
theorem dX12_readEnd_14 : decode cX12_readEnd 14 = .ok (.ireturn, 1) := by decide +kernel
theorem dX12_begin_0 : decode cX12_begin 0 = .ok (.aload_n 0, 1) := by decide +kernel
theorem dX12_begin_1 : decode cX12_begin 1 = .ok (.iconst 0, 1) := by decide +kernel
theorem dX12_begin_2 : decode cX12_begin 2 = .ok (.putfield 1, 3) := by decide +kernel
theorem dX12_begin_5 : decode cX12_begin 5 = .ok (.aload_n 0, 1) := by decide +kernel
theorem dX12_begin_6 : decode cX12_begin 6 = .ok (.aload_n 0, 1) := by decide +kernel
theorem dX12_begin_7 : decode cX12_begin 7 = .ok (.invokevirtual 89, 3) := by decide +kernel
theorem G1626 : Cond.code ⟨"HookedCityModel", "take", "()I"⟩ prog_14_method_6_code 2 (some .int) ∈ GW := gw_i 1626 (by decide +kernel) rfl
theorem G1623 : Cond.methodLink "HookedCityModel" 89 ⟨"HookedCityModel", "take", "()I"⟩ ∈ GW := gw_i 1623 (by decide +kernel) rfl
theorem V_HookedCityModel_89 : VL "HookedCityModel" 89 yX12_take cX12_take 2 (some .int) 0 := ⟨G1626, G1623, G131, by decide +kernel, by decide +kernel, by decide +kernel⟩
theorem G1625 : Cond.instanceMethod ⟨"HookedCityModel", "take", "()I"⟩ ∈ GW := gw_i 1625 (by decide +kernel) rfl
theorem G48 : Cond.selects "HookedCityModel" ⟨"HookedCityModel", "take", "()I"⟩ ⟨"HookedCityModel", "take", "()I"⟩ ∈ GW := gw_i 48 (by decide +kernel) rfl
theorem dX12_begin_10 : decode cX12_begin 10 = .ok (.putfield 18, 3) := by decide +kernel
theorem dX12_begin_13 : decode cX12_begin 13 = .ok (.aload_n 0, 1) := by decide +kernel
theorem dX12_begin_14 : decode cX12_begin 14 = .ok (.iload_n 1, 1) := by decide +kernel
theorem dX12_begin_15 : decode cX12_begin 15 = .ok (.putfield 27, 3) := by decide +kernel
theorem dX12_begin_18 : decode cX12_begin 18 = .ok (.aload_n 0, 1) := by decide +kernel
theorem dX12_begin_19 : decode cX12_begin 19 = .ok (.iconst 0, 1) := by decide +kernel
theorem dX12_begin_20 : decode cX12_begin 20 = .ok (.putfield 66, 3) := by decide +kernel
theorem dX12_begin_23 : decode cX12_begin 23 = .ok (.aload_n 0, 1) := by decide +kernel
theorem dX12_begin_24 : decode cX12_begin 24 = .ok (.iconst 0, 1) := by decide +kernel
theorem dX12_begin_25 : decode cX12_begin 25 = .ok (.putfield 21, 3) := by decide +kernel
theorem dX12_begin_28 : decode cX12_begin 28 = .ok (.aload_n 0, 1) := by decide +kernel
theorem dX12_begin_29 : decode cX12_begin 29 = .ok (.invokevirtual 82, 3) := by decide +kernel
theorem dX12_begin_32 : decode cX12_begin 32 = .ok (.return_, 1) := by decide +kernel
theorem dX12_readKind_0 : decode cX12_readKind 0 = .ok (.bipush 7, 2) := by decide +kernel
theorem dX12_readKind_2 : decode cX12_readKind 2 = .ok (.istore_n 1, 1) := by decide +kernel
theorem dX12_readKind_3 : decode cX12_readKind 3 = .ok (.iload_n 1, 1) := by decide +kernel
theorem dX12_readKind_4 : decode cX12_readKind 4 = .ok (.bipush 10, 2) := by decide +kernel
theorem dX12_readKind_6 : decode cX12_readKind 6 = .ok (.if_icmp .gt 17, 3) := by decide +kernel
theorem dX12_readKind_23 : decode cX12_readKind 23 = .ok (.iload_n 1, 1) := by decide +kernel
theorem dX12_readKind_24 : decode cX12_readKind 24 = .ok (.bipush 10, 2) := by decide +kernel
theorem dX12_readKind_26 : decode cX12_readKind 26 = .ok (.if_icmp .le 9, 3) := by decide +kernel
theorem dX12_readKind_29 : decode cX12_readKind 29 = .ok (.aload_n 0, 1) := by decide +kernel
theorem dX12_readKind_30 : decode cX12_readKind 30 = .ok (.iconst 1, 1) := by decide +kernel
theorem dX12_readKind_31 : decode cX12_readKind 31 = .ok (.invokevirtual 72, 3) := by decide +kernel
theorem dX12_readKind_34 : decode cX12_readKind 34 = .ok (.ireturn, 1) := by decide +kernel
theorem dX12_readKind_9 : decode cX12_readKind 9 = .ok (.aload_n 0, 1) := by decide +kernel
theorem dX12_readKind_10 : decode cX12_readKind 10 = .ok (.iload_n 1, 1) := by decide +kernel
theorem dX12_readKind_11 : decode cX12_readKind 11 = .ok (.invokevirtual 183, 3) := by decide +kernel
theorem G1650 : Cond.code ⟨"HookedCityModel", "isWord", "(I)Z"⟩ prog_14_method_19_code 2 (some .boolean) ∈ GW := gw_i 1650 (by decide +kernel) rfl
theorem G1647 : Cond.methodLink "HookedCityModel" 183 ⟨"HookedCityModel", "isWord", "(I)Z"⟩ ∈ GW := gw_i 1647 (by decide +kernel) rfl
theorem V_HookedCityModel_183 : VL "HookedCityModel" 183 yX12_isWord cX12_isWord 2 (some .boolean) 1 := ⟨G1650, G1647, G131, by decide +kernel, by decide +kernel, by decide +kernel⟩
theorem G1649 : Cond.instanceMethod ⟨"HookedCityModel", "isWord", "(I)Z"⟩ ∈ GW := gw_i 1649 (by decide +kernel) rfl
theorem G52 : Cond.selects "HookedCityModel" ⟨"HookedCityModel", "isWord", "(I)Z"⟩ ⟨"HookedCityModel", "isWord", "(I)Z"⟩ ∈ GW := gw_i 52 (by decide +kernel) rfl
theorem dX12_readKind_14 : decode cX12_readKind 14 = .ok (.ifCond .ne 9, 3) := by decide +kernel
theorem dX12_readKind_35 : decode cX12_readKind 35 = .ok (.aload_n 0, 1) := by decide +kernel
theorem dX12_readKind_36 : decode cX12_readKind 36 = .ok (.iload_n 1, 1) := by decide +kernel
theorem dX12_readKind_37 : decode cX12_readKind 37 = .ok (.bipush 7, 2) := by decide +kernel
theorem dX12_readKind_39 : decode cX12_readKind 39 = .ok (.isub, 1) := by decide +kernel
theorem dX12_readKind_40 : decode cX12_readKind 40 = .ok (.putfield 79, 3) := by decide +kernel
theorem dX12_readKind_43 : decode cX12_readKind 43 = .ok (.aload_n 0, 1) := by decide +kernel
theorem dX12_readKind_44 : decode cX12_readKind 44 = .ok (.invokevirtual 82, 3) := by decide +kernel
theorem dX12_readKind_47 : decode cX12_readKind 47 = .ok (.iconst 1, 1) := by decide +kernel
theorem dX12_readKind_48 : decode cX12_readKind 48 = .ok (.ireturn, 1) := by decide +kernel
theorem dX12_readKind_17 : decode cX12_readKind 17 = .ok (.iinc 1 1, 3) := by decide +kernel
theorem dX12_readKind_20 : decode cX12_readKind 20 = .ok (.goto (-17), 3) := by decide +kernel
set_option maxRecDepth 100000 in
set_option maxHeartbeats 4000000 in
theorem c13_X12_spelt (l : Launch) (D : va_G) (T : Nat → ClassId) (sz : Nat) (x0 : Int) (x1 : Int) (x2 : Int) (x3 : Int) (x4 : Int) (x5 : Int) (x6 : Int) (x0_a : (-2147483648) ≤ x0) (x0_b : x0 ≤ 2147483647) (x1_a : (-2147483648) ≤ x1) (x1_b : x1 ≤ 2147483647) (x2_a : (-2147483648) ≤ x2) (x2_b : x2 ≤ 2147483647) (x3_a : (-2147483648) ≤ x3) (x3_b : x3 ≤ 2147483647) (x4_a : (-2147483648) ≤ x4) (x4_b : x4 ≤ 2147483647) (x5_a : (-2147483648) ≤ x5) (x5_b : x5 ≤ 2147483647) (x6_a : (-2147483648) ≤ x6) (x6_b : x6 ≤ 2147483647) : Met l yX12_spelt (Cond.code yX12_spelt cX12_spelt 9 (some .long) :: GW) (Rm 0 0 0) (cPre [.int (iI x0), .int (iI x1), .int (iI x2), .int (iI x3), .int (iI x4), .int (iI x5), .int (iI x6)] D T [] sz) (qL D [] sz (fun (v : Int64) (u : Unit) => True) (fun u => [])) 0 0 (va_A [] sz) := by
  refine e_L (by decide) (Nat.le_of_ble_eq_true rfl) ?_
  intro p e s m args below meth c A Q ls M hin w ret hl
  have hx := M.1.1
  have hb := M.1.2.1
  have hl : lv_has ls 9 [(0, .int (iI x0)), (1, .int (iI x1)), (2, .int (iI x2)), (3, .int (iI x3)), (4, .int (iI x4)), (5, .int (iI x5)), (6, .int (iI x6))] := hl
  refine lv_ldc2 (v := 27) hx hb M.1.2.2.2.1 (M.1.2.2.2.2 _ G1641) dX12_spelt_0 ?_
  refine lv_iload_n hx hb dX12_spelt_3 rfl (lv_at hl 0 rfl) ?_
  refine lv_i2l (v := (Int32.toInt64 (iI x0))) hx hb dX12_spelt_4 rfl ?_
  refine lv_ldc2 (v := 96) hx hb M.1.2.2.2.1 (M.1.2.2.2.2 _ G1642) dX12_spelt_5 ?_
  refine r_lsub (v := ((Int32.toInt64 (iI x0)) - 96)) M rfl dX12_spelt_8 ?_
  refine r_lmul (v := (27 * ((Int32.toInt64 (iI x0)) - 96))) M rfl dX12_spelt_9 ?_
  refine lv_iload_n hx hb dX12_spelt_10 rfl (lv_at hl 1 rfl) ?_
  refine lv_i2l (v := (Int32.toInt64 (iI x1))) hx hb dX12_spelt_11 rfl ?_
  refine r_ladd (v := ((27 * ((Int32.toInt64 (iI x0)) - 96)) + (Int32.toInt64 (iI x1)))) M rfl dX12_spelt_12 ?_
  refine lv_ldc2 (v := 96) hx hb M.1.2.2.2.1 (M.1.2.2.2.2 _ G1642) dX12_spelt_13 ?_
  refine r_lsub (v := (((27 * ((Int32.toInt64 (iI x0)) - 96)) + (Int32.toInt64 (iI x1))) - 96)) M rfl dX12_spelt_16 ?_
  refine lv_lstore (lv' := [(7, .long (((27 * ((Int32.toInt64 (iI x0)) - 96)) + (Int32.toInt64 (iI x1))) - 96)), (0, .int (iI x0)), (1, .int (iI x1)), (2, .int (iI x2)), (3, .int (iI x3)), (4, .int (iI x4)), (5, .int (iI x5)), (6, .int (iI x6))]) hx hb dX12_spelt_17 hl (by decide) rfl (fun ls hl => ?_)
  refine lv_iload_n hx hb dX12_spelt_19 rfl (lv_at hl 3 rfl) ?_
  refine lv_if_le (tgt := 38) hx hb dX12_spelt_20 (by decide) (fun c_1 => ?_) (fun c_1 => ?_)
  · replace c_1 := (iz_le (Int.le_trans (by decide) x2_a) (Int.le_trans x2_b (by decide))).mp c_1
    refine lv_iload_n hx hb dX12_spelt_38 rfl (lv_at hl 4 rfl) ?_
    refine lv_if_le (tgt := 57) hx hb dX12_spelt_39 (by decide) (fun c_2 => ?_) (fun c_2 => ?_)
    · replace c_2 := (iz_le (Int.le_trans (by decide) x3_a) (Int.le_trans x3_b (by decide))).mp c_2
      refine lv_iload hx hb dX12_spelt_57 (lv_at hl 5 rfl) ?_
      refine lv_if_le (tgt := 78) hx hb dX12_spelt_59 (by decide) (fun c_3 => ?_) (fun c_3 => ?_)
      · replace c_3 := (iz_le (Int.le_trans (by decide) x4_a) (Int.le_trans x4_b (by decide))).mp c_3
        refine lv_iload hx hb dX12_spelt_78 (lv_at hl 6 rfl) ?_
        refine lv_if_le (tgt := 99) hx hb dX12_spelt_80 (by decide) (fun c_4 => ?_) (fun c_4 => ?_)
        · replace c_4 := (iz_le (Int.le_trans (by decide) x5_a) (Int.le_trans x5_b (by decide))).mp c_4
          refine lv_iload hx hb dX12_spelt_99 (lv_at hl 7 rfl) ?_
          refine lv_if_le (tgt := 120) hx hb dX12_spelt_101 (by decide) (fun c_5 => ?_) (fun c_5 => ?_)
          · replace c_5 := (iz_le (Int.le_trans (by decide) x6_a) (Int.le_trans x6_b (by decide))).mp c_5
            refine lv_lload hx hb dX12_spelt_120 (lv_at hl 0 rfl) ?_
            exact ret _ () _ _ _ _ _ [] dX12_spelt_122 trivial w (by decide) rfl
          · replace c_5 : 0 < x6 := Int.not_le.mp (fun h => c_5 ((iz_le (Int.le_trans (by decide) x6_a) (Int.le_trans x6_b (by decide))).mpr h))
            refine lv_ldc2 (v := 27) hx hb M.1.2.2.2.1 (M.1.2.2.2.2 _ G1641) dX12_spelt_104 ?_
            refine lv_lload hx hb dX12_spelt_107 (lv_at hl 0 rfl) ?_
            refine r_lmul (v := (27 * (((27 * ((Int32.toInt64 (iI x0)) - 96)) + (Int32.toInt64 (iI x1))) - 96))) M rfl dX12_spelt_109 ?_
            refine lv_iload hx hb dX12_spelt_110 (lv_at hl 7 rfl) ?_
            refine lv_i2l (v := (Int32.toInt64 (iI x6))) hx hb dX12_spelt_112 rfl ?_
            refine r_ladd (v := ((27 * (((27 * ((Int32.toInt64 (iI x0)) - 96)) + (Int32.toInt64 (iI x1))) - 96)) + (Int32.toInt64 (iI x6)))) M rfl dX12_spelt_113 ?_
            refine lv_ldc2 (v := 96) hx hb M.1.2.2.2.1 (M.1.2.2.2.2 _ G1642) dX12_spelt_114 ?_
            refine r_lsub (v := (((27 * (((27 * ((Int32.toInt64 (iI x0)) - 96)) + (Int32.toInt64 (iI x1))) - 96)) + (Int32.toInt64 (iI x6))) - 96)) M rfl dX12_spelt_117 ?_
            refine lv_lstore (lv' := [(7, .long (((27 * (((27 * ((Int32.toInt64 (iI x0)) - 96)) + (Int32.toInt64 (iI x1))) - 96)) + (Int32.toInt64 (iI x6))) - 96)), (0, .int (iI x0)), (1, .int (iI x1)), (2, .int (iI x2)), (3, .int (iI x3)), (4, .int (iI x4)), (5, .int (iI x5)), (6, .int (iI x6))]) hx hb dX12_spelt_118 hl (by decide) rfl (fun ls hl => ?_)
            refine lv_lload hx hb dX12_spelt_120 (lv_at hl 0 rfl) ?_
            exact ret _ () _ _ _ _ _ [] dX12_spelt_122 trivial w (by decide) rfl
        · replace c_4 : 0 < x5 := Int.not_le.mp (fun h => c_4 ((iz_le (Int.le_trans (by decide) x5_a) (Int.le_trans x5_b (by decide))).mpr h))
          refine lv_ldc2 (v := 27) hx hb M.1.2.2.2.1 (M.1.2.2.2.2 _ G1641) dX12_spelt_83 ?_
          refine lv_lload hx hb dX12_spelt_86 (lv_at hl 0 rfl) ?_
          refine r_lmul (v := (27 * (((27 * ((Int32.toInt64 (iI x0)) - 96)) + (Int32.toInt64 (iI x1))) - 96))) M rfl dX12_spelt_88 ?_
          refine lv_iload hx hb dX12_spelt_89 (lv_at hl 6 rfl) ?_
          refine lv_i2l (v := (Int32.toInt64 (iI x5))) hx hb dX12_spelt_91 rfl ?_
          refine r_ladd (v := ((27 * (((27 * ((Int32.toInt64 (iI x0)) - 96)) + (Int32.toInt64 (iI x1))) - 96)) + (Int32.toInt64 (iI x5)))) M rfl dX12_spelt_92 ?_
          refine lv_ldc2 (v := 96) hx hb M.1.2.2.2.1 (M.1.2.2.2.2 _ G1642) dX12_spelt_93 ?_
          refine r_lsub (v := (((27 * (((27 * ((Int32.toInt64 (iI x0)) - 96)) + (Int32.toInt64 (iI x1))) - 96)) + (Int32.toInt64 (iI x5))) - 96)) M rfl dX12_spelt_96 ?_
          refine lv_lstore (lv' := [(7, .long (((27 * (((27 * ((Int32.toInt64 (iI x0)) - 96)) + (Int32.toInt64 (iI x1))) - 96)) + (Int32.toInt64 (iI x5))) - 96)), (0, .int (iI x0)), (1, .int (iI x1)), (2, .int (iI x2)), (3, .int (iI x3)), (4, .int (iI x4)), (5, .int (iI x5)), (6, .int (iI x6))]) hx hb dX12_spelt_97 hl (by decide) rfl (fun ls hl => ?_)
          refine lv_iload hx hb dX12_spelt_99 (lv_at hl 7 rfl) ?_
          refine lv_if_le (tgt := 120) hx hb dX12_spelt_101 (by decide) (fun c_6 => ?_) (fun c_6 => ?_)
          · replace c_6 := (iz_le (Int.le_trans (by decide) x6_a) (Int.le_trans x6_b (by decide))).mp c_6
            refine lv_lload hx hb dX12_spelt_120 (lv_at hl 0 rfl) ?_
            exact ret _ () _ _ _ _ _ [] dX12_spelt_122 trivial w (by decide) rfl
          · replace c_6 : 0 < x6 := Int.not_le.mp (fun h => c_6 ((iz_le (Int.le_trans (by decide) x6_a) (Int.le_trans x6_b (by decide))).mpr h))
            refine lv_ldc2 (v := 27) hx hb M.1.2.2.2.1 (M.1.2.2.2.2 _ G1641) dX12_spelt_104 ?_
            refine lv_lload hx hb dX12_spelt_107 (lv_at hl 0 rfl) ?_
            refine r_lmul (v := (27 * (((27 * (((27 * ((Int32.toInt64 (iI x0)) - 96)) + (Int32.toInt64 (iI x1))) - 96)) + (Int32.toInt64 (iI x5))) - 96))) M rfl dX12_spelt_109 ?_
            refine lv_iload hx hb dX12_spelt_110 (lv_at hl 7 rfl) ?_
            refine lv_i2l (v := (Int32.toInt64 (iI x6))) hx hb dX12_spelt_112 rfl ?_
            refine r_ladd (v := ((27 * (((27 * (((27 * ((Int32.toInt64 (iI x0)) - 96)) + (Int32.toInt64 (iI x1))) - 96)) + (Int32.toInt64 (iI x5))) - 96)) + (Int32.toInt64 (iI x6)))) M rfl dX12_spelt_113 ?_
            refine lv_ldc2 (v := 96) hx hb M.1.2.2.2.1 (M.1.2.2.2.2 _ G1642) dX12_spelt_114 ?_
            refine r_lsub (v := (((27 * (((27 * (((27 * ((Int32.toInt64 (iI x0)) - 96)) + (Int32.toInt64 (iI x1))) - 96)) + (Int32.toInt64 (iI x5))) - 96)) + (Int32.toInt64 (iI x6))) - 96)) M rfl dX12_spelt_117 ?_
            refine lv_lstore (lv' := [(7, .long (((27 * (((27 * (((27 * ((Int32.toInt64 (iI x0)) - 96)) + (Int32.toInt64 (iI x1))) - 96)) + (Int32.toInt64 (iI x5))) - 96)) + (Int32.toInt64 (iI x6))) - 96)), (0, .int (iI x0)), (1, .int (iI x1)), (2, .int (iI x2)), (3, .int (iI x3)), (4, .int (iI x4)), (5, .int (iI x5)), (6, .int (iI x6))]) hx hb dX12_spelt_118 hl (by decide) rfl (fun ls hl => ?_)
            refine lv_lload hx hb dX12_spelt_120 (lv_at hl 0 rfl) ?_
            exact ret _ () _ _ _ _ _ [] dX12_spelt_122 trivial w (by decide) rfl
      · replace c_3 : 0 < x4 := Int.not_le.mp (fun h => c_3 ((iz_le (Int.le_trans (by decide) x4_a) (Int.le_trans x4_b (by decide))).mpr h))
        refine lv_ldc2 (v := 27) hx hb M.1.2.2.2.1 (M.1.2.2.2.2 _ G1641) dX12_spelt_62 ?_
        refine lv_lload hx hb dX12_spelt_65 (lv_at hl 0 rfl) ?_
        refine r_lmul (v := (27 * (((27 * ((Int32.toInt64 (iI x0)) - 96)) + (Int32.toInt64 (iI x1))) - 96))) M rfl dX12_spelt_67 ?_
        refine lv_iload hx hb dX12_spelt_68 (lv_at hl 5 rfl) ?_
        refine lv_i2l (v := (Int32.toInt64 (iI x4))) hx hb dX12_spelt_70 rfl ?_
        refine r_ladd (v := ((27 * (((27 * ((Int32.toInt64 (iI x0)) - 96)) + (Int32.toInt64 (iI x1))) - 96)) + (Int32.toInt64 (iI x4)))) M rfl dX12_spelt_71 ?_
        refine lv_ldc2 (v := 96) hx hb M.1.2.2.2.1 (M.1.2.2.2.2 _ G1642) dX12_spelt_72 ?_
        refine r_lsub (v := (((27 * (((27 * ((Int32.toInt64 (iI x0)) - 96)) + (Int32.toInt64 (iI x1))) - 96)) + (Int32.toInt64 (iI x4))) - 96)) M rfl dX12_spelt_75 ?_
        refine lv_lstore (lv' := [(7, .long (((27 * (((27 * ((Int32.toInt64 (iI x0)) - 96)) + (Int32.toInt64 (iI x1))) - 96)) + (Int32.toInt64 (iI x4))) - 96)), (0, .int (iI x0)), (1, .int (iI x1)), (2, .int (iI x2)), (3, .int (iI x3)), (4, .int (iI x4)), (5, .int (iI x5)), (6, .int (iI x6))]) hx hb dX12_spelt_76 hl (by decide) rfl (fun ls hl => ?_)
        refine lv_iload hx hb dX12_spelt_78 (lv_at hl 6 rfl) ?_
        refine lv_if_le (tgt := 99) hx hb dX12_spelt_80 (by decide) (fun c_7 => ?_) (fun c_7 => ?_)
        · replace c_7 := (iz_le (Int.le_trans (by decide) x5_a) (Int.le_trans x5_b (by decide))).mp c_7
          refine lv_iload hx hb dX12_spelt_99 (lv_at hl 7 rfl) ?_
          refine lv_if_le (tgt := 120) hx hb dX12_spelt_101 (by decide) (fun c_8 => ?_) (fun c_8 => ?_)
          · replace c_8 := (iz_le (Int.le_trans (by decide) x6_a) (Int.le_trans x6_b (by decide))).mp c_8
            refine lv_lload hx hb dX12_spelt_120 (lv_at hl 0 rfl) ?_
            exact ret _ () _ _ _ _ _ [] dX12_spelt_122 trivial w (by decide) rfl
          · replace c_8 : 0 < x6 := Int.not_le.mp (fun h => c_8 ((iz_le (Int.le_trans (by decide) x6_a) (Int.le_trans x6_b (by decide))).mpr h))
            refine lv_ldc2 (v := 27) hx hb M.1.2.2.2.1 (M.1.2.2.2.2 _ G1641) dX12_spelt_104 ?_
            refine lv_lload hx hb dX12_spelt_107 (lv_at hl 0 rfl) ?_
            refine r_lmul (v := (27 * (((27 * (((27 * ((Int32.toInt64 (iI x0)) - 96)) + (Int32.toInt64 (iI x1))) - 96)) + (Int32.toInt64 (iI x4))) - 96))) M rfl dX12_spelt_109 ?_
            refine lv_iload hx hb dX12_spelt_110 (lv_at hl 7 rfl) ?_
            refine lv_i2l (v := (Int32.toInt64 (iI x6))) hx hb dX12_spelt_112 rfl ?_
            refine r_ladd (v := ((27 * (((27 * (((27 * ((Int32.toInt64 (iI x0)) - 96)) + (Int32.toInt64 (iI x1))) - 96)) + (Int32.toInt64 (iI x4))) - 96)) + (Int32.toInt64 (iI x6)))) M rfl dX12_spelt_113 ?_
            refine lv_ldc2 (v := 96) hx hb M.1.2.2.2.1 (M.1.2.2.2.2 _ G1642) dX12_spelt_114 ?_
            refine r_lsub (v := (((27 * (((27 * (((27 * ((Int32.toInt64 (iI x0)) - 96)) + (Int32.toInt64 (iI x1))) - 96)) + (Int32.toInt64 (iI x4))) - 96)) + (Int32.toInt64 (iI x6))) - 96)) M rfl dX12_spelt_117 ?_
            refine lv_lstore (lv' := [(7, .long (((27 * (((27 * (((27 * ((Int32.toInt64 (iI x0)) - 96)) + (Int32.toInt64 (iI x1))) - 96)) + (Int32.toInt64 (iI x4))) - 96)) + (Int32.toInt64 (iI x6))) - 96)), (0, .int (iI x0)), (1, .int (iI x1)), (2, .int (iI x2)), (3, .int (iI x3)), (4, .int (iI x4)), (5, .int (iI x5)), (6, .int (iI x6))]) hx hb dX12_spelt_118 hl (by decide) rfl (fun ls hl => ?_)
            refine lv_lload hx hb dX12_spelt_120 (lv_at hl 0 rfl) ?_
            exact ret _ () _ _ _ _ _ [] dX12_spelt_122 trivial w (by decide) rfl
        · replace c_7 : 0 < x5 := Int.not_le.mp (fun h => c_7 ((iz_le (Int.le_trans (by decide) x5_a) (Int.le_trans x5_b (by decide))).mpr h))
          refine lv_ldc2 (v := 27) hx hb M.1.2.2.2.1 (M.1.2.2.2.2 _ G1641) dX12_spelt_83 ?_
          refine lv_lload hx hb dX12_spelt_86 (lv_at hl 0 rfl) ?_
          refine r_lmul (v := (27 * (((27 * (((27 * ((Int32.toInt64 (iI x0)) - 96)) + (Int32.toInt64 (iI x1))) - 96)) + (Int32.toInt64 (iI x4))) - 96))) M rfl dX12_spelt_88 ?_
          refine lv_iload hx hb dX12_spelt_89 (lv_at hl 6 rfl) ?_
          refine lv_i2l (v := (Int32.toInt64 (iI x5))) hx hb dX12_spelt_91 rfl ?_
          refine r_ladd (v := ((27 * (((27 * (((27 * ((Int32.toInt64 (iI x0)) - 96)) + (Int32.toInt64 (iI x1))) - 96)) + (Int32.toInt64 (iI x4))) - 96)) + (Int32.toInt64 (iI x5)))) M rfl dX12_spelt_92 ?_
          refine lv_ldc2 (v := 96) hx hb M.1.2.2.2.1 (M.1.2.2.2.2 _ G1642) dX12_spelt_93 ?_
          refine r_lsub (v := (((27 * (((27 * (((27 * ((Int32.toInt64 (iI x0)) - 96)) + (Int32.toInt64 (iI x1))) - 96)) + (Int32.toInt64 (iI x4))) - 96)) + (Int32.toInt64 (iI x5))) - 96)) M rfl dX12_spelt_96 ?_
          refine lv_lstore (lv' := [(7, .long (((27 * (((27 * (((27 * ((Int32.toInt64 (iI x0)) - 96)) + (Int32.toInt64 (iI x1))) - 96)) + (Int32.toInt64 (iI x4))) - 96)) + (Int32.toInt64 (iI x5))) - 96)), (0, .int (iI x0)), (1, .int (iI x1)), (2, .int (iI x2)), (3, .int (iI x3)), (4, .int (iI x4)), (5, .int (iI x5)), (6, .int (iI x6))]) hx hb dX12_spelt_97 hl (by decide) rfl (fun ls hl => ?_)
          refine lv_iload hx hb dX12_spelt_99 (lv_at hl 7 rfl) ?_
          refine lv_if_le (tgt := 120) hx hb dX12_spelt_101 (by decide) (fun c_9 => ?_) (fun c_9 => ?_)
          · replace c_9 := (iz_le (Int.le_trans (by decide) x6_a) (Int.le_trans x6_b (by decide))).mp c_9
            refine lv_lload hx hb dX12_spelt_120 (lv_at hl 0 rfl) ?_
            exact ret _ () _ _ _ _ _ [] dX12_spelt_122 trivial w (by decide) rfl
          · replace c_9 : 0 < x6 := Int.not_le.mp (fun h => c_9 ((iz_le (Int.le_trans (by decide) x6_a) (Int.le_trans x6_b (by decide))).mpr h))
            refine lv_ldc2 (v := 27) hx hb M.1.2.2.2.1 (M.1.2.2.2.2 _ G1641) dX12_spelt_104 ?_
            refine lv_lload hx hb dX12_spelt_107 (lv_at hl 0 rfl) ?_
            refine r_lmul (v := (27 * (((27 * (((27 * (((27 * ((Int32.toInt64 (iI x0)) - 96)) + (Int32.toInt64 (iI x1))) - 96)) + (Int32.toInt64 (iI x4))) - 96)) + (Int32.toInt64 (iI x5))) - 96))) M rfl dX12_spelt_109 ?_
            refine lv_iload hx hb dX12_spelt_110 (lv_at hl 7 rfl) ?_
            refine lv_i2l (v := (Int32.toInt64 (iI x6))) hx hb dX12_spelt_112 rfl ?_
            refine r_ladd (v := ((27 * (((27 * (((27 * (((27 * ((Int32.toInt64 (iI x0)) - 96)) + (Int32.toInt64 (iI x1))) - 96)) + (Int32.toInt64 (iI x4))) - 96)) + (Int32.toInt64 (iI x5))) - 96)) + (Int32.toInt64 (iI x6)))) M rfl dX12_spelt_113 ?_
            refine lv_ldc2 (v := 96) hx hb M.1.2.2.2.1 (M.1.2.2.2.2 _ G1642) dX12_spelt_114 ?_
            refine r_lsub (v := (((27 * (((27 * (((27 * (((27 * ((Int32.toInt64 (iI x0)) - 96)) + (Int32.toInt64 (iI x1))) - 96)) + (Int32.toInt64 (iI x4))) - 96)) + (Int32.toInt64 (iI x5))) - 96)) + (Int32.toInt64 (iI x6))) - 96)) M rfl dX12_spelt_117 ?_
            refine lv_lstore (lv' := [(7, .long (((27 * (((27 * (((27 * (((27 * ((Int32.toInt64 (iI x0)) - 96)) + (Int32.toInt64 (iI x1))) - 96)) + (Int32.toInt64 (iI x4))) - 96)) + (Int32.toInt64 (iI x5))) - 96)) + (Int32.toInt64 (iI x6))) - 96)), (0, .int (iI x0)), (1, .int (iI x1)), (2, .int (iI x2)), (3, .int (iI x3)), (4, .int (iI x4)), (5, .int (iI x5)), (6, .int (iI x6))]) hx hb dX12_spelt_118 hl (by decide) rfl (fun ls hl => ?_)
            refine lv_lload hx hb dX12_spelt_120 (lv_at hl 0 rfl) ?_
            exact ret _ () _ _ _ _ _ [] dX12_spelt_122 trivial w (by decide) rfl
    · replace c_2 : 0 < x3 := Int.not_le.mp (fun h => c_2 ((iz_le (Int.le_trans (by decide) x3_a) (Int.le_trans x3_b (by decide))).mpr h))
      refine lv_ldc2 (v := 27) hx hb M.1.2.2.2.1 (M.1.2.2.2.2 _ G1641) dX12_spelt_42 ?_
      refine lv_lload hx hb dX12_spelt_45 (lv_at hl 0 rfl) ?_
      refine r_lmul (v := (27 * (((27 * ((Int32.toInt64 (iI x0)) - 96)) + (Int32.toInt64 (iI x1))) - 96))) M rfl dX12_spelt_47 ?_
      refine lv_iload_n hx hb dX12_spelt_48 rfl (lv_at hl 4 rfl) ?_
      refine lv_i2l (v := (Int32.toInt64 (iI x3))) hx hb dX12_spelt_49 rfl ?_
      refine r_ladd (v := ((27 * (((27 * ((Int32.toInt64 (iI x0)) - 96)) + (Int32.toInt64 (iI x1))) - 96)) + (Int32.toInt64 (iI x3)))) M rfl dX12_spelt_50 ?_
      refine lv_ldc2 (v := 96) hx hb M.1.2.2.2.1 (M.1.2.2.2.2 _ G1642) dX12_spelt_51 ?_
      refine r_lsub (v := (((27 * (((27 * ((Int32.toInt64 (iI x0)) - 96)) + (Int32.toInt64 (iI x1))) - 96)) + (Int32.toInt64 (iI x3))) - 96)) M rfl dX12_spelt_54 ?_
      refine lv_lstore (lv' := [(7, .long (((27 * (((27 * ((Int32.toInt64 (iI x0)) - 96)) + (Int32.toInt64 (iI x1))) - 96)) + (Int32.toInt64 (iI x3))) - 96)), (0, .int (iI x0)), (1, .int (iI x1)), (2, .int (iI x2)), (3, .int (iI x3)), (4, .int (iI x4)), (5, .int (iI x5)), (6, .int (iI x6))]) hx hb dX12_spelt_55 hl (by decide) rfl (fun ls hl => ?_)
      refine lv_iload hx hb dX12_spelt_57 (lv_at hl 5 rfl) ?_
      refine lv_if_le (tgt := 78) hx hb dX12_spelt_59 (by decide) (fun c_10 => ?_) (fun c_10 => ?_)
      · replace c_10 := (iz_le (Int.le_trans (by decide) x4_a) (Int.le_trans x4_b (by decide))).mp c_10
        refine lv_iload hx hb dX12_spelt_78 (lv_at hl 6 rfl) ?_
        refine lv_if_le (tgt := 99) hx hb dX12_spelt_80 (by decide) (fun c_11 => ?_) (fun c_11 => ?_)
        · replace c_11 := (iz_le (Int.le_trans (by decide) x5_a) (Int.le_trans x5_b (by decide))).mp c_11
          refine lv_iload hx hb dX12_spelt_99 (lv_at hl 7 rfl) ?_
          refine lv_if_le (tgt := 120) hx hb dX12_spelt_101 (by decide) (fun c_12 => ?_) (fun c_12 => ?_)
          · replace c_12 := (iz_le (Int.le_trans (by decide) x6_a) (Int.le_trans x6_b (by decide))).mp c_12
            refine lv_lload hx hb dX12_spelt_120 (lv_at hl 0 rfl) ?_
            exact ret _ () _ _ _ _ _ [] dX12_spelt_122 trivial w (by decide) rfl
          · replace c_12 : 0 < x6 := Int.not_le.mp (fun h => c_12 ((iz_le (Int.le_trans (by decide) x6_a) (Int.le_trans x6_b (by decide))).mpr h))
            refine lv_ldc2 (v := 27) hx hb M.1.2.2.2.1 (M.1.2.2.2.2 _ G1641) dX12_spelt_104 ?_
            refine lv_lload hx hb dX12_spelt_107 (lv_at hl 0 rfl) ?_
            refine r_lmul (v := (27 * (((27 * (((27 * ((Int32.toInt64 (iI x0)) - 96)) + (Int32.toInt64 (iI x1))) - 96)) + (Int32.toInt64 (iI x3))) - 96))) M rfl dX12_spelt_109 ?_
            refine lv_iload hx hb dX12_spelt_110 (lv_at hl 7 rfl) ?_
            refine lv_i2l (v := (Int32.toInt64 (iI x6))) hx hb dX12_spelt_112 rfl ?_
            refine r_ladd (v := ((27 * (((27 * (((27 * ((Int32.toInt64 (iI x0)) - 96)) + (Int32.toInt64 (iI x1))) - 96)) + (Int32.toInt64 (iI x3))) - 96)) + (Int32.toInt64 (iI x6)))) M rfl dX12_spelt_113 ?_
            refine lv_ldc2 (v := 96) hx hb M.1.2.2.2.1 (M.1.2.2.2.2 _ G1642) dX12_spelt_114 ?_
            refine r_lsub (v := (((27 * (((27 * (((27 * ((Int32.toInt64 (iI x0)) - 96)) + (Int32.toInt64 (iI x1))) - 96)) + (Int32.toInt64 (iI x3))) - 96)) + (Int32.toInt64 (iI x6))) - 96)) M rfl dX12_spelt_117 ?_
            refine lv_lstore (lv' := [(7, .long (((27 * (((27 * (((27 * ((Int32.toInt64 (iI x0)) - 96)) + (Int32.toInt64 (iI x1))) - 96)) + (Int32.toInt64 (iI x3))) - 96)) + (Int32.toInt64 (iI x6))) - 96)), (0, .int (iI x0)), (1, .int (iI x1)), (2, .int (iI x2)), (3, .int (iI x3)), (4, .int (iI x4)), (5, .int (iI x5)), (6, .int (iI x6))]) hx hb dX12_spelt_118 hl (by decide) rfl (fun ls hl => ?_)
            refine lv_lload hx hb dX12_spelt_120 (lv_at hl 0 rfl) ?_
            exact ret _ () _ _ _ _ _ [] dX12_spelt_122 trivial w (by decide) rfl
        · replace c_11 : 0 < x5 := Int.not_le.mp (fun h => c_11 ((iz_le (Int.le_trans (by decide) x5_a) (Int.le_trans x5_b (by decide))).mpr h))
          refine lv_ldc2 (v := 27) hx hb M.1.2.2.2.1 (M.1.2.2.2.2 _ G1641) dX12_spelt_83 ?_
          refine lv_lload hx hb dX12_spelt_86 (lv_at hl 0 rfl) ?_
          refine r_lmul (v := (27 * (((27 * (((27 * ((Int32.toInt64 (iI x0)) - 96)) + (Int32.toInt64 (iI x1))) - 96)) + (Int32.toInt64 (iI x3))) - 96))) M rfl dX12_spelt_88 ?_
          refine lv_iload hx hb dX12_spelt_89 (lv_at hl 6 rfl) ?_
          refine lv_i2l (v := (Int32.toInt64 (iI x5))) hx hb dX12_spelt_91 rfl ?_
          refine r_ladd (v := ((27 * (((27 * (((27 * ((Int32.toInt64 (iI x0)) - 96)) + (Int32.toInt64 (iI x1))) - 96)) + (Int32.toInt64 (iI x3))) - 96)) + (Int32.toInt64 (iI x5)))) M rfl dX12_spelt_92 ?_
          refine lv_ldc2 (v := 96) hx hb M.1.2.2.2.1 (M.1.2.2.2.2 _ G1642) dX12_spelt_93 ?_
          refine r_lsub (v := (((27 * (((27 * (((27 * ((Int32.toInt64 (iI x0)) - 96)) + (Int32.toInt64 (iI x1))) - 96)) + (Int32.toInt64 (iI x3))) - 96)) + (Int32.toInt64 (iI x5))) - 96)) M rfl dX12_spelt_96 ?_
          refine lv_lstore (lv' := [(7, .long (((27 * (((27 * (((27 * ((Int32.toInt64 (iI x0)) - 96)) + (Int32.toInt64 (iI x1))) - 96)) + (Int32.toInt64 (iI x3))) - 96)) + (Int32.toInt64 (iI x5))) - 96)), (0, .int (iI x0)), (1, .int (iI x1)), (2, .int (iI x2)), (3, .int (iI x3)), (4, .int (iI x4)), (5, .int (iI x5)), (6, .int (iI x6))]) hx hb dX12_spelt_97 hl (by decide) rfl (fun ls hl => ?_)
          refine lv_iload hx hb dX12_spelt_99 (lv_at hl 7 rfl) ?_
          refine lv_if_le (tgt := 120) hx hb dX12_spelt_101 (by decide) (fun c_13 => ?_) (fun c_13 => ?_)
          · replace c_13 := (iz_le (Int.le_trans (by decide) x6_a) (Int.le_trans x6_b (by decide))).mp c_13
            refine lv_lload hx hb dX12_spelt_120 (lv_at hl 0 rfl) ?_
            exact ret _ () _ _ _ _ _ [] dX12_spelt_122 trivial w (by decide) rfl
          · replace c_13 : 0 < x6 := Int.not_le.mp (fun h => c_13 ((iz_le (Int.le_trans (by decide) x6_a) (Int.le_trans x6_b (by decide))).mpr h))
            refine lv_ldc2 (v := 27) hx hb M.1.2.2.2.1 (M.1.2.2.2.2 _ G1641) dX12_spelt_104 ?_
            refine lv_lload hx hb dX12_spelt_107 (lv_at hl 0 rfl) ?_
            refine r_lmul (v := (27 * (((27 * (((27 * (((27 * ((Int32.toInt64 (iI x0)) - 96)) + (Int32.toInt64 (iI x1))) - 96)) + (Int32.toInt64 (iI x3))) - 96)) + (Int32.toInt64 (iI x5))) - 96))) M rfl dX12_spelt_109 ?_
            refine lv_iload hx hb dX12_spelt_110 (lv_at hl 7 rfl) ?_
            refine lv_i2l (v := (Int32.toInt64 (iI x6))) hx hb dX12_spelt_112 rfl ?_
            refine r_ladd (v := ((27 * (((27 * (((27 * (((27 * ((Int32.toInt64 (iI x0)) - 96)) + (Int32.toInt64 (iI x1))) - 96)) + (Int32.toInt64 (iI x3))) - 96)) + (Int32.toInt64 (iI x5))) - 96)) + (Int32.toInt64 (iI x6)))) M rfl dX12_spelt_113 ?_
            refine lv_ldc2 (v := 96) hx hb M.1.2.2.2.1 (M.1.2.2.2.2 _ G1642) dX12_spelt_114 ?_
            refine r_lsub (v := (((27 * (((27 * (((27 * (((27 * ((Int32.toInt64 (iI x0)) - 96)) + (Int32.toInt64 (iI x1))) - 96)) + (Int32.toInt64 (iI x3))) - 96)) + (Int32.toInt64 (iI x5))) - 96)) + (Int32.toInt64 (iI x6))) - 96)) M rfl dX12_spelt_117 ?_
            refine lv_lstore (lv' := [(7, .long (((27 * (((27 * (((27 * (((27 * ((Int32.toInt64 (iI x0)) - 96)) + (Int32.toInt64 (iI x1))) - 96)) + (Int32.toInt64 (iI x3))) - 96)) + (Int32.toInt64 (iI x5))) - 96)) + (Int32.toInt64 (iI x6))) - 96)), (0, .int (iI x0)), (1, .int (iI x1)), (2, .int (iI x2)), (3, .int (iI x3)), (4, .int (iI x4)), (5, .int (iI x5)), (6, .int (iI x6))]) hx hb dX12_spelt_118 hl (by decide) rfl (fun ls hl => ?_)
            refine lv_lload hx hb dX12_spelt_120 (lv_at hl 0 rfl) ?_
            exact ret _ () _ _ _ _ _ [] dX12_spelt_122 trivial w (by decide) rfl
      · replace c_10 : 0 < x4 := Int.not_le.mp (fun h => c_10 ((iz_le (Int.le_trans (by decide) x4_a) (Int.le_trans x4_b (by decide))).mpr h))
        refine lv_ldc2 (v := 27) hx hb M.1.2.2.2.1 (M.1.2.2.2.2 _ G1641) dX12_spelt_62 ?_
        refine lv_lload hx hb dX12_spelt_65 (lv_at hl 0 rfl) ?_
        refine r_lmul (v := (27 * (((27 * (((27 * ((Int32.toInt64 (iI x0)) - 96)) + (Int32.toInt64 (iI x1))) - 96)) + (Int32.toInt64 (iI x3))) - 96))) M rfl dX12_spelt_67 ?_
        refine lv_iload hx hb dX12_spelt_68 (lv_at hl 5 rfl) ?_
        refine lv_i2l (v := (Int32.toInt64 (iI x4))) hx hb dX12_spelt_70 rfl ?_
        refine r_ladd (v := ((27 * (((27 * (((27 * ((Int32.toInt64 (iI x0)) - 96)) + (Int32.toInt64 (iI x1))) - 96)) + (Int32.toInt64 (iI x3))) - 96)) + (Int32.toInt64 (iI x4)))) M rfl dX12_spelt_71 ?_
        refine lv_ldc2 (v := 96) hx hb M.1.2.2.2.1 (M.1.2.2.2.2 _ G1642) dX12_spelt_72 ?_
        refine r_lsub (v := (((27 * (((27 * (((27 * ((Int32.toInt64 (iI x0)) - 96)) + (Int32.toInt64 (iI x1))) - 96)) + (Int32.toInt64 (iI x3))) - 96)) + (Int32.toInt64 (iI x4))) - 96)) M rfl dX12_spelt_75 ?_
        refine lv_lstore (lv' := [(7, .long (((27 * (((27 * (((27 * ((Int32.toInt64 (iI x0)) - 96)) + (Int32.toInt64 (iI x1))) - 96)) + (Int32.toInt64 (iI x3))) - 96)) + (Int32.toInt64 (iI x4))) - 96)), (0, .int (iI x0)), (1, .int (iI x1)), (2, .int (iI x2)), (3, .int (iI x3)), (4, .int (iI x4)), (5, .int (iI x5)), (6, .int (iI x6))]) hx hb dX12_spelt_76 hl (by decide) rfl (fun ls hl => ?_)
        refine lv_iload hx hb dX12_spelt_78 (lv_at hl 6 rfl) ?_
        refine lv_if_le (tgt := 99) hx hb dX12_spelt_80 (by decide) (fun c_14 => ?_) (fun c_14 => ?_)
        · replace c_14 := (iz_le (Int.le_trans (by decide) x5_a) (Int.le_trans x5_b (by decide))).mp c_14
          refine lv_iload hx hb dX12_spelt_99 (lv_at hl 7 rfl) ?_
          refine lv_if_le (tgt := 120) hx hb dX12_spelt_101 (by decide) (fun c_15 => ?_) (fun c_15 => ?_)
          · replace c_15 := (iz_le (Int.le_trans (by decide) x6_a) (Int.le_trans x6_b (by decide))).mp c_15
            refine lv_lload hx hb dX12_spelt_120 (lv_at hl 0 rfl) ?_
            exact ret _ () _ _ _ _ _ [] dX12_spelt_122 trivial w (by decide) rfl
          · replace c_15 : 0 < x6 := Int.not_le.mp (fun h => c_15 ((iz_le (Int.le_trans (by decide) x6_a) (Int.le_trans x6_b (by decide))).mpr h))
            refine lv_ldc2 (v := 27) hx hb M.1.2.2.2.1 (M.1.2.2.2.2 _ G1641) dX12_spelt_104 ?_
            refine lv_lload hx hb dX12_spelt_107 (lv_at hl 0 rfl) ?_
            refine r_lmul (v := (27 * (((27 * (((27 * (((27 * ((Int32.toInt64 (iI x0)) - 96)) + (Int32.toInt64 (iI x1))) - 96)) + (Int32.toInt64 (iI x3))) - 96)) + (Int32.toInt64 (iI x4))) - 96))) M rfl dX12_spelt_109 ?_
            refine lv_iload hx hb dX12_spelt_110 (lv_at hl 7 rfl) ?_
            refine lv_i2l (v := (Int32.toInt64 (iI x6))) hx hb dX12_spelt_112 rfl ?_
            refine r_ladd (v := ((27 * (((27 * (((27 * (((27 * ((Int32.toInt64 (iI x0)) - 96)) + (Int32.toInt64 (iI x1))) - 96)) + (Int32.toInt64 (iI x3))) - 96)) + (Int32.toInt64 (iI x4))) - 96)) + (Int32.toInt64 (iI x6)))) M rfl dX12_spelt_113 ?_
            refine lv_ldc2 (v := 96) hx hb M.1.2.2.2.1 (M.1.2.2.2.2 _ G1642) dX12_spelt_114 ?_
            refine r_lsub (v := (((27 * (((27 * (((27 * (((27 * ((Int32.toInt64 (iI x0)) - 96)) + (Int32.toInt64 (iI x1))) - 96)) + (Int32.toInt64 (iI x3))) - 96)) + (Int32.toInt64 (iI x4))) - 96)) + (Int32.toInt64 (iI x6))) - 96)) M rfl dX12_spelt_117 ?_
            refine lv_lstore (lv' := [(7, .long (((27 * (((27 * (((27 * (((27 * ((Int32.toInt64 (iI x0)) - 96)) + (Int32.toInt64 (iI x1))) - 96)) + (Int32.toInt64 (iI x3))) - 96)) + (Int32.toInt64 (iI x4))) - 96)) + (Int32.toInt64 (iI x6))) - 96)), (0, .int (iI x0)), (1, .int (iI x1)), (2, .int (iI x2)), (3, .int (iI x3)), (4, .int (iI x4)), (5, .int (iI x5)), (6, .int (iI x6))]) hx hb dX12_spelt_118 hl (by decide) rfl (fun ls hl => ?_)
            refine lv_lload hx hb dX12_spelt_120 (lv_at hl 0 rfl) ?_
            exact ret _ () _ _ _ _ _ [] dX12_spelt_122 trivial w (by decide) rfl
        · replace c_14 : 0 < x5 := Int.not_le.mp (fun h => c_14 ((iz_le (Int.le_trans (by decide) x5_a) (Int.le_trans x5_b (by decide))).mpr h))
          refine lv_ldc2 (v := 27) hx hb M.1.2.2.2.1 (M.1.2.2.2.2 _ G1641) dX12_spelt_83 ?_
          refine lv_lload hx hb dX12_spelt_86 (lv_at hl 0 rfl) ?_
          refine r_lmul (v := (27 * (((27 * (((27 * (((27 * ((Int32.toInt64 (iI x0)) - 96)) + (Int32.toInt64 (iI x1))) - 96)) + (Int32.toInt64 (iI x3))) - 96)) + (Int32.toInt64 (iI x4))) - 96))) M rfl dX12_spelt_88 ?_
          refine lv_iload hx hb dX12_spelt_89 (lv_at hl 6 rfl) ?_
          refine lv_i2l (v := (Int32.toInt64 (iI x5))) hx hb dX12_spelt_91 rfl ?_
          refine r_ladd (v := ((27 * (((27 * (((27 * (((27 * ((Int32.toInt64 (iI x0)) - 96)) + (Int32.toInt64 (iI x1))) - 96)) + (Int32.toInt64 (iI x3))) - 96)) + (Int32.toInt64 (iI x4))) - 96)) + (Int32.toInt64 (iI x5)))) M rfl dX12_spelt_92 ?_
          refine lv_ldc2 (v := 96) hx hb M.1.2.2.2.1 (M.1.2.2.2.2 _ G1642) dX12_spelt_93 ?_
          refine r_lsub (v := (((27 * (((27 * (((27 * (((27 * ((Int32.toInt64 (iI x0)) - 96)) + (Int32.toInt64 (iI x1))) - 96)) + (Int32.toInt64 (iI x3))) - 96)) + (Int32.toInt64 (iI x4))) - 96)) + (Int32.toInt64 (iI x5))) - 96)) M rfl dX12_spelt_96 ?_
          refine lv_lstore (lv' := [(7, .long (((27 * (((27 * (((27 * (((27 * ((Int32.toInt64 (iI x0)) - 96)) + (Int32.toInt64 (iI x1))) - 96)) + (Int32.toInt64 (iI x3))) - 96)) + (Int32.toInt64 (iI x4))) - 96)) + (Int32.toInt64 (iI x5))) - 96)), (0, .int (iI x0)), (1, .int (iI x1)), (2, .int (iI x2)), (3, .int (iI x3)), (4, .int (iI x4)), (5, .int (iI x5)), (6, .int (iI x6))]) hx hb dX12_spelt_97 hl (by decide) rfl (fun ls hl => ?_)
          refine lv_iload hx hb dX12_spelt_99 (lv_at hl 7 rfl) ?_
          refine lv_if_le (tgt := 120) hx hb dX12_spelt_101 (by decide) (fun c_16 => ?_) (fun c_16 => ?_)
          · replace c_16 := (iz_le (Int.le_trans (by decide) x6_a) (Int.le_trans x6_b (by decide))).mp c_16
            refine lv_lload hx hb dX12_spelt_120 (lv_at hl 0 rfl) ?_
            exact ret _ () _ _ _ _ _ [] dX12_spelt_122 trivial w (by decide) rfl
          · replace c_16 : 0 < x6 := Int.not_le.mp (fun h => c_16 ((iz_le (Int.le_trans (by decide) x6_a) (Int.le_trans x6_b (by decide))).mpr h))
            refine lv_ldc2 (v := 27) hx hb M.1.2.2.2.1 (M.1.2.2.2.2 _ G1641) dX12_spelt_104 ?_
            refine lv_lload hx hb dX12_spelt_107 (lv_at hl 0 rfl) ?_
            refine r_lmul (v := (27 * (((27 * (((27 * (((27 * (((27 * ((Int32.toInt64 (iI x0)) - 96)) + (Int32.toInt64 (iI x1))) - 96)) + (Int32.toInt64 (iI x3))) - 96)) + (Int32.toInt64 (iI x4))) - 96)) + (Int32.toInt64 (iI x5))) - 96))) M rfl dX12_spelt_109 ?_
            refine lv_iload hx hb dX12_spelt_110 (lv_at hl 7 rfl) ?_
            refine lv_i2l (v := (Int32.toInt64 (iI x6))) hx hb dX12_spelt_112 rfl ?_
            refine r_ladd (v := ((27 * (((27 * (((27 * (((27 * (((27 * ((Int32.toInt64 (iI x0)) - 96)) + (Int32.toInt64 (iI x1))) - 96)) + (Int32.toInt64 (iI x3))) - 96)) + (Int32.toInt64 (iI x4))) - 96)) + (Int32.toInt64 (iI x5))) - 96)) + (Int32.toInt64 (iI x6)))) M rfl dX12_spelt_113 ?_
            refine lv_ldc2 (v := 96) hx hb M.1.2.2.2.1 (M.1.2.2.2.2 _ G1642) dX12_spelt_114 ?_
            refine r_lsub (v := (((27 * (((27 * (((27 * (((27 * (((27 * ((Int32.toInt64 (iI x0)) - 96)) + (Int32.toInt64 (iI x1))) - 96)) + (Int32.toInt64 (iI x3))) - 96)) + (Int32.toInt64 (iI x4))) - 96)) + (Int32.toInt64 (iI x5))) - 96)) + (Int32.toInt64 (iI x6))) - 96)) M rfl dX12_spelt_117 ?_
            refine lv_lstore (lv' := [(7, .long (((27 * (((27 * (((27 * (((27 * (((27 * ((Int32.toInt64 (iI x0)) - 96)) + (Int32.toInt64 (iI x1))) - 96)) + (Int32.toInt64 (iI x3))) - 96)) + (Int32.toInt64 (iI x4))) - 96)) + (Int32.toInt64 (iI x5))) - 96)) + (Int32.toInt64 (iI x6))) - 96)), (0, .int (iI x0)), (1, .int (iI x1)), (2, .int (iI x2)), (3, .int (iI x3)), (4, .int (iI x4)), (5, .int (iI x5)), (6, .int (iI x6))]) hx hb dX12_spelt_118 hl (by decide) rfl (fun ls hl => ?_)
            refine lv_lload hx hb dX12_spelt_120 (lv_at hl 0 rfl) ?_
            exact ret _ () _ _ _ _ _ [] dX12_spelt_122 trivial w (by decide) rfl
  · replace c_1 : 0 < x2 := Int.not_le.mp (fun h => c_1 ((iz_le (Int.le_trans (by decide) x2_a) (Int.le_trans x2_b (by decide))).mpr h))
    refine lv_ldc2 (v := 27) hx hb M.1.2.2.2.1 (M.1.2.2.2.2 _ G1641) dX12_spelt_23 ?_
    refine lv_lload hx hb dX12_spelt_26 (lv_at hl 0 rfl) ?_
    refine r_lmul (v := (27 * (((27 * ((Int32.toInt64 (iI x0)) - 96)) + (Int32.toInt64 (iI x1))) - 96))) M rfl dX12_spelt_28 ?_
    refine lv_iload_n hx hb dX12_spelt_29 rfl (lv_at hl 3 rfl) ?_
    refine lv_i2l (v := (Int32.toInt64 (iI x2))) hx hb dX12_spelt_30 rfl ?_
    refine r_ladd (v := ((27 * (((27 * ((Int32.toInt64 (iI x0)) - 96)) + (Int32.toInt64 (iI x1))) - 96)) + (Int32.toInt64 (iI x2)))) M rfl dX12_spelt_31 ?_
    refine lv_ldc2 (v := 96) hx hb M.1.2.2.2.1 (M.1.2.2.2.2 _ G1642) dX12_spelt_32 ?_
    refine r_lsub (v := (((27 * (((27 * ((Int32.toInt64 (iI x0)) - 96)) + (Int32.toInt64 (iI x1))) - 96)) + (Int32.toInt64 (iI x2))) - 96)) M rfl dX12_spelt_35 ?_
    refine lv_lstore (lv' := [(7, .long (((27 * (((27 * ((Int32.toInt64 (iI x0)) - 96)) + (Int32.toInt64 (iI x1))) - 96)) + (Int32.toInt64 (iI x2))) - 96)), (0, .int (iI x0)), (1, .int (iI x1)), (2, .int (iI x2)), (3, .int (iI x3)), (4, .int (iI x4)), (5, .int (iI x5)), (6, .int (iI x6))]) hx hb dX12_spelt_36 hl (by decide) rfl (fun ls hl => ?_)
    refine lv_iload_n hx hb dX12_spelt_38 rfl (lv_at hl 4 rfl) ?_
    refine lv_if_le (tgt := 57) hx hb dX12_spelt_39 (by decide) (fun c_17 => ?_) (fun c_17 => ?_)
    · replace c_17 := (iz_le (Int.le_trans (by decide) x3_a) (Int.le_trans x3_b (by decide))).mp c_17
      refine lv_iload hx hb dX12_spelt_57 (lv_at hl 5 rfl) ?_
      refine lv_if_le (tgt := 78) hx hb dX12_spelt_59 (by decide) (fun c_18 => ?_) (fun c_18 => ?_)
      · replace c_18 := (iz_le (Int.le_trans (by decide) x4_a) (Int.le_trans x4_b (by decide))).mp c_18
        refine lv_iload hx hb dX12_spelt_78 (lv_at hl 6 rfl) ?_
        refine lv_if_le (tgt := 99) hx hb dX12_spelt_80 (by decide) (fun c_19 => ?_) (fun c_19 => ?_)
        · replace c_19 := (iz_le (Int.le_trans (by decide) x5_a) (Int.le_trans x5_b (by decide))).mp c_19
          refine lv_iload hx hb dX12_spelt_99 (lv_at hl 7 rfl) ?_
          refine lv_if_le (tgt := 120) hx hb dX12_spelt_101 (by decide) (fun c_20 => ?_) (fun c_20 => ?_)
          · replace c_20 := (iz_le (Int.le_trans (by decide) x6_a) (Int.le_trans x6_b (by decide))).mp c_20
            refine lv_lload hx hb dX12_spelt_120 (lv_at hl 0 rfl) ?_
            exact ret _ () _ _ _ _ _ [] dX12_spelt_122 trivial w (by decide) rfl
          · replace c_20 : 0 < x6 := Int.not_le.mp (fun h => c_20 ((iz_le (Int.le_trans (by decide) x6_a) (Int.le_trans x6_b (by decide))).mpr h))
            refine lv_ldc2 (v := 27) hx hb M.1.2.2.2.1 (M.1.2.2.2.2 _ G1641) dX12_spelt_104 ?_
            refine lv_lload hx hb dX12_spelt_107 (lv_at hl 0 rfl) ?_
            refine r_lmul (v := (27 * (((27 * (((27 * ((Int32.toInt64 (iI x0)) - 96)) + (Int32.toInt64 (iI x1))) - 96)) + (Int32.toInt64 (iI x2))) - 96))) M rfl dX12_spelt_109 ?_
            refine lv_iload hx hb dX12_spelt_110 (lv_at hl 7 rfl) ?_
            refine lv_i2l (v := (Int32.toInt64 (iI x6))) hx hb dX12_spelt_112 rfl ?_
            refine r_ladd (v := ((27 * (((27 * (((27 * ((Int32.toInt64 (iI x0)) - 96)) + (Int32.toInt64 (iI x1))) - 96)) + (Int32.toInt64 (iI x2))) - 96)) + (Int32.toInt64 (iI x6)))) M rfl dX12_spelt_113 ?_
            refine lv_ldc2 (v := 96) hx hb M.1.2.2.2.1 (M.1.2.2.2.2 _ G1642) dX12_spelt_114 ?_
            refine r_lsub (v := (((27 * (((27 * (((27 * ((Int32.toInt64 (iI x0)) - 96)) + (Int32.toInt64 (iI x1))) - 96)) + (Int32.toInt64 (iI x2))) - 96)) + (Int32.toInt64 (iI x6))) - 96)) M rfl dX12_spelt_117 ?_
            refine lv_lstore (lv' := [(7, .long (((27 * (((27 * (((27 * ((Int32.toInt64 (iI x0)) - 96)) + (Int32.toInt64 (iI x1))) - 96)) + (Int32.toInt64 (iI x2))) - 96)) + (Int32.toInt64 (iI x6))) - 96)), (0, .int (iI x0)), (1, .int (iI x1)), (2, .int (iI x2)), (3, .int (iI x3)), (4, .int (iI x4)), (5, .int (iI x5)), (6, .int (iI x6))]) hx hb dX12_spelt_118 hl (by decide) rfl (fun ls hl => ?_)
            refine lv_lload hx hb dX12_spelt_120 (lv_at hl 0 rfl) ?_
            exact ret _ () _ _ _ _ _ [] dX12_spelt_122 trivial w (by decide) rfl
        · replace c_19 : 0 < x5 := Int.not_le.mp (fun h => c_19 ((iz_le (Int.le_trans (by decide) x5_a) (Int.le_trans x5_b (by decide))).mpr h))
          refine lv_ldc2 (v := 27) hx hb M.1.2.2.2.1 (M.1.2.2.2.2 _ G1641) dX12_spelt_83 ?_
          refine lv_lload hx hb dX12_spelt_86 (lv_at hl 0 rfl) ?_
          refine r_lmul (v := (27 * (((27 * (((27 * ((Int32.toInt64 (iI x0)) - 96)) + (Int32.toInt64 (iI x1))) - 96)) + (Int32.toInt64 (iI x2))) - 96))) M rfl dX12_spelt_88 ?_
          refine lv_iload hx hb dX12_spelt_89 (lv_at hl 6 rfl) ?_
          refine lv_i2l (v := (Int32.toInt64 (iI x5))) hx hb dX12_spelt_91 rfl ?_
          refine r_ladd (v := ((27 * (((27 * (((27 * ((Int32.toInt64 (iI x0)) - 96)) + (Int32.toInt64 (iI x1))) - 96)) + (Int32.toInt64 (iI x2))) - 96)) + (Int32.toInt64 (iI x5)))) M rfl dX12_spelt_92 ?_
          refine lv_ldc2 (v := 96) hx hb M.1.2.2.2.1 (M.1.2.2.2.2 _ G1642) dX12_spelt_93 ?_
          refine r_lsub (v := (((27 * (((27 * (((27 * ((Int32.toInt64 (iI x0)) - 96)) + (Int32.toInt64 (iI x1))) - 96)) + (Int32.toInt64 (iI x2))) - 96)) + (Int32.toInt64 (iI x5))) - 96)) M rfl dX12_spelt_96 ?_
          refine lv_lstore (lv' := [(7, .long (((27 * (((27 * (((27 * ((Int32.toInt64 (iI x0)) - 96)) + (Int32.toInt64 (iI x1))) - 96)) + (Int32.toInt64 (iI x2))) - 96)) + (Int32.toInt64 (iI x5))) - 96)), (0, .int (iI x0)), (1, .int (iI x1)), (2, .int (iI x2)), (3, .int (iI x3)), (4, .int (iI x4)), (5, .int (iI x5)), (6, .int (iI x6))]) hx hb dX12_spelt_97 hl (by decide) rfl (fun ls hl => ?_)
          refine lv_iload hx hb dX12_spelt_99 (lv_at hl 7 rfl) ?_
          refine lv_if_le (tgt := 120) hx hb dX12_spelt_101 (by decide) (fun c_21 => ?_) (fun c_21 => ?_)
          · replace c_21 := (iz_le (Int.le_trans (by decide) x6_a) (Int.le_trans x6_b (by decide))).mp c_21
            refine lv_lload hx hb dX12_spelt_120 (lv_at hl 0 rfl) ?_
            exact ret _ () _ _ _ _ _ [] dX12_spelt_122 trivial w (by decide) rfl
          · replace c_21 : 0 < x6 := Int.not_le.mp (fun h => c_21 ((iz_le (Int.le_trans (by decide) x6_a) (Int.le_trans x6_b (by decide))).mpr h))
            refine lv_ldc2 (v := 27) hx hb M.1.2.2.2.1 (M.1.2.2.2.2 _ G1641) dX12_spelt_104 ?_
            refine lv_lload hx hb dX12_spelt_107 (lv_at hl 0 rfl) ?_
            refine r_lmul (v := (27 * (((27 * (((27 * (((27 * ((Int32.toInt64 (iI x0)) - 96)) + (Int32.toInt64 (iI x1))) - 96)) + (Int32.toInt64 (iI x2))) - 96)) + (Int32.toInt64 (iI x5))) - 96))) M rfl dX12_spelt_109 ?_
            refine lv_iload hx hb dX12_spelt_110 (lv_at hl 7 rfl) ?_
            refine lv_i2l (v := (Int32.toInt64 (iI x6))) hx hb dX12_spelt_112 rfl ?_
            refine r_ladd (v := ((27 * (((27 * (((27 * (((27 * ((Int32.toInt64 (iI x0)) - 96)) + (Int32.toInt64 (iI x1))) - 96)) + (Int32.toInt64 (iI x2))) - 96)) + (Int32.toInt64 (iI x5))) - 96)) + (Int32.toInt64 (iI x6)))) M rfl dX12_spelt_113 ?_
            refine lv_ldc2 (v := 96) hx hb M.1.2.2.2.1 (M.1.2.2.2.2 _ G1642) dX12_spelt_114 ?_
            refine r_lsub (v := (((27 * (((27 * (((27 * (((27 * ((Int32.toInt64 (iI x0)) - 96)) + (Int32.toInt64 (iI x1))) - 96)) + (Int32.toInt64 (iI x2))) - 96)) + (Int32.toInt64 (iI x5))) - 96)) + (Int32.toInt64 (iI x6))) - 96)) M rfl dX12_spelt_117 ?_
            refine lv_lstore (lv' := [(7, .long (((27 * (((27 * (((27 * (((27 * ((Int32.toInt64 (iI x0)) - 96)) + (Int32.toInt64 (iI x1))) - 96)) + (Int32.toInt64 (iI x2))) - 96)) + (Int32.toInt64 (iI x5))) - 96)) + (Int32.toInt64 (iI x6))) - 96)), (0, .int (iI x0)), (1, .int (iI x1)), (2, .int (iI x2)), (3, .int (iI x3)), (4, .int (iI x4)), (5, .int (iI x5)), (6, .int (iI x6))]) hx hb dX12_spelt_118 hl (by decide) rfl (fun ls hl => ?_)
            refine lv_lload hx hb dX12_spelt_120 (lv_at hl 0 rfl) ?_
            exact ret _ () _ _ _ _ _ [] dX12_spelt_122 trivial w (by decide) rfl
      · replace c_18 : 0 < x4 := Int.not_le.mp (fun h => c_18 ((iz_le (Int.le_trans (by decide) x4_a) (Int.le_trans x4_b (by decide))).mpr h))
        refine lv_ldc2 (v := 27) hx hb M.1.2.2.2.1 (M.1.2.2.2.2 _ G1641) dX12_spelt_62 ?_
        refine lv_lload hx hb dX12_spelt_65 (lv_at hl 0 rfl) ?_
        refine r_lmul (v := (27 * (((27 * (((27 * ((Int32.toInt64 (iI x0)) - 96)) + (Int32.toInt64 (iI x1))) - 96)) + (Int32.toInt64 (iI x2))) - 96))) M rfl dX12_spelt_67 ?_
        refine lv_iload hx hb dX12_spelt_68 (lv_at hl 5 rfl) ?_
        refine lv_i2l (v := (Int32.toInt64 (iI x4))) hx hb dX12_spelt_70 rfl ?_
        refine r_ladd (v := ((27 * (((27 * (((27 * ((Int32.toInt64 (iI x0)) - 96)) + (Int32.toInt64 (iI x1))) - 96)) + (Int32.toInt64 (iI x2))) - 96)) + (Int32.toInt64 (iI x4)))) M rfl dX12_spelt_71 ?_
        refine lv_ldc2 (v := 96) hx hb M.1.2.2.2.1 (M.1.2.2.2.2 _ G1642) dX12_spelt_72 ?_
        refine r_lsub (v := (((27 * (((27 * (((27 * ((Int32.toInt64 (iI x0)) - 96)) + (Int32.toInt64 (iI x1))) - 96)) + (Int32.toInt64 (iI x2))) - 96)) + (Int32.toInt64 (iI x4))) - 96)) M rfl dX12_spelt_75 ?_
        refine lv_lstore (lv' := [(7, .long (((27 * (((27 * (((27 * ((Int32.toInt64 (iI x0)) - 96)) + (Int32.toInt64 (iI x1))) - 96)) + (Int32.toInt64 (iI x2))) - 96)) + (Int32.toInt64 (iI x4))) - 96)), (0, .int (iI x0)), (1, .int (iI x1)), (2, .int (iI x2)), (3, .int (iI x3)), (4, .int (iI x4)), (5, .int (iI x5)), (6, .int (iI x6))]) hx hb dX12_spelt_76 hl (by decide) rfl (fun ls hl => ?_)
        refine lv_iload hx hb dX12_spelt_78 (lv_at hl 6 rfl) ?_
        refine lv_if_le (tgt := 99) hx hb dX12_spelt_80 (by decide) (fun c_22 => ?_) (fun c_22 => ?_)
        · replace c_22 := (iz_le (Int.le_trans (by decide) x5_a) (Int.le_trans x5_b (by decide))).mp c_22
          refine lv_iload hx hb dX12_spelt_99 (lv_at hl 7 rfl) ?_
          refine lv_if_le (tgt := 120) hx hb dX12_spelt_101 (by decide) (fun c_23 => ?_) (fun c_23 => ?_)
          · replace c_23 := (iz_le (Int.le_trans (by decide) x6_a) (Int.le_trans x6_b (by decide))).mp c_23
            refine lv_lload hx hb dX12_spelt_120 (lv_at hl 0 rfl) ?_
            exact ret _ () _ _ _ _ _ [] dX12_spelt_122 trivial w (by decide) rfl
          · replace c_23 : 0 < x6 := Int.not_le.mp (fun h => c_23 ((iz_le (Int.le_trans (by decide) x6_a) (Int.le_trans x6_b (by decide))).mpr h))
            refine lv_ldc2 (v := 27) hx hb M.1.2.2.2.1 (M.1.2.2.2.2 _ G1641) dX12_spelt_104 ?_
            refine lv_lload hx hb dX12_spelt_107 (lv_at hl 0 rfl) ?_
            refine r_lmul (v := (27 * (((27 * (((27 * (((27 * ((Int32.toInt64 (iI x0)) - 96)) + (Int32.toInt64 (iI x1))) - 96)) + (Int32.toInt64 (iI x2))) - 96)) + (Int32.toInt64 (iI x4))) - 96))) M rfl dX12_spelt_109 ?_
            refine lv_iload hx hb dX12_spelt_110 (lv_at hl 7 rfl) ?_
            refine lv_i2l (v := (Int32.toInt64 (iI x6))) hx hb dX12_spelt_112 rfl ?_
            refine r_ladd (v := ((27 * (((27 * (((27 * (((27 * ((Int32.toInt64 (iI x0)) - 96)) + (Int32.toInt64 (iI x1))) - 96)) + (Int32.toInt64 (iI x2))) - 96)) + (Int32.toInt64 (iI x4))) - 96)) + (Int32.toInt64 (iI x6)))) M rfl dX12_spelt_113 ?_
            refine lv_ldc2 (v := 96) hx hb M.1.2.2.2.1 (M.1.2.2.2.2 _ G1642) dX12_spelt_114 ?_
            refine r_lsub (v := (((27 * (((27 * (((27 * (((27 * ((Int32.toInt64 (iI x0)) - 96)) + (Int32.toInt64 (iI x1))) - 96)) + (Int32.toInt64 (iI x2))) - 96)) + (Int32.toInt64 (iI x4))) - 96)) + (Int32.toInt64 (iI x6))) - 96)) M rfl dX12_spelt_117 ?_
            refine lv_lstore (lv' := [(7, .long (((27 * (((27 * (((27 * (((27 * ((Int32.toInt64 (iI x0)) - 96)) + (Int32.toInt64 (iI x1))) - 96)) + (Int32.toInt64 (iI x2))) - 96)) + (Int32.toInt64 (iI x4))) - 96)) + (Int32.toInt64 (iI x6))) - 96)), (0, .int (iI x0)), (1, .int (iI x1)), (2, .int (iI x2)), (3, .int (iI x3)), (4, .int (iI x4)), (5, .int (iI x5)), (6, .int (iI x6))]) hx hb dX12_spelt_118 hl (by decide) rfl (fun ls hl => ?_)
            refine lv_lload hx hb dX12_spelt_120 (lv_at hl 0 rfl) ?_
            exact ret _ () _ _ _ _ _ [] dX12_spelt_122 trivial w (by decide) rfl
        · replace c_22 : 0 < x5 := Int.not_le.mp (fun h => c_22 ((iz_le (Int.le_trans (by decide) x5_a) (Int.le_trans x5_b (by decide))).mpr h))
          refine lv_ldc2 (v := 27) hx hb M.1.2.2.2.1 (M.1.2.2.2.2 _ G1641) dX12_spelt_83 ?_
          refine lv_lload hx hb dX12_spelt_86 (lv_at hl 0 rfl) ?_
          refine r_lmul (v := (27 * (((27 * (((27 * (((27 * ((Int32.toInt64 (iI x0)) - 96)) + (Int32.toInt64 (iI x1))) - 96)) + (Int32.toInt64 (iI x2))) - 96)) + (Int32.toInt64 (iI x4))) - 96))) M rfl dX12_spelt_88 ?_
          refine lv_iload hx hb dX12_spelt_89 (lv_at hl 6 rfl) ?_
          refine lv_i2l (v := (Int32.toInt64 (iI x5))) hx hb dX12_spelt_91 rfl ?_
          refine r_ladd (v := ((27 * (((27 * (((27 * (((27 * ((Int32.toInt64 (iI x0)) - 96)) + (Int32.toInt64 (iI x1))) - 96)) + (Int32.toInt64 (iI x2))) - 96)) + (Int32.toInt64 (iI x4))) - 96)) + (Int32.toInt64 (iI x5)))) M rfl dX12_spelt_92 ?_
          refine lv_ldc2 (v := 96) hx hb M.1.2.2.2.1 (M.1.2.2.2.2 _ G1642) dX12_spelt_93 ?_
          refine r_lsub (v := (((27 * (((27 * (((27 * (((27 * ((Int32.toInt64 (iI x0)) - 96)) + (Int32.toInt64 (iI x1))) - 96)) + (Int32.toInt64 (iI x2))) - 96)) + (Int32.toInt64 (iI x4))) - 96)) + (Int32.toInt64 (iI x5))) - 96)) M rfl dX12_spelt_96 ?_
          refine lv_lstore (lv' := [(7, .long (((27 * (((27 * (((27 * (((27 * ((Int32.toInt64 (iI x0)) - 96)) + (Int32.toInt64 (iI x1))) - 96)) + (Int32.toInt64 (iI x2))) - 96)) + (Int32.toInt64 (iI x4))) - 96)) + (Int32.toInt64 (iI x5))) - 96)), (0, .int (iI x0)), (1, .int (iI x1)), (2, .int (iI x2)), (3, .int (iI x3)), (4, .int (iI x4)), (5, .int (iI x5)), (6, .int (iI x6))]) hx hb dX12_spelt_97 hl (by decide) rfl (fun ls hl => ?_)
          refine lv_iload hx hb dX12_spelt_99 (lv_at hl 7 rfl) ?_
          refine lv_if_le (tgt := 120) hx hb dX12_spelt_101 (by decide) (fun c_24 => ?_) (fun c_24 => ?_)
          · replace c_24 := (iz_le (Int.le_trans (by decide) x6_a) (Int.le_trans x6_b (by decide))).mp c_24
            refine lv_lload hx hb dX12_spelt_120 (lv_at hl 0 rfl) ?_
            exact ret _ () _ _ _ _ _ [] dX12_spelt_122 trivial w (by decide) rfl
          · replace c_24 : 0 < x6 := Int.not_le.mp (fun h => c_24 ((iz_le (Int.le_trans (by decide) x6_a) (Int.le_trans x6_b (by decide))).mpr h))
            refine lv_ldc2 (v := 27) hx hb M.1.2.2.2.1 (M.1.2.2.2.2 _ G1641) dX12_spelt_104 ?_
            refine lv_lload hx hb dX12_spelt_107 (lv_at hl 0 rfl) ?_
            refine r_lmul (v := (27 * (((27 * (((27 * (((27 * (((27 * ((Int32.toInt64 (iI x0)) - 96)) + (Int32.toInt64 (iI x1))) - 96)) + (Int32.toInt64 (iI x2))) - 96)) + (Int32.toInt64 (iI x4))) - 96)) + (Int32.toInt64 (iI x5))) - 96))) M rfl dX12_spelt_109 ?_
            refine lv_iload hx hb dX12_spelt_110 (lv_at hl 7 rfl) ?_
            refine lv_i2l (v := (Int32.toInt64 (iI x6))) hx hb dX12_spelt_112 rfl ?_
            refine r_ladd (v := ((27 * (((27 * (((27 * (((27 * (((27 * ((Int32.toInt64 (iI x0)) - 96)) + (Int32.toInt64 (iI x1))) - 96)) + (Int32.toInt64 (iI x2))) - 96)) + (Int32.toInt64 (iI x4))) - 96)) + (Int32.toInt64 (iI x5))) - 96)) + (Int32.toInt64 (iI x6)))) M rfl dX12_spelt_113 ?_
            refine lv_ldc2 (v := 96) hx hb M.1.2.2.2.1 (M.1.2.2.2.2 _ G1642) dX12_spelt_114 ?_
            refine r_lsub (v := (((27 * (((27 * (((27 * (((27 * (((27 * ((Int32.toInt64 (iI x0)) - 96)) + (Int32.toInt64 (iI x1))) - 96)) + (Int32.toInt64 (iI x2))) - 96)) + (Int32.toInt64 (iI x4))) - 96)) + (Int32.toInt64 (iI x5))) - 96)) + (Int32.toInt64 (iI x6))) - 96)) M rfl dX12_spelt_117 ?_
            refine lv_lstore (lv' := [(7, .long (((27 * (((27 * (((27 * (((27 * (((27 * ((Int32.toInt64 (iI x0)) - 96)) + (Int32.toInt64 (iI x1))) - 96)) + (Int32.toInt64 (iI x2))) - 96)) + (Int32.toInt64 (iI x4))) - 96)) + (Int32.toInt64 (iI x5))) - 96)) + (Int32.toInt64 (iI x6))) - 96)), (0, .int (iI x0)), (1, .int (iI x1)), (2, .int (iI x2)), (3, .int (iI x3)), (4, .int (iI x4)), (5, .int (iI x5)), (6, .int (iI x6))]) hx hb dX12_spelt_118 hl (by decide) rfl (fun ls hl => ?_)
            refine lv_lload hx hb dX12_spelt_120 (lv_at hl 0 rfl) ?_
            exact ret _ () _ _ _ _ _ [] dX12_spelt_122 trivial w (by decide) rfl
    · replace c_17 : 0 < x3 := Int.not_le.mp (fun h => c_17 ((iz_le (Int.le_trans (by decide) x3_a) (Int.le_trans x3_b (by decide))).mpr h))
      refine lv_ldc2 (v := 27) hx hb M.1.2.2.2.1 (M.1.2.2.2.2 _ G1641) dX12_spelt_42 ?_
      refine lv_lload hx hb dX12_spelt_45 (lv_at hl 0 rfl) ?_
      refine r_lmul (v := (27 * (((27 * (((27 * ((Int32.toInt64 (iI x0)) - 96)) + (Int32.toInt64 (iI x1))) - 96)) + (Int32.toInt64 (iI x2))) - 96))) M rfl dX12_spelt_47 ?_
      refine lv_iload_n hx hb dX12_spelt_48 rfl (lv_at hl 4 rfl) ?_
      refine lv_i2l (v := (Int32.toInt64 (iI x3))) hx hb dX12_spelt_49 rfl ?_
      refine r_ladd (v := ((27 * (((27 * (((27 * ((Int32.toInt64 (iI x0)) - 96)) + (Int32.toInt64 (iI x1))) - 96)) + (Int32.toInt64 (iI x2))) - 96)) + (Int32.toInt64 (iI x3)))) M rfl dX12_spelt_50 ?_
      refine lv_ldc2 (v := 96) hx hb M.1.2.2.2.1 (M.1.2.2.2.2 _ G1642) dX12_spelt_51 ?_
      refine r_lsub (v := (((27 * (((27 * (((27 * ((Int32.toInt64 (iI x0)) - 96)) + (Int32.toInt64 (iI x1))) - 96)) + (Int32.toInt64 (iI x2))) - 96)) + (Int32.toInt64 (iI x3))) - 96)) M rfl dX12_spelt_54 ?_
      refine lv_lstore (lv' := [(7, .long (((27 * (((27 * (((27 * ((Int32.toInt64 (iI x0)) - 96)) + (Int32.toInt64 (iI x1))) - 96)) + (Int32.toInt64 (iI x2))) - 96)) + (Int32.toInt64 (iI x3))) - 96)), (0, .int (iI x0)), (1, .int (iI x1)), (2, .int (iI x2)), (3, .int (iI x3)), (4, .int (iI x4)), (5, .int (iI x5)), (6, .int (iI x6))]) hx hb dX12_spelt_55 hl (by decide) rfl (fun ls hl => ?_)
      refine lv_iload hx hb dX12_spelt_57 (lv_at hl 5 rfl) ?_
      refine lv_if_le (tgt := 78) hx hb dX12_spelt_59 (by decide) (fun c_25 => ?_) (fun c_25 => ?_)
      · replace c_25 := (iz_le (Int.le_trans (by decide) x4_a) (Int.le_trans x4_b (by decide))).mp c_25
        refine lv_iload hx hb dX12_spelt_78 (lv_at hl 6 rfl) ?_
        refine lv_if_le (tgt := 99) hx hb dX12_spelt_80 (by decide) (fun c_26 => ?_) (fun c_26 => ?_)
        · replace c_26 := (iz_le (Int.le_trans (by decide) x5_a) (Int.le_trans x5_b (by decide))).mp c_26
          refine lv_iload hx hb dX12_spelt_99 (lv_at hl 7 rfl) ?_
          refine lv_if_le (tgt := 120) hx hb dX12_spelt_101 (by decide) (fun c_27 => ?_) (fun c_27 => ?_)
          · replace c_27 := (iz_le (Int.le_trans (by decide) x6_a) (Int.le_trans x6_b (by decide))).mp c_27
            refine lv_lload hx hb dX12_spelt_120 (lv_at hl 0 rfl) ?_
            exact ret _ () _ _ _ _ _ [] dX12_spelt_122 trivial w (by decide) rfl
          · replace c_27 : 0 < x6 := Int.not_le.mp (fun h => c_27 ((iz_le (Int.le_trans (by decide) x6_a) (Int.le_trans x6_b (by decide))).mpr h))
            refine lv_ldc2 (v := 27) hx hb M.1.2.2.2.1 (M.1.2.2.2.2 _ G1641) dX12_spelt_104 ?_
            refine lv_lload hx hb dX12_spelt_107 (lv_at hl 0 rfl) ?_
            refine r_lmul (v := (27 * (((27 * (((27 * (((27 * ((Int32.toInt64 (iI x0)) - 96)) + (Int32.toInt64 (iI x1))) - 96)) + (Int32.toInt64 (iI x2))) - 96)) + (Int32.toInt64 (iI x3))) - 96))) M rfl dX12_spelt_109 ?_
            refine lv_iload hx hb dX12_spelt_110 (lv_at hl 7 rfl) ?_
            refine lv_i2l (v := (Int32.toInt64 (iI x6))) hx hb dX12_spelt_112 rfl ?_
            refine r_ladd (v := ((27 * (((27 * (((27 * (((27 * ((Int32.toInt64 (iI x0)) - 96)) + (Int32.toInt64 (iI x1))) - 96)) + (Int32.toInt64 (iI x2))) - 96)) + (Int32.toInt64 (iI x3))) - 96)) + (Int32.toInt64 (iI x6)))) M rfl dX12_spelt_113 ?_
            refine lv_ldc2 (v := 96) hx hb M.1.2.2.2.1 (M.1.2.2.2.2 _ G1642) dX12_spelt_114 ?_
            refine r_lsub (v := (((27 * (((27 * (((27 * (((27 * ((Int32.toInt64 (iI x0)) - 96)) + (Int32.toInt64 (iI x1))) - 96)) + (Int32.toInt64 (iI x2))) - 96)) + (Int32.toInt64 (iI x3))) - 96)) + (Int32.toInt64 (iI x6))) - 96)) M rfl dX12_spelt_117 ?_
            refine lv_lstore (lv' := [(7, .long (((27 * (((27 * (((27 * (((27 * ((Int32.toInt64 (iI x0)) - 96)) + (Int32.toInt64 (iI x1))) - 96)) + (Int32.toInt64 (iI x2))) - 96)) + (Int32.toInt64 (iI x3))) - 96)) + (Int32.toInt64 (iI x6))) - 96)), (0, .int (iI x0)), (1, .int (iI x1)), (2, .int (iI x2)), (3, .int (iI x3)), (4, .int (iI x4)), (5, .int (iI x5)), (6, .int (iI x6))]) hx hb dX12_spelt_118 hl (by decide) rfl (fun ls hl => ?_)
            refine lv_lload hx hb dX12_spelt_120 (lv_at hl 0 rfl) ?_
            exact ret _ () _ _ _ _ _ [] dX12_spelt_122 trivial w (by decide) rfl
        · replace c_26 : 0 < x5 := Int.not_le.mp (fun h => c_26 ((iz_le (Int.le_trans (by decide) x5_a) (Int.le_trans x5_b (by decide))).mpr h))
          refine lv_ldc2 (v := 27) hx hb M.1.2.2.2.1 (M.1.2.2.2.2 _ G1641) dX12_spelt_83 ?_
          refine lv_lload hx hb dX12_spelt_86 (lv_at hl 0 rfl) ?_
          refine r_lmul (v := (27 * (((27 * (((27 * (((27 * ((Int32.toInt64 (iI x0)) - 96)) + (Int32.toInt64 (iI x1))) - 96)) + (Int32.toInt64 (iI x2))) - 96)) + (Int32.toInt64 (iI x3))) - 96))) M rfl dX12_spelt_88 ?_
          refine lv_iload hx hb dX12_spelt_89 (lv_at hl 6 rfl) ?_
          refine lv_i2l (v := (Int32.toInt64 (iI x5))) hx hb dX12_spelt_91 rfl ?_
          refine r_ladd (v := ((27 * (((27 * (((27 * (((27 * ((Int32.toInt64 (iI x0)) - 96)) + (Int32.toInt64 (iI x1))) - 96)) + (Int32.toInt64 (iI x2))) - 96)) + (Int32.toInt64 (iI x3))) - 96)) + (Int32.toInt64 (iI x5)))) M rfl dX12_spelt_92 ?_
          refine lv_ldc2 (v := 96) hx hb M.1.2.2.2.1 (M.1.2.2.2.2 _ G1642) dX12_spelt_93 ?_
          refine r_lsub (v := (((27 * (((27 * (((27 * (((27 * ((Int32.toInt64 (iI x0)) - 96)) + (Int32.toInt64 (iI x1))) - 96)) + (Int32.toInt64 (iI x2))) - 96)) + (Int32.toInt64 (iI x3))) - 96)) + (Int32.toInt64 (iI x5))) - 96)) M rfl dX12_spelt_96 ?_
          refine lv_lstore (lv' := [(7, .long (((27 * (((27 * (((27 * (((27 * ((Int32.toInt64 (iI x0)) - 96)) + (Int32.toInt64 (iI x1))) - 96)) + (Int32.toInt64 (iI x2))) - 96)) + (Int32.toInt64 (iI x3))) - 96)) + (Int32.toInt64 (iI x5))) - 96)), (0, .int (iI x0)), (1, .int (iI x1)), (2, .int (iI x2)), (3, .int (iI x3)), (4, .int (iI x4)), (5, .int (iI x5)), (6, .int (iI x6))]) hx hb dX12_spelt_97 hl (by decide) rfl (fun ls hl => ?_)
          refine lv_iload hx hb dX12_spelt_99 (lv_at hl 7 rfl) ?_
          refine lv_if_le (tgt := 120) hx hb dX12_spelt_101 (by decide) (fun c_28 => ?_) (fun c_28 => ?_)
          · replace c_28 := (iz_le (Int.le_trans (by decide) x6_a) (Int.le_trans x6_b (by decide))).mp c_28
            refine lv_lload hx hb dX12_spelt_120 (lv_at hl 0 rfl) ?_
            exact ret _ () _ _ _ _ _ [] dX12_spelt_122 trivial w (by decide) rfl
          · replace c_28 : 0 < x6 := Int.not_le.mp (fun h => c_28 ((iz_le (Int.le_trans (by decide) x6_a) (Int.le_trans x6_b (by decide))).mpr h))
            refine lv_ldc2 (v := 27) hx hb M.1.2.2.2.1 (M.1.2.2.2.2 _ G1641) dX12_spelt_104 ?_
            refine lv_lload hx hb dX12_spelt_107 (lv_at hl 0 rfl) ?_
            refine r_lmul (v := (27 * (((27 * (((27 * (((27 * (((27 * ((Int32.toInt64 (iI x0)) - 96)) + (Int32.toInt64 (iI x1))) - 96)) + (Int32.toInt64 (iI x2))) - 96)) + (Int32.toInt64 (iI x3))) - 96)) + (Int32.toInt64 (iI x5))) - 96))) M rfl dX12_spelt_109 ?_
            refine lv_iload hx hb dX12_spelt_110 (lv_at hl 7 rfl) ?_
            refine lv_i2l (v := (Int32.toInt64 (iI x6))) hx hb dX12_spelt_112 rfl ?_
            refine r_ladd (v := ((27 * (((27 * (((27 * (((27 * (((27 * ((Int32.toInt64 (iI x0)) - 96)) + (Int32.toInt64 (iI x1))) - 96)) + (Int32.toInt64 (iI x2))) - 96)) + (Int32.toInt64 (iI x3))) - 96)) + (Int32.toInt64 (iI x5))) - 96)) + (Int32.toInt64 (iI x6)))) M rfl dX12_spelt_113 ?_
            refine lv_ldc2 (v := 96) hx hb M.1.2.2.2.1 (M.1.2.2.2.2 _ G1642) dX12_spelt_114 ?_
            refine r_lsub (v := (((27 * (((27 * (((27 * (((27 * (((27 * ((Int32.toInt64 (iI x0)) - 96)) + (Int32.toInt64 (iI x1))) - 96)) + (Int32.toInt64 (iI x2))) - 96)) + (Int32.toInt64 (iI x3))) - 96)) + (Int32.toInt64 (iI x5))) - 96)) + (Int32.toInt64 (iI x6))) - 96)) M rfl dX12_spelt_117 ?_
            refine lv_lstore (lv' := [(7, .long (((27 * (((27 * (((27 * (((27 * (((27 * ((Int32.toInt64 (iI x0)) - 96)) + (Int32.toInt64 (iI x1))) - 96)) + (Int32.toInt64 (iI x2))) - 96)) + (Int32.toInt64 (iI x3))) - 96)) + (Int32.toInt64 (iI x5))) - 96)) + (Int32.toInt64 (iI x6))) - 96)), (0, .int (iI x0)), (1, .int (iI x1)), (2, .int (iI x2)), (3, .int (iI x3)), (4, .int (iI x4)), (5, .int (iI x5)), (6, .int (iI x6))]) hx hb dX12_spelt_118 hl (by decide) rfl (fun ls hl => ?_)
            refine lv_lload hx hb dX12_spelt_120 (lv_at hl 0 rfl) ?_
            exact ret _ () _ _ _ _ _ [] dX12_spelt_122 trivial w (by decide) rfl
      · replace c_25 : 0 < x4 := Int.not_le.mp (fun h => c_25 ((iz_le (Int.le_trans (by decide) x4_a) (Int.le_trans x4_b (by decide))).mpr h))
        refine lv_ldc2 (v := 27) hx hb M.1.2.2.2.1 (M.1.2.2.2.2 _ G1641) dX12_spelt_62 ?_
        refine lv_lload hx hb dX12_spelt_65 (lv_at hl 0 rfl) ?_
        refine r_lmul (v := (27 * (((27 * (((27 * (((27 * ((Int32.toInt64 (iI x0)) - 96)) + (Int32.toInt64 (iI x1))) - 96)) + (Int32.toInt64 (iI x2))) - 96)) + (Int32.toInt64 (iI x3))) - 96))) M rfl dX12_spelt_67 ?_
        refine lv_iload hx hb dX12_spelt_68 (lv_at hl 5 rfl) ?_
        refine lv_i2l (v := (Int32.toInt64 (iI x4))) hx hb dX12_spelt_70 rfl ?_
        refine r_ladd (v := ((27 * (((27 * (((27 * (((27 * ((Int32.toInt64 (iI x0)) - 96)) + (Int32.toInt64 (iI x1))) - 96)) + (Int32.toInt64 (iI x2))) - 96)) + (Int32.toInt64 (iI x3))) - 96)) + (Int32.toInt64 (iI x4)))) M rfl dX12_spelt_71 ?_
        refine lv_ldc2 (v := 96) hx hb M.1.2.2.2.1 (M.1.2.2.2.2 _ G1642) dX12_spelt_72 ?_
        refine r_lsub (v := (((27 * (((27 * (((27 * (((27 * ((Int32.toInt64 (iI x0)) - 96)) + (Int32.toInt64 (iI x1))) - 96)) + (Int32.toInt64 (iI x2))) - 96)) + (Int32.toInt64 (iI x3))) - 96)) + (Int32.toInt64 (iI x4))) - 96)) M rfl dX12_spelt_75 ?_
        refine lv_lstore (lv' := [(7, .long (((27 * (((27 * (((27 * (((27 * ((Int32.toInt64 (iI x0)) - 96)) + (Int32.toInt64 (iI x1))) - 96)) + (Int32.toInt64 (iI x2))) - 96)) + (Int32.toInt64 (iI x3))) - 96)) + (Int32.toInt64 (iI x4))) - 96)), (0, .int (iI x0)), (1, .int (iI x1)), (2, .int (iI x2)), (3, .int (iI x3)), (4, .int (iI x4)), (5, .int (iI x5)), (6, .int (iI x6))]) hx hb dX12_spelt_76 hl (by decide) rfl (fun ls hl => ?_)
        refine lv_iload hx hb dX12_spelt_78 (lv_at hl 6 rfl) ?_
        refine lv_if_le (tgt := 99) hx hb dX12_spelt_80 (by decide) (fun c_29 => ?_) (fun c_29 => ?_)
        · replace c_29 := (iz_le (Int.le_trans (by decide) x5_a) (Int.le_trans x5_b (by decide))).mp c_29
          refine lv_iload hx hb dX12_spelt_99 (lv_at hl 7 rfl) ?_
          refine lv_if_le (tgt := 120) hx hb dX12_spelt_101 (by decide) (fun c_30 => ?_) (fun c_30 => ?_)
          · replace c_30 := (iz_le (Int.le_trans (by decide) x6_a) (Int.le_trans x6_b (by decide))).mp c_30
            refine lv_lload hx hb dX12_spelt_120 (lv_at hl 0 rfl) ?_
            exact ret _ () _ _ _ _ _ [] dX12_spelt_122 trivial w (by decide) rfl
          · replace c_30 : 0 < x6 := Int.not_le.mp (fun h => c_30 ((iz_le (Int.le_trans (by decide) x6_a) (Int.le_trans x6_b (by decide))).mpr h))
            refine lv_ldc2 (v := 27) hx hb M.1.2.2.2.1 (M.1.2.2.2.2 _ G1641) dX12_spelt_104 ?_
            refine lv_lload hx hb dX12_spelt_107 (lv_at hl 0 rfl) ?_
            refine r_lmul (v := (27 * (((27 * (((27 * (((27 * (((27 * ((Int32.toInt64 (iI x0)) - 96)) + (Int32.toInt64 (iI x1))) - 96)) + (Int32.toInt64 (iI x2))) - 96)) + (Int32.toInt64 (iI x3))) - 96)) + (Int32.toInt64 (iI x4))) - 96))) M rfl dX12_spelt_109 ?_
            refine lv_iload hx hb dX12_spelt_110 (lv_at hl 7 rfl) ?_
            refine lv_i2l (v := (Int32.toInt64 (iI x6))) hx hb dX12_spelt_112 rfl ?_
            refine r_ladd (v := ((27 * (((27 * (((27 * (((27 * (((27 * ((Int32.toInt64 (iI x0)) - 96)) + (Int32.toInt64 (iI x1))) - 96)) + (Int32.toInt64 (iI x2))) - 96)) + (Int32.toInt64 (iI x3))) - 96)) + (Int32.toInt64 (iI x4))) - 96)) + (Int32.toInt64 (iI x6)))) M rfl dX12_spelt_113 ?_
            refine lv_ldc2 (v := 96) hx hb M.1.2.2.2.1 (M.1.2.2.2.2 _ G1642) dX12_spelt_114 ?_
            refine r_lsub (v := (((27 * (((27 * (((27 * (((27 * (((27 * ((Int32.toInt64 (iI x0)) - 96)) + (Int32.toInt64 (iI x1))) - 96)) + (Int32.toInt64 (iI x2))) - 96)) + (Int32.toInt64 (iI x3))) - 96)) + (Int32.toInt64 (iI x4))) - 96)) + (Int32.toInt64 (iI x6))) - 96)) M rfl dX12_spelt_117 ?_
            refine lv_lstore (lv' := [(7, .long (((27 * (((27 * (((27 * (((27 * (((27 * ((Int32.toInt64 (iI x0)) - 96)) + (Int32.toInt64 (iI x1))) - 96)) + (Int32.toInt64 (iI x2))) - 96)) + (Int32.toInt64 (iI x3))) - 96)) + (Int32.toInt64 (iI x4))) - 96)) + (Int32.toInt64 (iI x6))) - 96)), (0, .int (iI x0)), (1, .int (iI x1)), (2, .int (iI x2)), (3, .int (iI x3)), (4, .int (iI x4)), (5, .int (iI x5)), (6, .int (iI x6))]) hx hb dX12_spelt_118 hl (by decide) rfl (fun ls hl => ?_)
            refine lv_lload hx hb dX12_spelt_120 (lv_at hl 0 rfl) ?_
            exact ret _ () _ _ _ _ _ [] dX12_spelt_122 trivial w (by decide) rfl
        · replace c_29 : 0 < x5 := Int.not_le.mp (fun h => c_29 ((iz_le (Int.le_trans (by decide) x5_a) (Int.le_trans x5_b (by decide))).mpr h))
          refine lv_ldc2 (v := 27) hx hb M.1.2.2.2.1 (M.1.2.2.2.2 _ G1641) dX12_spelt_83 ?_
          refine lv_lload hx hb dX12_spelt_86 (lv_at hl 0 rfl) ?_
          refine r_lmul (v := (27 * (((27 * (((27 * (((27 * (((27 * ((Int32.toInt64 (iI x0)) - 96)) + (Int32.toInt64 (iI x1))) - 96)) + (Int32.toInt64 (iI x2))) - 96)) + (Int32.toInt64 (iI x3))) - 96)) + (Int32.toInt64 (iI x4))) - 96))) M rfl dX12_spelt_88 ?_
          refine lv_iload hx hb dX12_spelt_89 (lv_at hl 6 rfl) ?_
          refine lv_i2l (v := (Int32.toInt64 (iI x5))) hx hb dX12_spelt_91 rfl ?_
          refine r_ladd (v := ((27 * (((27 * (((27 * (((27 * (((27 * ((Int32.toInt64 (iI x0)) - 96)) + (Int32.toInt64 (iI x1))) - 96)) + (Int32.toInt64 (iI x2))) - 96)) + (Int32.toInt64 (iI x3))) - 96)) + (Int32.toInt64 (iI x4))) - 96)) + (Int32.toInt64 (iI x5)))) M rfl dX12_spelt_92 ?_
          refine lv_ldc2 (v := 96) hx hb M.1.2.2.2.1 (M.1.2.2.2.2 _ G1642) dX12_spelt_93 ?_
          refine r_lsub (v := (((27 * (((27 * (((27 * (((27 * (((27 * ((Int32.toInt64 (iI x0)) - 96)) + (Int32.toInt64 (iI x1))) - 96)) + (Int32.toInt64 (iI x2))) - 96)) + (Int32.toInt64 (iI x3))) - 96)) + (Int32.toInt64 (iI x4))) - 96)) + (Int32.toInt64 (iI x5))) - 96)) M rfl dX12_spelt_96 ?_
          refine lv_lstore (lv' := [(7, .long (((27 * (((27 * (((27 * (((27 * (((27 * ((Int32.toInt64 (iI x0)) - 96)) + (Int32.toInt64 (iI x1))) - 96)) + (Int32.toInt64 (iI x2))) - 96)) + (Int32.toInt64 (iI x3))) - 96)) + (Int32.toInt64 (iI x4))) - 96)) + (Int32.toInt64 (iI x5))) - 96)), (0, .int (iI x0)), (1, .int (iI x1)), (2, .int (iI x2)), (3, .int (iI x3)), (4, .int (iI x4)), (5, .int (iI x5)), (6, .int (iI x6))]) hx hb dX12_spelt_97 hl (by decide) rfl (fun ls hl => ?_)
          refine lv_iload hx hb dX12_spelt_99 (lv_at hl 7 rfl) ?_
          refine lv_if_le (tgt := 120) hx hb dX12_spelt_101 (by decide) (fun c_31 => ?_) (fun c_31 => ?_)
          · replace c_31 := (iz_le (Int.le_trans (by decide) x6_a) (Int.le_trans x6_b (by decide))).mp c_31
            refine lv_lload hx hb dX12_spelt_120 (lv_at hl 0 rfl) ?_
            exact ret _ () _ _ _ _ _ [] dX12_spelt_122 trivial w (by decide) rfl
          · replace c_31 : 0 < x6 := Int.not_le.mp (fun h => c_31 ((iz_le (Int.le_trans (by decide) x6_a) (Int.le_trans x6_b (by decide))).mpr h))
            refine lv_ldc2 (v := 27) hx hb M.1.2.2.2.1 (M.1.2.2.2.2 _ G1641) dX12_spelt_104 ?_
            refine lv_lload hx hb dX12_spelt_107 (lv_at hl 0 rfl) ?_
            refine r_lmul (v := (27 * (((27 * (((27 * (((27 * (((27 * (((27 * ((Int32.toInt64 (iI x0)) - 96)) + (Int32.toInt64 (iI x1))) - 96)) + (Int32.toInt64 (iI x2))) - 96)) + (Int32.toInt64 (iI x3))) - 96)) + (Int32.toInt64 (iI x4))) - 96)) + (Int32.toInt64 (iI x5))) - 96))) M rfl dX12_spelt_109 ?_
            refine lv_iload hx hb dX12_spelt_110 (lv_at hl 7 rfl) ?_
            refine lv_i2l (v := (Int32.toInt64 (iI x6))) hx hb dX12_spelt_112 rfl ?_
            refine r_ladd (v := ((27 * (((27 * (((27 * (((27 * (((27 * (((27 * ((Int32.toInt64 (iI x0)) - 96)) + (Int32.toInt64 (iI x1))) - 96)) + (Int32.toInt64 (iI x2))) - 96)) + (Int32.toInt64 (iI x3))) - 96)) + (Int32.toInt64 (iI x4))) - 96)) + (Int32.toInt64 (iI x5))) - 96)) + (Int32.toInt64 (iI x6)))) M rfl dX12_spelt_113 ?_
            refine lv_ldc2 (v := 96) hx hb M.1.2.2.2.1 (M.1.2.2.2.2 _ G1642) dX12_spelt_114 ?_
            refine r_lsub (v := (((27 * (((27 * (((27 * (((27 * (((27 * (((27 * ((Int32.toInt64 (iI x0)) - 96)) + (Int32.toInt64 (iI x1))) - 96)) + (Int32.toInt64 (iI x2))) - 96)) + (Int32.toInt64 (iI x3))) - 96)) + (Int32.toInt64 (iI x4))) - 96)) + (Int32.toInt64 (iI x5))) - 96)) + (Int32.toInt64 (iI x6))) - 96)) M rfl dX12_spelt_117 ?_
            refine lv_lstore (lv' := [(7, .long (((27 * (((27 * (((27 * (((27 * (((27 * (((27 * ((Int32.toInt64 (iI x0)) - 96)) + (Int32.toInt64 (iI x1))) - 96)) + (Int32.toInt64 (iI x2))) - 96)) + (Int32.toInt64 (iI x3))) - 96)) + (Int32.toInt64 (iI x4))) - 96)) + (Int32.toInt64 (iI x5))) - 96)) + (Int32.toInt64 (iI x6))) - 96)), (0, .int (iI x0)), (1, .int (iI x1)), (2, .int (iI x2)), (3, .int (iI x3)), (4, .int (iI x4)), (5, .int (iI x5)), (6, .int (iI x6))]) hx hb dX12_spelt_118 hl (by decide) rfl (fun ls hl => ?_)
            refine lv_lload hx hb dX12_spelt_120 (lv_at hl 0 rfl) ?_
            exact ret _ () _ _ _ _ _ [] dX12_spelt_122 trivial w (by decide) rfl
set_option maxRecDepth 100000 in
set_option maxHeartbeats 4000000 in
theorem c14_X12_spelt (l : Launch) (D : va_G) (T : Nat → ClassId) (sz : Nat) : Met l yX12_spelt (Cond.code yX12_spelt cX12_spelt 9 (some .long) :: GW) (Rm 0 0 0) (cPre [.int (iI 112), .int (iI 101), .int (iI 114), .int (iI 115), .int (iI 111), .int (iI 110), .int (iI 0)] D T [] sz) (qL D [] sz (fun (v : Int64) (u : Unit) => (v = 232608281)) (fun u => [])) 0 0 (va_A [] sz) := by
  refine e_L (by decide) (Nat.le_of_ble_eq_true rfl) ?_
  intro p e s m args below meth c A Q ls M hin w ret hl
  have hx := M.1.1
  have hb := M.1.2.1
  have hl : lv_has ls 9 [(0, .int (iI 112)), (1, .int (iI 101)), (2, .int (iI 114)), (3, .int (iI 115)), (4, .int (iI 111)), (5, .int (iI 110)), (6, .int (iI 0))] := hl
  refine lv_ldc2 (v := 27) hx hb M.1.2.2.2.1 (M.1.2.2.2.2 _ G1641) dX12_spelt_0 ?_
  refine lv_iload_n hx hb dX12_spelt_3 rfl (lv_at hl 0 rfl) ?_
  refine lv_i2l (v := (Int32.toInt64 (iI 112))) hx hb dX12_spelt_4 rfl ?_
  refine lv_ldc2 (v := 96) hx hb M.1.2.2.2.1 (M.1.2.2.2.2 _ G1642) dX12_spelt_5 ?_
  refine r_lsub (v := ((Int32.toInt64 (iI 112)) - 96)) M rfl dX12_spelt_8 ?_
  refine r_lmul (v := (27 * ((Int32.toInt64 (iI 112)) - 96))) M rfl dX12_spelt_9 ?_
  refine lv_iload_n hx hb dX12_spelt_10 rfl (lv_at hl 1 rfl) ?_
  refine lv_i2l (v := (Int32.toInt64 (iI 101))) hx hb dX12_spelt_11 rfl ?_
  refine r_ladd (v := ((27 * ((Int32.toInt64 (iI 112)) - 96)) + (Int32.toInt64 (iI 101)))) M rfl dX12_spelt_12 ?_
  refine lv_ldc2 (v := 96) hx hb M.1.2.2.2.1 (M.1.2.2.2.2 _ G1642) dX12_spelt_13 ?_
  refine r_lsub (v := (((27 * ((Int32.toInt64 (iI 112)) - 96)) + (Int32.toInt64 (iI 101))) - 96)) M rfl dX12_spelt_16 ?_
  refine lv_lstore (lv' := [(7, .long (((27 * ((Int32.toInt64 (iI 112)) - 96)) + (Int32.toInt64 (iI 101))) - 96)), (0, .int (iI 112)), (1, .int (iI 101)), (2, .int (iI 114)), (3, .int (iI 115)), (4, .int (iI 111)), (5, .int (iI 110)), (6, .int (iI 0))]) hx hb dX12_spelt_17 hl (by decide) rfl (fun ls hl => ?_)
  refine lv_iload_n hx hb dX12_spelt_19 rfl (lv_at hl 3 rfl) ?_
  refine lv_if_le (tgt := 38) hx hb dX12_spelt_20 (by decide) (fun c => absurd c (by decide +kernel)) (fun _ => ?_)
  refine lv_ldc2 (v := 27) hx hb M.1.2.2.2.1 (M.1.2.2.2.2 _ G1641) dX12_spelt_23 ?_
  refine lv_lload hx hb dX12_spelt_26 (lv_at hl 0 rfl) ?_
  refine r_lmul (v := (27 * (((27 * ((Int32.toInt64 (iI 112)) - 96)) + (Int32.toInt64 (iI 101))) - 96))) M rfl dX12_spelt_28 ?_
  refine lv_iload_n hx hb dX12_spelt_29 rfl (lv_at hl 3 rfl) ?_
  refine lv_i2l (v := (Int32.toInt64 (iI 114))) hx hb dX12_spelt_30 rfl ?_
  refine r_ladd (v := ((27 * (((27 * ((Int32.toInt64 (iI 112)) - 96)) + (Int32.toInt64 (iI 101))) - 96)) + (Int32.toInt64 (iI 114)))) M rfl dX12_spelt_31 ?_
  refine lv_ldc2 (v := 96) hx hb M.1.2.2.2.1 (M.1.2.2.2.2 _ G1642) dX12_spelt_32 ?_
  refine r_lsub (v := (((27 * (((27 * ((Int32.toInt64 (iI 112)) - 96)) + (Int32.toInt64 (iI 101))) - 96)) + (Int32.toInt64 (iI 114))) - 96)) M rfl dX12_spelt_35 ?_
  refine lv_lstore (lv' := [(7, .long (((27 * (((27 * ((Int32.toInt64 (iI 112)) - 96)) + (Int32.toInt64 (iI 101))) - 96)) + (Int32.toInt64 (iI 114))) - 96)), (0, .int (iI 112)), (1, .int (iI 101)), (2, .int (iI 114)), (3, .int (iI 115)), (4, .int (iI 111)), (5, .int (iI 110)), (6, .int (iI 0))]) hx hb dX12_spelt_36 hl (by decide) rfl (fun ls hl => ?_)
  refine lv_iload_n hx hb dX12_spelt_38 rfl (lv_at hl 4 rfl) ?_
  refine lv_if_le (tgt := 57) hx hb dX12_spelt_39 (by decide) (fun c => absurd c (by decide +kernel)) (fun _ => ?_)
  refine lv_ldc2 (v := 27) hx hb M.1.2.2.2.1 (M.1.2.2.2.2 _ G1641) dX12_spelt_42 ?_
  refine lv_lload hx hb dX12_spelt_45 (lv_at hl 0 rfl) ?_
  refine r_lmul (v := (27 * (((27 * (((27 * ((Int32.toInt64 (iI 112)) - 96)) + (Int32.toInt64 (iI 101))) - 96)) + (Int32.toInt64 (iI 114))) - 96))) M rfl dX12_spelt_47 ?_
  refine lv_iload_n hx hb dX12_spelt_48 rfl (lv_at hl 4 rfl) ?_
  refine lv_i2l (v := (Int32.toInt64 (iI 115))) hx hb dX12_spelt_49 rfl ?_
  refine r_ladd (v := ((27 * (((27 * (((27 * ((Int32.toInt64 (iI 112)) - 96)) + (Int32.toInt64 (iI 101))) - 96)) + (Int32.toInt64 (iI 114))) - 96)) + (Int32.toInt64 (iI 115)))) M rfl dX12_spelt_50 ?_
  refine lv_ldc2 (v := 96) hx hb M.1.2.2.2.1 (M.1.2.2.2.2 _ G1642) dX12_spelt_51 ?_
  refine r_lsub (v := (((27 * (((27 * (((27 * ((Int32.toInt64 (iI 112)) - 96)) + (Int32.toInt64 (iI 101))) - 96)) + (Int32.toInt64 (iI 114))) - 96)) + (Int32.toInt64 (iI 115))) - 96)) M rfl dX12_spelt_54 ?_
  refine lv_lstore (lv' := [(7, .long (((27 * (((27 * (((27 * ((Int32.toInt64 (iI 112)) - 96)) + (Int32.toInt64 (iI 101))) - 96)) + (Int32.toInt64 (iI 114))) - 96)) + (Int32.toInt64 (iI 115))) - 96)), (0, .int (iI 112)), (1, .int (iI 101)), (2, .int (iI 114)), (3, .int (iI 115)), (4, .int (iI 111)), (5, .int (iI 110)), (6, .int (iI 0))]) hx hb dX12_spelt_55 hl (by decide) rfl (fun ls hl => ?_)
  refine lv_iload hx hb dX12_spelt_57 (lv_at hl 5 rfl) ?_
  refine lv_if_le (tgt := 78) hx hb dX12_spelt_59 (by decide) (fun c => absurd c (by decide +kernel)) (fun _ => ?_)
  refine lv_ldc2 (v := 27) hx hb M.1.2.2.2.1 (M.1.2.2.2.2 _ G1641) dX12_spelt_62 ?_
  refine lv_lload hx hb dX12_spelt_65 (lv_at hl 0 rfl) ?_
  refine r_lmul (v := (27 * (((27 * (((27 * (((27 * ((Int32.toInt64 (iI 112)) - 96)) + (Int32.toInt64 (iI 101))) - 96)) + (Int32.toInt64 (iI 114))) - 96)) + (Int32.toInt64 (iI 115))) - 96))) M rfl dX12_spelt_67 ?_
  refine lv_iload hx hb dX12_spelt_68 (lv_at hl 5 rfl) ?_
  refine lv_i2l (v := (Int32.toInt64 (iI 111))) hx hb dX12_spelt_70 rfl ?_
  refine r_ladd (v := ((27 * (((27 * (((27 * (((27 * ((Int32.toInt64 (iI 112)) - 96)) + (Int32.toInt64 (iI 101))) - 96)) + (Int32.toInt64 (iI 114))) - 96)) + (Int32.toInt64 (iI 115))) - 96)) + (Int32.toInt64 (iI 111)))) M rfl dX12_spelt_71 ?_
  refine lv_ldc2 (v := 96) hx hb M.1.2.2.2.1 (M.1.2.2.2.2 _ G1642) dX12_spelt_72 ?_
  refine r_lsub (v := (((27 * (((27 * (((27 * (((27 * ((Int32.toInt64 (iI 112)) - 96)) + (Int32.toInt64 (iI 101))) - 96)) + (Int32.toInt64 (iI 114))) - 96)) + (Int32.toInt64 (iI 115))) - 96)) + (Int32.toInt64 (iI 111))) - 96)) M rfl dX12_spelt_75 ?_
  refine lv_lstore (lv' := [(7, .long (((27 * (((27 * (((27 * (((27 * ((Int32.toInt64 (iI 112)) - 96)) + (Int32.toInt64 (iI 101))) - 96)) + (Int32.toInt64 (iI 114))) - 96)) + (Int32.toInt64 (iI 115))) - 96)) + (Int32.toInt64 (iI 111))) - 96)), (0, .int (iI 112)), (1, .int (iI 101)), (2, .int (iI 114)), (3, .int (iI 115)), (4, .int (iI 111)), (5, .int (iI 110)), (6, .int (iI 0))]) hx hb dX12_spelt_76 hl (by decide) rfl (fun ls hl => ?_)
  refine lv_iload hx hb dX12_spelt_78 (lv_at hl 6 rfl) ?_
  refine lv_if_le (tgt := 99) hx hb dX12_spelt_80 (by decide) (fun c => absurd c (by decide +kernel)) (fun _ => ?_)
  refine lv_ldc2 (v := 27) hx hb M.1.2.2.2.1 (M.1.2.2.2.2 _ G1641) dX12_spelt_83 ?_
  refine lv_lload hx hb dX12_spelt_86 (lv_at hl 0 rfl) ?_
  refine r_lmul (v := (27 * (((27 * (((27 * (((27 * (((27 * ((Int32.toInt64 (iI 112)) - 96)) + (Int32.toInt64 (iI 101))) - 96)) + (Int32.toInt64 (iI 114))) - 96)) + (Int32.toInt64 (iI 115))) - 96)) + (Int32.toInt64 (iI 111))) - 96))) M rfl dX12_spelt_88 ?_
  refine lv_iload hx hb dX12_spelt_89 (lv_at hl 6 rfl) ?_
  refine lv_i2l (v := (Int32.toInt64 (iI 110))) hx hb dX12_spelt_91 rfl ?_
  refine r_ladd (v := ((27 * (((27 * (((27 * (((27 * (((27 * ((Int32.toInt64 (iI 112)) - 96)) + (Int32.toInt64 (iI 101))) - 96)) + (Int32.toInt64 (iI 114))) - 96)) + (Int32.toInt64 (iI 115))) - 96)) + (Int32.toInt64 (iI 111))) - 96)) + (Int32.toInt64 (iI 110)))) M rfl dX12_spelt_92 ?_
  refine lv_ldc2 (v := 96) hx hb M.1.2.2.2.1 (M.1.2.2.2.2 _ G1642) dX12_spelt_93 ?_
  refine r_lsub (v := (((27 * (((27 * (((27 * (((27 * (((27 * ((Int32.toInt64 (iI 112)) - 96)) + (Int32.toInt64 (iI 101))) - 96)) + (Int32.toInt64 (iI 114))) - 96)) + (Int32.toInt64 (iI 115))) - 96)) + (Int32.toInt64 (iI 111))) - 96)) + (Int32.toInt64 (iI 110))) - 96)) M rfl dX12_spelt_96 ?_
  refine lv_lstore (lv' := [(7, .long (((27 * (((27 * (((27 * (((27 * (((27 * ((Int32.toInt64 (iI 112)) - 96)) + (Int32.toInt64 (iI 101))) - 96)) + (Int32.toInt64 (iI 114))) - 96)) + (Int32.toInt64 (iI 115))) - 96)) + (Int32.toInt64 (iI 111))) - 96)) + (Int32.toInt64 (iI 110))) - 96)), (0, .int (iI 112)), (1, .int (iI 101)), (2, .int (iI 114)), (3, .int (iI 115)), (4, .int (iI 111)), (5, .int (iI 110)), (6, .int (iI 0))]) hx hb dX12_spelt_97 hl (by decide) rfl (fun ls hl => ?_)
  refine lv_iload hx hb dX12_spelt_99 (lv_at hl 7 rfl) ?_
  refine lv_if_le (tgt := 120) hx hb dX12_spelt_101 (by decide) (fun _ => ?_) (fun c => absurd (by decide +kernel) c)
  refine lv_lload hx hb dX12_spelt_120 (lv_at hl 0 rfl) ?_
  exact ret _ () _ _ _ _ _ [] dX12_spelt_122 (show (((27 * (((27 * (((27 * (((27 * (((27 * ((Int32.toInt64 (iI 112)) - 96)) + (Int32.toInt64 (iI 101))) - 96)) + (Int32.toInt64 (iI 114))) - 96)) + (Int32.toInt64 (iI 115))) - 96)) + (Int32.toInt64 (iI 111))) - 96)) + (Int32.toInt64 (iI 110))) - 96) = 232608281 from (by decide +kernel)) w (by decide) rfl
set_option maxRecDepth 100000 in
set_option maxHeartbeats 4000000 in
theorem c15_X12_spelt (l : Launch) (D : va_G) (T : Nat → ClassId) (sz : Nat) : Met l yX12_spelt (Cond.code yX12_spelt cX12_spelt 9 (some .long) :: GW) (Rm 0 0 0) (cPre [.int (iI 109), .int (iI 97), .int (iI 105), .int (iI 100), .int (iI 0), .int (iI 0), .int (iI 0)] D T [] sz) (qL D [] sz (fun (v : Int64) (u : Unit) => (v = 256855)) (fun u => [])) 0 0 (va_A [] sz) := by
  refine e_L (by decide) (Nat.le_of_ble_eq_true rfl) ?_
  intro p e s m args below meth c A Q ls M hin w ret hl
  have hx := M.1.1
  have hb := M.1.2.1
  have hl : lv_has ls 9 [(0, .int (iI 109)), (1, .int (iI 97)), (2, .int (iI 105)), (3, .int (iI 100)), (4, .int (iI 0)), (5, .int (iI 0)), (6, .int (iI 0))] := hl
  refine lv_ldc2 (v := 27) hx hb M.1.2.2.2.1 (M.1.2.2.2.2 _ G1641) dX12_spelt_0 ?_
  refine lv_iload_n hx hb dX12_spelt_3 rfl (lv_at hl 0 rfl) ?_
  refine lv_i2l (v := (Int32.toInt64 (iI 109))) hx hb dX12_spelt_4 rfl ?_
  refine lv_ldc2 (v := 96) hx hb M.1.2.2.2.1 (M.1.2.2.2.2 _ G1642) dX12_spelt_5 ?_
  refine r_lsub (v := ((Int32.toInt64 (iI 109)) - 96)) M rfl dX12_spelt_8 ?_
  refine r_lmul (v := (27 * ((Int32.toInt64 (iI 109)) - 96))) M rfl dX12_spelt_9 ?_
  refine lv_iload_n hx hb dX12_spelt_10 rfl (lv_at hl 1 rfl) ?_
  refine lv_i2l (v := (Int32.toInt64 (iI 97))) hx hb dX12_spelt_11 rfl ?_
  refine r_ladd (v := ((27 * ((Int32.toInt64 (iI 109)) - 96)) + (Int32.toInt64 (iI 97)))) M rfl dX12_spelt_12 ?_
  refine lv_ldc2 (v := 96) hx hb M.1.2.2.2.1 (M.1.2.2.2.2 _ G1642) dX12_spelt_13 ?_
  refine r_lsub (v := (((27 * ((Int32.toInt64 (iI 109)) - 96)) + (Int32.toInt64 (iI 97))) - 96)) M rfl dX12_spelt_16 ?_
  refine lv_lstore (lv' := [(7, .long (((27 * ((Int32.toInt64 (iI 109)) - 96)) + (Int32.toInt64 (iI 97))) - 96)), (0, .int (iI 109)), (1, .int (iI 97)), (2, .int (iI 105)), (3, .int (iI 100)), (4, .int (iI 0)), (5, .int (iI 0)), (6, .int (iI 0))]) hx hb dX12_spelt_17 hl (by decide) rfl (fun ls hl => ?_)
  refine lv_iload_n hx hb dX12_spelt_19 rfl (lv_at hl 3 rfl) ?_
  refine lv_if_le (tgt := 38) hx hb dX12_spelt_20 (by decide) (fun c => absurd c (by decide +kernel)) (fun _ => ?_)
  refine lv_ldc2 (v := 27) hx hb M.1.2.2.2.1 (M.1.2.2.2.2 _ G1641) dX12_spelt_23 ?_
  refine lv_lload hx hb dX12_spelt_26 (lv_at hl 0 rfl) ?_
  refine r_lmul (v := (27 * (((27 * ((Int32.toInt64 (iI 109)) - 96)) + (Int32.toInt64 (iI 97))) - 96))) M rfl dX12_spelt_28 ?_
  refine lv_iload_n hx hb dX12_spelt_29 rfl (lv_at hl 3 rfl) ?_
  refine lv_i2l (v := (Int32.toInt64 (iI 105))) hx hb dX12_spelt_30 rfl ?_
  refine r_ladd (v := ((27 * (((27 * ((Int32.toInt64 (iI 109)) - 96)) + (Int32.toInt64 (iI 97))) - 96)) + (Int32.toInt64 (iI 105)))) M rfl dX12_spelt_31 ?_
  refine lv_ldc2 (v := 96) hx hb M.1.2.2.2.1 (M.1.2.2.2.2 _ G1642) dX12_spelt_32 ?_
  refine r_lsub (v := (((27 * (((27 * ((Int32.toInt64 (iI 109)) - 96)) + (Int32.toInt64 (iI 97))) - 96)) + (Int32.toInt64 (iI 105))) - 96)) M rfl dX12_spelt_35 ?_
  refine lv_lstore (lv' := [(7, .long (((27 * (((27 * ((Int32.toInt64 (iI 109)) - 96)) + (Int32.toInt64 (iI 97))) - 96)) + (Int32.toInt64 (iI 105))) - 96)), (0, .int (iI 109)), (1, .int (iI 97)), (2, .int (iI 105)), (3, .int (iI 100)), (4, .int (iI 0)), (5, .int (iI 0)), (6, .int (iI 0))]) hx hb dX12_spelt_36 hl (by decide) rfl (fun ls hl => ?_)
  refine lv_iload_n hx hb dX12_spelt_38 rfl (lv_at hl 4 rfl) ?_
  refine lv_if_le (tgt := 57) hx hb dX12_spelt_39 (by decide) (fun c => absurd c (by decide +kernel)) (fun _ => ?_)
  refine lv_ldc2 (v := 27) hx hb M.1.2.2.2.1 (M.1.2.2.2.2 _ G1641) dX12_spelt_42 ?_
  refine lv_lload hx hb dX12_spelt_45 (lv_at hl 0 rfl) ?_
  refine r_lmul (v := (27 * (((27 * (((27 * ((Int32.toInt64 (iI 109)) - 96)) + (Int32.toInt64 (iI 97))) - 96)) + (Int32.toInt64 (iI 105))) - 96))) M rfl dX12_spelt_47 ?_
  refine lv_iload_n hx hb dX12_spelt_48 rfl (lv_at hl 4 rfl) ?_
  refine lv_i2l (v := (Int32.toInt64 (iI 100))) hx hb dX12_spelt_49 rfl ?_
  refine r_ladd (v := ((27 * (((27 * (((27 * ((Int32.toInt64 (iI 109)) - 96)) + (Int32.toInt64 (iI 97))) - 96)) + (Int32.toInt64 (iI 105))) - 96)) + (Int32.toInt64 (iI 100)))) M rfl dX12_spelt_50 ?_
  refine lv_ldc2 (v := 96) hx hb M.1.2.2.2.1 (M.1.2.2.2.2 _ G1642) dX12_spelt_51 ?_
  refine r_lsub (v := (((27 * (((27 * (((27 * ((Int32.toInt64 (iI 109)) - 96)) + (Int32.toInt64 (iI 97))) - 96)) + (Int32.toInt64 (iI 105))) - 96)) + (Int32.toInt64 (iI 100))) - 96)) M rfl dX12_spelt_54 ?_
  refine lv_lstore (lv' := [(7, .long (((27 * (((27 * (((27 * ((Int32.toInt64 (iI 109)) - 96)) + (Int32.toInt64 (iI 97))) - 96)) + (Int32.toInt64 (iI 105))) - 96)) + (Int32.toInt64 (iI 100))) - 96)), (0, .int (iI 109)), (1, .int (iI 97)), (2, .int (iI 105)), (3, .int (iI 100)), (4, .int (iI 0)), (5, .int (iI 0)), (6, .int (iI 0))]) hx hb dX12_spelt_55 hl (by decide) rfl (fun ls hl => ?_)
  refine lv_iload hx hb dX12_spelt_57 (lv_at hl 5 rfl) ?_
  refine lv_if_le (tgt := 78) hx hb dX12_spelt_59 (by decide) (fun _ => ?_) (fun c => absurd (by decide +kernel) c)
  refine lv_iload hx hb dX12_spelt_78 (lv_at hl 6 rfl) ?_
  refine lv_if_le (tgt := 99) hx hb dX12_spelt_80 (by decide) (fun _ => ?_) (fun c => absurd (by decide +kernel) c)
  refine lv_iload hx hb dX12_spelt_99 (lv_at hl 7 rfl) ?_
  refine lv_if_le (tgt := 120) hx hb dX12_spelt_101 (by decide) (fun _ => ?_) (fun c => absurd (by decide +kernel) c)
  refine lv_lload hx hb dX12_spelt_120 (lv_at hl 0 rfl) ?_
  exact ret _ () _ _ _ _ _ [] dX12_spelt_122 (show (((27 * (((27 * (((27 * ((Int32.toInt64 (iI 109)) - 96)) + (Int32.toInt64 (iI 97))) - 96)) + (Int32.toInt64 (iI 105))) - 96)) + (Int32.toInt64 (iI 100))) - 96) = 256855 from (by decide +kernel)) w (by decide) rfl
set_option maxRecDepth 100000 in
set_option maxHeartbeats 4000000 in
theorem c16_X12_spelt (l : Launch) (D : va_G) (T : Nat → ClassId) (sz : Nat) : Met l yX12_spelt (Cond.code yX12_spelt cX12_spelt 9 (some .long) :: GW) (Rm 0 0 0) (cPre [.int (iI 115), .int (iI 116), .int (iI 114), .int (iI 101), .int (iI 101), .int (iI 116), .int (iI 0)] D T [] sz) (qL D [] sz (fun (v : Int64) (u : Unit) => (v = 283616147)) (fun u => [])) 0 0 (va_A [] sz) := by
  refine e_L (by decide) (Nat.le_of_ble_eq_true rfl) ?_
  intro p e s m args below meth c A Q ls M hin w ret hl
  have hx := M.1.1
  have hb := M.1.2.1
  have hl : lv_has ls 9 [(0, .int (iI 115)), (1, .int (iI 116)), (2, .int (iI 114)), (3, .int (iI 101)), (4, .int (iI 101)), (5, .int (iI 116)), (6, .int (iI 0))] := hl
  refine lv_ldc2 (v := 27) hx hb M.1.2.2.2.1 (M.1.2.2.2.2 _ G1641) dX12_spelt_0 ?_
  refine lv_iload_n hx hb dX12_spelt_3 rfl (lv_at hl 0 rfl) ?_
  refine lv_i2l (v := (Int32.toInt64 (iI 115))) hx hb dX12_spelt_4 rfl ?_
  refine lv_ldc2 (v := 96) hx hb M.1.2.2.2.1 (M.1.2.2.2.2 _ G1642) dX12_spelt_5 ?_
  refine r_lsub (v := ((Int32.toInt64 (iI 115)) - 96)) M rfl dX12_spelt_8 ?_
  refine r_lmul (v := (27 * ((Int32.toInt64 (iI 115)) - 96))) M rfl dX12_spelt_9 ?_
  refine lv_iload_n hx hb dX12_spelt_10 rfl (lv_at hl 1 rfl) ?_
  refine lv_i2l (v := (Int32.toInt64 (iI 116))) hx hb dX12_spelt_11 rfl ?_
  refine r_ladd (v := ((27 * ((Int32.toInt64 (iI 115)) - 96)) + (Int32.toInt64 (iI 116)))) M rfl dX12_spelt_12 ?_
  refine lv_ldc2 (v := 96) hx hb M.1.2.2.2.1 (M.1.2.2.2.2 _ G1642) dX12_spelt_13 ?_
  refine r_lsub (v := (((27 * ((Int32.toInt64 (iI 115)) - 96)) + (Int32.toInt64 (iI 116))) - 96)) M rfl dX12_spelt_16 ?_
  refine lv_lstore (lv' := [(7, .long (((27 * ((Int32.toInt64 (iI 115)) - 96)) + (Int32.toInt64 (iI 116))) - 96)), (0, .int (iI 115)), (1, .int (iI 116)), (2, .int (iI 114)), (3, .int (iI 101)), (4, .int (iI 101)), (5, .int (iI 116)), (6, .int (iI 0))]) hx hb dX12_spelt_17 hl (by decide) rfl (fun ls hl => ?_)
  refine lv_iload_n hx hb dX12_spelt_19 rfl (lv_at hl 3 rfl) ?_
  refine lv_if_le (tgt := 38) hx hb dX12_spelt_20 (by decide) (fun c => absurd c (by decide +kernel)) (fun _ => ?_)
  refine lv_ldc2 (v := 27) hx hb M.1.2.2.2.1 (M.1.2.2.2.2 _ G1641) dX12_spelt_23 ?_
  refine lv_lload hx hb dX12_spelt_26 (lv_at hl 0 rfl) ?_
  refine r_lmul (v := (27 * (((27 * ((Int32.toInt64 (iI 115)) - 96)) + (Int32.toInt64 (iI 116))) - 96))) M rfl dX12_spelt_28 ?_
  refine lv_iload_n hx hb dX12_spelt_29 rfl (lv_at hl 3 rfl) ?_
  refine lv_i2l (v := (Int32.toInt64 (iI 114))) hx hb dX12_spelt_30 rfl ?_
  refine r_ladd (v := ((27 * (((27 * ((Int32.toInt64 (iI 115)) - 96)) + (Int32.toInt64 (iI 116))) - 96)) + (Int32.toInt64 (iI 114)))) M rfl dX12_spelt_31 ?_
  refine lv_ldc2 (v := 96) hx hb M.1.2.2.2.1 (M.1.2.2.2.2 _ G1642) dX12_spelt_32 ?_
  refine r_lsub (v := (((27 * (((27 * ((Int32.toInt64 (iI 115)) - 96)) + (Int32.toInt64 (iI 116))) - 96)) + (Int32.toInt64 (iI 114))) - 96)) M rfl dX12_spelt_35 ?_
  refine lv_lstore (lv' := [(7, .long (((27 * (((27 * ((Int32.toInt64 (iI 115)) - 96)) + (Int32.toInt64 (iI 116))) - 96)) + (Int32.toInt64 (iI 114))) - 96)), (0, .int (iI 115)), (1, .int (iI 116)), (2, .int (iI 114)), (3, .int (iI 101)), (4, .int (iI 101)), (5, .int (iI 116)), (6, .int (iI 0))]) hx hb dX12_spelt_36 hl (by decide) rfl (fun ls hl => ?_)
  refine lv_iload_n hx hb dX12_spelt_38 rfl (lv_at hl 4 rfl) ?_
  refine lv_if_le (tgt := 57) hx hb dX12_spelt_39 (by decide) (fun c => absurd c (by decide +kernel)) (fun _ => ?_)
  refine lv_ldc2 (v := 27) hx hb M.1.2.2.2.1 (M.1.2.2.2.2 _ G1641) dX12_spelt_42 ?_
  refine lv_lload hx hb dX12_spelt_45 (lv_at hl 0 rfl) ?_
  refine r_lmul (v := (27 * (((27 * (((27 * ((Int32.toInt64 (iI 115)) - 96)) + (Int32.toInt64 (iI 116))) - 96)) + (Int32.toInt64 (iI 114))) - 96))) M rfl dX12_spelt_47 ?_
  refine lv_iload_n hx hb dX12_spelt_48 rfl (lv_at hl 4 rfl) ?_
  refine lv_i2l (v := (Int32.toInt64 (iI 101))) hx hb dX12_spelt_49 rfl ?_
  refine r_ladd (v := ((27 * (((27 * (((27 * ((Int32.toInt64 (iI 115)) - 96)) + (Int32.toInt64 (iI 116))) - 96)) + (Int32.toInt64 (iI 114))) - 96)) + (Int32.toInt64 (iI 101)))) M rfl dX12_spelt_50 ?_
  refine lv_ldc2 (v := 96) hx hb M.1.2.2.2.1 (M.1.2.2.2.2 _ G1642) dX12_spelt_51 ?_
  refine r_lsub (v := (((27 * (((27 * (((27 * ((Int32.toInt64 (iI 115)) - 96)) + (Int32.toInt64 (iI 116))) - 96)) + (Int32.toInt64 (iI 114))) - 96)) + (Int32.toInt64 (iI 101))) - 96)) M rfl dX12_spelt_54 ?_
  refine lv_lstore (lv' := [(7, .long (((27 * (((27 * (((27 * ((Int32.toInt64 (iI 115)) - 96)) + (Int32.toInt64 (iI 116))) - 96)) + (Int32.toInt64 (iI 114))) - 96)) + (Int32.toInt64 (iI 101))) - 96)), (0, .int (iI 115)), (1, .int (iI 116)), (2, .int (iI 114)), (3, .int (iI 101)), (4, .int (iI 101)), (5, .int (iI 116)), (6, .int (iI 0))]) hx hb dX12_spelt_55 hl (by decide) rfl (fun ls hl => ?_)
  refine lv_iload hx hb dX12_spelt_57 (lv_at hl 5 rfl) ?_
  refine lv_if_le (tgt := 78) hx hb dX12_spelt_59 (by decide) (fun c => absurd c (by decide +kernel)) (fun _ => ?_)
  refine lv_ldc2 (v := 27) hx hb M.1.2.2.2.1 (M.1.2.2.2.2 _ G1641) dX12_spelt_62 ?_
  refine lv_lload hx hb dX12_spelt_65 (lv_at hl 0 rfl) ?_
  refine r_lmul (v := (27 * (((27 * (((27 * (((27 * ((Int32.toInt64 (iI 115)) - 96)) + (Int32.toInt64 (iI 116))) - 96)) + (Int32.toInt64 (iI 114))) - 96)) + (Int32.toInt64 (iI 101))) - 96))) M rfl dX12_spelt_67 ?_
  refine lv_iload hx hb dX12_spelt_68 (lv_at hl 5 rfl) ?_
  refine lv_i2l (v := (Int32.toInt64 (iI 101))) hx hb dX12_spelt_70 rfl ?_
  refine r_ladd (v := ((27 * (((27 * (((27 * (((27 * ((Int32.toInt64 (iI 115)) - 96)) + (Int32.toInt64 (iI 116))) - 96)) + (Int32.toInt64 (iI 114))) - 96)) + (Int32.toInt64 (iI 101))) - 96)) + (Int32.toInt64 (iI 101)))) M rfl dX12_spelt_71 ?_
  refine lv_ldc2 (v := 96) hx hb M.1.2.2.2.1 (M.1.2.2.2.2 _ G1642) dX12_spelt_72 ?_
  refine r_lsub (v := (((27 * (((27 * (((27 * (((27 * ((Int32.toInt64 (iI 115)) - 96)) + (Int32.toInt64 (iI 116))) - 96)) + (Int32.toInt64 (iI 114))) - 96)) + (Int32.toInt64 (iI 101))) - 96)) + (Int32.toInt64 (iI 101))) - 96)) M rfl dX12_spelt_75 ?_
  refine lv_lstore (lv' := [(7, .long (((27 * (((27 * (((27 * (((27 * ((Int32.toInt64 (iI 115)) - 96)) + (Int32.toInt64 (iI 116))) - 96)) + (Int32.toInt64 (iI 114))) - 96)) + (Int32.toInt64 (iI 101))) - 96)) + (Int32.toInt64 (iI 101))) - 96)), (0, .int (iI 115)), (1, .int (iI 116)), (2, .int (iI 114)), (3, .int (iI 101)), (4, .int (iI 101)), (5, .int (iI 116)), (6, .int (iI 0))]) hx hb dX12_spelt_76 hl (by decide) rfl (fun ls hl => ?_)
  refine lv_iload hx hb dX12_spelt_78 (lv_at hl 6 rfl) ?_
  refine lv_if_le (tgt := 99) hx hb dX12_spelt_80 (by decide) (fun c => absurd c (by decide +kernel)) (fun _ => ?_)
  refine lv_ldc2 (v := 27) hx hb M.1.2.2.2.1 (M.1.2.2.2.2 _ G1641) dX12_spelt_83 ?_
  refine lv_lload hx hb dX12_spelt_86 (lv_at hl 0 rfl) ?_
  refine r_lmul (v := (27 * (((27 * (((27 * (((27 * (((27 * ((Int32.toInt64 (iI 115)) - 96)) + (Int32.toInt64 (iI 116))) - 96)) + (Int32.toInt64 (iI 114))) - 96)) + (Int32.toInt64 (iI 101))) - 96)) + (Int32.toInt64 (iI 101))) - 96))) M rfl dX12_spelt_88 ?_
  refine lv_iload hx hb dX12_spelt_89 (lv_at hl 6 rfl) ?_
  refine lv_i2l (v := (Int32.toInt64 (iI 116))) hx hb dX12_spelt_91 rfl ?_
  refine r_ladd (v := ((27 * (((27 * (((27 * (((27 * (((27 * ((Int32.toInt64 (iI 115)) - 96)) + (Int32.toInt64 (iI 116))) - 96)) + (Int32.toInt64 (iI 114))) - 96)) + (Int32.toInt64 (iI 101))) - 96)) + (Int32.toInt64 (iI 101))) - 96)) + (Int32.toInt64 (iI 116)))) M rfl dX12_spelt_92 ?_
  refine lv_ldc2 (v := 96) hx hb M.1.2.2.2.1 (M.1.2.2.2.2 _ G1642) dX12_spelt_93 ?_
  refine r_lsub (v := (((27 * (((27 * (((27 * (((27 * (((27 * ((Int32.toInt64 (iI 115)) - 96)) + (Int32.toInt64 (iI 116))) - 96)) + (Int32.toInt64 (iI 114))) - 96)) + (Int32.toInt64 (iI 101))) - 96)) + (Int32.toInt64 (iI 101))) - 96)) + (Int32.toInt64 (iI 116))) - 96)) M rfl dX12_spelt_96 ?_
  refine lv_lstore (lv' := [(7, .long (((27 * (((27 * (((27 * (((27 * (((27 * ((Int32.toInt64 (iI 115)) - 96)) + (Int32.toInt64 (iI 116))) - 96)) + (Int32.toInt64 (iI 114))) - 96)) + (Int32.toInt64 (iI 101))) - 96)) + (Int32.toInt64 (iI 101))) - 96)) + (Int32.toInt64 (iI 116))) - 96)), (0, .int (iI 115)), (1, .int (iI 116)), (2, .int (iI 114)), (3, .int (iI 101)), (4, .int (iI 101)), (5, .int (iI 116)), (6, .int (iI 0))]) hx hb dX12_spelt_97 hl (by decide) rfl (fun ls hl => ?_)
  refine lv_iload hx hb dX12_spelt_99 (lv_at hl 7 rfl) ?_
  refine lv_if_le (tgt := 120) hx hb dX12_spelt_101 (by decide) (fun _ => ?_) (fun c => absurd (by decide +kernel) c)
  refine lv_lload hx hb dX12_spelt_120 (lv_at hl 0 rfl) ?_
  exact ret _ () _ _ _ _ _ [] dX12_spelt_122 (show (((27 * (((27 * (((27 * (((27 * (((27 * ((Int32.toInt64 (iI 115)) - 96)) + (Int32.toInt64 (iI 116))) - 96)) + (Int32.toInt64 (iI 114))) - 96)) + (Int32.toInt64 (iI 101))) - 96)) + (Int32.toInt64 (iI 101))) - 96)) + (Int32.toInt64 (iI 116))) - 96) = 283616147 from (by decide +kernel)) w (by decide) rfl
set_option maxRecDepth 100000 in
set_option maxHeartbeats 4000000 in
theorem c17_X12_spelt (l : Launch) (D : va_G) (T : Nat → ClassId) (sz : Nat) : Met l yX12_spelt (Cond.code yX12_spelt cX12_spelt 9 (some .long) :: GW) (Rm 0 0 0) (cPre [.int (iI 100), .int (iI 111), .int (iI 110), .int (iI 101), .int (iI 0), .int (iI 0), .int (iI 0)] D T [] sz) (qL D [] sz (fun (v : Int64) (u : Unit) => (v = 90050)) (fun u => [])) 0 0 (va_A [] sz) := by
  refine e_L (by decide) (Nat.le_of_ble_eq_true rfl) ?_
  intro p e s m args below meth c A Q ls M hin w ret hl
  have hx := M.1.1
  have hb := M.1.2.1
  have hl : lv_has ls 9 [(0, .int (iI 100)), (1, .int (iI 111)), (2, .int (iI 110)), (3, .int (iI 101)), (4, .int (iI 0)), (5, .int (iI 0)), (6, .int (iI 0))] := hl
  refine lv_ldc2 (v := 27) hx hb M.1.2.2.2.1 (M.1.2.2.2.2 _ G1641) dX12_spelt_0 ?_
  refine lv_iload_n hx hb dX12_spelt_3 rfl (lv_at hl 0 rfl) ?_
  refine lv_i2l (v := (Int32.toInt64 (iI 100))) hx hb dX12_spelt_4 rfl ?_
  refine lv_ldc2 (v := 96) hx hb M.1.2.2.2.1 (M.1.2.2.2.2 _ G1642) dX12_spelt_5 ?_
  refine r_lsub (v := ((Int32.toInt64 (iI 100)) - 96)) M rfl dX12_spelt_8 ?_
  refine r_lmul (v := (27 * ((Int32.toInt64 (iI 100)) - 96))) M rfl dX12_spelt_9 ?_
  refine lv_iload_n hx hb dX12_spelt_10 rfl (lv_at hl 1 rfl) ?_
  refine lv_i2l (v := (Int32.toInt64 (iI 111))) hx hb dX12_spelt_11 rfl ?_
  refine r_ladd (v := ((27 * ((Int32.toInt64 (iI 100)) - 96)) + (Int32.toInt64 (iI 111)))) M rfl dX12_spelt_12 ?_
  refine lv_ldc2 (v := 96) hx hb M.1.2.2.2.1 (M.1.2.2.2.2 _ G1642) dX12_spelt_13 ?_
  refine r_lsub (v := (((27 * ((Int32.toInt64 (iI 100)) - 96)) + (Int32.toInt64 (iI 111))) - 96)) M rfl dX12_spelt_16 ?_
  refine lv_lstore (lv' := [(7, .long (((27 * ((Int32.toInt64 (iI 100)) - 96)) + (Int32.toInt64 (iI 111))) - 96)), (0, .int (iI 100)), (1, .int (iI 111)), (2, .int (iI 110)), (3, .int (iI 101)), (4, .int (iI 0)), (5, .int (iI 0)), (6, .int (iI 0))]) hx hb dX12_spelt_17 hl (by decide) rfl (fun ls hl => ?_)
  refine lv_iload_n hx hb dX12_spelt_19 rfl (lv_at hl 3 rfl) ?_
  refine lv_if_le (tgt := 38) hx hb dX12_spelt_20 (by decide) (fun c => absurd c (by decide +kernel)) (fun _ => ?_)
  refine lv_ldc2 (v := 27) hx hb M.1.2.2.2.1 (M.1.2.2.2.2 _ G1641) dX12_spelt_23 ?_
  refine lv_lload hx hb dX12_spelt_26 (lv_at hl 0 rfl) ?_
  refine r_lmul (v := (27 * (((27 * ((Int32.toInt64 (iI 100)) - 96)) + (Int32.toInt64 (iI 111))) - 96))) M rfl dX12_spelt_28 ?_
  refine lv_iload_n hx hb dX12_spelt_29 rfl (lv_at hl 3 rfl) ?_
  refine lv_i2l (v := (Int32.toInt64 (iI 110))) hx hb dX12_spelt_30 rfl ?_
  refine r_ladd (v := ((27 * (((27 * ((Int32.toInt64 (iI 100)) - 96)) + (Int32.toInt64 (iI 111))) - 96)) + (Int32.toInt64 (iI 110)))) M rfl dX12_spelt_31 ?_
  refine lv_ldc2 (v := 96) hx hb M.1.2.2.2.1 (M.1.2.2.2.2 _ G1642) dX12_spelt_32 ?_
  refine r_lsub (v := (((27 * (((27 * ((Int32.toInt64 (iI 100)) - 96)) + (Int32.toInt64 (iI 111))) - 96)) + (Int32.toInt64 (iI 110))) - 96)) M rfl dX12_spelt_35 ?_
  refine lv_lstore (lv' := [(7, .long (((27 * (((27 * ((Int32.toInt64 (iI 100)) - 96)) + (Int32.toInt64 (iI 111))) - 96)) + (Int32.toInt64 (iI 110))) - 96)), (0, .int (iI 100)), (1, .int (iI 111)), (2, .int (iI 110)), (3, .int (iI 101)), (4, .int (iI 0)), (5, .int (iI 0)), (6, .int (iI 0))]) hx hb dX12_spelt_36 hl (by decide) rfl (fun ls hl => ?_)
  refine lv_iload_n hx hb dX12_spelt_38 rfl (lv_at hl 4 rfl) ?_
  refine lv_if_le (tgt := 57) hx hb dX12_spelt_39 (by decide) (fun c => absurd c (by decide +kernel)) (fun _ => ?_)
  refine lv_ldc2 (v := 27) hx hb M.1.2.2.2.1 (M.1.2.2.2.2 _ G1641) dX12_spelt_42 ?_
  refine lv_lload hx hb dX12_spelt_45 (lv_at hl 0 rfl) ?_
  refine r_lmul (v := (27 * (((27 * (((27 * ((Int32.toInt64 (iI 100)) - 96)) + (Int32.toInt64 (iI 111))) - 96)) + (Int32.toInt64 (iI 110))) - 96))) M rfl dX12_spelt_47 ?_
  refine lv_iload_n hx hb dX12_spelt_48 rfl (lv_at hl 4 rfl) ?_
  refine lv_i2l (v := (Int32.toInt64 (iI 101))) hx hb dX12_spelt_49 rfl ?_
  refine r_ladd (v := ((27 * (((27 * (((27 * ((Int32.toInt64 (iI 100)) - 96)) + (Int32.toInt64 (iI 111))) - 96)) + (Int32.toInt64 (iI 110))) - 96)) + (Int32.toInt64 (iI 101)))) M rfl dX12_spelt_50 ?_
  refine lv_ldc2 (v := 96) hx hb M.1.2.2.2.1 (M.1.2.2.2.2 _ G1642) dX12_spelt_51 ?_
  refine r_lsub (v := (((27 * (((27 * (((27 * ((Int32.toInt64 (iI 100)) - 96)) + (Int32.toInt64 (iI 111))) - 96)) + (Int32.toInt64 (iI 110))) - 96)) + (Int32.toInt64 (iI 101))) - 96)) M rfl dX12_spelt_54 ?_
  refine lv_lstore (lv' := [(7, .long (((27 * (((27 * (((27 * ((Int32.toInt64 (iI 100)) - 96)) + (Int32.toInt64 (iI 111))) - 96)) + (Int32.toInt64 (iI 110))) - 96)) + (Int32.toInt64 (iI 101))) - 96)), (0, .int (iI 100)), (1, .int (iI 111)), (2, .int (iI 110)), (3, .int (iI 101)), (4, .int (iI 0)), (5, .int (iI 0)), (6, .int (iI 0))]) hx hb dX12_spelt_55 hl (by decide) rfl (fun ls hl => ?_)
  refine lv_iload hx hb dX12_spelt_57 (lv_at hl 5 rfl) ?_
  refine lv_if_le (tgt := 78) hx hb dX12_spelt_59 (by decide) (fun _ => ?_) (fun c => absurd (by decide +kernel) c)
  refine lv_iload hx hb dX12_spelt_78 (lv_at hl 6 rfl) ?_
  refine lv_if_le (tgt := 99) hx hb dX12_spelt_80 (by decide) (fun _ => ?_) (fun c => absurd (by decide +kernel) c)
  refine lv_iload hx hb dX12_spelt_99 (lv_at hl 7 rfl) ?_
  refine lv_if_le (tgt := 120) hx hb dX12_spelt_101 (by decide) (fun _ => ?_) (fun c => absurd (by decide +kernel) c)
  refine lv_lload hx hb dX12_spelt_120 (lv_at hl 0 rfl) ?_
  exact ret _ () _ _ _ _ _ [] dX12_spelt_122 (show (((27 * (((27 * (((27 * ((Int32.toInt64 (iI 100)) - 96)) + (Int32.toInt64 (iI 111))) - 96)) + (Int32.toInt64 (iI 110))) - 96)) + (Int32.toInt64 (iI 101))) - 96) = 90050 from (by decide +kernel)) w (by decide) rfl
set_option maxRecDepth 100000 in
set_option maxHeartbeats 4000000 in
theorem c18_X12_spelt (l : Launch) (D : va_G) (T : Nat → ClassId) (sz : Nat) : Met l yX12_spelt (Cond.code yX12_spelt cX12_spelt 9 (some .long) :: GW) (Rm 0 0 0) (cPre [.int (iI 115), .int (iI 112), .int (iI 97), .int (iI 114), .int (iI 101), .int (iI 0), .int (iI 0)] D T [] sz) (qL D [] sz (fun (v : Int64) (u : Unit) => (v = 10413527)) (fun u => [])) 0 0 (va_A [] sz) := by
  refine e_L (by decide) (Nat.le_of_ble_eq_true rfl) ?_
  intro p e s m args below meth c A Q ls M hin w ret hl
  have hx := M.1.1
  have hb := M.1.2.1
  have hl : lv_has ls 9 [(0, .int (iI 115)), (1, .int (iI 112)), (2, .int (iI 97)), (3, .int (iI 114)), (4, .int (iI 101)), (5, .int (iI 0)), (6, .int (iI 0))] := hl
  refine lv_ldc2 (v := 27) hx hb M.1.2.2.2.1 (M.1.2.2.2.2 _ G1641) dX12_spelt_0 ?_
  refine lv_iload_n hx hb dX12_spelt_3 rfl (lv_at hl 0 rfl) ?_
  refine lv_i2l (v := (Int32.toInt64 (iI 115))) hx hb dX12_spelt_4 rfl ?_
  refine lv_ldc2 (v := 96) hx hb M.1.2.2.2.1 (M.1.2.2.2.2 _ G1642) dX12_spelt_5 ?_
  refine r_lsub (v := ((Int32.toInt64 (iI 115)) - 96)) M rfl dX12_spelt_8 ?_
  refine r_lmul (v := (27 * ((Int32.toInt64 (iI 115)) - 96))) M rfl dX12_spelt_9 ?_
  refine lv_iload_n hx hb dX12_spelt_10 rfl (lv_at hl 1 rfl) ?_
  refine lv_i2l (v := (Int32.toInt64 (iI 112))) hx hb dX12_spelt_11 rfl ?_
  refine r_ladd (v := ((27 * ((Int32.toInt64 (iI 115)) - 96)) + (Int32.toInt64 (iI 112)))) M rfl dX12_spelt_12 ?_
  refine lv_ldc2 (v := 96) hx hb M.1.2.2.2.1 (M.1.2.2.2.2 _ G1642) dX12_spelt_13 ?_
  refine r_lsub (v := (((27 * ((Int32.toInt64 (iI 115)) - 96)) + (Int32.toInt64 (iI 112))) - 96)) M rfl dX12_spelt_16 ?_
  refine lv_lstore (lv' := [(7, .long (((27 * ((Int32.toInt64 (iI 115)) - 96)) + (Int32.toInt64 (iI 112))) - 96)), (0, .int (iI 115)), (1, .int (iI 112)), (2, .int (iI 97)), (3, .int (iI 114)), (4, .int (iI 101)), (5, .int (iI 0)), (6, .int (iI 0))]) hx hb dX12_spelt_17 hl (by decide) rfl (fun ls hl => ?_)
  refine lv_iload_n hx hb dX12_spelt_19 rfl (lv_at hl 3 rfl) ?_
  refine lv_if_le (tgt := 38) hx hb dX12_spelt_20 (by decide) (fun c => absurd c (by decide +kernel)) (fun _ => ?_)
  refine lv_ldc2 (v := 27) hx hb M.1.2.2.2.1 (M.1.2.2.2.2 _ G1641) dX12_spelt_23 ?_
  refine lv_lload hx hb dX12_spelt_26 (lv_at hl 0 rfl) ?_
  refine r_lmul (v := (27 * (((27 * ((Int32.toInt64 (iI 115)) - 96)) + (Int32.toInt64 (iI 112))) - 96))) M rfl dX12_spelt_28 ?_
  refine lv_iload_n hx hb dX12_spelt_29 rfl (lv_at hl 3 rfl) ?_
  refine lv_i2l (v := (Int32.toInt64 (iI 97))) hx hb dX12_spelt_30 rfl ?_
  refine r_ladd (v := ((27 * (((27 * ((Int32.toInt64 (iI 115)) - 96)) + (Int32.toInt64 (iI 112))) - 96)) + (Int32.toInt64 (iI 97)))) M rfl dX12_spelt_31 ?_
  refine lv_ldc2 (v := 96) hx hb M.1.2.2.2.1 (M.1.2.2.2.2 _ G1642) dX12_spelt_32 ?_
  refine r_lsub (v := (((27 * (((27 * ((Int32.toInt64 (iI 115)) - 96)) + (Int32.toInt64 (iI 112))) - 96)) + (Int32.toInt64 (iI 97))) - 96)) M rfl dX12_spelt_35 ?_
  refine lv_lstore (lv' := [(7, .long (((27 * (((27 * ((Int32.toInt64 (iI 115)) - 96)) + (Int32.toInt64 (iI 112))) - 96)) + (Int32.toInt64 (iI 97))) - 96)), (0, .int (iI 115)), (1, .int (iI 112)), (2, .int (iI 97)), (3, .int (iI 114)), (4, .int (iI 101)), (5, .int (iI 0)), (6, .int (iI 0))]) hx hb dX12_spelt_36 hl (by decide) rfl (fun ls hl => ?_)
  refine lv_iload_n hx hb dX12_spelt_38 rfl (lv_at hl 4 rfl) ?_
  refine lv_if_le (tgt := 57) hx hb dX12_spelt_39 (by decide) (fun c => absurd c (by decide +kernel)) (fun _ => ?_)
  refine lv_ldc2 (v := 27) hx hb M.1.2.2.2.1 (M.1.2.2.2.2 _ G1641) dX12_spelt_42 ?_
  refine lv_lload hx hb dX12_spelt_45 (lv_at hl 0 rfl) ?_
  refine r_lmul (v := (27 * (((27 * (((27 * ((Int32.toInt64 (iI 115)) - 96)) + (Int32.toInt64 (iI 112))) - 96)) + (Int32.toInt64 (iI 97))) - 96))) M rfl dX12_spelt_47 ?_
  refine lv_iload_n hx hb dX12_spelt_48 rfl (lv_at hl 4 rfl) ?_
  refine lv_i2l (v := (Int32.toInt64 (iI 114))) hx hb dX12_spelt_49 rfl ?_
  refine r_ladd (v := ((27 * (((27 * (((27 * ((Int32.toInt64 (iI 115)) - 96)) + (Int32.toInt64 (iI 112))) - 96)) + (Int32.toInt64 (iI 97))) - 96)) + (Int32.toInt64 (iI 114)))) M rfl dX12_spelt_50 ?_
  refine lv_ldc2 (v := 96) hx hb M.1.2.2.2.1 (M.1.2.2.2.2 _ G1642) dX12_spelt_51 ?_
  refine r_lsub (v := (((27 * (((27 * (((27 * ((Int32.toInt64 (iI 115)) - 96)) + (Int32.toInt64 (iI 112))) - 96)) + (Int32.toInt64 (iI 97))) - 96)) + (Int32.toInt64 (iI 114))) - 96)) M rfl dX12_spelt_54 ?_
  refine lv_lstore (lv' := [(7, .long (((27 * (((27 * (((27 * ((Int32.toInt64 (iI 115)) - 96)) + (Int32.toInt64 (iI 112))) - 96)) + (Int32.toInt64 (iI 97))) - 96)) + (Int32.toInt64 (iI 114))) - 96)), (0, .int (iI 115)), (1, .int (iI 112)), (2, .int (iI 97)), (3, .int (iI 114)), (4, .int (iI 101)), (5, .int (iI 0)), (6, .int (iI 0))]) hx hb dX12_spelt_55 hl (by decide) rfl (fun ls hl => ?_)
  refine lv_iload hx hb dX12_spelt_57 (lv_at hl 5 rfl) ?_
  refine lv_if_le (tgt := 78) hx hb dX12_spelt_59 (by decide) (fun c => absurd c (by decide +kernel)) (fun _ => ?_)
  refine lv_ldc2 (v := 27) hx hb M.1.2.2.2.1 (M.1.2.2.2.2 _ G1641) dX12_spelt_62 ?_
  refine lv_lload hx hb dX12_spelt_65 (lv_at hl 0 rfl) ?_
  refine r_lmul (v := (27 * (((27 * (((27 * (((27 * ((Int32.toInt64 (iI 115)) - 96)) + (Int32.toInt64 (iI 112))) - 96)) + (Int32.toInt64 (iI 97))) - 96)) + (Int32.toInt64 (iI 114))) - 96))) M rfl dX12_spelt_67 ?_
  refine lv_iload hx hb dX12_spelt_68 (lv_at hl 5 rfl) ?_
  refine lv_i2l (v := (Int32.toInt64 (iI 101))) hx hb dX12_spelt_70 rfl ?_
  refine r_ladd (v := ((27 * (((27 * (((27 * (((27 * ((Int32.toInt64 (iI 115)) - 96)) + (Int32.toInt64 (iI 112))) - 96)) + (Int32.toInt64 (iI 97))) - 96)) + (Int32.toInt64 (iI 114))) - 96)) + (Int32.toInt64 (iI 101)))) M rfl dX12_spelt_71 ?_
  refine lv_ldc2 (v := 96) hx hb M.1.2.2.2.1 (M.1.2.2.2.2 _ G1642) dX12_spelt_72 ?_
  refine r_lsub (v := (((27 * (((27 * (((27 * (((27 * ((Int32.toInt64 (iI 115)) - 96)) + (Int32.toInt64 (iI 112))) - 96)) + (Int32.toInt64 (iI 97))) - 96)) + (Int32.toInt64 (iI 114))) - 96)) + (Int32.toInt64 (iI 101))) - 96)) M rfl dX12_spelt_75 ?_
  refine lv_lstore (lv' := [(7, .long (((27 * (((27 * (((27 * (((27 * ((Int32.toInt64 (iI 115)) - 96)) + (Int32.toInt64 (iI 112))) - 96)) + (Int32.toInt64 (iI 97))) - 96)) + (Int32.toInt64 (iI 114))) - 96)) + (Int32.toInt64 (iI 101))) - 96)), (0, .int (iI 115)), (1, .int (iI 112)), (2, .int (iI 97)), (3, .int (iI 114)), (4, .int (iI 101)), (5, .int (iI 0)), (6, .int (iI 0))]) hx hb dX12_spelt_76 hl (by decide) rfl (fun ls hl => ?_)
  refine lv_iload hx hb dX12_spelt_78 (lv_at hl 6 rfl) ?_
  refine lv_if_le (tgt := 99) hx hb dX12_spelt_80 (by decide) (fun _ => ?_) (fun c => absurd (by decide +kernel) c)
  refine lv_iload hx hb dX12_spelt_99 (lv_at hl 7 rfl) ?_
  refine lv_if_le (tgt := 120) hx hb dX12_spelt_101 (by decide) (fun _ => ?_) (fun c => absurd (by decide +kernel) c)
  refine lv_lload hx hb dX12_spelt_120 (lv_at hl 0 rfl) ?_
  exact ret _ () _ _ _ _ _ [] dX12_spelt_122 (show (((27 * (((27 * (((27 * (((27 * ((Int32.toInt64 (iI 115)) - 96)) + (Int32.toInt64 (iI 112))) - 96)) + (Int32.toInt64 (iI 97))) - 96)) + (Int32.toInt64 (iI 114))) - 96)) + (Int32.toInt64 (iI 101))) - 96) = 10413527 from (by decide +kernel)) w (by decide) rfl
set_option maxRecDepth 100000 in
set_option maxHeartbeats 4000000 in
theorem c19_X12_spelt (l : Launch) (D : va_G) (T : Nat → ClassId) (sz : Nat) : Met l yX12_spelt (Cond.code yX12_spelt cX12_spelt 9 (some .long) :: GW) (Rm 0 0 0) (cPre [.int (iI 121), .int (iI 101), .int (iI 97), .int (iI 114), .int (iI 0), .int (iI 0), .int (iI 0)] D T [] sz) (qL D [] sz (fun (v : Int64) (u : Unit) => (v = 495765)) (fun u => [])) 0 0 (va_A [] sz) := by
  refine e_L (by decide) (Nat.le_of_ble_eq_true rfl) ?_
  intro p e s m args below meth c A Q ls M hin w ret hl
  have hx := M.1.1
  have hb := M.1.2.1
  have hl : lv_has ls 9 [(0, .int (iI 121)), (1, .int (iI 101)), (2, .int (iI 97)), (3, .int (iI 114)), (4, .int (iI 0)), (5, .int (iI 0)), (6, .int (iI 0))] := hl
  refine lv_ldc2 (v := 27) hx hb M.1.2.2.2.1 (M.1.2.2.2.2 _ G1641) dX12_spelt_0 ?_
  refine lv_iload_n hx hb dX12_spelt_3 rfl (lv_at hl 0 rfl) ?_
  refine lv_i2l (v := (Int32.toInt64 (iI 121))) hx hb dX12_spelt_4 rfl ?_
  refine lv_ldc2 (v := 96) hx hb M.1.2.2.2.1 (M.1.2.2.2.2 _ G1642) dX12_spelt_5 ?_
  refine r_lsub (v := ((Int32.toInt64 (iI 121)) - 96)) M rfl dX12_spelt_8 ?_
  refine r_lmul (v := (27 * ((Int32.toInt64 (iI 121)) - 96))) M rfl dX12_spelt_9 ?_
  refine lv_iload_n hx hb dX12_spelt_10 rfl (lv_at hl 1 rfl) ?_
  refine lv_i2l (v := (Int32.toInt64 (iI 101))) hx hb dX12_spelt_11 rfl ?_
  refine r_ladd (v := ((27 * ((Int32.toInt64 (iI 121)) - 96)) + (Int32.toInt64 (iI 101)))) M rfl dX12_spelt_12 ?_
  refine lv_ldc2 (v := 96) hx hb M.1.2.2.2.1 (M.1.2.2.2.2 _ G1642) dX12_spelt_13 ?_
  refine r_lsub (v := (((27 * ((Int32.toInt64 (iI 121)) - 96)) + (Int32.toInt64 (iI 101))) - 96)) M rfl dX12_spelt_16 ?_
  refine lv_lstore (lv' := [(7, .long (((27 * ((Int32.toInt64 (iI 121)) - 96)) + (Int32.toInt64 (iI 101))) - 96)), (0, .int (iI 121)), (1, .int (iI 101)), (2, .int (iI 97)), (3, .int (iI 114)), (4, .int (iI 0)), (5, .int (iI 0)), (6, .int (iI 0))]) hx hb dX12_spelt_17 hl (by decide) rfl (fun ls hl => ?_)
  refine lv_iload_n hx hb dX12_spelt_19 rfl (lv_at hl 3 rfl) ?_
  refine lv_if_le (tgt := 38) hx hb dX12_spelt_20 (by decide) (fun c => absurd c (by decide +kernel)) (fun _ => ?_)
  refine lv_ldc2 (v := 27) hx hb M.1.2.2.2.1 (M.1.2.2.2.2 _ G1641) dX12_spelt_23 ?_
  refine lv_lload hx hb dX12_spelt_26 (lv_at hl 0 rfl) ?_
  refine r_lmul (v := (27 * (((27 * ((Int32.toInt64 (iI 121)) - 96)) + (Int32.toInt64 (iI 101))) - 96))) M rfl dX12_spelt_28 ?_
  refine lv_iload_n hx hb dX12_spelt_29 rfl (lv_at hl 3 rfl) ?_
  refine lv_i2l (v := (Int32.toInt64 (iI 97))) hx hb dX12_spelt_30 rfl ?_
  refine r_ladd (v := ((27 * (((27 * ((Int32.toInt64 (iI 121)) - 96)) + (Int32.toInt64 (iI 101))) - 96)) + (Int32.toInt64 (iI 97)))) M rfl dX12_spelt_31 ?_
  refine lv_ldc2 (v := 96) hx hb M.1.2.2.2.1 (M.1.2.2.2.2 _ G1642) dX12_spelt_32 ?_
  refine r_lsub (v := (((27 * (((27 * ((Int32.toInt64 (iI 121)) - 96)) + (Int32.toInt64 (iI 101))) - 96)) + (Int32.toInt64 (iI 97))) - 96)) M rfl dX12_spelt_35 ?_
  refine lv_lstore (lv' := [(7, .long (((27 * (((27 * ((Int32.toInt64 (iI 121)) - 96)) + (Int32.toInt64 (iI 101))) - 96)) + (Int32.toInt64 (iI 97))) - 96)), (0, .int (iI 121)), (1, .int (iI 101)), (2, .int (iI 97)), (3, .int (iI 114)), (4, .int (iI 0)), (5, .int (iI 0)), (6, .int (iI 0))]) hx hb dX12_spelt_36 hl (by decide) rfl (fun ls hl => ?_)
  refine lv_iload_n hx hb dX12_spelt_38 rfl (lv_at hl 4 rfl) ?_
  refine lv_if_le (tgt := 57) hx hb dX12_spelt_39 (by decide) (fun c => absurd c (by decide +kernel)) (fun _ => ?_)
  refine lv_ldc2 (v := 27) hx hb M.1.2.2.2.1 (M.1.2.2.2.2 _ G1641) dX12_spelt_42 ?_
  refine lv_lload hx hb dX12_spelt_45 (lv_at hl 0 rfl) ?_
  refine r_lmul (v := (27 * (((27 * (((27 * ((Int32.toInt64 (iI 121)) - 96)) + (Int32.toInt64 (iI 101))) - 96)) + (Int32.toInt64 (iI 97))) - 96))) M rfl dX12_spelt_47 ?_
  refine lv_iload_n hx hb dX12_spelt_48 rfl (lv_at hl 4 rfl) ?_
  refine lv_i2l (v := (Int32.toInt64 (iI 114))) hx hb dX12_spelt_49 rfl ?_
  refine r_ladd (v := ((27 * (((27 * (((27 * ((Int32.toInt64 (iI 121)) - 96)) + (Int32.toInt64 (iI 101))) - 96)) + (Int32.toInt64 (iI 97))) - 96)) + (Int32.toInt64 (iI 114)))) M rfl dX12_spelt_50 ?_
  refine lv_ldc2 (v := 96) hx hb M.1.2.2.2.1 (M.1.2.2.2.2 _ G1642) dX12_spelt_51 ?_
  refine r_lsub (v := (((27 * (((27 * (((27 * ((Int32.toInt64 (iI 121)) - 96)) + (Int32.toInt64 (iI 101))) - 96)) + (Int32.toInt64 (iI 97))) - 96)) + (Int32.toInt64 (iI 114))) - 96)) M rfl dX12_spelt_54 ?_
  refine lv_lstore (lv' := [(7, .long (((27 * (((27 * (((27 * ((Int32.toInt64 (iI 121)) - 96)) + (Int32.toInt64 (iI 101))) - 96)) + (Int32.toInt64 (iI 97))) - 96)) + (Int32.toInt64 (iI 114))) - 96)), (0, .int (iI 121)), (1, .int (iI 101)), (2, .int (iI 97)), (3, .int (iI 114)), (4, .int (iI 0)), (5, .int (iI 0)), (6, .int (iI 0))]) hx hb dX12_spelt_55 hl (by decide) rfl (fun ls hl => ?_)
  refine lv_iload hx hb dX12_spelt_57 (lv_at hl 5 rfl) ?_
  refine lv_if_le (tgt := 78) hx hb dX12_spelt_59 (by decide) (fun _ => ?_) (fun c => absurd (by decide +kernel) c)
  refine lv_iload hx hb dX12_spelt_78 (lv_at hl 6 rfl) ?_
  refine lv_if_le (tgt := 99) hx hb dX12_spelt_80 (by decide) (fun _ => ?_) (fun c => absurd (by decide +kernel) c)
  refine lv_iload hx hb dX12_spelt_99 (lv_at hl 7 rfl) ?_
  refine lv_if_le (tgt := 120) hx hb dX12_spelt_101 (by decide) (fun _ => ?_) (fun c => absurd (by decide +kernel) c)
  refine lv_lload hx hb dX12_spelt_120 (lv_at hl 0 rfl) ?_
  exact ret _ () _ _ _ _ _ [] dX12_spelt_122 (show (((27 * (((27 * (((27 * ((Int32.toInt64 (iI 121)) - 96)) + (Int32.toInt64 (iI 101))) - 96)) + (Int32.toInt64 (iI 97))) - 96)) + (Int32.toInt64 (iI 114))) - 96) = 495765 from (by decide +kernel)) w (by decide) rfl
set_option maxRecDepth 100000 in
set_option maxHeartbeats 4000000 in
theorem c20_X12_spelt (l : Launch) (D : va_G) (T : Nat → ClassId) (sz : Nat) : Met l yX12_spelt (Cond.code yX12_spelt cX12_spelt 9 (some .long) :: GW) (Rm 0 0 0) (cPre [.int (iI 106), .int (iI 117), .int (iI 108), .int (iI 121), .int (iI 0), .int (iI 0), .int (iI 0)] D T [] sz) (qL D [] sz (fun (v : Int64) (u : Unit) => (v = 212488)) (fun u => [])) 0 0 (va_A [] sz) := by
  refine e_L (by decide) (Nat.le_of_ble_eq_true rfl) ?_
  intro p e s m args below meth c A Q ls M hin w ret hl
  have hx := M.1.1
  have hb := M.1.2.1
  have hl : lv_has ls 9 [(0, .int (iI 106)), (1, .int (iI 117)), (2, .int (iI 108)), (3, .int (iI 121)), (4, .int (iI 0)), (5, .int (iI 0)), (6, .int (iI 0))] := hl
  refine lv_ldc2 (v := 27) hx hb M.1.2.2.2.1 (M.1.2.2.2.2 _ G1641) dX12_spelt_0 ?_
  refine lv_iload_n hx hb dX12_spelt_3 rfl (lv_at hl 0 rfl) ?_
  refine lv_i2l (v := (Int32.toInt64 (iI 106))) hx hb dX12_spelt_4 rfl ?_
  refine lv_ldc2 (v := 96) hx hb M.1.2.2.2.1 (M.1.2.2.2.2 _ G1642) dX12_spelt_5 ?_
  refine r_lsub (v := ((Int32.toInt64 (iI 106)) - 96)) M rfl dX12_spelt_8 ?_
  refine r_lmul (v := (27 * ((Int32.toInt64 (iI 106)) - 96))) M rfl dX12_spelt_9 ?_
  refine lv_iload_n hx hb dX12_spelt_10 rfl (lv_at hl 1 rfl) ?_
  refine lv_i2l (v := (Int32.toInt64 (iI 117))) hx hb dX12_spelt_11 rfl ?_
  refine r_ladd (v := ((27 * ((Int32.toInt64 (iI 106)) - 96)) + (Int32.toInt64 (iI 117)))) M rfl dX12_spelt_12 ?_
  refine lv_ldc2 (v := 96) hx hb M.1.2.2.2.1 (M.1.2.2.2.2 _ G1642) dX12_spelt_13 ?_
  refine r_lsub (v := (((27 * ((Int32.toInt64 (iI 106)) - 96)) + (Int32.toInt64 (iI 117))) - 96)) M rfl dX12_spelt_16 ?_
  refine lv_lstore (lv' := [(7, .long (((27 * ((Int32.toInt64 (iI 106)) - 96)) + (Int32.toInt64 (iI 117))) - 96)), (0, .int (iI 106)), (1, .int (iI 117)), (2, .int (iI 108)), (3, .int (iI 121)), (4, .int (iI 0)), (5, .int (iI 0)), (6, .int (iI 0))]) hx hb dX12_spelt_17 hl (by decide) rfl (fun ls hl => ?_)
  refine lv_iload_n hx hb dX12_spelt_19 rfl (lv_at hl 3 rfl) ?_
  refine lv_if_le (tgt := 38) hx hb dX12_spelt_20 (by decide) (fun c => absurd c (by decide +kernel)) (fun _ => ?_)
  refine lv_ldc2 (v := 27) hx hb M.1.2.2.2.1 (M.1.2.2.2.2 _ G1641) dX12_spelt_23 ?_
  refine lv_lload hx hb dX12_spelt_26 (lv_at hl 0 rfl) ?_
  refine r_lmul (v := (27 * (((27 * ((Int32.toInt64 (iI 106)) - 96)) + (Int32.toInt64 (iI 117))) - 96))) M rfl dX12_spelt_28 ?_
  refine lv_iload_n hx hb dX12_spelt_29 rfl (lv_at hl 3 rfl) ?_
  refine lv_i2l (v := (Int32.toInt64 (iI 108))) hx hb dX12_spelt_30 rfl ?_
  refine r_ladd (v := ((27 * (((27 * ((Int32.toInt64 (iI 106)) - 96)) + (Int32.toInt64 (iI 117))) - 96)) + (Int32.toInt64 (iI 108)))) M rfl dX12_spelt_31 ?_
  refine lv_ldc2 (v := 96) hx hb M.1.2.2.2.1 (M.1.2.2.2.2 _ G1642) dX12_spelt_32 ?_
  refine r_lsub (v := (((27 * (((27 * ((Int32.toInt64 (iI 106)) - 96)) + (Int32.toInt64 (iI 117))) - 96)) + (Int32.toInt64 (iI 108))) - 96)) M rfl dX12_spelt_35 ?_
  refine lv_lstore (lv' := [(7, .long (((27 * (((27 * ((Int32.toInt64 (iI 106)) - 96)) + (Int32.toInt64 (iI 117))) - 96)) + (Int32.toInt64 (iI 108))) - 96)), (0, .int (iI 106)), (1, .int (iI 117)), (2, .int (iI 108)), (3, .int (iI 121)), (4, .int (iI 0)), (5, .int (iI 0)), (6, .int (iI 0))]) hx hb dX12_spelt_36 hl (by decide) rfl (fun ls hl => ?_)
  refine lv_iload_n hx hb dX12_spelt_38 rfl (lv_at hl 4 rfl) ?_
  refine lv_if_le (tgt := 57) hx hb dX12_spelt_39 (by decide) (fun c => absurd c (by decide +kernel)) (fun _ => ?_)
  refine lv_ldc2 (v := 27) hx hb M.1.2.2.2.1 (M.1.2.2.2.2 _ G1641) dX12_spelt_42 ?_
  refine lv_lload hx hb dX12_spelt_45 (lv_at hl 0 rfl) ?_
  refine r_lmul (v := (27 * (((27 * (((27 * ((Int32.toInt64 (iI 106)) - 96)) + (Int32.toInt64 (iI 117))) - 96)) + (Int32.toInt64 (iI 108))) - 96))) M rfl dX12_spelt_47 ?_
  refine lv_iload_n hx hb dX12_spelt_48 rfl (lv_at hl 4 rfl) ?_
  refine lv_i2l (v := (Int32.toInt64 (iI 121))) hx hb dX12_spelt_49 rfl ?_
  refine r_ladd (v := ((27 * (((27 * (((27 * ((Int32.toInt64 (iI 106)) - 96)) + (Int32.toInt64 (iI 117))) - 96)) + (Int32.toInt64 (iI 108))) - 96)) + (Int32.toInt64 (iI 121)))) M rfl dX12_spelt_50 ?_
  refine lv_ldc2 (v := 96) hx hb M.1.2.2.2.1 (M.1.2.2.2.2 _ G1642) dX12_spelt_51 ?_
  refine r_lsub (v := (((27 * (((27 * (((27 * ((Int32.toInt64 (iI 106)) - 96)) + (Int32.toInt64 (iI 117))) - 96)) + (Int32.toInt64 (iI 108))) - 96)) + (Int32.toInt64 (iI 121))) - 96)) M rfl dX12_spelt_54 ?_
  refine lv_lstore (lv' := [(7, .long (((27 * (((27 * (((27 * ((Int32.toInt64 (iI 106)) - 96)) + (Int32.toInt64 (iI 117))) - 96)) + (Int32.toInt64 (iI 108))) - 96)) + (Int32.toInt64 (iI 121))) - 96)), (0, .int (iI 106)), (1, .int (iI 117)), (2, .int (iI 108)), (3, .int (iI 121)), (4, .int (iI 0)), (5, .int (iI 0)), (6, .int (iI 0))]) hx hb dX12_spelt_55 hl (by decide) rfl (fun ls hl => ?_)
  refine lv_iload hx hb dX12_spelt_57 (lv_at hl 5 rfl) ?_
  refine lv_if_le (tgt := 78) hx hb dX12_spelt_59 (by decide) (fun _ => ?_) (fun c => absurd (by decide +kernel) c)
  refine lv_iload hx hb dX12_spelt_78 (lv_at hl 6 rfl) ?_
  refine lv_if_le (tgt := 99) hx hb dX12_spelt_80 (by decide) (fun _ => ?_) (fun c => absurd (by decide +kernel) c)
  refine lv_iload hx hb dX12_spelt_99 (lv_at hl 7 rfl) ?_
  refine lv_if_le (tgt := 120) hx hb dX12_spelt_101 (by decide) (fun _ => ?_) (fun c => absurd (by decide +kernel) c)
  refine lv_lload hx hb dX12_spelt_120 (lv_at hl 0 rfl) ?_
  exact ret _ () _ _ _ _ _ [] dX12_spelt_122 (show (((27 * (((27 * (((27 * ((Int32.toInt64 (iI 106)) - 96)) + (Int32.toInt64 (iI 117))) - 96)) + (Int32.toInt64 (iI 108))) - 96)) + (Int32.toInt64 (iI 121))) - 96) = 212488 from (by decide +kernel)) w (by decide) rfl
set_option maxRecDepth 100000 in
set_option maxHeartbeats 4000000 in
theorem c21_X12_spelt (l : Launch) (D : va_G) (T : Nat → ClassId) (sz : Nat) : Met l yX12_spelt (Cond.code yX12_spelt cX12_spelt 9 (some .long) :: GW) (Rm 0 0 0) (cPre [.int (iI 112), .int (iI 101), .int (iI 97), .int (iI 114), .int (iI 108), .int (iI 0), .int (iI 0)] D T [] sz) (qL D [] sz (fun (v : Int64) (u : Unit) => (v = 8602698)) (fun u => [])) 0 0 (va_A [] sz) := by
  refine e_L (by decide) (Nat.le_of_ble_eq_true rfl) ?_
  intro p e s m args below meth c A Q ls M hin w ret hl
  have hx := M.1.1
  have hb := M.1.2.1
  have hl : lv_has ls 9 [(0, .int (iI 112)), (1, .int (iI 101)), (2, .int (iI 97)), (3, .int (iI 114)), (4, .int (iI 108)), (5, .int (iI 0)), (6, .int (iI 0))] := hl
  refine lv_ldc2 (v := 27) hx hb M.1.2.2.2.1 (M.1.2.2.2.2 _ G1641) dX12_spelt_0 ?_
  refine lv_iload_n hx hb dX12_spelt_3 rfl (lv_at hl 0 rfl) ?_
  refine lv_i2l (v := (Int32.toInt64 (iI 112))) hx hb dX12_spelt_4 rfl ?_
  refine lv_ldc2 (v := 96) hx hb M.1.2.2.2.1 (M.1.2.2.2.2 _ G1642) dX12_spelt_5 ?_
  refine r_lsub (v := ((Int32.toInt64 (iI 112)) - 96)) M rfl dX12_spelt_8 ?_
  refine r_lmul (v := (27 * ((Int32.toInt64 (iI 112)) - 96))) M rfl dX12_spelt_9 ?_
  refine lv_iload_n hx hb dX12_spelt_10 rfl (lv_at hl 1 rfl) ?_
  refine lv_i2l (v := (Int32.toInt64 (iI 101))) hx hb dX12_spelt_11 rfl ?_
  refine r_ladd (v := ((27 * ((Int32.toInt64 (iI 112)) - 96)) + (Int32.toInt64 (iI 101)))) M rfl dX12_spelt_12 ?_
  refine lv_ldc2 (v := 96) hx hb M.1.2.2.2.1 (M.1.2.2.2.2 _ G1642) dX12_spelt_13 ?_
  refine r_lsub (v := (((27 * ((Int32.toInt64 (iI 112)) - 96)) + (Int32.toInt64 (iI 101))) - 96)) M rfl dX12_spelt_16 ?_
  refine lv_lstore (lv' := [(7, .long (((27 * ((Int32.toInt64 (iI 112)) - 96)) + (Int32.toInt64 (iI 101))) - 96)), (0, .int (iI 112)), (1, .int (iI 101)), (2, .int (iI 97)), (3, .int (iI 114)), (4, .int (iI 108)), (5, .int (iI 0)), (6, .int (iI 0))]) hx hb dX12_spelt_17 hl (by decide) rfl (fun ls hl => ?_)
  refine lv_iload_n hx hb dX12_spelt_19 rfl (lv_at hl 3 rfl) ?_
  refine lv_if_le (tgt := 38) hx hb dX12_spelt_20 (by decide) (fun c => absurd c (by decide +kernel)) (fun _ => ?_)
  refine lv_ldc2 (v := 27) hx hb M.1.2.2.2.1 (M.1.2.2.2.2 _ G1641) dX12_spelt_23 ?_
  refine lv_lload hx hb dX12_spelt_26 (lv_at hl 0 rfl) ?_
  refine r_lmul (v := (27 * (((27 * ((Int32.toInt64 (iI 112)) - 96)) + (Int32.toInt64 (iI 101))) - 96))) M rfl dX12_spelt_28 ?_
  refine lv_iload_n hx hb dX12_spelt_29 rfl (lv_at hl 3 rfl) ?_
  refine lv_i2l (v := (Int32.toInt64 (iI 97))) hx hb dX12_spelt_30 rfl ?_
  refine r_ladd (v := ((27 * (((27 * ((Int32.toInt64 (iI 112)) - 96)) + (Int32.toInt64 (iI 101))) - 96)) + (Int32.toInt64 (iI 97)))) M rfl dX12_spelt_31 ?_
  refine lv_ldc2 (v := 96) hx hb M.1.2.2.2.1 (M.1.2.2.2.2 _ G1642) dX12_spelt_32 ?_
  refine r_lsub (v := (((27 * (((27 * ((Int32.toInt64 (iI 112)) - 96)) + (Int32.toInt64 (iI 101))) - 96)) + (Int32.toInt64 (iI 97))) - 96)) M rfl dX12_spelt_35 ?_
  refine lv_lstore (lv' := [(7, .long (((27 * (((27 * ((Int32.toInt64 (iI 112)) - 96)) + (Int32.toInt64 (iI 101))) - 96)) + (Int32.toInt64 (iI 97))) - 96)), (0, .int (iI 112)), (1, .int (iI 101)), (2, .int (iI 97)), (3, .int (iI 114)), (4, .int (iI 108)), (5, .int (iI 0)), (6, .int (iI 0))]) hx hb dX12_spelt_36 hl (by decide) rfl (fun ls hl => ?_)
  refine lv_iload_n hx hb dX12_spelt_38 rfl (lv_at hl 4 rfl) ?_
  refine lv_if_le (tgt := 57) hx hb dX12_spelt_39 (by decide) (fun c => absurd c (by decide +kernel)) (fun _ => ?_)
  refine lv_ldc2 (v := 27) hx hb M.1.2.2.2.1 (M.1.2.2.2.2 _ G1641) dX12_spelt_42 ?_
  refine lv_lload hx hb dX12_spelt_45 (lv_at hl 0 rfl) ?_
  refine r_lmul (v := (27 * (((27 * (((27 * ((Int32.toInt64 (iI 112)) - 96)) + (Int32.toInt64 (iI 101))) - 96)) + (Int32.toInt64 (iI 97))) - 96))) M rfl dX12_spelt_47 ?_
  refine lv_iload_n hx hb dX12_spelt_48 rfl (lv_at hl 4 rfl) ?_
  refine lv_i2l (v := (Int32.toInt64 (iI 114))) hx hb dX12_spelt_49 rfl ?_
  refine r_ladd (v := ((27 * (((27 * (((27 * ((Int32.toInt64 (iI 112)) - 96)) + (Int32.toInt64 (iI 101))) - 96)) + (Int32.toInt64 (iI 97))) - 96)) + (Int32.toInt64 (iI 114)))) M rfl dX12_spelt_50 ?_
  refine lv_ldc2 (v := 96) hx hb M.1.2.2.2.1 (M.1.2.2.2.2 _ G1642) dX12_spelt_51 ?_
  refine r_lsub (v := (((27 * (((27 * (((27 * ((Int32.toInt64 (iI 112)) - 96)) + (Int32.toInt64 (iI 101))) - 96)) + (Int32.toInt64 (iI 97))) - 96)) + (Int32.toInt64 (iI 114))) - 96)) M rfl dX12_spelt_54 ?_
  refine lv_lstore (lv' := [(7, .long (((27 * (((27 * (((27 * ((Int32.toInt64 (iI 112)) - 96)) + (Int32.toInt64 (iI 101))) - 96)) + (Int32.toInt64 (iI 97))) - 96)) + (Int32.toInt64 (iI 114))) - 96)), (0, .int (iI 112)), (1, .int (iI 101)), (2, .int (iI 97)), (3, .int (iI 114)), (4, .int (iI 108)), (5, .int (iI 0)), (6, .int (iI 0))]) hx hb dX12_spelt_55 hl (by decide) rfl (fun ls hl => ?_)
  refine lv_iload hx hb dX12_spelt_57 (lv_at hl 5 rfl) ?_
  refine lv_if_le (tgt := 78) hx hb dX12_spelt_59 (by decide) (fun c => absurd c (by decide +kernel)) (fun _ => ?_)
  refine lv_ldc2 (v := 27) hx hb M.1.2.2.2.1 (M.1.2.2.2.2 _ G1641) dX12_spelt_62 ?_
  refine lv_lload hx hb dX12_spelt_65 (lv_at hl 0 rfl) ?_
  refine r_lmul (v := (27 * (((27 * (((27 * (((27 * ((Int32.toInt64 (iI 112)) - 96)) + (Int32.toInt64 (iI 101))) - 96)) + (Int32.toInt64 (iI 97))) - 96)) + (Int32.toInt64 (iI 114))) - 96))) M rfl dX12_spelt_67 ?_
  refine lv_iload hx hb dX12_spelt_68 (lv_at hl 5 rfl) ?_
  refine lv_i2l (v := (Int32.toInt64 (iI 108))) hx hb dX12_spelt_70 rfl ?_
  refine r_ladd (v := ((27 * (((27 * (((27 * (((27 * ((Int32.toInt64 (iI 112)) - 96)) + (Int32.toInt64 (iI 101))) - 96)) + (Int32.toInt64 (iI 97))) - 96)) + (Int32.toInt64 (iI 114))) - 96)) + (Int32.toInt64 (iI 108)))) M rfl dX12_spelt_71 ?_
  refine lv_ldc2 (v := 96) hx hb M.1.2.2.2.1 (M.1.2.2.2.2 _ G1642) dX12_spelt_72 ?_
  refine r_lsub (v := (((27 * (((27 * (((27 * (((27 * ((Int32.toInt64 (iI 112)) - 96)) + (Int32.toInt64 (iI 101))) - 96)) + (Int32.toInt64 (iI 97))) - 96)) + (Int32.toInt64 (iI 114))) - 96)) + (Int32.toInt64 (iI 108))) - 96)) M rfl dX12_spelt_75 ?_
  refine lv_lstore (lv' := [(7, .long (((27 * (((27 * (((27 * (((27 * ((Int32.toInt64 (iI 112)) - 96)) + (Int32.toInt64 (iI 101))) - 96)) + (Int32.toInt64 (iI 97))) - 96)) + (Int32.toInt64 (iI 114))) - 96)) + (Int32.toInt64 (iI 108))) - 96)), (0, .int (iI 112)), (1, .int (iI 101)), (2, .int (iI 97)), (3, .int (iI 114)), (4, .int (iI 108)), (5, .int (iI 0)), (6, .int (iI 0))]) hx hb dX12_spelt_76 hl (by decide) rfl (fun ls hl => ?_)
  refine lv_iload hx hb dX12_spelt_78 (lv_at hl 6 rfl) ?_
  refine lv_if_le (tgt := 99) hx hb dX12_spelt_80 (by decide) (fun _ => ?_) (fun c => absurd (by decide +kernel) c)
  refine lv_iload hx hb dX12_spelt_99 (lv_at hl 7 rfl) ?_
  refine lv_if_le (tgt := 120) hx hb dX12_spelt_101 (by decide) (fun _ => ?_) (fun c => absurd (by decide +kernel) c)
  refine lv_lload hx hb dX12_spelt_120 (lv_at hl 0 rfl) ?_
  exact ret _ () _ _ _ _ _ [] dX12_spelt_122 (show (((27 * (((27 * (((27 * (((27 * ((Int32.toInt64 (iI 112)) - 96)) + (Int32.toInt64 (iI 101))) - 96)) + (Int32.toInt64 (iI 97))) - 96)) + (Int32.toInt64 (iI 114))) - 96)) + (Int32.toInt64 (iI 108))) - 96) = 8602698 from (by decide +kernel)) w (by decide) rfl
set_option maxRecDepth 100000 in
set_option maxHeartbeats 4000000 in
theorem c22_X12_spelt (l : Launch) (D : va_G) (T : Nat → ClassId) (sz : Nat) : Met l yX12_spelt (Cond.code yX12_spelt cX12_spelt 9 (some .long) :: GW) (Rm 0 0 0) (cPre [.int (iI 98), .int (iI 111), .int (iI 110), .int (iI 101), .int (iI 0), .int (iI 0), .int (iI 0)] D T [] sz) (qL D [] sz (fun (v : Int64) (u : Unit) => (v = 50684)) (fun u => [])) 0 0 (va_A [] sz) := by
  refine e_L (by decide) (Nat.le_of_ble_eq_true rfl) ?_
  intro p e s m args below meth c A Q ls M hin w ret hl
  have hx := M.1.1
  have hb := M.1.2.1
  have hl : lv_has ls 9 [(0, .int (iI 98)), (1, .int (iI 111)), (2, .int (iI 110)), (3, .int (iI 101)), (4, .int (iI 0)), (5, .int (iI 0)), (6, .int (iI 0))] := hl
  refine lv_ldc2 (v := 27) hx hb M.1.2.2.2.1 (M.1.2.2.2.2 _ G1641) dX12_spelt_0 ?_
  refine lv_iload_n hx hb dX12_spelt_3 rfl (lv_at hl 0 rfl) ?_
  refine lv_i2l (v := (Int32.toInt64 (iI 98))) hx hb dX12_spelt_4 rfl ?_
  refine lv_ldc2 (v := 96) hx hb M.1.2.2.2.1 (M.1.2.2.2.2 _ G1642) dX12_spelt_5 ?_
  refine r_lsub (v := ((Int32.toInt64 (iI 98)) - 96)) M rfl dX12_spelt_8 ?_
  refine r_lmul (v := (27 * ((Int32.toInt64 (iI 98)) - 96))) M rfl dX12_spelt_9 ?_
  refine lv_iload_n hx hb dX12_spelt_10 rfl (lv_at hl 1 rfl) ?_
  refine lv_i2l (v := (Int32.toInt64 (iI 111))) hx hb dX12_spelt_11 rfl ?_
  refine r_ladd (v := ((27 * ((Int32.toInt64 (iI 98)) - 96)) + (Int32.toInt64 (iI 111)))) M rfl dX12_spelt_12 ?_
  refine lv_ldc2 (v := 96) hx hb M.1.2.2.2.1 (M.1.2.2.2.2 _ G1642) dX12_spelt_13 ?_
  refine r_lsub (v := (((27 * ((Int32.toInt64 (iI 98)) - 96)) + (Int32.toInt64 (iI 111))) - 96)) M rfl dX12_spelt_16 ?_
  refine lv_lstore (lv' := [(7, .long (((27 * ((Int32.toInt64 (iI 98)) - 96)) + (Int32.toInt64 (iI 111))) - 96)), (0, .int (iI 98)), (1, .int (iI 111)), (2, .int (iI 110)), (3, .int (iI 101)), (4, .int (iI 0)), (5, .int (iI 0)), (6, .int (iI 0))]) hx hb dX12_spelt_17 hl (by decide) rfl (fun ls hl => ?_)
  refine lv_iload_n hx hb dX12_spelt_19 rfl (lv_at hl 3 rfl) ?_
  refine lv_if_le (tgt := 38) hx hb dX12_spelt_20 (by decide) (fun c => absurd c (by decide +kernel)) (fun _ => ?_)
  refine lv_ldc2 (v := 27) hx hb M.1.2.2.2.1 (M.1.2.2.2.2 _ G1641) dX12_spelt_23 ?_
  refine lv_lload hx hb dX12_spelt_26 (lv_at hl 0 rfl) ?_
  refine r_lmul (v := (27 * (((27 * ((Int32.toInt64 (iI 98)) - 96)) + (Int32.toInt64 (iI 111))) - 96))) M rfl dX12_spelt_28 ?_
  refine lv_iload_n hx hb dX12_spelt_29 rfl (lv_at hl 3 rfl) ?_
  refine lv_i2l (v := (Int32.toInt64 (iI 110))) hx hb dX12_spelt_30 rfl ?_
  refine r_ladd (v := ((27 * (((27 * ((Int32.toInt64 (iI 98)) - 96)) + (Int32.toInt64 (iI 111))) - 96)) + (Int32.toInt64 (iI 110)))) M rfl dX12_spelt_31 ?_
  refine lv_ldc2 (v := 96) hx hb M.1.2.2.2.1 (M.1.2.2.2.2 _ G1642) dX12_spelt_32 ?_
  refine r_lsub (v := (((27 * (((27 * ((Int32.toInt64 (iI 98)) - 96)) + (Int32.toInt64 (iI 111))) - 96)) + (Int32.toInt64 (iI 110))) - 96)) M rfl dX12_spelt_35 ?_
  refine lv_lstore (lv' := [(7, .long (((27 * (((27 * ((Int32.toInt64 (iI 98)) - 96)) + (Int32.toInt64 (iI 111))) - 96)) + (Int32.toInt64 (iI 110))) - 96)), (0, .int (iI 98)), (1, .int (iI 111)), (2, .int (iI 110)), (3, .int (iI 101)), (4, .int (iI 0)), (5, .int (iI 0)), (6, .int (iI 0))]) hx hb dX12_spelt_36 hl (by decide) rfl (fun ls hl => ?_)
  refine lv_iload_n hx hb dX12_spelt_38 rfl (lv_at hl 4 rfl) ?_
  refine lv_if_le (tgt := 57) hx hb dX12_spelt_39 (by decide) (fun c => absurd c (by decide +kernel)) (fun _ => ?_)
  refine lv_ldc2 (v := 27) hx hb M.1.2.2.2.1 (M.1.2.2.2.2 _ G1641) dX12_spelt_42 ?_
  refine lv_lload hx hb dX12_spelt_45 (lv_at hl 0 rfl) ?_
  refine r_lmul (v := (27 * (((27 * (((27 * ((Int32.toInt64 (iI 98)) - 96)) + (Int32.toInt64 (iI 111))) - 96)) + (Int32.toInt64 (iI 110))) - 96))) M rfl dX12_spelt_47 ?_
  refine lv_iload_n hx hb dX12_spelt_48 rfl (lv_at hl 4 rfl) ?_
  refine lv_i2l (v := (Int32.toInt64 (iI 101))) hx hb dX12_spelt_49 rfl ?_
  refine r_ladd (v := ((27 * (((27 * (((27 * ((Int32.toInt64 (iI 98)) - 96)) + (Int32.toInt64 (iI 111))) - 96)) + (Int32.toInt64 (iI 110))) - 96)) + (Int32.toInt64 (iI 101)))) M rfl dX12_spelt_50 ?_
  refine lv_ldc2 (v := 96) hx hb M.1.2.2.2.1 (M.1.2.2.2.2 _ G1642) dX12_spelt_51 ?_
  refine r_lsub (v := (((27 * (((27 * (((27 * ((Int32.toInt64 (iI 98)) - 96)) + (Int32.toInt64 (iI 111))) - 96)) + (Int32.toInt64 (iI 110))) - 96)) + (Int32.toInt64 (iI 101))) - 96)) M rfl dX12_spelt_54 ?_
  refine lv_lstore (lv' := [(7, .long (((27 * (((27 * (((27 * ((Int32.toInt64 (iI 98)) - 96)) + (Int32.toInt64 (iI 111))) - 96)) + (Int32.toInt64 (iI 110))) - 96)) + (Int32.toInt64 (iI 101))) - 96)), (0, .int (iI 98)), (1, .int (iI 111)), (2, .int (iI 110)), (3, .int (iI 101)), (4, .int (iI 0)), (5, .int (iI 0)), (6, .int (iI 0))]) hx hb dX12_spelt_55 hl (by decide) rfl (fun ls hl => ?_)
  refine lv_iload hx hb dX12_spelt_57 (lv_at hl 5 rfl) ?_
  refine lv_if_le (tgt := 78) hx hb dX12_spelt_59 (by decide) (fun _ => ?_) (fun c => absurd (by decide +kernel) c)
  refine lv_iload hx hb dX12_spelt_78 (lv_at hl 6 rfl) ?_
  refine lv_if_le (tgt := 99) hx hb dX12_spelt_80 (by decide) (fun _ => ?_) (fun c => absurd (by decide +kernel) c)
  refine lv_iload hx hb dX12_spelt_99 (lv_at hl 7 rfl) ?_
  refine lv_if_le (tgt := 120) hx hb dX12_spelt_101 (by decide) (fun _ => ?_) (fun c => absurd (by decide +kernel) c)
  refine lv_lload hx hb dX12_spelt_120 (lv_at hl 0 rfl) ?_
  exact ret _ () _ _ _ _ _ [] dX12_spelt_122 (show (((27 * (((27 * (((27 * ((Int32.toInt64 (iI 98)) - 96)) + (Int32.toInt64 (iI 111))) - 96)) + (Int32.toInt64 (iI 110))) - 96)) + (Int32.toInt64 (iI 101))) - 96) = 50684 from (by decide +kernel)) w (by decide) rfl
set_option maxRecDepth 100000 in
set_option maxHeartbeats 4000000 in
theorem c23_X12_spelt (l : Launch) (D : va_G) (T : Nat → ClassId) (sz : Nat) : Met l yX12_spelt (Cond.code yX12_spelt cX12_spelt 9 (some .long) :: GW) (Rm 0 0 0) (cPre [.int (iI 98), .int (iI 114), .int (iI 97), .int (iI 115), .int (iI 115), .int (iI 0), .int (iI 0)] D T [] sz) (qL D [] sz (fun (v : Int64) (u : Unit) => (v = 1418437)) (fun u => [])) 0 0 (va_A [] sz) := by
  refine e_L (by decide) (Nat.le_of_ble_eq_true rfl) ?_
  intro p e s m args below meth c A Q ls M hin w ret hl
  have hx := M.1.1
  have hb := M.1.2.1
  have hl : lv_has ls 9 [(0, .int (iI 98)), (1, .int (iI 114)), (2, .int (iI 97)), (3, .int (iI 115)), (4, .int (iI 115)), (5, .int (iI 0)), (6, .int (iI 0))] := hl
  refine lv_ldc2 (v := 27) hx hb M.1.2.2.2.1 (M.1.2.2.2.2 _ G1641) dX12_spelt_0 ?_
  refine lv_iload_n hx hb dX12_spelt_3 rfl (lv_at hl 0 rfl) ?_
  refine lv_i2l (v := (Int32.toInt64 (iI 98))) hx hb dX12_spelt_4 rfl ?_
  refine lv_ldc2 (v := 96) hx hb M.1.2.2.2.1 (M.1.2.2.2.2 _ G1642) dX12_spelt_5 ?_
  refine r_lsub (v := ((Int32.toInt64 (iI 98)) - 96)) M rfl dX12_spelt_8 ?_
  refine r_lmul (v := (27 * ((Int32.toInt64 (iI 98)) - 96))) M rfl dX12_spelt_9 ?_
  refine lv_iload_n hx hb dX12_spelt_10 rfl (lv_at hl 1 rfl) ?_
  refine lv_i2l (v := (Int32.toInt64 (iI 114))) hx hb dX12_spelt_11 rfl ?_
  refine r_ladd (v := ((27 * ((Int32.toInt64 (iI 98)) - 96)) + (Int32.toInt64 (iI 114)))) M rfl dX12_spelt_12 ?_
  refine lv_ldc2 (v := 96) hx hb M.1.2.2.2.1 (M.1.2.2.2.2 _ G1642) dX12_spelt_13 ?_
  refine r_lsub (v := (((27 * ((Int32.toInt64 (iI 98)) - 96)) + (Int32.toInt64 (iI 114))) - 96)) M rfl dX12_spelt_16 ?_
  refine lv_lstore (lv' := [(7, .long (((27 * ((Int32.toInt64 (iI 98)) - 96)) + (Int32.toInt64 (iI 114))) - 96)), (0, .int (iI 98)), (1, .int (iI 114)), (2, .int (iI 97)), (3, .int (iI 115)), (4, .int (iI 115)), (5, .int (iI 0)), (6, .int (iI 0))]) hx hb dX12_spelt_17 hl (by decide) rfl (fun ls hl => ?_)
  refine lv_iload_n hx hb dX12_spelt_19 rfl (lv_at hl 3 rfl) ?_
  refine lv_if_le (tgt := 38) hx hb dX12_spelt_20 (by decide) (fun c => absurd c (by decide +kernel)) (fun _ => ?_)
  refine lv_ldc2 (v := 27) hx hb M.1.2.2.2.1 (M.1.2.2.2.2 _ G1641) dX12_spelt_23 ?_
  refine lv_lload hx hb dX12_spelt_26 (lv_at hl 0 rfl) ?_
  refine r_lmul (v := (27 * (((27 * ((Int32.toInt64 (iI 98)) - 96)) + (Int32.toInt64 (iI 114))) - 96))) M rfl dX12_spelt_28 ?_
  refine lv_iload_n hx hb dX12_spelt_29 rfl (lv_at hl 3 rfl) ?_
  refine lv_i2l (v := (Int32.toInt64 (iI 97))) hx hb dX12_spelt_30 rfl ?_
  refine r_ladd (v := ((27 * (((27 * ((Int32.toInt64 (iI 98)) - 96)) + (Int32.toInt64 (iI 114))) - 96)) + (Int32.toInt64 (iI 97)))) M rfl dX12_spelt_31 ?_
  refine lv_ldc2 (v := 96) hx hb M.1.2.2.2.1 (M.1.2.2.2.2 _ G1642) dX12_spelt_32 ?_
  refine r_lsub (v := (((27 * (((27 * ((Int32.toInt64 (iI 98)) - 96)) + (Int32.toInt64 (iI 114))) - 96)) + (Int32.toInt64 (iI 97))) - 96)) M rfl dX12_spelt_35 ?_
  refine lv_lstore (lv' := [(7, .long (((27 * (((27 * ((Int32.toInt64 (iI 98)) - 96)) + (Int32.toInt64 (iI 114))) - 96)) + (Int32.toInt64 (iI 97))) - 96)), (0, .int (iI 98)), (1, .int (iI 114)), (2, .int (iI 97)), (3, .int (iI 115)), (4, .int (iI 115)), (5, .int (iI 0)), (6, .int (iI 0))]) hx hb dX12_spelt_36 hl (by decide) rfl (fun ls hl => ?_)
  refine lv_iload_n hx hb dX12_spelt_38 rfl (lv_at hl 4 rfl) ?_
  refine lv_if_le (tgt := 57) hx hb dX12_spelt_39 (by decide) (fun c => absurd c (by decide +kernel)) (fun _ => ?_)
  refine lv_ldc2 (v := 27) hx hb M.1.2.2.2.1 (M.1.2.2.2.2 _ G1641) dX12_spelt_42 ?_
  refine lv_lload hx hb dX12_spelt_45 (lv_at hl 0 rfl) ?_
  refine r_lmul (v := (27 * (((27 * (((27 * ((Int32.toInt64 (iI 98)) - 96)) + (Int32.toInt64 (iI 114))) - 96)) + (Int32.toInt64 (iI 97))) - 96))) M rfl dX12_spelt_47 ?_
  refine lv_iload_n hx hb dX12_spelt_48 rfl (lv_at hl 4 rfl) ?_
  refine lv_i2l (v := (Int32.toInt64 (iI 115))) hx hb dX12_spelt_49 rfl ?_
  refine r_ladd (v := ((27 * (((27 * (((27 * ((Int32.toInt64 (iI 98)) - 96)) + (Int32.toInt64 (iI 114))) - 96)) + (Int32.toInt64 (iI 97))) - 96)) + (Int32.toInt64 (iI 115)))) M rfl dX12_spelt_50 ?_
  refine lv_ldc2 (v := 96) hx hb M.1.2.2.2.1 (M.1.2.2.2.2 _ G1642) dX12_spelt_51 ?_
  refine r_lsub (v := (((27 * (((27 * (((27 * ((Int32.toInt64 (iI 98)) - 96)) + (Int32.toInt64 (iI 114))) - 96)) + (Int32.toInt64 (iI 97))) - 96)) + (Int32.toInt64 (iI 115))) - 96)) M rfl dX12_spelt_54 ?_
  refine lv_lstore (lv' := [(7, .long (((27 * (((27 * (((27 * ((Int32.toInt64 (iI 98)) - 96)) + (Int32.toInt64 (iI 114))) - 96)) + (Int32.toInt64 (iI 97))) - 96)) + (Int32.toInt64 (iI 115))) - 96)), (0, .int (iI 98)), (1, .int (iI 114)), (2, .int (iI 97)), (3, .int (iI 115)), (4, .int (iI 115)), (5, .int (iI 0)), (6, .int (iI 0))]) hx hb dX12_spelt_55 hl (by decide) rfl (fun ls hl => ?_)
  refine lv_iload hx hb dX12_spelt_57 (lv_at hl 5 rfl) ?_
  refine lv_if_le (tgt := 78) hx hb dX12_spelt_59 (by decide) (fun c => absurd c (by decide +kernel)) (fun _ => ?_)
  refine lv_ldc2 (v := 27) hx hb M.1.2.2.2.1 (M.1.2.2.2.2 _ G1641) dX12_spelt_62 ?_
  refine lv_lload hx hb dX12_spelt_65 (lv_at hl 0 rfl) ?_
  refine r_lmul (v := (27 * (((27 * (((27 * (((27 * ((Int32.toInt64 (iI 98)) - 96)) + (Int32.toInt64 (iI 114))) - 96)) + (Int32.toInt64 (iI 97))) - 96)) + (Int32.toInt64 (iI 115))) - 96))) M rfl dX12_spelt_67 ?_
  refine lv_iload hx hb dX12_spelt_68 (lv_at hl 5 rfl) ?_
  refine lv_i2l (v := (Int32.toInt64 (iI 115))) hx hb dX12_spelt_70 rfl ?_
  refine r_ladd (v := ((27 * (((27 * (((27 * (((27 * ((Int32.toInt64 (iI 98)) - 96)) + (Int32.toInt64 (iI 114))) - 96)) + (Int32.toInt64 (iI 97))) - 96)) + (Int32.toInt64 (iI 115))) - 96)) + (Int32.toInt64 (iI 115)))) M rfl dX12_spelt_71 ?_
  refine lv_ldc2 (v := 96) hx hb M.1.2.2.2.1 (M.1.2.2.2.2 _ G1642) dX12_spelt_72 ?_
  refine r_lsub (v := (((27 * (((27 * (((27 * (((27 * ((Int32.toInt64 (iI 98)) - 96)) + (Int32.toInt64 (iI 114))) - 96)) + (Int32.toInt64 (iI 97))) - 96)) + (Int32.toInt64 (iI 115))) - 96)) + (Int32.toInt64 (iI 115))) - 96)) M rfl dX12_spelt_75 ?_
  refine lv_lstore (lv' := [(7, .long (((27 * (((27 * (((27 * (((27 * ((Int32.toInt64 (iI 98)) - 96)) + (Int32.toInt64 (iI 114))) - 96)) + (Int32.toInt64 (iI 97))) - 96)) + (Int32.toInt64 (iI 115))) - 96)) + (Int32.toInt64 (iI 115))) - 96)), (0, .int (iI 98)), (1, .int (iI 114)), (2, .int (iI 97)), (3, .int (iI 115)), (4, .int (iI 115)), (5, .int (iI 0)), (6, .int (iI 0))]) hx hb dX12_spelt_76 hl (by decide) rfl (fun ls hl => ?_)
  refine lv_iload hx hb dX12_spelt_78 (lv_at hl 6 rfl) ?_
  refine lv_if_le (tgt := 99) hx hb dX12_spelt_80 (by decide) (fun _ => ?_) (fun c => absurd (by decide +kernel) c)
  refine lv_iload hx hb dX12_spelt_99 (lv_at hl 7 rfl) ?_
  refine lv_if_le (tgt := 120) hx hb dX12_spelt_101 (by decide) (fun _ => ?_) (fun c => absurd (by decide +kernel) c)
  refine lv_lload hx hb dX12_spelt_120 (lv_at hl 0 rfl) ?_
  exact ret _ () _ _ _ _ _ [] dX12_spelt_122 (show (((27 * (((27 * (((27 * (((27 * ((Int32.toInt64 (iI 98)) - 96)) + (Int32.toInt64 (iI 114))) - 96)) + (Int32.toInt64 (iI 97))) - 96)) + (Int32.toInt64 (iI 115))) - 96)) + (Int32.toInt64 (iI 115))) - 96) = 1418437 from (by decide +kernel)) w (by decide) rfl
set_option maxRecDepth 100000 in
set_option maxHeartbeats 4000000 in
theorem c24_X12_spelt (l : Launch) (D : va_G) (T : Nat → ClassId) (sz : Nat) : Met l yX12_spelt (Cond.code yX12_spelt cX12_spelt 9 (some .long) :: GW) (Rm 0 0 0) (cPre [.int (iI 103), .int (iI 108), .int (iI 97), .int (iI 115), .int (iI 115), .int (iI 0), .int (iI 0)] D T [] sz) (qL D [] sz (fun (v : Int64) (u : Unit) => (v = 3957544)) (fun u => [])) 0 0 (va_A [] sz) := by
  refine e_L (by decide) (Nat.le_of_ble_eq_true rfl) ?_
  intro p e s m args below meth c A Q ls M hin w ret hl
  have hx := M.1.1
  have hb := M.1.2.1
  have hl : lv_has ls 9 [(0, .int (iI 103)), (1, .int (iI 108)), (2, .int (iI 97)), (3, .int (iI 115)), (4, .int (iI 115)), (5, .int (iI 0)), (6, .int (iI 0))] := hl
  refine lv_ldc2 (v := 27) hx hb M.1.2.2.2.1 (M.1.2.2.2.2 _ G1641) dX12_spelt_0 ?_
  refine lv_iload_n hx hb dX12_spelt_3 rfl (lv_at hl 0 rfl) ?_
  refine lv_i2l (v := (Int32.toInt64 (iI 103))) hx hb dX12_spelt_4 rfl ?_
  refine lv_ldc2 (v := 96) hx hb M.1.2.2.2.1 (M.1.2.2.2.2 _ G1642) dX12_spelt_5 ?_
  refine r_lsub (v := ((Int32.toInt64 (iI 103)) - 96)) M rfl dX12_spelt_8 ?_
  refine r_lmul (v := (27 * ((Int32.toInt64 (iI 103)) - 96))) M rfl dX12_spelt_9 ?_
  refine lv_iload_n hx hb dX12_spelt_10 rfl (lv_at hl 1 rfl) ?_
  refine lv_i2l (v := (Int32.toInt64 (iI 108))) hx hb dX12_spelt_11 rfl ?_
  refine r_ladd (v := ((27 * ((Int32.toInt64 (iI 103)) - 96)) + (Int32.toInt64 (iI 108)))) M rfl dX12_spelt_12 ?_
  refine lv_ldc2 (v := 96) hx hb M.1.2.2.2.1 (M.1.2.2.2.2 _ G1642) dX12_spelt_13 ?_
  refine r_lsub (v := (((27 * ((Int32.toInt64 (iI 103)) - 96)) + (Int32.toInt64 (iI 108))) - 96)) M rfl dX12_spelt_16 ?_
  refine lv_lstore (lv' := [(7, .long (((27 * ((Int32.toInt64 (iI 103)) - 96)) + (Int32.toInt64 (iI 108))) - 96)), (0, .int (iI 103)), (1, .int (iI 108)), (2, .int (iI 97)), (3, .int (iI 115)), (4, .int (iI 115)), (5, .int (iI 0)), (6, .int (iI 0))]) hx hb dX12_spelt_17 hl (by decide) rfl (fun ls hl => ?_)
  refine lv_iload_n hx hb dX12_spelt_19 rfl (lv_at hl 3 rfl) ?_
  refine lv_if_le (tgt := 38) hx hb dX12_spelt_20 (by decide) (fun c => absurd c (by decide +kernel)) (fun _ => ?_)
  refine lv_ldc2 (v := 27) hx hb M.1.2.2.2.1 (M.1.2.2.2.2 _ G1641) dX12_spelt_23 ?_
  refine lv_lload hx hb dX12_spelt_26 (lv_at hl 0 rfl) ?_
  refine r_lmul (v := (27 * (((27 * ((Int32.toInt64 (iI 103)) - 96)) + (Int32.toInt64 (iI 108))) - 96))) M rfl dX12_spelt_28 ?_
  refine lv_iload_n hx hb dX12_spelt_29 rfl (lv_at hl 3 rfl) ?_
  refine lv_i2l (v := (Int32.toInt64 (iI 97))) hx hb dX12_spelt_30 rfl ?_
  refine r_ladd (v := ((27 * (((27 * ((Int32.toInt64 (iI 103)) - 96)) + (Int32.toInt64 (iI 108))) - 96)) + (Int32.toInt64 (iI 97)))) M rfl dX12_spelt_31 ?_
  refine lv_ldc2 (v := 96) hx hb M.1.2.2.2.1 (M.1.2.2.2.2 _ G1642) dX12_spelt_32 ?_
  refine r_lsub (v := (((27 * (((27 * ((Int32.toInt64 (iI 103)) - 96)) + (Int32.toInt64 (iI 108))) - 96)) + (Int32.toInt64 (iI 97))) - 96)) M rfl dX12_spelt_35 ?_
  refine lv_lstore (lv' := [(7, .long (((27 * (((27 * ((Int32.toInt64 (iI 103)) - 96)) + (Int32.toInt64 (iI 108))) - 96)) + (Int32.toInt64 (iI 97))) - 96)), (0, .int (iI 103)), (1, .int (iI 108)), (2, .int (iI 97)), (3, .int (iI 115)), (4, .int (iI 115)), (5, .int (iI 0)), (6, .int (iI 0))]) hx hb dX12_spelt_36 hl (by decide) rfl (fun ls hl => ?_)
  refine lv_iload_n hx hb dX12_spelt_38 rfl (lv_at hl 4 rfl) ?_
  refine lv_if_le (tgt := 57) hx hb dX12_spelt_39 (by decide) (fun c => absurd c (by decide +kernel)) (fun _ => ?_)
  refine lv_ldc2 (v := 27) hx hb M.1.2.2.2.1 (M.1.2.2.2.2 _ G1641) dX12_spelt_42 ?_
  refine lv_lload hx hb dX12_spelt_45 (lv_at hl 0 rfl) ?_
  refine r_lmul (v := (27 * (((27 * (((27 * ((Int32.toInt64 (iI 103)) - 96)) + (Int32.toInt64 (iI 108))) - 96)) + (Int32.toInt64 (iI 97))) - 96))) M rfl dX12_spelt_47 ?_
  refine lv_iload_n hx hb dX12_spelt_48 rfl (lv_at hl 4 rfl) ?_
  refine lv_i2l (v := (Int32.toInt64 (iI 115))) hx hb dX12_spelt_49 rfl ?_
  refine r_ladd (v := ((27 * (((27 * (((27 * ((Int32.toInt64 (iI 103)) - 96)) + (Int32.toInt64 (iI 108))) - 96)) + (Int32.toInt64 (iI 97))) - 96)) + (Int32.toInt64 (iI 115)))) M rfl dX12_spelt_50 ?_
  refine lv_ldc2 (v := 96) hx hb M.1.2.2.2.1 (M.1.2.2.2.2 _ G1642) dX12_spelt_51 ?_
  refine r_lsub (v := (((27 * (((27 * (((27 * ((Int32.toInt64 (iI 103)) - 96)) + (Int32.toInt64 (iI 108))) - 96)) + (Int32.toInt64 (iI 97))) - 96)) + (Int32.toInt64 (iI 115))) - 96)) M rfl dX12_spelt_54 ?_
  refine lv_lstore (lv' := [(7, .long (((27 * (((27 * (((27 * ((Int32.toInt64 (iI 103)) - 96)) + (Int32.toInt64 (iI 108))) - 96)) + (Int32.toInt64 (iI 97))) - 96)) + (Int32.toInt64 (iI 115))) - 96)), (0, .int (iI 103)), (1, .int (iI 108)), (2, .int (iI 97)), (3, .int (iI 115)), (4, .int (iI 115)), (5, .int (iI 0)), (6, .int (iI 0))]) hx hb dX12_spelt_55 hl (by decide) rfl (fun ls hl => ?_)
  refine lv_iload hx hb dX12_spelt_57 (lv_at hl 5 rfl) ?_
  refine lv_if_le (tgt := 78) hx hb dX12_spelt_59 (by decide) (fun c => absurd c (by decide +kernel)) (fun _ => ?_)
  refine lv_ldc2 (v := 27) hx hb M.1.2.2.2.1 (M.1.2.2.2.2 _ G1641) dX12_spelt_62 ?_
  refine lv_lload hx hb dX12_spelt_65 (lv_at hl 0 rfl) ?_
  refine r_lmul (v := (27 * (((27 * (((27 * (((27 * ((Int32.toInt64 (iI 103)) - 96)) + (Int32.toInt64 (iI 108))) - 96)) + (Int32.toInt64 (iI 97))) - 96)) + (Int32.toInt64 (iI 115))) - 96))) M rfl dX12_spelt_67 ?_
  refine lv_iload hx hb dX12_spelt_68 (lv_at hl 5 rfl) ?_
  refine lv_i2l (v := (Int32.toInt64 (iI 115))) hx hb dX12_spelt_70 rfl ?_
  refine r_ladd (v := ((27 * (((27 * (((27 * (((27 * ((Int32.toInt64 (iI 103)) - 96)) + (Int32.toInt64 (iI 108))) - 96)) + (Int32.toInt64 (iI 97))) - 96)) + (Int32.toInt64 (iI 115))) - 96)) + (Int32.toInt64 (iI 115)))) M rfl dX12_spelt_71 ?_
  refine lv_ldc2 (v := 96) hx hb M.1.2.2.2.1 (M.1.2.2.2.2 _ G1642) dX12_spelt_72 ?_
  refine r_lsub (v := (((27 * (((27 * (((27 * (((27 * ((Int32.toInt64 (iI 103)) - 96)) + (Int32.toInt64 (iI 108))) - 96)) + (Int32.toInt64 (iI 97))) - 96)) + (Int32.toInt64 (iI 115))) - 96)) + (Int32.toInt64 (iI 115))) - 96)) M rfl dX12_spelt_75 ?_
  refine lv_lstore (lv' := [(7, .long (((27 * (((27 * (((27 * (((27 * ((Int32.toInt64 (iI 103)) - 96)) + (Int32.toInt64 (iI 108))) - 96)) + (Int32.toInt64 (iI 97))) - 96)) + (Int32.toInt64 (iI 115))) - 96)) + (Int32.toInt64 (iI 115))) - 96)), (0, .int (iI 103)), (1, .int (iI 108)), (2, .int (iI 97)), (3, .int (iI 115)), (4, .int (iI 115)), (5, .int (iI 0)), (6, .int (iI 0))]) hx hb dX12_spelt_76 hl (by decide) rfl (fun ls hl => ?_)
  refine lv_iload hx hb dX12_spelt_78 (lv_at hl 6 rfl) ?_
  refine lv_if_le (tgt := 99) hx hb dX12_spelt_80 (by decide) (fun _ => ?_) (fun c => absurd (by decide +kernel) c)
  refine lv_iload hx hb dX12_spelt_99 (lv_at hl 7 rfl) ?_
  refine lv_if_le (tgt := 120) hx hb dX12_spelt_101 (by decide) (fun _ => ?_) (fun c => absurd (by decide +kernel) c)
  refine lv_lload hx hb dX12_spelt_120 (lv_at hl 0 rfl) ?_
  exact ret _ () _ _ _ _ _ [] dX12_spelt_122 (show (((27 * (((27 * (((27 * (((27 * ((Int32.toInt64 (iI 103)) - 96)) + (Int32.toInt64 (iI 108))) - 96)) + (Int32.toInt64 (iI 97))) - 96)) + (Int32.toInt64 (iI 115))) - 96)) + (Int32.toInt64 (iI 115))) - 96) = 3957544 from (by decide +kernel)) w (by decide) rfl
set_option maxRecDepth 100000 in
set_option maxHeartbeats 4000000 in
theorem c25_X12_spelt (l : Launch) (D : va_G) (T : Nat → ClassId) (sz : Nat) : Met l yX12_spelt (Cond.code yX12_spelt cX12_spelt 9 (some .long) :: GW) (Rm 0 0 0) (cPre [.int (iI 98), .int (iI 117), .int (iI 116), .int (iI 116), .int (iI 111), .int (iI 110), .int (iI 115)] D T [] sz) (qL D [] sz (fun (v : Int64) (u : Unit) => (v = 1087201837)) (fun u => [])) 0 0 (va_A [] sz) := by
  refine e_L (by decide) (Nat.le_of_ble_eq_true rfl) ?_
  intro p e s m args below meth c A Q ls M hin w ret hl
  have hx := M.1.1
  have hb := M.1.2.1
  have hl : lv_has ls 9 [(0, .int (iI 98)), (1, .int (iI 117)), (2, .int (iI 116)), (3, .int (iI 116)), (4, .int (iI 111)), (5, .int (iI 110)), (6, .int (iI 115))] := hl
  refine lv_ldc2 (v := 27) hx hb M.1.2.2.2.1 (M.1.2.2.2.2 _ G1641) dX12_spelt_0 ?_
  refine lv_iload_n hx hb dX12_spelt_3 rfl (lv_at hl 0 rfl) ?_
  refine lv_i2l (v := (Int32.toInt64 (iI 98))) hx hb dX12_spelt_4 rfl ?_
  refine lv_ldc2 (v := 96) hx hb M.1.2.2.2.1 (M.1.2.2.2.2 _ G1642) dX12_spelt_5 ?_
  refine r_lsub (v := ((Int32.toInt64 (iI 98)) - 96)) M rfl dX12_spelt_8 ?_
  refine r_lmul (v := (27 * ((Int32.toInt64 (iI 98)) - 96))) M rfl dX12_spelt_9 ?_
  refine lv_iload_n hx hb dX12_spelt_10 rfl (lv_at hl 1 rfl) ?_
  refine lv_i2l (v := (Int32.toInt64 (iI 117))) hx hb dX12_spelt_11 rfl ?_
  refine r_ladd (v := ((27 * ((Int32.toInt64 (iI 98)) - 96)) + (Int32.toInt64 (iI 117)))) M rfl dX12_spelt_12 ?_
  refine lv_ldc2 (v := 96) hx hb M.1.2.2.2.1 (M.1.2.2.2.2 _ G1642) dX12_spelt_13 ?_
  refine r_lsub (v := (((27 * ((Int32.toInt64 (iI 98)) - 96)) + (Int32.toInt64 (iI 117))) - 96)) M rfl dX12_spelt_16 ?_
  refine lv_lstore (lv' := [(7, .long (((27 * ((Int32.toInt64 (iI 98)) - 96)) + (Int32.toInt64 (iI 117))) - 96)), (0, .int (iI 98)), (1, .int (iI 117)), (2, .int (iI 116)), (3, .int (iI 116)), (4, .int (iI 111)), (5, .int (iI 110)), (6, .int (iI 115))]) hx hb dX12_spelt_17 hl (by decide) rfl (fun ls hl => ?_)
  refine lv_iload_n hx hb dX12_spelt_19 rfl (lv_at hl 3 rfl) ?_
  refine lv_if_le (tgt := 38) hx hb dX12_spelt_20 (by decide) (fun c => absurd c (by decide +kernel)) (fun _ => ?_)
  refine lv_ldc2 (v := 27) hx hb M.1.2.2.2.1 (M.1.2.2.2.2 _ G1641) dX12_spelt_23 ?_
  refine lv_lload hx hb dX12_spelt_26 (lv_at hl 0 rfl) ?_
  refine r_lmul (v := (27 * (((27 * ((Int32.toInt64 (iI 98)) - 96)) + (Int32.toInt64 (iI 117))) - 96))) M rfl dX12_spelt_28 ?_
  refine lv_iload_n hx hb dX12_spelt_29 rfl (lv_at hl 3 rfl) ?_
  refine lv_i2l (v := (Int32.toInt64 (iI 116))) hx hb dX12_spelt_30 rfl ?_
  refine r_ladd (v := ((27 * (((27 * ((Int32.toInt64 (iI 98)) - 96)) + (Int32.toInt64 (iI 117))) - 96)) + (Int32.toInt64 (iI 116)))) M rfl dX12_spelt_31 ?_
  refine lv_ldc2 (v := 96) hx hb M.1.2.2.2.1 (M.1.2.2.2.2 _ G1642) dX12_spelt_32 ?_
  refine r_lsub (v := (((27 * (((27 * ((Int32.toInt64 (iI 98)) - 96)) + (Int32.toInt64 (iI 117))) - 96)) + (Int32.toInt64 (iI 116))) - 96)) M rfl dX12_spelt_35 ?_
  refine lv_lstore (lv' := [(7, .long (((27 * (((27 * ((Int32.toInt64 (iI 98)) - 96)) + (Int32.toInt64 (iI 117))) - 96)) + (Int32.toInt64 (iI 116))) - 96)), (0, .int (iI 98)), (1, .int (iI 117)), (2, .int (iI 116)), (3, .int (iI 116)), (4, .int (iI 111)), (5, .int (iI 110)), (6, .int (iI 115))]) hx hb dX12_spelt_36 hl (by decide) rfl (fun ls hl => ?_)
  refine lv_iload_n hx hb dX12_spelt_38 rfl (lv_at hl 4 rfl) ?_
  refine lv_if_le (tgt := 57) hx hb dX12_spelt_39 (by decide) (fun c => absurd c (by decide +kernel)) (fun _ => ?_)
  refine lv_ldc2 (v := 27) hx hb M.1.2.2.2.1 (M.1.2.2.2.2 _ G1641) dX12_spelt_42 ?_
  refine lv_lload hx hb dX12_spelt_45 (lv_at hl 0 rfl) ?_
  refine r_lmul (v := (27 * (((27 * (((27 * ((Int32.toInt64 (iI 98)) - 96)) + (Int32.toInt64 (iI 117))) - 96)) + (Int32.toInt64 (iI 116))) - 96))) M rfl dX12_spelt_47 ?_
  refine lv_iload_n hx hb dX12_spelt_48 rfl (lv_at hl 4 rfl) ?_
  refine lv_i2l (v := (Int32.toInt64 (iI 116))) hx hb dX12_spelt_49 rfl ?_
  refine r_ladd (v := ((27 * (((27 * (((27 * ((Int32.toInt64 (iI 98)) - 96)) + (Int32.toInt64 (iI 117))) - 96)) + (Int32.toInt64 (iI 116))) - 96)) + (Int32.toInt64 (iI 116)))) M rfl dX12_spelt_50 ?_
  refine lv_ldc2 (v := 96) hx hb M.1.2.2.2.1 (M.1.2.2.2.2 _ G1642) dX12_spelt_51 ?_
  refine r_lsub (v := (((27 * (((27 * (((27 * ((Int32.toInt64 (iI 98)) - 96)) + (Int32.toInt64 (iI 117))) - 96)) + (Int32.toInt64 (iI 116))) - 96)) + (Int32.toInt64 (iI 116))) - 96)) M rfl dX12_spelt_54 ?_
  refine lv_lstore (lv' := [(7, .long (((27 * (((27 * (((27 * ((Int32.toInt64 (iI 98)) - 96)) + (Int32.toInt64 (iI 117))) - 96)) + (Int32.toInt64 (iI 116))) - 96)) + (Int32.toInt64 (iI 116))) - 96)), (0, .int (iI 98)), (1, .int (iI 117)), (2, .int (iI 116)), (3, .int (iI 116)), (4, .int (iI 111)), (5, .int (iI 110)), (6, .int (iI 115))]) hx hb dX12_spelt_55 hl (by decide) rfl (fun ls hl => ?_)
  refine lv_iload hx hb dX12_spelt_57 (lv_at hl 5 rfl) ?_
  refine lv_if_le (tgt := 78) hx hb dX12_spelt_59 (by decide) (fun c => absurd c (by decide +kernel)) (fun _ => ?_)
  refine lv_ldc2 (v := 27) hx hb M.1.2.2.2.1 (M.1.2.2.2.2 _ G1641) dX12_spelt_62 ?_
  refine lv_lload hx hb dX12_spelt_65 (lv_at hl 0 rfl) ?_
  refine r_lmul (v := (27 * (((27 * (((27 * (((27 * ((Int32.toInt64 (iI 98)) - 96)) + (Int32.toInt64 (iI 117))) - 96)) + (Int32.toInt64 (iI 116))) - 96)) + (Int32.toInt64 (iI 116))) - 96))) M rfl dX12_spelt_67 ?_
  refine lv_iload hx hb dX12_spelt_68 (lv_at hl 5 rfl) ?_
  refine lv_i2l (v := (Int32.toInt64 (iI 111))) hx hb dX12_spelt_70 rfl ?_
  refine r_ladd (v := ((27 * (((27 * (((27 * (((27 * ((Int32.toInt64 (iI 98)) - 96)) + (Int32.toInt64 (iI 117))) - 96)) + (Int32.toInt64 (iI 116))) - 96)) + (Int32.toInt64 (iI 116))) - 96)) + (Int32.toInt64 (iI 111)))) M rfl dX12_spelt_71 ?_
  refine lv_ldc2 (v := 96) hx hb M.1.2.2.2.1 (M.1.2.2.2.2 _ G1642) dX12_spelt_72 ?_
  refine r_lsub (v := (((27 * (((27 * (((27 * (((27 * ((Int32.toInt64 (iI 98)) - 96)) + (Int32.toInt64 (iI 117))) - 96)) + (Int32.toInt64 (iI 116))) - 96)) + (Int32.toInt64 (iI 116))) - 96)) + (Int32.toInt64 (iI 111))) - 96)) M rfl dX12_spelt_75 ?_
  refine lv_lstore (lv' := [(7, .long (((27 * (((27 * (((27 * (((27 * ((Int32.toInt64 (iI 98)) - 96)) + (Int32.toInt64 (iI 117))) - 96)) + (Int32.toInt64 (iI 116))) - 96)) + (Int32.toInt64 (iI 116))) - 96)) + (Int32.toInt64 (iI 111))) - 96)), (0, .int (iI 98)), (1, .int (iI 117)), (2, .int (iI 116)), (3, .int (iI 116)), (4, .int (iI 111)), (5, .int (iI 110)), (6, .int (iI 115))]) hx hb dX12_spelt_76 hl (by decide) rfl (fun ls hl => ?_)
  refine lv_iload hx hb dX12_spelt_78 (lv_at hl 6 rfl) ?_
  refine lv_if_le (tgt := 99) hx hb dX12_spelt_80 (by decide) (fun c => absurd c (by decide +kernel)) (fun _ => ?_)
  refine lv_ldc2 (v := 27) hx hb M.1.2.2.2.1 (M.1.2.2.2.2 _ G1641) dX12_spelt_83 ?_
  refine lv_lload hx hb dX12_spelt_86 (lv_at hl 0 rfl) ?_
  refine r_lmul (v := (27 * (((27 * (((27 * (((27 * (((27 * ((Int32.toInt64 (iI 98)) - 96)) + (Int32.toInt64 (iI 117))) - 96)) + (Int32.toInt64 (iI 116))) - 96)) + (Int32.toInt64 (iI 116))) - 96)) + (Int32.toInt64 (iI 111))) - 96))) M rfl dX12_spelt_88 ?_
  refine lv_iload hx hb dX12_spelt_89 (lv_at hl 6 rfl) ?_
  refine lv_i2l (v := (Int32.toInt64 (iI 110))) hx hb dX12_spelt_91 rfl ?_
  refine r_ladd (v := ((27 * (((27 * (((27 * (((27 * (((27 * ((Int32.toInt64 (iI 98)) - 96)) + (Int32.toInt64 (iI 117))) - 96)) + (Int32.toInt64 (iI 116))) - 96)) + (Int32.toInt64 (iI 116))) - 96)) + (Int32.toInt64 (iI 111))) - 96)) + (Int32.toInt64 (iI 110)))) M rfl dX12_spelt_92 ?_
  refine lv_ldc2 (v := 96) hx hb M.1.2.2.2.1 (M.1.2.2.2.2 _ G1642) dX12_spelt_93 ?_
  refine r_lsub (v := (((27 * (((27 * (((27 * (((27 * (((27 * ((Int32.toInt64 (iI 98)) - 96)) + (Int32.toInt64 (iI 117))) - 96)) + (Int32.toInt64 (iI 116))) - 96)) + (Int32.toInt64 (iI 116))) - 96)) + (Int32.toInt64 (iI 111))) - 96)) + (Int32.toInt64 (iI 110))) - 96)) M rfl dX12_spelt_96 ?_
  refine lv_lstore (lv' := [(7, .long (((27 * (((27 * (((27 * (((27 * (((27 * ((Int32.toInt64 (iI 98)) - 96)) + (Int32.toInt64 (iI 117))) - 96)) + (Int32.toInt64 (iI 116))) - 96)) + (Int32.toInt64 (iI 116))) - 96)) + (Int32.toInt64 (iI 111))) - 96)) + (Int32.toInt64 (iI 110))) - 96)), (0, .int (iI 98)), (1, .int (iI 117)), (2, .int (iI 116)), (3, .int (iI 116)), (4, .int (iI 111)), (5, .int (iI 110)), (6, .int (iI 115))]) hx hb dX12_spelt_97 hl (by decide) rfl (fun ls hl => ?_)
  refine lv_iload hx hb dX12_spelt_99 (lv_at hl 7 rfl) ?_
  refine lv_if_le (tgt := 120) hx hb dX12_spelt_101 (by decide) (fun c => absurd c (by decide +kernel)) (fun _ => ?_)
  refine lv_ldc2 (v := 27) hx hb M.1.2.2.2.1 (M.1.2.2.2.2 _ G1641) dX12_spelt_104 ?_
  refine lv_lload hx hb dX12_spelt_107 (lv_at hl 0 rfl) ?_
  refine r_lmul (v := (27 * (((27 * (((27 * (((27 * (((27 * (((27 * ((Int32.toInt64 (iI 98)) - 96)) + (Int32.toInt64 (iI 117))) - 96)) + (Int32.toInt64 (iI 116))) - 96)) + (Int32.toInt64 (iI 116))) - 96)) + (Int32.toInt64 (iI 111))) - 96)) + (Int32.toInt64 (iI 110))) - 96))) M rfl dX12_spelt_109 ?_
  refine lv_iload hx hb dX12_spelt_110 (lv_at hl 7 rfl) ?_
  refine lv_i2l (v := (Int32.toInt64 (iI 115))) hx hb dX12_spelt_112 rfl ?_
  refine r_ladd (v := ((27 * (((27 * (((27 * (((27 * (((27 * (((27 * ((Int32.toInt64 (iI 98)) - 96)) + (Int32.toInt64 (iI 117))) - 96)) + (Int32.toInt64 (iI 116))) - 96)) + (Int32.toInt64 (iI 116))) - 96)) + (Int32.toInt64 (iI 111))) - 96)) + (Int32.toInt64 (iI 110))) - 96)) + (Int32.toInt64 (iI 115)))) M rfl dX12_spelt_113 ?_
  refine lv_ldc2 (v := 96) hx hb M.1.2.2.2.1 (M.1.2.2.2.2 _ G1642) dX12_spelt_114 ?_
  refine r_lsub (v := (((27 * (((27 * (((27 * (((27 * (((27 * (((27 * ((Int32.toInt64 (iI 98)) - 96)) + (Int32.toInt64 (iI 117))) - 96)) + (Int32.toInt64 (iI 116))) - 96)) + (Int32.toInt64 (iI 116))) - 96)) + (Int32.toInt64 (iI 111))) - 96)) + (Int32.toInt64 (iI 110))) - 96)) + (Int32.toInt64 (iI 115))) - 96)) M rfl dX12_spelt_117 ?_
  refine lv_lstore (lv' := [(7, .long (((27 * (((27 * (((27 * (((27 * (((27 * (((27 * ((Int32.toInt64 (iI 98)) - 96)) + (Int32.toInt64 (iI 117))) - 96)) + (Int32.toInt64 (iI 116))) - 96)) + (Int32.toInt64 (iI 116))) - 96)) + (Int32.toInt64 (iI 111))) - 96)) + (Int32.toInt64 (iI 110))) - 96)) + (Int32.toInt64 (iI 115))) - 96)), (0, .int (iI 98)), (1, .int (iI 117)), (2, .int (iI 116)), (3, .int (iI 116)), (4, .int (iI 111)), (5, .int (iI 110)), (6, .int (iI 115))]) hx hb dX12_spelt_118 hl (by decide) rfl (fun ls hl => ?_)
  refine lv_lload hx hb dX12_spelt_120 (lv_at hl 0 rfl) ?_
  exact ret _ () _ _ _ _ _ [] dX12_spelt_122 (show (((27 * (((27 * (((27 * (((27 * (((27 * (((27 * ((Int32.toInt64 (iI 98)) - 96)) + (Int32.toInt64 (iI 117))) - 96)) + (Int32.toInt64 (iI 116))) - 96)) + (Int32.toInt64 (iI 116))) - 96)) + (Int32.toInt64 (iI 111))) - 96)) + (Int32.toInt64 (iI 110))) - 96)) + (Int32.toInt64 (iI 115))) - 96) = 1087201837 from (by decide +kernel)) w (by decide) rfl
set_option maxRecDepth 100000 in
set_option maxHeartbeats 4000000 in
theorem c26_X12_spelt (l : Launch) (D : va_G) (T : Nat → ClassId) (sz : Nat) : Met l yX12_spelt (Cond.code yX12_spelt cX12_spelt 9 (some .long) :: GW) (Rm 0 0 0) (cPre [.int (iI 108), .int (iI 111), .int (iI 111), .int (iI 115), .int (iI 101), .int (iI 115), .int (iI 0)] D T [] sz) (qL D [] sz (fun (v : Int64) (u : Unit) => (v = 180467749)) (fun u => [])) 0 0 (va_A [] sz) := by
  refine e_L (by decide) (Nat.le_of_ble_eq_true rfl) ?_
  intro p e s m args below meth c A Q ls M hin w ret hl
  have hx := M.1.1
  have hb := M.1.2.1
  have hl : lv_has ls 9 [(0, .int (iI 108)), (1, .int (iI 111)), (2, .int (iI 111)), (3, .int (iI 115)), (4, .int (iI 101)), (5, .int (iI 115)), (6, .int (iI 0))] := hl
  refine lv_ldc2 (v := 27) hx hb M.1.2.2.2.1 (M.1.2.2.2.2 _ G1641) dX12_spelt_0 ?_
  refine lv_iload_n hx hb dX12_spelt_3 rfl (lv_at hl 0 rfl) ?_
  refine lv_i2l (v := (Int32.toInt64 (iI 108))) hx hb dX12_spelt_4 rfl ?_
  refine lv_ldc2 (v := 96) hx hb M.1.2.2.2.1 (M.1.2.2.2.2 _ G1642) dX12_spelt_5 ?_
  refine r_lsub (v := ((Int32.toInt64 (iI 108)) - 96)) M rfl dX12_spelt_8 ?_
  refine r_lmul (v := (27 * ((Int32.toInt64 (iI 108)) - 96))) M rfl dX12_spelt_9 ?_
  refine lv_iload_n hx hb dX12_spelt_10 rfl (lv_at hl 1 rfl) ?_
  refine lv_i2l (v := (Int32.toInt64 (iI 111))) hx hb dX12_spelt_11 rfl ?_
  refine r_ladd (v := ((27 * ((Int32.toInt64 (iI 108)) - 96)) + (Int32.toInt64 (iI 111)))) M rfl dX12_spelt_12 ?_
  refine lv_ldc2 (v := 96) hx hb M.1.2.2.2.1 (M.1.2.2.2.2 _ G1642) dX12_spelt_13 ?_
  refine r_lsub (v := (((27 * ((Int32.toInt64 (iI 108)) - 96)) + (Int32.toInt64 (iI 111))) - 96)) M rfl dX12_spelt_16 ?_
  refine lv_lstore (lv' := [(7, .long (((27 * ((Int32.toInt64 (iI 108)) - 96)) + (Int32.toInt64 (iI 111))) - 96)), (0, .int (iI 108)), (1, .int (iI 111)), (2, .int (iI 111)), (3, .int (iI 115)), (4, .int (iI 101)), (5, .int (iI 115)), (6, .int (iI 0))]) hx hb dX12_spelt_17 hl (by decide) rfl (fun ls hl => ?_)
  refine lv_iload_n hx hb dX12_spelt_19 rfl (lv_at hl 3 rfl) ?_
  refine lv_if_le (tgt := 38) hx hb dX12_spelt_20 (by decide) (fun c => absurd c (by decide +kernel)) (fun _ => ?_)
  refine lv_ldc2 (v := 27) hx hb M.1.2.2.2.1 (M.1.2.2.2.2 _ G1641) dX12_spelt_23 ?_
  refine lv_lload hx hb dX12_spelt_26 (lv_at hl 0 rfl) ?_
  refine r_lmul (v := (27 * (((27 * ((Int32.toInt64 (iI 108)) - 96)) + (Int32.toInt64 (iI 111))) - 96))) M rfl dX12_spelt_28 ?_
  refine lv_iload_n hx hb dX12_spelt_29 rfl (lv_at hl 3 rfl) ?_
  refine lv_i2l (v := (Int32.toInt64 (iI 111))) hx hb dX12_spelt_30 rfl ?_
  refine r_ladd (v := ((27 * (((27 * ((Int32.toInt64 (iI 108)) - 96)) + (Int32.toInt64 (iI 111))) - 96)) + (Int32.toInt64 (iI 111)))) M rfl dX12_spelt_31 ?_
  refine lv_ldc2 (v := 96) hx hb M.1.2.2.2.1 (M.1.2.2.2.2 _ G1642) dX12_spelt_32 ?_
  refine r_lsub (v := (((27 * (((27 * ((Int32.toInt64 (iI 108)) - 96)) + (Int32.toInt64 (iI 111))) - 96)) + (Int32.toInt64 (iI 111))) - 96)) M rfl dX12_spelt_35 ?_
  refine lv_lstore (lv' := [(7, .long (((27 * (((27 * ((Int32.toInt64 (iI 108)) - 96)) + (Int32.toInt64 (iI 111))) - 96)) + (Int32.toInt64 (iI 111))) - 96)), (0, .int (iI 108)), (1, .int (iI 111)), (2, .int (iI 111)), (3, .int (iI 115)), (4, .int (iI 101)), (5, .int (iI 115)), (6, .int (iI 0))]) hx hb dX12_spelt_36 hl (by decide) rfl (fun ls hl => ?_)
  refine lv_iload_n hx hb dX12_spelt_38 rfl (lv_at hl 4 rfl) ?_
  refine lv_if_le (tgt := 57) hx hb dX12_spelt_39 (by decide) (fun c => absurd c (by decide +kernel)) (fun _ => ?_)
  refine lv_ldc2 (v := 27) hx hb M.1.2.2.2.1 (M.1.2.2.2.2 _ G1641) dX12_spelt_42 ?_
  refine lv_lload hx hb dX12_spelt_45 (lv_at hl 0 rfl) ?_
  refine r_lmul (v := (27 * (((27 * (((27 * ((Int32.toInt64 (iI 108)) - 96)) + (Int32.toInt64 (iI 111))) - 96)) + (Int32.toInt64 (iI 111))) - 96))) M rfl dX12_spelt_47 ?_
  refine lv_iload_n hx hb dX12_spelt_48 rfl (lv_at hl 4 rfl) ?_
  refine lv_i2l (v := (Int32.toInt64 (iI 115))) hx hb dX12_spelt_49 rfl ?_
  refine r_ladd (v := ((27 * (((27 * (((27 * ((Int32.toInt64 (iI 108)) - 96)) + (Int32.toInt64 (iI 111))) - 96)) + (Int32.toInt64 (iI 111))) - 96)) + (Int32.toInt64 (iI 115)))) M rfl dX12_spelt_50 ?_
  refine lv_ldc2 (v := 96) hx hb M.1.2.2.2.1 (M.1.2.2.2.2 _ G1642) dX12_spelt_51 ?_
  refine r_lsub (v := (((27 * (((27 * (((27 * ((Int32.toInt64 (iI 108)) - 96)) + (Int32.toInt64 (iI 111))) - 96)) + (Int32.toInt64 (iI 111))) - 96)) + (Int32.toInt64 (iI 115))) - 96)) M rfl dX12_spelt_54 ?_
  refine lv_lstore (lv' := [(7, .long (((27 * (((27 * (((27 * ((Int32.toInt64 (iI 108)) - 96)) + (Int32.toInt64 (iI 111))) - 96)) + (Int32.toInt64 (iI 111))) - 96)) + (Int32.toInt64 (iI 115))) - 96)), (0, .int (iI 108)), (1, .int (iI 111)), (2, .int (iI 111)), (3, .int (iI 115)), (4, .int (iI 101)), (5, .int (iI 115)), (6, .int (iI 0))]) hx hb dX12_spelt_55 hl (by decide) rfl (fun ls hl => ?_)
  refine lv_iload hx hb dX12_spelt_57 (lv_at hl 5 rfl) ?_
  refine lv_if_le (tgt := 78) hx hb dX12_spelt_59 (by decide) (fun c => absurd c (by decide +kernel)) (fun _ => ?_)
  refine lv_ldc2 (v := 27) hx hb M.1.2.2.2.1 (M.1.2.2.2.2 _ G1641) dX12_spelt_62 ?_
  refine lv_lload hx hb dX12_spelt_65 (lv_at hl 0 rfl) ?_
  refine r_lmul (v := (27 * (((27 * (((27 * (((27 * ((Int32.toInt64 (iI 108)) - 96)) + (Int32.toInt64 (iI 111))) - 96)) + (Int32.toInt64 (iI 111))) - 96)) + (Int32.toInt64 (iI 115))) - 96))) M rfl dX12_spelt_67 ?_
  refine lv_iload hx hb dX12_spelt_68 (lv_at hl 5 rfl) ?_
  refine lv_i2l (v := (Int32.toInt64 (iI 101))) hx hb dX12_spelt_70 rfl ?_
  refine r_ladd (v := ((27 * (((27 * (((27 * (((27 * ((Int32.toInt64 (iI 108)) - 96)) + (Int32.toInt64 (iI 111))) - 96)) + (Int32.toInt64 (iI 111))) - 96)) + (Int32.toInt64 (iI 115))) - 96)) + (Int32.toInt64 (iI 101)))) M rfl dX12_spelt_71 ?_
  refine lv_ldc2 (v := 96) hx hb M.1.2.2.2.1 (M.1.2.2.2.2 _ G1642) dX12_spelt_72 ?_
  refine r_lsub (v := (((27 * (((27 * (((27 * (((27 * ((Int32.toInt64 (iI 108)) - 96)) + (Int32.toInt64 (iI 111))) - 96)) + (Int32.toInt64 (iI 111))) - 96)) + (Int32.toInt64 (iI 115))) - 96)) + (Int32.toInt64 (iI 101))) - 96)) M rfl dX12_spelt_75 ?_
  refine lv_lstore (lv' := [(7, .long (((27 * (((27 * (((27 * (((27 * ((Int32.toInt64 (iI 108)) - 96)) + (Int32.toInt64 (iI 111))) - 96)) + (Int32.toInt64 (iI 111))) - 96)) + (Int32.toInt64 (iI 115))) - 96)) + (Int32.toInt64 (iI 101))) - 96)), (0, .int (iI 108)), (1, .int (iI 111)), (2, .int (iI 111)), (3, .int (iI 115)), (4, .int (iI 101)), (5, .int (iI 115)), (6, .int (iI 0))]) hx hb dX12_spelt_76 hl (by decide) rfl (fun ls hl => ?_)
  refine lv_iload hx hb dX12_spelt_78 (lv_at hl 6 rfl) ?_
  refine lv_if_le (tgt := 99) hx hb dX12_spelt_80 (by decide) (fun c => absurd c (by decide +kernel)) (fun _ => ?_)
  refine lv_ldc2 (v := 27) hx hb M.1.2.2.2.1 (M.1.2.2.2.2 _ G1641) dX12_spelt_83 ?_
  refine lv_lload hx hb dX12_spelt_86 (lv_at hl 0 rfl) ?_
  refine r_lmul (v := (27 * (((27 * (((27 * (((27 * (((27 * ((Int32.toInt64 (iI 108)) - 96)) + (Int32.toInt64 (iI 111))) - 96)) + (Int32.toInt64 (iI 111))) - 96)) + (Int32.toInt64 (iI 115))) - 96)) + (Int32.toInt64 (iI 101))) - 96))) M rfl dX12_spelt_88 ?_
  refine lv_iload hx hb dX12_spelt_89 (lv_at hl 6 rfl) ?_
  refine lv_i2l (v := (Int32.toInt64 (iI 115))) hx hb dX12_spelt_91 rfl ?_
  refine r_ladd (v := ((27 * (((27 * (((27 * (((27 * (((27 * ((Int32.toInt64 (iI 108)) - 96)) + (Int32.toInt64 (iI 111))) - 96)) + (Int32.toInt64 (iI 111))) - 96)) + (Int32.toInt64 (iI 115))) - 96)) + (Int32.toInt64 (iI 101))) - 96)) + (Int32.toInt64 (iI 115)))) M rfl dX12_spelt_92 ?_
  refine lv_ldc2 (v := 96) hx hb M.1.2.2.2.1 (M.1.2.2.2.2 _ G1642) dX12_spelt_93 ?_
  refine r_lsub (v := (((27 * (((27 * (((27 * (((27 * (((27 * ((Int32.toInt64 (iI 108)) - 96)) + (Int32.toInt64 (iI 111))) - 96)) + (Int32.toInt64 (iI 111))) - 96)) + (Int32.toInt64 (iI 115))) - 96)) + (Int32.toInt64 (iI 101))) - 96)) + (Int32.toInt64 (iI 115))) - 96)) M rfl dX12_spelt_96 ?_
  refine lv_lstore (lv' := [(7, .long (((27 * (((27 * (((27 * (((27 * (((27 * ((Int32.toInt64 (iI 108)) - 96)) + (Int32.toInt64 (iI 111))) - 96)) + (Int32.toInt64 (iI 111))) - 96)) + (Int32.toInt64 (iI 115))) - 96)) + (Int32.toInt64 (iI 101))) - 96)) + (Int32.toInt64 (iI 115))) - 96)), (0, .int (iI 108)), (1, .int (iI 111)), (2, .int (iI 111)), (3, .int (iI 115)), (4, .int (iI 101)), (5, .int (iI 115)), (6, .int (iI 0))]) hx hb dX12_spelt_97 hl (by decide) rfl (fun ls hl => ?_)
  refine lv_iload hx hb dX12_spelt_99 (lv_at hl 7 rfl) ?_
  refine lv_if_le (tgt := 120) hx hb dX12_spelt_101 (by decide) (fun _ => ?_) (fun c => absurd (by decide +kernel) c)
  refine lv_lload hx hb dX12_spelt_120 (lv_at hl 0 rfl) ?_
  exact ret _ () _ _ _ _ _ [] dX12_spelt_122 (show (((27 * (((27 * (((27 * (((27 * (((27 * ((Int32.toInt64 (iI 108)) - 96)) + (Int32.toInt64 (iI 111))) - 96)) + (Int32.toInt64 (iI 111))) - 96)) + (Int32.toInt64 (iI 115))) - 96)) + (Int32.toInt64 (iI 101))) - 96)) + (Int32.toInt64 (iI 115))) - 96) = 180467749 from (by decide +kernel)) w (by decide) rfl
set_option maxRecDepth 100000 in
set_option maxHeartbeats 4000000 in
theorem c27_X12_spelt (l : Launch) (D : va_G) (T : Nat → ClassId) (sz : Nat) : Met l yX12_spelt (Cond.code yX12_spelt cX12_spelt 9 (some .long) :: GW) (Rm 0 0 0) (cPre [.int (iI 109), .int (iI 101), .int (iI 110), .int (iI 100), .int (iI 0), .int (iI 0), .int (iI 0)] D T [] sz) (qL D [] sz (fun (v : Int64) (u : Unit) => (v = 259906)) (fun u => [])) 0 0 (va_A [] sz) := by
  refine e_L (by decide) (Nat.le_of_ble_eq_true rfl) ?_
  intro p e s m args below meth c A Q ls M hin w ret hl
  have hx := M.1.1
  have hb := M.1.2.1
  have hl : lv_has ls 9 [(0, .int (iI 109)), (1, .int (iI 101)), (2, .int (iI 110)), (3, .int (iI 100)), (4, .int (iI 0)), (5, .int (iI 0)), (6, .int (iI 0))] := hl
  refine lv_ldc2 (v := 27) hx hb M.1.2.2.2.1 (M.1.2.2.2.2 _ G1641) dX12_spelt_0 ?_
  refine lv_iload_n hx hb dX12_spelt_3 rfl (lv_at hl 0 rfl) ?_
  refine lv_i2l (v := (Int32.toInt64 (iI 109))) hx hb dX12_spelt_4 rfl ?_
  refine lv_ldc2 (v := 96) hx hb M.1.2.2.2.1 (M.1.2.2.2.2 _ G1642) dX12_spelt_5 ?_
  refine r_lsub (v := ((Int32.toInt64 (iI 109)) - 96)) M rfl dX12_spelt_8 ?_
  refine r_lmul (v := (27 * ((Int32.toInt64 (iI 109)) - 96))) M rfl dX12_spelt_9 ?_
  refine lv_iload_n hx hb dX12_spelt_10 rfl (lv_at hl 1 rfl) ?_
  refine lv_i2l (v := (Int32.toInt64 (iI 101))) hx hb dX12_spelt_11 rfl ?_
  refine r_ladd (v := ((27 * ((Int32.toInt64 (iI 109)) - 96)) + (Int32.toInt64 (iI 101)))) M rfl dX12_spelt_12 ?_
  refine lv_ldc2 (v := 96) hx hb M.1.2.2.2.1 (M.1.2.2.2.2 _ G1642) dX12_spelt_13 ?_
  refine r_lsub (v := (((27 * ((Int32.toInt64 (iI 109)) - 96)) + (Int32.toInt64 (iI 101))) - 96)) M rfl dX12_spelt_16 ?_
  refine lv_lstore (lv' := [(7, .long (((27 * ((Int32.toInt64 (iI 109)) - 96)) + (Int32.toInt64 (iI 101))) - 96)), (0, .int (iI 109)), (1, .int (iI 101)), (2, .int (iI 110)), (3, .int (iI 100)), (4, .int (iI 0)), (5, .int (iI 0)), (6, .int (iI 0))]) hx hb dX12_spelt_17 hl (by decide) rfl (fun ls hl => ?_)
  refine lv_iload_n hx hb dX12_spelt_19 rfl (lv_at hl 3 rfl) ?_
  refine lv_if_le (tgt := 38) hx hb dX12_spelt_20 (by decide) (fun c => absurd c (by decide +kernel)) (fun _ => ?_)
  refine lv_ldc2 (v := 27) hx hb M.1.2.2.2.1 (M.1.2.2.2.2 _ G1641) dX12_spelt_23 ?_
  refine lv_lload hx hb dX12_spelt_26 (lv_at hl 0 rfl) ?_
  refine r_lmul (v := (27 * (((27 * ((Int32.toInt64 (iI 109)) - 96)) + (Int32.toInt64 (iI 101))) - 96))) M rfl dX12_spelt_28 ?_
  refine lv_iload_n hx hb dX12_spelt_29 rfl (lv_at hl 3 rfl) ?_
  refine lv_i2l (v := (Int32.toInt64 (iI 110))) hx hb dX12_spelt_30 rfl ?_
  refine r_ladd (v := ((27 * (((27 * ((Int32.toInt64 (iI 109)) - 96)) + (Int32.toInt64 (iI 101))) - 96)) + (Int32.toInt64 (iI 110)))) M rfl dX12_spelt_31 ?_
  refine lv_ldc2 (v := 96) hx hb M.1.2.2.2.1 (M.1.2.2.2.2 _ G1642) dX12_spelt_32 ?_
  refine r_lsub (v := (((27 * (((27 * ((Int32.toInt64 (iI 109)) - 96)) + (Int32.toInt64 (iI 101))) - 96)) + (Int32.toInt64 (iI 110))) - 96)) M rfl dX12_spelt_35 ?_
  refine lv_lstore (lv' := [(7, .long (((27 * (((27 * ((Int32.toInt64 (iI 109)) - 96)) + (Int32.toInt64 (iI 101))) - 96)) + (Int32.toInt64 (iI 110))) - 96)), (0, .int (iI 109)), (1, .int (iI 101)), (2, .int (iI 110)), (3, .int (iI 100)), (4, .int (iI 0)), (5, .int (iI 0)), (6, .int (iI 0))]) hx hb dX12_spelt_36 hl (by decide) rfl (fun ls hl => ?_)
  refine lv_iload_n hx hb dX12_spelt_38 rfl (lv_at hl 4 rfl) ?_
  refine lv_if_le (tgt := 57) hx hb dX12_spelt_39 (by decide) (fun c => absurd c (by decide +kernel)) (fun _ => ?_)
  refine lv_ldc2 (v := 27) hx hb M.1.2.2.2.1 (M.1.2.2.2.2 _ G1641) dX12_spelt_42 ?_
  refine lv_lload hx hb dX12_spelt_45 (lv_at hl 0 rfl) ?_
  refine r_lmul (v := (27 * (((27 * (((27 * ((Int32.toInt64 (iI 109)) - 96)) + (Int32.toInt64 (iI 101))) - 96)) + (Int32.toInt64 (iI 110))) - 96))) M rfl dX12_spelt_47 ?_
  refine lv_iload_n hx hb dX12_spelt_48 rfl (lv_at hl 4 rfl) ?_
  refine lv_i2l (v := (Int32.toInt64 (iI 100))) hx hb dX12_spelt_49 rfl ?_
  refine r_ladd (v := ((27 * (((27 * (((27 * ((Int32.toInt64 (iI 109)) - 96)) + (Int32.toInt64 (iI 101))) - 96)) + (Int32.toInt64 (iI 110))) - 96)) + (Int32.toInt64 (iI 100)))) M rfl dX12_spelt_50 ?_
  refine lv_ldc2 (v := 96) hx hb M.1.2.2.2.1 (M.1.2.2.2.2 _ G1642) dX12_spelt_51 ?_
  refine r_lsub (v := (((27 * (((27 * (((27 * ((Int32.toInt64 (iI 109)) - 96)) + (Int32.toInt64 (iI 101))) - 96)) + (Int32.toInt64 (iI 110))) - 96)) + (Int32.toInt64 (iI 100))) - 96)) M rfl dX12_spelt_54 ?_
  refine lv_lstore (lv' := [(7, .long (((27 * (((27 * (((27 * ((Int32.toInt64 (iI 109)) - 96)) + (Int32.toInt64 (iI 101))) - 96)) + (Int32.toInt64 (iI 110))) - 96)) + (Int32.toInt64 (iI 100))) - 96)), (0, .int (iI 109)), (1, .int (iI 101)), (2, .int (iI 110)), (3, .int (iI 100)), (4, .int (iI 0)), (5, .int (iI 0)), (6, .int (iI 0))]) hx hb dX12_spelt_55 hl (by decide) rfl (fun ls hl => ?_)
  refine lv_iload hx hb dX12_spelt_57 (lv_at hl 5 rfl) ?_
  refine lv_if_le (tgt := 78) hx hb dX12_spelt_59 (by decide) (fun _ => ?_) (fun c => absurd (by decide +kernel) c)
  refine lv_iload hx hb dX12_spelt_78 (lv_at hl 6 rfl) ?_
  refine lv_if_le (tgt := 99) hx hb dX12_spelt_80 (by decide) (fun _ => ?_) (fun c => absurd (by decide +kernel) c)
  refine lv_iload hx hb dX12_spelt_99 (lv_at hl 7 rfl) ?_
  refine lv_if_le (tgt := 120) hx hb dX12_spelt_101 (by decide) (fun _ => ?_) (fun c => absurd (by decide +kernel) c)
  refine lv_lload hx hb dX12_spelt_120 (lv_at hl 0 rfl) ?_
  exact ret _ () _ _ _ _ _ [] dX12_spelt_122 (show (((27 * (((27 * (((27 * ((Int32.toInt64 (iI 109)) - 96)) + (Int32.toInt64 (iI 101))) - 96)) + (Int32.toInt64 (iI 110))) - 96)) + (Int32.toInt64 (iI 100))) - 96) = 259906 from (by decide +kernel)) w (by decide) rfl
set_option maxRecDepth 100000 in
set_option maxHeartbeats 4000000 in
theorem c28_X12_spelt (l : Launch) (D : va_G) (T : Nat → ClassId) (sz : Nat) : Met l yX12_spelt (Cond.code yX12_spelt cX12_spelt 9 (some .long) :: GW) (Rm 0 0 0) (cPre [.int (iI 100), .int (iI 97), .int (iI 121), .int (iI 0), .int (iI 0), .int (iI 0), .int (iI 0)] D T [] sz) (qL D [] sz (fun (v : Int64) (u : Unit) => (v = 2968)) (fun u => [])) 0 0 (va_A [] sz) := by
  refine e_L (by decide) (Nat.le_of_ble_eq_true rfl) ?_
  intro p e s m args below meth c A Q ls M hin w ret hl
  have hx := M.1.1
  have hb := M.1.2.1
  have hl : lv_has ls 9 [(0, .int (iI 100)), (1, .int (iI 97)), (2, .int (iI 121)), (3, .int (iI 0)), (4, .int (iI 0)), (5, .int (iI 0)), (6, .int (iI 0))] := hl
  refine lv_ldc2 (v := 27) hx hb M.1.2.2.2.1 (M.1.2.2.2.2 _ G1641) dX12_spelt_0 ?_
  refine lv_iload_n hx hb dX12_spelt_3 rfl (lv_at hl 0 rfl) ?_
  refine lv_i2l (v := (Int32.toInt64 (iI 100))) hx hb dX12_spelt_4 rfl ?_
  refine lv_ldc2 (v := 96) hx hb M.1.2.2.2.1 (M.1.2.2.2.2 _ G1642) dX12_spelt_5 ?_
  refine r_lsub (v := ((Int32.toInt64 (iI 100)) - 96)) M rfl dX12_spelt_8 ?_
  refine r_lmul (v := (27 * ((Int32.toInt64 (iI 100)) - 96))) M rfl dX12_spelt_9 ?_
  refine lv_iload_n hx hb dX12_spelt_10 rfl (lv_at hl 1 rfl) ?_
  refine lv_i2l (v := (Int32.toInt64 (iI 97))) hx hb dX12_spelt_11 rfl ?_
  refine r_ladd (v := ((27 * ((Int32.toInt64 (iI 100)) - 96)) + (Int32.toInt64 (iI 97)))) M rfl dX12_spelt_12 ?_
  refine lv_ldc2 (v := 96) hx hb M.1.2.2.2.1 (M.1.2.2.2.2 _ G1642) dX12_spelt_13 ?_
  refine r_lsub (v := (((27 * ((Int32.toInt64 (iI 100)) - 96)) + (Int32.toInt64 (iI 97))) - 96)) M rfl dX12_spelt_16 ?_
  refine lv_lstore (lv' := [(7, .long (((27 * ((Int32.toInt64 (iI 100)) - 96)) + (Int32.toInt64 (iI 97))) - 96)), (0, .int (iI 100)), (1, .int (iI 97)), (2, .int (iI 121)), (3, .int (iI 0)), (4, .int (iI 0)), (5, .int (iI 0)), (6, .int (iI 0))]) hx hb dX12_spelt_17 hl (by decide) rfl (fun ls hl => ?_)
  refine lv_iload_n hx hb dX12_spelt_19 rfl (lv_at hl 3 rfl) ?_
  refine lv_if_le (tgt := 38) hx hb dX12_spelt_20 (by decide) (fun c => absurd c (by decide +kernel)) (fun _ => ?_)
  refine lv_ldc2 (v := 27) hx hb M.1.2.2.2.1 (M.1.2.2.2.2 _ G1641) dX12_spelt_23 ?_
  refine lv_lload hx hb dX12_spelt_26 (lv_at hl 0 rfl) ?_
  refine r_lmul (v := (27 * (((27 * ((Int32.toInt64 (iI 100)) - 96)) + (Int32.toInt64 (iI 97))) - 96))) M rfl dX12_spelt_28 ?_
  refine lv_iload_n hx hb dX12_spelt_29 rfl (lv_at hl 3 rfl) ?_
  refine lv_i2l (v := (Int32.toInt64 (iI 121))) hx hb dX12_spelt_30 rfl ?_
  refine r_ladd (v := ((27 * (((27 * ((Int32.toInt64 (iI 100)) - 96)) + (Int32.toInt64 (iI 97))) - 96)) + (Int32.toInt64 (iI 121)))) M rfl dX12_spelt_31 ?_
  refine lv_ldc2 (v := 96) hx hb M.1.2.2.2.1 (M.1.2.2.2.2 _ G1642) dX12_spelt_32 ?_
  refine r_lsub (v := (((27 * (((27 * ((Int32.toInt64 (iI 100)) - 96)) + (Int32.toInt64 (iI 97))) - 96)) + (Int32.toInt64 (iI 121))) - 96)) M rfl dX12_spelt_35 ?_
  refine lv_lstore (lv' := [(7, .long (((27 * (((27 * ((Int32.toInt64 (iI 100)) - 96)) + (Int32.toInt64 (iI 97))) - 96)) + (Int32.toInt64 (iI 121))) - 96)), (0, .int (iI 100)), (1, .int (iI 97)), (2, .int (iI 121)), (3, .int (iI 0)), (4, .int (iI 0)), (5, .int (iI 0)), (6, .int (iI 0))]) hx hb dX12_spelt_36 hl (by decide) rfl (fun ls hl => ?_)
  refine lv_iload_n hx hb dX12_spelt_38 rfl (lv_at hl 4 rfl) ?_
  refine lv_if_le (tgt := 57) hx hb dX12_spelt_39 (by decide) (fun _ => ?_) (fun c => absurd (by decide +kernel) c)
  refine lv_iload hx hb dX12_spelt_57 (lv_at hl 5 rfl) ?_
  refine lv_if_le (tgt := 78) hx hb dX12_spelt_59 (by decide) (fun _ => ?_) (fun c => absurd (by decide +kernel) c)
  refine lv_iload hx hb dX12_spelt_78 (lv_at hl 6 rfl) ?_
  refine lv_if_le (tgt := 99) hx hb dX12_spelt_80 (by decide) (fun _ => ?_) (fun c => absurd (by decide +kernel) c)
  refine lv_iload hx hb dX12_spelt_99 (lv_at hl 7 rfl) ?_
  refine lv_if_le (tgt := 120) hx hb dX12_spelt_101 (by decide) (fun _ => ?_) (fun c => absurd (by decide +kernel) c)
  refine lv_lload hx hb dX12_spelt_120 (lv_at hl 0 rfl) ?_
  exact ret _ () _ _ _ _ _ [] dX12_spelt_122 (show (((27 * (((27 * ((Int32.toInt64 (iI 100)) - 96)) + (Int32.toInt64 (iI 97))) - 96)) + (Int32.toInt64 (iI 121))) - 96) = 2968 from (by decide +kernel)) w (by decide) rfl
set_option maxRecDepth 100000 in
set_option maxHeartbeats 4000000 in
theorem c29_X12_spelt (l : Launch) (D : va_G) (T : Nat → ClassId) (sz : Nat) : Met l yX12_spelt (Cond.code yX12_spelt cX12_spelt 9 (some .long) :: GW) (Rm 0 0 0) (cPre [.int (iI 111), .int (iI 114), .int (iI 0), .int (iI 0), .int (iI 0), .int (iI 0), .int (iI 0)] D T [] sz) (qL D [] sz (fun (v : Int64) (u : Unit) => (v = 423)) (fun u => [])) 0 0 (va_A [] sz) := by
  refine e_L (by decide) (Nat.le_of_ble_eq_true rfl) ?_
  intro p e s m args below meth c A Q ls M hin w ret hl
  have hx := M.1.1
  have hb := M.1.2.1
  have hl : lv_has ls 9 [(0, .int (iI 111)), (1, .int (iI 114)), (2, .int (iI 0)), (3, .int (iI 0)), (4, .int (iI 0)), (5, .int (iI 0)), (6, .int (iI 0))] := hl
  refine lv_ldc2 (v := 27) hx hb M.1.2.2.2.1 (M.1.2.2.2.2 _ G1641) dX12_spelt_0 ?_
  refine lv_iload_n hx hb dX12_spelt_3 rfl (lv_at hl 0 rfl) ?_
  refine lv_i2l (v := (Int32.toInt64 (iI 111))) hx hb dX12_spelt_4 rfl ?_
  refine lv_ldc2 (v := 96) hx hb M.1.2.2.2.1 (M.1.2.2.2.2 _ G1642) dX12_spelt_5 ?_
  refine r_lsub (v := ((Int32.toInt64 (iI 111)) - 96)) M rfl dX12_spelt_8 ?_
  refine r_lmul (v := (27 * ((Int32.toInt64 (iI 111)) - 96))) M rfl dX12_spelt_9 ?_
  refine lv_iload_n hx hb dX12_spelt_10 rfl (lv_at hl 1 rfl) ?_
  refine lv_i2l (v := (Int32.toInt64 (iI 114))) hx hb dX12_spelt_11 rfl ?_
  refine r_ladd (v := ((27 * ((Int32.toInt64 (iI 111)) - 96)) + (Int32.toInt64 (iI 114)))) M rfl dX12_spelt_12 ?_
  refine lv_ldc2 (v := 96) hx hb M.1.2.2.2.1 (M.1.2.2.2.2 _ G1642) dX12_spelt_13 ?_
  refine r_lsub (v := (((27 * ((Int32.toInt64 (iI 111)) - 96)) + (Int32.toInt64 (iI 114))) - 96)) M rfl dX12_spelt_16 ?_
  refine lv_lstore (lv' := [(7, .long (((27 * ((Int32.toInt64 (iI 111)) - 96)) + (Int32.toInt64 (iI 114))) - 96)), (0, .int (iI 111)), (1, .int (iI 114)), (2, .int (iI 0)), (3, .int (iI 0)), (4, .int (iI 0)), (5, .int (iI 0)), (6, .int (iI 0))]) hx hb dX12_spelt_17 hl (by decide) rfl (fun ls hl => ?_)
  refine lv_iload_n hx hb dX12_spelt_19 rfl (lv_at hl 3 rfl) ?_
  refine lv_if_le (tgt := 38) hx hb dX12_spelt_20 (by decide) (fun _ => ?_) (fun c => absurd (by decide +kernel) c)
  refine lv_iload_n hx hb dX12_spelt_38 rfl (lv_at hl 4 rfl) ?_
  refine lv_if_le (tgt := 57) hx hb dX12_spelt_39 (by decide) (fun _ => ?_) (fun c => absurd (by decide +kernel) c)
  refine lv_iload hx hb dX12_spelt_57 (lv_at hl 5 rfl) ?_
  refine lv_if_le (tgt := 78) hx hb dX12_spelt_59 (by decide) (fun _ => ?_) (fun c => absurd (by decide +kernel) c)
  refine lv_iload hx hb dX12_spelt_78 (lv_at hl 6 rfl) ?_
  refine lv_if_le (tgt := 99) hx hb dX12_spelt_80 (by decide) (fun _ => ?_) (fun c => absurd (by decide +kernel) c)
  refine lv_iload hx hb dX12_spelt_99 (lv_at hl 7 rfl) ?_
  refine lv_if_le (tgt := 120) hx hb dX12_spelt_101 (by decide) (fun _ => ?_) (fun c => absurd (by decide +kernel) c)
  refine lv_lload hx hb dX12_spelt_120 (lv_at hl 0 rfl) ?_
  exact ret _ () _ _ _ _ _ [] dX12_spelt_122 (show (((27 * ((Int32.toInt64 (iI 111)) - 96)) + (Int32.toInt64 (iI 114))) - 96) = 423 from (by decide +kernel)) w (by decide) rfl
set_option maxRecDepth 100000 in
set_option maxHeartbeats 4000000 in
theorem c30_X12_spelt (l : Launch) (D : va_G) (T : Nat → ClassId) (sz : Nat) : Met l yX12_spelt (Cond.code yX12_spelt cX12_spelt 9 (some .long) :: GW) (Rm 0 0 0) (cPre [.int (iI 97), .int (iI 110), .int (iI 100), .int (iI 0), .int (iI 0), .int (iI 0), .int (iI 0)] D T [] sz) (qL D [] sz (fun (v : Int64) (u : Unit) => (v = 1111)) (fun u => [])) 0 0 (va_A [] sz) := by
  refine e_L (by decide) (Nat.le_of_ble_eq_true rfl) ?_
  intro p e s m args below meth c A Q ls M hin w ret hl
  have hx := M.1.1
  have hb := M.1.2.1
  have hl : lv_has ls 9 [(0, .int (iI 97)), (1, .int (iI 110)), (2, .int (iI 100)), (3, .int (iI 0)), (4, .int (iI 0)), (5, .int (iI 0)), (6, .int (iI 0))] := hl
  refine lv_ldc2 (v := 27) hx hb M.1.2.2.2.1 (M.1.2.2.2.2 _ G1641) dX12_spelt_0 ?_
  refine lv_iload_n hx hb dX12_spelt_3 rfl (lv_at hl 0 rfl) ?_
  refine lv_i2l (v := (Int32.toInt64 (iI 97))) hx hb dX12_spelt_4 rfl ?_
  refine lv_ldc2 (v := 96) hx hb M.1.2.2.2.1 (M.1.2.2.2.2 _ G1642) dX12_spelt_5 ?_
  refine r_lsub (v := ((Int32.toInt64 (iI 97)) - 96)) M rfl dX12_spelt_8 ?_
  refine r_lmul (v := (27 * ((Int32.toInt64 (iI 97)) - 96))) M rfl dX12_spelt_9 ?_
  refine lv_iload_n hx hb dX12_spelt_10 rfl (lv_at hl 1 rfl) ?_
  refine lv_i2l (v := (Int32.toInt64 (iI 110))) hx hb dX12_spelt_11 rfl ?_
  refine r_ladd (v := ((27 * ((Int32.toInt64 (iI 97)) - 96)) + (Int32.toInt64 (iI 110)))) M rfl dX12_spelt_12 ?_
  refine lv_ldc2 (v := 96) hx hb M.1.2.2.2.1 (M.1.2.2.2.2 _ G1642) dX12_spelt_13 ?_
  refine r_lsub (v := (((27 * ((Int32.toInt64 (iI 97)) - 96)) + (Int32.toInt64 (iI 110))) - 96)) M rfl dX12_spelt_16 ?_
  refine lv_lstore (lv' := [(7, .long (((27 * ((Int32.toInt64 (iI 97)) - 96)) + (Int32.toInt64 (iI 110))) - 96)), (0, .int (iI 97)), (1, .int (iI 110)), (2, .int (iI 100)), (3, .int (iI 0)), (4, .int (iI 0)), (5, .int (iI 0)), (6, .int (iI 0))]) hx hb dX12_spelt_17 hl (by decide) rfl (fun ls hl => ?_)
  refine lv_iload_n hx hb dX12_spelt_19 rfl (lv_at hl 3 rfl) ?_
  refine lv_if_le (tgt := 38) hx hb dX12_spelt_20 (by decide) (fun c => absurd c (by decide +kernel)) (fun _ => ?_)
  refine lv_ldc2 (v := 27) hx hb M.1.2.2.2.1 (M.1.2.2.2.2 _ G1641) dX12_spelt_23 ?_
  refine lv_lload hx hb dX12_spelt_26 (lv_at hl 0 rfl) ?_
  refine r_lmul (v := (27 * (((27 * ((Int32.toInt64 (iI 97)) - 96)) + (Int32.toInt64 (iI 110))) - 96))) M rfl dX12_spelt_28 ?_
  refine lv_iload_n hx hb dX12_spelt_29 rfl (lv_at hl 3 rfl) ?_
  refine lv_i2l (v := (Int32.toInt64 (iI 100))) hx hb dX12_spelt_30 rfl ?_
  refine r_ladd (v := ((27 * (((27 * ((Int32.toInt64 (iI 97)) - 96)) + (Int32.toInt64 (iI 110))) - 96)) + (Int32.toInt64 (iI 100)))) M rfl dX12_spelt_31 ?_
  refine lv_ldc2 (v := 96) hx hb M.1.2.2.2.1 (M.1.2.2.2.2 _ G1642) dX12_spelt_32 ?_
  refine r_lsub (v := (((27 * (((27 * ((Int32.toInt64 (iI 97)) - 96)) + (Int32.toInt64 (iI 110))) - 96)) + (Int32.toInt64 (iI 100))) - 96)) M rfl dX12_spelt_35 ?_
  refine lv_lstore (lv' := [(7, .long (((27 * (((27 * ((Int32.toInt64 (iI 97)) - 96)) + (Int32.toInt64 (iI 110))) - 96)) + (Int32.toInt64 (iI 100))) - 96)), (0, .int (iI 97)), (1, .int (iI 110)), (2, .int (iI 100)), (3, .int (iI 0)), (4, .int (iI 0)), (5, .int (iI 0)), (6, .int (iI 0))]) hx hb dX12_spelt_36 hl (by decide) rfl (fun ls hl => ?_)
  refine lv_iload_n hx hb dX12_spelt_38 rfl (lv_at hl 4 rfl) ?_
  refine lv_if_le (tgt := 57) hx hb dX12_spelt_39 (by decide) (fun _ => ?_) (fun c => absurd (by decide +kernel) c)
  refine lv_iload hx hb dX12_spelt_57 (lv_at hl 5 rfl) ?_
  refine lv_if_le (tgt := 78) hx hb dX12_spelt_59 (by decide) (fun _ => ?_) (fun c => absurd (by decide +kernel) c)
  refine lv_iload hx hb dX12_spelt_78 (lv_at hl 6 rfl) ?_
  refine lv_if_le (tgt := 99) hx hb dX12_spelt_80 (by decide) (fun _ => ?_) (fun c => absurd (by decide +kernel) c)
  refine lv_iload hx hb dX12_spelt_99 (lv_at hl 7 rfl) ?_
  refine lv_if_le (tgt := 120) hx hb dX12_spelt_101 (by decide) (fun _ => ?_) (fun c => absurd (by decide +kernel) c)
  refine lv_lload hx hb dX12_spelt_120 (lv_at hl 0 rfl) ?_
  exact ret _ () _ _ _ _ _ [] dX12_spelt_122 (show (((27 * (((27 * ((Int32.toInt64 (iI 97)) - 96)) + (Int32.toInt64 (iI 110))) - 96)) + (Int32.toInt64 (iI 100))) - 96) = 1111 from (by decide +kernel)) w (by decide) rfl
set_option maxRecDepth 100000 in
set_option maxHeartbeats 4000000 in
theorem c31_X12_spelt (l : Launch) (D : va_G) (T : Nat → ClassId) (sz : Nat) : Met l yX12_spelt (Cond.code yX12_spelt cX12_spelt 9 (some .long) :: GW) (Rm 0 0 0) (cPre [.int (iI 110), .int (iI 111), .int (iI 116), .int (iI 0), .int (iI 0), .int (iI 0), .int (iI 0)] D T [] sz) (qL D [] sz (fun (v : Int64) (u : Unit) => (v = 10631)) (fun u => [])) 0 0 (va_A [] sz) := by
  refine e_L (by decide) (Nat.le_of_ble_eq_true rfl) ?_
  intro p e s m args below meth c A Q ls M hin w ret hl
  have hx := M.1.1
  have hb := M.1.2.1
  have hl : lv_has ls 9 [(0, .int (iI 110)), (1, .int (iI 111)), (2, .int (iI 116)), (3, .int (iI 0)), (4, .int (iI 0)), (5, .int (iI 0)), (6, .int (iI 0))] := hl
  refine lv_ldc2 (v := 27) hx hb M.1.2.2.2.1 (M.1.2.2.2.2 _ G1641) dX12_spelt_0 ?_
  refine lv_iload_n hx hb dX12_spelt_3 rfl (lv_at hl 0 rfl) ?_
  refine lv_i2l (v := (Int32.toInt64 (iI 110))) hx hb dX12_spelt_4 rfl ?_
  refine lv_ldc2 (v := 96) hx hb M.1.2.2.2.1 (M.1.2.2.2.2 _ G1642) dX12_spelt_5 ?_
  refine r_lsub (v := ((Int32.toInt64 (iI 110)) - 96)) M rfl dX12_spelt_8 ?_
  refine r_lmul (v := (27 * ((Int32.toInt64 (iI 110)) - 96))) M rfl dX12_spelt_9 ?_
  refine lv_iload_n hx hb dX12_spelt_10 rfl (lv_at hl 1 rfl) ?_
  refine lv_i2l (v := (Int32.toInt64 (iI 111))) hx hb dX12_spelt_11 rfl ?_
  refine r_ladd (v := ((27 * ((Int32.toInt64 (iI 110)) - 96)) + (Int32.toInt64 (iI 111)))) M rfl dX12_spelt_12 ?_
  refine lv_ldc2 (v := 96) hx hb M.1.2.2.2.1 (M.1.2.2.2.2 _ G1642) dX12_spelt_13 ?_
  refine r_lsub (v := (((27 * ((Int32.toInt64 (iI 110)) - 96)) + (Int32.toInt64 (iI 111))) - 96)) M rfl dX12_spelt_16 ?_
  refine lv_lstore (lv' := [(7, .long (((27 * ((Int32.toInt64 (iI 110)) - 96)) + (Int32.toInt64 (iI 111))) - 96)), (0, .int (iI 110)), (1, .int (iI 111)), (2, .int (iI 116)), (3, .int (iI 0)), (4, .int (iI 0)), (5, .int (iI 0)), (6, .int (iI 0))]) hx hb dX12_spelt_17 hl (by decide) rfl (fun ls hl => ?_)
  refine lv_iload_n hx hb dX12_spelt_19 rfl (lv_at hl 3 rfl) ?_
  refine lv_if_le (tgt := 38) hx hb dX12_spelt_20 (by decide) (fun c => absurd c (by decide +kernel)) (fun _ => ?_)
  refine lv_ldc2 (v := 27) hx hb M.1.2.2.2.1 (M.1.2.2.2.2 _ G1641) dX12_spelt_23 ?_
  refine lv_lload hx hb dX12_spelt_26 (lv_at hl 0 rfl) ?_
  refine r_lmul (v := (27 * (((27 * ((Int32.toInt64 (iI 110)) - 96)) + (Int32.toInt64 (iI 111))) - 96))) M rfl dX12_spelt_28 ?_
  refine lv_iload_n hx hb dX12_spelt_29 rfl (lv_at hl 3 rfl) ?_
  refine lv_i2l (v := (Int32.toInt64 (iI 116))) hx hb dX12_spelt_30 rfl ?_
  refine r_ladd (v := ((27 * (((27 * ((Int32.toInt64 (iI 110)) - 96)) + (Int32.toInt64 (iI 111))) - 96)) + (Int32.toInt64 (iI 116)))) M rfl dX12_spelt_31 ?_
  refine lv_ldc2 (v := 96) hx hb M.1.2.2.2.1 (M.1.2.2.2.2 _ G1642) dX12_spelt_32 ?_
  refine r_lsub (v := (((27 * (((27 * ((Int32.toInt64 (iI 110)) - 96)) + (Int32.toInt64 (iI 111))) - 96)) + (Int32.toInt64 (iI 116))) - 96)) M rfl dX12_spelt_35 ?_
  refine lv_lstore (lv' := [(7, .long (((27 * (((27 * ((Int32.toInt64 (iI 110)) - 96)) + (Int32.toInt64 (iI 111))) - 96)) + (Int32.toInt64 (iI 116))) - 96)), (0, .int (iI 110)), (1, .int (iI 111)), (2, .int (iI 116)), (3, .int (iI 0)), (4, .int (iI 0)), (5, .int (iI 0)), (6, .int (iI 0))]) hx hb dX12_spelt_36 hl (by decide) rfl (fun ls hl => ?_)
  refine lv_iload_n hx hb dX12_spelt_38 rfl (lv_at hl 4 rfl) ?_
  refine lv_if_le (tgt := 57) hx hb dX12_spelt_39 (by decide) (fun _ => ?_) (fun c => absurd (by decide +kernel) c)
  refine lv_iload hx hb dX12_spelt_57 (lv_at hl 5 rfl) ?_
  refine lv_if_le (tgt := 78) hx hb dX12_spelt_59 (by decide) (fun _ => ?_) (fun c => absurd (by decide +kernel) c)
  refine lv_iload hx hb dX12_spelt_78 (lv_at hl 6 rfl) ?_
  refine lv_if_le (tgt := 99) hx hb dX12_spelt_80 (by decide) (fun _ => ?_) (fun c => absurd (by decide +kernel) c)
  refine lv_iload hx hb dX12_spelt_99 (lv_at hl 7 rfl) ?_
  refine lv_if_le (tgt := 120) hx hb dX12_spelt_101 (by decide) (fun _ => ?_) (fun c => absurd (by decide +kernel) c)
  refine lv_lload hx hb dX12_spelt_120 (lv_at hl 0 rfl) ?_
  exact ret _ () _ _ _ _ _ [] dX12_spelt_122 (show (((27 * (((27 * ((Int32.toInt64 (iI 110)) - 96)) + (Int32.toInt64 (iI 111))) - 96)) + (Int32.toInt64 (iI 116))) - 96) = 10631 from (by decide +kernel)) w (by decide) rfl
set_option maxRecDepth 100000 in
set_option maxHeartbeats 4000000 in
theorem c32_X12_spelt (l : Launch) (D : va_G) (T : Nat → ClassId) (sz : Nat) : Met l yX12_spelt (Cond.code yX12_spelt cX12_spelt 9 (some .long) :: GW) (Rm 0 0 0) (cPre [.int (iI 111), .int (iI 112), .int (iI 101), .int (iI 110), .int (iI 0), .int (iI 0), .int (iI 0)] D T [] sz) (qL D [] sz (fun (v : Int64) (u : Unit) => (v = 307058)) (fun u => [])) 0 0 (va_A [] sz) := by
  refine e_L (by decide) (Nat.le_of_ble_eq_true rfl) ?_
  intro p e s m args below meth c A Q ls M hin w ret hl
  have hx := M.1.1
  have hb := M.1.2.1
  have hl : lv_has ls 9 [(0, .int (iI 111)), (1, .int (iI 112)), (2, .int (iI 101)), (3, .int (iI 110)), (4, .int (iI 0)), (5, .int (iI 0)), (6, .int (iI 0))] := hl
  refine lv_ldc2 (v := 27) hx hb M.1.2.2.2.1 (M.1.2.2.2.2 _ G1641) dX12_spelt_0 ?_
  refine lv_iload_n hx hb dX12_spelt_3 rfl (lv_at hl 0 rfl) ?_
  refine lv_i2l (v := (Int32.toInt64 (iI 111))) hx hb dX12_spelt_4 rfl ?_
  refine lv_ldc2 (v := 96) hx hb M.1.2.2.2.1 (M.1.2.2.2.2 _ G1642) dX12_spelt_5 ?_
  refine r_lsub (v := ((Int32.toInt64 (iI 111)) - 96)) M rfl dX12_spelt_8 ?_
  refine r_lmul (v := (27 * ((Int32.toInt64 (iI 111)) - 96))) M rfl dX12_spelt_9 ?_
  refine lv_iload_n hx hb dX12_spelt_10 rfl (lv_at hl 1 rfl) ?_
  refine lv_i2l (v := (Int32.toInt64 (iI 112))) hx hb dX12_spelt_11 rfl ?_
  refine r_ladd (v := ((27 * ((Int32.toInt64 (iI 111)) - 96)) + (Int32.toInt64 (iI 112)))) M rfl dX12_spelt_12 ?_
  refine lv_ldc2 (v := 96) hx hb M.1.2.2.2.1 (M.1.2.2.2.2 _ G1642) dX12_spelt_13 ?_
  refine r_lsub (v := (((27 * ((Int32.toInt64 (iI 111)) - 96)) + (Int32.toInt64 (iI 112))) - 96)) M rfl dX12_spelt_16 ?_
  refine lv_lstore (lv' := [(7, .long (((27 * ((Int32.toInt64 (iI 111)) - 96)) + (Int32.toInt64 (iI 112))) - 96)), (0, .int (iI 111)), (1, .int (iI 112)), (2, .int (iI 101)), (3, .int (iI 110)), (4, .int (iI 0)), (5, .int (iI 0)), (6, .int (iI 0))]) hx hb dX12_spelt_17 hl (by decide) rfl (fun ls hl => ?_)
  refine lv_iload_n hx hb dX12_spelt_19 rfl (lv_at hl 3 rfl) ?_
  refine lv_if_le (tgt := 38) hx hb dX12_spelt_20 (by decide) (fun c => absurd c (by decide +kernel)) (fun _ => ?_)
  refine lv_ldc2 (v := 27) hx hb M.1.2.2.2.1 (M.1.2.2.2.2 _ G1641) dX12_spelt_23 ?_
  refine lv_lload hx hb dX12_spelt_26 (lv_at hl 0 rfl) ?_
  refine r_lmul (v := (27 * (((27 * ((Int32.toInt64 (iI 111)) - 96)) + (Int32.toInt64 (iI 112))) - 96))) M rfl dX12_spelt_28 ?_
  refine lv_iload_n hx hb dX12_spelt_29 rfl (lv_at hl 3 rfl) ?_
  refine lv_i2l (v := (Int32.toInt64 (iI 101))) hx hb dX12_spelt_30 rfl ?_
  refine r_ladd (v := ((27 * (((27 * ((Int32.toInt64 (iI 111)) - 96)) + (Int32.toInt64 (iI 112))) - 96)) + (Int32.toInt64 (iI 101)))) M rfl dX12_spelt_31 ?_
  refine lv_ldc2 (v := 96) hx hb M.1.2.2.2.1 (M.1.2.2.2.2 _ G1642) dX12_spelt_32 ?_
  refine r_lsub (v := (((27 * (((27 * ((Int32.toInt64 (iI 111)) - 96)) + (Int32.toInt64 (iI 112))) - 96)) + (Int32.toInt64 (iI 101))) - 96)) M rfl dX12_spelt_35 ?_
  refine lv_lstore (lv' := [(7, .long (((27 * (((27 * ((Int32.toInt64 (iI 111)) - 96)) + (Int32.toInt64 (iI 112))) - 96)) + (Int32.toInt64 (iI 101))) - 96)), (0, .int (iI 111)), (1, .int (iI 112)), (2, .int (iI 101)), (3, .int (iI 110)), (4, .int (iI 0)), (5, .int (iI 0)), (6, .int (iI 0))]) hx hb dX12_spelt_36 hl (by decide) rfl (fun ls hl => ?_)
  refine lv_iload_n hx hb dX12_spelt_38 rfl (lv_at hl 4 rfl) ?_
  refine lv_if_le (tgt := 57) hx hb dX12_spelt_39 (by decide) (fun c => absurd c (by decide +kernel)) (fun _ => ?_)
  refine lv_ldc2 (v := 27) hx hb M.1.2.2.2.1 (M.1.2.2.2.2 _ G1641) dX12_spelt_42 ?_
  refine lv_lload hx hb dX12_spelt_45 (lv_at hl 0 rfl) ?_
  refine r_lmul (v := (27 * (((27 * (((27 * ((Int32.toInt64 (iI 111)) - 96)) + (Int32.toInt64 (iI 112))) - 96)) + (Int32.toInt64 (iI 101))) - 96))) M rfl dX12_spelt_47 ?_
  refine lv_iload_n hx hb dX12_spelt_48 rfl (lv_at hl 4 rfl) ?_
  refine lv_i2l (v := (Int32.toInt64 (iI 110))) hx hb dX12_spelt_49 rfl ?_
  refine r_ladd (v := ((27 * (((27 * (((27 * ((Int32.toInt64 (iI 111)) - 96)) + (Int32.toInt64 (iI 112))) - 96)) + (Int32.toInt64 (iI 101))) - 96)) + (Int32.toInt64 (iI 110)))) M rfl dX12_spelt_50 ?_
  refine lv_ldc2 (v := 96) hx hb M.1.2.2.2.1 (M.1.2.2.2.2 _ G1642) dX12_spelt_51 ?_
  refine r_lsub (v := (((27 * (((27 * (((27 * ((Int32.toInt64 (iI 111)) - 96)) + (Int32.toInt64 (iI 112))) - 96)) + (Int32.toInt64 (iI 101))) - 96)) + (Int32.toInt64 (iI 110))) - 96)) M rfl dX12_spelt_54 ?_
  refine lv_lstore (lv' := [(7, .long (((27 * (((27 * (((27 * ((Int32.toInt64 (iI 111)) - 96)) + (Int32.toInt64 (iI 112))) - 96)) + (Int32.toInt64 (iI 101))) - 96)) + (Int32.toInt64 (iI 110))) - 96)), (0, .int (iI 111)), (1, .int (iI 112)), (2, .int (iI 101)), (3, .int (iI 110)), (4, .int (iI 0)), (5, .int (iI 0)), (6, .int (iI 0))]) hx hb dX12_spelt_55 hl (by decide) rfl (fun ls hl => ?_)
  refine lv_iload hx hb dX12_spelt_57 (lv_at hl 5 rfl) ?_
  refine lv_if_le (tgt := 78) hx hb dX12_spelt_59 (by decide) (fun _ => ?_) (fun c => absurd (by decide +kernel) c)
  refine lv_iload hx hb dX12_spelt_78 (lv_at hl 6 rfl) ?_
  refine lv_if_le (tgt := 99) hx hb dX12_spelt_80 (by decide) (fun _ => ?_) (fun c => absurd (by decide +kernel) c)
  refine lv_iload hx hb dX12_spelt_99 (lv_at hl 7 rfl) ?_
  refine lv_if_le (tgt := 120) hx hb dX12_spelt_101 (by decide) (fun _ => ?_) (fun c => absurd (by decide +kernel) c)
  refine lv_lload hx hb dX12_spelt_120 (lv_at hl 0 rfl) ?_
  exact ret _ () _ _ _ _ _ [] dX12_spelt_122 (show (((27 * (((27 * (((27 * ((Int32.toInt64 (iI 111)) - 96)) + (Int32.toInt64 (iI 112))) - 96)) + (Int32.toInt64 (iI 101))) - 96)) + (Int32.toInt64 (iI 110))) - 96) = 307058 from (by decide +kernel)) w (by decide) rfl
set_option maxRecDepth 100000 in
set_option maxHeartbeats 4000000 in
theorem c33_X12_spelt (l : Launch) (D : va_G) (T : Nat → ClassId) (sz : Nat) : Met l yX12_spelt (Cond.code yX12_spelt cX12_spelt 9 (some .long) :: GW) (Rm 0 0 0) (cPre [.int (iI 98), .int (iI 97), .int (iI 114), .int (iI 101), .int (iI 0), .int (iI 0), .int (iI 0)] D T [] sz) (qL D [] sz (fun (v : Int64) (u : Unit) => (v = 40586)) (fun u => [])) 0 0 (va_A [] sz) := by
  refine e_L (by decide) (Nat.le_of_ble_eq_true rfl) ?_
  intro p e s m args below meth c A Q ls M hin w ret hl
  have hx := M.1.1
  have hb := M.1.2.1
  have hl : lv_has ls 9 [(0, .int (iI 98)), (1, .int (iI 97)), (2, .int (iI 114)), (3, .int (iI 101)), (4, .int (iI 0)), (5, .int (iI 0)), (6, .int (iI 0))] := hl
  refine lv_ldc2 (v := 27) hx hb M.1.2.2.2.1 (M.1.2.2.2.2 _ G1641) dX12_spelt_0 ?_
  refine lv_iload_n hx hb dX12_spelt_3 rfl (lv_at hl 0 rfl) ?_
  refine lv_i2l (v := (Int32.toInt64 (iI 98))) hx hb dX12_spelt_4 rfl ?_
  refine lv_ldc2 (v := 96) hx hb M.1.2.2.2.1 (M.1.2.2.2.2 _ G1642) dX12_spelt_5 ?_
  refine r_lsub (v := ((Int32.toInt64 (iI 98)) - 96)) M rfl dX12_spelt_8 ?_
  refine r_lmul (v := (27 * ((Int32.toInt64 (iI 98)) - 96))) M rfl dX12_spelt_9 ?_
  refine lv_iload_n hx hb dX12_spelt_10 rfl (lv_at hl 1 rfl) ?_
  refine lv_i2l (v := (Int32.toInt64 (iI 97))) hx hb dX12_spelt_11 rfl ?_
  refine r_ladd (v := ((27 * ((Int32.toInt64 (iI 98)) - 96)) + (Int32.toInt64 (iI 97)))) M rfl dX12_spelt_12 ?_
  refine lv_ldc2 (v := 96) hx hb M.1.2.2.2.1 (M.1.2.2.2.2 _ G1642) dX12_spelt_13 ?_
  refine r_lsub (v := (((27 * ((Int32.toInt64 (iI 98)) - 96)) + (Int32.toInt64 (iI 97))) - 96)) M rfl dX12_spelt_16 ?_
  refine lv_lstore (lv' := [(7, .long (((27 * ((Int32.toInt64 (iI 98)) - 96)) + (Int32.toInt64 (iI 97))) - 96)), (0, .int (iI 98)), (1, .int (iI 97)), (2, .int (iI 114)), (3, .int (iI 101)), (4, .int (iI 0)), (5, .int (iI 0)), (6, .int (iI 0))]) hx hb dX12_spelt_17 hl (by decide) rfl (fun ls hl => ?_)
  refine lv_iload_n hx hb dX12_spelt_19 rfl (lv_at hl 3 rfl) ?_
  refine lv_if_le (tgt := 38) hx hb dX12_spelt_20 (by decide) (fun c => absurd c (by decide +kernel)) (fun _ => ?_)
  refine lv_ldc2 (v := 27) hx hb M.1.2.2.2.1 (M.1.2.2.2.2 _ G1641) dX12_spelt_23 ?_
  refine lv_lload hx hb dX12_spelt_26 (lv_at hl 0 rfl) ?_
  refine r_lmul (v := (27 * (((27 * ((Int32.toInt64 (iI 98)) - 96)) + (Int32.toInt64 (iI 97))) - 96))) M rfl dX12_spelt_28 ?_
  refine lv_iload_n hx hb dX12_spelt_29 rfl (lv_at hl 3 rfl) ?_
  refine lv_i2l (v := (Int32.toInt64 (iI 114))) hx hb dX12_spelt_30 rfl ?_
  refine r_ladd (v := ((27 * (((27 * ((Int32.toInt64 (iI 98)) - 96)) + (Int32.toInt64 (iI 97))) - 96)) + (Int32.toInt64 (iI 114)))) M rfl dX12_spelt_31 ?_
  refine lv_ldc2 (v := 96) hx hb M.1.2.2.2.1 (M.1.2.2.2.2 _ G1642) dX12_spelt_32 ?_
  refine r_lsub (v := (((27 * (((27 * ((Int32.toInt64 (iI 98)) - 96)) + (Int32.toInt64 (iI 97))) - 96)) + (Int32.toInt64 (iI 114))) - 96)) M rfl dX12_spelt_35 ?_
  refine lv_lstore (lv' := [(7, .long (((27 * (((27 * ((Int32.toInt64 (iI 98)) - 96)) + (Int32.toInt64 (iI 97))) - 96)) + (Int32.toInt64 (iI 114))) - 96)), (0, .int (iI 98)), (1, .int (iI 97)), (2, .int (iI 114)), (3, .int (iI 101)), (4, .int (iI 0)), (5, .int (iI 0)), (6, .int (iI 0))]) hx hb dX12_spelt_36 hl (by decide) rfl (fun ls hl => ?_)
  refine lv_iload_n hx hb dX12_spelt_38 rfl (lv_at hl 4 rfl) ?_
  refine lv_if_le (tgt := 57) hx hb dX12_spelt_39 (by decide) (fun c => absurd c (by decide +kernel)) (fun _ => ?_)
  refine lv_ldc2 (v := 27) hx hb M.1.2.2.2.1 (M.1.2.2.2.2 _ G1641) dX12_spelt_42 ?_
  refine lv_lload hx hb dX12_spelt_45 (lv_at hl 0 rfl) ?_
  refine r_lmul (v := (27 * (((27 * (((27 * ((Int32.toInt64 (iI 98)) - 96)) + (Int32.toInt64 (iI 97))) - 96)) + (Int32.toInt64 (iI 114))) - 96))) M rfl dX12_spelt_47 ?_
  refine lv_iload_n hx hb dX12_spelt_48 rfl (lv_at hl 4 rfl) ?_
  refine lv_i2l (v := (Int32.toInt64 (iI 101))) hx hb dX12_spelt_49 rfl ?_
  refine r_ladd (v := ((27 * (((27 * (((27 * ((Int32.toInt64 (iI 98)) - 96)) + (Int32.toInt64 (iI 97))) - 96)) + (Int32.toInt64 (iI 114))) - 96)) + (Int32.toInt64 (iI 101)))) M rfl dX12_spelt_50 ?_
  refine lv_ldc2 (v := 96) hx hb M.1.2.2.2.1 (M.1.2.2.2.2 _ G1642) dX12_spelt_51 ?_
  refine r_lsub (v := (((27 * (((27 * (((27 * ((Int32.toInt64 (iI 98)) - 96)) + (Int32.toInt64 (iI 97))) - 96)) + (Int32.toInt64 (iI 114))) - 96)) + (Int32.toInt64 (iI 101))) - 96)) M rfl dX12_spelt_54 ?_
  refine lv_lstore (lv' := [(7, .long (((27 * (((27 * (((27 * ((Int32.toInt64 (iI 98)) - 96)) + (Int32.toInt64 (iI 97))) - 96)) + (Int32.toInt64 (iI 114))) - 96)) + (Int32.toInt64 (iI 101))) - 96)), (0, .int (iI 98)), (1, .int (iI 97)), (2, .int (iI 114)), (3, .int (iI 101)), (4, .int (iI 0)), (5, .int (iI 0)), (6, .int (iI 0))]) hx hb dX12_spelt_55 hl (by decide) rfl (fun ls hl => ?_)
  refine lv_iload hx hb dX12_spelt_57 (lv_at hl 5 rfl) ?_
  refine lv_if_le (tgt := 78) hx hb dX12_spelt_59 (by decide) (fun _ => ?_) (fun c => absurd (by decide +kernel) c)
  refine lv_iload hx hb dX12_spelt_78 (lv_at hl 6 rfl) ?_
  refine lv_if_le (tgt := 99) hx hb dX12_spelt_80 (by decide) (fun _ => ?_) (fun c => absurd (by decide +kernel) c)
  refine lv_iload hx hb dX12_spelt_99 (lv_at hl 7 rfl) ?_
  refine lv_if_le (tgt := 120) hx hb dX12_spelt_101 (by decide) (fun _ => ?_) (fun c => absurd (by decide +kernel) c)
  refine lv_lload hx hb dX12_spelt_120 (lv_at hl 0 rfl) ?_
  exact ret _ () _ _ _ _ _ [] dX12_spelt_122 (show (((27 * (((27 * (((27 * ((Int32.toInt64 (iI 98)) - 96)) + (Int32.toInt64 (iI 97))) - 96)) + (Int32.toInt64 (iI 114))) - 96)) + (Int32.toInt64 (iI 101))) - 96) = 40586 from (by decide +kernel)) w (by decide) rfl
set_option maxRecDepth 100000 in
set_option maxHeartbeats 4000000 in
theorem c34_X12_spelt (l : Launch) (D : va_G) (T : Nat → ClassId) (sz : Nat) : Met l yX12_spelt (Cond.code yX12_spelt cX12_spelt 9 (some .long) :: GW) (Rm 0 0 0) (cPre [.int (iI 116), .int (iI 111), .int (iI 114), .int (iI 110), .int (iI 0), .int (iI 0), .int (iI 0)] D T [] sz) (qL D [] sz (fun (v : Int64) (u : Unit) => (v = 405095)) (fun u => [])) 0 0 (va_A [] sz) := by
  refine e_L (by decide) (Nat.le_of_ble_eq_true rfl) ?_
  intro p e s m args below meth c A Q ls M hin w ret hl
  have hx := M.1.1
  have hb := M.1.2.1
  have hl : lv_has ls 9 [(0, .int (iI 116)), (1, .int (iI 111)), (2, .int (iI 114)), (3, .int (iI 110)), (4, .int (iI 0)), (5, .int (iI 0)), (6, .int (iI 0))] := hl
  refine lv_ldc2 (v := 27) hx hb M.1.2.2.2.1 (M.1.2.2.2.2 _ G1641) dX12_spelt_0 ?_
  refine lv_iload_n hx hb dX12_spelt_3 rfl (lv_at hl 0 rfl) ?_
  refine lv_i2l (v := (Int32.toInt64 (iI 116))) hx hb dX12_spelt_4 rfl ?_
  refine lv_ldc2 (v := 96) hx hb M.1.2.2.2.1 (M.1.2.2.2.2 _ G1642) dX12_spelt_5 ?_
  refine r_lsub (v := ((Int32.toInt64 (iI 116)) - 96)) M rfl dX12_spelt_8 ?_
  refine r_lmul (v := (27 * ((Int32.toInt64 (iI 116)) - 96))) M rfl dX12_spelt_9 ?_
  refine lv_iload_n hx hb dX12_spelt_10 rfl (lv_at hl 1 rfl) ?_
  refine lv_i2l (v := (Int32.toInt64 (iI 111))) hx hb dX12_spelt_11 rfl ?_
  refine r_ladd (v := ((27 * ((Int32.toInt64 (iI 116)) - 96)) + (Int32.toInt64 (iI 111)))) M rfl dX12_spelt_12 ?_
  refine lv_ldc2 (v := 96) hx hb M.1.2.2.2.1 (M.1.2.2.2.2 _ G1642) dX12_spelt_13 ?_
  refine r_lsub (v := (((27 * ((Int32.toInt64 (iI 116)) - 96)) + (Int32.toInt64 (iI 111))) - 96)) M rfl dX12_spelt_16 ?_
  refine lv_lstore (lv' := [(7, .long (((27 * ((Int32.toInt64 (iI 116)) - 96)) + (Int32.toInt64 (iI 111))) - 96)), (0, .int (iI 116)), (1, .int (iI 111)), (2, .int (iI 114)), (3, .int (iI 110)), (4, .int (iI 0)), (5, .int (iI 0)), (6, .int (iI 0))]) hx hb dX12_spelt_17 hl (by decide) rfl (fun ls hl => ?_)
  refine lv_iload_n hx hb dX12_spelt_19 rfl (lv_at hl 3 rfl) ?_
  refine lv_if_le (tgt := 38) hx hb dX12_spelt_20 (by decide) (fun c => absurd c (by decide +kernel)) (fun _ => ?_)
  refine lv_ldc2 (v := 27) hx hb M.1.2.2.2.1 (M.1.2.2.2.2 _ G1641) dX12_spelt_23 ?_
  refine lv_lload hx hb dX12_spelt_26 (lv_at hl 0 rfl) ?_
  refine r_lmul (v := (27 * (((27 * ((Int32.toInt64 (iI 116)) - 96)) + (Int32.toInt64 (iI 111))) - 96))) M rfl dX12_spelt_28 ?_
  refine lv_iload_n hx hb dX12_spelt_29 rfl (lv_at hl 3 rfl) ?_
  refine lv_i2l (v := (Int32.toInt64 (iI 114))) hx hb dX12_spelt_30 rfl ?_
  refine r_ladd (v := ((27 * (((27 * ((Int32.toInt64 (iI 116)) - 96)) + (Int32.toInt64 (iI 111))) - 96)) + (Int32.toInt64 (iI 114)))) M rfl dX12_spelt_31 ?_
  refine lv_ldc2 (v := 96) hx hb M.1.2.2.2.1 (M.1.2.2.2.2 _ G1642) dX12_spelt_32 ?_
  refine r_lsub (v := (((27 * (((27 * ((Int32.toInt64 (iI 116)) - 96)) + (Int32.toInt64 (iI 111))) - 96)) + (Int32.toInt64 (iI 114))) - 96)) M rfl dX12_spelt_35 ?_
  refine lv_lstore (lv' := [(7, .long (((27 * (((27 * ((Int32.toInt64 (iI 116)) - 96)) + (Int32.toInt64 (iI 111))) - 96)) + (Int32.toInt64 (iI 114))) - 96)), (0, .int (iI 116)), (1, .int (iI 111)), (2, .int (iI 114)), (3, .int (iI 110)), (4, .int (iI 0)), (5, .int (iI 0)), (6, .int (iI 0))]) hx hb dX12_spelt_36 hl (by decide) rfl (fun ls hl => ?_)
  refine lv_iload_n hx hb dX12_spelt_38 rfl (lv_at hl 4 rfl) ?_
  refine lv_if_le (tgt := 57) hx hb dX12_spelt_39 (by decide) (fun c => absurd c (by decide +kernel)) (fun _ => ?_)
  refine lv_ldc2 (v := 27) hx hb M.1.2.2.2.1 (M.1.2.2.2.2 _ G1641) dX12_spelt_42 ?_
  refine lv_lload hx hb dX12_spelt_45 (lv_at hl 0 rfl) ?_
  refine r_lmul (v := (27 * (((27 * (((27 * ((Int32.toInt64 (iI 116)) - 96)) + (Int32.toInt64 (iI 111))) - 96)) + (Int32.toInt64 (iI 114))) - 96))) M rfl dX12_spelt_47 ?_
  refine lv_iload_n hx hb dX12_spelt_48 rfl (lv_at hl 4 rfl) ?_
  refine lv_i2l (v := (Int32.toInt64 (iI 110))) hx hb dX12_spelt_49 rfl ?_
  refine r_ladd (v := ((27 * (((27 * (((27 * ((Int32.toInt64 (iI 116)) - 96)) + (Int32.toInt64 (iI 111))) - 96)) + (Int32.toInt64 (iI 114))) - 96)) + (Int32.toInt64 (iI 110)))) M rfl dX12_spelt_50 ?_
  refine lv_ldc2 (v := 96) hx hb M.1.2.2.2.1 (M.1.2.2.2.2 _ G1642) dX12_spelt_51 ?_
  refine r_lsub (v := (((27 * (((27 * (((27 * ((Int32.toInt64 (iI 116)) - 96)) + (Int32.toInt64 (iI 111))) - 96)) + (Int32.toInt64 (iI 114))) - 96)) + (Int32.toInt64 (iI 110))) - 96)) M rfl dX12_spelt_54 ?_
  refine lv_lstore (lv' := [(7, .long (((27 * (((27 * (((27 * ((Int32.toInt64 (iI 116)) - 96)) + (Int32.toInt64 (iI 111))) - 96)) + (Int32.toInt64 (iI 114))) - 96)) + (Int32.toInt64 (iI 110))) - 96)), (0, .int (iI 116)), (1, .int (iI 111)), (2, .int (iI 114)), (3, .int (iI 110)), (4, .int (iI 0)), (5, .int (iI 0)), (6, .int (iI 0))]) hx hb dX12_spelt_55 hl (by decide) rfl (fun ls hl => ?_)
  refine lv_iload hx hb dX12_spelt_57 (lv_at hl 5 rfl) ?_
  refine lv_if_le (tgt := 78) hx hb dX12_spelt_59 (by decide) (fun _ => ?_) (fun c => absurd (by decide +kernel) c)
  refine lv_iload hx hb dX12_spelt_78 (lv_at hl 6 rfl) ?_
  refine lv_if_le (tgt := 99) hx hb dX12_spelt_80 (by decide) (fun _ => ?_) (fun c => absurd (by decide +kernel) c)
  refine lv_iload hx hb dX12_spelt_99 (lv_at hl 7 rfl) ?_
  refine lv_if_le (tgt := 120) hx hb dX12_spelt_101 (by decide) (fun _ => ?_) (fun c => absurd (by decide +kernel) c)
  refine lv_lload hx hb dX12_spelt_120 (lv_at hl 0 rfl) ?_
  exact ret _ () _ _ _ _ _ [] dX12_spelt_122 (show (((27 * (((27 * (((27 * ((Int32.toInt64 (iI 116)) - 96)) + (Int32.toInt64 (iI 111))) - 96)) + (Int32.toInt64 (iI 114))) - 96)) + (Int32.toInt64 (iI 110))) - 96) = 405095 from (by decide +kernel)) w (by decide) rfl
set_option maxRecDepth 100000 in
set_option maxHeartbeats 4000000 in
theorem c35_X12_spelt (l : Launch) (D : va_G) (T : Nat → ClassId) (sz : Nat) : Met l yX12_spelt (Cond.code yX12_spelt cX12_spelt 9 (some .long) :: GW) (Rm 0 0 0) (cPre [.int (iI 114), .int (iI 105), .int (iI 110), .int (iI 103), .int (iI 0), .int (iI 0), .int (iI 0)] D T [] sz) (qL D [] sz (fun (v : Int64) (u : Unit) => (v = 361240)) (fun u => [])) 0 0 (va_A [] sz) := by
  refine e_L (by decide) (Nat.le_of_ble_eq_true rfl) ?_
  intro p e s m args below meth c A Q ls M hin w ret hl
  have hx := M.1.1
  have hb := M.1.2.1
  have hl : lv_has ls 9 [(0, .int (iI 114)), (1, .int (iI 105)), (2, .int (iI 110)), (3, .int (iI 103)), (4, .int (iI 0)), (5, .int (iI 0)), (6, .int (iI 0))] := hl
  refine lv_ldc2 (v := 27) hx hb M.1.2.2.2.1 (M.1.2.2.2.2 _ G1641) dX12_spelt_0 ?_
  refine lv_iload_n hx hb dX12_spelt_3 rfl (lv_at hl 0 rfl) ?_
  refine lv_i2l (v := (Int32.toInt64 (iI 114))) hx hb dX12_spelt_4 rfl ?_
  refine lv_ldc2 (v := 96) hx hb M.1.2.2.2.1 (M.1.2.2.2.2 _ G1642) dX12_spelt_5 ?_
  refine r_lsub (v := ((Int32.toInt64 (iI 114)) - 96)) M rfl dX12_spelt_8 ?_
  refine r_lmul (v := (27 * ((Int32.toInt64 (iI 114)) - 96))) M rfl dX12_spelt_9 ?_
  refine lv_iload_n hx hb dX12_spelt_10 rfl (lv_at hl 1 rfl) ?_
  refine lv_i2l (v := (Int32.toInt64 (iI 105))) hx hb dX12_spelt_11 rfl ?_
  refine r_ladd (v := ((27 * ((Int32.toInt64 (iI 114)) - 96)) + (Int32.toInt64 (iI 105)))) M rfl dX12_spelt_12 ?_
  refine lv_ldc2 (v := 96) hx hb M.1.2.2.2.1 (M.1.2.2.2.2 _ G1642) dX12_spelt_13 ?_
  refine r_lsub (v := (((27 * ((Int32.toInt64 (iI 114)) - 96)) + (Int32.toInt64 (iI 105))) - 96)) M rfl dX12_spelt_16 ?_
  refine lv_lstore (lv' := [(7, .long (((27 * ((Int32.toInt64 (iI 114)) - 96)) + (Int32.toInt64 (iI 105))) - 96)), (0, .int (iI 114)), (1, .int (iI 105)), (2, .int (iI 110)), (3, .int (iI 103)), (4, .int (iI 0)), (5, .int (iI 0)), (6, .int (iI 0))]) hx hb dX12_spelt_17 hl (by decide) rfl (fun ls hl => ?_)
  refine lv_iload_n hx hb dX12_spelt_19 rfl (lv_at hl 3 rfl) ?_
  refine lv_if_le (tgt := 38) hx hb dX12_spelt_20 (by decide) (fun c => absurd c (by decide +kernel)) (fun _ => ?_)
  refine lv_ldc2 (v := 27) hx hb M.1.2.2.2.1 (M.1.2.2.2.2 _ G1641) dX12_spelt_23 ?_
  refine lv_lload hx hb dX12_spelt_26 (lv_at hl 0 rfl) ?_
  refine r_lmul (v := (27 * (((27 * ((Int32.toInt64 (iI 114)) - 96)) + (Int32.toInt64 (iI 105))) - 96))) M rfl dX12_spelt_28 ?_
  refine lv_iload_n hx hb dX12_spelt_29 rfl (lv_at hl 3 rfl) ?_
  refine lv_i2l (v := (Int32.toInt64 (iI 110))) hx hb dX12_spelt_30 rfl ?_
  refine r_ladd (v := ((27 * (((27 * ((Int32.toInt64 (iI 114)) - 96)) + (Int32.toInt64 (iI 105))) - 96)) + (Int32.toInt64 (iI 110)))) M rfl dX12_spelt_31 ?_
  refine lv_ldc2 (v := 96) hx hb M.1.2.2.2.1 (M.1.2.2.2.2 _ G1642) dX12_spelt_32 ?_
  refine r_lsub (v := (((27 * (((27 * ((Int32.toInt64 (iI 114)) - 96)) + (Int32.toInt64 (iI 105))) - 96)) + (Int32.toInt64 (iI 110))) - 96)) M rfl dX12_spelt_35 ?_
  refine lv_lstore (lv' := [(7, .long (((27 * (((27 * ((Int32.toInt64 (iI 114)) - 96)) + (Int32.toInt64 (iI 105))) - 96)) + (Int32.toInt64 (iI 110))) - 96)), (0, .int (iI 114)), (1, .int (iI 105)), (2, .int (iI 110)), (3, .int (iI 103)), (4, .int (iI 0)), (5, .int (iI 0)), (6, .int (iI 0))]) hx hb dX12_spelt_36 hl (by decide) rfl (fun ls hl => ?_)
  refine lv_iload_n hx hb dX12_spelt_38 rfl (lv_at hl 4 rfl) ?_
  refine lv_if_le (tgt := 57) hx hb dX12_spelt_39 (by decide) (fun c => absurd c (by decide +kernel)) (fun _ => ?_)
  refine lv_ldc2 (v := 27) hx hb M.1.2.2.2.1 (M.1.2.2.2.2 _ G1641) dX12_spelt_42 ?_
  refine lv_lload hx hb dX12_spelt_45 (lv_at hl 0 rfl) ?_
  refine r_lmul (v := (27 * (((27 * (((27 * ((Int32.toInt64 (iI 114)) - 96)) + (Int32.toInt64 (iI 105))) - 96)) + (Int32.toInt64 (iI 110))) - 96))) M rfl dX12_spelt_47 ?_
  refine lv_iload_n hx hb dX12_spelt_48 rfl (lv_at hl 4 rfl) ?_
  refine lv_i2l (v := (Int32.toInt64 (iI 103))) hx hb dX12_spelt_49 rfl ?_
  refine r_ladd (v := ((27 * (((27 * (((27 * ((Int32.toInt64 (iI 114)) - 96)) + (Int32.toInt64 (iI 105))) - 96)) + (Int32.toInt64 (iI 110))) - 96)) + (Int32.toInt64 (iI 103)))) M rfl dX12_spelt_50 ?_
  refine lv_ldc2 (v := 96) hx hb M.1.2.2.2.1 (M.1.2.2.2.2 _ G1642) dX12_spelt_51 ?_
  refine r_lsub (v := (((27 * (((27 * (((27 * ((Int32.toInt64 (iI 114)) - 96)) + (Int32.toInt64 (iI 105))) - 96)) + (Int32.toInt64 (iI 110))) - 96)) + (Int32.toInt64 (iI 103))) - 96)) M rfl dX12_spelt_54 ?_
  refine lv_lstore (lv' := [(7, .long (((27 * (((27 * (((27 * ((Int32.toInt64 (iI 114)) - 96)) + (Int32.toInt64 (iI 105))) - 96)) + (Int32.toInt64 (iI 110))) - 96)) + (Int32.toInt64 (iI 103))) - 96)), (0, .int (iI 114)), (1, .int (iI 105)), (2, .int (iI 110)), (3, .int (iI 103)), (4, .int (iI 0)), (5, .int (iI 0)), (6, .int (iI 0))]) hx hb dX12_spelt_55 hl (by decide) rfl (fun ls hl => ?_)
  refine lv_iload hx hb dX12_spelt_57 (lv_at hl 5 rfl) ?_
  refine lv_if_le (tgt := 78) hx hb dX12_spelt_59 (by decide) (fun _ => ?_) (fun c => absurd (by decide +kernel) c)
  refine lv_iload hx hb dX12_spelt_78 (lv_at hl 6 rfl) ?_
  refine lv_if_le (tgt := 99) hx hb dX12_spelt_80 (by decide) (fun _ => ?_) (fun c => absurd (by decide +kernel) c)
  refine lv_iload hx hb dX12_spelt_99 (lv_at hl 7 rfl) ?_
  refine lv_if_le (tgt := 120) hx hb dX12_spelt_101 (by decide) (fun _ => ?_) (fun c => absurd (by decide +kernel) c)
  refine lv_lload hx hb dX12_spelt_120 (lv_at hl 0 rfl) ?_
  exact ret _ () _ _ _ _ _ [] dX12_spelt_122 (show (((27 * (((27 * (((27 * ((Int32.toInt64 (iI 114)) - 96)) + (Int32.toInt64 (iI 105))) - 96)) + (Int32.toInt64 (iI 110))) - 96)) + (Int32.toInt64 (iI 103))) - 96) = 361240 from (by decide +kernel)) w (by decide) rfl
set_option maxRecDepth 100000 in
set_option maxHeartbeats 4000000 in
theorem c36_X12_spelt (l : Launch) (D : va_G) (T : Nat → ClassId) (sz : Nat) : Met l yX12_spelt (Cond.code yX12_spelt cX12_spelt 9 (some .long) :: GW) (Rm 0 0 0) (cPre [.int (iI 119), .int (iI 105), .int (iI 116), .int (iI 104), .int (iI 0), .int (iI 0), .int (iI 0)] D T [] sz) (qL D [] sz (fun (v : Int64) (u : Unit) => (v = 459818)) (fun u => [])) 0 0 (va_A [] sz) := by
  refine e_L (by decide) (Nat.le_of_ble_eq_true rfl) ?_
  intro p e s m args below meth c A Q ls M hin w ret hl
  have hx := M.1.1
  have hb := M.1.2.1
  have hl : lv_has ls 9 [(0, .int (iI 119)), (1, .int (iI 105)), (2, .int (iI 116)), (3, .int (iI 104)), (4, .int (iI 0)), (5, .int (iI 0)), (6, .int (iI 0))] := hl
  refine lv_ldc2 (v := 27) hx hb M.1.2.2.2.1 (M.1.2.2.2.2 _ G1641) dX12_spelt_0 ?_
  refine lv_iload_n hx hb dX12_spelt_3 rfl (lv_at hl 0 rfl) ?_
  refine lv_i2l (v := (Int32.toInt64 (iI 119))) hx hb dX12_spelt_4 rfl ?_
  refine lv_ldc2 (v := 96) hx hb M.1.2.2.2.1 (M.1.2.2.2.2 _ G1642) dX12_spelt_5 ?_
  refine r_lsub (v := ((Int32.toInt64 (iI 119)) - 96)) M rfl dX12_spelt_8 ?_
  refine r_lmul (v := (27 * ((Int32.toInt64 (iI 119)) - 96))) M rfl dX12_spelt_9 ?_
  refine lv_iload_n hx hb dX12_spelt_10 rfl (lv_at hl 1 rfl) ?_
  refine lv_i2l (v := (Int32.toInt64 (iI 105))) hx hb dX12_spelt_11 rfl ?_
  refine r_ladd (v := ((27 * ((Int32.toInt64 (iI 119)) - 96)) + (Int32.toInt64 (iI 105)))) M rfl dX12_spelt_12 ?_
  refine lv_ldc2 (v := 96) hx hb M.1.2.2.2.1 (M.1.2.2.2.2 _ G1642) dX12_spelt_13 ?_
  refine r_lsub (v := (((27 * ((Int32.toInt64 (iI 119)) - 96)) + (Int32.toInt64 (iI 105))) - 96)) M rfl dX12_spelt_16 ?_
  refine lv_lstore (lv' := [(7, .long (((27 * ((Int32.toInt64 (iI 119)) - 96)) + (Int32.toInt64 (iI 105))) - 96)), (0, .int (iI 119)), (1, .int (iI 105)), (2, .int (iI 116)), (3, .int (iI 104)), (4, .int (iI 0)), (5, .int (iI 0)), (6, .int (iI 0))]) hx hb dX12_spelt_17 hl (by decide) rfl (fun ls hl => ?_)
  refine lv_iload_n hx hb dX12_spelt_19 rfl (lv_at hl 3 rfl) ?_
  refine lv_if_le (tgt := 38) hx hb dX12_spelt_20 (by decide) (fun c => absurd c (by decide +kernel)) (fun _ => ?_)
  refine lv_ldc2 (v := 27) hx hb M.1.2.2.2.1 (M.1.2.2.2.2 _ G1641) dX12_spelt_23 ?_
  refine lv_lload hx hb dX12_spelt_26 (lv_at hl 0 rfl) ?_
  refine r_lmul (v := (27 * (((27 * ((Int32.toInt64 (iI 119)) - 96)) + (Int32.toInt64 (iI 105))) - 96))) M rfl dX12_spelt_28 ?_
  refine lv_iload_n hx hb dX12_spelt_29 rfl (lv_at hl 3 rfl) ?_
  refine lv_i2l (v := (Int32.toInt64 (iI 116))) hx hb dX12_spelt_30 rfl ?_
  refine r_ladd (v := ((27 * (((27 * ((Int32.toInt64 (iI 119)) - 96)) + (Int32.toInt64 (iI 105))) - 96)) + (Int32.toInt64 (iI 116)))) M rfl dX12_spelt_31 ?_
  refine lv_ldc2 (v := 96) hx hb M.1.2.2.2.1 (M.1.2.2.2.2 _ G1642) dX12_spelt_32 ?_
  refine r_lsub (v := (((27 * (((27 * ((Int32.toInt64 (iI 119)) - 96)) + (Int32.toInt64 (iI 105))) - 96)) + (Int32.toInt64 (iI 116))) - 96)) M rfl dX12_spelt_35 ?_
  refine lv_lstore (lv' := [(7, .long (((27 * (((27 * ((Int32.toInt64 (iI 119)) - 96)) + (Int32.toInt64 (iI 105))) - 96)) + (Int32.toInt64 (iI 116))) - 96)), (0, .int (iI 119)), (1, .int (iI 105)), (2, .int (iI 116)), (3, .int (iI 104)), (4, .int (iI 0)), (5, .int (iI 0)), (6, .int (iI 0))]) hx hb dX12_spelt_36 hl (by decide) rfl (fun ls hl => ?_)
  refine lv_iload_n hx hb dX12_spelt_38 rfl (lv_at hl 4 rfl) ?_
  refine lv_if_le (tgt := 57) hx hb dX12_spelt_39 (by decide) (fun c => absurd c (by decide +kernel)) (fun _ => ?_)
  refine lv_ldc2 (v := 27) hx hb M.1.2.2.2.1 (M.1.2.2.2.2 _ G1641) dX12_spelt_42 ?_
  refine lv_lload hx hb dX12_spelt_45 (lv_at hl 0 rfl) ?_
  refine r_lmul (v := (27 * (((27 * (((27 * ((Int32.toInt64 (iI 119)) - 96)) + (Int32.toInt64 (iI 105))) - 96)) + (Int32.toInt64 (iI 116))) - 96))) M rfl dX12_spelt_47 ?_
  refine lv_iload_n hx hb dX12_spelt_48 rfl (lv_at hl 4 rfl) ?_
  refine lv_i2l (v := (Int32.toInt64 (iI 104))) hx hb dX12_spelt_49 rfl ?_
  refine r_ladd (v := ((27 * (((27 * (((27 * ((Int32.toInt64 (iI 119)) - 96)) + (Int32.toInt64 (iI 105))) - 96)) + (Int32.toInt64 (iI 116))) - 96)) + (Int32.toInt64 (iI 104)))) M rfl dX12_spelt_50 ?_
  refine lv_ldc2 (v := 96) hx hb M.1.2.2.2.1 (M.1.2.2.2.2 _ G1642) dX12_spelt_51 ?_
  refine r_lsub (v := (((27 * (((27 * (((27 * ((Int32.toInt64 (iI 119)) - 96)) + (Int32.toInt64 (iI 105))) - 96)) + (Int32.toInt64 (iI 116))) - 96)) + (Int32.toInt64 (iI 104))) - 96)) M rfl dX12_spelt_54 ?_
  refine lv_lstore (lv' := [(7, .long (((27 * (((27 * (((27 * ((Int32.toInt64 (iI 119)) - 96)) + (Int32.toInt64 (iI 105))) - 96)) + (Int32.toInt64 (iI 116))) - 96)) + (Int32.toInt64 (iI 104))) - 96)), (0, .int (iI 119)), (1, .int (iI 105)), (2, .int (iI 116)), (3, .int (iI 104)), (4, .int (iI 0)), (5, .int (iI 0)), (6, .int (iI 0))]) hx hb dX12_spelt_55 hl (by decide) rfl (fun ls hl => ?_)
  refine lv_iload hx hb dX12_spelt_57 (lv_at hl 5 rfl) ?_
  refine lv_if_le (tgt := 78) hx hb dX12_spelt_59 (by decide) (fun _ => ?_) (fun c => absurd (by decide +kernel) c)
  refine lv_iload hx hb dX12_spelt_78 (lv_at hl 6 rfl) ?_
  refine lv_if_le (tgt := 99) hx hb dX12_spelt_80 (by decide) (fun _ => ?_) (fun c => absurd (by decide +kernel) c)
  refine lv_iload hx hb dX12_spelt_99 (lv_at hl 7 rfl) ?_
  refine lv_if_le (tgt := 120) hx hb dX12_spelt_101 (by decide) (fun _ => ?_) (fun c => absurd (by decide +kernel) c)
  refine lv_lload hx hb dX12_spelt_120 (lv_at hl 0 rfl) ?_
  exact ret _ () _ _ _ _ _ [] dX12_spelt_122 (show (((27 * (((27 * (((27 * ((Int32.toInt64 (iI 119)) - 96)) + (Int32.toInt64 (iI 105))) - 96)) + (Int32.toInt64 (iI 116))) - 96)) + (Int32.toInt64 (iI 104))) - 96) = 459818 from (by decide +kernel)) w (by decide) rfl
set_option maxRecDepth 100000 in
set_option maxHeartbeats 4000000 in
theorem c37_X12_spelt (l : Launch) (D : va_G) (T : Nat → ClassId) (sz : Nat) : Met l yX12_spelt (Cond.code yX12_spelt cX12_spelt 9 (some .long) :: GW) (Rm 0 0 0) (cPre [.int (iI 110), .int (iI 101), .int (iI 97), .int (iI 114), .int (iI 0), .int (iI 0), .int (iI 0)] D T [] sz) (qL D [] sz (fun (v : Int64) (u : Unit) => (v = 279252)) (fun u => [])) 0 0 (va_A [] sz) := by
  refine e_L (by decide) (Nat.le_of_ble_eq_true rfl) ?_
  intro p e s m args below meth c A Q ls M hin w ret hl
  have hx := M.1.1
  have hb := M.1.2.1
  have hl : lv_has ls 9 [(0, .int (iI 110)), (1, .int (iI 101)), (2, .int (iI 97)), (3, .int (iI 114)), (4, .int (iI 0)), (5, .int (iI 0)), (6, .int (iI 0))] := hl
  refine lv_ldc2 (v := 27) hx hb M.1.2.2.2.1 (M.1.2.2.2.2 _ G1641) dX12_spelt_0 ?_
  refine lv_iload_n hx hb dX12_spelt_3 rfl (lv_at hl 0 rfl) ?_
  refine lv_i2l (v := (Int32.toInt64 (iI 110))) hx hb dX12_spelt_4 rfl ?_
  refine lv_ldc2 (v := 96) hx hb M.1.2.2.2.1 (M.1.2.2.2.2 _ G1642) dX12_spelt_5 ?_
  refine r_lsub (v := ((Int32.toInt64 (iI 110)) - 96)) M rfl dX12_spelt_8 ?_
  refine r_lmul (v := (27 * ((Int32.toInt64 (iI 110)) - 96))) M rfl dX12_spelt_9 ?_
  refine lv_iload_n hx hb dX12_spelt_10 rfl (lv_at hl 1 rfl) ?_
  refine lv_i2l (v := (Int32.toInt64 (iI 101))) hx hb dX12_spelt_11 rfl ?_
  refine r_ladd (v := ((27 * ((Int32.toInt64 (iI 110)) - 96)) + (Int32.toInt64 (iI 101)))) M rfl dX12_spelt_12 ?_
  refine lv_ldc2 (v := 96) hx hb M.1.2.2.2.1 (M.1.2.2.2.2 _ G1642) dX12_spelt_13 ?_
  refine r_lsub (v := (((27 * ((Int32.toInt64 (iI 110)) - 96)) + (Int32.toInt64 (iI 101))) - 96)) M rfl dX12_spelt_16 ?_
  refine lv_lstore (lv' := [(7, .long (((27 * ((Int32.toInt64 (iI 110)) - 96)) + (Int32.toInt64 (iI 101))) - 96)), (0, .int (iI 110)), (1, .int (iI 101)), (2, .int (iI 97)), (3, .int (iI 114)), (4, .int (iI 0)), (5, .int (iI 0)), (6, .int (iI 0))]) hx hb dX12_spelt_17 hl (by decide) rfl (fun ls hl => ?_)
  refine lv_iload_n hx hb dX12_spelt_19 rfl (lv_at hl 3 rfl) ?_
  refine lv_if_le (tgt := 38) hx hb dX12_spelt_20 (by decide) (fun c => absurd c (by decide +kernel)) (fun _ => ?_)
  refine lv_ldc2 (v := 27) hx hb M.1.2.2.2.1 (M.1.2.2.2.2 _ G1641) dX12_spelt_23 ?_
  refine lv_lload hx hb dX12_spelt_26 (lv_at hl 0 rfl) ?_
  refine r_lmul (v := (27 * (((27 * ((Int32.toInt64 (iI 110)) - 96)) + (Int32.toInt64 (iI 101))) - 96))) M rfl dX12_spelt_28 ?_
  refine lv_iload_n hx hb dX12_spelt_29 rfl (lv_at hl 3 rfl) ?_
  refine lv_i2l (v := (Int32.toInt64 (iI 97))) hx hb dX12_spelt_30 rfl ?_
  refine r_ladd (v := ((27 * (((27 * ((Int32.toInt64 (iI 110)) - 96)) + (Int32.toInt64 (iI 101))) - 96)) + (Int32.toInt64 (iI 97)))) M rfl dX12_spelt_31 ?_
  refine lv_ldc2 (v := 96) hx hb M.1.2.2.2.1 (M.1.2.2.2.2 _ G1642) dX12_spelt_32 ?_
  refine r_lsub (v := (((27 * (((27 * ((Int32.toInt64 (iI 110)) - 96)) + (Int32.toInt64 (iI 101))) - 96)) + (Int32.toInt64 (iI 97))) - 96)) M rfl dX12_spelt_35 ?_
  refine lv_lstore (lv' := [(7, .long (((27 * (((27 * ((Int32.toInt64 (iI 110)) - 96)) + (Int32.toInt64 (iI 101))) - 96)) + (Int32.toInt64 (iI 97))) - 96)), (0, .int (iI 110)), (1, .int (iI 101)), (2, .int (iI 97)), (3, .int (iI 114)), (4, .int (iI 0)), (5, .int (iI 0)), (6, .int (iI 0))]) hx hb dX12_spelt_36 hl (by decide) rfl (fun ls hl => ?_)
  refine lv_iload_n hx hb dX12_spelt_38 rfl (lv_at hl 4 rfl) ?_
  refine lv_if_le (tgt := 57) hx hb dX12_spelt_39 (by decide) (fun c => absurd c (by decide +kernel)) (fun _ => ?_)
  refine lv_ldc2 (v := 27) hx hb M.1.2.2.2.1 (M.1.2.2.2.2 _ G1641) dX12_spelt_42 ?_
  refine lv_lload hx hb dX12_spelt_45 (lv_at hl 0 rfl) ?_
  refine r_lmul (v := (27 * (((27 * (((27 * ((Int32.toInt64 (iI 110)) - 96)) + (Int32.toInt64 (iI 101))) - 96)) + (Int32.toInt64 (iI 97))) - 96))) M rfl dX12_spelt_47 ?_
  refine lv_iload_n hx hb dX12_spelt_48 rfl (lv_at hl 4 rfl) ?_
  refine lv_i2l (v := (Int32.toInt64 (iI 114))) hx hb dX12_spelt_49 rfl ?_
  refine r_ladd (v := ((27 * (((27 * (((27 * ((Int32.toInt64 (iI 110)) - 96)) + (Int32.toInt64 (iI 101))) - 96)) + (Int32.toInt64 (iI 97))) - 96)) + (Int32.toInt64 (iI 114)))) M rfl dX12_spelt_50 ?_
  refine lv_ldc2 (v := 96) hx hb M.1.2.2.2.1 (M.1.2.2.2.2 _ G1642) dX12_spelt_51 ?_
  refine r_lsub (v := (((27 * (((27 * (((27 * ((Int32.toInt64 (iI 110)) - 96)) + (Int32.toInt64 (iI 101))) - 96)) + (Int32.toInt64 (iI 97))) - 96)) + (Int32.toInt64 (iI 114))) - 96)) M rfl dX12_spelt_54 ?_
  refine lv_lstore (lv' := [(7, .long (((27 * (((27 * (((27 * ((Int32.toInt64 (iI 110)) - 96)) + (Int32.toInt64 (iI 101))) - 96)) + (Int32.toInt64 (iI 97))) - 96)) + (Int32.toInt64 (iI 114))) - 96)), (0, .int (iI 110)), (1, .int (iI 101)), (2, .int (iI 97)), (3, .int (iI 114)), (4, .int (iI 0)), (5, .int (iI 0)), (6, .int (iI 0))]) hx hb dX12_spelt_55 hl (by decide) rfl (fun ls hl => ?_)
  refine lv_iload hx hb dX12_spelt_57 (lv_at hl 5 rfl) ?_
  refine lv_if_le (tgt := 78) hx hb dX12_spelt_59 (by decide) (fun _ => ?_) (fun c => absurd (by decide +kernel) c)
  refine lv_iload hx hb dX12_spelt_78 (lv_at hl 6 rfl) ?_
  refine lv_if_le (tgt := 99) hx hb dX12_spelt_80 (by decide) (fun _ => ?_) (fun c => absurd (by decide +kernel) c)
  refine lv_iload hx hb dX12_spelt_99 (lv_at hl 7 rfl) ?_
  refine lv_if_le (tgt := 120) hx hb dX12_spelt_101 (by decide) (fun _ => ?_) (fun c => absurd (by decide +kernel) c)
  refine lv_lload hx hb dX12_spelt_120 (lv_at hl 0 rfl) ?_
  exact ret _ () _ _ _ _ _ [] dX12_spelt_122 (show (((27 * (((27 * (((27 * ((Int32.toInt64 (iI 110)) - 96)) + (Int32.toInt64 (iI 101))) - 96)) + (Int32.toInt64 (iI 97))) - 96)) + (Int32.toInt64 (iI 114))) - 96) = 279252 from (by decide +kernel)) w (by decide) rfl
set_option maxRecDepth 100000 in
set_option maxHeartbeats 4000000 in
theorem c38_X12_spelt (l : Launch) (D : va_G) (T : Nat → ClassId) (sz : Nat) : Met l yX12_spelt (Cond.code yX12_spelt cX12_spelt 9 (some .long) :: GW) (Rm 0 0 0) (cPre [.int (iI 108), .int (iI 111), .int (iI 111), .int (iI 112), .int (iI 0), .int (iI 0), .int (iI 0)] D T [] sz) (qL D [] sz (fun (v : Int64) (u : Unit) => (v = 247552)) (fun u => [])) 0 0 (va_A [] sz) := by
  refine e_L (by decide) (Nat.le_of_ble_eq_true rfl) ?_
  intro p e s m args below meth c A Q ls M hin w ret hl
  have hx := M.1.1
  have hb := M.1.2.1
  have hl : lv_has ls 9 [(0, .int (iI 108)), (1, .int (iI 111)), (2, .int (iI 111)), (3, .int (iI 112)), (4, .int (iI 0)), (5, .int (iI 0)), (6, .int (iI 0))] := hl
  refine lv_ldc2 (v := 27) hx hb M.1.2.2.2.1 (M.1.2.2.2.2 _ G1641) dX12_spelt_0 ?_
  refine lv_iload_n hx hb dX12_spelt_3 rfl (lv_at hl 0 rfl) ?_
  refine lv_i2l (v := (Int32.toInt64 (iI 108))) hx hb dX12_spelt_4 rfl ?_
  refine lv_ldc2 (v := 96) hx hb M.1.2.2.2.1 (M.1.2.2.2.2 _ G1642) dX12_spelt_5 ?_
  refine r_lsub (v := ((Int32.toInt64 (iI 108)) - 96)) M rfl dX12_spelt_8 ?_
  refine r_lmul (v := (27 * ((Int32.toInt64 (iI 108)) - 96))) M rfl dX12_spelt_9 ?_
  refine lv_iload_n hx hb dX12_spelt_10 rfl (lv_at hl 1 rfl) ?_
  refine lv_i2l (v := (Int32.toInt64 (iI 111))) hx hb dX12_spelt_11 rfl ?_
  refine r_ladd (v := ((27 * ((Int32.toInt64 (iI 108)) - 96)) + (Int32.toInt64 (iI 111)))) M rfl dX12_spelt_12 ?_
  refine lv_ldc2 (v := 96) hx hb M.1.2.2.2.1 (M.1.2.2.2.2 _ G1642) dX12_spelt_13 ?_
  refine r_lsub (v := (((27 * ((Int32.toInt64 (iI 108)) - 96)) + (Int32.toInt64 (iI 111))) - 96)) M rfl dX12_spelt_16 ?_
  refine lv_lstore (lv' := [(7, .long (((27 * ((Int32.toInt64 (iI 108)) - 96)) + (Int32.toInt64 (iI 111))) - 96)), (0, .int (iI 108)), (1, .int (iI 111)), (2, .int (iI 111)), (3, .int (iI 112)), (4, .int (iI 0)), (5, .int (iI 0)), (6, .int (iI 0))]) hx hb dX12_spelt_17 hl (by decide) rfl (fun ls hl => ?_)
  refine lv_iload_n hx hb dX12_spelt_19 rfl (lv_at hl 3 rfl) ?_
  refine lv_if_le (tgt := 38) hx hb dX12_spelt_20 (by decide) (fun c => absurd c (by decide +kernel)) (fun _ => ?_)
  refine lv_ldc2 (v := 27) hx hb M.1.2.2.2.1 (M.1.2.2.2.2 _ G1641) dX12_spelt_23 ?_
  refine lv_lload hx hb dX12_spelt_26 (lv_at hl 0 rfl) ?_
  refine r_lmul (v := (27 * (((27 * ((Int32.toInt64 (iI 108)) - 96)) + (Int32.toInt64 (iI 111))) - 96))) M rfl dX12_spelt_28 ?_
  refine lv_iload_n hx hb dX12_spelt_29 rfl (lv_at hl 3 rfl) ?_
  refine lv_i2l (v := (Int32.toInt64 (iI 111))) hx hb dX12_spelt_30 rfl ?_
  refine r_ladd (v := ((27 * (((27 * ((Int32.toInt64 (iI 108)) - 96)) + (Int32.toInt64 (iI 111))) - 96)) + (Int32.toInt64 (iI 111)))) M rfl dX12_spelt_31 ?_
  refine lv_ldc2 (v := 96) hx hb M.1.2.2.2.1 (M.1.2.2.2.2 _ G1642) dX12_spelt_32 ?_
  refine r_lsub (v := (((27 * (((27 * ((Int32.toInt64 (iI 108)) - 96)) + (Int32.toInt64 (iI 111))) - 96)) + (Int32.toInt64 (iI 111))) - 96)) M rfl dX12_spelt_35 ?_
  refine lv_lstore (lv' := [(7, .long (((27 * (((27 * ((Int32.toInt64 (iI 108)) - 96)) + (Int32.toInt64 (iI 111))) - 96)) + (Int32.toInt64 (iI 111))) - 96)), (0, .int (iI 108)), (1, .int (iI 111)), (2, .int (iI 111)), (3, .int (iI 112)), (4, .int (iI 0)), (5, .int (iI 0)), (6, .int (iI 0))]) hx hb dX12_spelt_36 hl (by decide) rfl (fun ls hl => ?_)
  refine lv_iload_n hx hb dX12_spelt_38 rfl (lv_at hl 4 rfl) ?_
  refine lv_if_le (tgt := 57) hx hb dX12_spelt_39 (by decide) (fun c => absurd c (by decide +kernel)) (fun _ => ?_)
  refine lv_ldc2 (v := 27) hx hb M.1.2.2.2.1 (M.1.2.2.2.2 _ G1641) dX12_spelt_42 ?_
  refine lv_lload hx hb dX12_spelt_45 (lv_at hl 0 rfl) ?_
  refine r_lmul (v := (27 * (((27 * (((27 * ((Int32.toInt64 (iI 108)) - 96)) + (Int32.toInt64 (iI 111))) - 96)) + (Int32.toInt64 (iI 111))) - 96))) M rfl dX12_spelt_47 ?_
  refine lv_iload_n hx hb dX12_spelt_48 rfl (lv_at hl 4 rfl) ?_
  refine lv_i2l (v := (Int32.toInt64 (iI 112))) hx hb dX12_spelt_49 rfl ?_
  refine r_ladd (v := ((27 * (((27 * (((27 * ((Int32.toInt64 (iI 108)) - 96)) + (Int32.toInt64 (iI 111))) - 96)) + (Int32.toInt64 (iI 111))) - 96)) + (Int32.toInt64 (iI 112)))) M rfl dX12_spelt_50 ?_
  refine lv_ldc2 (v := 96) hx hb M.1.2.2.2.1 (M.1.2.2.2.2 _ G1642) dX12_spelt_51 ?_
  refine r_lsub (v := (((27 * (((27 * (((27 * ((Int32.toInt64 (iI 108)) - 96)) + (Int32.toInt64 (iI 111))) - 96)) + (Int32.toInt64 (iI 111))) - 96)) + (Int32.toInt64 (iI 112))) - 96)) M rfl dX12_spelt_54 ?_
  refine lv_lstore (lv' := [(7, .long (((27 * (((27 * (((27 * ((Int32.toInt64 (iI 108)) - 96)) + (Int32.toInt64 (iI 111))) - 96)) + (Int32.toInt64 (iI 111))) - 96)) + (Int32.toInt64 (iI 112))) - 96)), (0, .int (iI 108)), (1, .int (iI 111)), (2, .int (iI 111)), (3, .int (iI 112)), (4, .int (iI 0)), (5, .int (iI 0)), (6, .int (iI 0))]) hx hb dX12_spelt_55 hl (by decide) rfl (fun ls hl => ?_)
  refine lv_iload hx hb dX12_spelt_57 (lv_at hl 5 rfl) ?_
  refine lv_if_le (tgt := 78) hx hb dX12_spelt_59 (by decide) (fun _ => ?_) (fun c => absurd (by decide +kernel) c)
  refine lv_iload hx hb dX12_spelt_78 (lv_at hl 6 rfl) ?_
  refine lv_if_le (tgt := 99) hx hb dX12_spelt_80 (by decide) (fun _ => ?_) (fun c => absurd (by decide +kernel) c)
  refine lv_iload hx hb dX12_spelt_99 (lv_at hl 7 rfl) ?_
  refine lv_if_le (tgt := 120) hx hb dX12_spelt_101 (by decide) (fun _ => ?_) (fun c => absurd (by decide +kernel) c)
  refine lv_lload hx hb dX12_spelt_120 (lv_at hl 0 rfl) ?_
  exact ret _ () _ _ _ _ _ [] dX12_spelt_122 (show (((27 * (((27 * (((27 * ((Int32.toInt64 (iI 108)) - 96)) + (Int32.toInt64 (iI 111))) - 96)) + (Int32.toInt64 (iI 111))) - 96)) + (Int32.toInt64 (iI 112))) - 96) = 247552 from (by decide +kernel)) w (by decide) rfl
set_option maxRecDepth 100000 in
set_option maxHeartbeats 4000000 in
theorem c39_X12_spelt (l : Launch) (D : va_G) (T : Nat → ClassId) (sz : Nat) : Met l yX12_spelt (Cond.code yX12_spelt cX12_spelt 9 (some .long) :: GW) (Rm 0 0 0) (cPre [.int (iI 99), .int (iI 104), .int (iI 97), .int (iI 105), .int (iI 110), .int (iI 0), .int (iI 0)] D T [] sz) (qL D [] sz (fun (v : Int64) (u : Unit) => (v = 1752773)) (fun u => [])) 0 0 (va_A [] sz) := by
  refine e_L (by decide) (Nat.le_of_ble_eq_true rfl) ?_
  intro p e s m args below meth c A Q ls M hin w ret hl
  have hx := M.1.1
  have hb := M.1.2.1
  have hl : lv_has ls 9 [(0, .int (iI 99)), (1, .int (iI 104)), (2, .int (iI 97)), (3, .int (iI 105)), (4, .int (iI 110)), (5, .int (iI 0)), (6, .int (iI 0))] := hl
  refine lv_ldc2 (v := 27) hx hb M.1.2.2.2.1 (M.1.2.2.2.2 _ G1641) dX12_spelt_0 ?_
  refine lv_iload_n hx hb dX12_spelt_3 rfl (lv_at hl 0 rfl) ?_
  refine lv_i2l (v := (Int32.toInt64 (iI 99))) hx hb dX12_spelt_4 rfl ?_
  refine lv_ldc2 (v := 96) hx hb M.1.2.2.2.1 (M.1.2.2.2.2 _ G1642) dX12_spelt_5 ?_
  refine r_lsub (v := ((Int32.toInt64 (iI 99)) - 96)) M rfl dX12_spelt_8 ?_
  refine r_lmul (v := (27 * ((Int32.toInt64 (iI 99)) - 96))) M rfl dX12_spelt_9 ?_
  refine lv_iload_n hx hb dX12_spelt_10 rfl (lv_at hl 1 rfl) ?_
  refine lv_i2l (v := (Int32.toInt64 (iI 104))) hx hb dX12_spelt_11 rfl ?_
  refine r_ladd (v := ((27 * ((Int32.toInt64 (iI 99)) - 96)) + (Int32.toInt64 (iI 104)))) M rfl dX12_spelt_12 ?_
  refine lv_ldc2 (v := 96) hx hb M.1.2.2.2.1 (M.1.2.2.2.2 _ G1642) dX12_spelt_13 ?_
  refine r_lsub (v := (((27 * ((Int32.toInt64 (iI 99)) - 96)) + (Int32.toInt64 (iI 104))) - 96)) M rfl dX12_spelt_16 ?_
  refine lv_lstore (lv' := [(7, .long (((27 * ((Int32.toInt64 (iI 99)) - 96)) + (Int32.toInt64 (iI 104))) - 96)), (0, .int (iI 99)), (1, .int (iI 104)), (2, .int (iI 97)), (3, .int (iI 105)), (4, .int (iI 110)), (5, .int (iI 0)), (6, .int (iI 0))]) hx hb dX12_spelt_17 hl (by decide) rfl (fun ls hl => ?_)
  refine lv_iload_n hx hb dX12_spelt_19 rfl (lv_at hl 3 rfl) ?_
  refine lv_if_le (tgt := 38) hx hb dX12_spelt_20 (by decide) (fun c => absurd c (by decide +kernel)) (fun _ => ?_)
  refine lv_ldc2 (v := 27) hx hb M.1.2.2.2.1 (M.1.2.2.2.2 _ G1641) dX12_spelt_23 ?_
  refine lv_lload hx hb dX12_spelt_26 (lv_at hl 0 rfl) ?_
  refine r_lmul (v := (27 * (((27 * ((Int32.toInt64 (iI 99)) - 96)) + (Int32.toInt64 (iI 104))) - 96))) M rfl dX12_spelt_28 ?_
  refine lv_iload_n hx hb dX12_spelt_29 rfl (lv_at hl 3 rfl) ?_
  refine lv_i2l (v := (Int32.toInt64 (iI 97))) hx hb dX12_spelt_30 rfl ?_
  refine r_ladd (v := ((27 * (((27 * ((Int32.toInt64 (iI 99)) - 96)) + (Int32.toInt64 (iI 104))) - 96)) + (Int32.toInt64 (iI 97)))) M rfl dX12_spelt_31 ?_
  refine lv_ldc2 (v := 96) hx hb M.1.2.2.2.1 (M.1.2.2.2.2 _ G1642) dX12_spelt_32 ?_
  refine r_lsub (v := (((27 * (((27 * ((Int32.toInt64 (iI 99)) - 96)) + (Int32.toInt64 (iI 104))) - 96)) + (Int32.toInt64 (iI 97))) - 96)) M rfl dX12_spelt_35 ?_
  refine lv_lstore (lv' := [(7, .long (((27 * (((27 * ((Int32.toInt64 (iI 99)) - 96)) + (Int32.toInt64 (iI 104))) - 96)) + (Int32.toInt64 (iI 97))) - 96)), (0, .int (iI 99)), (1, .int (iI 104)), (2, .int (iI 97)), (3, .int (iI 105)), (4, .int (iI 110)), (5, .int (iI 0)), (6, .int (iI 0))]) hx hb dX12_spelt_36 hl (by decide) rfl (fun ls hl => ?_)
  refine lv_iload_n hx hb dX12_spelt_38 rfl (lv_at hl 4 rfl) ?_
  refine lv_if_le (tgt := 57) hx hb dX12_spelt_39 (by decide) (fun c => absurd c (by decide +kernel)) (fun _ => ?_)
  refine lv_ldc2 (v := 27) hx hb M.1.2.2.2.1 (M.1.2.2.2.2 _ G1641) dX12_spelt_42 ?_
  refine lv_lload hx hb dX12_spelt_45 (lv_at hl 0 rfl) ?_
  refine r_lmul (v := (27 * (((27 * (((27 * ((Int32.toInt64 (iI 99)) - 96)) + (Int32.toInt64 (iI 104))) - 96)) + (Int32.toInt64 (iI 97))) - 96))) M rfl dX12_spelt_47 ?_
  refine lv_iload_n hx hb dX12_spelt_48 rfl (lv_at hl 4 rfl) ?_
  refine lv_i2l (v := (Int32.toInt64 (iI 105))) hx hb dX12_spelt_49 rfl ?_
  refine r_ladd (v := ((27 * (((27 * (((27 * ((Int32.toInt64 (iI 99)) - 96)) + (Int32.toInt64 (iI 104))) - 96)) + (Int32.toInt64 (iI 97))) - 96)) + (Int32.toInt64 (iI 105)))) M rfl dX12_spelt_50 ?_
  refine lv_ldc2 (v := 96) hx hb M.1.2.2.2.1 (M.1.2.2.2.2 _ G1642) dX12_spelt_51 ?_
  refine r_lsub (v := (((27 * (((27 * (((27 * ((Int32.toInt64 (iI 99)) - 96)) + (Int32.toInt64 (iI 104))) - 96)) + (Int32.toInt64 (iI 97))) - 96)) + (Int32.toInt64 (iI 105))) - 96)) M rfl dX12_spelt_54 ?_
  refine lv_lstore (lv' := [(7, .long (((27 * (((27 * (((27 * ((Int32.toInt64 (iI 99)) - 96)) + (Int32.toInt64 (iI 104))) - 96)) + (Int32.toInt64 (iI 97))) - 96)) + (Int32.toInt64 (iI 105))) - 96)), (0, .int (iI 99)), (1, .int (iI 104)), (2, .int (iI 97)), (3, .int (iI 105)), (4, .int (iI 110)), (5, .int (iI 0)), (6, .int (iI 0))]) hx hb dX12_spelt_55 hl (by decide) rfl (fun ls hl => ?_)
  refine lv_iload hx hb dX12_spelt_57 (lv_at hl 5 rfl) ?_
  refine lv_if_le (tgt := 78) hx hb dX12_spelt_59 (by decide) (fun c => absurd c (by decide +kernel)) (fun _ => ?_)
  refine lv_ldc2 (v := 27) hx hb M.1.2.2.2.1 (M.1.2.2.2.2 _ G1641) dX12_spelt_62 ?_
  refine lv_lload hx hb dX12_spelt_65 (lv_at hl 0 rfl) ?_
  refine r_lmul (v := (27 * (((27 * (((27 * (((27 * ((Int32.toInt64 (iI 99)) - 96)) + (Int32.toInt64 (iI 104))) - 96)) + (Int32.toInt64 (iI 97))) - 96)) + (Int32.toInt64 (iI 105))) - 96))) M rfl dX12_spelt_67 ?_
  refine lv_iload hx hb dX12_spelt_68 (lv_at hl 5 rfl) ?_
  refine lv_i2l (v := (Int32.toInt64 (iI 110))) hx hb dX12_spelt_70 rfl ?_
  refine r_ladd (v := ((27 * (((27 * (((27 * (((27 * ((Int32.toInt64 (iI 99)) - 96)) + (Int32.toInt64 (iI 104))) - 96)) + (Int32.toInt64 (iI 97))) - 96)) + (Int32.toInt64 (iI 105))) - 96)) + (Int32.toInt64 (iI 110)))) M rfl dX12_spelt_71 ?_
  refine lv_ldc2 (v := 96) hx hb M.1.2.2.2.1 (M.1.2.2.2.2 _ G1642) dX12_spelt_72 ?_
  refine r_lsub (v := (((27 * (((27 * (((27 * (((27 * ((Int32.toInt64 (iI 99)) - 96)) + (Int32.toInt64 (iI 104))) - 96)) + (Int32.toInt64 (iI 97))) - 96)) + (Int32.toInt64 (iI 105))) - 96)) + (Int32.toInt64 (iI 110))) - 96)) M rfl dX12_spelt_75 ?_
  refine lv_lstore (lv' := [(7, .long (((27 * (((27 * (((27 * (((27 * ((Int32.toInt64 (iI 99)) - 96)) + (Int32.toInt64 (iI 104))) - 96)) + (Int32.toInt64 (iI 97))) - 96)) + (Int32.toInt64 (iI 105))) - 96)) + (Int32.toInt64 (iI 110))) - 96)), (0, .int (iI 99)), (1, .int (iI 104)), (2, .int (iI 97)), (3, .int (iI 105)), (4, .int (iI 110)), (5, .int (iI 0)), (6, .int (iI 0))]) hx hb dX12_spelt_76 hl (by decide) rfl (fun ls hl => ?_)
  refine lv_iload hx hb dX12_spelt_78 (lv_at hl 6 rfl) ?_
  refine lv_if_le (tgt := 99) hx hb dX12_spelt_80 (by decide) (fun _ => ?_) (fun c => absurd (by decide +kernel) c)
  refine lv_iload hx hb dX12_spelt_99 (lv_at hl 7 rfl) ?_
  refine lv_if_le (tgt := 120) hx hb dX12_spelt_101 (by decide) (fun _ => ?_) (fun c => absurd (by decide +kernel) c)
  refine lv_lload hx hb dX12_spelt_120 (lv_at hl 0 rfl) ?_
  exact ret _ () _ _ _ _ _ [] dX12_spelt_122 (show (((27 * (((27 * (((27 * (((27 * ((Int32.toInt64 (iI 99)) - 96)) + (Int32.toInt64 (iI 104))) - 96)) + (Int32.toInt64 (iI 97))) - 96)) + (Int32.toInt64 (iI 105))) - 96)) + (Int32.toInt64 (iI 110))) - 96) = 1752773 from (by decide +kernel)) w (by decide) rfl
set_option maxRecDepth 100000 in
set_option maxHeartbeats 4000000 in
theorem c40_X12_spelt (l : Launch) (D : va_G) (T : Nat → ClassId) (sz : Nat) : Met l yX12_spelt (Cond.code yX12_spelt cX12_spelt 9 (some .long) :: GW) (Rm 0 0 0) (cPre [.int (iI 110), .int (iI 117), .int (iI 109), .int (iI 98), .int (iI 101), .int (iI 114), .int (iI 0)] D T [] sz) (qL D [] sz (fun (v : Int64) (u : Unit) => (v = 212302449)) (fun u => [])) 0 0 (va_A [] sz) := by
  refine e_L (by decide) (Nat.le_of_ble_eq_true rfl) ?_
  intro p e s m args below meth c A Q ls M hin w ret hl
  have hx := M.1.1
  have hb := M.1.2.1
  have hl : lv_has ls 9 [(0, .int (iI 110)), (1, .int (iI 117)), (2, .int (iI 109)), (3, .int (iI 98)), (4, .int (iI 101)), (5, .int (iI 114)), (6, .int (iI 0))] := hl
  refine lv_ldc2 (v := 27) hx hb M.1.2.2.2.1 (M.1.2.2.2.2 _ G1641) dX12_spelt_0 ?_
  refine lv_iload_n hx hb dX12_spelt_3 rfl (lv_at hl 0 rfl) ?_
  refine lv_i2l (v := (Int32.toInt64 (iI 110))) hx hb dX12_spelt_4 rfl ?_
  refine lv_ldc2 (v := 96) hx hb M.1.2.2.2.1 (M.1.2.2.2.2 _ G1642) dX12_spelt_5 ?_
  refine r_lsub (v := ((Int32.toInt64 (iI 110)) - 96)) M rfl dX12_spelt_8 ?_
  refine r_lmul (v := (27 * ((Int32.toInt64 (iI 110)) - 96))) M rfl dX12_spelt_9 ?_
  refine lv_iload_n hx hb dX12_spelt_10 rfl (lv_at hl 1 rfl) ?_
  refine lv_i2l (v := (Int32.toInt64 (iI 117))) hx hb dX12_spelt_11 rfl ?_
  refine r_ladd (v := ((27 * ((Int32.toInt64 (iI 110)) - 96)) + (Int32.toInt64 (iI 117)))) M rfl dX12_spelt_12 ?_
  refine lv_ldc2 (v := 96) hx hb M.1.2.2.2.1 (M.1.2.2.2.2 _ G1642) dX12_spelt_13 ?_
  refine r_lsub (v := (((27 * ((Int32.toInt64 (iI 110)) - 96)) + (Int32.toInt64 (iI 117))) - 96)) M rfl dX12_spelt_16 ?_
  refine lv_lstore (lv' := [(7, .long (((27 * ((Int32.toInt64 (iI 110)) - 96)) + (Int32.toInt64 (iI 117))) - 96)), (0, .int (iI 110)), (1, .int (iI 117)), (2, .int (iI 109)), (3, .int (iI 98)), (4, .int (iI 101)), (5, .int (iI 114)), (6, .int (iI 0))]) hx hb dX12_spelt_17 hl (by decide) rfl (fun ls hl => ?_)
  refine lv_iload_n hx hb dX12_spelt_19 rfl (lv_at hl 3 rfl) ?_
  refine lv_if_le (tgt := 38) hx hb dX12_spelt_20 (by decide) (fun c => absurd c (by decide +kernel)) (fun _ => ?_)
  refine lv_ldc2 (v := 27) hx hb M.1.2.2.2.1 (M.1.2.2.2.2 _ G1641) dX12_spelt_23 ?_
  refine lv_lload hx hb dX12_spelt_26 (lv_at hl 0 rfl) ?_
  refine r_lmul (v := (27 * (((27 * ((Int32.toInt64 (iI 110)) - 96)) + (Int32.toInt64 (iI 117))) - 96))) M rfl dX12_spelt_28 ?_
  refine lv_iload_n hx hb dX12_spelt_29 rfl (lv_at hl 3 rfl) ?_
  refine lv_i2l (v := (Int32.toInt64 (iI 109))) hx hb dX12_spelt_30 rfl ?_
  refine r_ladd (v := ((27 * (((27 * ((Int32.toInt64 (iI 110)) - 96)) + (Int32.toInt64 (iI 117))) - 96)) + (Int32.toInt64 (iI 109)))) M rfl dX12_spelt_31 ?_
  refine lv_ldc2 (v := 96) hx hb M.1.2.2.2.1 (M.1.2.2.2.2 _ G1642) dX12_spelt_32 ?_
  refine r_lsub (v := (((27 * (((27 * ((Int32.toInt64 (iI 110)) - 96)) + (Int32.toInt64 (iI 117))) - 96)) + (Int32.toInt64 (iI 109))) - 96)) M rfl dX12_spelt_35 ?_
  refine lv_lstore (lv' := [(7, .long (((27 * (((27 * ((Int32.toInt64 (iI 110)) - 96)) + (Int32.toInt64 (iI 117))) - 96)) + (Int32.toInt64 (iI 109))) - 96)), (0, .int (iI 110)), (1, .int (iI 117)), (2, .int (iI 109)), (3, .int (iI 98)), (4, .int (iI 101)), (5, .int (iI 114)), (6, .int (iI 0))]) hx hb dX12_spelt_36 hl (by decide) rfl (fun ls hl => ?_)
  refine lv_iload_n hx hb dX12_spelt_38 rfl (lv_at hl 4 rfl) ?_
  refine lv_if_le (tgt := 57) hx hb dX12_spelt_39 (by decide) (fun c => absurd c (by decide +kernel)) (fun _ => ?_)
  refine lv_ldc2 (v := 27) hx hb M.1.2.2.2.1 (M.1.2.2.2.2 _ G1641) dX12_spelt_42 ?_
  refine lv_lload hx hb dX12_spelt_45 (lv_at hl 0 rfl) ?_
  refine r_lmul (v := (27 * (((27 * (((27 * ((Int32.toInt64 (iI 110)) - 96)) + (Int32.toInt64 (iI 117))) - 96)) + (Int32.toInt64 (iI 109))) - 96))) M rfl dX12_spelt_47 ?_
  refine lv_iload_n hx hb dX12_spelt_48 rfl (lv_at hl 4 rfl) ?_
  refine lv_i2l (v := (Int32.toInt64 (iI 98))) hx hb dX12_spelt_49 rfl ?_
  refine r_ladd (v := ((27 * (((27 * (((27 * ((Int32.toInt64 (iI 110)) - 96)) + (Int32.toInt64 (iI 117))) - 96)) + (Int32.toInt64 (iI 109))) - 96)) + (Int32.toInt64 (iI 98)))) M rfl dX12_spelt_50 ?_
  refine lv_ldc2 (v := 96) hx hb M.1.2.2.2.1 (M.1.2.2.2.2 _ G1642) dX12_spelt_51 ?_
  refine r_lsub (v := (((27 * (((27 * (((27 * ((Int32.toInt64 (iI 110)) - 96)) + (Int32.toInt64 (iI 117))) - 96)) + (Int32.toInt64 (iI 109))) - 96)) + (Int32.toInt64 (iI 98))) - 96)) M rfl dX12_spelt_54 ?_
  refine lv_lstore (lv' := [(7, .long (((27 * (((27 * (((27 * ((Int32.toInt64 (iI 110)) - 96)) + (Int32.toInt64 (iI 117))) - 96)) + (Int32.toInt64 (iI 109))) - 96)) + (Int32.toInt64 (iI 98))) - 96)), (0, .int (iI 110)), (1, .int (iI 117)), (2, .int (iI 109)), (3, .int (iI 98)), (4, .int (iI 101)), (5, .int (iI 114)), (6, .int (iI 0))]) hx hb dX12_spelt_55 hl (by decide) rfl (fun ls hl => ?_)
  refine lv_iload hx hb dX12_spelt_57 (lv_at hl 5 rfl) ?_
  refine lv_if_le (tgt := 78) hx hb dX12_spelt_59 (by decide) (fun c => absurd c (by decide +kernel)) (fun _ => ?_)
  refine lv_ldc2 (v := 27) hx hb M.1.2.2.2.1 (M.1.2.2.2.2 _ G1641) dX12_spelt_62 ?_
  refine lv_lload hx hb dX12_spelt_65 (lv_at hl 0 rfl) ?_
  refine r_lmul (v := (27 * (((27 * (((27 * (((27 * ((Int32.toInt64 (iI 110)) - 96)) + (Int32.toInt64 (iI 117))) - 96)) + (Int32.toInt64 (iI 109))) - 96)) + (Int32.toInt64 (iI 98))) - 96))) M rfl dX12_spelt_67 ?_
  refine lv_iload hx hb dX12_spelt_68 (lv_at hl 5 rfl) ?_
  refine lv_i2l (v := (Int32.toInt64 (iI 101))) hx hb dX12_spelt_70 rfl ?_
  refine r_ladd (v := ((27 * (((27 * (((27 * (((27 * ((Int32.toInt64 (iI 110)) - 96)) + (Int32.toInt64 (iI 117))) - 96)) + (Int32.toInt64 (iI 109))) - 96)) + (Int32.toInt64 (iI 98))) - 96)) + (Int32.toInt64 (iI 101)))) M rfl dX12_spelt_71 ?_
  refine lv_ldc2 (v := 96) hx hb M.1.2.2.2.1 (M.1.2.2.2.2 _ G1642) dX12_spelt_72 ?_
  refine r_lsub (v := (((27 * (((27 * (((27 * (((27 * ((Int32.toInt64 (iI 110)) - 96)) + (Int32.toInt64 (iI 117))) - 96)) + (Int32.toInt64 (iI 109))) - 96)) + (Int32.toInt64 (iI 98))) - 96)) + (Int32.toInt64 (iI 101))) - 96)) M rfl dX12_spelt_75 ?_
  refine lv_lstore (lv' := [(7, .long (((27 * (((27 * (((27 * (((27 * ((Int32.toInt64 (iI 110)) - 96)) + (Int32.toInt64 (iI 117))) - 96)) + (Int32.toInt64 (iI 109))) - 96)) + (Int32.toInt64 (iI 98))) - 96)) + (Int32.toInt64 (iI 101))) - 96)), (0, .int (iI 110)), (1, .int (iI 117)), (2, .int (iI 109)), (3, .int (iI 98)), (4, .int (iI 101)), (5, .int (iI 114)), (6, .int (iI 0))]) hx hb dX12_spelt_76 hl (by decide) rfl (fun ls hl => ?_)
  refine lv_iload hx hb dX12_spelt_78 (lv_at hl 6 rfl) ?_
  refine lv_if_le (tgt := 99) hx hb dX12_spelt_80 (by decide) (fun c => absurd c (by decide +kernel)) (fun _ => ?_)
  refine lv_ldc2 (v := 27) hx hb M.1.2.2.2.1 (M.1.2.2.2.2 _ G1641) dX12_spelt_83 ?_
  refine lv_lload hx hb dX12_spelt_86 (lv_at hl 0 rfl) ?_
  refine r_lmul (v := (27 * (((27 * (((27 * (((27 * (((27 * ((Int32.toInt64 (iI 110)) - 96)) + (Int32.toInt64 (iI 117))) - 96)) + (Int32.toInt64 (iI 109))) - 96)) + (Int32.toInt64 (iI 98))) - 96)) + (Int32.toInt64 (iI 101))) - 96))) M rfl dX12_spelt_88 ?_
  refine lv_iload hx hb dX12_spelt_89 (lv_at hl 6 rfl) ?_
  refine lv_i2l (v := (Int32.toInt64 (iI 114))) hx hb dX12_spelt_91 rfl ?_
  refine r_ladd (v := ((27 * (((27 * (((27 * (((27 * (((27 * ((Int32.toInt64 (iI 110)) - 96)) + (Int32.toInt64 (iI 117))) - 96)) + (Int32.toInt64 (iI 109))) - 96)) + (Int32.toInt64 (iI 98))) - 96)) + (Int32.toInt64 (iI 101))) - 96)) + (Int32.toInt64 (iI 114)))) M rfl dX12_spelt_92 ?_
  refine lv_ldc2 (v := 96) hx hb M.1.2.2.2.1 (M.1.2.2.2.2 _ G1642) dX12_spelt_93 ?_
  refine r_lsub (v := (((27 * (((27 * (((27 * (((27 * (((27 * ((Int32.toInt64 (iI 110)) - 96)) + (Int32.toInt64 (iI 117))) - 96)) + (Int32.toInt64 (iI 109))) - 96)) + (Int32.toInt64 (iI 98))) - 96)) + (Int32.toInt64 (iI 101))) - 96)) + (Int32.toInt64 (iI 114))) - 96)) M rfl dX12_spelt_96 ?_
  refine lv_lstore (lv' := [(7, .long (((27 * (((27 * (((27 * (((27 * (((27 * ((Int32.toInt64 (iI 110)) - 96)) + (Int32.toInt64 (iI 117))) - 96)) + (Int32.toInt64 (iI 109))) - 96)) + (Int32.toInt64 (iI 98))) - 96)) + (Int32.toInt64 (iI 101))) - 96)) + (Int32.toInt64 (iI 114))) - 96)), (0, .int (iI 110)), (1, .int (iI 117)), (2, .int (iI 109)), (3, .int (iI 98)), (4, .int (iI 101)), (5, .int (iI 114)), (6, .int (iI 0))]) hx hb dX12_spelt_97 hl (by decide) rfl (fun ls hl => ?_)
  refine lv_iload hx hb dX12_spelt_99 (lv_at hl 7 rfl) ?_
  refine lv_if_le (tgt := 120) hx hb dX12_spelt_101 (by decide) (fun _ => ?_) (fun c => absurd (by decide +kernel) c)
  refine lv_lload hx hb dX12_spelt_120 (lv_at hl 0 rfl) ?_
  exact ret _ () _ _ _ _ _ [] dX12_spelt_122 (show (((27 * (((27 * (((27 * (((27 * (((27 * ((Int32.toInt64 (iI 110)) - 96)) + (Int32.toInt64 (iI 117))) - 96)) + (Int32.toInt64 (iI 109))) - 96)) + (Int32.toInt64 (iI 98))) - 96)) + (Int32.toInt64 (iI 101))) - 96)) + (Int32.toInt64 (iI 114))) - 96) = 212302449 from (by decide +kernel)) w (by decide) rfl
set_option maxRecDepth 100000 in
set_option maxHeartbeats 4000000 in
theorem c41_X12_wordOf (l : Launch) (D : va_G) (T : Nat → ClassId) (sz : Nat) (x0 : Int) (x0_a : 0 ≤ x0) (x0_b : x0 ≤ 26) : Met l yX12_wordOf (Cond.code yX12_wordOf cX12_wordOf 1 (some .long) :: GW) (Rm 1 0 0) (cPre [.int (iI x0)] D T [] sz) (qL D [] sz (fun (v : Int64) (u : Unit) => (v = wrdZ x0)) (fun u => [])) 0 0 (va_A [] sz) := by
  refine e_L (by decide) (Nat.le_of_ble_eq_true rfl) ?_
  intro p e s m args below meth c A Q ls M hin w ret hl
  have hx := M.1.1
  have hb := M.1.2.1
  have hl : lv_has ls 1 [(0, .int (iI x0))] := hl
  refine lv_iload_n hx hb dX12_wordOf_0 rfl (lv_at hl 0 rfl) ?_
  by_cases c_1 : x0 = 0
  · refine lv_tableIn (off := 119) (tgt := 120) hx hb dX12_wordOf_1 (by rw [c_1]; decide +kernel) (by rw [c_1]; decide +kernel) (by rw [c_1]; decide +kernel) (by decide) ?_
    refine lv_bipush (v := iI 112) hx hb dX12_wordOf_120 (by decide +kernel) ?_
    refine lv_bipush (v := iI 101) hx hb dX12_wordOf_122 (by decide +kernel) ?_
    refine lv_bipush (v := iI 114) hx hb dX12_wordOf_124 (by decide +kernel) ?_
    refine lv_bipush (v := iI 115) hx hb dX12_wordOf_126 (by decide +kernel) ?_
    refine lv_bipush (v := iI 111) hx hb dX12_wordOf_128 (by decide +kernel) ?_
    refine lv_bipush (v := iI 110) hx hb dX12_wordOf_130 (by decide +kernel) ?_
    refine lv_iconst (v := iI 0) hx hb dX12_wordOf_132 (by decide +kernel) ?_
    refine k_L (ce := 0) (sl := 0) (rest := []) (wr := []) (r_S (f := 0) [] M w V_HookedCityModel_58 G1655 (c14_X12_spelt l D T _) rfl (by decide) rfl hl.1 rfl (Nat.le_of_ble_eq_true rfl) dX12_wordOf_133 (by decide) (by decide) (by decide) (by decide)) w [] [] rfl rfl (by decide) (by decide) rfl rfl (fun fy2 _ H locs hp w => ?_)
    have pq3 : fy2 = 232608281 := hp
    have w : WD D A s.heap [] H locs := w
    exact ret _ () _ _ _ _ _ [] dX12_wordOf_136 (show fy2 = wrdZ x0 from (wrz (j := 0) (by omega) (pq3.trans (by decide +kernel)))) w (by decide) rfl
  by_cases c_4 : x0 = 1
  · refine lv_tableIn (off := 136) (tgt := 137) hx hb dX12_wordOf_1 (by rw [c_4]; decide +kernel) (by rw [c_4]; decide +kernel) (by rw [c_4]; decide +kernel) (by decide) ?_
    refine lv_bipush (v := iI 109) hx hb dX12_wordOf_137 (by decide +kernel) ?_
    refine lv_bipush (v := iI 97) hx hb dX12_wordOf_139 (by decide +kernel) ?_
    refine lv_bipush (v := iI 105) hx hb dX12_wordOf_141 (by decide +kernel) ?_
    refine lv_bipush (v := iI 100) hx hb dX12_wordOf_143 (by decide +kernel) ?_
    refine lv_iconst (v := iI 0) hx hb dX12_wordOf_145 (by decide +kernel) ?_
    refine lv_iconst (v := iI 0) hx hb dX12_wordOf_146 (by decide +kernel) ?_
    refine lv_iconst (v := iI 0) hx hb dX12_wordOf_147 (by decide +kernel) ?_
    refine k_L (ce := 0) (sl := 0) (rest := []) (wr := []) (r_S (f := 0) [] M w V_HookedCityModel_58 G1655 (c15_X12_spelt l D T _) rfl (by decide) rfl hl.1 rfl (Nat.le_of_ble_eq_true rfl) dX12_wordOf_148 (by decide) (by decide) (by decide) (by decide)) w [] [] rfl rfl (by decide) (by decide) rfl rfl (fun fy5 _ H locs hp w => ?_)
    have pq6 : fy5 = 256855 := hp
    have w : WD D A s.heap [] H locs := w
    exact ret _ () _ _ _ _ _ [] dX12_wordOf_151 (show fy5 = wrdZ x0 from (wrz (j := 1) (by omega) (pq6.trans (by decide +kernel)))) w (by decide) rfl
  by_cases c_7 : x0 = 2
  · refine lv_tableIn (off := 151) (tgt := 152) hx hb dX12_wordOf_1 (by rw [c_7]; decide +kernel) (by rw [c_7]; decide +kernel) (by rw [c_7]; decide +kernel) (by decide) ?_
    refine lv_bipush (v := iI 115) hx hb dX12_wordOf_152 (by decide +kernel) ?_
    refine lv_bipush (v := iI 116) hx hb dX12_wordOf_154 (by decide +kernel) ?_
    refine lv_bipush (v := iI 114) hx hb dX12_wordOf_156 (by decide +kernel) ?_
    refine lv_bipush (v := iI 101) hx hb dX12_wordOf_158 (by decide +kernel) ?_
    refine lv_bipush (v := iI 101) hx hb dX12_wordOf_160 (by decide +kernel) ?_
    refine lv_bipush (v := iI 116) hx hb dX12_wordOf_162 (by decide +kernel) ?_
    refine lv_iconst (v := iI 0) hx hb dX12_wordOf_164 (by decide +kernel) ?_
    refine k_L (ce := 0) (sl := 0) (rest := []) (wr := []) (r_S (f := 0) [] M w V_HookedCityModel_58 G1655 (c16_X12_spelt l D T _) rfl (by decide) rfl hl.1 rfl (Nat.le_of_ble_eq_true rfl) dX12_wordOf_165 (by decide) (by decide) (by decide) (by decide)) w [] [] rfl rfl (by decide) (by decide) rfl rfl (fun fy8 _ H locs hp w => ?_)
    have pq9 : fy8 = 283616147 := hp
    have w : WD D A s.heap [] H locs := w
    exact ret _ () _ _ _ _ _ [] dX12_wordOf_168 (show fy8 = wrdZ x0 from (wrz (j := 2) (by omega) (pq9.trans (by decide +kernel)))) w (by decide) rfl
  by_cases c_10 : x0 = 3
  · refine lv_tableIn (off := 168) (tgt := 169) hx hb dX12_wordOf_1 (by rw [c_10]; decide +kernel) (by rw [c_10]; decide +kernel) (by rw [c_10]; decide +kernel) (by decide) ?_
    refine lv_bipush (v := iI 100) hx hb dX12_wordOf_169 (by decide +kernel) ?_
    refine lv_bipush (v := iI 111) hx hb dX12_wordOf_171 (by decide +kernel) ?_
    refine lv_bipush (v := iI 110) hx hb dX12_wordOf_173 (by decide +kernel) ?_
    refine lv_bipush (v := iI 101) hx hb dX12_wordOf_175 (by decide +kernel) ?_
    refine lv_iconst (v := iI 0) hx hb dX12_wordOf_177 (by decide +kernel) ?_
    refine lv_iconst (v := iI 0) hx hb dX12_wordOf_178 (by decide +kernel) ?_
    refine lv_iconst (v := iI 0) hx hb dX12_wordOf_179 (by decide +kernel) ?_
    refine k_L (ce := 0) (sl := 0) (rest := []) (wr := []) (r_S (f := 0) [] M w V_HookedCityModel_58 G1655 (c17_X12_spelt l D T _) rfl (by decide) rfl hl.1 rfl (Nat.le_of_ble_eq_true rfl) dX12_wordOf_180 (by decide) (by decide) (by decide) (by decide)) w [] [] rfl rfl (by decide) (by decide) rfl rfl (fun fy11 _ H locs hp w => ?_)
    have pq12 : fy11 = 90050 := hp
    have w : WD D A s.heap [] H locs := w
    exact ret _ () _ _ _ _ _ [] dX12_wordOf_183 (show fy11 = wrdZ x0 from (wrz (j := 3) (by omega) (pq12.trans (by decide +kernel)))) w (by decide) rfl
  by_cases c_13 : x0 = 4
  · refine lv_tableIn (off := 183) (tgt := 184) hx hb dX12_wordOf_1 (by rw [c_13]; decide +kernel) (by rw [c_13]; decide +kernel) (by rw [c_13]; decide +kernel) (by decide) ?_
    refine lv_bipush (v := iI 115) hx hb dX12_wordOf_184 (by decide +kernel) ?_
    refine lv_bipush (v := iI 112) hx hb dX12_wordOf_186 (by decide +kernel) ?_
    refine lv_bipush (v := iI 97) hx hb dX12_wordOf_188 (by decide +kernel) ?_
    refine lv_bipush (v := iI 114) hx hb dX12_wordOf_190 (by decide +kernel) ?_
    refine lv_bipush (v := iI 101) hx hb dX12_wordOf_192 (by decide +kernel) ?_
    refine lv_iconst (v := iI 0) hx hb dX12_wordOf_194 (by decide +kernel) ?_
    refine lv_iconst (v := iI 0) hx hb dX12_wordOf_195 (by decide +kernel) ?_
    refine k_L (ce := 0) (sl := 0) (rest := []) (wr := []) (r_S (f := 0) [] M w V_HookedCityModel_58 G1655 (c18_X12_spelt l D T _) rfl (by decide) rfl hl.1 rfl (Nat.le_of_ble_eq_true rfl) dX12_wordOf_196 (by decide) (by decide) (by decide) (by decide)) w [] [] rfl rfl (by decide) (by decide) rfl rfl (fun fy14 _ H locs hp w => ?_)
    have pq15 : fy14 = 10413527 := hp
    have w : WD D A s.heap [] H locs := w
    exact ret _ () _ _ _ _ _ [] dX12_wordOf_199 (show fy14 = wrdZ x0 from (wrz (j := 4) (by omega) (pq15.trans (by decide +kernel)))) w (by decide) rfl
  by_cases c_16 : x0 = 5
  · refine lv_tableIn (off := 199) (tgt := 200) hx hb dX12_wordOf_1 (by rw [c_16]; decide +kernel) (by rw [c_16]; decide +kernel) (by rw [c_16]; decide +kernel) (by decide) ?_
    refine lv_bipush (v := iI 121) hx hb dX12_wordOf_200 (by decide +kernel) ?_
    refine lv_bipush (v := iI 101) hx hb dX12_wordOf_202 (by decide +kernel) ?_
    refine lv_bipush (v := iI 97) hx hb dX12_wordOf_204 (by decide +kernel) ?_
    refine lv_bipush (v := iI 114) hx hb dX12_wordOf_206 (by decide +kernel) ?_
    refine lv_iconst (v := iI 0) hx hb dX12_wordOf_208 (by decide +kernel) ?_
    refine lv_iconst (v := iI 0) hx hb dX12_wordOf_209 (by decide +kernel) ?_
    refine lv_iconst (v := iI 0) hx hb dX12_wordOf_210 (by decide +kernel) ?_
    refine k_L (ce := 0) (sl := 0) (rest := []) (wr := []) (r_S (f := 0) [] M w V_HookedCityModel_58 G1655 (c19_X12_spelt l D T _) rfl (by decide) rfl hl.1 rfl (Nat.le_of_ble_eq_true rfl) dX12_wordOf_211 (by decide) (by decide) (by decide) (by decide)) w [] [] rfl rfl (by decide) (by decide) rfl rfl (fun fy17 _ H locs hp w => ?_)
    have pq18 : fy17 = 495765 := hp
    have w : WD D A s.heap [] H locs := w
    exact ret _ () _ _ _ _ _ [] dX12_wordOf_214 (show fy17 = wrdZ x0 from (wrz (j := 5) (by omega) (pq18.trans (by decide +kernel)))) w (by decide) rfl
  by_cases c_19 : x0 = 6
  · refine lv_tableIn (off := 214) (tgt := 215) hx hb dX12_wordOf_1 (by rw [c_19]; decide +kernel) (by rw [c_19]; decide +kernel) (by rw [c_19]; decide +kernel) (by decide) ?_
    refine lv_bipush (v := iI 106) hx hb dX12_wordOf_215 (by decide +kernel) ?_
    refine lv_bipush (v := iI 117) hx hb dX12_wordOf_217 (by decide +kernel) ?_
    refine lv_bipush (v := iI 108) hx hb dX12_wordOf_219 (by decide +kernel) ?_
    refine lv_bipush (v := iI 121) hx hb dX12_wordOf_221 (by decide +kernel) ?_
    refine lv_iconst (v := iI 0) hx hb dX12_wordOf_223 (by decide +kernel) ?_
    refine lv_iconst (v := iI 0) hx hb dX12_wordOf_224 (by decide +kernel) ?_
    refine lv_iconst (v := iI 0) hx hb dX12_wordOf_225 (by decide +kernel) ?_
    refine k_L (ce := 0) (sl := 0) (rest := []) (wr := []) (r_S (f := 0) [] M w V_HookedCityModel_58 G1655 (c20_X12_spelt l D T _) rfl (by decide) rfl hl.1 rfl (Nat.le_of_ble_eq_true rfl) dX12_wordOf_226 (by decide) (by decide) (by decide) (by decide)) w [] [] rfl rfl (by decide) (by decide) rfl rfl (fun fy20 _ H locs hp w => ?_)
    have pq21 : fy20 = 212488 := hp
    have w : WD D A s.heap [] H locs := w
    exact ret _ () _ _ _ _ _ [] dX12_wordOf_229 (show fy20 = wrdZ x0 from (wrz (j := 6) (by omega) (pq21.trans (by decide +kernel)))) w (by decide) rfl
  by_cases c_22 : x0 = 7
  · refine lv_tableIn (off := 229) (tgt := 230) hx hb dX12_wordOf_1 (by rw [c_22]; decide +kernel) (by rw [c_22]; decide +kernel) (by rw [c_22]; decide +kernel) (by decide) ?_
    refine lv_bipush (v := iI 112) hx hb dX12_wordOf_230 (by decide +kernel) ?_
    refine lv_bipush (v := iI 101) hx hb dX12_wordOf_232 (by decide +kernel) ?_
    refine lv_bipush (v := iI 97) hx hb dX12_wordOf_234 (by decide +kernel) ?_
    refine lv_bipush (v := iI 114) hx hb dX12_wordOf_236 (by decide +kernel) ?_
    refine lv_bipush (v := iI 108) hx hb dX12_wordOf_238 (by decide +kernel) ?_
    refine lv_iconst (v := iI 0) hx hb dX12_wordOf_240 (by decide +kernel) ?_
    refine lv_iconst (v := iI 0) hx hb dX12_wordOf_241 (by decide +kernel) ?_
    refine k_L (ce := 0) (sl := 0) (rest := []) (wr := []) (r_S (f := 0) [] M w V_HookedCityModel_58 G1655 (c21_X12_spelt l D T _) rfl (by decide) rfl hl.1 rfl (Nat.le_of_ble_eq_true rfl) dX12_wordOf_242 (by decide) (by decide) (by decide) (by decide)) w [] [] rfl rfl (by decide) (by decide) rfl rfl (fun fy23 _ H locs hp w => ?_)
    have pq24 : fy23 = 8602698 := hp
    have w : WD D A s.heap [] H locs := w
    exact ret _ () _ _ _ _ _ [] dX12_wordOf_245 (show fy23 = wrdZ x0 from (wrz (j := 7) (by omega) (pq24.trans (by decide +kernel)))) w (by decide) rfl
  by_cases c_25 : x0 = 8
  · refine lv_tableIn (off := 245) (tgt := 246) hx hb dX12_wordOf_1 (by rw [c_25]; decide +kernel) (by rw [c_25]; decide +kernel) (by rw [c_25]; decide +kernel) (by decide) ?_
    refine lv_bipush (v := iI 98) hx hb dX12_wordOf_246 (by decide +kernel) ?_
    refine lv_bipush (v := iI 111) hx hb dX12_wordOf_248 (by decide +kernel) ?_
    refine lv_bipush (v := iI 110) hx hb dX12_wordOf_250 (by decide +kernel) ?_
    refine lv_bipush (v := iI 101) hx hb dX12_wordOf_252 (by decide +kernel) ?_
    refine lv_iconst (v := iI 0) hx hb dX12_wordOf_254 (by decide +kernel) ?_
    refine lv_iconst (v := iI 0) hx hb dX12_wordOf_255 (by decide +kernel) ?_
    refine lv_iconst (v := iI 0) hx hb dX12_wordOf_256 (by decide +kernel) ?_
    refine k_L (ce := 0) (sl := 0) (rest := []) (wr := []) (r_S (f := 0) [] M w V_HookedCityModel_58 G1655 (c22_X12_spelt l D T _) rfl (by decide) rfl hl.1 rfl (Nat.le_of_ble_eq_true rfl) dX12_wordOf_257 (by decide) (by decide) (by decide) (by decide)) w [] [] rfl rfl (by decide) (by decide) rfl rfl (fun fy26 _ H locs hp w => ?_)
    have pq27 : fy26 = 50684 := hp
    have w : WD D A s.heap [] H locs := w
    exact ret _ () _ _ _ _ _ [] dX12_wordOf_260 (show fy26 = wrdZ x0 from (wrz (j := 8) (by omega) (pq27.trans (by decide +kernel)))) w (by decide) rfl
  by_cases c_28 : x0 = 9
  · refine lv_tableIn (off := 260) (tgt := 261) hx hb dX12_wordOf_1 (by rw [c_28]; decide +kernel) (by rw [c_28]; decide +kernel) (by rw [c_28]; decide +kernel) (by decide) ?_
    refine lv_bipush (v := iI 98) hx hb dX12_wordOf_261 (by decide +kernel) ?_
    refine lv_bipush (v := iI 114) hx hb dX12_wordOf_263 (by decide +kernel) ?_
    refine lv_bipush (v := iI 97) hx hb dX12_wordOf_265 (by decide +kernel) ?_
    refine lv_bipush (v := iI 115) hx hb dX12_wordOf_267 (by decide +kernel) ?_
    refine lv_bipush (v := iI 115) hx hb dX12_wordOf_269 (by decide +kernel) ?_
    refine lv_iconst (v := iI 0) hx hb dX12_wordOf_271 (by decide +kernel) ?_
    refine lv_iconst (v := iI 0) hx hb dX12_wordOf_272 (by decide +kernel) ?_
    refine k_L (ce := 0) (sl := 0) (rest := []) (wr := []) (r_S (f := 0) [] M w V_HookedCityModel_58 G1655 (c23_X12_spelt l D T _) rfl (by decide) rfl hl.1 rfl (Nat.le_of_ble_eq_true rfl) dX12_wordOf_273 (by decide) (by decide) (by decide) (by decide)) w [] [] rfl rfl (by decide) (by decide) rfl rfl (fun fy29 _ H locs hp w => ?_)
    have pq30 : fy29 = 1418437 := hp
    have w : WD D A s.heap [] H locs := w
    exact ret _ () _ _ _ _ _ [] dX12_wordOf_276 (show fy29 = wrdZ x0 from (wrz (j := 9) (by omega) (pq30.trans (by decide +kernel)))) w (by decide) rfl
  by_cases c_31 : x0 = 10
  · refine lv_tableIn (off := 276) (tgt := 277) hx hb dX12_wordOf_1 (by rw [c_31]; decide +kernel) (by rw [c_31]; decide +kernel) (by rw [c_31]; decide +kernel) (by decide) ?_
    refine lv_bipush (v := iI 103) hx hb dX12_wordOf_277 (by decide +kernel) ?_
    refine lv_bipush (v := iI 108) hx hb dX12_wordOf_279 (by decide +kernel) ?_
    refine lv_bipush (v := iI 97) hx hb dX12_wordOf_281 (by decide +kernel) ?_
    refine lv_bipush (v := iI 115) hx hb dX12_wordOf_283 (by decide +kernel) ?_
    refine lv_bipush (v := iI 115) hx hb dX12_wordOf_285 (by decide +kernel) ?_
    refine lv_iconst (v := iI 0) hx hb dX12_wordOf_287 (by decide +kernel) ?_
    refine lv_iconst (v := iI 0) hx hb dX12_wordOf_288 (by decide +kernel) ?_
    refine k_L (ce := 0) (sl := 0) (rest := []) (wr := []) (r_S (f := 0) [] M w V_HookedCityModel_58 G1655 (c24_X12_spelt l D T _) rfl (by decide) rfl hl.1 rfl (Nat.le_of_ble_eq_true rfl) dX12_wordOf_289 (by decide) (by decide) (by decide) (by decide)) w [] [] rfl rfl (by decide) (by decide) rfl rfl (fun fy32 _ H locs hp w => ?_)
    have pq33 : fy32 = 3957544 := hp
    have w : WD D A s.heap [] H locs := w
    exact ret _ () _ _ _ _ _ [] dX12_wordOf_292 (show fy32 = wrdZ x0 from (wrz (j := 10) (by omega) (pq33.trans (by decide +kernel)))) w (by decide) rfl
  by_cases c_34 : x0 = 11
  · refine lv_tableIn (off := 292) (tgt := 293) hx hb dX12_wordOf_1 (by rw [c_34]; decide +kernel) (by rw [c_34]; decide +kernel) (by rw [c_34]; decide +kernel) (by decide) ?_
    refine lv_bipush (v := iI 98) hx hb dX12_wordOf_293 (by decide +kernel) ?_
    refine lv_bipush (v := iI 117) hx hb dX12_wordOf_295 (by decide +kernel) ?_
    refine lv_bipush (v := iI 116) hx hb dX12_wordOf_297 (by decide +kernel) ?_
    refine lv_bipush (v := iI 116) hx hb dX12_wordOf_299 (by decide +kernel) ?_
    refine lv_bipush (v := iI 111) hx hb dX12_wordOf_301 (by decide +kernel) ?_
    refine lv_bipush (v := iI 110) hx hb dX12_wordOf_303 (by decide +kernel) ?_
    refine lv_bipush (v := iI 115) hx hb dX12_wordOf_305 (by decide +kernel) ?_
    refine k_L (ce := 0) (sl := 0) (rest := []) (wr := []) (r_S (f := 0) [] M w V_HookedCityModel_58 G1655 (c25_X12_spelt l D T _) rfl (by decide) rfl hl.1 rfl (Nat.le_of_ble_eq_true rfl) dX12_wordOf_307 (by decide) (by decide) (by decide) (by decide)) w [] [] rfl rfl (by decide) (by decide) rfl rfl (fun fy35 _ H locs hp w => ?_)
    have pq36 : fy35 = 1087201837 := hp
    have w : WD D A s.heap [] H locs := w
    exact ret _ () _ _ _ _ _ [] dX12_wordOf_310 (show fy35 = wrdZ x0 from (wrz (j := 11) (by omega) (pq36.trans (by decide +kernel)))) w (by decide) rfl
  by_cases c_37 : x0 = 12
  · refine lv_tableIn (off := 310) (tgt := 311) hx hb dX12_wordOf_1 (by rw [c_37]; decide +kernel) (by rw [c_37]; decide +kernel) (by rw [c_37]; decide +kernel) (by decide) ?_
    refine lv_bipush (v := iI 108) hx hb dX12_wordOf_311 (by decide +kernel) ?_
    refine lv_bipush (v := iI 111) hx hb dX12_wordOf_313 (by decide +kernel) ?_
    refine lv_bipush (v := iI 111) hx hb dX12_wordOf_315 (by decide +kernel) ?_
    refine lv_bipush (v := iI 115) hx hb dX12_wordOf_317 (by decide +kernel) ?_
    refine lv_bipush (v := iI 101) hx hb dX12_wordOf_319 (by decide +kernel) ?_
    refine lv_bipush (v := iI 115) hx hb dX12_wordOf_321 (by decide +kernel) ?_
    refine lv_iconst (v := iI 0) hx hb dX12_wordOf_323 (by decide +kernel) ?_
    refine k_L (ce := 0) (sl := 0) (rest := []) (wr := []) (r_S (f := 0) [] M w V_HookedCityModel_58 G1655 (c26_X12_spelt l D T _) rfl (by decide) rfl hl.1 rfl (Nat.le_of_ble_eq_true rfl) dX12_wordOf_324 (by decide) (by decide) (by decide) (by decide)) w [] [] rfl rfl (by decide) (by decide) rfl rfl (fun fy38 _ H locs hp w => ?_)
    have pq39 : fy38 = 180467749 := hp
    have w : WD D A s.heap [] H locs := w
    exact ret _ () _ _ _ _ _ [] dX12_wordOf_327 (show fy38 = wrdZ x0 from (wrz (j := 12) (by omega) (pq39.trans (by decide +kernel)))) w (by decide) rfl
  by_cases c_40 : x0 = 13
  · refine lv_tableIn (off := 327) (tgt := 328) hx hb dX12_wordOf_1 (by rw [c_40]; decide +kernel) (by rw [c_40]; decide +kernel) (by rw [c_40]; decide +kernel) (by decide) ?_
    refine lv_bipush (v := iI 109) hx hb dX12_wordOf_328 (by decide +kernel) ?_
    refine lv_bipush (v := iI 101) hx hb dX12_wordOf_330 (by decide +kernel) ?_
    refine lv_bipush (v := iI 110) hx hb dX12_wordOf_332 (by decide +kernel) ?_
    refine lv_bipush (v := iI 100) hx hb dX12_wordOf_334 (by decide +kernel) ?_
    refine lv_iconst (v := iI 0) hx hb dX12_wordOf_336 (by decide +kernel) ?_
    refine lv_iconst (v := iI 0) hx hb dX12_wordOf_337 (by decide +kernel) ?_
    refine lv_iconst (v := iI 0) hx hb dX12_wordOf_338 (by decide +kernel) ?_
    refine k_L (ce := 0) (sl := 0) (rest := []) (wr := []) (r_S (f := 0) [] M w V_HookedCityModel_58 G1655 (c27_X12_spelt l D T _) rfl (by decide) rfl hl.1 rfl (Nat.le_of_ble_eq_true rfl) dX12_wordOf_339 (by decide) (by decide) (by decide) (by decide)) w [] [] rfl rfl (by decide) (by decide) rfl rfl (fun fy41 _ H locs hp w => ?_)
    have pq42 : fy41 = 259906 := hp
    have w : WD D A s.heap [] H locs := w
    exact ret _ () _ _ _ _ _ [] dX12_wordOf_342 (show fy41 = wrdZ x0 from (wrz (j := 13) (by omega) (pq42.trans (by decide +kernel)))) w (by decide) rfl
  by_cases c_43 : x0 = 14
  · refine lv_tableIn (off := 342) (tgt := 343) hx hb dX12_wordOf_1 (by rw [c_43]; decide +kernel) (by rw [c_43]; decide +kernel) (by rw [c_43]; decide +kernel) (by decide) ?_
    refine lv_bipush (v := iI 100) hx hb dX12_wordOf_343 (by decide +kernel) ?_
    refine lv_bipush (v := iI 97) hx hb dX12_wordOf_345 (by decide +kernel) ?_
    refine lv_bipush (v := iI 121) hx hb dX12_wordOf_347 (by decide +kernel) ?_
    refine lv_iconst (v := iI 0) hx hb dX12_wordOf_349 (by decide +kernel) ?_
    refine lv_iconst (v := iI 0) hx hb dX12_wordOf_350 (by decide +kernel) ?_
    refine lv_iconst (v := iI 0) hx hb dX12_wordOf_351 (by decide +kernel) ?_
    refine lv_iconst (v := iI 0) hx hb dX12_wordOf_352 (by decide +kernel) ?_
    refine k_L (ce := 0) (sl := 0) (rest := []) (wr := []) (r_S (f := 0) [] M w V_HookedCityModel_58 G1655 (c28_X12_spelt l D T _) rfl (by decide) rfl hl.1 rfl (Nat.le_of_ble_eq_true rfl) dX12_wordOf_353 (by decide) (by decide) (by decide) (by decide)) w [] [] rfl rfl (by decide) (by decide) rfl rfl (fun fy44 _ H locs hp w => ?_)
    have pq45 : fy44 = 2968 := hp
    have w : WD D A s.heap [] H locs := w
    exact ret _ () _ _ _ _ _ [] dX12_wordOf_356 (show fy44 = wrdZ x0 from (wrz (j := 14) (by omega) (pq45.trans (by decide +kernel)))) w (by decide) rfl
  by_cases c_46 : x0 = 15
  · refine lv_tableIn (off := 356) (tgt := 357) hx hb dX12_wordOf_1 (by rw [c_46]; decide +kernel) (by rw [c_46]; decide +kernel) (by rw [c_46]; decide +kernel) (by decide) ?_
    refine lv_bipush (v := iI 111) hx hb dX12_wordOf_357 (by decide +kernel) ?_
    refine lv_bipush (v := iI 114) hx hb dX12_wordOf_359 (by decide +kernel) ?_
    refine lv_iconst (v := iI 0) hx hb dX12_wordOf_361 (by decide +kernel) ?_
    refine lv_iconst (v := iI 0) hx hb dX12_wordOf_362 (by decide +kernel) ?_
    refine lv_iconst (v := iI 0) hx hb dX12_wordOf_363 (by decide +kernel) ?_
    refine lv_iconst (v := iI 0) hx hb dX12_wordOf_364 (by decide +kernel) ?_
    refine lv_iconst (v := iI 0) hx hb dX12_wordOf_365 (by decide +kernel) ?_
    refine k_L (ce := 0) (sl := 0) (rest := []) (wr := []) (r_S (f := 0) [] M w V_HookedCityModel_58 G1655 (c29_X12_spelt l D T _) rfl (by decide) rfl hl.1 rfl (Nat.le_of_ble_eq_true rfl) dX12_wordOf_366 (by decide) (by decide) (by decide) (by decide)) w [] [] rfl rfl (by decide) (by decide) rfl rfl (fun fy47 _ H locs hp w => ?_)
    have pq48 : fy47 = 423 := hp
    have w : WD D A s.heap [] H locs := w
    exact ret _ () _ _ _ _ _ [] dX12_wordOf_369 (show fy47 = wrdZ x0 from (wrz (j := 15) (by omega) (pq48.trans (by decide +kernel)))) w (by decide) rfl
  by_cases c_49 : x0 = 16
  · refine lv_tableIn (off := 369) (tgt := 370) hx hb dX12_wordOf_1 (by rw [c_49]; decide +kernel) (by rw [c_49]; decide +kernel) (by rw [c_49]; decide +kernel) (by decide) ?_
    refine lv_bipush (v := iI 97) hx hb dX12_wordOf_370 (by decide +kernel) ?_
    refine lv_bipush (v := iI 110) hx hb dX12_wordOf_372 (by decide +kernel) ?_
    refine lv_bipush (v := iI 100) hx hb dX12_wordOf_374 (by decide +kernel) ?_
    refine lv_iconst (v := iI 0) hx hb dX12_wordOf_376 (by decide +kernel) ?_
    refine lv_iconst (v := iI 0) hx hb dX12_wordOf_377 (by decide +kernel) ?_
    refine lv_iconst (v := iI 0) hx hb dX12_wordOf_378 (by decide +kernel) ?_
    refine lv_iconst (v := iI 0) hx hb dX12_wordOf_379 (by decide +kernel) ?_
    refine k_L (ce := 0) (sl := 0) (rest := []) (wr := []) (r_S (f := 0) [] M w V_HookedCityModel_58 G1655 (c30_X12_spelt l D T _) rfl (by decide) rfl hl.1 rfl (Nat.le_of_ble_eq_true rfl) dX12_wordOf_380 (by decide) (by decide) (by decide) (by decide)) w [] [] rfl rfl (by decide) (by decide) rfl rfl (fun fy50 _ H locs hp w => ?_)
    have pq51 : fy50 = 1111 := hp
    have w : WD D A s.heap [] H locs := w
    exact ret _ () _ _ _ _ _ [] dX12_wordOf_383 (show fy50 = wrdZ x0 from (wrz (j := 16) (by omega) (pq51.trans (by decide +kernel)))) w (by decide) rfl
  by_cases c_52 : x0 = 17
  · refine lv_tableIn (off := 383) (tgt := 384) hx hb dX12_wordOf_1 (by rw [c_52]; decide +kernel) (by rw [c_52]; decide +kernel) (by rw [c_52]; decide +kernel) (by decide) ?_
    refine lv_bipush (v := iI 110) hx hb dX12_wordOf_384 (by decide +kernel) ?_
    refine lv_bipush (v := iI 111) hx hb dX12_wordOf_386 (by decide +kernel) ?_
    refine lv_bipush (v := iI 116) hx hb dX12_wordOf_388 (by decide +kernel) ?_
    refine lv_iconst (v := iI 0) hx hb dX12_wordOf_390 (by decide +kernel) ?_
    refine lv_iconst (v := iI 0) hx hb dX12_wordOf_391 (by decide +kernel) ?_
    refine lv_iconst (v := iI 0) hx hb dX12_wordOf_392 (by decide +kernel) ?_
    refine lv_iconst (v := iI 0) hx hb dX12_wordOf_393 (by decide +kernel) ?_
    refine k_L (ce := 0) (sl := 0) (rest := []) (wr := []) (r_S (f := 0) [] M w V_HookedCityModel_58 G1655 (c31_X12_spelt l D T _) rfl (by decide) rfl hl.1 rfl (Nat.le_of_ble_eq_true rfl) dX12_wordOf_394 (by decide) (by decide) (by decide) (by decide)) w [] [] rfl rfl (by decide) (by decide) rfl rfl (fun fy53 _ H locs hp w => ?_)
    have pq54 : fy53 = 10631 := hp
    have w : WD D A s.heap [] H locs := w
    exact ret _ () _ _ _ _ _ [] dX12_wordOf_397 (show fy53 = wrdZ x0 from (wrz (j := 17) (by omega) (pq54.trans (by decide +kernel)))) w (by decide) rfl
  by_cases c_55 : x0 = 18
  · refine lv_tableIn (off := 397) (tgt := 398) hx hb dX12_wordOf_1 (by rw [c_55]; decide +kernel) (by rw [c_55]; decide +kernel) (by rw [c_55]; decide +kernel) (by decide) ?_
    refine lv_bipush (v := iI 111) hx hb dX12_wordOf_398 (by decide +kernel) ?_
    refine lv_bipush (v := iI 112) hx hb dX12_wordOf_400 (by decide +kernel) ?_
    refine lv_bipush (v := iI 101) hx hb dX12_wordOf_402 (by decide +kernel) ?_
    refine lv_bipush (v := iI 110) hx hb dX12_wordOf_404 (by decide +kernel) ?_
    refine lv_iconst (v := iI 0) hx hb dX12_wordOf_406 (by decide +kernel) ?_
    refine lv_iconst (v := iI 0) hx hb dX12_wordOf_407 (by decide +kernel) ?_
    refine lv_iconst (v := iI 0) hx hb dX12_wordOf_408 (by decide +kernel) ?_
    refine k_L (ce := 0) (sl := 0) (rest := []) (wr := []) (r_S (f := 0) [] M w V_HookedCityModel_58 G1655 (c32_X12_spelt l D T _) rfl (by decide) rfl hl.1 rfl (Nat.le_of_ble_eq_true rfl) dX12_wordOf_409 (by decide) (by decide) (by decide) (by decide)) w [] [] rfl rfl (by decide) (by decide) rfl rfl (fun fy56 _ H locs hp w => ?_)
    have pq57 : fy56 = 307058 := hp
    have w : WD D A s.heap [] H locs := w
    exact ret _ () _ _ _ _ _ [] dX12_wordOf_412 (show fy56 = wrdZ x0 from (wrz (j := 18) (by omega) (pq57.trans (by decide +kernel)))) w (by decide) rfl
  by_cases c_58 : x0 = 19
  · refine lv_tableIn (off := 412) (tgt := 413) hx hb dX12_wordOf_1 (by rw [c_58]; decide +kernel) (by rw [c_58]; decide +kernel) (by rw [c_58]; decide +kernel) (by decide) ?_
    refine lv_bipush (v := iI 98) hx hb dX12_wordOf_413 (by decide +kernel) ?_
    refine lv_bipush (v := iI 97) hx hb dX12_wordOf_415 (by decide +kernel) ?_
    refine lv_bipush (v := iI 114) hx hb dX12_wordOf_417 (by decide +kernel) ?_
    refine lv_bipush (v := iI 101) hx hb dX12_wordOf_419 (by decide +kernel) ?_
    refine lv_iconst (v := iI 0) hx hb dX12_wordOf_421 (by decide +kernel) ?_
    refine lv_iconst (v := iI 0) hx hb dX12_wordOf_422 (by decide +kernel) ?_
    refine lv_iconst (v := iI 0) hx hb dX12_wordOf_423 (by decide +kernel) ?_
    refine k_L (ce := 0) (sl := 0) (rest := []) (wr := []) (r_S (f := 0) [] M w V_HookedCityModel_58 G1655 (c33_X12_spelt l D T _) rfl (by decide) rfl hl.1 rfl (Nat.le_of_ble_eq_true rfl) dX12_wordOf_424 (by decide) (by decide) (by decide) (by decide)) w [] [] rfl rfl (by decide) (by decide) rfl rfl (fun fy59 _ H locs hp w => ?_)
    have pq60 : fy59 = 40586 := hp
    have w : WD D A s.heap [] H locs := w
    exact ret _ () _ _ _ _ _ [] dX12_wordOf_427 (show fy59 = wrdZ x0 from (wrz (j := 19) (by omega) (pq60.trans (by decide +kernel)))) w (by decide) rfl
  by_cases c_61 : x0 = 20
  · refine lv_tableIn (off := 427) (tgt := 428) hx hb dX12_wordOf_1 (by rw [c_61]; decide +kernel) (by rw [c_61]; decide +kernel) (by rw [c_61]; decide +kernel) (by decide) ?_
    refine lv_bipush (v := iI 116) hx hb dX12_wordOf_428 (by decide +kernel) ?_
    refine lv_bipush (v := iI 111) hx hb dX12_wordOf_430 (by decide +kernel) ?_
    refine lv_bipush (v := iI 114) hx hb dX12_wordOf_432 (by decide +kernel) ?_
    refine lv_bipush (v := iI 110) hx hb dX12_wordOf_434 (by decide +kernel) ?_
    refine lv_iconst (v := iI 0) hx hb dX12_wordOf_436 (by decide +kernel) ?_
    refine lv_iconst (v := iI 0) hx hb dX12_wordOf_437 (by decide +kernel) ?_
    refine lv_iconst (v := iI 0) hx hb dX12_wordOf_438 (by decide +kernel) ?_
    refine k_L (ce := 0) (sl := 0) (rest := []) (wr := []) (r_S (f := 0) [] M w V_HookedCityModel_58 G1655 (c34_X12_spelt l D T _) rfl (by decide) rfl hl.1 rfl (Nat.le_of_ble_eq_true rfl) dX12_wordOf_439 (by decide) (by decide) (by decide) (by decide)) w [] [] rfl rfl (by decide) (by decide) rfl rfl (fun fy62 _ H locs hp w => ?_)
    have pq63 : fy62 = 405095 := hp
    have w : WD D A s.heap [] H locs := w
    exact ret _ () _ _ _ _ _ [] dX12_wordOf_442 (show fy62 = wrdZ x0 from (wrz (j := 20) (by omega) (pq63.trans (by decide +kernel)))) w (by decide) rfl
  by_cases c_64 : x0 = 21
  · refine lv_tableIn (off := 442) (tgt := 443) hx hb dX12_wordOf_1 (by rw [c_64]; decide +kernel) (by rw [c_64]; decide +kernel) (by rw [c_64]; decide +kernel) (by decide) ?_
    refine lv_bipush (v := iI 114) hx hb dX12_wordOf_443 (by decide +kernel) ?_
    refine lv_bipush (v := iI 105) hx hb dX12_wordOf_445 (by decide +kernel) ?_
    refine lv_bipush (v := iI 110) hx hb dX12_wordOf_447 (by decide +kernel) ?_
    refine lv_bipush (v := iI 103) hx hb dX12_wordOf_449 (by decide +kernel) ?_
    refine lv_iconst (v := iI 0) hx hb dX12_wordOf_451 (by decide +kernel) ?_
    refine lv_iconst (v := iI 0) hx hb dX12_wordOf_452 (by decide +kernel) ?_
    refine lv_iconst (v := iI 0) hx hb dX12_wordOf_453 (by decide +kernel) ?_
    refine k_L (ce := 0) (sl := 0) (rest := []) (wr := []) (r_S (f := 0) [] M w V_HookedCityModel_58 G1655 (c35_X12_spelt l D T _) rfl (by decide) rfl hl.1 rfl (Nat.le_of_ble_eq_true rfl) dX12_wordOf_454 (by decide) (by decide) (by decide) (by decide)) w [] [] rfl rfl (by decide) (by decide) rfl rfl (fun fy65 _ H locs hp w => ?_)
    have pq66 : fy65 = 361240 := hp
    have w : WD D A s.heap [] H locs := w
    exact ret _ () _ _ _ _ _ [] dX12_wordOf_457 (show fy65 = wrdZ x0 from (wrz (j := 21) (by omega) (pq66.trans (by decide +kernel)))) w (by decide) rfl
  by_cases c_67 : x0 = 22
  · refine lv_tableIn (off := 457) (tgt := 458) hx hb dX12_wordOf_1 (by rw [c_67]; decide +kernel) (by rw [c_67]; decide +kernel) (by rw [c_67]; decide +kernel) (by decide) ?_
    refine lv_bipush (v := iI 119) hx hb dX12_wordOf_458 (by decide +kernel) ?_
    refine lv_bipush (v := iI 105) hx hb dX12_wordOf_460 (by decide +kernel) ?_
    refine lv_bipush (v := iI 116) hx hb dX12_wordOf_462 (by decide +kernel) ?_
    refine lv_bipush (v := iI 104) hx hb dX12_wordOf_464 (by decide +kernel) ?_
    refine lv_iconst (v := iI 0) hx hb dX12_wordOf_466 (by decide +kernel) ?_
    refine lv_iconst (v := iI 0) hx hb dX12_wordOf_467 (by decide +kernel) ?_
    refine lv_iconst (v := iI 0) hx hb dX12_wordOf_468 (by decide +kernel) ?_
    refine k_L (ce := 0) (sl := 0) (rest := []) (wr := []) (r_S (f := 0) [] M w V_HookedCityModel_58 G1655 (c36_X12_spelt l D T _) rfl (by decide) rfl hl.1 rfl (Nat.le_of_ble_eq_true rfl) dX12_wordOf_469 (by decide) (by decide) (by decide) (by decide)) w [] [] rfl rfl (by decide) (by decide) rfl rfl (fun fy68 _ H locs hp w => ?_)
    have pq69 : fy68 = 459818 := hp
    have w : WD D A s.heap [] H locs := w
    exact ret _ () _ _ _ _ _ [] dX12_wordOf_472 (show fy68 = wrdZ x0 from (wrz (j := 22) (by omega) (pq69.trans (by decide +kernel)))) w (by decide) rfl
  by_cases c_70 : x0 = 23
  · refine lv_tableIn (off := 472) (tgt := 473) hx hb dX12_wordOf_1 (by rw [c_70]; decide +kernel) (by rw [c_70]; decide +kernel) (by rw [c_70]; decide +kernel) (by decide) ?_
    refine lv_bipush (v := iI 110) hx hb dX12_wordOf_473 (by decide +kernel) ?_
    refine lv_bipush (v := iI 101) hx hb dX12_wordOf_475 (by decide +kernel) ?_
    refine lv_bipush (v := iI 97) hx hb dX12_wordOf_477 (by decide +kernel) ?_
    refine lv_bipush (v := iI 114) hx hb dX12_wordOf_479 (by decide +kernel) ?_
    refine lv_iconst (v := iI 0) hx hb dX12_wordOf_481 (by decide +kernel) ?_
    refine lv_iconst (v := iI 0) hx hb dX12_wordOf_482 (by decide +kernel) ?_
    refine lv_iconst (v := iI 0) hx hb dX12_wordOf_483 (by decide +kernel) ?_
    refine k_L (ce := 0) (sl := 0) (rest := []) (wr := []) (r_S (f := 0) [] M w V_HookedCityModel_58 G1655 (c37_X12_spelt l D T _) rfl (by decide) rfl hl.1 rfl (Nat.le_of_ble_eq_true rfl) dX12_wordOf_484 (by decide) (by decide) (by decide) (by decide)) w [] [] rfl rfl (by decide) (by decide) rfl rfl (fun fy71 _ H locs hp w => ?_)
    have pq72 : fy71 = 279252 := hp
    have w : WD D A s.heap [] H locs := w
    exact ret _ () _ _ _ _ _ [] dX12_wordOf_487 (show fy71 = wrdZ x0 from (wrz (j := 23) (by omega) (pq72.trans (by decide +kernel)))) w (by decide) rfl
  by_cases c_73 : x0 = 24
  · refine lv_tableIn (off := 487) (tgt := 488) hx hb dX12_wordOf_1 (by rw [c_73]; decide +kernel) (by rw [c_73]; decide +kernel) (by rw [c_73]; decide +kernel) (by decide) ?_
    refine lv_bipush (v := iI 108) hx hb dX12_wordOf_488 (by decide +kernel) ?_
    refine lv_bipush (v := iI 111) hx hb dX12_wordOf_490 (by decide +kernel) ?_
    refine lv_bipush (v := iI 111) hx hb dX12_wordOf_492 (by decide +kernel) ?_
    refine lv_bipush (v := iI 112) hx hb dX12_wordOf_494 (by decide +kernel) ?_
    refine lv_iconst (v := iI 0) hx hb dX12_wordOf_496 (by decide +kernel) ?_
    refine lv_iconst (v := iI 0) hx hb dX12_wordOf_497 (by decide +kernel) ?_
    refine lv_iconst (v := iI 0) hx hb dX12_wordOf_498 (by decide +kernel) ?_
    refine k_L (ce := 0) (sl := 0) (rest := []) (wr := []) (r_S (f := 0) [] M w V_HookedCityModel_58 G1655 (c38_X12_spelt l D T _) rfl (by decide) rfl hl.1 rfl (Nat.le_of_ble_eq_true rfl) dX12_wordOf_499 (by decide) (by decide) (by decide) (by decide)) w [] [] rfl rfl (by decide) (by decide) rfl rfl (fun fy74 _ H locs hp w => ?_)
    have pq75 : fy74 = 247552 := hp
    have w : WD D A s.heap [] H locs := w
    exact ret _ () _ _ _ _ _ [] dX12_wordOf_502 (show fy74 = wrdZ x0 from (wrz (j := 24) (by omega) (pq75.trans (by decide +kernel)))) w (by decide) rfl
  by_cases c_76 : x0 = 25
  · refine lv_tableIn (off := 502) (tgt := 503) hx hb dX12_wordOf_1 (by rw [c_76]; decide +kernel) (by rw [c_76]; decide +kernel) (by rw [c_76]; decide +kernel) (by decide) ?_
    refine lv_bipush (v := iI 99) hx hb dX12_wordOf_503 (by decide +kernel) ?_
    refine lv_bipush (v := iI 104) hx hb dX12_wordOf_505 (by decide +kernel) ?_
    refine lv_bipush (v := iI 97) hx hb dX12_wordOf_507 (by decide +kernel) ?_
    refine lv_bipush (v := iI 105) hx hb dX12_wordOf_509 (by decide +kernel) ?_
    refine lv_bipush (v := iI 110) hx hb dX12_wordOf_511 (by decide +kernel) ?_
    refine lv_iconst (v := iI 0) hx hb dX12_wordOf_513 (by decide +kernel) ?_
    refine lv_iconst (v := iI 0) hx hb dX12_wordOf_514 (by decide +kernel) ?_
    refine k_L (ce := 0) (sl := 0) (rest := []) (wr := []) (r_S (f := 0) [] M w V_HookedCityModel_58 G1655 (c39_X12_spelt l D T _) rfl (by decide) rfl hl.1 rfl (Nat.le_of_ble_eq_true rfl) dX12_wordOf_515 (by decide) (by decide) (by decide) (by decide)) w [] [] rfl rfl (by decide) (by decide) rfl rfl (fun fy77 _ H locs hp w => ?_)
    have pq78 : fy77 = 1752773 := hp
    have w : WD D A s.heap [] H locs := w
    exact ret _ () _ _ _ _ _ [] dX12_wordOf_518 (show fy77 = wrdZ x0 from (wrz (j := 25) (by omega) (pq78.trans (by decide +kernel)))) w (by decide) rfl
  refine lv_tableOut (tgt := 519) hx hb dX12_wordOf_1 (by rw [iI_i (Int.le_trans (by decide) x0_a) (Int.le_trans x0_b (by decide))]; omega) (by decide) ?_
  refine lv_bipush (v := iI 110) hx hb dX12_wordOf_519 (by decide +kernel) ?_
  refine lv_bipush (v := iI 117) hx hb dX12_wordOf_521 (by decide +kernel) ?_
  refine lv_bipush (v := iI 109) hx hb dX12_wordOf_523 (by decide +kernel) ?_
  refine lv_bipush (v := iI 98) hx hb dX12_wordOf_525 (by decide +kernel) ?_
  refine lv_bipush (v := iI 101) hx hb dX12_wordOf_527 (by decide +kernel) ?_
  refine lv_bipush (v := iI 114) hx hb dX12_wordOf_529 (by decide +kernel) ?_
  refine lv_iconst (v := iI 0) hx hb dX12_wordOf_531 (by decide +kernel) ?_
  refine k_L (ce := 0) (sl := 0) (rest := []) (wr := []) (r_S (f := 0) [] M w V_HookedCityModel_58 G1655 (c40_X12_spelt l D T _) rfl (by decide) rfl hl.1 rfl (Nat.le_of_ble_eq_true rfl) dX12_wordOf_532 (by decide) (by decide) (by decide) (by decide)) w [] [] rfl rfl (by decide) (by decide) rfl rfl (fun fy79 _ H locs hp w => ?_)
  have pq80 : fy79 = 212302449 := hp
  have w : WD D A s.heap [] H locs := w
  exact ret _ () _ _ _ _ _ [] dX12_wordOf_535 (show fy79 = wrdZ x0 from (wrz (j := 26) (by omega) (pq80.trans (by decide +kernel)))) w (by decide) rfl
set_option maxRecDepth 100000 in
set_option maxHeartbeats 4000000 in
theorem c42_X12_isWord (l : Launch) (D : va_G) (T : Nat → ClassId) (sz : Nat) (a0 : Nat) (x0 : Int) (r0 : Int32) (a1 : Nat) (x1 : Int) (x2 : Int) (x3 : Int) (x4 : Int) (x5 : Int) (x6 : Int) (r1 : Int32) (x7 : Int) (x8 : Int) (x9 : Int) (y0 : Int64) (x10 : Int) (a2 : Nat) (a3 : Nat) (a4 : Nat) (a5 : Nat) (a6 : Nat) (a7 : Nat) (a8 : Nat) (a9 : Nat) (a10 : Nat) (a11 : Nat) (x11 : Int) (a12 : Nat) (a13 : Nat) (a14 : Nat) (a15 : Nat) (x12 : Int) (r2 : Int32) (r3 : Int32) (a16 : Nat) (x13 : Int) (x14 : Int) (a17 : Nat) (a18 : Nat) (x15 : Int) (a19 : Nat) (x16 : Int) (r4 : Int32) (a20 : Nat) (a21 : Nat) (x17 : Int) (r5 : Int32) (a22 : Nat) (x18 : Int) (x19 : Int) (x20 : Int) (x21 : Int) (x0_a : 0 ≤ x0) (x0_b : x0 ≤ 26) (x1_a : 0 ≤ x1) (x1_b : x1 ≤ 940) (x2_a : 0 ≤ x2) (x2_b : x2 ≤ 940) (x3_a : 0 ≤ x3) (x3_b : x3 ≤ 940) (x4_a : 0 ≤ x4) (x4_b : x4 ≤ 940) (x5_a : 0 ≤ x5) (x5_b : x5 ≤ 940) (x6_a : 0 ≤ x6) (x6_b : x6 ≤ 4) (x7_a : (-2147483648) ≤ x7) (x7_b : x7 ≤ 2147483647) (x8_a : (-2147483648) ≤ x8) (x8_b : x8 ≤ 2147483647) (x9_a : 0 ≤ x9) (x9_b : x9 ≤ 940) (x10_a : (-2147483648) ≤ x10) (x10_b : x10 ≤ 2147483647) (x11_a : 0 ≤ x11) (x11_b : x11 ≤ 8) (x12_a : 0 ≤ x12) (x12_b : x12 ≤ 9) (x13_a : (-1) ≤ x13) (x13_b : x13 ≤ 9) (x14_a : (-1) ≤ x14) (x14_b : x14 ≤ 8) (x15_a : 0 ≤ x15) (x15_b : x15 ≤ 9) (x16_a : 0 ≤ x16) (x16_b : x16 ≤ 64) (x17_a : 0 ≤ x17) (x17_b : x17 ≤ 40) (x18_a : 0 ≤ x18) (x18_b : x18 ≤ 40) (x19_a : 0 ≤ x19) (x19_b : x19 ≤ 20) (x20_a : 0 ≤ x20) (x20_b : x20 ≤ 8) (x21_a : 0 ≤ x21) (x21_b : x21 ≤ 39) : Met l yX12_isWord (Cond.code yX12_isWord cX12_isWord 2 (some .boolean) :: GW) (Rm 2 0 0) (cPre [.ref a0, .int (iI x0)] D T [(a0, .inr (11, [.int r0, .ref a1, .int (iI x1), .int (iI x2), .int (iI x3), .int (iI x4), .int (iI x5), .int (iI x6), .int r1, .int (iI x7), .int (iI x8), .int (iI x9), .long y0, .int (iI x10), .ref a2, .ref a3, .ref a4, .ref a5, .ref a6, .ref a7, .ref a8, .ref a9, .ref a10, .ref a11, .int (iI x11), .ref a12, .ref a13, .ref a14, .ref a15, .int (iI x12), .int r2, .int r3, .ref a16, .int (iI x13), .int (iI x14), .ref a17, .ref a18, .int (iI x15), .ref a19, .int (iI x16), .int r4, .ref a20, .ref a21, .int (iI x17), .int r5, .ref a22, .int (iI x18), .int (iI x19), .int (iI x20), .int (iI x21)]))] sz) (qI D [(a0, .inr (11, [.int r0, .ref a1, .int (iI x1), .int (iI x2), .int (iI x3), .int (iI x4), .int (iI x5), .int (iI x6), .int r1, .int (iI x7), .int (iI x8), .int (iI x9), .long y0, .int (iI x10), .ref a2, .ref a3, .ref a4, .ref a5, .ref a6, .ref a7, .ref a8, .ref a9, .ref a10, .ref a11, .int (iI x11), .ref a12, .ref a13, .ref a14, .ref a15, .int (iI x12), .int r2, .int r3, .ref a16, .int (iI x13), .int (iI x14), .ref a17, .ref a18, .int (iI x15), .ref a19, .int (iI x16), .int r4, .ref a20, .ref a21, .int (iI x17), .int r5, .ref a22, .int (iI x18), .int (iI x19), .int (iI x20), .int (iI x21)]))] sz (fun (v : Int32) (u : Int) => iI u = v ∧ 0 ≤ u ∧ u ≤ 1 ∧ (wdQ u x6 y0 (wrdZ x0))) (fun u => [(a0, .inr (11, [.int r0, .ref a1, .int (iI x1), .int (iI x2), .int (iI x3), .int (iI x4), .int (iI x5), .int (iI x6), .int r1, .int (iI x7), .int (iI x8), .int (iI x9), .long y0, .int (iI x10), .ref a2, .ref a3, .ref a4, .ref a5, .ref a6, .ref a7, .ref a8, .ref a9, .ref a10, .ref a11, .int (iI x11), .ref a12, .ref a13, .ref a14, .ref a15, .int (iI x12), .int r2, .int r3, .ref a16, .int (iI x13), .int (iI x14), .ref a17, .ref a18, .int (iI x15), .ref a19, .int (iI x16), .int r4, .ref a20, .ref a21, .int (iI x17), .int r5, .ref a22, .int (iI x18), .int (iI x19), .int (iI x20), .int (iI x21)]))])) 0 0 (va_A [(a0, .inr (11, [.int r0, .ref a1, .int (iI x1), .int (iI x2), .int (iI x3), .int (iI x4), .int (iI x5), .int (iI x6), .int r1, .int (iI x7), .int (iI x8), .int (iI x9), .long y0, .int (iI x10), .ref a2, .ref a3, .ref a4, .ref a5, .ref a6, .ref a7, .ref a8, .ref a9, .ref a10, .ref a11, .int (iI x11), .ref a12, .ref a13, .ref a14, .ref a15, .int (iI x12), .int r2, .int r3, .ref a16, .int (iI x13), .int (iI x14), .ref a17, .ref a18, .int (iI x15), .ref a19, .int (iI x16), .int r4, .ref a20, .ref a21, .int (iI x17), .int r5, .ref a22, .int (iI x18), .int (iI x19), .int (iI x20), .int (iI x21)]))] sz) := by
  refine e_Z (by decide) (Nat.le_of_ble_eq_true rfl) ?_
  intro p e s m args below meth c A Q ls M hin w ret hl
  have hx := M.1.1
  have hb := M.1.2.1
  have hl : lv_has ls 2 [(0, .ref a0), (1, .int (iI x0))] := hl
  refine lv_aload_n hx hb dX12_isWord_0 rfl (lv_at hl 0 rfl) ?_
  refine r_get (v := .int (iI x6)) M w 0 7 clX12 rfl (by decide) G1470 rfl rfl dX12_isWord_1 ?_
  refine lv_iconst (v := iI 2) hx hb dX12_isWord_4 (by decide +kernel) ?_
  refine lv_icmp_ne (tgt := 24) hx hb dX12_isWord_5 (by decide) (fun c_1 => ?_) (fun c_1 => ?_)
  · replace c_1 : ¬ x6 = 2 := fun h => c_1 ((iI_eq (Int.le_trans (by decide) x6_a) (Int.le_trans x6_b (by decide)) (by decide) (by decide)).mpr h)
    refine lv_iconst (v := iI 0) hx hb dX12_isWord_24 (by decide +kernel) ?_
    exact ret _ 0 _ _ _ _ _ [0] dX12_isWord_25 (by decide +kernel) ⟨rfl, (show (0 : Int) ≤ 0 from by decide), (show (0 : Int) ≤ 1 from by decide), (show wdQ 0 x6 y0 (wrdZ x0) from (Or.inr ⟨rfl, fun e => absurd e.1 (by omega)⟩))⟩ w (by decide) rfl
  · replace c_1 := (iI_eq (Int.le_trans (by decide) x6_a) (Int.le_trans x6_b (by decide)) (by decide) (by decide)).mp c_1
    refine lv_aload_n hx hb dX12_isWord_8 rfl (lv_at hl 0 rfl) ?_
    refine r_get (v := .long y0) M w 0 12 clX12 rfl (by decide) G1475 rfl rfl dX12_isWord_9 ?_
    refine lv_iload_n hx hb dX12_isWord_12 rfl (lv_at hl 1 rfl) ?_
    refine k_L (ce := 0) (sl := 0) (rest := [.long y0]) (wr := [(a0, .inr (11, [.int r0, .ref a1, .int (iI x1), .int (iI x2), .int (iI x3), .int (iI x4), .int (iI x5), .int (iI x6), .int r1, .int (iI x7), .int (iI x8), .int (iI x9), .long y0, .int (iI x10), .ref a2, .ref a3, .ref a4, .ref a5, .ref a6, .ref a7, .ref a8, .ref a9, .ref a10, .ref a11, .int (iI x11), .ref a12, .ref a13, .ref a14, .ref a15, .int (iI x12), .int r2, .int r3, .ref a16, .int (iI x13), .int (iI x14), .ref a17, .ref a18, .int (iI x15), .ref a19, .int (iI x16), .int r4, .ref a20, .ref a21, .int (iI x17), .int r5, .ref a22, .int (iI x18), .int (iI x19), .int (iI x20), .int (iI x21)]))]) (r_S (f := 1) [] M w V_HookedCityModel_62 G1652 (c41_X12_wordOf l D T _ x0 x0_a x0_b) rfl (by decide) rfl hl.1 rfl (Nat.le_of_ble_eq_true rfl) dX12_isWord_13 (by decide) (by decide) (by decide) (by decide)) w [] [0] rfl rfl (by decide) (by decide) rfl rfl (fun fy2 _ H locs hp w => ?_)
    have pq3 : fy2 = wrdZ x0 := hp
    have w : WD D A s.heap [(a0, .inr (11, [.int r0, .ref a1, .int (iI x1), .int (iI x2), .int (iI x3), .int (iI x4), .int (iI x5), .int (iI x6), .int r1, .int (iI x7), .int (iI x8), .int (iI x9), .long y0, .int (iI x10), .ref a2, .ref a3, .ref a4, .ref a5, .ref a6, .ref a7, .ref a8, .ref a9, .ref a10, .ref a11, .int (iI x11), .ref a12, .ref a13, .ref a14, .ref a15, .int (iI x12), .int r2, .int r3, .ref a16, .int (iI x13), .int (iI x14), .ref a17, .ref a18, .int (iI x15), .ref a19, .int (iI x16), .int r4, .ref a20, .ref a21, .int (iI x17), .int r5, .ref a22, .int (iI x18), .int (iI x19), .int (iI x20), .int (iI x21)]))] H locs := w
    refine r_lcmp (v := lg_cmp y0 fy2) M rfl dX12_isWord_16 ?_
    refine lv_if_ne (tgt := 24) hx hb dX12_isWord_17 (by decide) (fun c_4 => ?_) (fun c_4 => ?_)
    · refine lv_iconst (v := iI 0) hx hb dX12_isWord_24 (by decide +kernel) ?_
      exact ret _ 0 _ _ _ _ _ [0] dX12_isWord_25 (by decide +kernel) ⟨rfl, (show (0 : Int) ≤ 0 from by decide), (show (0 : Int) ≤ 1 from by decide), (show wdQ 0 x6 y0 (wrdZ x0) from (Or.inr ⟨rfl, fun e => c_4 ((lg_cmp_eq _ _).mpr (e.2.trans pq3.symm))⟩))⟩ w (by decide) rfl
    · refine lv_iconst (v := iI 1) hx hb dX12_isWord_20 (by decide +kernel) ?_
      refine lv_goto (tgt := 25) hx hb dX12_isWord_21 (by decide) ?_
      exact ret _ 1 _ _ _ _ _ [0] dX12_isWord_25 (by decide +kernel) ⟨rfl, (show (0 : Int) ≤ 1 from by decide), (show (1 : Int) ≤ 1 from by decide), (show wdQ 1 x6 y0 (wrdZ x0) from (Or.inl ⟨rfl, by omega, ((lg_cmp_eq _ _).mp c_4).trans pq3⟩))⟩ w (by decide) rfl
set_option maxRecDepth 100000 in
set_option maxHeartbeats 4000000 in
theorem c43_X12_isSign (l : Launch) (D : va_G) (T : Nat → ClassId) (sz : Nat) (a0 : Nat) (x0 : Int) (r0 : Int32) (a1 : Nat) (x1 : Int) (x2 : Int) (x3 : Int) (x4 : Int) (x5 : Int) (x6 : Int) (r1 : Int32) (x7 : Int) (x8 : Int) (x9 : Int) (y0 : Int64) (x10 : Int) (a2 : Nat) (a3 : Nat) (a4 : Nat) (a5 : Nat) (a6 : Nat) (a7 : Nat) (a8 : Nat) (a9 : Nat) (a10 : Nat) (a11 : Nat) (x11 : Int) (a12 : Nat) (a13 : Nat) (a14 : Nat) (a15 : Nat) (x12 : Int) (r2 : Int32) (r3 : Int32) (a16 : Nat) (x13 : Int) (x14 : Int) (a17 : Nat) (a18 : Nat) (x15 : Int) (a19 : Nat) (x16 : Int) (r4 : Int32) (a20 : Nat) (a21 : Nat) (x17 : Int) (r5 : Int32) (a22 : Nat) (x18 : Int) (x19 : Int) (x20 : Int) (x21 : Int) (x0_a : (-2147483648) ≤ x0) (x0_b : x0 ≤ 2147483647) (x1_a : 0 ≤ x1) (x1_b : x1 ≤ 940) (x2_a : 0 ≤ x2) (x2_b : x2 ≤ 940) (x3_a : 0 ≤ x3) (x3_b : x3 ≤ 940) (x4_a : 0 ≤ x4) (x4_b : x4 ≤ 940) (x5_a : 0 ≤ x5) (x5_b : x5 ≤ 940) (x6_a : 0 ≤ x6) (x6_b : x6 ≤ 4) (x7_a : (-2147483648) ≤ x7) (x7_b : x7 ≤ 2147483647) (x8_a : (-2147483648) ≤ x8) (x8_b : x8 ≤ 2147483647) (x9_a : 0 ≤ x9) (x9_b : x9 ≤ 940) (x10_a : (-2147483648) ≤ x10) (x10_b : x10 ≤ 2147483647) (x11_a : 0 ≤ x11) (x11_b : x11 ≤ 8) (x12_a : 0 ≤ x12) (x12_b : x12 ≤ 9) (x13_a : (-1) ≤ x13) (x13_b : x13 ≤ 9) (x14_a : (-1) ≤ x14) (x14_b : x14 ≤ 8) (x15_a : 0 ≤ x15) (x15_b : x15 ≤ 9) (x16_a : 0 ≤ x16) (x16_b : x16 ≤ 64) (x17_a : 0 ≤ x17) (x17_b : x17 ≤ 40) (x18_a : 0 ≤ x18) (x18_b : x18 ≤ 40) (x19_a : 0 ≤ x19) (x19_b : x19 ≤ 20) (x20_a : 0 ≤ x20) (x20_b : x20 ≤ 8) (x21_a : 0 ≤ x21) (x21_b : x21 ≤ 39) : Met l yX12_isSign (Cond.code yX12_isSign cX12_isSign 2 (some .boolean) :: GW) (Rm 0 0 0) (cPre [.ref a0, .int (iI x0)] D T [(a0, .inr (11, [.int r0, .ref a1, .int (iI x1), .int (iI x2), .int (iI x3), .int (iI x4), .int (iI x5), .int (iI x6), .int r1, .int (iI x7), .int (iI x8), .int (iI x9), .long y0, .int (iI x10), .ref a2, .ref a3, .ref a4, .ref a5, .ref a6, .ref a7, .ref a8, .ref a9, .ref a10, .ref a11, .int (iI x11), .ref a12, .ref a13, .ref a14, .ref a15, .int (iI x12), .int r2, .int r3, .ref a16, .int (iI x13), .int (iI x14), .ref a17, .ref a18, .int (iI x15), .ref a19, .int (iI x16), .int r4, .ref a20, .ref a21, .int (iI x17), .int r5, .ref a22, .int (iI x18), .int (iI x19), .int (iI x20), .int (iI x21)]))] sz) (qI D [(a0, .inr (11, [.int r0, .ref a1, .int (iI x1), .int (iI x2), .int (iI x3), .int (iI x4), .int (iI x5), .int (iI x6), .int r1, .int (iI x7), .int (iI x8), .int (iI x9), .long y0, .int (iI x10), .ref a2, .ref a3, .ref a4, .ref a5, .ref a6, .ref a7, .ref a8, .ref a9, .ref a10, .ref a11, .int (iI x11), .ref a12, .ref a13, .ref a14, .ref a15, .int (iI x12), .int r2, .int r3, .ref a16, .int (iI x13), .int (iI x14), .ref a17, .ref a18, .int (iI x15), .ref a19, .int (iI x16), .int r4, .ref a20, .ref a21, .int (iI x17), .int r5, .ref a22, .int (iI x18), .int (iI x19), .int (iI x20), .int (iI x21)]))] sz (fun (v : Int32) (u : Int) => iI u = v ∧ 0 ≤ u ∧ u ≤ 1 ∧ 0 ≤ (x6 - (u * 4)) ∧ (sgQ u x6 x7 x0)) (fun u => [(a0, .inr (11, [.int r0, .ref a1, .int (iI x1), .int (iI x2), .int (iI x3), .int (iI x4), .int (iI x5), .int (iI x6), .int r1, .int (iI x7), .int (iI x8), .int (iI x9), .long y0, .int (iI x10), .ref a2, .ref a3, .ref a4, .ref a5, .ref a6, .ref a7, .ref a8, .ref a9, .ref a10, .ref a11, .int (iI x11), .ref a12, .ref a13, .ref a14, .ref a15, .int (iI x12), .int r2, .int r3, .ref a16, .int (iI x13), .int (iI x14), .ref a17, .ref a18, .int (iI x15), .ref a19, .int (iI x16), .int r4, .ref a20, .ref a21, .int (iI x17), .int r5, .ref a22, .int (iI x18), .int (iI x19), .int (iI x20), .int (iI x21)]))])) 0 0 (va_A [(a0, .inr (11, [.int r0, .ref a1, .int (iI x1), .int (iI x2), .int (iI x3), .int (iI x4), .int (iI x5), .int (iI x6), .int r1, .int (iI x7), .int (iI x8), .int (iI x9), .long y0, .int (iI x10), .ref a2, .ref a3, .ref a4, .ref a5, .ref a6, .ref a7, .ref a8, .ref a9, .ref a10, .ref a11, .int (iI x11), .ref a12, .ref a13, .ref a14, .ref a15, .int (iI x12), .int r2, .int r3, .ref a16, .int (iI x13), .int (iI x14), .ref a17, .ref a18, .int (iI x15), .ref a19, .int (iI x16), .int r4, .ref a20, .ref a21, .int (iI x17), .int r5, .ref a22, .int (iI x18), .int (iI x19), .int (iI x20), .int (iI x21)]))] sz) := by
  refine e_Z (by decide) (Nat.le_of_ble_eq_true rfl) ?_
  intro p e s m args below meth c A Q ls M hin w ret hl
  have hx := M.1.1
  have hb := M.1.2.1
  have hl : lv_has ls 2 [(0, .ref a0), (1, .int (iI x0))] := hl
  refine lv_aload_n hx hb dX12_isSign_0 rfl (lv_at hl 0 rfl) ?_
  refine r_get (v := .int (iI x6)) M w 0 7 clX12 rfl (by decide) G1470 rfl rfl dX12_isSign_1 ?_
  refine lv_iconst (v := iI 4) hx hb dX12_isSign_4 (by decide +kernel) ?_
  refine lv_icmp_ne (tgt := 20) hx hb dX12_isSign_5 (by decide) (fun c_1 => ?_) (fun c_1 => ?_)
  · replace c_1 : ¬ x6 = 4 := fun h => c_1 ((iI_eq (Int.le_trans (by decide) x6_a) (Int.le_trans x6_b (by decide)) (by decide) (by decide)).mpr h)
    refine lv_iconst (v := iI 0) hx hb dX12_isSign_20 (by decide +kernel) ?_
    exact ret _ 0 _ _ _ _ _ [0] dX12_isSign_21 (by decide +kernel) ⟨rfl, (show (0 : Int) ≤ 0 from by decide), (show (0 : Int) ≤ 1 from by decide), (show 0 ≤ (x6 - (0 * 4)) from by omega), (show sgQ 0 x6 x7 x0 from (by unfold sgQ; omega))⟩ w (by decide) rfl
  · replace c_1 := (iI_eq (Int.le_trans (by decide) x6_a) (Int.le_trans x6_b (by decide)) (by decide) (by decide)).mp c_1
    refine lv_aload_n hx hb dX12_isSign_8 rfl (lv_at hl 0 rfl) ?_
    refine r_get (v := .int (iI x7)) M w 0 9 clX12 rfl (by decide) G1472 rfl rfl dX12_isSign_9 ?_
    refine lv_iload_n hx hb dX12_isSign_12 rfl (lv_at hl 1 rfl) ?_
    refine lv_icmp_ne (tgt := 20) hx hb dX12_isSign_13 (by decide) (fun c_2 => ?_) (fun c_2 => ?_)
    · replace c_2 : ¬ x7 = x0 := fun h => c_2 ((iI_eq (Int.le_trans (by decide) x7_a) (Int.le_trans x7_b (by decide)) (Int.le_trans (by decide) x0_a) (Int.le_trans x0_b (by decide))).mpr h)
      refine lv_iconst (v := iI 0) hx hb dX12_isSign_20 (by decide +kernel) ?_
      exact ret _ 0 _ _ _ _ _ [0] dX12_isSign_21 (by decide +kernel) ⟨rfl, (show (0 : Int) ≤ 0 from by decide), (show (0 : Int) ≤ 1 from by decide), (show 0 ≤ (x6 - (0 * 4)) from by omega), (show sgQ 0 x6 x7 x0 from (by unfold sgQ; omega))⟩ w (by decide) rfl
    · replace c_2 := (iI_eq (Int.le_trans (by decide) x7_a) (Int.le_trans x7_b (by decide)) (Int.le_trans (by decide) x0_a) (Int.le_trans x0_b (by decide))).mp c_2
      refine lv_iconst (v := iI 1) hx hb dX12_isSign_16 (by decide +kernel) ?_
      refine lv_goto (tgt := 21) hx hb dX12_isSign_17 (by decide) ?_
      exact ret _ 1 _ _ _ _ _ [0] dX12_isSign_21 (by decide +kernel) ⟨rfl, (show (0 : Int) ≤ 1 from by decide), (show (1 : Int) ≤ 1 from by decide), (show 0 ≤ (x6 - (1 * 4)) from by omega), (show sgQ 1 x6 x7 x0 from (by unfold sgQ; omega))⟩ w (by decide) rfl
set_option maxRecDepth 100000 in
set_option maxHeartbeats 4000000 in
theorem c44_X12_isName (l : Launch) (D : va_G) (T : Nat → ClassId) (sz : Nat) (a0 : Nat) (r0 : Int32) (a1 : Nat) (x0 : Int) (x1 : Int) (x2 : Int) (x3 : Int) (x4 : Int) (x5 : Int) (r1 : Int32) (x6 : Int) (x7 : Int) (x8 : Int) (y0 : Int64) (x9 : Int) (a2 : Nat) (a3 : Nat) (a4 : Nat) (a5 : Nat) (a6 : Nat) (a7 : Nat) (a8 : Nat) (a9 : Nat) (a10 : Nat) (a11 : Nat) (x10 : Int) (a12 : Nat) (a13 : Nat) (a14 : Nat) (a15 : Nat) (x11 : Int) (r2 : Int32) (r3 : Int32) (a16 : Nat) (x12 : Int) (x13 : Int) (a17 : Nat) (a18 : Nat) (x14 : Int) (a19 : Nat) (x15 : Int) (r4 : Int32) (a20 : Nat) (a21 : Nat) (x16 : Int) (r5 : Int32) (a22 : Nat) (x17 : Int) (x18 : Int) (x19 : Int) (x20 : Int) (x0_a : 0 ≤ x0) (x0_b : x0 ≤ 940) (x1_a : 0 ≤ x1) (x1_b : x1 ≤ 940) (x2_a : 0 ≤ x2) (x2_b : x2 ≤ 940) (x3_a : 0 ≤ x3) (x3_b : x3 ≤ 940) (x4_a : 0 ≤ x4) (x4_b : x4 ≤ 940) (x5_a : 0 ≤ x5) (x5_b : x5 ≤ 4) (x6_a : (-2147483648) ≤ x6) (x6_b : x6 ≤ 2147483647) (x7_a : (-2147483648) ≤ x7) (x7_b : x7 ≤ 2147483647) (x8_a : 0 ≤ x8) (x8_b : x8 ≤ 940) (x9_a : (-2147483648) ≤ x9) (x9_b : x9 ≤ 2147483647) (x10_a : 0 ≤ x10) (x10_b : x10 ≤ 8) (x11_a : 0 ≤ x11) (x11_b : x11 ≤ 9) (x12_a : (-1) ≤ x12) (x12_b : x12 ≤ 9) (x13_a : (-1) ≤ x13) (x13_b : x13 ≤ 8) (x14_a : 0 ≤ x14) (x14_b : x14 ≤ 9) (x15_a : 0 ≤ x15) (x15_b : x15 ≤ 64) (x16_a : 0 ≤ x16) (x16_b : x16 ≤ 40) (x17_a : 0 ≤ x17) (x17_b : x17 ≤ 40) (x18_a : 0 ≤ x18) (x18_b : x18 ≤ 20) (x19_a : 0 ≤ x19) (x19_b : x19 ≤ 8) (x20_a : 0 ≤ x20) (x20_b : x20 ≤ 39) : Met l yX12_isName (Cond.code yX12_isName cX12_isName 2 (some .boolean) :: GW) (Rm 2 0 0) (cPre [.ref a0] D T [(a0, .inr (11, [.int r0, .ref a1, .int (iI x0), .int (iI x1), .int (iI x2), .int (iI x3), .int (iI x4), .int (iI x5), .int r1, .int (iI x6), .int (iI x7), .int (iI x8), .long y0, .int (iI x9), .ref a2, .ref a3, .ref a4, .ref a5, .ref a6, .ref a7, .ref a8, .ref a9, .ref a10, .ref a11, .int (iI x10), .ref a12, .ref a13, .ref a14, .ref a15, .int (iI x11), .int r2, .int r3, .ref a16, .int (iI x12), .int (iI x13), .ref a17, .ref a18, .int (iI x14), .ref a19, .int (iI x15), .int r4, .ref a20, .ref a21, .int (iI x16), .int r5, .ref a22, .int (iI x17), .int (iI x18), .int (iI x19), .int (iI x20)]))] sz) (qI D [(a0, .inr (11, [.int r0, .ref a1, .int (iI x0), .int (iI x1), .int (iI x2), .int (iI x3), .int (iI x4), .int (iI x5), .int r1, .int (iI x6), .int (iI x7), .int (iI x8), .long y0, .int (iI x9), .ref a2, .ref a3, .ref a4, .ref a5, .ref a6, .ref a7, .ref a8, .ref a9, .ref a10, .ref a11, .int (iI x10), .ref a12, .ref a13, .ref a14, .ref a15, .int (iI x11), .int r2, .int r3, .ref a16, .int (iI x12), .int (iI x13), .ref a17, .ref a18, .int (iI x14), .ref a19, .int (iI x15), .int r4, .ref a20, .ref a21, .int (iI x16), .int r5, .ref a22, .int (iI x17), .int (iI x18), .int (iI x19), .int (iI x20)]))] sz (fun (v : Int32) (u : Int) => iI u = v ∧ 0 ≤ u ∧ u ≤ 1 ∧ (nmQ u x5 y0)) (fun u => [(a0, .inr (11, [.int r0, .ref a1, .int (iI x0), .int (iI x1), .int (iI x2), .int (iI x3), .int (iI x4), .int (iI x5), .int r1, .int (iI x6), .int (iI x7), .int (iI x8), .long y0, .int (iI x9), .ref a2, .ref a3, .ref a4, .ref a5, .ref a6, .ref a7, .ref a8, .ref a9, .ref a10, .ref a11, .int (iI x10), .ref a12, .ref a13, .ref a14, .ref a15, .int (iI x11), .int r2, .int r3, .ref a16, .int (iI x12), .int (iI x13), .ref a17, .ref a18, .int (iI x14), .ref a19, .int (iI x15), .int r4, .ref a20, .ref a21, .int (iI x16), .int r5, .ref a22, .int (iI x17), .int (iI x18), .int (iI x19), .int (iI x20)]))])) 0 0 (va_A [(a0, .inr (11, [.int r0, .ref a1, .int (iI x0), .int (iI x1), .int (iI x2), .int (iI x3), .int (iI x4), .int (iI x5), .int r1, .int (iI x6), .int (iI x7), .int (iI x8), .long y0, .int (iI x9), .ref a2, .ref a3, .ref a4, .ref a5, .ref a6, .ref a7, .ref a8, .ref a9, .ref a10, .ref a11, .int (iI x10), .ref a12, .ref a13, .ref a14, .ref a15, .int (iI x11), .int r2, .int r3, .ref a16, .int (iI x12), .int (iI x13), .ref a17, .ref a18, .int (iI x14), .ref a19, .int (iI x15), .int r4, .ref a20, .ref a21, .int (iI x16), .int r5, .ref a22, .int (iI x17), .int (iI x18), .int (iI x19), .int (iI x20)]))] sz) := by
  refine e_Z (by decide) (Nat.le_of_ble_eq_true rfl) ?_
  intro p e s m args below meth c A Q ls M hin w ret hl
  have hx := M.1.1
  have hb := M.1.2.1
  have hl : lv_has ls 2 [(0, .ref a0)] := hl
  refine lv_aload_n hx hb dX12_isName_0 rfl (lv_at hl 0 rfl) ?_
  refine r_get (v := .int (iI x5)) M w 0 7 clX12 rfl (by decide) G1470 rfl rfl dX12_isName_1 ?_
  refine lv_iconst (v := iI 2) hx hb dX12_isName_4 (by decide +kernel) ?_
  refine lv_icmp_eq (tgt := 10) hx hb dX12_isName_5 (by decide) (fun c_1 => ?_) (fun c_1 => ?_)
  · replace c_1 := (iI_eq (Int.le_trans (by decide) x5_a) (Int.le_trans x5_b (by decide)) (by decide) (by decide)).mp c_1
    refine lv_iconst (v := iI 0) hx hb dX12_isName_10 (by decide +kernel) ?_
    refine lv_istore_n (lv' := [(1, .int (iI 0)), (0, .ref a0)]) hx hb dX12_isName_11 rfl hl (by decide) rfl (fun ls hl => ?_)
    have loop1 : ∀ (k1 : Nat) (z2 : Int) (H : Heap) (locs : List Loc) (ls : Array Slot), 0 ≤ z2 → z2 ≤ 27 → (∀ j : Nat, (j : Int) < z2 → y0 ≠ wrd j) → ((27 - z2) : Int).toNat < k1 → WD D A s.heap [(a0, .inr (11, [.int r0, .ref a1, .int (iI x0), .int (iI x1), .int (iI x2), .int (iI x3), .int (iI x4), .int (iI x5), .int r1, .int (iI x6), .int (iI x7), .int (iI x8), .long y0, .int (iI x9), .ref a2, .ref a3, .ref a4, .ref a5, .ref a6, .ref a7, .ref a8, .ref a9, .ref a10, .ref a11, .int (iI x10), .ref a12, .ref a13, .ref a14, .ref a15, .int (iI x11), .int r2, .int r3, .ref a16, .int (iI x12), .int (iI x13), .ref a17, .ref a18, .int (iI x14), .ref a19, .int (iI x15), .int r4, .ref a20, .ref a21, .int (iI x16), .int r5, .ref a22, .int (iI x17), .int (iI x18), .int (iI x19), .int (iI x20)]))] H locs → lv_has ls 2 [(1, .int (iI z2)), (0, .ref a0)] → W p l e (Rm 2 0 0) s m args below meth c H locs 0 0 Q (F0 m 12 ls []) := by
      intro k1
      induction k1 with
      | zero => intro z2 H locs ls z2_a z2_b lq1_n hm; exact absurd hm (Nat.not_lt_zero _)
      | succ k1 ih1 =>
        intro z2 H locs ls z2_a z2_b lq1_n hm1 w hl
        refine lv_iload_n hx hb dX12_isName_12 rfl (lv_at hl 0 rfl) ?_
        refine lv_bipush (v := iI 26) hx hb dX12_isName_13 (by decide +kernel) ?_
        refine lv_icmp_gt (tgt := 38) hx hb dX12_isName_15 (by decide) (fun c_3 => ?_) (fun c_3 => ?_)
        · replace c_3 := (iI_lt (by decide) (by decide) (Int.le_trans (by decide) z2_a) (Int.le_trans z2_b (by decide))).mp c_3
          refine lv_iconst (v := iI 1) hx hb dX12_isName_38 (by decide +kernel) ?_
          exact ret _ 1 _ _ _ _ _ [0] dX12_isName_39 (by decide +kernel) ⟨rfl, (show (0 : Int) ≤ 1 from by decide), (show (1 : Int) ≤ 1 from by decide), (show nmQ 1 x5 y0 from (Or.inl ⟨rfl, by omega, fun k hk => lq1_n k (by omega)⟩))⟩ w (by decide) rfl
        · replace c_3 : z2 ≤ 26 := Int.not_lt.mp (fun h => c_3 ((iI_lt (by decide) (by decide) (Int.le_trans (by decide) z2_a) (Int.le_trans z2_b (by decide))).mpr h))
          refine lv_aload_n hx hb dX12_isName_18 rfl (lv_at hl 1 rfl) ?_
          refine r_get (v := .long y0) M w 0 12 clX12 rfl (by decide) G1475 rfl rfl dX12_isName_19 ?_
          refine lv_iload_n hx hb dX12_isName_22 rfl (lv_at hl 0 rfl) ?_
          refine k_L (ce := 0) (sl := 0) (rest := [.long y0]) (wr := [(a0, .inr (11, [.int r0, .ref a1, .int (iI x0), .int (iI x1), .int (iI x2), .int (iI x3), .int (iI x4), .int (iI x5), .int r1, .int (iI x6), .int (iI x7), .int (iI x8), .long y0, .int (iI x9), .ref a2, .ref a3, .ref a4, .ref a5, .ref a6, .ref a7, .ref a8, .ref a9, .ref a10, .ref a11, .int (iI x10), .ref a12, .ref a13, .ref a14, .ref a15, .int (iI x11), .int r2, .int r3, .ref a16, .int (iI x12), .int (iI x13), .ref a17, .ref a18, .int (iI x14), .ref a19, .int (iI x15), .int r4, .ref a20, .ref a21, .int (iI x16), .int r5, .ref a22, .int (iI x17), .int (iI x18), .int (iI x19), .int (iI x20)]))]) (r_S (f := 1) [] M w V_HookedCityModel_62 G1652 (c41_X12_wordOf l D T _ z2 (by omega) (by omega)) rfl (by decide) rfl hl.1 rfl (Nat.le_of_ble_eq_true rfl) dX12_isName_23 (by decide) (by decide) (by decide) (by decide)) w [] [0] rfl rfl (by decide) (by decide) rfl rfl (fun fy4 _ H locs hp w => ?_)
          have pq5 : fy4 = wrdZ z2 := hp
          have w : WD D A s.heap [(a0, .inr (11, [.int r0, .ref a1, .int (iI x0), .int (iI x1), .int (iI x2), .int (iI x3), .int (iI x4), .int (iI x5), .int r1, .int (iI x6), .int (iI x7), .int (iI x8), .long y0, .int (iI x9), .ref a2, .ref a3, .ref a4, .ref a5, .ref a6, .ref a7, .ref a8, .ref a9, .ref a10, .ref a11, .int (iI x10), .ref a12, .ref a13, .ref a14, .ref a15, .int (iI x11), .int r2, .int r3, .ref a16, .int (iI x12), .int (iI x13), .ref a17, .ref a18, .int (iI x14), .ref a19, .int (iI x15), .int r4, .ref a20, .ref a21, .int (iI x16), .int r5, .ref a22, .int (iI x17), .int (iI x18), .int (iI x19), .int (iI x20)]))] H locs := w
          refine r_lcmp (v := lg_cmp y0 fy4) M rfl dX12_isName_26 ?_
          refine lv_if_ne (tgt := 32) hx hb dX12_isName_27 (by decide) (fun c_6 => ?_) (fun c_6 => ?_)
          · refine lv_iinc (v := iI (z2 + 1)) (lv' := [(1, .int (iI (z2 + 1))), (0, .ref a0)]) hx hb dX12_isName_32 hl (k := 0) rfl (ii_inc (by decide +kernel)) (by decide) rfl (fun ls hl => ?_)
            refine lv_goto (tgt := 12) hx hb dX12_isName_35 (by decide) ?_
            exact ih1 (z2 + 1) _ _ _ (by omega) (by omega) (nm_l lq1_n (by omega) c_6 pq5) (by omega) w (lv_sub hl [0, 1] rfl)
          · refine lv_iconst (v := iI 0) hx hb dX12_isName_30 (by decide +kernel) ?_
            exact ret _ 0 _ _ _ _ _ [0] dX12_isName_31 (by decide +kernel) ⟨rfl, (show (0 : Int) ≤ 0 from by decide), (show (0 : Int) ≤ 1 from by decide), (show nmQ 0 x5 y0 from (Or.inr ⟨rfl, fun e => nm_h (by omega) (by omega) c_6 pq5 e.2⟩))⟩ w (by decide) rfl
    exact loop1 ((27 : Int).toNat + 1) 0 _ _ _ (by decide) (by decide) (fun j hj => absurd hj (by omega)) (Nat.lt_succ_self _) w (lv_sub hl [0, 1] rfl)
  · replace c_1 : ¬ x5 = 2 := fun h => c_1 ((iI_eq (Int.le_trans (by decide) x5_a) (Int.le_trans x5_b (by decide)) (by decide) (by decide)).mpr h)
    refine lv_iconst (v := iI 0) hx hb dX12_isName_8 (by decide +kernel) ?_
    exact ret _ 0 _ _ _ _ _ [0] dX12_isName_9 (by decide +kernel) ⟨rfl, (show (0 : Int) ≤ 0 from by decide), (show (0 : Int) ≤ 1 from by decide), (show nmQ 0 x5 y0 from (Or.inr ⟨rfl, fun e => absurd e.1 (by omega)⟩))⟩ w (by decide) rfl
set_option maxRecDepth 100000 in
set_option maxHeartbeats 4000000 in
theorem c45_X12_bad (l : Launch) (D : va_G) (T : Nat → ClassId) (sz : Nat) (a0 : Nat) (x0 : Int) (r0 : Int32) (a1 : Nat) (x1 : Int) (x2 : Int) (x3 : Int) (x4 : Int) (x5 : Int) (x6 : Int) (r1 : Int32) (x7 : Int) (x8 : Int) (x9 : Int) (y0 : Int64) (x10 : Int) (a2 : Nat) (a3 : Nat) (a4 : Nat) (a5 : Nat) (a6 : Nat) (a7 : Nat) (a8 : Nat) (a9 : Nat) (a10 : Nat) (a11 : Nat) (x11 : Int) (a12 : Nat) (a13 : Nat) (a14 : Nat) (a15 : Nat) (x12 : Int) (r2 : Int32) (r3 : Int32) (a16 : Nat) (x13 : Int) (x14 : Int) (a17 : Nat) (a18 : Nat) (x15 : Int) (a19 : Nat) (x16 : Int) (r4 : Int32) (a20 : Nat) (a21 : Nat) (x17 : Int) (r5 : Int32) (a22 : Nat) (x18 : Int) (x19 : Int) (x20 : Int) (x21 : Int) (x0_a : (-2147483648) ≤ x0) (x0_b : x0 ≤ 2147483647) (x1_a : 0 ≤ x1) (x1_b : x1 ≤ 940) (x2_a : 0 ≤ x2) (x2_b : x2 ≤ 940) (x3_a : 0 ≤ x3) (x3_b : x3 ≤ 940) (x4_a : 0 ≤ x4) (x4_b : x4 ≤ 940) (x5_a : 0 ≤ x5) (x5_b : x5 ≤ 940) (x6_a : 0 ≤ x6) (x6_b : x6 ≤ 4) (x7_a : (-2147483648) ≤ x7) (x7_b : x7 ≤ 2147483647) (x8_a : (-2147483648) ≤ x8) (x8_b : x8 ≤ 2147483647) (x9_a : 0 ≤ x9) (x9_b : x9 ≤ 940) (x10_a : (-2147483648) ≤ x10) (x10_b : x10 ≤ 2147483647) (x11_a : 0 ≤ x11) (x11_b : x11 ≤ 8) (x12_a : 0 ≤ x12) (x12_b : x12 ≤ 9) (x13_a : (-1) ≤ x13) (x13_b : x13 ≤ 9) (x14_a : (-1) ≤ x14) (x14_b : x14 ≤ 8) (x15_a : 0 ≤ x15) (x15_b : x15 ≤ 9) (x16_a : 0 ≤ x16) (x16_b : x16 ≤ 64) (x17_a : 0 ≤ x17) (x17_b : x17 ≤ 40) (x18_a : 0 ≤ x18) (x18_b : x18 ≤ 40) (x19_a : 0 ≤ x19) (x19_b : x19 ≤ 20) (x20_a : 0 ≤ x20) (x20_b : x20 ≤ 8) (x21_a : 0 ≤ x21) (x21_b : x21 ≤ 39) : Met l yX12_bad (Cond.code yX12_bad cX12_bad 2 (some .boolean) :: GW) (Rm 0 0 0) (cPre [.ref a0, .int (iI x0)] D T [(a0, .inr (11, [.int r0, .ref a1, .int (iI x1), .int (iI x2), .int (iI x3), .int (iI x4), .int (iI x5), .int (iI x6), .int r1, .int (iI x7), .int (iI x8), .int (iI x9), .long y0, .int (iI x10), .ref a2, .ref a3, .ref a4, .ref a5, .ref a6, .ref a7, .ref a8, .ref a9, .ref a10, .ref a11, .int (iI x11), .ref a12, .ref a13, .ref a14, .ref a15, .int (iI x12), .int r2, .int r3, .ref a16, .int (iI x13), .int (iI x14), .ref a17, .ref a18, .int (iI x15), .ref a19, .int (iI x16), .int r4, .ref a20, .ref a21, .int (iI x17), .int r5, .ref a22, .int (iI x18), .int (iI x19), .int (iI x20), .int (iI x21)]))] sz) (qI D [(a0, .inr (11, [.int r0, .ref a1, .int (iI x1), .int (iI x2), .int (iI x3), .int (iI x4), .int (iI x5), .int (iI x6), .int r1, .int (iI x7), .int (iI x8), .int (iI x9), .long y0, .int (iI x10), .ref a2, .ref a3, .ref a4, .ref a5, .ref a6, .ref a7, .ref a8, .ref a9, .ref a10, .ref a11, .int (iI x11), .ref a12, .ref a13, .ref a14, .ref a15, .int (iI x12), .int r2, .int r3, .ref a16, .int (iI x13), .int (iI x14), .ref a17, .ref a18, .int (iI x15), .ref a19, .int (iI x16), .int r4, .ref a20, .ref a21, .int (iI x17), .int r5, .ref a22, .int (iI x18), .int (iI x19), .int (iI x20), .int (iI x21)]))] sz (fun (v : Int32) (u : Int × Int × Int) => iI u.1 = v ∧ 0 ≤ u.1 ∧ u.1 ≤ 1 ∧ (-2147483648) ≤ u.2.1 ∧ u.2.1 ≤ 2147483647 ∧ 0 ≤ u.2.2 ∧ u.2.2 ≤ 940 ∧ (baQ x6 x0 u.2.1) ∧ (u.2.2 = x5) ∧ ((u.1 = 0))) (fun u => [(a0, .inr (11, [.int r0, .ref a1, .int (iI x1), .int (iI x2), .int (iI x3), .int (iI x4), .int (iI x5), .int (iI x6), .int r1, .int (iI x7), .int (iI u.2.1), .int (iI u.2.2), .long y0, .int (iI x10), .ref a2, .ref a3, .ref a4, .ref a5, .ref a6, .ref a7, .ref a8, .ref a9, .ref a10, .ref a11, .int (iI x11), .ref a12, .ref a13, .ref a14, .ref a15, .int (iI x12), .int r2, .int r3, .ref a16, .int (iI x13), .int (iI x14), .ref a17, .ref a18, .int (iI x15), .ref a19, .int (iI x16), .int r4, .ref a20, .ref a21, .int (iI x17), .int r5, .ref a22, .int (iI x18), .int (iI x19), .int (iI x20), .int (iI x21)]))])) 0 0 (va_A [(a0, .inr (11, [.int r0, .ref a1, .int (iI x1), .int (iI x2), .int (iI x3), .int (iI x4), .int (iI x5), .int (iI x6), .int r1, .int (iI x7), .int (iI x8), .int (iI x9), .long y0, .int (iI x10), .ref a2, .ref a3, .ref a4, .ref a5, .ref a6, .ref a7, .ref a8, .ref a9, .ref a10, .ref a11, .int (iI x11), .ref a12, .ref a13, .ref a14, .ref a15, .int (iI x12), .int r2, .int r3, .ref a16, .int (iI x13), .int (iI x14), .ref a17, .ref a18, .int (iI x15), .ref a19, .int (iI x16), .int r4, .ref a20, .ref a21, .int (iI x17), .int r5, .ref a22, .int (iI x18), .int (iI x19), .int (iI x20), .int (iI x21)]))] sz) := by
  refine e_Z (by decide) (Nat.le_of_ble_eq_true rfl) ?_
  intro p e s m args below meth c A Q ls M hin w ret hl
  have hx := M.1.1
  have hb := M.1.2.1
  have hl : lv_has ls 2 [(0, .ref a0), (1, .int (iI x0))] := hl
  refine lv_aload_n hx hb dX12_bad_0 rfl (lv_at hl 0 rfl) ?_
  refine lv_aload_n hx hb dX12_bad_1 rfl (lv_at hl 0 rfl) ?_
  refine r_get (v := .int (iI x6)) M w 0 7 clX12 rfl (by decide) G1470 rfl rfl dX12_bad_2 ?_
  refine lv_iconst (v := iI 1) hx hb dX12_bad_5 (by decide +kernel) ?_
  refine lv_icmp_ne (tgt := 13) hx hb dX12_bad_6 (by decide) (fun c_1 => ?_) (fun c_1 => ?_)
  · replace c_1 : ¬ x6 = 1 := fun h => c_1 ((iI_eq (Int.le_trans (by decide) x6_a) (Int.le_trans x6_b (by decide)) (by decide) (by decide)).mpr h)
    refine lv_iload_n hx hb dX12_bad_13 rfl (lv_at hl 1 rfl) ?_
    refine r_put (ws' := [(a0, .inr (11, [.int r0, .ref a1, .int (iI x1), .int (iI x2), .int (iI x3), .int (iI x4), .int (iI x5), .int (iI x6), .int r1, .int (iI x7), .int (iI x0), .int (iI x9), .long y0, .int (iI x10), .ref a2, .ref a3, .ref a4, .ref a5, .ref a6, .ref a7, .ref a8, .ref a9, .ref a10, .ref a11, .int (iI x11), .ref a12, .ref a13, .ref a14, .ref a15, .int (iI x12), .int r2, .int r3, .ref a16, .int (iI x13), .int (iI x14), .ref a17, .ref a18, .int (iI x15), .ref a19, .int (iI x16), .int r4, .ref a20, .ref a21, .int (iI x17), .int r5, .ref a22, .int (iI x18), .int (iI x19), .int (iI x20), .int (iI x21)]))]) M w 0 10 clX12 rfl (by decide) G1473 rfl rfl rfl rfl (Nat.le_of_ble_eq_true rfl) rfl dX12_bad_14 (fun H locs w => ?_)
    refine lv_aload_n hx hb dX12_bad_17 rfl (lv_at hl 0 rfl) ?_
    refine lv_aload_n hx hb dX12_bad_18 rfl (lv_at hl 0 rfl) ?_
    refine r_get (v := .int (iI x5)) M w 0 6 clX12 rfl (by decide) G1469 rfl rfl dX12_bad_19 ?_
    refine r_put (ws' := [(a0, .inr (11, [.int r0, .ref a1, .int (iI x1), .int (iI x2), .int (iI x3), .int (iI x4), .int (iI x5), .int (iI x6), .int r1, .int (iI x7), .int (iI x0), .int (iI x5), .long y0, .int (iI x10), .ref a2, .ref a3, .ref a4, .ref a5, .ref a6, .ref a7, .ref a8, .ref a9, .ref a10, .ref a11, .int (iI x11), .ref a12, .ref a13, .ref a14, .ref a15, .int (iI x12), .int r2, .int r3, .ref a16, .int (iI x13), .int (iI x14), .ref a17, .ref a18, .int (iI x15), .ref a19, .int (iI x16), .int r4, .ref a20, .ref a21, .int (iI x17), .int r5, .ref a22, .int (iI x18), .int (iI x19), .int (iI x20), .int (iI x21)]))]) M w 0 11 clX12 rfl (by decide) G1474 rfl rfl rfl rfl (Nat.le_of_ble_eq_true rfl) rfl dX12_bad_22 (fun H locs w => ?_)
    refine lv_iconst (v := iI 0) hx hb dX12_bad_25 (by decide +kernel) ?_
    exact ret _ (0, x0, x5) _ _ _ _ _ [0] dX12_bad_26 (by decide +kernel) ⟨rfl, (show (0 : Int) ≤ 0 from by decide), (show (0 : Int) ≤ 1 from by decide), x0_a, x0_b, x5_a, x5_b, (show baQ x6 x0 x0 from (by unfold baQ; omega)), (show x5 = x5 from (by omega)), rfl⟩ w (by decide) rfl
  · replace c_1 := (iI_eq (Int.le_trans (by decide) x6_a) (Int.le_trans x6_b (by decide)) (by decide) (by decide)).mp c_1
    refine lv_iconst (v := iI 1) hx hb dX12_bad_9 (by decide +kernel) ?_
    refine lv_goto (tgt := 14) hx hb dX12_bad_10 (by decide) ?_
    refine r_put (ws' := [(a0, .inr (11, [.int r0, .ref a1, .int (iI x1), .int (iI x2), .int (iI x3), .int (iI x4), .int (iI x5), .int (iI x6), .int r1, .int (iI x7), .int (iI 1), .int (iI x9), .long y0, .int (iI x10), .ref a2, .ref a3, .ref a4, .ref a5, .ref a6, .ref a7, .ref a8, .ref a9, .ref a10, .ref a11, .int (iI x11), .ref a12, .ref a13, .ref a14, .ref a15, .int (iI x12), .int r2, .int r3, .ref a16, .int (iI x13), .int (iI x14), .ref a17, .ref a18, .int (iI x15), .ref a19, .int (iI x16), .int r4, .ref a20, .ref a21, .int (iI x17), .int r5, .ref a22, .int (iI x18), .int (iI x19), .int (iI x20), .int (iI x21)]))]) M w 0 10 clX12 rfl (by decide) G1473 rfl rfl rfl rfl (Nat.le_of_ble_eq_true rfl) rfl dX12_bad_14 (fun H locs w => ?_)
    refine lv_aload_n hx hb dX12_bad_17 rfl (lv_at hl 0 rfl) ?_
    refine lv_aload_n hx hb dX12_bad_18 rfl (lv_at hl 0 rfl) ?_
    refine r_get (v := .int (iI x5)) M w 0 6 clX12 rfl (by decide) G1469 rfl rfl dX12_bad_19 ?_
    refine r_put (ws' := [(a0, .inr (11, [.int r0, .ref a1, .int (iI x1), .int (iI x2), .int (iI x3), .int (iI x4), .int (iI x5), .int (iI x6), .int r1, .int (iI x7), .int (iI 1), .int (iI x5), .long y0, .int (iI x10), .ref a2, .ref a3, .ref a4, .ref a5, .ref a6, .ref a7, .ref a8, .ref a9, .ref a10, .ref a11, .int (iI x11), .ref a12, .ref a13, .ref a14, .ref a15, .int (iI x12), .int r2, .int r3, .ref a16, .int (iI x13), .int (iI x14), .ref a17, .ref a18, .int (iI x15), .ref a19, .int (iI x16), .int r4, .ref a20, .ref a21, .int (iI x17), .int r5, .ref a22, .int (iI x18), .int (iI x19), .int (iI x20), .int (iI x21)]))]) M w 0 11 clX12 rfl (by decide) G1474 rfl rfl rfl rfl (Nat.le_of_ble_eq_true rfl) rfl dX12_bad_22 (fun H locs w => ?_)
    refine lv_iconst (v := iI 0) hx hb dX12_bad_25 (by decide +kernel) ?_
    exact ret _ (0, 1, x5) _ _ _ _ _ [0] dX12_bad_26 (by decide +kernel) ⟨rfl, (show (0 : Int) ≤ 0 from by decide), (show (0 : Int) ≤ 1 from by decide), (show (-2147483648) ≤ 1 from by decide), (show (1 : Int) ≤ 2147483647 from by decide), x5_a, x5_b, (show baQ x6 x0 1 from (by unfold baQ; omega)), (show x5 = x5 from (by omega)), rfl⟩ w (by decide) rfl
set_option maxRecDepth 100000 in
set_option maxHeartbeats 4000000 in
theorem c46_X12_readNumber (l : Launch) (D : va_G) (T : Nat → ClassId) (sz : Nat) (a0 : Nat) (x0 : Int) (x1 : Int) (r0 : Int32) (a1 : Nat) (x2 : Int) (x3 : Int) (x4 : Int) (x5 : Int) (x6 : Int) (x7 : Int) (r1 : Int32) (x8 : Int) (x9 : Int) (x10 : Int) (y0 : Int64) (x11 : Int) (a2 : Nat) (a3 : Nat) (a4 : Nat) (a5 : Nat) (a6 : Nat) (a7 : Nat) (a8 : Nat) (a9 : Nat) (a10 : Nat) (a11 : Nat) (x12 : Int) (a12 : Nat) (a13 : Nat) (a14 : Nat) (a15 : Nat) (x13 : Int) (r2 : Int32) (r3 : Int32) (a16 : Nat) (x14 : Int) (x15 : Int) (a17 : Nat) (a18 : Nat) (x16 : Int) (a19 : Nat) (x17 : Int) (r4 : Int32) (a20 : Nat) (a21 : Nat) (x18 : Int) (r5 : Int32) (a22 : Nat) (x19 : Int) (x20 : Int) (x21 : Int) (x22 : Int) (f0 : Int → Int) (x0_a : (-2147483648) ≤ x0) (x0_b : x0 ≤ 2147483647) (x1_a : (-2147483648) ≤ x1) (x1_b : x1 ≤ 2147483647) (x2_a : 0 ≤ x2) (x2_b : x2 ≤ 940) (x3_a : 0 ≤ x3) (x3_b : x3 ≤ 940) (x4_a : 0 ≤ x4) (x4_b : x4 ≤ 940) (x5_a : 0 ≤ x5) (x5_b : x5 ≤ 940) (x6_a : 0 ≤ x6) (x6_b : x6 ≤ 940) (x7_a : 0 ≤ x7) (x7_b : x7 ≤ 4) (x8_a : (-2147483648) ≤ x8) (x8_b : x8 ≤ 2147483647) (x9_a : (-2147483648) ≤ x9) (x9_b : x9 ≤ 2147483647) (x10_a : 0 ≤ x10) (x10_b : x10 ≤ 940) (x11_a : (-2147483648) ≤ x11) (x11_b : x11 ≤ 2147483647) (x12_a : 0 ≤ x12) (x12_b : x12 ≤ 8) (x13_a : 0 ≤ x13) (x13_b : x13 ≤ 9) (x14_a : (-1) ≤ x14) (x14_b : x14 ≤ 9) (x15_a : (-1) ≤ x15) (x15_b : x15 ≤ 8) (x16_a : 0 ≤ x16) (x16_b : x16 ≤ 9) (x17_a : 0 ≤ x17) (x17_b : x17 ≤ 64) (x18_a : 0 ≤ x18) (x18_b : x18 ≤ 40) (x19_a : 0 ≤ x19) (x19_b : x19 ≤ 40) (x20_a : 0 ≤ x20) (x20_b : x20 ≤ 20) (x21_a : 0 ≤ x21) (x21_b : x21 ≤ 8) (x22_a : 0 ≤ x22) (x22_b : x22 ≤ 39) (f0_h : rng 0 255 f0) : Met l yX12_readNumber (Cond.code yX12_readNumber cX12_readNumber 3 (some .boolean) :: GW) (Rm 2 0 0) (cPre [.ref a0, .int (iI x0), .int (iI x1)] D T [(a0, .inr (11, [.int r0, .ref a1, .int (iI x2), .int (iI x3), .int (iI x4), .int (iI x5), .int (iI x6), .int (iI x7), .int r1, .int (iI x8), .int (iI x9), .int (iI x10), .long y0, .int (iI x11), .ref a2, .ref a3, .ref a4, .ref a5, .ref a6, .ref a7, .ref a8, .ref a9, .ref a10, .ref a11, .int (iI x12), .ref a12, .ref a13, .ref a14, .ref a15, .int (iI x13), .int r2, .int r3, .ref a16, .int (iI x14), .int (iI x15), .ref a17, .ref a18, .int (iI x16), .ref a19, .int (iI x17), .int r4, .ref a20, .ref a21, .int (iI x18), .int r5, .ref a22, .int (iI x19), .int (iI x20), .int (iI x21), .int (iI x22)])), (a1, .inl (T 0, 940, .inl (cI f0)))] sz) (qI D [(a0, .inr (11, [.int r0, .ref a1, .int (iI x2), .int (iI x3), .int (iI x4), .int (iI x5), .int (iI x6), .int (iI x7), .int r1, .int (iI x8), .int (iI x9), .int (iI x10), .long y0, .int (iI x11), .ref a2, .ref a3, .ref a4, .ref a5, .ref a6, .ref a7, .ref a8, .ref a9, .ref a10, .ref a11, .int (iI x12), .ref a12, .ref a13, .ref a14, .ref a15, .int (iI x13), .int r2, .int r3, .ref a16, .int (iI x14), .int (iI x15), .ref a17, .ref a18, .int (iI x16), .ref a19, .int (iI x17), .int r4, .ref a20, .ref a21, .int (iI x18), .int r5, .ref a22, .int (iI x19), .int (iI x20), .int (iI x21), .int (iI x22)])), (a1, .inl (T 0, 940, .inl (cI f0)))] sz (fun (v : Int32) (u : Int × Int × Int × Int × Int32 × Int × Int × Int × Int64 × Int) => iI u.1 = v ∧ 0 ≤ u.1 ∧ u.1 ≤ 1 ∧ 0 ≤ u.2.1 ∧ u.2.1 ≤ 940 ∧ 0 ≤ u.2.2.1 ∧ u.2.2.1 ≤ 940 ∧ 0 ≤ u.2.2.2.1 ∧ u.2.2.2.1 ≤ 4 ∧ (-2147483648) ≤ u.2.2.2.2.2.1 ∧ u.2.2.2.2.2.1 ≤ 2147483647 ∧ (-2147483648) ≤ u.2.2.2.2.2.2.1 ∧ u.2.2.2.2.2.2.1 ≤ 2147483647 ∧ 0 ≤ u.2.2.2.2.2.2.2.1 ∧ u.2.2.2.2.2.2.2.1 ≤ 940 ∧ (-2147483648) ≤ u.2.2.2.2.2.2.2.2.2 ∧ u.2.2.2.2.2.2.2.2.2 ≤ 2147483647 ∧ 0 ≤ (u.2.1 - x5) ∧ 0 ≤ ((((u.2.1 - x5) - u.2.2.2.1) + 4) - u.1) ∧ 0 ≤ (((u.2.2.2.2.2.2.2.2.2 - x0) + 4294967296) - (u.1 * 4294967296)) ∧ 0 ≤ (((x1 - u.2.2.2.2.2.2.2.2.2) + 4294967296) - (u.1 * 4294967296)) ∧ (∀ x : Tk × Int × Int, gT x x7 x6 x5 y0 r1 x8 → RV (sNu x0 x1 x) u.1 u.2.2.2.2.2.2.1 u.2.2.2.2.2.2.2.1 u.2.2.2.2.2.2.2.2.2 ∧ (u.1 = 1 → gT (nx f0 x3 x4 x) u.2.2.2.1 u.2.2.1 u.2.1 u.2.2.2.2.2.2.2.2.1 u.2.2.2.2.1 u.2.2.2.2.2.1)) ∧ (kpB u.1 x9 u.2.2.2.2.2.2.1)) (fun u => [(a0, .inr (11, [.int r0, .ref a1, .int (iI x2), .int (iI x3), .int (iI x4), .int (iI u.2.1), .int (iI u.2.2.1), .int (iI u.2.2.2.1), .int u.2.2.2.2.1, .int (iI u.2.2.2.2.2.1), .int (iI u.2.2.2.2.2.2.1), .int (iI u.2.2.2.2.2.2.2.1), .long u.2.2.2.2.2.2.2.2.1, .int (iI u.2.2.2.2.2.2.2.2.2), .ref a2, .ref a3, .ref a4, .ref a5, .ref a6, .ref a7, .ref a8, .ref a9, .ref a10, .ref a11, .int (iI x12), .ref a12, .ref a13, .ref a14, .ref a15, .int (iI x13), .int r2, .int r3, .ref a16, .int (iI x14), .int (iI x15), .ref a17, .ref a18, .int (iI x16), .ref a19, .int (iI x17), .int r4, .ref a20, .ref a21, .int (iI x18), .int r5, .ref a22, .int (iI x19), .int (iI x20), .int (iI x21), .int (iI x22)])), (a1, .inl (T 0, 940, .inl (cI f0)))])) 0 0 (va_A [(a0, .inr (11, [.int r0, .ref a1, .int (iI x2), .int (iI x3), .int (iI x4), .int (iI x5), .int (iI x6), .int (iI x7), .int r1, .int (iI x8), .int (iI x9), .int (iI x10), .long y0, .int (iI x11), .ref a2, .ref a3, .ref a4, .ref a5, .ref a6, .ref a7, .ref a8, .ref a9, .ref a10, .ref a11, .int (iI x12), .ref a12, .ref a13, .ref a14, .ref a15, .int (iI x13), .int r2, .int r3, .ref a16, .int (iI x14), .int (iI x15), .ref a17, .ref a18, .int (iI x16), .ref a19, .int (iI x17), .int r4, .ref a20, .ref a21, .int (iI x18), .int r5, .ref a22, .int (iI x19), .int (iI x20), .int (iI x21), .int (iI x22)])), (a1, .inl (T 0, 940, .inl (cI f0)))] sz) := by
  refine e_Z (by decide) (Nat.le_of_ble_eq_true rfl) ?_
  intro p e s m args below meth c A Q ls M hin w ret hl
  have hx := M.1.1
  have hb := M.1.2.1
  have hl : lv_has ls 3 [(0, .ref a0), (1, .int (iI x0)), (2, .int (iI x1))] := hl
  refine lv_aload_n hx hb dX12_readNumber_0 rfl (lv_at hl 0 rfl) ?_
  refine r_get (v := .int (iI x7)) M w 0 7 clX12 rfl (by decide) G1470 rfl rfl dX12_readNumber_1 ?_
  refine lv_iconst (v := iI 3) hx hb dX12_readNumber_4 (by decide +kernel) ?_
  refine lv_icmp_eq (tgt := 14) hx hb dX12_readNumber_5 (by decide) (fun c_1 => ?_) (fun c_1 => ?_)
  · replace c_1 := (iI_eq (Int.le_trans (by decide) x7_a) (Int.le_trans x7_b (by decide)) (by decide) (by decide)).mp c_1
    refine lv_aload_n hx hb dX12_readNumber_14 rfl (lv_at hl 0 rfl) ?_
    refine r_get (v := .int r1) M w 0 8 clX12 rfl (by decide) G1471 rfl rfl dX12_readNumber_15 ?_
    refine b_anyx (fun z2 z2_a z2_b hz3 => ?_)
    refine lv_iload_n hx hb dX12_readNumber_18 rfl (lv_at hl 1 rfl) ?_
    refine lv_iload_n hx hb dX12_readNumber_19 rfl (lv_at hl 2 rfl) ?_
    refine k_I (ce := 0) (sl := 0) (rest := []) (wr := [(a0, .inr (11, [.int r0, .ref a1, .int (iI x2), .int (iI x3), .int (iI x4), .int (iI x5), .int (iI x6), .int (iI x7), .int r1, .int (iI x8), .int (iI x9), .int (iI x10), .long y0, .int (iI x11), .ref a2, .ref a3, .ref a4, .ref a5, .ref a6, .ref a7, .ref a8, .ref a9, .ref a10, .ref a11, .int (iI x12), .ref a12, .ref a13, .ref a14, .ref a15, .int (iI x13), .int r2, .int r3, .ref a16, .int (iI x14), .int (iI x15), .ref a17, .ref a18, .int (iI x16), .ref a19, .int (iI x17), .int r4, .ref a20, .ref a21, .int (iI x18), .int r5, .ref a22, .int (iI x19), .int (iI x20), .int (iI x21), .int (iI x22)])), (a1, .inl (T 0, 940, .inl (cI f0)))]) (r_S (f := 0) [] M w V_HookedCityModel_75 G1693 (c6_X12_isIn l D T _ z2 x0 x1 z2_a z2_b x0_a x0_b x1_a x1_b) rfl (by decide) rfl hl.1 rfl (Nat.le_of_ble_eq_true rfl) dX12_readNumber_20 (by decide) (by decide) (by decide) (by decide)) w [] [0, 1] rfl rfl (by decide) (by decide) rfl rfl (fun v z4 H locs hp w => ?_)
    have hv : iI z4 = v := hp.1
    subst hv
    have z4_a : 0 ≤ z4 := hp.2.1
    have z4_b : z4 ≤ 1 := hp.2.2.1
    have w : WD D A s.heap [(a0, .inr (11, [.int r0, .ref a1, .int (iI x2), .int (iI x3), .int (iI x4), .int (iI x5), .int (iI x6), .int (iI x7), .int r1, .int (iI x8), .int (iI x9), .int (iI x10), .long y0, .int (iI x11), .ref a2, .ref a3, .ref a4, .ref a5, .ref a6, .ref a7, .ref a8, .ref a9, .ref a10, .ref a11, .int (iI x12), .ref a12, .ref a13, .ref a14, .ref a15, .int (iI x13), .int r2, .int r3, .ref a16, .int (iI x14), .int (iI x15), .ref a17, .ref a18, .int (iI x16), .ref a19, .int (iI x17), .int r4, .ref a20, .ref a21, .int (iI x18), .int r5, .ref a22, .int (iI x19), .int (iI x20), .int (iI x21), .int (iI x22)])), (a1, .inl (T 0, 940, .inl (cI f0)))] H locs := w
    rcases hp.2.2.2 with ⟨c_5, hr⟩ | ⟨c_6, c_7, hr⟩ | ⟨c_8, c_9, hr⟩
    · subst hr
      refine lv_if_ne (tgt := 32) hx hb dX12_readNumber_23 (by decide) (fun c => absurd (by decide +kernel) c) (fun _ => ?_)
      refine lv_aload_n hx hb dX12_readNumber_26 rfl (lv_at hl 0 rfl) ?_
      refine lv_iconst (v := iI 2) hx hb dX12_readNumber_27 (by decide +kernel) ?_
      refine k_I (ce := 0) (sl := 0) (rest := []) (wr := [(a1, .inl (T 0, 940, .inl (cI f0)))]) (r_V (f := 0) [0] M w V_HookedCityModel_72 G1667 G55 (c45_X12_bad l D T _ a0 2 r0 a1 x2 x3 x4 x5 x6 x7 r1 x8 x9 x10 y0 x11 a2 a3 a4 a5 a6 a7 a8 a9 a10 a11 x12 a12 a13 a14 a15 x13 r2 r3 a16 x14 x15 a17 a18 x16 a19 x17 r4 a20 a21 x18 r5 a22 x19 x20 x21 x22 (by decide) (by decide) x2_a x2_b x3_a x3_b x4_a x4_b x5_a x5_b x6_a x6_b x7_a x7_b x8_a x8_b x9_a x9_b x10_a x10_b x11_a x11_b x12_a x12_b x13_a x13_b x14_a x14_b x15_a x15_b x16_a x16_b x17_a x17_b x18_a x18_b x19_a x19_b x20_a x20_b x21_a x21_b x22_a x22_b) 0 clX12 rfl rfl (by decide) rfl hl.1 rfl (Nat.le_of_ble_eq_true rfl) dX12_readNumber_28 (by decide) (by decide) (by decide) (by decide)) w [0] [1] rfl rfl (by decide) (by decide) rfl rfl (fun v u H locs hp w => ?_)
      obtain ⟨z10, z11, z12⟩ := u
      have hv : iI z10 = v := hp.1
      subst hv
      have z10_a : 0 ≤ z10 := hp.2.1
      have z10_b : z10 ≤ 1 := hp.2.2.1
      have z11_a : (-2147483648) ≤ z11 := hp.2.2.2.1
      have z11_b : z11 ≤ 2147483647 := hp.2.2.2.2.1
      have z12_a : 0 ≤ z12 := hp.2.2.2.2.2.1
      have z12_b : z12 ≤ 940 := hp.2.2.2.2.2.2.1
      have pq13 : baQ x7 2 z11 := hp.2.2.2.2.2.2.2.1
      have pq14 : z12 = x6 := hp.2.2.2.2.2.2.2.2.1
      have w : WD D A s.heap [(a1, .inl (T 0, 940, .inl (cI f0))), (a0, .inr (11, [.int r0, .ref a1, .int (iI x2), .int (iI x3), .int (iI x4), .int (iI x5), .int (iI x6), .int (iI x7), .int r1, .int (iI x8), .int (iI z11), .int (iI z12), .long y0, .int (iI x11), .ref a2, .ref a3, .ref a4, .ref a5, .ref a6, .ref a7, .ref a8, .ref a9, .ref a10, .ref a11, .int (iI x12), .ref a12, .ref a13, .ref a14, .ref a15, .int (iI x13), .int r2, .int r3, .ref a16, .int (iI x14), .int (iI x15), .ref a17, .ref a18, .int (iI x16), .ref a19, .int (iI x17), .int r4, .ref a20, .ref a21, .int (iI x18), .int r5, .ref a22, .int (iI x19), .int (iI x20), .int (iI x21), .int (iI x22)]))] H locs := w
      rcases hp.2.2.2.2.2.2.2.2.2 with hr
      · subst hr
        exact ret _ (0, x5, x6, x7, r1, x8, z11, z12, y0, x11) _ _ _ _ _ [1, 0] dX12_readNumber_31 (by decide +kernel) ⟨rfl, (show (0 : Int) ≤ 0 from by decide), (show (0 : Int) ≤ 1 from by decide), x5_a, x5_b, x6_a, x6_b, x7_a, x7_b, x8_a, x8_b, z11_a, z11_b, z12_a, z12_b, x11_a, x11_b, (show 0 ≤ (x5 - x5) from by omega), (show 0 ≤ ((((x5 - x5) - x7) + 4) - 0) from by omega), (show 0 ≤ (((x11 - x0) + 4294967296) - (0 * 4294967296)) from by omega), (show 0 ≤ (((x1 - x11) + 4294967296) - (0 * 4294967296)) from by omega), (show ∀ x : Tk × Int × Int, gT x x7 x6 x5 y0 r1 x8 → RV (sNu x0 x1 x) 0 z11 z12 x11 ∧ (0 = 1 → gT (nx f0 x3 x4 x) x7 x6 x5 y0 r1 x8) from (num_B (by omega) hz3 z2_a z2_b (by omega) pq13 pq14)), (show kpB 0 x9 z11 from (fun e => absurd e (by decide)))⟩ w (by decide) rfl
    · subst hr
      refine lv_if_ne (tgt := 32) hx hb dX12_readNumber_23 (by decide) (fun c => absurd (by decide +kernel) c) (fun _ => ?_)
      refine lv_aload_n hx hb dX12_readNumber_26 rfl (lv_at hl 0 rfl) ?_
      refine lv_iconst (v := iI 2) hx hb dX12_readNumber_27 (by decide +kernel) ?_
      refine k_I (ce := 0) (sl := 0) (rest := []) (wr := [(a1, .inl (T 0, 940, .inl (cI f0)))]) (r_V (f := 0) [0] M w V_HookedCityModel_72 G1667 G55 (c45_X12_bad l D T _ a0 2 r0 a1 x2 x3 x4 x5 x6 x7 r1 x8 x9 x10 y0 x11 a2 a3 a4 a5 a6 a7 a8 a9 a10 a11 x12 a12 a13 a14 a15 x13 r2 r3 a16 x14 x15 a17 a18 x16 a19 x17 r4 a20 a21 x18 r5 a22 x19 x20 x21 x22 (by decide) (by decide) x2_a x2_b x3_a x3_b x4_a x4_b x5_a x5_b x6_a x6_b x7_a x7_b x8_a x8_b x9_a x9_b x10_a x10_b x11_a x11_b x12_a x12_b x13_a x13_b x14_a x14_b x15_a x15_b x16_a x16_b x17_a x17_b x18_a x18_b x19_a x19_b x20_a x20_b x21_a x21_b x22_a x22_b) 0 clX12 rfl rfl (by decide) rfl hl.1 rfl (Nat.le_of_ble_eq_true rfl) dX12_readNumber_28 (by decide) (by decide) (by decide) (by decide)) w [0] [1] rfl rfl (by decide) (by decide) rfl rfl (fun v u H locs hp w => ?_)
      obtain ⟨z15, z16, z17⟩ := u
      have hv : iI z15 = v := hp.1
      subst hv
      have z15_a : 0 ≤ z15 := hp.2.1
      have z15_b : z15 ≤ 1 := hp.2.2.1
      have z16_a : (-2147483648) ≤ z16 := hp.2.2.2.1
      have z16_b : z16 ≤ 2147483647 := hp.2.2.2.2.1
      have z17_a : 0 ≤ z17 := hp.2.2.2.2.2.1
      have z17_b : z17 ≤ 940 := hp.2.2.2.2.2.2.1
      have pq18 : baQ x7 2 z16 := hp.2.2.2.2.2.2.2.1
      have pq19 : z17 = x6 := hp.2.2.2.2.2.2.2.2.1
      have w : WD D A s.heap [(a1, .inl (T 0, 940, .inl (cI f0))), (a0, .inr (11, [.int r0, .ref a1, .int (iI x2), .int (iI x3), .int (iI x4), .int (iI x5), .int (iI x6), .int (iI x7), .int r1, .int (iI x8), .int (iI z16), .int (iI z17), .long y0, .int (iI x11), .ref a2, .ref a3, .ref a4, .ref a5, .ref a6, .ref a7, .ref a8, .ref a9, .ref a10, .ref a11, .int (iI x12), .ref a12, .ref a13, .ref a14, .ref a15, .int (iI x13), .int r2, .int r3, .ref a16, .int (iI x14), .int (iI x15), .ref a17, .ref a18, .int (iI x16), .ref a19, .int (iI x17), .int r4, .ref a20, .ref a21, .int (iI x18), .int r5, .ref a22, .int (iI x19), .int (iI x20), .int (iI x21), .int (iI x22)]))] H locs := w
      rcases hp.2.2.2.2.2.2.2.2.2 with hr
      · subst hr
        exact ret _ (0, x5, x6, x7, r1, x8, z16, z17, y0, x11) _ _ _ _ _ [1, 0] dX12_readNumber_31 (by decide +kernel) ⟨rfl, (show (0 : Int) ≤ 0 from by decide), (show (0 : Int) ≤ 1 from by decide), x5_a, x5_b, x6_a, x6_b, x7_a, x7_b, x8_a, x8_b, z16_a, z16_b, z17_a, z17_b, x11_a, x11_b, (show 0 ≤ (x5 - x5) from by omega), (show 0 ≤ ((((x5 - x5) - x7) + 4) - 0) from by omega), (show 0 ≤ (((x11 - x0) + 4294967296) - (0 * 4294967296)) from by omega), (show 0 ≤ (((x1 - x11) + 4294967296) - (0 * 4294967296)) from by omega), (show ∀ x : Tk × Int × Int, gT x x7 x6 x5 y0 r1 x8 → RV (sNu x0 x1 x) 0 z16 z17 x11 ∧ (0 = 1 → gT (nx f0 x3 x4 x) x7 x6 x5 y0 r1 x8) from (num_B (by omega) hz3 z2_a z2_b (by omega) pq18 pq19)), (show kpB 0 x9 z16 from (fun e => absurd e (by decide)))⟩ w (by decide) rfl
    · subst hr
      refine lv_if_ne (tgt := 32) hx hb dX12_readNumber_23 (by decide) (fun _ => ?_) (fun c => absurd c (by decide +kernel))
      refine lv_aload_n hx hb dX12_readNumber_32 rfl (lv_at hl 0 rfl) ?_
      refine lv_aload_n hx hb dX12_readNumber_33 rfl (lv_at hl 0 rfl) ?_
      refine r_get (v := .int r1) M w 0 8 clX12 rfl (by decide) G1471 rfl rfl dX12_readNumber_34 ?_
      refine b_lit (z := z2) hz3.symm ?_
      refine r_put (ws' := [(a0, .inr (11, [.int r0, .ref a1, .int (iI x2), .int (iI x3), .int (iI x4), .int (iI x5), .int (iI x6), .int (iI x7), .int r1, .int (iI x8), .int (iI x9), .int (iI x10), .long y0, .int (iI z2), .ref a2, .ref a3, .ref a4, .ref a5, .ref a6, .ref a7, .ref a8, .ref a9, .ref a10, .ref a11, .int (iI x12), .ref a12, .ref a13, .ref a14, .ref a15, .int (iI x13), .int r2, .int r3, .ref a16, .int (iI x14), .int (iI x15), .ref a17, .ref a18, .int (iI x16), .ref a19, .int (iI x17), .int r4, .ref a20, .ref a21, .int (iI x18), .int r5, .ref a22, .int (iI x19), .int (iI x20), .int (iI x21), .int (iI x22)])), (a1, .inl (T 0, 940, .inl (cI f0)))]) M w 0 13 clX12 rfl (by decide) G1476 rfl rfl rfl rfl (Nat.le_of_ble_eq_true rfl) rfl dX12_readNumber_37 (fun H locs w => ?_)
      refine lv_aload_n hx hb dX12_readNumber_40 rfl (lv_at hl 0 rfl) ?_
      refine k_V (ce := 0) (sl := 0) (rest := []) (wr := []) (r_V (f := 1) [0, 1] M w V_HookedCityModel_82 G1629 G49 (c12_X12_go l D T _ a0 r0 a1 x2 x3 x4 x5 x6 x7 r1 x8 x9 x10 y0 z2 a2 a3 a4 a5 a6 a7 a8 a9 a10 a11 x12 a12 a13 a14 a15 x13 r2 r3 a16 x14 x15 a17 a18 x16 a19 x17 r4 a20 a21 x18 r5 a22 x19 x20 x21 x22 f0 x2_a x2_b x3_a x3_b x4_a x4_b x5_a x5_b x6_a x6_b x7_a x7_b x8_a x8_b x9_a x9_b x10_a x10_b z2_a z2_b x12_a x12_b x13_a x13_b x14_a x14_b x15_a x15_b x16_a x16_b x17_a x17_b x18_a x18_b x19_a x19_b x20_a x20_b x21_a x21_b x22_a x22_b f0_h) 0 clX12 rfl rfl (by decide) rfl hl.1 rfl (Nat.le_of_ble_eq_true rfl) dX12_readNumber_41 (by decide) (by decide) (by decide) (by decide)) w [0, 1] [] rfl rfl (by decide) (by decide) rfl rfl (fun u H locs hp w => ?_)
      obtain ⟨z20, z21, z22, fr23, z24, fy25⟩ := u
      have z20_a : 0 ≤ z20 := hp.1
      have z20_b : z20 ≤ 940 := hp.2.1
      have z21_a : 0 ≤ z21 := hp.2.2.1
      have z21_b : z21 ≤ 940 := hp.2.2.2.1
      have z22_a : 0 ≤ z22 := hp.2.2.2.2.1
      have z22_b : z22 ≤ 4 := hp.2.2.2.2.2.1
      have z24_a : (-2147483648) ≤ z24 := hp.2.2.2.2.2.2.1
      have z24_b : z24 ≤ 2147483647 := hp.2.2.2.2.2.2.2.1
      have ee26 : 0 ≤ (z20 - x5) := hp.2.2.2.2.2.2.2.2.1
      have ee27 : 0 ≤ (((z20 - x5) - z22) + 3) := hp.2.2.2.2.2.2.2.2.2.1
      have pq28 : gT (tkAt f0 x3 x4 x5) z22 z21 z20 fy25 fr23 z24 := hp.2.2.2.2.2.2.2.2.2.2
      have w : WD D A s.heap [(a0, .inr (11, [.int r0, .ref a1, .int (iI x2), .int (iI x3), .int (iI x4), .int (iI z20), .int (iI z21), .int (iI z22), .int fr23, .int (iI z24), .int (iI x9), .int (iI x10), .long fy25, .int (iI z2), .ref a2, .ref a3, .ref a4, .ref a5, .ref a6, .ref a7, .ref a8, .ref a9, .ref a10, .ref a11, .int (iI x12), .ref a12, .ref a13, .ref a14, .ref a15, .int (iI x13), .int r2, .int r3, .ref a16, .int (iI x14), .int (iI x15), .ref a17, .ref a18, .int (iI x16), .ref a19, .int (iI x17), .int r4, .ref a20, .ref a21, .int (iI x18), .int r5, .ref a22, .int (iI x19), .int (iI x20), .int (iI x21), .int (iI x22)])), (a1, .inl (T 0, 940, .inl (cI f0)))] H locs := w
      refine lv_iconst (v := iI 1) hx hb dX12_readNumber_44 (by decide +kernel) ?_
      exact ret _ (1, z20, z21, z22, fr23, z24, x9, x10, fy25, z2) _ _ _ _ _ [0, 1] dX12_readNumber_45 (by decide +kernel) ⟨rfl, (show (0 : Int) ≤ 1 from by decide), (show (1 : Int) ≤ 1 from by decide), z20_a, z20_b, z21_a, z21_b, z22_a, z22_b, z24_a, z24_b, x9_a, x9_b, x10_a, x10_b, z2_a, z2_b, (show 0 ≤ (z20 - x5) from by omega), (show 0 ≤ ((((z20 - x5) - z22) + 4) - 1) from by omega), (show 0 ≤ (((z2 - x0) + 4294967296) - (1 * 4294967296)) from by omega), (show 0 ≤ (((x1 - z2) + 4294967296) - (1 * 4294967296)) from by omega), (show ∀ x : Tk × Int × Int, gT x x7 x6 x5 y0 r1 x8 → RV (sNu x0 x1 x) 1 x9 x10 z2 ∧ (1 = 1 → gT (nx f0 x3 x4 x) z22 z21 z20 fy25 fr23 z24) from (num_C (by omega) hz3 z2_a z2_b (by omega) hz3 z2_a z2_b rfl pq28)), (show kpB 1 x9 x9 from (fun hr => by omega))⟩ w (by decide) rfl
  · replace c_1 : ¬ x7 = 3 := fun h => c_1 ((iI_eq (Int.le_trans (by decide) x7_a) (Int.le_trans x7_b (by decide)) (by decide) (by decide)).mpr h)
    refine lv_aload_n hx hb dX12_readNumber_8 rfl (lv_at hl 0 rfl) ?_
    refine lv_iconst (v := iI 1) hx hb dX12_readNumber_9 (by decide +kernel) ?_
    refine k_I (ce := 0) (sl := 0) (rest := []) (wr := [(a1, .inl (T 0, 940, .inl (cI f0)))]) (r_V (f := 0) [0] M w V_HookedCityModel_72 G1667 G55 (c45_X12_bad l D T _ a0 1 r0 a1 x2 x3 x4 x5 x6 x7 r1 x8 x9 x10 y0 x11 a2 a3 a4 a5 a6 a7 a8 a9 a10 a11 x12 a12 a13 a14 a15 x13 r2 r3 a16 x14 x15 a17 a18 x16 a19 x17 r4 a20 a21 x18 r5 a22 x19 x20 x21 x22 (by decide) (by decide) x2_a x2_b x3_a x3_b x4_a x4_b x5_a x5_b x6_a x6_b x7_a x7_b x8_a x8_b x9_a x9_b x10_a x10_b x11_a x11_b x12_a x12_b x13_a x13_b x14_a x14_b x15_a x15_b x16_a x16_b x17_a x17_b x18_a x18_b x19_a x19_b x20_a x20_b x21_a x21_b x22_a x22_b) 0 clX12 rfl rfl (by decide) rfl hl.1 rfl (Nat.le_of_ble_eq_true rfl) dX12_readNumber_10 (by decide) (by decide) (by decide) (by decide)) w [0] [1] rfl rfl (by decide) (by decide) rfl rfl (fun v u H locs hp w => ?_)
    obtain ⟨z29, z30, z31⟩ := u
    have hv : iI z29 = v := hp.1
    subst hv
    have z29_a : 0 ≤ z29 := hp.2.1
    have z29_b : z29 ≤ 1 := hp.2.2.1
    have z30_a : (-2147483648) ≤ z30 := hp.2.2.2.1
    have z30_b : z30 ≤ 2147483647 := hp.2.2.2.2.1
    have z31_a : 0 ≤ z31 := hp.2.2.2.2.2.1
    have z31_b : z31 ≤ 940 := hp.2.2.2.2.2.2.1
    have pq32 : baQ x7 1 z30 := hp.2.2.2.2.2.2.2.1
    have pq33 : z31 = x6 := hp.2.2.2.2.2.2.2.2.1
    have w : WD D A s.heap [(a1, .inl (T 0, 940, .inl (cI f0))), (a0, .inr (11, [.int r0, .ref a1, .int (iI x2), .int (iI x3), .int (iI x4), .int (iI x5), .int (iI x6), .int (iI x7), .int r1, .int (iI x8), .int (iI z30), .int (iI z31), .long y0, .int (iI x11), .ref a2, .ref a3, .ref a4, .ref a5, .ref a6, .ref a7, .ref a8, .ref a9, .ref a10, .ref a11, .int (iI x12), .ref a12, .ref a13, .ref a14, .ref a15, .int (iI x13), .int r2, .int r3, .ref a16, .int (iI x14), .int (iI x15), .ref a17, .ref a18, .int (iI x16), .ref a19, .int (iI x17), .int r4, .ref a20, .ref a21, .int (iI x18), .int r5, .ref a22, .int (iI x19), .int (iI x20), .int (iI x21), .int (iI x22)]))] H locs := w
    rcases hp.2.2.2.2.2.2.2.2.2 with hr
    · subst hr
      exact ret _ (0, x5, x6, x7, r1, x8, z30, z31, y0, x11) _ _ _ _ _ [1, 0] dX12_readNumber_13 (by decide +kernel) ⟨rfl, (show (0 : Int) ≤ 0 from by decide), (show (0 : Int) ≤ 1 from by decide), x5_a, x5_b, x6_a, x6_b, x7_a, x7_b, x8_a, x8_b, z30_a, z30_b, z31_a, z31_b, x11_a, x11_b, (show 0 ≤ (x5 - x5) from by omega), (show 0 ≤ ((((x5 - x5) - x7) + 4) - 0) from by omega), (show 0 ≤ (((x11 - x0) + 4294967296) - (0 * 4294967296)) from by omega), (show 0 ≤ (((x1 - x11) + 4294967296) - (0 * 4294967296)) from by omega), (show ∀ x : Tk × Int × Int, gT x x7 x6 x5 y0 r1 x8 → RV (sNu x0 x1 x) 0 z30 z31 x11 ∧ (0 = 1 → gT (nx f0 x3 x4 x) x7 x6 x5 y0 r1 x8) from (num_A (by omega) pq32 pq33)), (show kpB 0 x9 z30 from (fun e => absurd e (by decide)))⟩ w (by decide) rfl
set_option maxRecDepth 100000 in
set_option maxHeartbeats 4000000 in
theorem c47_X12_readEnd (l : Launch) (D : va_G) (T : Nat → ClassId) (sz : Nat) (a0 : Nat) (r0 : Int32) (a1 : Nat) (x0 : Int) (x1 : Int) (x2 : Int) (x3 : Int) (x4 : Int) (x5 : Int) (r1 : Int32) (x6 : Int) (x7 : Int) (x8 : Int) (y0 : Int64) (x9 : Int) (a2 : Nat) (a3 : Nat) (a4 : Nat) (a5 : Nat) (a6 : Nat) (a7 : Nat) (a8 : Nat) (a9 : Nat) (a10 : Nat) (a11 : Nat) (x10 : Int) (a12 : Nat) (a13 : Nat) (a14 : Nat) (a15 : Nat) (x11 : Int) (r2 : Int32) (r3 : Int32) (a16 : Nat) (x12 : Int) (x13 : Int) (a17 : Nat) (a18 : Nat) (x14 : Int) (a19 : Nat) (x15 : Int) (r4 : Int32) (a20 : Nat) (a21 : Nat) (x16 : Int) (r5 : Int32) (a22 : Nat) (x17 : Int) (x18 : Int) (x19 : Int) (x20 : Int) (f0 : Int → Int) (x0_a : 0 ≤ x0) (x0_b : x0 ≤ 940) (x1_a : 0 ≤ x1) (x1_b : x1 ≤ 940) (x2_a : 0 ≤ x2) (x2_b : x2 ≤ 940) (x3_a : 0 ≤ x3) (x3_b : x3 ≤ 940) (x4_a : 0 ≤ x4) (x4_b : x4 ≤ 940) (x5_a : 0 ≤ x5) (x5_b : x5 ≤ 4) (x6_a : (-2147483648) ≤ x6) (x6_b : x6 ≤ 2147483647) (x7_a : (-2147483648) ≤ x7) (x7_b : x7 ≤ 2147483647) (x8_a : 0 ≤ x8) (x8_b : x8 ≤ 940) (x9_a : (-2147483648) ≤ x9) (x9_b : x9 ≤ 2147483647) (x10_a : 0 ≤ x10) (x10_b : x10 ≤ 8) (x11_a : 0 ≤ x11) (x11_b : x11 ≤ 9) (x12_a : (-1) ≤ x12) (x12_b : x12 ≤ 9) (x13_a : (-1) ≤ x13) (x13_b : x13 ≤ 8) (x14_a : 0 ≤ x14) (x14_b : x14 ≤ 9) (x15_a : 0 ≤ x15) (x15_b : x15 ≤ 64) (x16_a : 0 ≤ x16) (x16_b : x16 ≤ 40) (x17_a : 0 ≤ x17) (x17_b : x17 ≤ 40) (x18_a : 0 ≤ x18) (x18_b : x18 ≤ 20) (x19_a : 0 ≤ x19) (x19_b : x19 ≤ 8) (x20_a : 0 ≤ x20) (x20_b : x20 ≤ 39) (f0_h : rng 0 255 f0) : Met l yX12_readEnd (Cond.code yX12_readEnd cX12_readEnd 1 (some .boolean) :: GW) (Rm 2 0 0) (cPre [.ref a0] D T [(a0, .inr (11, [.int r0, .ref a1, .int (iI x0), .int (iI x1), .int (iI x2), .int (iI x3), .int (iI x4), .int (iI x5), .int r1, .int (iI x6), .int (iI x7), .int (iI x8), .long y0, .int (iI x9), .ref a2, .ref a3, .ref a4, .ref a5, .ref a6, .ref a7, .ref a8, .ref a9, .ref a10, .ref a11, .int (iI x10), .ref a12, .ref a13, .ref a14, .ref a15, .int (iI x11), .int r2, .int r3, .ref a16, .int (iI x12), .int (iI x13), .ref a17, .ref a18, .int (iI x14), .ref a19, .int (iI x15), .int r4, .ref a20, .ref a21, .int (iI x16), .int r5, .ref a22, .int (iI x17), .int (iI x18), .int (iI x19), .int (iI x20)])), (a1, .inl (T 0, 940, .inl (cI f0)))] sz) (qI D [(a0, .inr (11, [.int r0, .ref a1, .int (iI x0), .int (iI x1), .int (iI x2), .int (iI x3), .int (iI x4), .int (iI x5), .int r1, .int (iI x6), .int (iI x7), .int (iI x8), .long y0, .int (iI x9), .ref a2, .ref a3, .ref a4, .ref a5, .ref a6, .ref a7, .ref a8, .ref a9, .ref a10, .ref a11, .int (iI x10), .ref a12, .ref a13, .ref a14, .ref a15, .int (iI x11), .int r2, .int r3, .ref a16, .int (iI x12), .int (iI x13), .ref a17, .ref a18, .int (iI x14), .ref a19, .int (iI x15), .int r4, .ref a20, .ref a21, .int (iI x16), .int r5, .ref a22, .int (iI x17), .int (iI x18), .int (iI x19), .int (iI x20)])), (a1, .inl (T 0, 940, .inl (cI f0)))] sz (fun (v : Int32) (u : Int × Int × Int × Int × Int32 × Int × Int × Int × Int64) => iI u.1 = v ∧ 0 ≤ u.1 ∧ u.1 ≤ 1 ∧ 0 ≤ u.2.1 ∧ u.2.1 ≤ 940 ∧ 0 ≤ u.2.2.1 ∧ u.2.2.1 ≤ 940 ∧ 0 ≤ u.2.2.2.1 ∧ u.2.2.2.1 ≤ 4 ∧ (-2147483648) ≤ u.2.2.2.2.2.1 ∧ u.2.2.2.2.2.1 ≤ 2147483647 ∧ (-2147483648) ≤ u.2.2.2.2.2.2.1 ∧ u.2.2.2.2.2.2.1 ≤ 2147483647 ∧ 0 ≤ u.2.2.2.2.2.2.2.1 ∧ u.2.2.2.2.2.2.2.1 ≤ 940 ∧ 0 ≤ (u.2.1 - x3) ∧ 0 ≤ (x5 - (u.1 * 4)) ∧ (∀ x : Tk × Int × Int, gT x x5 x4 x3 y0 r1 x6 → enP f0 x1 x2 59 x u.1 u.2.2.2.2.2.2.1 u.2.2.2.2.2.2.2.1 (fun y => gT y u.2.2.2.1 u.2.2.1 u.2.1 u.2.2.2.2.2.2.2.2 u.2.2.2.2.1 u.2.2.2.2.2.1)) ∧ (kpB u.1 x7 u.2.2.2.2.2.2.1)) (fun u => [(a0, .inr (11, [.int r0, .ref a1, .int (iI x0), .int (iI x1), .int (iI x2), .int (iI u.2.1), .int (iI u.2.2.1), .int (iI u.2.2.2.1), .int u.2.2.2.2.1, .int (iI u.2.2.2.2.2.1), .int (iI u.2.2.2.2.2.2.1), .int (iI u.2.2.2.2.2.2.2.1), .long u.2.2.2.2.2.2.2.2, .int (iI x9), .ref a2, .ref a3, .ref a4, .ref a5, .ref a6, .ref a7, .ref a8, .ref a9, .ref a10, .ref a11, .int (iI x10), .ref a12, .ref a13, .ref a14, .ref a15, .int (iI x11), .int r2, .int r3, .ref a16, .int (iI x12), .int (iI x13), .ref a17, .ref a18, .int (iI x14), .ref a19, .int (iI x15), .int r4, .ref a20, .ref a21, .int (iI x16), .int r5, .ref a22, .int (iI x17), .int (iI x18), .int (iI x19), .int (iI x20)])), (a1, .inl (T 0, 940, .inl (cI f0)))])) 0 0 (va_A [(a0, .inr (11, [.int r0, .ref a1, .int (iI x0), .int (iI x1), .int (iI x2), .int (iI x3), .int (iI x4), .int (iI x5), .int r1, .int (iI x6), .int (iI x7), .int (iI x8), .long y0, .int (iI x9), .ref a2, .ref a3, .ref a4, .ref a5, .ref a6, .ref a7, .ref a8, .ref a9, .ref a10, .ref a11, .int (iI x10), .ref a12, .ref a13, .ref a14, .ref a15, .int (iI x11), .int r2, .int r3, .ref a16, .int (iI x12), .int (iI x13), .ref a17, .ref a18, .int (iI x14), .ref a19, .int (iI x15), .int r4, .ref a20, .ref a21, .int (iI x16), .int r5, .ref a22, .int (iI x17), .int (iI x18), .int (iI x19), .int (iI x20)])), (a1, .inl (T 0, 940, .inl (cI f0)))] sz) := by
  refine e_Z (by decide) (Nat.le_of_ble_eq_true rfl) ?_
  intro p e s m args below meth c A Q ls M hin w ret hl
  have hx := M.1.1
  have hb := M.1.2.1
  have hl : lv_has ls 1 [(0, .ref a0)] := hl
  refine lv_aload_n hx hb dX12_readEnd_0 rfl (lv_at hl 0 rfl) ?_
  refine lv_bipush (v := iI 59) hx hb dX12_readEnd_1 (by decide +kernel) ?_
  refine k_I (ce := 0) (sl := 0) (rest := []) (wr := [(a1, .inl (T 0, 940, .inl (cI f0)))]) (r_V (f := 0) [0] M w V_HookedCityModel_86 G1724 G67 (c43_X12_isSign l D T _ a0 59 r0 a1 x0 x1 x2 x3 x4 x5 r1 x6 x7 x8 y0 x9 a2 a3 a4 a5 a6 a7 a8 a9 a10 a11 x10 a12 a13 a14 a15 x11 r2 r3 a16 x12 x13 a17 a18 x14 a19 x15 r4 a20 a21 x16 r5 a22 x17 x18 x19 x20 (by decide) (by decide) x0_a x0_b x1_a x1_b x2_a x2_b x3_a x3_b x4_a x4_b x5_a x5_b x6_a x6_b x7_a x7_b x8_a x8_b x9_a x9_b x10_a x10_b x11_a x11_b x12_a x12_b x13_a x13_b x14_a x14_b x15_a x15_b x16_a x16_b x17_a x17_b x18_a x18_b x19_a x19_b x20_a x20_b) 0 clX12 rfl rfl (by decide) rfl hl.1 rfl (Nat.le_of_ble_eq_true rfl) dX12_readEnd_3 (by decide) (by decide) (by decide) (by decide)) w [0] [1] rfl rfl (by decide) (by decide) rfl rfl (fun v z1 H locs hp w => ?_)
  have hv : iI z1 = v := hp.1
  subst hv
  have z1_a : 0 ≤ z1 := hp.2.1
  have z1_b : z1 ≤ 1 := hp.2.2.1
  have ee2 : 0 ≤ (x5 - (z1 * 4)) := hp.2.2.2.1
  have pq3 : sgQ z1 x5 x6 59 := hp.2.2.2.2
  have w : WD D A s.heap [(a1, .inl (T 0, 940, .inl (cI f0))), (a0, .inr (11, [.int r0, .ref a1, .int (iI x0), .int (iI x1), .int (iI x2), .int (iI x3), .int (iI x4), .int (iI x5), .int r1, .int (iI x6), .int (iI x7), .int (iI x8), .long y0, .int (iI x9), .ref a2, .ref a3, .ref a4, .ref a5, .ref a6, .ref a7, .ref a8, .ref a9, .ref a10, .ref a11, .int (iI x10), .ref a12, .ref a13, .ref a14, .ref a15, .int (iI x11), .int r2, .int r3, .ref a16, .int (iI x12), .int (iI x13), .ref a17, .ref a18, .int (iI x14), .ref a19, .int (iI x15), .int r4, .ref a20, .ref a21, .int (iI x16), .int r5, .ref a22, .int (iI x17), .int (iI x18), .int (iI x19), .int (iI x20)]))] H locs := w
  refine lv_if_ne (tgt := 15) hx hb dX12_readEnd_6 (by decide) (fun c_4 => ?_) (fun c_4 => ?_)
  · replace c_4 : ¬ z1 = 0 := fun h => c_4 ((iz_eq (Int.le_trans (by decide) z1_a) (Int.le_trans z1_b (by decide))).mpr h)
    refine lv_aload_n hx hb dX12_readEnd_15 rfl (lv_at hl 0 rfl) ?_
    refine k_V (ce := 0) (sl := 0) (rest := []) (wr := []) (r_V (f := 1) [1, 0] M w V_HookedCityModel_82 G1629 G49 (c12_X12_go l D T _ a0 r0 a1 x0 x1 x2 x3 x4 x5 r1 x6 x7 x8 y0 x9 a2 a3 a4 a5 a6 a7 a8 a9 a10 a11 x10 a12 a13 a14 a15 x11 r2 r3 a16 x12 x13 a17 a18 x14 a19 x15 r4 a20 a21 x16 r5 a22 x17 x18 x19 x20 f0 x0_a x0_b x1_a x1_b x2_a x2_b x3_a x3_b x4_a x4_b x5_a x5_b x6_a x6_b x7_a x7_b x8_a x8_b x9_a x9_b x10_a x10_b x11_a x11_b x12_a x12_b x13_a x13_b x14_a x14_b x15_a x15_b x16_a x16_b x17_a x17_b x18_a x18_b x19_a x19_b x20_a x20_b f0_h) 1 clX12 rfl rfl (by decide) rfl hl.1 rfl (Nat.le_of_ble_eq_true rfl) dX12_readEnd_16 (by decide) (by decide) (by decide) (by decide)) w [1, 0] [] rfl rfl (by decide) (by decide) rfl rfl (fun u H locs hp w => ?_)
    obtain ⟨z5, z6, z7, fr8, z9, fy10⟩ := u
    have z5_a : 0 ≤ z5 := hp.1
    have z5_b : z5 ≤ 940 := hp.2.1
    have z6_a : 0 ≤ z6 := hp.2.2.1
    have z6_b : z6 ≤ 940 := hp.2.2.2.1
    have z7_a : 0 ≤ z7 := hp.2.2.2.2.1
    have z7_b : z7 ≤ 4 := hp.2.2.2.2.2.1
    have z9_a : (-2147483648) ≤ z9 := hp.2.2.2.2.2.2.1
    have z9_b : z9 ≤ 2147483647 := hp.2.2.2.2.2.2.2.1
    have ee11 : 0 ≤ (z5 - x3) := hp.2.2.2.2.2.2.2.2.1
    have ee12 : 0 ≤ (((z5 - x3) - z7) + 3) := hp.2.2.2.2.2.2.2.2.2.1
    have pq13 : gT (tkAt f0 x1 x2 x3) z7 z6 z5 fy10 fr8 z9 := hp.2.2.2.2.2.2.2.2.2.2
    have w : WD D A s.heap [(a0, .inr (11, [.int r0, .ref a1, .int (iI x0), .int (iI x1), .int (iI x2), .int (iI z5), .int (iI z6), .int (iI z7), .int fr8, .int (iI z9), .int (iI x7), .int (iI x8), .long fy10, .int (iI x9), .ref a2, .ref a3, .ref a4, .ref a5, .ref a6, .ref a7, .ref a8, .ref a9, .ref a10, .ref a11, .int (iI x10), .ref a12, .ref a13, .ref a14, .ref a15, .int (iI x11), .int r2, .int r3, .ref a16, .int (iI x12), .int (iI x13), .ref a17, .ref a18, .int (iI x14), .ref a19, .int (iI x15), .int r4, .ref a20, .ref a21, .int (iI x16), .int r5, .ref a22, .int (iI x17), .int (iI x18), .int (iI x19), .int (iI x20)])), (a1, .inl (T 0, 940, .inl (cI f0)))] H locs := w
    refine lv_iconst (v := iI 1) hx hb dX12_readEnd_19 (by decide +kernel) ?_
    exact ret _ (1, z5, z6, z7, fr8, z9, x7, x8, fy10) _ _ _ _ _ [0, 1] dX12_readEnd_20 (by decide +kernel) ⟨rfl, (show (0 : Int) ≤ 1 from by decide), (show (1 : Int) ≤ 1 from by decide), z5_a, z5_b, z6_a, z6_b, z7_a, z7_b, z9_a, z9_b, x7_a, x7_b, x8_a, x8_b, (show 0 ≤ (z5 - x3) from by omega), (show 0 ≤ (x5 - (1 * 4)) from by omega), (show ∀ x : Tk × Int × Int, gT x x5 x4 x3 y0 r1 x6 → enP f0 x1 x2 59 x 1 x7 x8 (fun y => gT y z7 z6 z5 fy10 fr8 z9) from (end_B pq3 (by omega) pq13)), (show kpB 1 x7 x7 from (fun hr => by omega))⟩ w (by decide) rfl
  · replace c_4 := (iz_eq (Int.le_trans (by decide) z1_a) (Int.le_trans z1_b (by decide))).mp c_4
    refine lv_aload_n hx hb dX12_readEnd_9 rfl (lv_at hl 0 rfl) ?_
    refine lv_iconst (v := iI 1) hx hb dX12_readEnd_10 (by decide +kernel) ?_
    refine k_I (ce := 0) (sl := 0) (rest := []) (wr := [(a1, .inl (T 0, 940, .inl (cI f0)))]) (r_V (f := 0) [1] M w V_HookedCityModel_72 G1667 G55 (c45_X12_bad l D T _ a0 1 r0 a1 x0 x1 x2 x3 x4 x5 r1 x6 x7 x8 y0 x9 a2 a3 a4 a5 a6 a7 a8 a9 a10 a11 x10 a12 a13 a14 a15 x11 r2 r3 a16 x12 x13 a17 a18 x14 a19 x15 r4 a20 a21 x16 r5 a22 x17 x18 x19 x20 (by decide) (by decide) x0_a x0_b x1_a x1_b x2_a x2_b x3_a x3_b x4_a x4_b x5_a x5_b x6_a x6_b x7_a x7_b x8_a x8_b x9_a x9_b x10_a x10_b x11_a x11_b x12_a x12_b x13_a x13_b x14_a x14_b x15_a x15_b x16_a x16_b x17_a x17_b x18_a x18_b x19_a x19_b x20_a x20_b) 1 clX12 rfl rfl (by decide) rfl hl.1 rfl (Nat.le_of_ble_eq_true rfl) dX12_readEnd_11 (by decide) (by decide) (by decide) (by decide)) w [1] [0] rfl rfl (by decide) (by decide) rfl rfl (fun v u H locs hp w => ?_)
    obtain ⟨z14, z15, z16⟩ := u
    have hv : iI z14 = v := hp.1
    subst hv
    have z14_a : 0 ≤ z14 := hp.2.1
    have z14_b : z14 ≤ 1 := hp.2.2.1
    have z15_a : (-2147483648) ≤ z15 := hp.2.2.2.1
    have z15_b : z15 ≤ 2147483647 := hp.2.2.2.2.1
    have z16_a : 0 ≤ z16 := hp.2.2.2.2.2.1
    have z16_b : z16 ≤ 940 := hp.2.2.2.2.2.2.1
    have pq17 : baQ x5 1 z15 := hp.2.2.2.2.2.2.2.1
    have pq18 : z16 = x4 := hp.2.2.2.2.2.2.2.2.1
    have w : WD D A s.heap [(a1, .inl (T 0, 940, .inl (cI f0))), (a0, .inr (11, [.int r0, .ref a1, .int (iI x0), .int (iI x1), .int (iI x2), .int (iI x3), .int (iI x4), .int (iI x5), .int r1, .int (iI x6), .int (iI z15), .int (iI z16), .long y0, .int (iI x9), .ref a2, .ref a3, .ref a4, .ref a5, .ref a6, .ref a7, .ref a8, .ref a9, .ref a10, .ref a11, .int (iI x10), .ref a12, .ref a13, .ref a14, .ref a15, .int (iI x11), .int r2, .int r3, .ref a16, .int (iI x12), .int (iI x13), .ref a17, .ref a18, .int (iI x14), .ref a19, .int (iI x15), .int r4, .ref a20, .ref a21, .int (iI x16), .int r5, .ref a22, .int (iI x17), .int (iI x18), .int (iI x19), .int (iI x20)]))] H locs := w
    rcases hp.2.2.2.2.2.2.2.2.2 with hr
    · subst hr
      exact ret _ (0, x3, x4, x5, r1, x6, z15, z16, y0) _ _ _ _ _ [1, 0] dX12_readEnd_14 (by decide +kernel) ⟨rfl, (show (0 : Int) ≤ 0 from by decide), (show (0 : Int) ≤ 1 from by decide), x3_a, x3_b, x4_a, x4_b, x5_a, x5_b, x6_a, x6_b, z15_a, z15_b, z16_a, z16_b, (show 0 ≤ (x3 - x3) from by omega), (show 0 ≤ (x5 - (0 * 4)) from by omega), (show ∀ x : Tk × Int × Int, gT x x5 x4 x3 y0 r1 x6 → enP f0 x1 x2 59 x 0 z15 z16 (fun y => gT y x5 x4 x3 y0 r1 x6) from (end_A pq3 (by omega) pq17 pq18)), (show kpB 0 x7 z15 from (fun e => absurd e (by decide)))⟩ w (by decide) rfl
set_option maxRecDepth 100000 in
set_option maxHeartbeats 4000000 in
theorem c48_X12_begin (l : Launch) (D : va_G) (T : Nat → ClassId) (sz : Nat) (a0 : Nat) (x0 : Int) (r0 : Int32) (a1 : Nat) (x1 : Int) (x2 : Int) (x3 : Int) (x4 : Int) (x5 : Int) (x6 : Int) (r1 : Int32) (x7 : Int) (x8 : Int) (x9 : Int) (y0 : Int64) (x10 : Int) (a2 : Nat) (a3 : Nat) (a4 : Nat) (a5 : Nat) (a6 : Nat) (a7 : Nat) (a8 : Nat) (a9 : Nat) (a10 : Nat) (a11 : Nat) (x11 : Int) (a12 : Nat) (a13 : Nat) (a14 : Nat) (a15 : Nat) (x12 : Int) (r2 : Int32) (r3 : Int32) (a16 : Nat) (x13 : Int) (x14 : Int) (a17 : Nat) (a18 : Nat) (x15 : Int) (a19 : Nat) (x16 : Int) (r4 : Int32) (a20 : Nat) (a21 : Nat) (x17 : Int) (r5 : Int32) (a22 : Nat) (x18 : Int) (x19 : Int) (x20 : Int) (x21 : Int) (f0 : Int → Int) (x0_a : 0 ≤ x0) (x0_b : x0 ≤ 940) (x1_a : 0 ≤ x1) (x1_b : x1 ≤ 940) (x2_a : 0 ≤ x2) (x2_b : x2 ≤ 940) (x3_a : 0 ≤ x3) (x3_b : x3 ≤ 940) (x4_a : 0 ≤ x4) (x4_b : x4 ≤ 940) (x5_a : 0 ≤ x5) (x5_b : x5 ≤ 940) (x6_a : 0 ≤ x6) (x6_b : x6 ≤ 4) (x7_a : (-2147483648) ≤ x7) (x7_b : x7 ≤ 2147483647) (x8_a : (-2147483648) ≤ x8) (x8_b : x8 ≤ 2147483647) (x9_a : 0 ≤ x9) (x9_b : x9 ≤ 940) (x10_a : (-2147483648) ≤ x10) (x10_b : x10 ≤ 2147483647) (x11_a : 0 ≤ x11) (x11_b : x11 ≤ 8) (x12_a : 0 ≤ x12) (x12_b : x12 ≤ 9) (x13_a : (-1) ≤ x13) (x13_b : x13 ≤ 9) (x14_a : (-1) ≤ x14) (x14_b : x14 ≤ 8) (x15_a : 0 ≤ x15) (x15_b : x15 ≤ 9) (x16_a : 0 ≤ x16) (x16_b : x16 ≤ 64) (x17_a : 0 ≤ x17) (x17_b : x17 ≤ 40) (x18_a : 0 ≤ x18) (x18_b : x18 ≤ 40) (x19_a : 0 ≤ x19) (x19_b : x19 ≤ 20) (x20_a : 0 ≤ x20) (x20_b : x20 ≤ 8) (x21_a : 0 ≤ x21) (x21_b : x21 ≤ 39) (f0_h : rng 0 255 f0) : Met l yX12_begin (Cond.code yX12_begin cX12_begin 2 none :: GW) (Rm 2 0 0) (cPre [.ref a0, .int (iI x0)] D T [(a0, .inr (11, [.int r0, .ref a1, .int (iI x1), .int (iI x2), .int (iI x3), .int (iI x4), .int (iI x5), .int (iI x6), .int r1, .int (iI x7), .int (iI x8), .int (iI x9), .long y0, .int (iI x10), .ref a2, .ref a3, .ref a4, .ref a5, .ref a6, .ref a7, .ref a8, .ref a9, .ref a10, .ref a11, .int (iI x11), .ref a12, .ref a13, .ref a14, .ref a15, .int (iI x12), .int r2, .int r3, .ref a16, .int (iI x13), .int (iI x14), .ref a17, .ref a18, .int (iI x15), .ref a19, .int (iI x16), .int r4, .ref a20, .ref a21, .int (iI x17), .int r5, .ref a22, .int (iI x18), .int (iI x19), .int (iI x20), .int (iI x21)])), (a1, .inl (T 0, 940, .inl (cI f0)))] sz) (qV D [(a0, .inr (11, [.int r0, .ref a1, .int (iI x1), .int (iI x2), .int (iI x3), .int (iI x4), .int (iI x5), .int (iI x6), .int r1, .int (iI x7), .int (iI x8), .int (iI x9), .long y0, .int (iI x10), .ref a2, .ref a3, .ref a4, .ref a5, .ref a6, .ref a7, .ref a8, .ref a9, .ref a10, .ref a11, .int (iI x11), .ref a12, .ref a13, .ref a14, .ref a15, .int (iI x12), .int r2, .int r3, .ref a16, .int (iI x13), .int (iI x14), .ref a17, .ref a18, .int (iI x15), .ref a19, .int (iI x16), .int r4, .ref a20, .ref a21, .int (iI x17), .int r5, .ref a22, .int (iI x18), .int (iI x19), .int (iI x20), .int (iI x21)])), (a1, .inl (T 0, 940, .inl (cI f0)))] sz (fun (u : Int32 × Int × Int × Int × Int × Int × Int × Int32 × Int × Int × Int64) => 0 ≤ u.2.1 ∧ u.2.1 ≤ 940 ∧ 0 ≤ u.2.2.1 ∧ u.2.2.1 ≤ 940 ∧ 0 ≤ u.2.2.2.1 ∧ u.2.2.2.1 ≤ 940 ∧ 0 ≤ u.2.2.2.2.1 ∧ u.2.2.2.2.1 ≤ 940 ∧ 0 ≤ u.2.2.2.2.2.1 ∧ u.2.2.2.2.2.1 ≤ 940 ∧ 0 ≤ u.2.2.2.2.2.2.1 ∧ u.2.2.2.2.2.2.1 ≤ 4 ∧ (-2147483648) ≤ u.2.2.2.2.2.2.2.2.1 ∧ u.2.2.2.2.2.2.2.2.1 ≤ 2147483647 ∧ (-2147483648) ≤ u.2.2.2.2.2.2.2.2.2.1 ∧ u.2.2.2.2.2.2.2.2.2.1 ≤ 2147483647 ∧ 0 ≤ (0 - u.2.1) ∧ 0 ≤ (u.2.2.1 - x1) ∧ 0 ≤ (x1 - u.2.2.1) ∧ 0 ≤ (u.2.2.2.1 - x0) ∧ 0 ≤ (x0 - u.2.2.2.1) ∧ 0 ≤ u.2.2.2.2.2.2.2.2.2.1 ∧ 0 ≤ (0 - u.2.2.2.2.2.2.2.2.2.1) ∧ (gT (tkAt f0 u.2.2.1 u.2.2.2.1 0) u.2.2.2.2.2.2.1 u.2.2.2.2.2.1 u.2.2.2.2.1 u.2.2.2.2.2.2.2.2.2.2 u.2.2.2.2.2.2.2.1 u.2.2.2.2.2.2.2.2.1)) (fun u => [(a0, .inr (11, [.int u.1, .ref a1, .int (iI u.2.1), .int (iI u.2.2.1), .int (iI u.2.2.2.1), .int (iI u.2.2.2.2.1), .int (iI u.2.2.2.2.2.1), .int (iI u.2.2.2.2.2.2.1), .int u.2.2.2.2.2.2.2.1, .int (iI u.2.2.2.2.2.2.2.2.1), .int (iI u.2.2.2.2.2.2.2.2.2.1), .int (iI x9), .long u.2.2.2.2.2.2.2.2.2.2, .int (iI x10), .ref a2, .ref a3, .ref a4, .ref a5, .ref a6, .ref a7, .ref a8, .ref a9, .ref a10, .ref a11, .int (iI x11), .ref a12, .ref a13, .ref a14, .ref a15, .int (iI x12), .int r2, .int r3, .ref a16, .int (iI x13), .int (iI x14), .ref a17, .ref a18, .int (iI x15), .ref a19, .int (iI x16), .int r4, .ref a20, .ref a21, .int (iI x17), .int r5, .ref a22, .int (iI x18), .int (iI x19), .int (iI x20), .int (iI x21)])), (a1, .inl (T 0, 940, .inl (cI f0)))])) 0 0 (va_A [(a0, .inr (11, [.int r0, .ref a1, .int (iI x1), .int (iI x2), .int (iI x3), .int (iI x4), .int (iI x5), .int (iI x6), .int r1, .int (iI x7), .int (iI x8), .int (iI x9), .long y0, .int (iI x10), .ref a2, .ref a3, .ref a4, .ref a5, .ref a6, .ref a7, .ref a8, .ref a9, .ref a10, .ref a11, .int (iI x11), .ref a12, .ref a13, .ref a14, .ref a15, .int (iI x12), .int r2, .int r3, .ref a16, .int (iI x13), .int (iI x14), .ref a17, .ref a18, .int (iI x15), .ref a19, .int (iI x16), .int r4, .ref a20, .ref a21, .int (iI x17), .int r5, .ref a22, .int (iI x18), .int (iI x19), .int (iI x20), .int (iI x21)])), (a1, .inl (T 0, 940, .inl (cI f0)))] sz) := by
  refine e_V (by decide) (Nat.le_of_ble_eq_true rfl) ?_
  intro p e s m args below meth c A Q ls M hin w ret hl
  have hx := M.1.1
  have hb := M.1.2.1
  have hl : lv_has ls 2 [(0, .ref a0), (1, .int (iI x0))] := hl
  refine lv_aload_n hx hb dX12_begin_0 rfl (lv_at hl 0 rfl) ?_
  refine lv_iconst (v := iI 0) hx hb dX12_begin_1 (by decide +kernel) ?_
  refine r_put (ws' := [(a0, .inr (11, [.int (iI 0), .ref a1, .int (iI x1), .int (iI x2), .int (iI x3), .int (iI x4), .int (iI x5), .int (iI x6), .int r1, .int (iI x7), .int (iI x8), .int (iI x9), .long y0, .int (iI x10), .ref a2, .ref a3, .ref a4, .ref a5, .ref a6, .ref a7, .ref a8, .ref a9, .ref a10, .ref a11, .int (iI x11), .ref a12, .ref a13, .ref a14, .ref a15, .int (iI x12), .int r2, .int r3, .ref a16, .int (iI x13), .int (iI x14), .ref a17, .ref a18, .int (iI x15), .ref a19, .int (iI x16), .int r4, .ref a20, .ref a21, .int (iI x17), .int r5, .ref a22, .int (iI x18), .int (iI x19), .int (iI x20), .int (iI x21)])), (a1, .inl (T 0, 940, .inl (cI f0)))]) M w 0 0 clX12 rfl (by decide) G1463 rfl rfl rfl rfl (Nat.le_of_ble_eq_true rfl) rfl dX12_begin_2 (fun H locs w => ?_)
  refine lv_aload_n hx hb dX12_begin_5 rfl (lv_at hl 0 rfl) ?_
  refine lv_aload_n hx hb dX12_begin_6 rfl (lv_at hl 0 rfl) ?_
  refine k_I (ce := 0) (sl := 0) (rest := [.ref a0]) (wr := [(a1, .inl (T 0, 940, .inl (cI f0)))]) (r_V (f := 0) [0] M w V_HookedCityModel_89 G1625 G48 (c5_X12_take l D T _ a0 (iI 0) a1 x1 x2 x3 x4 x5 x6 r1 x7 x8 x9 y0 x10 a2 a3 a4 a5 a6 a7 a8 a9 a10 a11 x11 a12 a13 a14 a15 x12 r2 r3 a16 x13 x14 a17 a18 x15 a19 x16 r4 a20 a21 x17 r5 a22 x18 x19 x20 x21 x1_a x1_b x2_a x2_b x3_a x3_b x4_a x4_b x5_a x5_b x6_a x6_b x7_a x7_b x8_a x8_b x9_a x9_b x10_a x10_b x11_a x11_b x12_a x12_b x13_a x13_b x14_a x14_b x15_a x15_b x16_a x16_b x17_a x17_b x18_a x18_b x19_a x19_b x20_a x20_b x21_a x21_b) 0 clX12 rfl rfl (by decide) rfl hl.1 rfl (Nat.le_of_ble_eq_true rfl) dX12_begin_7 (by decide) (by decide) (by decide) (by decide)) w [0] [1] rfl rfl (by decide) (by decide) rfl rfl (fun v u H locs hp w => ?_)
  obtain ⟨z1, z2⟩ := u
  have hv : iI z1 = v := hp.1
  subst hv
  have z1_a : 0 ≤ z1 := hp.2.1
  have z1_b : z1 ≤ 940 := hp.2.2.1
  have z2_a : 0 ≤ z2 := hp.2.2.2.1
  have z2_b : z2 ≤ 940 := hp.2.2.2.2.1
  have ee3 : 0 ≤ (0 - z2) := hp.2.2.2.2.2.1
  have ee4 : 0 ≤ (z1 - x1) := hp.2.2.2.2.2.2.1
  have ee5 : 0 ≤ (x1 - z1) := hp.2.2.2.2.2.2.2
  have w : WD D A s.heap [(a1, .inl (T 0, 940, .inl (cI f0))), (a0, .inr (11, [.int (iI 0), .ref a1, .int (iI z2), .int (iI x2), .int (iI x3), .int (iI x4), .int (iI x5), .int (iI x6), .int r1, .int (iI x7), .int (iI x8), .int (iI x9), .long y0, .int (iI x10), .ref a2, .ref a3, .ref a4, .ref a5, .ref a6, .ref a7, .ref a8, .ref a9, .ref a10, .ref a11, .int (iI x11), .ref a12, .ref a13, .ref a14, .ref a15, .int (iI x12), .int r2, .int r3, .ref a16, .int (iI x13), .int (iI x14), .ref a17, .ref a18, .int (iI x15), .ref a19, .int (iI x16), .int r4, .ref a20, .ref a21, .int (iI x17), .int r5, .ref a22, .int (iI x18), .int (iI x19), .int (iI x20), .int (iI x21)]))] H locs := w
  refine r_put (ws' := [(a1, .inl (T 0, 940, .inl (cI f0))), (a0, .inr (11, [.int (iI 0), .ref a1, .int (iI z2), .int (iI z1), .int (iI x3), .int (iI x4), .int (iI x5), .int (iI x6), .int r1, .int (iI x7), .int (iI x8), .int (iI x9), .long y0, .int (iI x10), .ref a2, .ref a3, .ref a4, .ref a5, .ref a6, .ref a7, .ref a8, .ref a9, .ref a10, .ref a11, .int (iI x11), .ref a12, .ref a13, .ref a14, .ref a15, .int (iI x12), .int r2, .int r3, .ref a16, .int (iI x13), .int (iI x14), .ref a17, .ref a18, .int (iI x15), .ref a19, .int (iI x16), .int r4, .ref a20, .ref a21, .int (iI x17), .int r5, .ref a22, .int (iI x18), .int (iI x19), .int (iI x20), .int (iI x21)]))]) M w 1 3 clX12 rfl (by decide) G1466 rfl rfl rfl rfl (Nat.le_of_ble_eq_true rfl) rfl dX12_begin_10 (fun H locs w => ?_)
  refine lv_aload_n hx hb dX12_begin_13 rfl (lv_at hl 0 rfl) ?_
  refine lv_iload_n hx hb dX12_begin_14 rfl (lv_at hl 1 rfl) ?_
  refine r_put (ws' := [(a1, .inl (T 0, 940, .inl (cI f0))), (a0, .inr (11, [.int (iI 0), .ref a1, .int (iI z2), .int (iI z1), .int (iI x0), .int (iI x4), .int (iI x5), .int (iI x6), .int r1, .int (iI x7), .int (iI x8), .int (iI x9), .long y0, .int (iI x10), .ref a2, .ref a3, .ref a4, .ref a5, .ref a6, .ref a7, .ref a8, .ref a9, .ref a10, .ref a11, .int (iI x11), .ref a12, .ref a13, .ref a14, .ref a15, .int (iI x12), .int r2, .int r3, .ref a16, .int (iI x13), .int (iI x14), .ref a17, .ref a18, .int (iI x15), .ref a19, .int (iI x16), .int r4, .ref a20, .ref a21, .int (iI x17), .int r5, .ref a22, .int (iI x18), .int (iI x19), .int (iI x20), .int (iI x21)]))]) M w 1 4 clX12 rfl (by decide) G1467 rfl rfl rfl rfl (Nat.le_of_ble_eq_true rfl) rfl dX12_begin_15 (fun H locs w => ?_)
  refine lv_aload_n hx hb dX12_begin_18 rfl (lv_at hl 0 rfl) ?_
  refine lv_iconst (v := iI 0) hx hb dX12_begin_19 (by decide +kernel) ?_
  refine r_put (ws' := [(a1, .inl (T 0, 940, .inl (cI f0))), (a0, .inr (11, [.int (iI 0), .ref a1, .int (iI z2), .int (iI z1), .int (iI x0), .int (iI x4), .int (iI x5), .int (iI x6), .int r1, .int (iI x7), .int (iI 0), .int (iI x9), .long y0, .int (iI x10), .ref a2, .ref a3, .ref a4, .ref a5, .ref a6, .ref a7, .ref a8, .ref a9, .ref a10, .ref a11, .int (iI x11), .ref a12, .ref a13, .ref a14, .ref a15, .int (iI x12), .int r2, .int r3, .ref a16, .int (iI x13), .int (iI x14), .ref a17, .ref a18, .int (iI x15), .ref a19, .int (iI x16), .int r4, .ref a20, .ref a21, .int (iI x17), .int r5, .ref a22, .int (iI x18), .int (iI x19), .int (iI x20), .int (iI x21)]))]) M w 1 10 clX12 rfl (by decide) G1473 rfl rfl rfl rfl (Nat.le_of_ble_eq_true rfl) rfl dX12_begin_20 (fun H locs w => ?_)
  refine lv_aload_n hx hb dX12_begin_23 rfl (lv_at hl 0 rfl) ?_
  refine lv_iconst (v := iI 0) hx hb dX12_begin_24 (by decide +kernel) ?_
  refine r_put (ws' := [(a1, .inl (T 0, 940, .inl (cI f0))), (a0, .inr (11, [.int (iI 0), .ref a1, .int (iI z2), .int (iI z1), .int (iI x0), .int (iI 0), .int (iI x5), .int (iI x6), .int r1, .int (iI x7), .int (iI 0), .int (iI x9), .long y0, .int (iI x10), .ref a2, .ref a3, .ref a4, .ref a5, .ref a6, .ref a7, .ref a8, .ref a9, .ref a10, .ref a11, .int (iI x11), .ref a12, .ref a13, .ref a14, .ref a15, .int (iI x12), .int r2, .int r3, .ref a16, .int (iI x13), .int (iI x14), .ref a17, .ref a18, .int (iI x15), .ref a19, .int (iI x16), .int r4, .ref a20, .ref a21, .int (iI x17), .int r5, .ref a22, .int (iI x18), .int (iI x19), .int (iI x20), .int (iI x21)]))]) M w 1 5 clX12 rfl (by decide) G1468 rfl rfl rfl rfl (Nat.le_of_ble_eq_true rfl) rfl dX12_begin_25 (fun H locs w => ?_)
  refine lv_aload_n hx hb dX12_begin_28 rfl (lv_at hl 0 rfl) ?_
  refine k_V (ce := 0) (sl := 0) (rest := []) (wr := []) (r_V (f := 1) [1, 0] M w V_HookedCityModel_82 G1629 G49 (c12_X12_go l D T _ a0 (iI 0) a1 z2 z1 x0 0 x5 x6 r1 x7 0 x9 y0 x10 a2 a3 a4 a5 a6 a7 a8 a9 a10 a11 x11 a12 a13 a14 a15 x12 r2 r3 a16 x13 x14 a17 a18 x15 a19 x16 r4 a20 a21 x17 r5 a22 x18 x19 x20 x21 f0 z2_a z2_b z1_a z1_b x0_a x0_b (by decide) (by decide) x5_a x5_b x6_a x6_b x7_a x7_b (by decide) (by decide) x9_a x9_b x10_a x10_b x11_a x11_b x12_a x12_b x13_a x13_b x14_a x14_b x15_a x15_b x16_a x16_b x17_a x17_b x18_a x18_b x19_a x19_b x20_a x20_b x21_a x21_b f0_h) 1 clX12 rfl rfl (by decide) rfl hl.1 rfl (Nat.le_of_ble_eq_true rfl) dX12_begin_29 (by decide) (by decide) (by decide) (by decide)) w [1, 0] [] rfl rfl (by decide) (by decide) rfl rfl (fun u H locs hp w => ?_)
  obtain ⟨z6, z7, z8, fr9, z10, fy11⟩ := u
  have z6_a : 0 ≤ z6 := hp.1
  have z6_b : z6 ≤ 940 := hp.2.1
  have z7_a : 0 ≤ z7 := hp.2.2.1
  have z7_b : z7 ≤ 940 := hp.2.2.2.1
  have z8_a : 0 ≤ z8 := hp.2.2.2.2.1
  have z8_b : z8 ≤ 4 := hp.2.2.2.2.2.1
  have z10_a : (-2147483648) ≤ z10 := hp.2.2.2.2.2.2.1
  have z10_b : z10 ≤ 2147483647 := hp.2.2.2.2.2.2.2.1
  have ee12 : 0 ≤ (z6 - 0) := hp.2.2.2.2.2.2.2.2.1
  have ee13 : 0 ≤ (((z6 - 0) - z8) + 3) := hp.2.2.2.2.2.2.2.2.2.1
  have pq14 : gT (tkAt f0 z1 x0 0) z8 z7 z6 fy11 fr9 z10 := hp.2.2.2.2.2.2.2.2.2.2
  have w : WD D A s.heap [(a0, .inr (11, [.int (iI 0), .ref a1, .int (iI z2), .int (iI z1), .int (iI x0), .int (iI z6), .int (iI z7), .int (iI z8), .int fr9, .int (iI z10), .int (iI 0), .int (iI x9), .long fy11, .int (iI x10), .ref a2, .ref a3, .ref a4, .ref a5, .ref a6, .ref a7, .ref a8, .ref a9, .ref a10, .ref a11, .int (iI x11), .ref a12, .ref a13, .ref a14, .ref a15, .int (iI x12), .int r2, .int r3, .ref a16, .int (iI x13), .int (iI x14), .ref a17, .ref a18, .int (iI x15), .ref a19, .int (iI x16), .int r4, .ref a20, .ref a21, .int (iI x17), .int r5, .ref a22, .int (iI x18), .int (iI x19), .int (iI x20), .int (iI x21)])), (a1, .inl (T 0, 940, .inl (cI f0)))] H locs := w
  exact ret ((iI 0), z2, z1, x0, z6, z7, z8, fr9, z10, 0, fy11) _ _ _ _ _ [0, 1] dX12_begin_32 ⟨z2_a, z2_b, z1_a, z1_b, x0_a, x0_b, z6_a, z6_b, z7_a, z7_b, z8_a, z8_b, z10_a, z10_b, (show (-2147483648) ≤ 0 from by decide), (show (0 : Int) ≤ 2147483647 from by decide), (show 0 ≤ (0 - z2) from by omega), (show 0 ≤ (z1 - x1) from by omega), (show 0 ≤ (x1 - z1) from by omega), (show 0 ≤ (x0 - x0) from by omega), (show 0 ≤ (x0 - x0) from by omega), (show 0 ≤ 0 from by omega), (show 0 ≤ (0 - 0) from by omega), (show gT (tkAt f0 z1 x0 0) z8 z7 z6 fy11 fr9 z10 from pq14)⟩ w (by decide) rfl
set_option maxRecDepth 100000 in
set_option maxHeartbeats 4000000 in
theorem c49_X12_readKind (l : Launch) (D : va_G) (T : Nat → ClassId) (sz : Nat) (a0 : Nat) (r0 : Int32) (a1 : Nat) (x0 : Int) (x1 : Int) (x2 : Int) (x3 : Int) (x4 : Int) (x5 : Int) (r1 : Int32) (x6 : Int) (x7 : Int) (x8 : Int) (y0 : Int64) (x9 : Int) (a2 : Nat) (a3 : Nat) (a4 : Nat) (a5 : Nat) (a6 : Nat) (a7 : Nat) (a8 : Nat) (a9 : Nat) (a10 : Nat) (a11 : Nat) (x10 : Int) (a12 : Nat) (a13 : Nat) (a14 : Nat) (a15 : Nat) (x11 : Int) (r2 : Int32) (r3 : Int32) (a16 : Nat) (x12 : Int) (x13 : Int) (a17 : Nat) (a18 : Nat) (x14 : Int) (a19 : Nat) (x15 : Int) (r4 : Int32) (a20 : Nat) (a21 : Nat) (x16 : Int) (r5 : Int32) (a22 : Nat) (x17 : Int) (x18 : Int) (x19 : Int) (x20 : Int) (f0 : Int → Int) (x0_a : 0 ≤ x0) (x0_b : x0 ≤ 940) (x1_a : 0 ≤ x1) (x1_b : x1 ≤ 940) (x2_a : 0 ≤ x2) (x2_b : x2 ≤ 940) (x3_a : 0 ≤ x3) (x3_b : x3 ≤ 940) (x4_a : 0 ≤ x4) (x4_b : x4 ≤ 940) (x5_a : 0 ≤ x5) (x5_b : x5 ≤ 4) (x6_a : (-2147483648) ≤ x6) (x6_b : x6 ≤ 2147483647) (x7_a : (-2147483648) ≤ x7) (x7_b : x7 ≤ 2147483647) (x8_a : 0 ≤ x8) (x8_b : x8 ≤ 940) (x9_a : (-2147483648) ≤ x9) (x9_b : x9 ≤ 2147483647) (x10_a : 0 ≤ x10) (x10_b : x10 ≤ 8) (x11_a : 0 ≤ x11) (x11_b : x11 ≤ 9) (x12_a : (-1) ≤ x12) (x12_b : x12 ≤ 9) (x13_a : (-1) ≤ x13) (x13_b : x13 ≤ 8) (x14_a : 0 ≤ x14) (x14_b : x14 ≤ 9) (x15_a : 0 ≤ x15) (x15_b : x15 ≤ 64) (x16_a : 0 ≤ x16) (x16_b : x16 ≤ 40) (x17_a : 0 ≤ x17) (x17_b : x17 ≤ 40) (x18_a : 0 ≤ x18) (x18_b : x18 ≤ 20) (x19_a : 0 ≤ x19) (x19_b : x19 ≤ 8) (x20_a : 0 ≤ x20) (x20_b : x20 ≤ 39) (f0_h : rng 0 255 f0) : Met l yX12_readKind (Cond.code yX12_readKind cX12_readKind 2 (some .boolean) :: GW) (Rm 3 0 0) (cPre [.ref a0] D T [(a0, .inr (11, [.int r0, .ref a1, .int (iI x0), .int (iI x1), .int (iI x2), .int (iI x3), .int (iI x4), .int (iI x5), .int r1, .int (iI x6), .int (iI x7), .int (iI x8), .long y0, .int (iI x9), .ref a2, .ref a3, .ref a4, .ref a5, .ref a6, .ref a7, .ref a8, .ref a9, .ref a10, .ref a11, .int (iI x10), .ref a12, .ref a13, .ref a14, .ref a15, .int (iI x11), .int r2, .int r3, .ref a16, .int (iI x12), .int (iI x13), .ref a17, .ref a18, .int (iI x14), .ref a19, .int (iI x15), .int r4, .ref a20, .ref a21, .int (iI x16), .int r5, .ref a22, .int (iI x17), .int (iI x18), .int (iI x19), .int (iI x20)])), (a1, .inl (T 0, 940, .inl (cI f0)))] sz) (qI D [(a0, .inr (11, [.int r0, .ref a1, .int (iI x0), .int (iI x1), .int (iI x2), .int (iI x3), .int (iI x4), .int (iI x5), .int r1, .int (iI x6), .int (iI x7), .int (iI x8), .long y0, .int (iI x9), .ref a2, .ref a3, .ref a4, .ref a5, .ref a6, .ref a7, .ref a8, .ref a9, .ref a10, .ref a11, .int (iI x10), .ref a12, .ref a13, .ref a14, .ref a15, .int (iI x11), .int r2, .int r3, .ref a16, .int (iI x12), .int (iI x13), .ref a17, .ref a18, .int (iI x14), .ref a19, .int (iI x15), .int r4, .ref a20, .ref a21, .int (iI x16), .int r5, .ref a22, .int (iI x17), .int (iI x18), .int (iI x19), .int (iI x20)])), (a1, .inl (T 0, 940, .inl (cI f0)))] sz (fun (v : Int32) (u : Int × Int × Int × Int × Int32 × Int × Int × Int × Int64 × Int) => iI u.1 = v ∧ 0 ≤ u.1 ∧ u.1 ≤ 1 ∧ 0 ≤ u.2.1 ∧ u.2.1 ≤ 940 ∧ 0 ≤ u.2.2.1 ∧ u.2.2.1 ≤ 940 ∧ 0 ≤ u.2.2.2.1 ∧ u.2.2.2.1 ≤ 4 ∧ (-2147483648) ≤ u.2.2.2.2.2.1 ∧ u.2.2.2.2.2.1 ≤ 2147483647 ∧ (-2147483648) ≤ u.2.2.2.2.2.2.1 ∧ u.2.2.2.2.2.2.1 ≤ 2147483647 ∧ 0 ≤ u.2.2.2.2.2.2.2.1 ∧ u.2.2.2.2.2.2.2.1 ≤ 940 ∧ (-2147483648) ≤ u.2.2.2.2.2.2.2.2.2 ∧ u.2.2.2.2.2.2.2.2.2 ≤ 2147483647 ∧ 0 ≤ (u.2.1 - x3) ∧ 0 ≤ ((((u.2.1 - x3) - u.2.2.2.1) + 4) - u.1) ∧ (∀ x : Tk × Int × Int, gT x x5 x4 x3 y0 r1 x6 → RV (sKd x) u.1 u.2.2.2.2.2.2.1 u.2.2.2.2.2.2.2.1 u.2.2.2.2.2.2.2.2.2 ∧ (u.1 = 1 → gT (nx f0 x1 x2 x) u.2.2.2.1 u.2.2.1 u.2.1 u.2.2.2.2.2.2.2.2.1 u.2.2.2.2.1 u.2.2.2.2.2.1)) ∧ (kpB u.1 x7 u.2.2.2.2.2.2.1)) (fun u => [(a0, .inr (11, [.int r0, .ref a1, .int (iI x0), .int (iI x1), .int (iI x2), .int (iI u.2.1), .int (iI u.2.2.1), .int (iI u.2.2.2.1), .int u.2.2.2.2.1, .int (iI u.2.2.2.2.2.1), .int (iI u.2.2.2.2.2.2.1), .int (iI u.2.2.2.2.2.2.2.1), .long u.2.2.2.2.2.2.2.2.1, .int (iI u.2.2.2.2.2.2.2.2.2), .ref a2, .ref a3, .ref a4, .ref a5, .ref a6, .ref a7, .ref a8, .ref a9, .ref a10, .ref a11, .int (iI x10), .ref a12, .ref a13, .ref a14, .ref a15, .int (iI x11), .int r2, .int r3, .ref a16, .int (iI x12), .int (iI x13), .ref a17, .ref a18, .int (iI x14), .ref a19, .int (iI x15), .int r4, .ref a20, .ref a21, .int (iI x16), .int r5, .ref a22, .int (iI x17), .int (iI x18), .int (iI x19), .int (iI x20)])), (a1, .inl (T 0, 940, .inl (cI f0)))])) 0 0 (va_A [(a0, .inr (11, [.int r0, .ref a1, .int (iI x0), .int (iI x1), .int (iI x2), .int (iI x3), .int (iI x4), .int (iI x5), .int r1, .int (iI x6), .int (iI x7), .int (iI x8), .long y0, .int (iI x9), .ref a2, .ref a3, .ref a4, .ref a5, .ref a6, .ref a7, .ref a8, .ref a9, .ref a10, .ref a11, .int (iI x10), .ref a12, .ref a13, .ref a14, .ref a15, .int (iI x11), .int r2, .int r3, .ref a16, .int (iI x12), .int (iI x13), .ref a17, .ref a18, .int (iI x14), .ref a19, .int (iI x15), .int r4, .ref a20, .ref a21, .int (iI x16), .int r5, .ref a22, .int (iI x17), .int (iI x18), .int (iI x19), .int (iI x20)])), (a1, .inl (T 0, 940, .inl (cI f0)))] sz) := by
  refine e_Z (by decide) (Nat.le_of_ble_eq_true rfl) ?_
  intro p e s m args below meth c A Q ls M hin w ret hl
  have hx := M.1.1
  have hb := M.1.2.1
  have hl : lv_has ls 2 [(0, .ref a0)] := hl
  refine lv_bipush (v := iI 7) hx hb dX12_readKind_0 (by decide +kernel) ?_
  refine lv_istore_n (lv' := [(1, .int (iI 7)), (0, .ref a0)]) hx hb dX12_readKind_2 rfl hl (by decide) rfl (fun ls hl => ?_)
  have loop1 : ∀ (k1 : Nat) (z1 : Int) (H : Heap) (locs : List Loc) (ls : Array Slot), 7 ≤ z1 → z1 ≤ 11 → (∀ j : Nat, 7 ≤ j → (j : Int) < z1 → ¬ (x5 = 2 ∧ y0 = wrd j)) → ((11 - z1) : Int).toNat < k1 → WD D A s.heap [(a0, .inr (11, [.int r0, .ref a1, .int (iI x0), .int (iI x1), .int (iI x2), .int (iI x3), .int (iI x4), .int (iI x5), .int r1, .int (iI x6), .int (iI x7), .int (iI x8), .long y0, .int (iI x9), .ref a2, .ref a3, .ref a4, .ref a5, .ref a6, .ref a7, .ref a8, .ref a9, .ref a10, .ref a11, .int (iI x10), .ref a12, .ref a13, .ref a14, .ref a15, .int (iI x11), .int r2, .int r3, .ref a16, .int (iI x12), .int (iI x13), .ref a17, .ref a18, .int (iI x14), .ref a19, .int (iI x15), .int r4, .ref a20, .ref a21, .int (iI x16), .int r5, .ref a22, .int (iI x17), .int (iI x18), .int (iI x19), .int (iI x20)])), (a1, .inl (T 0, 940, .inl (cI f0)))] H locs → lv_has ls 2 [(1, .int (iI z1)), (0, .ref a0)] → W p l e (Rm 3 0 0) s m args below meth c H locs 0 0 Q (F0 m 3 ls []) := by
    intro k1
    induction k1 with
    | zero => intro z1 H locs ls z1_a z1_b lq1_k hm; exact absurd hm (Nat.not_lt_zero _)
    | succ k1 ih1 =>
      intro z1 H locs ls z1_a z1_b lq1_k hm1 w hl
      refine lv_iload_n hx hb dX12_readKind_3 rfl (lv_at hl 0 rfl) ?_
      refine lv_bipush (v := iI 10) hx hb dX12_readKind_4 (by decide +kernel) ?_
      refine lv_icmp_gt (tgt := 23) hx hb dX12_readKind_6 (by decide) (fun c_2 => ?_) (fun c_2 => ?_)
      · replace c_2 := (iI_lt (by decide) (by decide) (Int.le_trans (by decide) z1_a) (Int.le_trans z1_b (by decide))).mp c_2
        refine lv_iload_n hx hb dX12_readKind_23 rfl (lv_at hl 0 rfl) ?_
        refine lv_bipush (v := iI 10) hx hb dX12_readKind_24 (by decide +kernel) ?_
        refine lv_icmp_le (tgt := 35) hx hb dX12_readKind_26 (by decide) (fun c_3 => ?_) (fun c_3 => ?_)
        · replace c_3 := (iI_le (Int.le_trans (by decide) z1_a) (Int.le_trans z1_b (by decide)) (by decide) (by decide)).mp c_3
          exfalso; omega
        · replace c_3 : 10 < z1 := Int.not_le.mp (fun h => c_3 ((iI_le (Int.le_trans (by decide) z1_a) (Int.le_trans z1_b (by decide)) (by decide) (by decide)).mpr h))
          refine lv_aload_n hx hb dX12_readKind_29 rfl (lv_at hl 1 rfl) ?_
          refine lv_iconst (v := iI 1) hx hb dX12_readKind_30 (by decide +kernel) ?_
          refine k_I (ce := 0) (sl := 0) (rest := []) (wr := [(a1, .inl (T 0, 940, .inl (cI f0)))]) (r_V (f := 0) [0] M w V_HookedCityModel_72 G1667 G55 (c45_X12_bad l D T _ a0 1 r0 a1 x0 x1 x2 x3 x4 x5 r1 x6 x7 x8 y0 x9 a2 a3 a4 a5 a6 a7 a8 a9 a10 a11 x10 a12 a13 a14 a15 x11 r2 r3 a16 x12 x13 a17 a18 x14 a19 x15 r4 a20 a21 x16 r5 a22 x17 x18 x19 x20 (by decide) (by decide) x0_a x0_b x1_a x1_b x2_a x2_b x3_a x3_b x4_a x4_b x5_a x5_b x6_a x6_b x7_a x7_b x8_a x8_b x9_a x9_b x10_a x10_b x11_a x11_b x12_a x12_b x13_a x13_b x14_a x14_b x15_a x15_b x16_a x16_b x17_a x17_b x18_a x18_b x19_a x19_b x20_a x20_b) 0 clX12 rfl rfl (by decide) rfl hl.1 rfl (Nat.le_of_ble_eq_true rfl) dX12_readKind_31 (by decide) (by decide) (by decide) (by decide)) w [0] [1] rfl rfl (by decide) (by decide) rfl rfl (fun v u H locs hp w => ?_)
          obtain ⟨z4, z5, z6⟩ := u
          have hv : iI z4 = v := hp.1
          subst hv
          have z4_a : 0 ≤ z4 := hp.2.1
          have z4_b : z4 ≤ 1 := hp.2.2.1
          have z5_a : (-2147483648) ≤ z5 := hp.2.2.2.1
          have z5_b : z5 ≤ 2147483647 := hp.2.2.2.2.1
          have z6_a : 0 ≤ z6 := hp.2.2.2.2.2.1
          have z6_b : z6 ≤ 940 := hp.2.2.2.2.2.2.1
          have pq7 : baQ x5 1 z5 := hp.2.2.2.2.2.2.2.1
          have pq8 : z6 = x4 := hp.2.2.2.2.2.2.2.2.1
          have w : WD D A s.heap [(a1, .inl (T 0, 940, .inl (cI f0))), (a0, .inr (11, [.int r0, .ref a1, .int (iI x0), .int (iI x1), .int (iI x2), .int (iI x3), .int (iI x4), .int (iI x5), .int r1, .int (iI x6), .int (iI z5), .int (iI z6), .long y0, .int (iI x9), .ref a2, .ref a3, .ref a4, .ref a5, .ref a6, .ref a7, .ref a8, .ref a9, .ref a10, .ref a11, .int (iI x10), .ref a12, .ref a13, .ref a14, .ref a15, .int (iI x11), .int r2, .int r3, .ref a16, .int (iI x12), .int (iI x13), .ref a17, .ref a18, .int (iI x14), .ref a19, .int (iI x15), .int r4, .ref a20, .ref a21, .int (iI x16), .int r5, .ref a22, .int (iI x17), .int (iI x18), .int (iI x19), .int (iI x20)]))] H locs := w
          rcases hp.2.2.2.2.2.2.2.2.2 with hr
          · subst hr
            exact ret _ (0, x3, x4, x5, r1, x6, z5, z6, y0, x9) _ _ _ _ _ [1, 0] dX12_readKind_34 (by decide +kernel) ⟨rfl, (show (0 : Int) ≤ 0 from by decide), (show (0 : Int) ≤ 1 from by decide), x3_a, x3_b, x4_a, x4_b, x5_a, x5_b, x6_a, x6_b, z5_a, z5_b, z6_a, z6_b, x9_a, x9_b, (show 0 ≤ (x3 - x3) from by omega), (show 0 ≤ ((((x3 - x3) - x5) + 4) - 0) from by omega), (show ∀ x : Tk × Int × Int, gT x x5 x4 x3 y0 r1 x6 → RV (sKd x) 0 z5 z6 x9 ∧ (0 = 1 → gT (nx f0 x1 x2 x) x5 x4 x3 y0 r1 x6) from (kind_A lq1_k (by omega) pq7 pq8)), (show kpB 0 x7 z5 from (fun e => absurd e (by decide)))⟩ w (by decide) rfl
      · replace c_2 : z1 ≤ 10 := Int.not_lt.mp (fun h => c_2 ((iI_lt (by decide) (by decide) (Int.le_trans (by decide) z1_a) (Int.le_trans z1_b (by decide))).mpr h))
        refine lv_aload_n hx hb dX12_readKind_9 rfl (lv_at hl 1 rfl) ?_
        refine lv_iload_n hx hb dX12_readKind_10 rfl (lv_at hl 0 rfl) ?_
        refine k_I (ce := 0) (sl := 0) (rest := []) (wr := [(a1, .inl (T 0, 940, .inl (cI f0)))]) (r_V (f := 2) [0] M w V_HookedCityModel_183 G1649 G52 (c42_X12_isWord l D T _ a0 z1 r0 a1 x0 x1 x2 x3 x4 x5 r1 x6 x7 x8 y0 x9 a2 a3 a4 a5 a6 a7 a8 a9 a10 a11 x10 a12 a13 a14 a15 x11 r2 r3 a16 x12 x13 a17 a18 x14 a19 x15 r4 a20 a21 x16 r5 a22 x17 x18 x19 x20 (by omega) (by omega) x0_a x0_b x1_a x1_b x2_a x2_b x3_a x3_b x4_a x4_b x5_a x5_b x6_a x6_b x7_a x7_b x8_a x8_b x9_a x9_b x10_a x10_b x11_a x11_b x12_a x12_b x13_a x13_b x14_a x14_b x15_a x15_b x16_a x16_b x17_a x17_b x18_a x18_b x19_a x19_b x20_a x20_b) 0 clX12 rfl rfl (by decide) rfl hl.1 rfl (Nat.le_of_ble_eq_true rfl) dX12_readKind_11 (by decide) (by decide) (by decide) (by decide)) w [0] [1] rfl rfl (by decide) (by decide) rfl rfl (fun v z9 H locs hp w => ?_)
        have hv : iI z9 = v := hp.1
        subst hv
        have z9_a : 0 ≤ z9 := hp.2.1
        have z9_b : z9 ≤ 1 := hp.2.2.1
        have pq10 : wdQ z9 x5 y0 (wrdZ z1) := hp.2.2.2
        have w : WD D A s.heap [(a1, .inl (T 0, 940, .inl (cI f0))), (a0, .inr (11, [.int r0, .ref a1, .int (iI x0), .int (iI x1), .int (iI x2), .int (iI x3), .int (iI x4), .int (iI x5), .int r1, .int (iI x6), .int (iI x7), .int (iI x8), .long y0, .int (iI x9), .ref a2, .ref a3, .ref a4, .ref a5, .ref a6, .ref a7, .ref a8, .ref a9, .ref a10, .ref a11, .int (iI x10), .ref a12, .ref a13, .ref a14, .ref a15, .int (iI x11), .int r2, .int r3, .ref a16, .int (iI x12), .int (iI x13), .ref a17, .ref a18, .int (iI x14), .ref a19, .int (iI x15), .int r4, .ref a20, .ref a21, .int (iI x16), .int r5, .ref a22, .int (iI x17), .int (iI x18), .int (iI x19), .int (iI x20)]))] H locs := w
        refine lv_if_ne (tgt := 23) hx hb dX12_readKind_14 (by decide) (fun c_11 => ?_) (fun c_11 => ?_)
        · replace c_11 : ¬ z9 = 0 := fun h => c_11 ((iz_eq (Int.le_trans (by decide) z9_a) (Int.le_trans z9_b (by decide))).mpr h)
          refine lv_iload_n hx hb dX12_readKind_23 rfl (lv_at hl 0 rfl) ?_
          refine lv_bipush (v := iI 10) hx hb dX12_readKind_24 (by decide +kernel) ?_
          refine lv_icmp_le (tgt := 35) hx hb dX12_readKind_26 (by decide) (fun c_12 => ?_) (fun c_12 => ?_)
          · replace c_12 := (iI_le (Int.le_trans (by decide) z1_a) (Int.le_trans z1_b (by decide)) (by decide) (by decide)).mp c_12
            refine lv_aload_n hx hb dX12_readKind_35 rfl (lv_at hl 1 rfl) ?_
            refine lv_iload_n hx hb dX12_readKind_36 rfl (lv_at hl 0 rfl) ?_
            refine lv_bipush (v := iI 7) hx hb dX12_readKind_37 (by decide +kernel) ?_
            refine r_isub (v := iI (z1 - 7)) M (iI_sub _ _) dX12_readKind_39 ?_
            refine r_put (ws' := [(a1, .inl (T 0, 940, .inl (cI f0))), (a0, .inr (11, [.int r0, .ref a1, .int (iI x0), .int (iI x1), .int (iI x2), .int (iI x3), .int (iI x4), .int (iI x5), .int r1, .int (iI x6), .int (iI x7), .int (iI x8), .long y0, .int (iI (z1 - 7)), .ref a2, .ref a3, .ref a4, .ref a5, .ref a6, .ref a7, .ref a8, .ref a9, .ref a10, .ref a11, .int (iI x10), .ref a12, .ref a13, .ref a14, .ref a15, .int (iI x11), .int r2, .int r3, .ref a16, .int (iI x12), .int (iI x13), .ref a17, .ref a18, .int (iI x14), .ref a19, .int (iI x15), .int r4, .ref a20, .ref a21, .int (iI x16), .int r5, .ref a22, .int (iI x17), .int (iI x18), .int (iI x19), .int (iI x20)]))]) M w 1 13 clX12 rfl (by decide) G1476 rfl rfl rfl rfl (Nat.le_of_ble_eq_true rfl) rfl dX12_readKind_40 (fun H locs w => ?_)
            refine lv_aload_n hx hb dX12_readKind_43 rfl (lv_at hl 1 rfl) ?_
            refine k_V (ce := 0) (sl := 0) (rest := []) (wr := []) (r_V (f := 1) [1, 0] M w V_HookedCityModel_82 G1629 G49 (c12_X12_go l D T _ a0 r0 a1 x0 x1 x2 x3 x4 x5 r1 x6 x7 x8 y0 (z1 - 7) a2 a3 a4 a5 a6 a7 a8 a9 a10 a11 x10 a12 a13 a14 a15 x11 r2 r3 a16 x12 x13 a17 a18 x14 a19 x15 r4 a20 a21 x16 r5 a22 x17 x18 x19 x20 f0 x0_a x0_b x1_a x1_b x2_a x2_b x3_a x3_b x4_a x4_b x5_a x5_b x6_a x6_b x7_a x7_b x8_a x8_b (by omega) (by omega) x10_a x10_b x11_a x11_b x12_a x12_b x13_a x13_b x14_a x14_b x15_a x15_b x16_a x16_b x17_a x17_b x18_a x18_b x19_a x19_b x20_a x20_b f0_h) 1 clX12 rfl rfl (by decide) rfl hl.1 rfl (Nat.le_of_ble_eq_true rfl) dX12_readKind_44 (by decide) (by decide) (by decide) (by decide)) w [1, 0] [] rfl rfl (by decide) (by decide) rfl rfl (fun u H locs hp w => ?_)
            obtain ⟨z13, z14, z15, fr16, z17, fy18⟩ := u
            have z13_a : 0 ≤ z13 := hp.1
            have z13_b : z13 ≤ 940 := hp.2.1
            have z14_a : 0 ≤ z14 := hp.2.2.1
            have z14_b : z14 ≤ 940 := hp.2.2.2.1
            have z15_a : 0 ≤ z15 := hp.2.2.2.2.1
            have z15_b : z15 ≤ 4 := hp.2.2.2.2.2.1
            have z17_a : (-2147483648) ≤ z17 := hp.2.2.2.2.2.2.1
            have z17_b : z17 ≤ 2147483647 := hp.2.2.2.2.2.2.2.1
            have ee19 : 0 ≤ (z13 - x3) := hp.2.2.2.2.2.2.2.2.1
            have ee20 : 0 ≤ (((z13 - x3) - z15) + 3) := hp.2.2.2.2.2.2.2.2.2.1
            have pq21 : gT (tkAt f0 x1 x2 x3) z15 z14 z13 fy18 fr16 z17 := hp.2.2.2.2.2.2.2.2.2.2
            have w : WD D A s.heap [(a0, .inr (11, [.int r0, .ref a1, .int (iI x0), .int (iI x1), .int (iI x2), .int (iI z13), .int (iI z14), .int (iI z15), .int fr16, .int (iI z17), .int (iI x7), .int (iI x8), .long fy18, .int (iI (z1 - 7)), .ref a2, .ref a3, .ref a4, .ref a5, .ref a6, .ref a7, .ref a8, .ref a9, .ref a10, .ref a11, .int (iI x10), .ref a12, .ref a13, .ref a14, .ref a15, .int (iI x11), .int r2, .int r3, .ref a16, .int (iI x12), .int (iI x13), .ref a17, .ref a18, .int (iI x14), .ref a19, .int (iI x15), .int r4, .ref a20, .ref a21, .int (iI x16), .int r5, .ref a22, .int (iI x17), .int (iI x18), .int (iI x19), .int (iI x20)])), (a1, .inl (T 0, 940, .inl (cI f0)))] H locs := w
            refine lv_iconst (v := iI 1) hx hb dX12_readKind_47 (by decide +kernel) ?_
            exact ret _ (1, z13, z14, z15, fr16, z17, x7, x8, fy18, (z1 - 7)) _ _ _ _ _ [0, 1] dX12_readKind_48 (by decide +kernel) ⟨rfl, (show (0 : Int) ≤ 1 from by decide), (show (1 : Int) ≤ 1 from by decide), z13_a, z13_b, z14_a, z14_b, z15_a, z15_b, z17_a, z17_b, x7_a, x7_b, x8_a, x8_b, (show (-2147483648) ≤ (z1 - 7) from by omega), (show (z1 - 7) ≤ 2147483647 from by omega), (show 0 ≤ (z13 - x3) from by omega), (show 0 ≤ ((((z13 - x3) - z15) + 4) - 1) from by omega), (show ∀ x : Tk × Int × Int, gT x x5 x4 x3 y0 r1 x6 → RV (sKd x) 1 x7 x8 (z1 - 7) ∧ (1 = 1 → gT (nx f0 x1 x2 x) z15 z14 z13 fy18 fr16 z17) from (kind_B pq10 (by omega) (by omega) (by omega) rfl pq21)), (show kpB 1 x7 x7 from (fun hr => by omega))⟩ w (by decide) rfl
          · replace c_12 : 10 < z1 := Int.not_le.mp (fun h => c_12 ((iI_le (Int.le_trans (by decide) z1_a) (Int.le_trans z1_b (by decide)) (by decide) (by decide)).mpr h))
            exfalso; omega
        · replace c_11 := (iz_eq (Int.le_trans (by decide) z9_a) (Int.le_trans z9_b (by decide))).mp c_11
          refine lv_iinc (v := iI (z1 + 1)) (lv' := [(1, .int (iI (z1 + 1))), (0, .ref a0)]) hx hb dX12_readKind_17 hl (k := 0) rfl (ii_inc (by decide +kernel)) (by decide) rfl (fun ls hl => ?_)
          refine lv_goto (tgt := 3) hx hb dX12_readKind_20 (by decide) ?_
          exact ih1 (z1 + 1) _ _ _ (by omega) (by omega) (kind_l lq1_k (by omega) pq10 (by omega)) (by omega) (w.sub [1, 0] (by decide) rfl) (lv_sub hl [0, 1] rfl)
  exact loop1 ((4 : Int).toNat + 1) 7 _ _ _ (by decide) (by decide) (fun j j7 hj => absurd hj (by omega)) (Nat.lt_succ_self _) w (lv_sub hl [0, 1] rfl)
