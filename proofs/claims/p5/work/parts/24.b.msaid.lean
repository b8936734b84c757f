theorem dX12_holds_0 : decode cX12_holds 0 = .ok (.bipush 89, 2) := by decide +kernel
theorem dX12_holds_2 : decode cX12_holds 2 = .ok (.iconst 4, 1) := by decide +kernel
theorem dX12_holds_3 : decode cX12_holds 3 = .ok (.iload_n 1, 1) := by decide +kernel
theorem dX12_holds_4 : decode cX12_holds 4 = .ok (.imul, 1) := by decide +kernel
theorem dX12_holds_5 : decode cX12_holds 5 = .ok (.iadd, 1) := by decide +kernel
theorem dX12_holds_6 : decode cX12_holds 6 = .ok (.istore_n 3, 1) := by decide +kernel
theorem dX12_holds_7 : decode cX12_holds 7 = .ok (.aload_n 0, 1) := by decide +kernel
theorem dX12_holds_8 : decode cX12_holds 8 = .ok (.getfield 98, 3) := by decide +kernel
theorem dX12_holds_11 : decode cX12_holds 11 = .ok (.iload_n 3, 1) := by decide +kernel
theorem dX12_holds_12 : decode cX12_holds 12 = .ok (.iconst 1, 1) := by decide +kernel
theorem dX12_holds_13 : decode cX12_holds 13 = .ok (.iadd, 1) := by decide +kernel
theorem dX12_holds_14 : decode cX12_holds 14 = .ok (.iaload, 1) := by decide +kernel
theorem dX12_holds_15 : decode cX12_holds 15 = .ok (.istore 4, 2) := by decide +kernel
theorem dX12_holds_17 : decode cX12_holds 17 = .ok (.aload_n 0, 1) := by decide +kernel
theorem dX12_holds_18 : decode cX12_holds 18 = .ok (.getfield 98, 3) := by decide +kernel
theorem dX12_holds_21 : decode cX12_holds 21 = .ok (.iload_n 3, 1) := by decide +kernel
theorem dX12_holds_22 : decode cX12_holds 22 = .ok (.iconst 2, 1) := by decide +kernel
theorem dX12_holds_23 : decode cX12_holds 23 = .ok (.iadd, 1) := by decide +kernel
theorem dX12_holds_24 : decode cX12_holds 24 = .ok (.iaload, 1) := by decide +kernel
theorem dX12_holds_25 : decode cX12_holds 25 = .ok (.istore 5, 2) := by decide +kernel
theorem dX12_holds_27 : decode cX12_holds 27 = .ok (.aload_n 0, 1) := by decide +kernel
theorem dX12_holds_28 : decode cX12_holds 28 = .ok (.getfield 98, 3) := by decide +kernel
theorem dX12_holds_31 : decode cX12_holds 31 = .ok (.iload_n 3, 1) := by decide +kernel
theorem dX12_holds_32 : decode cX12_holds 32 = .ok (.iaload, 1) := by decide +kernel
theorem dX12_holds_33 : decode cX12_holds 33 = .ok (.lookupswitch 201 #[(1, 83), (2, 99), (3, 125), (68, 151), (69, 157), (70, 163), (71, 169), (72, 175), (73, 186)], 83) := by decide +kernel
theorem dX12_holds_116 : decode cX12_holds 116 = .ok (.aload_n 0, 1) := by decide +kernel
theorem dX12_holds_117 : decode cX12_holds 117 = .ok (.iload 4, 2) := by decide +kernel
theorem dX12_holds_119 : decode cX12_holds 119 = .ok (.iload_n 2, 1) := by decide +kernel
theorem dX12_holds_120 : decode cX12_holds 120 = .ok (.invokevirtual 431, 3) := by decide +kernel
theorem G2054 : Cond.code ⟨"HookedCityModel", "holds", "(II)Z"⟩ prog_14_method_120_code 8 (some .boolean) ∈ GW := gw_i 2054 (by decide +kernel) rfl
theorem G2051 : Cond.methodLink "HookedCityModel" 431 ⟨"HookedCityModel", "holds", "(II)Z"⟩ ∈ GW := gw_i 2051 (by decide +kernel) rfl
theorem V_HookedCityModel_431 : VL "HookedCityModel" 431 yX12_holds cX12_holds 8 (some .boolean) 2 := ⟨G2054, G2051, G131, by decide +kernel, by decide +kernel, by decide +kernel⟩
theorem G2053 : Cond.instanceMethod ⟨"HookedCityModel", "holds", "(II)Z"⟩ ∈ GW := gw_i 2053 (by decide +kernel) rfl
theorem G117 : Cond.selects "HookedCityModel" ⟨"HookedCityModel", "holds", "(II)Z"⟩ ⟨"HookedCityModel", "holds", "(II)Z"⟩ ∈ GW := gw_i 117 (by decide +kernel) rfl
theorem dX12_holds_123 : decode cX12_holds 123 = .ok (.ifCond .ne 7, 3) := by decide +kernel
theorem dX12_holds_130 : decode cX12_holds 130 = .ok (.iconst 0, 1) := by decide +kernel
theorem dX12_holds_131 : decode cX12_holds 131 = .ok (.ireturn, 1) := by decide +kernel
theorem dX12_holds_126 : decode cX12_holds 126 = .ok (.iconst 1, 1) := by decide +kernel
theorem dX12_holds_127 : decode cX12_holds 127 = .ok (.goto 4, 3) := by decide +kernel
theorem dX12_holds_132 : decode cX12_holds 132 = .ok (.aload_n 0, 1) := by decide +kernel
theorem dX12_holds_133 : decode cX12_holds 133 = .ok (.iload 4, 2) := by decide +kernel
theorem dX12_holds_135 : decode cX12_holds 135 = .ok (.iload_n 2, 1) := by decide +kernel
theorem dX12_holds_136 : decode cX12_holds 136 = .ok (.invokevirtual 431, 3) := by decide +kernel
theorem dX12_holds_139 : decode cX12_holds 139 = .ok (.ifCond .eq 17, 3) := by decide +kernel
theorem dX12_holds_156 : decode cX12_holds 156 = .ok (.iconst 0, 1) := by decide +kernel
theorem dX12_holds_157 : decode cX12_holds 157 = .ok (.ireturn, 1) := by decide +kernel
theorem dX12_holds_142 : decode cX12_holds 142 = .ok (.aload_n 0, 1) := by decide +kernel
theorem dX12_holds_143 : decode cX12_holds 143 = .ok (.iload 5, 2) := by decide +kernel
theorem dX12_holds_145 : decode cX12_holds 145 = .ok (.iload_n 2, 1) := by decide +kernel
theorem dX12_holds_146 : decode cX12_holds 146 = .ok (.invokevirtual 431, 3) := by decide +kernel
theorem dX12_holds_149 : decode cX12_holds 149 = .ok (.ifCond .eq 7, 3) := by decide +kernel
theorem dX12_holds_152 : decode cX12_holds 152 = .ok (.iconst 1, 1) := by decide +kernel
theorem dX12_holds_153 : decode cX12_holds 153 = .ok (.goto 4, 3) := by decide +kernel
theorem dX12_holds_158 : decode cX12_holds 158 = .ok (.aload_n 0, 1) := by decide +kernel
theorem dX12_holds_159 : decode cX12_holds 159 = .ok (.iload 4, 2) := by decide +kernel
theorem dX12_holds_161 : decode cX12_holds 161 = .ok (.iload_n 2, 1) := by decide +kernel
theorem dX12_holds_162 : decode cX12_holds 162 = .ok (.invokevirtual 431, 3) := by decide +kernel
theorem dX12_holds_165 : decode cX12_holds 165 = .ok (.ifCond .ne 13, 3) := by decide +kernel
theorem dX12_holds_178 : decode cX12_holds 178 = .ok (.iconst 1, 1) := by decide +kernel
theorem dX12_holds_179 : decode cX12_holds 179 = .ok (.goto 4, 3) := by decide +kernel
theorem dX12_holds_183 : decode cX12_holds 183 = .ok (.ireturn, 1) := by decide +kernel
theorem dX12_holds_168 : decode cX12_holds 168 = .ok (.aload_n 0, 1) := by decide +kernel
theorem dX12_holds_169 : decode cX12_holds 169 = .ok (.iload 5, 2) := by decide +kernel
theorem dX12_holds_171 : decode cX12_holds 171 = .ok (.iload_n 2, 1) := by decide +kernel
theorem dX12_holds_172 : decode cX12_holds 172 = .ok (.invokevirtual 431, 3) := by decide +kernel
theorem dX12_holds_175 : decode cX12_holds 175 = .ok (.ifCond .eq 7, 3) := by decide +kernel
theorem dX12_holds_182 : decode cX12_holds 182 = .ok (.iconst 0, 1) := by decide +kernel
theorem dX12_holds_184 : decode cX12_holds 184 = .ok (.aload_n 0, 1) := by decide +kernel
theorem dX12_holds_185 : decode cX12_holds 185 = .ok (.iload_n 2, 1) := by decide +kernel
theorem dX12_holds_186 : decode cX12_holds 186 = .ok (.invokevirtual 255, 3) := by decide +kernel
theorem dX12_holds_189 : decode cX12_holds 189 = .ok (.ireturn, 1) := by decide +kernel
theorem dX12_holds_190 : decode cX12_holds 190 = .ok (.aload_n 0, 1) := by decide +kernel
theorem dX12_holds_191 : decode cX12_holds 191 = .ok (.iload_n 2, 1) := by decide +kernel
theorem dX12_holds_192 : decode cX12_holds 192 = .ok (.invokevirtual 261, 3) := by decide +kernel
theorem dX12_holds_195 : decode cX12_holds 195 = .ok (.ireturn, 1) := by decide +kernel
theorem dX12_holds_196 : decode cX12_holds 196 = .ok (.aload_n 0, 1) := by decide +kernel
theorem dX12_holds_197 : decode cX12_holds 197 = .ok (.iload_n 2, 1) := by decide +kernel
theorem dX12_holds_198 : decode cX12_holds 198 = .ok (.invokevirtual 264, 3) := by decide +kernel
theorem dX12_holds_201 : decode cX12_holds 201 = .ok (.ireturn, 1) := by decide +kernel
theorem dX12_holds_202 : decode cX12_holds 202 = .ok (.aload_n 0, 1) := by decide +kernel
theorem dX12_holds_203 : decode cX12_holds 203 = .ok (.iload_n 2, 1) := by decide +kernel
theorem dX12_holds_204 : decode cX12_holds 204 = .ok (.invokevirtual 249, 3) := by decide +kernel
theorem dX12_holds_207 : decode cX12_holds 207 = .ok (.ireturn, 1) := by decide +kernel
theorem dX12_holds_208 : decode cX12_holds 208 = .ok (.aload_n 0, 1) := by decide +kernel
theorem dX12_holds_209 : decode cX12_holds 209 = .ok (.iload 4, 2) := by decide +kernel
theorem dX12_holds_211 : decode cX12_holds 211 = .ok (.invokevirtual 307, 3) := by decide +kernel
theorem dX12_holds_214 : decode cX12_holds 214 = .ok (.iload_n 2, 1) := by decide +kernel
theorem dX12_holds_215 : decode cX12_holds 215 = .ok (.invokestatic 206, 3) := by decide +kernel
theorem dX12_holds_218 : decode cX12_holds 218 = .ok (.ireturn, 1) := by decide +kernel
theorem dX12_holds_219 : decode cX12_holds 219 = .ok (.aload_n 0, 1) := by decide +kernel
theorem dX12_holds_220 : decode cX12_holds 220 = .ok (.getfield 98, 3) := by decide +kernel
theorem dX12_holds_223 : decode cX12_holds 223 = .ok (.bipush 44, 2) := by decide +kernel
theorem dX12_holds_225 : decode cX12_holds 225 = .ok (.iload 4, 2) := by decide +kernel
theorem dX12_holds_227 : decode cX12_holds 227 = .ok (.iadd, 1) := by decide +kernel
theorem dX12_holds_228 : decode cX12_holds 228 = .ok (.iaload, 1) := by decide +kernel
theorem dX12_holds_229 : decode cX12_holds 229 = .ok (.iload_n 2, 1) := by decide +kernel
theorem dX12_holds_230 : decode cX12_holds 230 = .ok (.invokestatic 206, 3) := by decide +kernel
theorem dX12_holds_233 : decode cX12_holds 233 = .ok (.ireturn, 1) := by decide +kernel
theorem dX12_holds_234 : decode cX12_holds 234 = .ok (.aload_n 0, 1) := by decide +kernel
theorem dX12_holds_235 : decode cX12_holds 235 = .ok (.getfield 98, 3) := by decide +kernel
theorem dX12_holds_238 : decode cX12_holds 238 = .ok (.iload_n 3, 1) := by decide +kernel
theorem dX12_holds_239 : decode cX12_holds 239 = .ok (.iaload, 1) := by decide +kernel
theorem dX12_holds_240 : decode cX12_holds 240 = .ok (.bipush 50, 2) := by decide +kernel
theorem dX12_holds_242 : decode cX12_holds 242 = .ok (.isub, 1) := by decide +kernel
theorem dX12_holds_243 : decode cX12_holds 243 = .ok (.istore 6, 2) := by decide +kernel
theorem dX12_holds_245 : decode cX12_holds 245 = .ok (.iload 6, 2) := by decide +kernel
theorem dX12_holds_247 : decode cX12_holds 247 = .ok (.bipush 24, 2) := by decide +kernel
theorem dX12_holds_249 : decode cX12_holds 249 = .ok (.if_icmp .ne 15, 3) := by decide +kernel
theorem dX12_holds_264 : decode cX12_holds 264 = .ok (.iload 6, 2) := by decide +kernel
theorem dX12_holds_266 : decode cX12_holds 266 = .ok (.bipush 25, 2) := by decide +kernel
theorem dX12_holds_268 : decode cX12_holds 268 = .ok (.if_icmp .ne 11, 3) := by decide +kernel
theorem dX12_holds_279 : decode cX12_holds 279 = .ok (.iload_n 2, 1) := by decide +kernel
theorem dX12_holds_280 : decode cX12_holds 280 = .ok (.istore 7, 2) := by decide +kernel
theorem dX12_holds_282 : decode cX12_holds 282 = .ok (.aload_n 0, 1) := by decide +kernel
theorem dX12_holds_283 : decode cX12_holds 283 = .ok (.getfield 98, 3) := by decide +kernel
theorem dX12_holds_286 : decode cX12_holds 286 = .ok (.iload_n 3, 1) := by decide +kernel
theorem dX12_holds_287 : decode cX12_holds 287 = .ok (.iconst 3, 1) := by decide +kernel
theorem dX12_holds_288 : decode cX12_holds 288 = .ok (.iadd, 1) := by decide +kernel
theorem dX12_holds_289 : decode cX12_holds 289 = .ok (.iaload, 1) := by decide +kernel
theorem dX12_holds_290 : decode cX12_holds 290 = .ok (.bipush 60, 2) := by decide +kernel
theorem dX12_holds_292 : decode cX12_holds 292 = .ok (.if_icmp .ne 18, 3) := by decide +kernel
theorem dX12_holds_310 : decode cX12_holds 310 = .ok (.aload_n 0, 1) := by decide +kernel
theorem dX12_holds_311 : decode cX12_holds 311 = .ok (.getfield 98, 3) := by decide +kernel
theorem dX12_holds_314 : decode cX12_holds 314 = .ok (.iload_n 3, 1) := by decide +kernel
theorem dX12_holds_315 : decode cX12_holds 315 = .ok (.iconst 3, 1) := by decide +kernel
theorem dX12_holds_316 : decode cX12_holds 316 = .ok (.iadd, 1) := by decide +kernel
theorem dX12_holds_317 : decode cX12_holds 317 = .ok (.iaload, 1) := by decide +kernel
theorem dX12_holds_318 : decode cX12_holds 318 = .ok (.bipush 61, 2) := by decide +kernel
theorem dX12_holds_320 : decode cX12_holds 320 = .ok (.if_icmp .ne 18, 3) := by decide +kernel
theorem dX12_holds_338 : decode cX12_holds 338 = .ok (.iload 7, 2) := by decide +kernel
theorem dX12_holds_340 : decode cX12_holds 340 = .ok (.iload 5, 2) := by decide +kernel
theorem dX12_holds_342 : decode cX12_holds 342 = .ok (.if_icmp .le 7, 3) := by decide +kernel
theorem dX12_holds_349 : decode cX12_holds 349 = .ok (.iconst 0, 1) := by decide +kernel
theorem dX12_holds_350 : decode cX12_holds 350 = .ok (.ireturn, 1) := by decide +kernel
theorem dX12_holds_345 : decode cX12_holds 345 = .ok (.iconst 1, 1) := by decide +kernel
theorem dX12_holds_346 : decode cX12_holds 346 = .ok (.goto 4, 3) := by decide +kernel
theorem dX12_holds_323 : decode cX12_holds 323 = .ok (.iload 7, 2) := by decide +kernel
theorem dX12_holds_325 : decode cX12_holds 325 = .ok (.iload 5, 2) := by decide +kernel
theorem dX12_holds_327 : decode cX12_holds 327 = .ok (.if_icmp .ne 7, 3) := by decide +kernel
theorem dX12_holds_334 : decode cX12_holds 334 = .ok (.iconst 0, 1) := by decide +kernel
theorem dX12_holds_335 : decode cX12_holds 335 = .ok (.goto 15, 3) := by decide +kernel
theorem dX12_holds_330 : decode cX12_holds 330 = .ok (.iconst 1, 1) := by decide +kernel
theorem dX12_holds_331 : decode cX12_holds 331 = .ok (.goto 19, 3) := by decide +kernel
theorem dX12_holds_295 : decode cX12_holds 295 = .ok (.iload 7, 2) := by decide +kernel
theorem dX12_holds_297 : decode cX12_holds 297 = .ok (.iload 5, 2) := by decide +kernel
theorem dX12_holds_299 : decode cX12_holds 299 = .ok (.if_icmp .ge 7, 3) := by decide +kernel
theorem dX12_holds_306 : decode cX12_holds 306 = .ok (.iconst 0, 1) := by decide +kernel
theorem dX12_holds_307 : decode cX12_holds 307 = .ok (.goto 43, 3) := by decide +kernel
theorem dX12_holds_302 : decode cX12_holds 302 = .ok (.iconst 1, 1) := by decide +kernel
theorem dX12_holds_303 : decode cX12_holds 303 = .ok (.goto 47, 3) := by decide +kernel
theorem dX12_holds_271 : decode cX12_holds 271 = .ok (.aload_n 0, 1) := by decide +kernel
theorem dX12_holds_272 : decode cX12_holds 272 = .ok (.iload_n 2, 1) := by decide +kernel
theorem dX12_holds_273 : decode cX12_holds 273 = .ok (.invokevirtual 246, 3) := by decide +kernel
theorem dX12_holds_276 : decode cX12_holds 276 = .ok (.goto 4, 3) := by decide +kernel
theorem dX12_holds_252 : decode cX12_holds 252 = .ok (.aload_n 0, 1) := by decide +kernel
theorem dX12_holds_253 : decode cX12_holds 253 = .ok (.getfield 98, 3) := by decide +kernel
theorem dX12_holds_256 : decode cX12_holds 256 = .ok (.bipush 75, 2) := by decide +kernel
theorem dX12_holds_258 : decode cX12_holds 258 = .ok (.iload_n 2, 1) := by decide +kernel
theorem dX12_holds_259 : decode cX12_holds 259 = .ok (.iadd, 1) := by decide +kernel
theorem dX12_holds_260 : decode cX12_holds 260 = .ok (.iaload, 1) := by decide +kernel
theorem dX12_holds_261 : decode cX12_holds 261 = .ok (.goto 19, 3) := by decide +kernel
theorem dX12_said_0 : decode cX12_said 0 = .ok (.aload_n 0, 1) := by decide +kernel
theorem dX12_said_1 : decode cX12_said 1 = .ok (.iconst 0, 1) := by decide +kernel
theorem dX12_said_2 : decode cX12_said 2 = .ok (.putfield 1, 3) := by decide +kernel
theorem dX12_said_5 : decode cX12_said 5 = .ok (.aload_n 0, 1) := by decide +kernel
theorem dX12_said_6 : decode cX12_said 6 = .ok (.getfield 98, 3) := by decide +kernel
theorem dX12_said_9 : decode cX12_said 9 = .ok (.bipush 87, 2) := by decide +kernel
theorem dX12_said_11 : decode cX12_said 11 = .ok (.iaload, 1) := by decide +kernel
theorem dX12_said_12 : decode cX12_said 12 = .ok (.ifCond .ne 5, 3) := by decide +kernel
theorem dX12_said_17 : decode cX12_said 17 = .ok (.iconst 0, 1) := by decide +kernel
theorem dX12_said_18 : decode cX12_said 18 = .ok (.istore_n 2, 1) := by decide +kernel
theorem dX12_said_19 : decode cX12_said 19 = .ok (.iconst 0, 1) := by decide +kernel
theorem dX12_said_20 : decode cX12_said 20 = .ok (.istore_n 3, 1) := by decide +kernel
theorem dX12_said_21 : decode cX12_said 21 = .ok (.iload_n 3, 1) := by decide +kernel
theorem dX12_said_22 : decode cX12_said 22 = .ok (.aload_n 0, 1) := by decide +kernel
theorem dX12_said_23 : decode cX12_said 23 = .ok (.getfield 98, 3) := by decide +kernel
theorem dX12_said_26 : decode cX12_said 26 = .ok (.iconst 0, 1) := by decide +kernel
theorem dX12_said_27 : decode cX12_said 27 = .ok (.iaload, 1) := by decide +kernel
theorem dX12_said_28 : decode cX12_said 28 = .ok (.if_icmp .ge 37, 3) := by decide +kernel
theorem dX12_said_65 : decode cX12_said 65 = .ok (.iload_n 1, 1) := by decide +kernel
theorem dX12_said_66 : decode cX12_said 66 = .ok (.iconst (-1), 1) := by decide +kernel
theorem dX12_said_67 : decode cX12_said 67 = .ok (.if_icmp .ne 7, 3) := by decide +kernel
theorem dX12_said_74 : decode cX12_said 74 = .ok (.iconst (-1), 1) := by decide +kernel
theorem dX12_said_75 : decode cX12_said 75 = .ok (.ireturn, 1) := by decide +kernel
theorem dX12_said_70 : decode cX12_said 70 = .ok (.iload_n 2, 1) := by decide +kernel
theorem dX12_said_71 : decode cX12_said 71 = .ok (.goto 4, 3) := by decide +kernel
theorem dX12_said_31 : decode cX12_said 31 = .ok (.aload_n 0, 1) := by decide +kernel
theorem dX12_said_32 : decode cX12_said 32 = .ok (.aload_n 0, 1) := by decide +kernel
theorem dX12_said_33 : decode cX12_said 33 = .ok (.getfield 98, 3) := by decide +kernel
theorem dX12_said_36 : decode cX12_said 36 = .ok (.bipush 88, 2) := by decide +kernel
theorem dX12_said_38 : decode cX12_said 38 = .ok (.iaload, 1) := by decide +kernel
theorem dX12_said_39 : decode cX12_said 39 = .ok (.iload_n 3, 1) := by decide +kernel
theorem dX12_said_40 : decode cX12_said 40 = .ok (.invokevirtual 431, 3) := by decide +kernel
theorem dX12_said_43 : decode cX12_said 43 = .ok (.ifCond .ne 6, 3) := by decide +kernel
theorem dX12_said_49 : decode cX12_said 49 = .ok (.iload_n 2, 1) := by decide +kernel
theorem dX12_said_50 : decode cX12_said 50 = .ok (.iload_n 1, 1) := by decide +kernel
theorem dX12_said_51 : decode cX12_said 51 = .ok (.if_icmp .ne 5, 3) := by decide +kernel
theorem dX12_said_56 : decode cX12_said 56 = .ok (.iinc 2 1, 3) := by decide +kernel
theorem dX12_said_59 : decode cX12_said 59 = .ok (.iinc 3 1, 3) := by decide +kernel
theorem dX12_said_62 : decode cX12_said 62 = .ok (.goto (-41), 3) := by decide +kernel
theorem dX12_said_54 : decode cX12_said 54 = .ok (.iload_n 3, 1) := by decide +kernel
theorem dX12_said_55 : decode cX12_said 55 = .ok (.ireturn, 1) := by decide +kernel
theorem dX12_said_46 : decode cX12_said 46 = .ok (.goto 13, 3) := by decide +kernel
theorem dX12_said_15 : decode cX12_said 15 = .ok (.iconst (-1), 1) := by decide +kernel
theorem dX12_said_16 : decode cX12_said 16 = .ok (.ireturn, 1) := by decide +kernel
set_option maxRecDepth 100000 in
set_option maxHeartbeats 4000000 in
theorem c216_X12_holds (l : Launch) (D : va_G) (T : Nat → ClassId) (a0 : Nat) (r0 : Int32) (a1 : Nat) (x2 : Int) (x3 : Int) (x4 : Int) (x5 : Int) (x6 : Int) (x7 : Int) (r1 : Int32) (x8 : Int) (x9 : Int) (x10 : Int) (y0 : Int64) (x11 : Int) (a2 : Nat) (a3 : Nat) (a4 : Nat) (a5 : Nat) (a6 : Nat) (a7 : Nat) (a8 : Nat) (a9 : Nat) (a10 : Nat) (a11 : Nat) (x12 : Int) (a12 : Nat) (a13 : Nat) (a14 : Nat) (a15 : Nat) (x13 : Int) (r2 : Int32) (r3 : Int32) (a16 : Nat) (x14 : Int) (x15 : Int) (a17 : Nat) (a18 : Nat) (x16 : Int) (a19 : Nat) (x17 : Int) (r4 : Int32) (a20 : Nat) (a21 : Nat) (x18 : Int) (r5 : Int32) (a22 : Nat) (x19 : Int) (x20 : Int) (x21 : Int) (x22 : Int) (f0 : Int → Int) (x2_a : 0 ≤ x2) (x2_b : x2 ≤ 940) (x3_a : 0 ≤ x3) (x3_b : x3 ≤ 940) (x4_a : 0 ≤ x4) (x4_b : x4 ≤ 940) (x5_a : 0 ≤ x5) (x5_b : x5 ≤ 940) (x6_a : 0 ≤ x6) (x6_b : x6 ≤ 940) (x7_a : 0 ≤ x7) (x7_b : x7 ≤ 4) (x8_a : (-2147483648) ≤ x8) (x8_b : x8 ≤ 2147483647) (x9_a : (-2147483648) ≤ x9) (x9_b : x9 ≤ 2147483647) (x10_a : 0 ≤ x10) (x10_b : x10 ≤ 940) (x11_a : (-2147483648) ≤ x11) (x11_b : x11 ≤ 2147483647) (x12_a : 0 ≤ x12) (x12_b : x12 ≤ 8) (x13_a : 0 ≤ x13) (x13_b : x13 ≤ 9) (x14_a : (-1) ≤ x14) (x14_b : x14 ≤ 9) (x15_a : (-1) ≤ x15) (x15_b : x15 ≤ 8) (x16_a : 0 ≤ x16) (x16_b : x16 ≤ 9) (x17_a : 0 ≤ x17) (x17_b : x17 ≤ 64) (x18_a : 0 ≤ x18) (x18_b : x18 ≤ 40) (x19_a : 0 ≤ x19) (x19_b : x19 ≤ 40) (x20_a : 0 ≤ x20) (x20_b : x20 ≤ 20) (x21_a : 0 ≤ x21) (x21_b : x21 ≤ 8) (x22_a : 0 ≤ x22) (x22_b : x22 ≤ 39) (f0_h : nowI f0) : ∀ (n : Nat) (sz : Nat) (x0 : Int) (x1 : Int), 0 ≤ x0 → x0 < (n : Int) → x0 ≤ 39 → 0 ≤ x1 → x1 ≤ 8 → Met l yX12_holds (Cond.code yX12_holds cX12_holds 8 (some .boolean) :: GW) (Rm (n + 2) 0 0) (cPre [.ref a0, .int (iI x0), .int (iI x1)] D T [(a0, .inr (11, [.int r0, .ref a1, .int (iI x2), .int (iI x3), .int (iI x4), .int (iI x5), .int (iI x6), .int (iI x7), .int r1, .int (iI x8), .int (iI x9), .int (iI x10), .long y0, .int (iI x11), .ref a2, .ref a3, .ref a4, .ref a5, .ref a6, .ref a7, .ref a8, .ref a9, .ref a10, .ref a11, .int (iI x12), .ref a12, .ref a13, .ref a14, .ref a15, .int (iI x13), .int r2, .int r3, .ref a16, .int (iI x14), .int (iI x15), .ref a17, .ref a18, .int (iI x16), .ref a19, .int (iI x17), .int r4, .ref a20, .ref a21, .int (iI x18), .int r5, .ref a22, .int (iI x19), .int (iI x20), .int (iI x21), .int (iI x22)])), (a2, .inl (T 0, 329, .inl (cI f0)))] sz) (qI D [(a0, .inr (11, [.int r0, .ref a1, .int (iI x2), .int (iI x3), .int (iI x4), .int (iI x5), .int (iI x6), .int (iI x7), .int r1, .int (iI x8), .int (iI x9), .int (iI x10), .long y0, .int (iI x11), .ref a2, .ref a3, .ref a4, .ref a5, .ref a6, .ref a7, .ref a8, .ref a9, .ref a10, .ref a11, .int (iI x12), .ref a12, .ref a13, .ref a14, .ref a15, .int (iI x13), .int r2, .int r3, .ref a16, .int (iI x14), .int (iI x15), .ref a17, .ref a18, .int (iI x16), .ref a19, .int (iI x17), .int r4, .ref a20, .ref a21, .int (iI x18), .int r5, .ref a22, .int (iI x19), .int (iI x20), .int (iI x21), .int (iI x22)])), (a2, .inl (T 0, 329, .inl (cI f0)))] sz (fun (v : Int32) (u : Int) => iI u = v ∧ 0 ≤ u ∧ u ≤ 1) (fun u => [(a0, .inr (11, [.int r0, .ref a1, .int (iI x2), .int (iI x3), .int (iI x4), .int (iI x5), .int (iI x6), .int (iI x7), .int r1, .int (iI x8), .int (iI x9), .int (iI x10), .long y0, .int (iI x11), .ref a2, .ref a3, .ref a4, .ref a5, .ref a6, .ref a7, .ref a8, .ref a9, .ref a10, .ref a11, .int (iI x12), .ref a12, .ref a13, .ref a14, .ref a15, .int (iI x13), .int r2, .int r3, .ref a16, .int (iI x14), .int (iI x15), .ref a17, .ref a18, .int (iI x16), .ref a19, .int (iI x17), .int r4, .ref a20, .ref a21, .int (iI x18), .int r5, .ref a22, .int (iI x19), .int (iI x20), .int (iI x21), .int (iI x22)])), (a2, .inl (T 0, 329, .inl (cI f0)))])) 0 0 (va_A [(a0, .inr (11, [.int r0, .ref a1, .int (iI x2), .int (iI x3), .int (iI x4), .int (iI x5), .int (iI x6), .int (iI x7), .int r1, .int (iI x8), .int (iI x9), .int (iI x10), .long y0, .int (iI x11), .ref a2, .ref a3, .ref a4, .ref a5, .ref a6, .ref a7, .ref a8, .ref a9, .ref a10, .ref a11, .int (iI x12), .ref a12, .ref a13, .ref a14, .ref a15, .int (iI x13), .int r2, .int r3, .ref a16, .int (iI x14), .int (iI x15), .ref a17, .ref a18, .int (iI x16), .ref a19, .int (iI x17), .int r4, .ref a20, .ref a21, .int (iI x18), .int r5, .ref a22, .int (iI x19), .int (iI x20), .int (iI x21), .int (iI x22)])), (a2, .inl (T 0, 329, .inl (cI f0)))] sz) := by
  intro n
  induction n with
  | zero => intro sz x0 x1 x0_a x0_n; omega
  | succ n ih =>
    intro sz x0 x1 x0_a x0_n x0_b x1_a x1_b
    have x0_m : x0 < (n : Int) + 1 := by omega
    refine e_Z (by decide) (Nat.le_of_ble_eq_true rfl) ?_
    intro p e s m args below meth c A Q ls M hin w ret hl
    have hx := M.1.1
    have hb := M.1.2.1
    have hl : lv_has ls 8 [(0, .ref a0), (1, .int (iI x0)), (2, .int (iI x1))] := hl
    refine lv_bipush (v := iI 89) hx hb dX12_holds_0 (by decide +kernel) ?_
    refine lv_iconst (v := iI 4) hx hb dX12_holds_2 (by decide +kernel) ?_
    refine lv_iload_n hx hb dX12_holds_3 rfl (lv_at hl 1 rfl) ?_
    refine r_imul (v := iI (4 * x0)) M (iI_mul _ _) dX12_holds_4 ?_
    refine r_iadd (v := iI (89 + (4 * x0))) M (iI_add _ _) dX12_holds_5 ?_
    refine lv_istore_n (lv' := [(3, .int (iI (89 + (4 * x0)))), (0, .ref a0), (1, .int (iI x0)), (2, .int (iI x1))]) hx hb dX12_holds_6 rfl hl (by decide) rfl (fun ls hl => ?_)
    refine lv_aload_n hx hb dX12_holds_7 rfl (lv_at hl 1 rfl) ?_
    refine r_get (v := .ref a2) M w 0 14 clX12 rfl (by decide) G1477 rfl rfl dX12_holds_8 ?_
    refine lv_iload_n hx hb dX12_holds_11 rfl (lv_at hl 0 rfl) ?_
    refine lv_iconst (v := iI 1) hx hb dX12_holds_12 (by decide +kernel) ?_
    refine r_iadd (v := iI ((89 + (4 * x0)) + 1)) M (iI_add _ _) dX12_holds_13 ?_
    refine r_iald (v := iI (f0 ((89 + (4 * x0)) + 1))) M w 1 rfl (iI_in (by omega) (by omega) (by decide)) (cI_at (by omega) (by omega)) dX12_holds_14 ?_
    have hh1 : (-2147483648) ≤ (f0 ((89 + (4 * x0)) + 1)) ∧ (f0 ((89 + (4 * x0)) + 1)) ≤ 2147483647 := f0_h.1 ((89 + (4 * x0)) + 1)
    refine lv_istore (lv' := [(4, .int (iI (f0 ((89 + (4 * x0)) + 1)))), (3, .int (iI (89 + (4 * x0)))), (0, .ref a0), (1, .int (iI x0)), (2, .int (iI x1))]) hx hb dX12_holds_15 hl (by decide) rfl (fun ls hl => ?_)
    refine lv_aload_n hx hb dX12_holds_17 rfl (lv_at hl 2 rfl) ?_
    refine r_get (v := .ref a2) M w 0 14 clX12 rfl (by decide) G1477 rfl rfl dX12_holds_18 ?_
    refine lv_iload_n hx hb dX12_holds_21 rfl (lv_at hl 1 rfl) ?_
    refine lv_iconst (v := iI 2) hx hb dX12_holds_22 (by decide +kernel) ?_
    refine r_iadd (v := iI ((89 + (4 * x0)) + 2)) M (iI_add _ _) dX12_holds_23 ?_
    refine r_iald (v := iI (f0 ((89 + (4 * x0)) + 2))) M w 1 rfl (iI_in (by omega) (by omega) (by decide)) (cI_at (by omega) (by omega)) dX12_holds_24 ?_
    have hh2 : (-2147483648) ≤ (f0 ((89 + (4 * x0)) + 2)) ∧ (f0 ((89 + (4 * x0)) + 2)) ≤ 2147483647 := f0_h.1 ((89 + (4 * x0)) + 2)
    refine lv_istore (lv' := [(5, .int (iI (f0 ((89 + (4 * x0)) + 2)))), (4, .int (iI (f0 ((89 + (4 * x0)) + 1)))), (3, .int (iI (89 + (4 * x0)))), (0, .ref a0), (1, .int (iI x0)), (2, .int (iI x1))]) hx hb dX12_holds_25 hl (by decide) rfl (fun ls hl => ?_)
    refine lv_aload_n hx hb dX12_holds_27 rfl (lv_at hl 3 rfl) ?_
    refine r_get (v := .ref a2) M w 0 14 clX12 rfl (by decide) G1477 rfl rfl dX12_holds_28 ?_
    refine lv_iload_n hx hb dX12_holds_31 rfl (lv_at hl 2 rfl) ?_
    refine r_iald (v := iI (f0 (89 + (4 * x0)))) M w 1 rfl (iI_in (by omega) (by omega) (by decide)) (cI_at (by omega) (by omega)) dX12_holds_32 ?_
    have hh3 : (-2147483648) ≤ (f0 (89 + (4 * x0))) ∧ (f0 (89 + (4 * x0))) ≤ 2147483647 := f0_h.1 (89 + (4 * x0))
    have hk9 := f0_h.2.2.2 x0 (by omega) (by omega)
    unfold nok at hk9
    by_cases c_4 : (f0 (89 + (4 * x0))) = 1
    · refine lv_lookup (off := 83) (tgt := 116) hx hb dX12_holds_33 (by decide +kernel) (by rw [c_4]; decide +kernel) (by decide) ?_
      refine lv_aload_n hx hb dX12_holds_116 rfl (lv_at hl 3 rfl) ?_
      refine lv_iload hx hb dX12_holds_117 (lv_at hl 1 rfl) ?_
      refine lv_iload_n hx hb dX12_holds_119 rfl (lv_at hl 5 rfl) ?_
      refine k_I (ce := 0) (sl := 0) (rest := []) (wr := []) (r_V (f := n + 2) [0, 1] M w V_HookedCityModel_431 G2053 G117 (ih _ (f0 ((89 + (4 * x0)) + 1)) x1 (by omega) (by omega) (by omega) (by omega) (by omega)) 0 clX12 rfl rfl (by decide) rfl hl.1 rfl (Nat.le_of_ble_eq_true rfl) dX12_holds_120 (by show n + 2 + 1 ≤ n + 1 + 2; omega) (by show 8 + (8 + 11) + 60 * (n + 2) ≤ 60 * (n + 1 + 2); omega) (Nat.le_refl 0) (Nat.le_refl 0)) w [0, 1] [] rfl rfl (by decide) (by decide) rfl rfl (fun v z5 H locs hp w => ?_)
      have hv : iI z5 = v := hp.1
      subst hv
      have z5_a : 0 ≤ z5 := hp.2.1
      have z5_b : z5 ≤ 1 := hp.2.2
      have w : WD D A s.heap [(a0, .inr (11, [.int r0, .ref a1, .int (iI x2), .int (iI x3), .int (iI x4), .int (iI x5), .int (iI x6), .int (iI x7), .int r1, .int (iI x8), .int (iI x9), .int (iI x10), .long y0, .int (iI x11), .ref a2, .ref a3, .ref a4, .ref a5, .ref a6, .ref a7, .ref a8, .ref a9, .ref a10, .ref a11, .int (iI x12), .ref a12, .ref a13, .ref a14, .ref a15, .int (iI x13), .int r2, .int r3, .ref a16, .int (iI x14), .int (iI x15), .ref a17, .ref a18, .int (iI x16), .ref a19, .int (iI x17), .int r4, .ref a20, .ref a21, .int (iI x18), .int r5, .ref a22, .int (iI x19), .int (iI x20), .int (iI x21), .int (iI x22)])), (a2, .inl (T 0, 329, .inl (cI f0)))] H locs := w
      refine lv_if_ne (tgt := 130) hx hb dX12_holds_123 (by decide) (fun c_6 => ?_) (fun c_6 => ?_)
      · replace c_6 : ¬ z5 = 0 := fun h => c_6 ((iz_eq (Int.le_trans (by decide) z5_a) (Int.le_trans z5_b (by decide))).mpr h)
        refine lv_iconst (v := iI 0) hx hb dX12_holds_130 (by decide +kernel) ?_
        exact ret _ 0 _ _ _ _ _ [0, 1] dX12_holds_131 (by decide +kernel) ⟨rfl, (show (0 : Int) ≤ 0 from by decide), (show (0 : Int) ≤ 1 from by decide)⟩ w (by decide) rfl
      · replace c_6 := (iz_eq (Int.le_trans (by decide) z5_a) (Int.le_trans z5_b (by decide))).mp c_6
        refine lv_iconst (v := iI 1) hx hb dX12_holds_126 (by decide +kernel) ?_
        refine lv_goto (tgt := 131) hx hb dX12_holds_127 (by decide) ?_
        exact ret _ 1 _ _ _ _ _ [0, 1] dX12_holds_131 (by decide +kernel) ⟨rfl, (show (0 : Int) ≤ 1 from by decide), (show (1 : Int) ≤ 1 from by decide)⟩ w (by decide) rfl
    by_cases c_7 : (f0 (89 + (4 * x0))) = 2
    · refine lv_lookup (off := 99) (tgt := 132) hx hb dX12_holds_33 (by decide +kernel) (by rw [c_7]; decide +kernel) (by decide) ?_
      refine lv_aload_n hx hb dX12_holds_132 rfl (lv_at hl 3 rfl) ?_
      refine lv_iload hx hb dX12_holds_133 (lv_at hl 1 rfl) ?_
      refine lv_iload_n hx hb dX12_holds_135 rfl (lv_at hl 5 rfl) ?_
      refine k_I (ce := 0) (sl := 0) (rest := []) (wr := []) (r_V (f := n + 2) [0, 1] M w V_HookedCityModel_431 G2053 G117 (ih _ (f0 ((89 + (4 * x0)) + 1)) x1 (by omega) (by omega) (by omega) (by omega) (by omega)) 0 clX12 rfl rfl (by decide) rfl hl.1 rfl (Nat.le_of_ble_eq_true rfl) dX12_holds_136 (by show n + 2 + 1 ≤ n + 1 + 2; omega) (by show 8 + (8 + 11) + 60 * (n + 2) ≤ 60 * (n + 1 + 2); omega) (Nat.le_refl 0) (Nat.le_refl 0)) w [0, 1] [] rfl rfl (by decide) (by decide) rfl rfl (fun v z8 H locs hp w => ?_)
      have hv : iI z8 = v := hp.1
      subst hv
      have z8_a : 0 ≤ z8 := hp.2.1
      have z8_b : z8 ≤ 1 := hp.2.2
      have w : WD D A s.heap [(a0, .inr (11, [.int r0, .ref a1, .int (iI x2), .int (iI x3), .int (iI x4), .int (iI x5), .int (iI x6), .int (iI x7), .int r1, .int (iI x8), .int (iI x9), .int (iI x10), .long y0, .int (iI x11), .ref a2, .ref a3, .ref a4, .ref a5, .ref a6, .ref a7, .ref a8, .ref a9, .ref a10, .ref a11, .int (iI x12), .ref a12, .ref a13, .ref a14, .ref a15, .int (iI x13), .int r2, .int r3, .ref a16, .int (iI x14), .int (iI x15), .ref a17, .ref a18, .int (iI x16), .ref a19, .int (iI x17), .int r4, .ref a20, .ref a21, .int (iI x18), .int r5, .ref a22, .int (iI x19), .int (iI x20), .int (iI x21), .int (iI x22)])), (a2, .inl (T 0, 329, .inl (cI f0)))] H locs := w
      refine lv_if_eq (tgt := 156) hx hb dX12_holds_139 (by decide) (fun c_9 => ?_) (fun c_9 => ?_)
      · replace c_9 := (iz_eq (Int.le_trans (by decide) z8_a) (Int.le_trans z8_b (by decide))).mp c_9
        refine lv_iconst (v := iI 0) hx hb dX12_holds_156 (by decide +kernel) ?_
        exact ret _ 0 _ _ _ _ _ [0, 1] dX12_holds_157 (by decide +kernel) ⟨rfl, (show (0 : Int) ≤ 0 from by decide), (show (0 : Int) ≤ 1 from by decide)⟩ w (by decide) rfl
      · replace c_9 : ¬ z8 = 0 := fun h => c_9 ((iz_eq (Int.le_trans (by decide) z8_a) (Int.le_trans z8_b (by decide))).mpr h)
        refine lv_aload_n hx hb dX12_holds_142 rfl (lv_at hl 3 rfl) ?_
        refine lv_iload hx hb dX12_holds_143 (lv_at hl 0 rfl) ?_
        refine lv_iload_n hx hb dX12_holds_145 rfl (lv_at hl 5 rfl) ?_
        refine k_I (ce := 0) (sl := 0) (rest := []) (wr := []) (r_V (f := n + 2) [0, 1] M w V_HookedCityModel_431 G2053 G117 (ih _ (f0 ((89 + (4 * x0)) + 2)) x1 (by omega) (by omega) (by omega) (by omega) (by omega)) 0 clX12 rfl rfl (by decide) rfl hl.1 rfl (Nat.le_of_ble_eq_true rfl) dX12_holds_146 (by show n + 2 + 1 ≤ n + 1 + 2; omega) (by show 8 + (8 + 11) + 60 * (n + 2) ≤ 60 * (n + 1 + 2); omega) (Nat.le_refl 0) (Nat.le_refl 0)) w [0, 1] [] rfl rfl (by decide) (by decide) rfl rfl (fun v z10 H locs hp w => ?_)
        have hv : iI z10 = v := hp.1
        subst hv
        have z10_a : 0 ≤ z10 := hp.2.1
        have z10_b : z10 ≤ 1 := hp.2.2
        have w : WD D A s.heap [(a0, .inr (11, [.int r0, .ref a1, .int (iI x2), .int (iI x3), .int (iI x4), .int (iI x5), .int (iI x6), .int (iI x7), .int r1, .int (iI x8), .int (iI x9), .int (iI x10), .long y0, .int (iI x11), .ref a2, .ref a3, .ref a4, .ref a5, .ref a6, .ref a7, .ref a8, .ref a9, .ref a10, .ref a11, .int (iI x12), .ref a12, .ref a13, .ref a14, .ref a15, .int (iI x13), .int r2, .int r3, .ref a16, .int (iI x14), .int (iI x15), .ref a17, .ref a18, .int (iI x16), .ref a19, .int (iI x17), .int r4, .ref a20, .ref a21, .int (iI x18), .int r5, .ref a22, .int (iI x19), .int (iI x20), .int (iI x21), .int (iI x22)])), (a2, .inl (T 0, 329, .inl (cI f0)))] H locs := w
        refine lv_if_eq (tgt := 156) hx hb dX12_holds_149 (by decide) (fun c_11 => ?_) (fun c_11 => ?_)
        · replace c_11 := (iz_eq (Int.le_trans (by decide) z10_a) (Int.le_trans z10_b (by decide))).mp c_11
          refine lv_iconst (v := iI 0) hx hb dX12_holds_156 (by decide +kernel) ?_
          exact ret _ 0 _ _ _ _ _ [0, 1] dX12_holds_157 (by decide +kernel) ⟨rfl, (show (0 : Int) ≤ 0 from by decide), (show (0 : Int) ≤ 1 from by decide)⟩ w (by decide) rfl
        · replace c_11 : ¬ z10 = 0 := fun h => c_11 ((iz_eq (Int.le_trans (by decide) z10_a) (Int.le_trans z10_b (by decide))).mpr h)
          refine lv_iconst (v := iI 1) hx hb dX12_holds_152 (by decide +kernel) ?_
          refine lv_goto (tgt := 157) hx hb dX12_holds_153 (by decide) ?_
          exact ret _ 1 _ _ _ _ _ [0, 1] dX12_holds_157 (by decide +kernel) ⟨rfl, (show (0 : Int) ≤ 1 from by decide), (show (1 : Int) ≤ 1 from by decide)⟩ w (by decide) rfl
    by_cases c_12 : (f0 (89 + (4 * x0))) = 3
    · refine lv_lookup (off := 125) (tgt := 158) hx hb dX12_holds_33 (by decide +kernel) (by rw [c_12]; decide +kernel) (by decide) ?_
      refine lv_aload_n hx hb dX12_holds_158 rfl (lv_at hl 3 rfl) ?_
      refine lv_iload hx hb dX12_holds_159 (lv_at hl 1 rfl) ?_
      refine lv_iload_n hx hb dX12_holds_161 rfl (lv_at hl 5 rfl) ?_
      refine k_I (ce := 0) (sl := 0) (rest := []) (wr := []) (r_V (f := n + 2) [0, 1] M w V_HookedCityModel_431 G2053 G117 (ih _ (f0 ((89 + (4 * x0)) + 1)) x1 (by omega) (by omega) (by omega) (by omega) (by omega)) 0 clX12 rfl rfl (by decide) rfl hl.1 rfl (Nat.le_of_ble_eq_true rfl) dX12_holds_162 (by show n + 2 + 1 ≤ n + 1 + 2; omega) (by show 8 + (8 + 11) + 60 * (n + 2) ≤ 60 * (n + 1 + 2); omega) (Nat.le_refl 0) (Nat.le_refl 0)) w [0, 1] [] rfl rfl (by decide) (by decide) rfl rfl (fun v z13 H locs hp w => ?_)
      have hv : iI z13 = v := hp.1
      subst hv
      have z13_a : 0 ≤ z13 := hp.2.1
      have z13_b : z13 ≤ 1 := hp.2.2
      have w : WD D A s.heap [(a0, .inr (11, [.int r0, .ref a1, .int (iI x2), .int (iI x3), .int (iI x4), .int (iI x5), .int (iI x6), .int (iI x7), .int r1, .int (iI x8), .int (iI x9), .int (iI x10), .long y0, .int (iI x11), .ref a2, .ref a3, .ref a4, .ref a5, .ref a6, .ref a7, .ref a8, .ref a9, .ref a10, .ref a11, .int (iI x12), .ref a12, .ref a13, .ref a14, .ref a15, .int (iI x13), .int r2, .int r3, .ref a16, .int (iI x14), .int (iI x15), .ref a17, .ref a18, .int (iI x16), .ref a19, .int (iI x17), .int r4, .ref a20, .ref a21, .int (iI x18), .int r5, .ref a22, .int (iI x19), .int (iI x20), .int (iI x21), .int (iI x22)])), (a2, .inl (T 0, 329, .inl (cI f0)))] H locs := w
      refine lv_if_ne (tgt := 178) hx hb dX12_holds_165 (by decide) (fun c_14 => ?_) (fun c_14 => ?_)
      · replace c_14 : ¬ z13 = 0 := fun h => c_14 ((iz_eq (Int.le_trans (by decide) z13_a) (Int.le_trans z13_b (by decide))).mpr h)
        refine lv_iconst (v := iI 1) hx hb dX12_holds_178 (by decide +kernel) ?_
        refine lv_goto (tgt := 183) hx hb dX12_holds_179 (by decide) ?_
        exact ret _ 1 _ _ _ _ _ [0, 1] dX12_holds_183 (by decide +kernel) ⟨rfl, (show (0 : Int) ≤ 1 from by decide), (show (1 : Int) ≤ 1 from by decide)⟩ w (by decide) rfl
      · replace c_14 := (iz_eq (Int.le_trans (by decide) z13_a) (Int.le_trans z13_b (by decide))).mp c_14
        refine lv_aload_n hx hb dX12_holds_168 rfl (lv_at hl 3 rfl) ?_
        refine lv_iload hx hb dX12_holds_169 (lv_at hl 0 rfl) ?_
        refine lv_iload_n hx hb dX12_holds_171 rfl (lv_at hl 5 rfl) ?_
        refine k_I (ce := 0) (sl := 0) (rest := []) (wr := []) (r_V (f := n + 2) [0, 1] M w V_HookedCityModel_431 G2053 G117 (ih _ (f0 ((89 + (4 * x0)) + 2)) x1 (by omega) (by omega) (by omega) (by omega) (by omega)) 0 clX12 rfl rfl (by decide) rfl hl.1 rfl (Nat.le_of_ble_eq_true rfl) dX12_holds_172 (by show n + 2 + 1 ≤ n + 1 + 2; omega) (by show 8 + (8 + 11) + 60 * (n + 2) ≤ 60 * (n + 1 + 2); omega) (Nat.le_refl 0) (Nat.le_refl 0)) w [0, 1] [] rfl rfl (by decide) (by decide) rfl rfl (fun v z15 H locs hp w => ?_)
        have hv : iI z15 = v := hp.1
        subst hv
        have z15_a : 0 ≤ z15 := hp.2.1
        have z15_b : z15 ≤ 1 := hp.2.2
        have w : WD D A s.heap [(a0, .inr (11, [.int r0, .ref a1, .int (iI x2), .int (iI x3), .int (iI x4), .int (iI x5), .int (iI x6), .int (iI x7), .int r1, .int (iI x8), .int (iI x9), .int (iI x10), .long y0, .int (iI x11), .ref a2, .ref a3, .ref a4, .ref a5, .ref a6, .ref a7, .ref a8, .ref a9, .ref a10, .ref a11, .int (iI x12), .ref a12, .ref a13, .ref a14, .ref a15, .int (iI x13), .int r2, .int r3, .ref a16, .int (iI x14), .int (iI x15), .ref a17, .ref a18, .int (iI x16), .ref a19, .int (iI x17), .int r4, .ref a20, .ref a21, .int (iI x18), .int r5, .ref a22, .int (iI x19), .int (iI x20), .int (iI x21), .int (iI x22)])), (a2, .inl (T 0, 329, .inl (cI f0)))] H locs := w
        refine lv_if_eq (tgt := 182) hx hb dX12_holds_175 (by decide) (fun c_16 => ?_) (fun c_16 => ?_)
        · replace c_16 := (iz_eq (Int.le_trans (by decide) z15_a) (Int.le_trans z15_b (by decide))).mp c_16
          refine lv_iconst (v := iI 0) hx hb dX12_holds_182 (by decide +kernel) ?_
          exact ret _ 0 _ _ _ _ _ [0, 1] dX12_holds_183 (by decide +kernel) ⟨rfl, (show (0 : Int) ≤ 0 from by decide), (show (0 : Int) ≤ 1 from by decide)⟩ w (by decide) rfl
        · replace c_16 : ¬ z15 = 0 := fun h => c_16 ((iz_eq (Int.le_trans (by decide) z15_a) (Int.le_trans z15_b (by decide))).mpr h)
          refine lv_iconst (v := iI 1) hx hb dX12_holds_178 (by decide +kernel) ?_
          refine lv_goto (tgt := 183) hx hb dX12_holds_179 (by decide) ?_
          exact ret _ 1 _ _ _ _ _ [0, 1] dX12_holds_183 (by decide +kernel) ⟨rfl, (show (0 : Int) ≤ 1 from by decide), (show (1 : Int) ≤ 1 from by decide)⟩ w (by decide) rfl
    by_cases c_17 : (f0 (89 + (4 * x0))) = 68
    · refine lv_lookup (off := 151) (tgt := 184) hx hb dX12_holds_33 (by decide +kernel) (by rw [c_17]; decide +kernel) (by decide) ?_
      refine lv_aload_n hx hb dX12_holds_184 rfl (lv_at hl 3 rfl) ?_
      refine lv_iload_n hx hb dX12_holds_185 rfl (lv_at hl 5 rfl) ?_
      refine k_I (ce := 0) (sl := 0) (rest := []) (wr := []) (r_V (f := 0) [0, 1] M w V_HookedCityModel_255 G1768 G74 (c70_X12_isOpen l D T _ a0 x1 r0 a1 x2 x3 x4 x5 x6 x7 r1 x8 x9 x10 y0 x11 a2 a3 a4 a5 a6 a7 a8 a9 a10 a11 x12 a12 a13 a14 a15 x13 r2 r3 a16 x14 x15 a17 a18 x16 a19 x17 r4 a20 a21 x18 r5 a22 x19 x20 x21 x22 f0 x1_a x1_b x2_a x2_b x3_a x3_b x4_a x4_b x5_a x5_b x6_a x6_b x7_a x7_b x8_a x8_b x9_a x9_b x10_a x10_b x11_a x11_b x12_a x12_b x13_a x13_b x14_a x14_b x15_a x15_b x16_a x16_b x17_a x17_b x18_a x18_b x19_a x19_b x20_a x20_b x21_a x21_b x22_a x22_b f0_h) 0 clX12 rfl rfl (by decide) rfl hl.1 rfl (Nat.le_of_ble_eq_true rfl) dX12_holds_186 (by show 0 + 1 ≤ n + 1 + 2; omega) (by show 8 + (2 + 11) + 60 * (0) ≤ 60 * (n + 1 + 2); omega) (Nat.le_refl 0) (Nat.le_refl 0)) w [0, 1] [] rfl rfl (by decide) (by decide) rfl rfl (fun v z18 H locs hp w => ?_)
      have hv : iI z18 = v := hp.1
      subst hv
      have z18_a : 0 ≤ z18 := hp.2.1
      have z18_b : z18 ≤ 1 := hp.2.2.1
      have pq19 : z18 = 0 → 0 ≤ f0 (57 + x1) := hp.2.2.2
      have w : WD D A s.heap [(a0, .inr (11, [.int r0, .ref a1, .int (iI x2), .int (iI x3), .int (iI x4), .int (iI x5), .int (iI x6), .int (iI x7), .int r1, .int (iI x8), .int (iI x9), .int (iI x10), .long y0, .int (iI x11), .ref a2, .ref a3, .ref a4, .ref a5, .ref a6, .ref a7, .ref a8, .ref a9, .ref a10, .ref a11, .int (iI x12), .ref a12, .ref a13, .ref a14, .ref a15, .int (iI x13), .int r2, .int r3, .ref a16, .int (iI x14), .int (iI x15), .ref a17, .ref a18, .int (iI x16), .ref a19, .int (iI x17), .int r4, .ref a20, .ref a21, .int (iI x18), .int r5, .ref a22, .int (iI x19), .int (iI x20), .int (iI x21), .int (iI x22)])), (a2, .inl (T 0, 329, .inl (cI f0)))] H locs := w
      exact ret _ z18 _ _ _ _ _ [0, 1] dX12_holds_189 (nb_n (by omega) (by omega)) ⟨rfl, z18_a, z18_b⟩ w (by decide) rfl
    by_cases c_20 : (f0 (89 + (4 * x0))) = 69
    · refine lv_lookup (off := 157) (tgt := 190) hx hb dX12_holds_33 (by decide +kernel) (by rw [c_20]; decide +kernel) (by decide) ?_
      refine lv_aload_n hx hb dX12_holds_190 rfl (lv_at hl 3 rfl) ?_
      refine lv_iload_n hx hb dX12_holds_191 rfl (lv_at hl 5 rfl) ?_
      refine k_I (ce := 0) (sl := 0) (rest := []) (wr := []) (r_V (f := 0) [0, 1] M w V_HookedCityModel_261 G1772 G75 (c71_X12_isBare l D T _ a0 x1 r0 a1 x2 x3 x4 x5 x6 x7 r1 x8 x9 x10 y0 x11 a2 a3 a4 a5 a6 a7 a8 a9 a10 a11 x12 a12 a13 a14 a15 x13 r2 r3 a16 x14 x15 a17 a18 x16 a19 x17 r4 a20 a21 x18 r5 a22 x19 x20 x21 x22 f0 x1_a x1_b x2_a x2_b x3_a x3_b x4_a x4_b x5_a x5_b x6_a x6_b x7_a x7_b x8_a x8_b x9_a x9_b x10_a x10_b x11_a x11_b x12_a x12_b x13_a x13_b x14_a x14_b x15_a x15_b x16_a x16_b x17_a x17_b x18_a x18_b x19_a x19_b x20_a x20_b x21_a x21_b x22_a x22_b f0_h) 0 clX12 rfl rfl (by decide) rfl hl.1 rfl (Nat.le_of_ble_eq_true rfl) dX12_holds_192 (by show 0 + 1 ≤ n + 1 + 2; omega) (by show 8 + (2 + 11) + 60 * (0) ≤ 60 * (n + 1 + 2); omega) (Nat.le_refl 0) (Nat.le_refl 0)) w [0, 1] [] rfl rfl (by decide) (by decide) rfl rfl (fun v z21 H locs hp w => ?_)
      have hv : iI z21 = v := hp.1
      subst hv
      have z21_a : 0 ≤ z21 := hp.2.1
      have z21_b : z21 ≤ 1 := hp.2.2.1
      have pq22 : z21 = 1 → f0 (66 + x1) = -1 := hp.2.2.2.1
      have pq23 : z21 = 0 → 0 ≤ f0 (66 + x1) := hp.2.2.2.2
      have w : WD D A s.heap [(a0, .inr (11, [.int r0, .ref a1, .int (iI x2), .int (iI x3), .int (iI x4), .int (iI x5), .int (iI x6), .int (iI x7), .int r1, .int (iI x8), .int (iI x9), .int (iI x10), .long y0, .int (iI x11), .ref a2, .ref a3, .ref a4, .ref a5, .ref a6, .ref a7, .ref a8, .ref a9, .ref a10, .ref a11, .int (iI x12), .ref a12, .ref a13, .ref a14, .ref a15, .int (iI x13), .int r2, .int r3, .ref a16, .int (iI x14), .int (iI x15), .ref a17, .ref a18, .int (iI x16), .ref a19, .int (iI x17), .int r4, .ref a20, .ref a21, .int (iI x18), .int r5, .ref a22, .int (iI x19), .int (iI x20), .int (iI x21), .int (iI x22)])), (a2, .inl (T 0, 329, .inl (cI f0)))] H locs := w
      exact ret _ z21 _ _ _ _ _ [0, 1] dX12_holds_195 (nb_n (by omega) (by omega)) ⟨rfl, z21_a, z21_b⟩ w (by decide) rfl
    by_cases c_24 : (f0 (89 + (4 * x0))) = 70
    · refine lv_lookup (off := 163) (tgt := 196) hx hb dX12_holds_33 (by decide +kernel) (by rw [c_24]; decide +kernel) (by decide) ?_
      refine lv_aload_n hx hb dX12_holds_196 rfl (lv_at hl 3 rfl) ?_
      refine lv_iload_n hx hb dX12_holds_197 rfl (lv_at hl 5 rfl) ?_
      refine k_I (ce := 0) (sl := 0) (rest := []) (wr := []) (r_V (f := 0) [0, 1] M w V_HookedCityModel_264 G1776 G76 (c72_X12_isTorn l D T _ a0 x1 r0 a1 x2 x3 x4 x5 x6 x7 r1 x8 x9 x10 y0 x11 a2 a3 a4 a5 a6 a7 a8 a9 a10 a11 x12 a12 a13 a14 a15 x13 r2 r3 a16 x14 x15 a17 a18 x16 a19 x17 r4 a20 a21 x18 r5 a22 x19 x20 x21 x22 f0 x1_a x1_b x2_a x2_b x3_a x3_b x4_a x4_b x5_a x5_b x6_a x6_b x7_a x7_b x8_a x8_b x9_a x9_b x10_a x10_b x11_a x11_b x12_a x12_b x13_a x13_b x14_a x14_b x15_a x15_b x16_a x16_b x17_a x17_b x18_a x18_b x19_a x19_b x20_a x20_b x21_a x21_b x22_a x22_b f0_h) 0 clX12 rfl rfl (by decide) rfl hl.1 rfl (Nat.le_of_ble_eq_true rfl) dX12_holds_198 (by show 0 + 1 ≤ n + 1 + 2; omega) (by show 8 + (2 + 11) + 60 * (0) ≤ 60 * (n + 1 + 2); omega) (Nat.le_refl 0) (Nat.le_refl 0)) w [0, 1] [] rfl rfl (by decide) (by decide) rfl rfl (fun v z25 H locs hp w => ?_)
      have hv : iI z25 = v := hp.1
      subst hv
      have z25_a : 0 ≤ z25 := hp.2.1
      have z25_b : z25 ≤ 1 := hp.2.2
      have w : WD D A s.heap [(a0, .inr (11, [.int r0, .ref a1, .int (iI x2), .int (iI x3), .int (iI x4), .int (iI x5), .int (iI x6), .int (iI x7), .int r1, .int (iI x8), .int (iI x9), .int (iI x10), .long y0, .int (iI x11), .ref a2, .ref a3, .ref a4, .ref a5, .ref a6, .ref a7, .ref a8, .ref a9, .ref a10, .ref a11, .int (iI x12), .ref a12, .ref a13, .ref a14, .ref a15, .int (iI x13), .int r2, .int r3, .ref a16, .int (iI x14), .int (iI x15), .ref a17, .ref a18, .int (iI x16), .ref a19, .int (iI x17), .int r4, .ref a20, .ref a21, .int (iI x18), .int r5, .ref a22, .int (iI x19), .int (iI x20), .int (iI x21), .int (iI x22)])), (a2, .inl (T 0, 329, .inl (cI f0)))] H locs := w
      exact ret _ z25 _ _ _ _ _ [0, 1] dX12_holds_201 (nb_n (by omega) (by omega)) ⟨rfl, z25_a, z25_b⟩ w (by decide) rfl
    by_cases c_26 : (f0 (89 + (4 * x0))) = 71
    · refine lv_lookup (off := 169) (tgt := 202) hx hb dX12_holds_33 (by decide +kernel) (by rw [c_26]; decide +kernel) (by decide) ?_
      refine lv_aload_n hx hb dX12_holds_202 rfl (lv_at hl 3 rfl) ?_
      refine lv_iload_n hx hb dX12_holds_203 rfl (lv_at hl 5 rfl) ?_
      refine k_I (ce := 0) (sl := 0) (rest := []) (wr := []) (r_V (f := 0) [0, 1] M w V_HookedCityModel_249 G1748 G71 (c123_X12_isOnRing l D T _ a0 x1 r0 a1 x2 x3 x4 x5 x6 x7 r1 x8 x9 x10 y0 x11 a2 a3 a4 a5 a6 a7 a8 a9 a10 a11 x12 a12 a13 a14 a15 x13 r2 r3 a16 x14 x15 a17 a18 x16 a19 x17 r4 a20 a21 x18 r5 a22 x19 x20 x21 x22 f0 x1_a x1_b x2_a x2_b x3_a x3_b x4_a x4_b x5_a x5_b x6_a x6_b x7_a x7_b x8_a x8_b x9_a x9_b x10_a x10_b x11_a x11_b x12_a x12_b x13_a x13_b x14_a x14_b x15_a x15_b x16_a x16_b x17_a x17_b x18_a x18_b x19_a x19_b x20_a x20_b x21_a x21_b x22_a x22_b f0_h) 0 clX12 rfl rfl (by decide) rfl hl.1 rfl (Nat.le_of_ble_eq_true rfl) dX12_holds_204 (by show 0 + 1 ≤ n + 1 + 2; omega) (by show 8 + (3 + 11) + 60 * (0) ≤ 60 * (n + 1 + 2); omega) (Nat.le_refl 0) (Nat.le_refl 0)) w [0, 1] [] rfl rfl (by decide) (by decide) rfl rfl (fun v z27 H locs hp w => ?_)
      have hv : iI z27 = v := hp.1
      subst hv
      have z27_a : 0 ≤ z27 := hp.2.1
      have z27_b : z27 ≤ 1 := hp.2.2
      have w : WD D A s.heap [(a0, .inr (11, [.int r0, .ref a1, .int (iI x2), .int (iI x3), .int (iI x4), .int (iI x5), .int (iI x6), .int (iI x7), .int r1, .int (iI x8), .int (iI x9), .int (iI x10), .long y0, .int (iI x11), .ref a2, .ref a3, .ref a4, .ref a5, .ref a6, .ref a7, .ref a8, .ref a9, .ref a10, .ref a11, .int (iI x12), .ref a12, .ref a13, .ref a14, .ref a15, .int (iI x13), .int r2, .int r3, .ref a16, .int (iI x14), .int (iI x15), .ref a17, .ref a18, .int (iI x16), .ref a19, .int (iI x17), .int r4, .ref a20, .ref a21, .int (iI x18), .int r5, .ref a22, .int (iI x19), .int (iI x20), .int (iI x21), .int (iI x22)])), (a2, .inl (T 0, 329, .inl (cI f0)))] H locs := w
      exact ret _ z27 _ _ _ _ _ [0, 1] dX12_holds_207 (nb_n (by omega) (by omega)) ⟨rfl, z27_a, z27_b⟩ w (by decide) rfl
    by_cases c_28 : (f0 (89 + (4 * x0))) = 72
    · refine lv_lookup (off := 175) (tgt := 208) hx hb dX12_holds_33 (by decide +kernel) (by rw [c_28]; decide +kernel) (by decide) ?_
      refine lv_aload_n hx hb dX12_holds_208 rfl (lv_at hl 3 rfl) ?_
      refine lv_iload hx hb dX12_holds_209 (lv_at hl 1 rfl) ?_
      refine k_I (ce := 0) (sl := 0) (rest := []) (wr := []) (r_V (f := 1) [0, 1] M w V_HookedCityModel_307 G1851 G88 (c126_X12_withOf l D T _ a0 (f0 ((89 + (4 * x0)) + 1)) r0 a1 x2 x3 x4 x5 x6 x7 r1 x8 x9 x10 y0 x11 a2 a3 a4 a5 a6 a7 a8 a9 a10 a11 x12 a12 a13 a14 a15 x13 r2 r3 a16 x14 x15 a17 a18 x16 a19 x17 r4 a20 a21 x18 r5 a22 x19 x20 x21 x22 f0 (by omega) (by omega) x2_a x2_b x3_a x3_b x4_a x4_b x5_a x5_b x6_a x6_b x7_a x7_b x8_a x8_b x9_a x9_b x10_a x10_b x11_a x11_b x12_a x12_b x13_a x13_b x14_a x14_b x15_a x15_b x16_a x16_b x17_a x17_b x18_a x18_b x19_a x19_b x20_a x20_b x21_a x21_b x22_a x22_b f0_h) 0 clX12 rfl rfl (by decide) rfl hl.1 rfl (Nat.le_of_ble_eq_true rfl) dX12_holds_211 (by show 1 + 1 ≤ n + 1 + 2; omega) (by show 8 + (4 + 11) + 60 * (1) ≤ 60 * (n + 1 + 2); omega) (Nat.le_refl 0) (Nat.le_refl 0)) w [0, 1] [] rfl rfl (by decide) (by decide) rfl rfl (fun v z29 H locs hp w => ?_)
      have hv : iI z29 = v := hp.1
      subst hv
      have z29_a : (-2147483648) ≤ z29 := hp.2.1
      have z29_b : z29 ≤ 2147483647 := hp.2.2
      have w : WD D A s.heap [(a0, .inr (11, [.int r0, .ref a1, .int (iI x2), .int (iI x3), .int (iI x4), .int (iI x5), .int (iI x6), .int (iI x7), .int r1, .int (iI x8), .int (iI x9), .int (iI x10), .long y0, .int (iI x11), .ref a2, .ref a3, .ref a4, .ref a5, .ref a6, .ref a7, .ref a8, .ref a9, .ref a10, .ref a11, .int (iI x12), .ref a12, .ref a13, .ref a14, .ref a15, .int (iI x13), .int r2, .int r3, .ref a16, .int (iI x14), .int (iI x15), .ref a17, .ref a18, .int (iI x16), .ref a19, .int (iI x17), .int r4, .ref a20, .ref a21, .int (iI x18), .int r5, .ref a22, .int (iI x19), .int (iI x20), .int (iI x21), .int (iI x22)])), (a2, .inl (T 0, 329, .inl (cI f0)))] H locs := w
      refine lv_iload_n hx hb dX12_holds_214 rfl (lv_at hl 5 rfl) ?_
      refine k_I (ce := 0) (sl := 0) (rest := []) (wr := [(a0, .inr (11, [.int r0, .ref a1, .int (iI x2), .int (iI x3), .int (iI x4), .int (iI x5), .int (iI x6), .int (iI x7), .int r1, .int (iI x8), .int (iI x9), .int (iI x10), .long y0, .int (iI x11), .ref a2, .ref a3, .ref a4, .ref a5, .ref a6, .ref a7, .ref a8, .ref a9, .ref a10, .ref a11, .int (iI x12), .ref a12, .ref a13, .ref a14, .ref a15, .int (iI x13), .int r2, .int r3, .ref a16, .int (iI x14), .int (iI x15), .ref a17, .ref a18, .int (iI x16), .ref a19, .int (iI x17), .int r4, .ref a20, .ref a21, .int (iI x18), .int r5, .ref a22, .int (iI x19), .int (iI x20), .int (iI x21), .int (iI x22)])), (a2, .inl (T 0, 329, .inl (cI f0)))]) (r_S (f := 0) [] M w V_HookedCityModel_206 G1708 (c7_X12_has l D T _ z29 x1 z29_a z29_b (by omega) (by omega)) rfl (by decide) rfl hl.1 rfl (Nat.le_of_ble_eq_true rfl) dX12_holds_215 (by show 0 + 1 ≤ n + 1 + 2; omega) (by show 8 + (2 + 11) + 60 * (0) ≤ 60 * (n + 1 + 2); omega) (Nat.le_refl 0) (Nat.le_refl 0)) w [] [0, 1] rfl rfl (by decide) (by decide) rfl rfl (fun v z30 H locs hp w => ?_)
      have hv : iI z30 = v := hp.1
      subst hv
      have z30_a : 0 ≤ z30 := hp.2.1
      have z30_b : z30 ≤ 1 := hp.2.2.1
      have pq31 : hsQ z30 z29 x1 := hp.2.2.2
      have w : WD D A s.heap [(a0, .inr (11, [.int r0, .ref a1, .int (iI x2), .int (iI x3), .int (iI x4), .int (iI x5), .int (iI x6), .int (iI x7), .int r1, .int (iI x8), .int (iI x9), .int (iI x10), .long y0, .int (iI x11), .ref a2, .ref a3, .ref a4, .ref a5, .ref a6, .ref a7, .ref a8, .ref a9, .ref a10, .ref a11, .int (iI x12), .ref a12, .ref a13, .ref a14, .ref a15, .int (iI x13), .int r2, .int r3, .ref a16, .int (iI x14), .int (iI x15), .ref a17, .ref a18, .int (iI x16), .ref a19, .int (iI x17), .int r4, .ref a20, .ref a21, .int (iI x18), .int r5, .ref a22, .int (iI x19), .int (iI x20), .int (iI x21), .int (iI x22)])), (a2, .inl (T 0, 329, .inl (cI f0)))] H locs := w
      exact ret _ z30 _ _ _ _ _ [0, 1] dX12_holds_218 (nb_n (by omega) (by omega)) ⟨rfl, z30_a, z30_b⟩ w (by decide) rfl
    by_cases c_32 : (f0 (89 + (4 * x0))) = 73
    · refine lv_lookup (off := 186) (tgt := 219) hx hb dX12_holds_33 (by decide +kernel) (by rw [c_32]; decide +kernel) (by decide) ?_
      refine lv_aload_n hx hb dX12_holds_219 rfl (lv_at hl 3 rfl) ?_
      refine r_get (v := .ref a2) M w 0 14 clX12 rfl (by decide) G1477 rfl rfl dX12_holds_220 ?_
      refine lv_bipush (v := iI 44) hx hb dX12_holds_223 (by decide +kernel) ?_
      refine lv_iload hx hb dX12_holds_225 (lv_at hl 1 rfl) ?_
      refine r_iadd (v := iI (44 + (f0 ((89 + (4 * x0)) + 1)))) M (iI_add _ _) dX12_holds_227 ?_
      refine r_iald (v := iI (f0 (44 + (f0 ((89 + (4 * x0)) + 1))))) M w 1 rfl (iI_in (by omega) (by omega) (by decide)) (cI_at (by omega) (by omega)) dX12_holds_228 ?_
      have hh33 : (-2147483648) ≤ (f0 (44 + (f0 ((89 + (4 * x0)) + 1)))) ∧ (f0 (44 + (f0 ((89 + (4 * x0)) + 1)))) ≤ 2147483647 := f0_h.1 (44 + (f0 ((89 + (4 * x0)) + 1)))
      refine lv_iload_n hx hb dX12_holds_229 rfl (lv_at hl 5 rfl) ?_
      refine k_I (ce := 0) (sl := 0) (rest := []) (wr := [(a0, .inr (11, [.int r0, .ref a1, .int (iI x2), .int (iI x3), .int (iI x4), .int (iI x5), .int (iI x6), .int (iI x7), .int r1, .int (iI x8), .int (iI x9), .int (iI x10), .long y0, .int (iI x11), .ref a2, .ref a3, .ref a4, .ref a5, .ref a6, .ref a7, .ref a8, .ref a9, .ref a10, .ref a11, .int (iI x12), .ref a12, .ref a13, .ref a14, .ref a15, .int (iI x13), .int r2, .int r3, .ref a16, .int (iI x14), .int (iI x15), .ref a17, .ref a18, .int (iI x16), .ref a19, .int (iI x17), .int r4, .ref a20, .ref a21, .int (iI x18), .int r5, .ref a22, .int (iI x19), .int (iI x20), .int (iI x21), .int (iI x22)])), (a2, .inl (T 0, 329, .inl (cI f0)))]) (r_S (f := 0) [] M w V_HookedCityModel_206 G1708 (c7_X12_has l D T _ (f0 (44 + (f0 ((89 + (4 * x0)) + 1)))) x1 (by omega) (by omega) (by omega) (by omega)) rfl (by decide) rfl hl.1 rfl (Nat.le_of_ble_eq_true rfl) dX12_holds_230 (by show 0 + 1 ≤ n + 1 + 2; omega) (by show 8 + (2 + 11) + 60 * (0) ≤ 60 * (n + 1 + 2); omega) (Nat.le_refl 0) (Nat.le_refl 0)) w [] [0, 1] rfl rfl (by decide) (by decide) rfl rfl (fun v z34 H locs hp w => ?_)
      have hv : iI z34 = v := hp.1
      subst hv
      have z34_a : 0 ≤ z34 := hp.2.1
      have z34_b : z34 ≤ 1 := hp.2.2.1
      have pq35 : hsQ z34 (f0 (44 + (f0 ((89 + (4 * x0)) + 1)))) x1 := hp.2.2.2
      have w : WD D A s.heap [(a0, .inr (11, [.int r0, .ref a1, .int (iI x2), .int (iI x3), .int (iI x4), .int (iI x5), .int (iI x6), .int (iI x7), .int r1, .int (iI x8), .int (iI x9), .int (iI x10), .long y0, .int (iI x11), .ref a2, .ref a3, .ref a4, .ref a5, .ref a6, .ref a7, .ref a8, .ref a9, .ref a10, .ref a11, .int (iI x12), .ref a12, .ref a13, .ref a14, .ref a15, .int (iI x13), .int r2, .int r3, .ref a16, .int (iI x14), .int (iI x15), .ref a17, .ref a18, .int (iI x16), .ref a19, .int (iI x17), .int r4, .ref a20, .ref a21, .int (iI x18), .int r5, .ref a22, .int (iI x19), .int (iI x20), .int (iI x21), .int (iI x22)])), (a2, .inl (T 0, 329, .inl (cI f0)))] H locs := w
      exact ret _ z34 _ _ _ _ _ [0, 1] dX12_holds_233 (nb_n (by omega) (by omega)) ⟨rfl, z34_a, z34_b⟩ w (by decide) rfl
    refine lv_lookup (off := 201) (tgt := 234) hx hb dX12_holds_33 (by decide +kernel) (by rw [iI_i (by omega) (by omega)]; simp only [Op.lookupswitch.offset]; repeat (first | rfl | (rw [if_neg (by omega)]))) (by decide) ?_
    refine lv_aload_n hx hb dX12_holds_234 rfl (lv_at hl 3 rfl) ?_
    refine r_get (v := .ref a2) M w 0 14 clX12 rfl (by decide) G1477 rfl rfl dX12_holds_235 ?_
    refine lv_iload_n hx hb dX12_holds_238 rfl (lv_at hl 2 rfl) ?_
    refine r_iald (v := iI (f0 (89 + (4 * x0)))) M w 1 rfl (iI_in (by omega) (by omega) (by decide)) (cI_at (by omega) (by omega)) dX12_holds_239 ?_
    have hh36 : (-2147483648) ≤ (f0 (89 + (4 * x0))) ∧ (f0 (89 + (4 * x0))) ≤ 2147483647 := f0_h.1 (89 + (4 * x0))
    refine lv_bipush (v := iI 50) hx hb dX12_holds_240 (by decide +kernel) ?_
    refine r_isub (v := _) M rfl dX12_holds_242 ?_
    refine b_any (fun z37 z37_a z37_b => ?_)
    refine lv_istore (lv' := [(6, .int (iI z37)), (5, .int (iI (f0 ((89 + (4 * x0)) + 2)))), (4, .int (iI (f0 ((89 + (4 * x0)) + 1)))), (3, .int (iI (89 + (4 * x0)))), (0, .ref a0), (1, .int (iI x0)), (2, .int (iI x1))]) hx hb dX12_holds_243 hl (by decide) rfl (fun ls hl => ?_)
    refine lv_iload hx hb dX12_holds_245 (lv_at hl 0 rfl) ?_
    refine lv_bipush (v := iI 24) hx hb dX12_holds_247 (by decide +kernel) ?_
    refine lv_icmp_ne (tgt := 264) hx hb dX12_holds_249 (by decide) (fun c_38 => ?_) (fun c_38 => ?_)
    · replace c_38 : ¬ z37 = 24 := fun h => c_38 ((iI_eq (Int.le_trans (by decide) z37_a) (Int.le_trans z37_b (by decide)) (by decide) (by decide)).mpr h)
      refine lv_iload hx hb dX12_holds_264 (lv_at hl 0 rfl) ?_
      refine lv_bipush (v := iI 25) hx hb dX12_holds_266 (by decide +kernel) ?_
      refine lv_icmp_ne (tgt := 279) hx hb dX12_holds_268 (by decide) (fun c_39 => ?_) (fun c_39 => ?_)
      · replace c_39 : ¬ z37 = 25 := fun h => c_39 ((iI_eq (Int.le_trans (by decide) z37_a) (Int.le_trans z37_b (by decide)) (by decide) (by decide)).mpr h)
        refine lv_iload_n hx hb dX12_holds_279 rfl (lv_at hl 6 rfl) ?_
        refine lv_istore (lv' := [(7, .int (iI x1)), (6, .int (iI z37)), (5, .int (iI (f0 ((89 + (4 * x0)) + 2)))), (4, .int (iI (f0 ((89 + (4 * x0)) + 1)))), (3, .int (iI (89 + (4 * x0)))), (0, .ref a0), (1, .int (iI x0)), (2, .int (iI x1))]) hx hb dX12_holds_280 hl (by decide) rfl (fun ls hl => ?_)
        refine lv_aload_n hx hb dX12_holds_282 rfl (lv_at hl 5 rfl) ?_
        refine r_get (v := .ref a2) M w 0 14 clX12 rfl (by decide) G1477 rfl rfl dX12_holds_283 ?_
        refine lv_iload_n hx hb dX12_holds_286 rfl (lv_at hl 4 rfl) ?_
        refine lv_iconst (v := iI 3) hx hb dX12_holds_287 (by decide +kernel) ?_
        refine r_iadd (v := iI ((89 + (4 * x0)) + 3)) M (iI_add _ _) dX12_holds_288 ?_
        refine r_iald (v := iI (f0 ((89 + (4 * x0)) + 3))) M w 1 rfl (iI_in (by omega) (by omega) (by decide)) (cI_at (by omega) (by omega)) dX12_holds_289 ?_
        have hh40 : (-2147483648) ≤ (f0 ((89 + (4 * x0)) + 3)) ∧ (f0 ((89 + (4 * x0)) + 3)) ≤ 2147483647 := f0_h.1 ((89 + (4 * x0)) + 3)
        refine lv_bipush (v := iI 60) hx hb dX12_holds_290 (by decide +kernel) ?_
        refine lv_icmp_ne (tgt := 310) hx hb dX12_holds_292 (by decide) (fun c_41 => ?_) (fun c_41 => ?_)
        · replace c_41 : ¬ (f0 ((89 + (4 * x0)) + 3)) = 60 := fun h => c_41 ((iI_eq (by omega) (by omega) (by decide) (by decide)).mpr h)
          refine lv_aload_n hx hb dX12_holds_310 rfl (lv_at hl 5 rfl) ?_
          refine r_get (v := .ref a2) M w 0 14 clX12 rfl (by decide) G1477 rfl rfl dX12_holds_311 ?_
          refine lv_iload_n hx hb dX12_holds_314 rfl (lv_at hl 4 rfl) ?_
          refine lv_iconst (v := iI 3) hx hb dX12_holds_315 (by decide +kernel) ?_
          refine r_iadd (v := iI ((89 + (4 * x0)) + 3)) M (iI_add _ _) dX12_holds_316 ?_
          refine r_iald (v := iI (f0 ((89 + (4 * x0)) + 3))) M w 1 rfl (iI_in (by omega) (by omega) (by decide)) (cI_at (by omega) (by omega)) dX12_holds_317 ?_
          have hh42 : (-2147483648) ≤ (f0 ((89 + (4 * x0)) + 3)) ∧ (f0 ((89 + (4 * x0)) + 3)) ≤ 2147483647 := f0_h.1 ((89 + (4 * x0)) + 3)
          refine lv_bipush (v := iI 61) hx hb dX12_holds_318 (by decide +kernel) ?_
          refine lv_icmp_ne (tgt := 338) hx hb dX12_holds_320 (by decide) (fun c_43 => ?_) (fun c_43 => ?_)
          · replace c_43 : ¬ (f0 ((89 + (4 * x0)) + 3)) = 61 := fun h => c_43 ((iI_eq (by omega) (by omega) (by decide) (by decide)).mpr h)
            refine lv_iload hx hb dX12_holds_338 (lv_at hl 0 rfl) ?_
            refine lv_iload hx hb dX12_holds_340 (lv_at hl 2 rfl) ?_
            refine lv_icmp_le (tgt := 349) hx hb dX12_holds_342 (by decide) (fun c_44 => ?_) (fun c_44 => ?_)
            · replace c_44 := (iI_le (Int.le_trans (by decide) x1_a) (Int.le_trans x1_b (by decide)) (by omega) (by omega)).mp c_44
              refine lv_iconst (v := iI 0) hx hb dX12_holds_349 (by decide +kernel) ?_
              exact ret _ 0 _ _ _ _ _ [0, 1] dX12_holds_350 (by decide +kernel) ⟨rfl, (show (0 : Int) ≤ 0 from by decide), (show (0 : Int) ≤ 1 from by decide)⟩ w (by decide) rfl
            · replace c_44 : (f0 ((89 + (4 * x0)) + 2)) < x1 := Int.not_le.mp (fun h => c_44 ((iI_le (Int.le_trans (by decide) x1_a) (Int.le_trans x1_b (by decide)) (by omega) (by omega)).mpr h))
              refine lv_iconst (v := iI 1) hx hb dX12_holds_345 (by decide +kernel) ?_
              refine lv_goto (tgt := 350) hx hb dX12_holds_346 (by decide) ?_
              exact ret _ 1 _ _ _ _ _ [0, 1] dX12_holds_350 (by decide +kernel) ⟨rfl, (show (0 : Int) ≤ 1 from by decide), (show (1 : Int) ≤ 1 from by decide)⟩ w (by decide) rfl
          · replace c_43 := (iI_eq (by omega) (by omega) (by decide) (by decide)).mp c_43
            refine lv_iload hx hb dX12_holds_323 (lv_at hl 0 rfl) ?_
            refine lv_iload hx hb dX12_holds_325 (lv_at hl 2 rfl) ?_
            refine lv_icmp_ne (tgt := 334) hx hb dX12_holds_327 (by decide) (fun c_45 => ?_) (fun c_45 => ?_)
            · replace c_45 : ¬ x1 = (f0 ((89 + (4 * x0)) + 2)) := fun h => c_45 ((iI_eq (Int.le_trans (by decide) x1_a) (Int.le_trans x1_b (by decide)) (by omega) (by omega)).mpr h)
              refine lv_iconst (v := iI 0) hx hb dX12_holds_334 (by decide +kernel) ?_
              refine lv_goto (tgt := 350) hx hb dX12_holds_335 (by decide) ?_
              exact ret _ 0 _ _ _ _ _ [0, 1] dX12_holds_350 (by decide +kernel) ⟨rfl, (show (0 : Int) ≤ 0 from by decide), (show (0 : Int) ≤ 1 from by decide)⟩ w (by decide) rfl
            · replace c_45 := (iI_eq (Int.le_trans (by decide) x1_a) (Int.le_trans x1_b (by decide)) (by omega) (by omega)).mp c_45
              refine lv_iconst (v := iI 1) hx hb dX12_holds_330 (by decide +kernel) ?_
              refine lv_goto (tgt := 350) hx hb dX12_holds_331 (by decide) ?_
              exact ret _ 1 _ _ _ _ _ [0, 1] dX12_holds_350 (by decide +kernel) ⟨rfl, (show (0 : Int) ≤ 1 from by decide), (show (1 : Int) ≤ 1 from by decide)⟩ w (by decide) rfl
        · replace c_41 := (iI_eq (by omega) (by omega) (by decide) (by decide)).mp c_41
          refine lv_iload hx hb dX12_holds_295 (lv_at hl 0 rfl) ?_
          refine lv_iload hx hb dX12_holds_297 (lv_at hl 2 rfl) ?_
          refine lv_icmp_ge (tgt := 306) hx hb dX12_holds_299 (by decide) (fun c_46 => ?_) (fun c_46 => ?_)
          · replace c_46 := (iI_le (by omega) (by omega) (Int.le_trans (by decide) x1_a) (Int.le_trans x1_b (by decide))).mp c_46
            refine lv_iconst (v := iI 0) hx hb dX12_holds_306 (by decide +kernel) ?_
            refine lv_goto (tgt := 350) hx hb dX12_holds_307 (by decide) ?_
            exact ret _ 0 _ _ _ _ _ [0, 1] dX12_holds_350 (by decide +kernel) ⟨rfl, (show (0 : Int) ≤ 0 from by decide), (show (0 : Int) ≤ 1 from by decide)⟩ w (by decide) rfl
          · replace c_46 : x1 < (f0 ((89 + (4 * x0)) + 2)) := Int.not_le.mp (fun h => c_46 ((iI_le (by omega) (by omega) (Int.le_trans (by decide) x1_a) (Int.le_trans x1_b (by decide))).mpr h))
            refine lv_iconst (v := iI 1) hx hb dX12_holds_302 (by decide +kernel) ?_
            refine lv_goto (tgt := 350) hx hb dX12_holds_303 (by decide) ?_
            exact ret _ 1 _ _ _ _ _ [0, 1] dX12_holds_350 (by decide +kernel) ⟨rfl, (show (0 : Int) ≤ 1 from by decide), (show (1 : Int) ≤ 1 from by decide)⟩ w (by decide) rfl
      · replace c_39 := (iI_eq (Int.le_trans (by decide) z37_a) (Int.le_trans z37_b (by decide)) (by decide) (by decide)).mp c_39
        refine lv_aload_n hx hb dX12_holds_271 rfl (lv_at hl 4 rfl) ?_
        refine lv_iload_n hx hb dX12_holds_272 rfl (lv_at hl 6 rfl) ?_
        refine k_I (ce := 0) (sl := 0) (rest := []) (wr := []) (r_V (f := 0) [0, 1] M w V_HookedCityModel_246 G1744 G70 (c122_X12_chainOf l D T _ a0 x1 r0 a1 x2 x3 x4 x5 x6 x7 r1 x8 x9 x10 y0 x11 a2 a3 a4 a5 a6 a7 a8 a9 a10 a11 x12 a12 a13 a14 a15 x13 r2 r3 a16 x14 x15 a17 a18 x16 a19 x17 r4 a20 a21 x18 r5 a22 x19 x20 x21 x22 f0 x1_a x1_b x2_a x2_b x3_a x3_b x4_a x4_b x5_a x5_b x6_a x6_b x7_a x7_b x8_a x8_b x9_a x9_b x10_a x10_b x11_a x11_b x12_a x12_b x13_a x13_b x14_a x14_b x15_a x15_b x16_a x16_b x17_a x17_b x18_a x18_b x19_a x19_b x20_a x20_b x21_a x21_b x22_a x22_b f0_h) 0 clX12 rfl rfl (by decide) rfl hl.1 rfl (Nat.le_of_ble_eq_true rfl) dX12_holds_273 (by show 0 + 1 ≤ n + 1 + 2; omega) (by show 8 + (4 + 11) + 60 * (0) ≤ 60 * (n + 1 + 2); omega) (Nat.le_refl 0) (Nat.le_refl 0)) w [0, 1] [] rfl rfl (by decide) (by decide) rfl rfl (fun v z47 H locs hp w => ?_)
        have hv : iI z47 = v := hp.1
        subst hv
        have z47_a : (-2147483648) ≤ z47 := hp.2.1
        have z47_b : z47 ≤ 2147483647 := hp.2.2
        have w : WD D A s.heap [(a0, .inr (11, [.int r0, .ref a1, .int (iI x2), .int (iI x3), .int (iI x4), .int (iI x5), .int (iI x6), .int (iI x7), .int r1, .int (iI x8), .int (iI x9), .int (iI x10), .long y0, .int (iI x11), .ref a2, .ref a3, .ref a4, .ref a5, .ref a6, .ref a7, .ref a8, .ref a9, .ref a10, .ref a11, .int (iI x12), .ref a12, .ref a13, .ref a14, .ref a15, .int (iI x13), .int r2, .int r3, .ref a16, .int (iI x14), .int (iI x15), .ref a17, .ref a18, .int (iI x16), .ref a19, .int (iI x17), .int r4, .ref a20, .ref a21, .int (iI x18), .int r5, .ref a22, .int (iI x19), .int (iI x20), .int (iI x21), .int (iI x22)])), (a2, .inl (T 0, 329, .inl (cI f0)))] H locs := w
        refine lv_goto (tgt := 280) hx hb dX12_holds_276 (by decide) ?_
        refine lv_istore (lv' := [(7, .int (iI z47)), (6, .int (iI z37)), (5, .int (iI (f0 ((89 + (4 * x0)) + 2)))), (4, .int (iI (f0 ((89 + (4 * x0)) + 1)))), (3, .int (iI (89 + (4 * x0)))), (0, .ref a0), (1, .int (iI x0)), (2, .int (iI x1))]) hx hb dX12_holds_280 hl (by decide) rfl (fun ls hl => ?_)
        refine lv_aload_n hx hb dX12_holds_282 rfl (lv_at hl 5 rfl) ?_
        refine r_get (v := .ref a2) M w 0 14 clX12 rfl (by decide) G1477 rfl rfl dX12_holds_283 ?_
        refine lv_iload_n hx hb dX12_holds_286 rfl (lv_at hl 4 rfl) ?_
        refine lv_iconst (v := iI 3) hx hb dX12_holds_287 (by decide +kernel) ?_
        refine r_iadd (v := iI ((89 + (4 * x0)) + 3)) M (iI_add _ _) dX12_holds_288 ?_
        refine r_iald (v := iI (f0 ((89 + (4 * x0)) + 3))) M w 1 rfl (iI_in (by omega) (by omega) (by decide)) (cI_at (by omega) (by omega)) dX12_holds_289 ?_
        have hh48 : (-2147483648) ≤ (f0 ((89 + (4 * x0)) + 3)) ∧ (f0 ((89 + (4 * x0)) + 3)) ≤ 2147483647 := f0_h.1 ((89 + (4 * x0)) + 3)
        refine lv_bipush (v := iI 60) hx hb dX12_holds_290 (by decide +kernel) ?_
        refine lv_icmp_ne (tgt := 310) hx hb dX12_holds_292 (by decide) (fun c_49 => ?_) (fun c_49 => ?_)
        · replace c_49 : ¬ (f0 ((89 + (4 * x0)) + 3)) = 60 := fun h => c_49 ((iI_eq (by omega) (by omega) (by decide) (by decide)).mpr h)
          refine lv_aload_n hx hb dX12_holds_310 rfl (lv_at hl 5 rfl) ?_
          refine r_get (v := .ref a2) M w 0 14 clX12 rfl (by decide) G1477 rfl rfl dX12_holds_311 ?_
          refine lv_iload_n hx hb dX12_holds_314 rfl (lv_at hl 4 rfl) ?_
          refine lv_iconst (v := iI 3) hx hb dX12_holds_315 (by decide +kernel) ?_
          refine r_iadd (v := iI ((89 + (4 * x0)) + 3)) M (iI_add _ _) dX12_holds_316 ?_
          refine r_iald (v := iI (f0 ((89 + (4 * x0)) + 3))) M w 1 rfl (iI_in (by omega) (by omega) (by decide)) (cI_at (by omega) (by omega)) dX12_holds_317 ?_
          have hh50 : (-2147483648) ≤ (f0 ((89 + (4 * x0)) + 3)) ∧ (f0 ((89 + (4 * x0)) + 3)) ≤ 2147483647 := f0_h.1 ((89 + (4 * x0)) + 3)
          refine lv_bipush (v := iI 61) hx hb dX12_holds_318 (by decide +kernel) ?_
          refine lv_icmp_ne (tgt := 338) hx hb dX12_holds_320 (by decide) (fun c_51 => ?_) (fun c_51 => ?_)
          · replace c_51 : ¬ (f0 ((89 + (4 * x0)) + 3)) = 61 := fun h => c_51 ((iI_eq (by omega) (by omega) (by decide) (by decide)).mpr h)
            refine lv_iload hx hb dX12_holds_338 (lv_at hl 0 rfl) ?_
            refine lv_iload hx hb dX12_holds_340 (lv_at hl 2 rfl) ?_
            refine lv_icmp_le (tgt := 349) hx hb dX12_holds_342 (by decide) (fun c_52 => ?_) (fun c_52 => ?_)
            · replace c_52 := (iI_le (Int.le_trans (by decide) z47_a) (Int.le_trans z47_b (by decide)) (by omega) (by omega)).mp c_52
              refine lv_iconst (v := iI 0) hx hb dX12_holds_349 (by decide +kernel) ?_
              exact ret _ 0 _ _ _ _ _ [0, 1] dX12_holds_350 (by decide +kernel) ⟨rfl, (show (0 : Int) ≤ 0 from by decide), (show (0 : Int) ≤ 1 from by decide)⟩ w (by decide) rfl
            · replace c_52 : (f0 ((89 + (4 * x0)) + 2)) < z47 := Int.not_le.mp (fun h => c_52 ((iI_le (Int.le_trans (by decide) z47_a) (Int.le_trans z47_b (by decide)) (by omega) (by omega)).mpr h))
              refine lv_iconst (v := iI 1) hx hb dX12_holds_345 (by decide +kernel) ?_
              refine lv_goto (tgt := 350) hx hb dX12_holds_346 (by decide) ?_
              exact ret _ 1 _ _ _ _ _ [0, 1] dX12_holds_350 (by decide +kernel) ⟨rfl, (show (0 : Int) ≤ 1 from by decide), (show (1 : Int) ≤ 1 from by decide)⟩ w (by decide) rfl
          · replace c_51 := (iI_eq (by omega) (by omega) (by decide) (by decide)).mp c_51
            refine lv_iload hx hb dX12_holds_323 (lv_at hl 0 rfl) ?_
            refine lv_iload hx hb dX12_holds_325 (lv_at hl 2 rfl) ?_
            refine lv_icmp_ne (tgt := 334) hx hb dX12_holds_327 (by decide) (fun c_53 => ?_) (fun c_53 => ?_)
            · replace c_53 : ¬ z47 = (f0 ((89 + (4 * x0)) + 2)) := fun h => c_53 ((iI_eq (Int.le_trans (by decide) z47_a) (Int.le_trans z47_b (by decide)) (by omega) (by omega)).mpr h)
              refine lv_iconst (v := iI 0) hx hb dX12_holds_334 (by decide +kernel) ?_
              refine lv_goto (tgt := 350) hx hb dX12_holds_335 (by decide) ?_
              exact ret _ 0 _ _ _ _ _ [0, 1] dX12_holds_350 (by decide +kernel) ⟨rfl, (show (0 : Int) ≤ 0 from by decide), (show (0 : Int) ≤ 1 from by decide)⟩ w (by decide) rfl
            · replace c_53 := (iI_eq (Int.le_trans (by decide) z47_a) (Int.le_trans z47_b (by decide)) (by omega) (by omega)).mp c_53
              refine lv_iconst (v := iI 1) hx hb dX12_holds_330 (by decide +kernel) ?_
              refine lv_goto (tgt := 350) hx hb dX12_holds_331 (by decide) ?_
              exact ret _ 1 _ _ _ _ _ [0, 1] dX12_holds_350 (by decide +kernel) ⟨rfl, (show (0 : Int) ≤ 1 from by decide), (show (1 : Int) ≤ 1 from by decide)⟩ w (by decide) rfl
        · replace c_49 := (iI_eq (by omega) (by omega) (by decide) (by decide)).mp c_49
          refine lv_iload hx hb dX12_holds_295 (lv_at hl 0 rfl) ?_
          refine lv_iload hx hb dX12_holds_297 (lv_at hl 2 rfl) ?_
          refine lv_icmp_ge (tgt := 306) hx hb dX12_holds_299 (by decide) (fun c_54 => ?_) (fun c_54 => ?_)
          · replace c_54 := (iI_le (by omega) (by omega) (Int.le_trans (by decide) z47_a) (Int.le_trans z47_b (by decide))).mp c_54
            refine lv_iconst (v := iI 0) hx hb dX12_holds_306 (by decide +kernel) ?_
            refine lv_goto (tgt := 350) hx hb dX12_holds_307 (by decide) ?_
            exact ret _ 0 _ _ _ _ _ [0, 1] dX12_holds_350 (by decide +kernel) ⟨rfl, (show (0 : Int) ≤ 0 from by decide), (show (0 : Int) ≤ 1 from by decide)⟩ w (by decide) rfl
          · replace c_54 : z47 < (f0 ((89 + (4 * x0)) + 2)) := Int.not_le.mp (fun h => c_54 ((iI_le (by omega) (by omega) (Int.le_trans (by decide) z47_a) (Int.le_trans z47_b (by decide))).mpr h))
            refine lv_iconst (v := iI 1) hx hb dX12_holds_302 (by decide +kernel) ?_
            refine lv_goto (tgt := 350) hx hb dX12_holds_303 (by decide) ?_
            exact ret _ 1 _ _ _ _ _ [0, 1] dX12_holds_350 (by decide +kernel) ⟨rfl, (show (0 : Int) ≤ 1 from by decide), (show (1 : Int) ≤ 1 from by decide)⟩ w (by decide) rfl
    · replace c_38 := (iI_eq (Int.le_trans (by decide) z37_a) (Int.le_trans z37_b (by decide)) (by decide) (by decide)).mp c_38
      refine lv_aload_n hx hb dX12_holds_252 rfl (lv_at hl 4 rfl) ?_
      refine r_get (v := .ref a2) M w 0 14 clX12 rfl (by decide) G1477 rfl rfl dX12_holds_253 ?_
      refine lv_bipush (v := iI 75) hx hb dX12_holds_256 (by decide +kernel) ?_
      refine lv_iload_n hx hb dX12_holds_258 rfl (lv_at hl 6 rfl) ?_
      refine r_iadd (v := iI (75 + x1)) M (iI_add _ _) dX12_holds_259 ?_
      refine r_iald (v := iI (f0 (75 + x1))) M w 1 rfl (iI_in (by omega) (by omega) (by decide)) (cI_at (by omega) (by omega)) dX12_holds_260 ?_
      have hh55 : (-2147483648) ≤ (f0 (75 + x1)) ∧ (f0 (75 + x1)) ≤ 2147483647 := f0_h.1 (75 + x1)
      refine lv_goto (tgt := 280) hx hb dX12_holds_261 (by decide) ?_
      refine lv_istore (lv' := [(7, .int (iI (f0 (75 + x1)))), (6, .int (iI z37)), (5, .int (iI (f0 ((89 + (4 * x0)) + 2)))), (4, .int (iI (f0 ((89 + (4 * x0)) + 1)))), (3, .int (iI (89 + (4 * x0)))), (0, .ref a0), (1, .int (iI x0)), (2, .int (iI x1))]) hx hb dX12_holds_280 hl (by decide) rfl (fun ls hl => ?_)
      refine lv_aload_n hx hb dX12_holds_282 rfl (lv_at hl 5 rfl) ?_
      refine r_get (v := .ref a2) M w 0 14 clX12 rfl (by decide) G1477 rfl rfl dX12_holds_283 ?_
      refine lv_iload_n hx hb dX12_holds_286 rfl (lv_at hl 4 rfl) ?_
      refine lv_iconst (v := iI 3) hx hb dX12_holds_287 (by decide +kernel) ?_
      refine r_iadd (v := iI ((89 + (4 * x0)) + 3)) M (iI_add _ _) dX12_holds_288 ?_
      refine r_iald (v := iI (f0 ((89 + (4 * x0)) + 3))) M w 1 rfl (iI_in (by omega) (by omega) (by decide)) (cI_at (by omega) (by omega)) dX12_holds_289 ?_
      have hh56 : (-2147483648) ≤ (f0 ((89 + (4 * x0)) + 3)) ∧ (f0 ((89 + (4 * x0)) + 3)) ≤ 2147483647 := f0_h.1 ((89 + (4 * x0)) + 3)
      refine lv_bipush (v := iI 60) hx hb dX12_holds_290 (by decide +kernel) ?_
      refine lv_icmp_ne (tgt := 310) hx hb dX12_holds_292 (by decide) (fun c_57 => ?_) (fun c_57 => ?_)
      · replace c_57 : ¬ (f0 ((89 + (4 * x0)) + 3)) = 60 := fun h => c_57 ((iI_eq (by omega) (by omega) (by decide) (by decide)).mpr h)
        refine lv_aload_n hx hb dX12_holds_310 rfl (lv_at hl 5 rfl) ?_
        refine r_get (v := .ref a2) M w 0 14 clX12 rfl (by decide) G1477 rfl rfl dX12_holds_311 ?_
        refine lv_iload_n hx hb dX12_holds_314 rfl (lv_at hl 4 rfl) ?_
        refine lv_iconst (v := iI 3) hx hb dX12_holds_315 (by decide +kernel) ?_
        refine r_iadd (v := iI ((89 + (4 * x0)) + 3)) M (iI_add _ _) dX12_holds_316 ?_
        refine r_iald (v := iI (f0 ((89 + (4 * x0)) + 3))) M w 1 rfl (iI_in (by omega) (by omega) (by decide)) (cI_at (by omega) (by omega)) dX12_holds_317 ?_
        have hh58 : (-2147483648) ≤ (f0 ((89 + (4 * x0)) + 3)) ∧ (f0 ((89 + (4 * x0)) + 3)) ≤ 2147483647 := f0_h.1 ((89 + (4 * x0)) + 3)
        refine lv_bipush (v := iI 61) hx hb dX12_holds_318 (by decide +kernel) ?_
        refine lv_icmp_ne (tgt := 338) hx hb dX12_holds_320 (by decide) (fun c_59 => ?_) (fun c_59 => ?_)
        · replace c_59 : ¬ (f0 ((89 + (4 * x0)) + 3)) = 61 := fun h => c_59 ((iI_eq (by omega) (by omega) (by decide) (by decide)).mpr h)
          refine lv_iload hx hb dX12_holds_338 (lv_at hl 0 rfl) ?_
          refine lv_iload hx hb dX12_holds_340 (lv_at hl 2 rfl) ?_
          refine lv_icmp_le (tgt := 349) hx hb dX12_holds_342 (by decide) (fun c_60 => ?_) (fun c_60 => ?_)
          · replace c_60 := (iI_le (by omega) (by omega) (by omega) (by omega)).mp c_60
            refine lv_iconst (v := iI 0) hx hb dX12_holds_349 (by decide +kernel) ?_
            exact ret _ 0 _ _ _ _ _ [0, 1] dX12_holds_350 (by decide +kernel) ⟨rfl, (show (0 : Int) ≤ 0 from by decide), (show (0 : Int) ≤ 1 from by decide)⟩ w (by decide) rfl
          · replace c_60 : (f0 ((89 + (4 * x0)) + 2)) < (f0 (75 + x1)) := Int.not_le.mp (fun h => c_60 ((iI_le (by omega) (by omega) (by omega) (by omega)).mpr h))
            refine lv_iconst (v := iI 1) hx hb dX12_holds_345 (by decide +kernel) ?_
            refine lv_goto (tgt := 350) hx hb dX12_holds_346 (by decide) ?_
            exact ret _ 1 _ _ _ _ _ [0, 1] dX12_holds_350 (by decide +kernel) ⟨rfl, (show (0 : Int) ≤ 1 from by decide), (show (1 : Int) ≤ 1 from by decide)⟩ w (by decide) rfl
        · replace c_59 := (iI_eq (by omega) (by omega) (by decide) (by decide)).mp c_59
          refine lv_iload hx hb dX12_holds_323 (lv_at hl 0 rfl) ?_
          refine lv_iload hx hb dX12_holds_325 (lv_at hl 2 rfl) ?_
          refine lv_icmp_ne (tgt := 334) hx hb dX12_holds_327 (by decide) (fun c_61 => ?_) (fun c_61 => ?_)
          · replace c_61 : ¬ (f0 (75 + x1)) = (f0 ((89 + (4 * x0)) + 2)) := fun h => c_61 ((iI_eq (by omega) (by omega) (by omega) (by omega)).mpr h)
            refine lv_iconst (v := iI 0) hx hb dX12_holds_334 (by decide +kernel) ?_
            refine lv_goto (tgt := 350) hx hb dX12_holds_335 (by decide) ?_
            exact ret _ 0 _ _ _ _ _ [0, 1] dX12_holds_350 (by decide +kernel) ⟨rfl, (show (0 : Int) ≤ 0 from by decide), (show (0 : Int) ≤ 1 from by decide)⟩ w (by decide) rfl
          · replace c_61 := (iI_eq (by omega) (by omega) (by omega) (by omega)).mp c_61
            refine lv_iconst (v := iI 1) hx hb dX12_holds_330 (by decide +kernel) ?_
            refine lv_goto (tgt := 350) hx hb dX12_holds_331 (by decide) ?_
            exact ret _ 1 _ _ _ _ _ [0, 1] dX12_holds_350 (by decide +kernel) ⟨rfl, (show (0 : Int) ≤ 1 from by decide), (show (1 : Int) ≤ 1 from by decide)⟩ w (by decide) rfl
      · replace c_57 := (iI_eq (by omega) (by omega) (by decide) (by decide)).mp c_57
        refine lv_iload hx hb dX12_holds_295 (lv_at hl 0 rfl) ?_
        refine lv_iload hx hb dX12_holds_297 (lv_at hl 2 rfl) ?_
        refine lv_icmp_ge (tgt := 306) hx hb dX12_holds_299 (by decide) (fun c_62 => ?_) (fun c_62 => ?_)
        · replace c_62 := (iI_le (by omega) (by omega) (by omega) (by omega)).mp c_62
          refine lv_iconst (v := iI 0) hx hb dX12_holds_306 (by decide +kernel) ?_
          refine lv_goto (tgt := 350) hx hb dX12_holds_307 (by decide) ?_
          exact ret _ 0 _ _ _ _ _ [0, 1] dX12_holds_350 (by decide +kernel) ⟨rfl, (show (0 : Int) ≤ 0 from by decide), (show (0 : Int) ≤ 1 from by decide)⟩ w (by decide) rfl
        · replace c_62 : (f0 (75 + x1)) < (f0 ((89 + (4 * x0)) + 2)) := Int.not_le.mp (fun h => c_62 ((iI_le (by omega) (by omega) (by omega) (by omega)).mpr h))
          refine lv_iconst (v := iI 1) hx hb dX12_holds_302 (by decide +kernel) ?_
          refine lv_goto (tgt := 350) hx hb dX12_holds_303 (by decide) ?_
          exact ret _ 1 _ _ _ _ _ [0, 1] dX12_holds_350 (by decide +kernel) ⟨rfl, (show (0 : Int) ≤ 1 from by decide), (show (1 : Int) ≤ 1 from by decide)⟩ w (by decide) rfl
set_option maxRecDepth 100000 in
set_option maxHeartbeats 4000000 in
theorem c217_X12_said (l : Launch) (D : va_G) (T : Nat → ClassId) (sz : Nat) (a0 : Nat) (x0 : Int) (r0 : Int32) (a1 : Nat) (x1 : Int) (x2 : Int) (x3 : Int) (x4 : Int) (x5 : Int) (x6 : Int) (r1 : Int32) (x7 : Int) (x8 : Int) (x9 : Int) (y0 : Int64) (x10 : Int) (a2 : Nat) (a3 : Nat) (a4 : Nat) (a5 : Nat) (a6 : Nat) (a7 : Nat) (a8 : Nat) (a9 : Nat) (a10 : Nat) (a11 : Nat) (x11 : Int) (a12 : Nat) (a13 : Nat) (a14 : Nat) (a15 : Nat) (x12 : Int) (r2 : Int32) (r3 : Int32) (a16 : Nat) (x13 : Int) (x14 : Int) (a17 : Nat) (a18 : Nat) (x15 : Int) (a19 : Nat) (x16 : Int) (r4 : Int32) (a20 : Nat) (a21 : Nat) (x17 : Int) (r5 : Int32) (a22 : Nat) (x18 : Int) (x19 : Int) (x20 : Int) (x21 : Int) (f0 : Int → Int) (x0_a : (-2147483648) ≤ x0) (x0_b : x0 ≤ 2147483647) (x1_a : 0 ≤ x1) (x1_b : x1 ≤ 940) (x2_a : 0 ≤ x2) (x2_b : x2 ≤ 940) (x3_a : 0 ≤ x3) (x3_b : x3 ≤ 940) (x4_a : 0 ≤ x4) (x4_b : x4 ≤ 940) (x5_a : 0 ≤ x5) (x5_b : x5 ≤ 940) (x6_a : 0 ≤ x6) (x6_b : x6 ≤ 4) (x7_a : (-2147483648) ≤ x7) (x7_b : x7 ≤ 2147483647) (x8_a : (-2147483648) ≤ x8) (x8_b : x8 ≤ 2147483647) (x9_a : 0 ≤ x9) (x9_b : x9 ≤ 940) (x10_a : (-2147483648) ≤ x10) (x10_b : x10 ≤ 2147483647) (x11_a : 0 ≤ x11) (x11_b : x11 ≤ 8) (x12_a : 0 ≤ x12) (x12_b : x12 ≤ 9) (x13_a : (-1) ≤ x13) (x13_b : x13 ≤ 9) (x14_a : (-1) ≤ x14) (x14_b : x14 ≤ 8) (x15_a : 0 ≤ x15) (x15_b : x15 ≤ 9) (x16_a : 0 ≤ x16) (x16_b : x16 ≤ 64) (x17_a : 0 ≤ x17) (x17_b : x17 ≤ 40) (x18_a : 0 ≤ x18) (x18_b : x18 ≤ 40) (x19_a : 0 ≤ x19) (x19_b : x19 ≤ 20) (x20_a : 0 ≤ x20) (x20_b : x20 ≤ 8) (x21_a : 0 ≤ x21) (x21_b : x21 ≤ 39) (f0_h : nowI f0) : Met l yX12_said (Cond.code yX12_said cX12_said 4 (some .int) :: GW) (Rm 43 0 0) (cPre [.ref a0, .int (iI x0)] D T [(a0, .inr (11, [.int r0, .ref a1, .int (iI x1), .int (iI x2), .int (iI x3), .int (iI x4), .int (iI x5), .int (iI x6), .int r1, .int (iI x7), .int (iI x8), .int (iI x9), .long y0, .int (iI x10), .ref a2, .ref a3, .ref a4, .ref a5, .ref a6, .ref a7, .ref a8, .ref a9, .ref a10, .ref a11, .int (iI x11), .ref a12, .ref a13, .ref a14, .ref a15, .int (iI x12), .int r2, .int r3, .ref a16, .int (iI x13), .int (iI x14), .ref a17, .ref a18, .int (iI x15), .ref a19, .int (iI x16), .int r4, .ref a20, .ref a21, .int (iI x17), .int r5, .ref a22, .int (iI x18), .int (iI x19), .int (iI x20), .int (iI x21)])), (a2, .inl (T 0, 329, .inl (cI f0)))] sz) (qI D [(a0, .inr (11, [.int r0, .ref a1, .int (iI x1), .int (iI x2), .int (iI x3), .int (iI x4), .int (iI x5), .int (iI x6), .int r1, .int (iI x7), .int (iI x8), .int (iI x9), .long y0, .int (iI x10), .ref a2, .ref a3, .ref a4, .ref a5, .ref a6, .ref a7, .ref a8, .ref a9, .ref a10, .ref a11, .int (iI x11), .ref a12, .ref a13, .ref a14, .ref a15, .int (iI x12), .int r2, .int r3, .ref a16, .int (iI x13), .int (iI x14), .ref a17, .ref a18, .int (iI x15), .ref a19, .int (iI x16), .int r4, .ref a20, .ref a21, .int (iI x17), .int r5, .ref a22, .int (iI x18), .int (iI x19), .int (iI x20), .int (iI x21)])), (a2, .inl (T 0, 329, .inl (cI f0)))] sz (fun (v : Int32) (u : Int × Int32) => iI u.1 = v ∧ (-2147483648) ≤ u.1 ∧ u.1 ≤ 2147483647) (fun u => [(a0, .inr (11, [.int u.2, .ref a1, .int (iI x1), .int (iI x2), .int (iI x3), .int (iI x4), .int (iI x5), .int (iI x6), .int r1, .int (iI x7), .int (iI x8), .int (iI x9), .long y0, .int (iI x10), .ref a2, .ref a3, .ref a4, .ref a5, .ref a6, .ref a7, .ref a8, .ref a9, .ref a10, .ref a11, .int (iI x11), .ref a12, .ref a13, .ref a14, .ref a15, .int (iI x12), .int r2, .int r3, .ref a16, .int (iI x13), .int (iI x14), .ref a17, .ref a18, .int (iI x15), .ref a19, .int (iI x16), .int r4, .ref a20, .ref a21, .int (iI x17), .int r5, .ref a22, .int (iI x18), .int (iI x19), .int (iI x20), .int (iI x21)])), (a2, .inl (T 0, 329, .inl (cI f0)))])) 0 0 (va_A [(a0, .inr (11, [.int r0, .ref a1, .int (iI x1), .int (iI x2), .int (iI x3), .int (iI x4), .int (iI x5), .int (iI x6), .int r1, .int (iI x7), .int (iI x8), .int (iI x9), .long y0, .int (iI x10), .ref a2, .ref a3, .ref a4, .ref a5, .ref a6, .ref a7, .ref a8, .ref a9, .ref a10, .ref a11, .int (iI x11), .ref a12, .ref a13, .ref a14, .ref a15, .int (iI x12), .int r2, .int r3, .ref a16, .int (iI x13), .int (iI x14), .ref a17, .ref a18, .int (iI x15), .ref a19, .int (iI x16), .int r4, .ref a20, .ref a21, .int (iI x17), .int r5, .ref a22, .int (iI x18), .int (iI x19), .int (iI x20), .int (iI x21)])), (a2, .inl (T 0, 329, .inl (cI f0)))] sz) := by
  refine e_I (by decide) (Nat.le_of_ble_eq_true rfl) ?_
  intro p e s m args below meth c A Q ls M hin w ret hl
  have hx := M.1.1
  have hb := M.1.2.1
  have hl : lv_has ls 4 [(0, .ref a0), (1, .int (iI x0))] := hl
  refine lv_aload_n hx hb dX12_said_0 rfl (lv_at hl 0 rfl) ?_
  refine lv_iconst (v := iI 0) hx hb dX12_said_1 (by decide +kernel) ?_
  refine r_put (ws' := [(a0, .inr (11, [.int (iI 0), .ref a1, .int (iI x1), .int (iI x2), .int (iI x3), .int (iI x4), .int (iI x5), .int (iI x6), .int r1, .int (iI x7), .int (iI x8), .int (iI x9), .long y0, .int (iI x10), .ref a2, .ref a3, .ref a4, .ref a5, .ref a6, .ref a7, .ref a8, .ref a9, .ref a10, .ref a11, .int (iI x11), .ref a12, .ref a13, .ref a14, .ref a15, .int (iI x12), .int r2, .int r3, .ref a16, .int (iI x13), .int (iI x14), .ref a17, .ref a18, .int (iI x15), .ref a19, .int (iI x16), .int r4, .ref a20, .ref a21, .int (iI x17), .int r5, .ref a22, .int (iI x18), .int (iI x19), .int (iI x20), .int (iI x21)])), (a2, .inl (T 0, 329, .inl (cI f0)))]) M w 0 0 clX12 rfl (by decide) G1463 rfl rfl rfl rfl (Nat.le_of_ble_eq_true rfl) rfl dX12_said_2 (fun H locs w => ?_)
  refine lv_aload_n hx hb dX12_said_5 rfl (lv_at hl 0 rfl) ?_
  refine r_get (v := .ref a2) M w 0 14 clX12 rfl (by decide) G1477 rfl rfl dX12_said_6 ?_
  refine lv_bipush (v := iI 87) hx hb dX12_said_9 (by decide +kernel) ?_
  refine r_iald (v := iI (f0 87)) M w 1 rfl (iI_in (by decide) (by decide) (by decide)) (cI_at (by omega) (by omega)) dX12_said_11 ?_
  have hh1 : (-2147483648) ≤ (f0 87) ∧ (f0 87) ≤ 2147483647 := f0_h.1 87
  refine lv_if_ne (tgt := 17) hx hb dX12_said_12 (by decide) (fun c_2 => ?_) (fun c_2 => ?_)
  · replace c_2 : ¬ (f0 87) = 0 := fun h => c_2 ((iz_eq (by omega) (by omega)).mpr h)
    refine lv_iconst (v := iI 0) hx hb dX12_said_17 (by decide +kernel) ?_
    refine lv_istore_n (lv' := [(2, .int (iI 0)), (0, .ref a0), (1, .int (iI x0))]) hx hb dX12_said_18 rfl hl (by decide) rfl (fun ls hl => ?_)
    refine lv_iconst (v := iI 0) hx hb dX12_said_19 (by decide +kernel) ?_
    refine lv_istore_n (lv' := [(3, .int (iI 0)), (2, .int (iI 0)), (0, .ref a0), (1, .int (iI x0))]) hx hb dX12_said_20 rfl hl (by decide) rfl (fun ls hl => ?_)
    have loop1 : ∀ (k1 : Nat) (z3 : Int) (z4 : Int) (H : Heap) (locs : List Loc) (ls : Array Slot), 0 ≤ z3 → z3 ≤ 9 → 0 ≤ z4 → z4 ≤ 9 → 0 ≤ (z3 - z4) → ((9 - z3) : Int).toNat < k1 → WD D A s.heap [(a0, .inr (11, [.int (iI 0), .ref a1, .int (iI x1), .int (iI x2), .int (iI x3), .int (iI x4), .int (iI x5), .int (iI x6), .int r1, .int (iI x7), .int (iI x8), .int (iI x9), .long y0, .int (iI x10), .ref a2, .ref a3, .ref a4, .ref a5, .ref a6, .ref a7, .ref a8, .ref a9, .ref a10, .ref a11, .int (iI x11), .ref a12, .ref a13, .ref a14, .ref a15, .int (iI x12), .int r2, .int r3, .ref a16, .int (iI x13), .int (iI x14), .ref a17, .ref a18, .int (iI x15), .ref a19, .int (iI x16), .int r4, .ref a20, .ref a21, .int (iI x17), .int r5, .ref a22, .int (iI x18), .int (iI x19), .int (iI x20), .int (iI x21)])), (a2, .inl (T 0, 329, .inl (cI f0)))] H locs → lv_has ls 4 [(3, .int (iI z3)), (2, .int (iI z4)), (0, .ref a0), (1, .int (iI x0))] → W p l e (Rm 43 0 0) s m args below meth c H locs 0 0 Q (F0 m 21 ls []) := by
      intro k1
      induction k1 with
      | zero => intro z3 z4 H locs ls z3_a z3_b z4_a z4_b q1_0 hm; exact absurd hm (Nat.not_lt_zero _)
      | succ k1 ih1 =>
        intro z3 z4 H locs ls z3_a z3_b z4_a z4_b q1_0 hm1 w hl
        refine lv_iload_n hx hb dX12_said_21 rfl (lv_at hl 0 rfl) ?_
        refine lv_aload_n hx hb dX12_said_22 rfl (lv_at hl 2 rfl) ?_
        refine r_get (v := .ref a2) M w 0 14 clX12 rfl (by decide) G1477 rfl rfl dX12_said_23 ?_
        refine lv_iconst (v := iI 0) hx hb dX12_said_26 (by decide +kernel) ?_
        refine r_iald (v := iI (f0 0)) M w 1 rfl (iI_in (by decide) (by decide) (by decide)) (cI_at (by omega) (by omega)) dX12_said_27 ?_
        have hh5 : (-2147483648) ≤ (f0 0) ∧ (f0 0) ≤ 2147483647 := f0_h.1 0
        have hh6 : 0 ≤ (f0 0) ∧ (f0 0) ≤ 9 := (f0_h.2.1 0).1 (by omega)
        refine lv_icmp_ge (tgt := 65) hx hb dX12_said_28 (by decide) (fun c_7 => ?_) (fun c_7 => ?_)
        · replace c_7 := (iI_le (by omega) (by omega) (Int.le_trans (by decide) z3_a) (Int.le_trans z3_b (by decide))).mp c_7
          refine lv_iload_n hx hb dX12_said_65 rfl (lv_at hl 3 rfl) ?_
          refine lv_iconst (v := iI (-1)) hx hb dX12_said_66 (by decide +kernel) ?_
          refine lv_icmp_ne (tgt := 74) hx hb dX12_said_67 (by decide) (fun c_8 => ?_) (fun c_8 => ?_)
          · replace c_8 : ¬ x0 = (-1) := fun h => c_8 ((iI_eq (Int.le_trans (by decide) x0_a) (Int.le_trans x0_b (by decide)) (by decide) (by decide)).mpr h)
            refine lv_iconst (v := iI (-1)) hx hb dX12_said_74 (by decide +kernel) ?_
            exact ret _ ((-1), (iI 0)) _ _ _ _ _ [0, 1] dX12_said_75 ⟨rfl, (show (-2147483648) ≤ (-1) from by decide), (show ((-1) : Int) ≤ 2147483647 from by decide)⟩ w (by decide) rfl
          · replace c_8 := (iI_eq (Int.le_trans (by decide) x0_a) (Int.le_trans x0_b (by decide)) (by decide) (by decide)).mp c_8
            refine lv_iload_n hx hb dX12_said_70 rfl (lv_at hl 1 rfl) ?_
            refine lv_goto (tgt := 75) hx hb dX12_said_71 (by decide) ?_
            exact ret _ (z4, (iI 0)) _ _ _ _ _ [0, 1] dX12_said_75 ⟨rfl, (show (-2147483648) ≤ z4 from by omega), (show z4 ≤ 2147483647 from by omega)⟩ w (by decide) rfl
        · replace c_7 : z3 < (f0 0) := Int.not_le.mp (fun h => c_7 ((iI_le (by omega) (by omega) (Int.le_trans (by decide) z3_a) (Int.le_trans z3_b (by decide))).mpr h))
          refine lv_aload_n hx hb dX12_said_31 rfl (lv_at hl 2 rfl) ?_
          refine lv_aload_n hx hb dX12_said_32 rfl (lv_at hl 2 rfl) ?_
          refine r_get (v := .ref a2) M w 0 14 clX12 rfl (by decide) G1477 rfl rfl dX12_said_33 ?_
          refine lv_bipush (v := iI 88) hx hb dX12_said_36 (by decide +kernel) ?_
          refine r_iald (v := iI (f0 88)) M w 1 rfl (iI_in (by decide) (by decide) (by decide)) (cI_at (by omega) (by omega)) dX12_said_38 ?_
          have hh9 : (-2147483648) ≤ (f0 88) ∧ (f0 88) ≤ 2147483647 := f0_h.1 88
          have hh10 : 0 ≤ (f0 88) ∧ (f0 88) ≤ 39 := (f0_h.2.1 88).2.2.2.2 (by omega)
          refine lv_iload_n hx hb dX12_said_39 rfl (lv_at hl 0 rfl) ?_
          refine k_I (ce := 0) (sl := 0) (rest := []) (wr := []) (r_V (f := 42) [0, 1] M w V_HookedCityModel_431 G2053 G117 (c216_X12_holds l D T a0 (iI 0) a1 x1 x2 x3 x4 x5 x6 r1 x7 x8 x9 y0 x10 a2 a3 a4 a5 a6 a7 a8 a9 a10 a11 x11 a12 a13 a14 a15 x12 r2 r3 a16 x13 x14 a17 a18 x15 a19 x16 r4 a20 a21 x17 r5 a22 x18 x19 x20 x21 f0 x1_a x1_b x2_a x2_b x3_a x3_b x4_a x4_b x5_a x5_b x6_a x6_b x7_a x7_b x8_a x8_b x9_a x9_b x10_a x10_b x11_a x11_b x12_a x12_b x13_a x13_b x14_a x14_b x15_a x15_b x16_a x16_b x17_a x17_b x18_a x18_b x19_a x19_b x20_a x20_b x21_a x21_b f0_h 40 _ (f0 88) z3 (by omega) (by omega) (by omega) (by omega) (by omega)) 0 clX12 rfl rfl (by decide) rfl hl.1 rfl (Nat.le_of_ble_eq_true rfl) dX12_said_40 (by decide) (by decide) (by decide) (by decide)) w [0, 1] [] rfl rfl (by decide) (by decide) rfl rfl (fun v z11 H locs hp w => ?_)
          have hv : iI z11 = v := hp.1
          subst hv
          have z11_a : 0 ≤ z11 := hp.2.1
          have z11_b : z11 ≤ 1 := hp.2.2
          have w : WD D A s.heap [(a0, .inr (11, [.int (iI 0), .ref a1, .int (iI x1), .int (iI x2), .int (iI x3), .int (iI x4), .int (iI x5), .int (iI x6), .int r1, .int (iI x7), .int (iI x8), .int (iI x9), .long y0, .int (iI x10), .ref a2, .ref a3, .ref a4, .ref a5, .ref a6, .ref a7, .ref a8, .ref a9, .ref a10, .ref a11, .int (iI x11), .ref a12, .ref a13, .ref a14, .ref a15, .int (iI x12), .int r2, .int r3, .ref a16, .int (iI x13), .int (iI x14), .ref a17, .ref a18, .int (iI x15), .ref a19, .int (iI x16), .int r4, .ref a20, .ref a21, .int (iI x17), .int r5, .ref a22, .int (iI x18), .int (iI x19), .int (iI x20), .int (iI x21)])), (a2, .inl (T 0, 329, .inl (cI f0)))] H locs := w
          refine lv_if_ne (tgt := 49) hx hb dX12_said_43 (by decide) (fun c_12 => ?_) (fun c_12 => ?_)
          · replace c_12 : ¬ z11 = 0 := fun h => c_12 ((iz_eq (Int.le_trans (by decide) z11_a) (Int.le_trans z11_b (by decide))).mpr h)
            refine lv_iload_n hx hb dX12_said_49 rfl (lv_at hl 1 rfl) ?_
            refine lv_iload_n hx hb dX12_said_50 rfl (lv_at hl 3 rfl) ?_
            refine lv_icmp_ne (tgt := 56) hx hb dX12_said_51 (by decide) (fun c_13 => ?_) (fun c_13 => ?_)
            · replace c_13 : ¬ z4 = x0 := fun h => c_13 ((iI_eq (Int.le_trans (by decide) z4_a) (Int.le_trans z4_b (by decide)) (Int.le_trans (by decide) x0_a) (Int.le_trans x0_b (by decide))).mpr h)
              refine lv_iinc (v := iI (z4 + 1)) (lv' := [(2, .int (iI (z4 + 1))), (3, .int (iI z3)), (0, .ref a0), (1, .int (iI x0))]) hx hb dX12_said_56 hl (k := 1) rfl (ii_inc (by decide +kernel)) (by decide) rfl (fun ls hl => ?_)
              refine lv_iinc (v := iI (z3 + 1)) (lv' := [(3, .int (iI (z3 + 1))), (2, .int (iI (z4 + 1))), (0, .ref a0), (1, .int (iI x0))]) hx hb dX12_said_59 hl (k := 1) rfl (ii_inc (by decide +kernel)) (by decide) rfl (fun ls hl => ?_)
              refine lv_goto (tgt := 21) hx hb dX12_said_62 (by decide) ?_
              exact ih1 (z3 + 1) (z4 + 1) _ _ _ (by omega) (by omega) (by omega) (by omega) (by omega) (by omega) w (lv_sub hl [0, 1, 2, 3] rfl)
            · replace c_13 := (iI_eq (Int.le_trans (by decide) z4_a) (Int.le_trans z4_b (by decide)) (Int.le_trans (by decide) x0_a) (Int.le_trans x0_b (by decide))).mp c_13
              refine lv_iload_n hx hb dX12_said_54 rfl (lv_at hl 0 rfl) ?_
              exact ret _ (z3, (iI 0)) _ _ _ _ _ [0, 1] dX12_said_55 ⟨rfl, (show (-2147483648) ≤ z3 from by omega), (show z3 ≤ 2147483647 from by omega)⟩ w (by decide) rfl
          · replace c_12 := (iz_eq (Int.le_trans (by decide) z11_a) (Int.le_trans z11_b (by decide))).mp c_12
            refine lv_goto (tgt := 59) hx hb dX12_said_46 (by decide) ?_
            refine lv_iinc (v := iI (z3 + 1)) (lv' := [(3, .int (iI (z3 + 1))), (2, .int (iI z4)), (0, .ref a0), (1, .int (iI x0))]) hx hb dX12_said_59 hl (k := 0) rfl (ii_inc (by decide +kernel)) (by decide) rfl (fun ls hl => ?_)
            refine lv_goto (tgt := 21) hx hb dX12_said_62 (by decide) ?_
            exact ih1 (z3 + 1) z4 _ _ _ (by omega) (by omega) z4_a z4_b (by omega) (by omega) w (lv_sub hl [0, 1, 2, 3] rfl)
    exact loop1 ((9 : Int).toNat + 1) 0 0 _ _ _ (by decide) (by decide) (by decide) (by decide) (by omega) (Nat.lt_succ_self _) w (lv_sub hl [0, 1, 2, 3] rfl)
  · replace c_2 := (iz_eq (by omega) (by omega)).mp c_2
    refine lv_iconst (v := iI (-1)) hx hb dX12_said_15 (by decide +kernel) ?_
    exact ret _ ((-1), (iI 0)) _ _ _ _ _ [0, 1] dX12_said_16 ⟨rfl, (show (-2147483648) ≤ (-1) from by decide), (show ((-1) : Int) ≤ 2147483647 from by decide)⟩ w (by decide) rfl
