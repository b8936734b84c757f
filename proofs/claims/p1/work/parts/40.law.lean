theorem dL_law_1184 : decode cL_law 1184 = .ok (.iinc 4 6, 3) := by decide +kernel
theorem dL_law_1187 : decode cL_law 1187 = .ok (.goto (-1164), 3) := by decide +kernel
theorem dL_law_23 : decode cL_law 23 = .ok (.iload 4, 2) := by decide +kernel
theorem dL_law_25 : decode cL_law 25 = .ok (.aload_n 0, 1) := by decide +kernel
theorem dL_law_26 : decode cL_law 26 = .ok (.arraylength, 1) := by decide +kernel
theorem dL_law_27 : decode cL_law 27 = .ok (.bipush 6, 2) := by decide +kernel
theorem dL_law_29 : decode cL_law 29 = .ok (.isub, 1) := by decide +kernel
theorem dL_law_30 : decode cL_law 30 = .ok (.if_icmp .gt 1160, 3) := by decide +kernel
theorem dL_law_1190 : decode cL_law 1190 = .ok (.iconst 1, 1) := by decide +kernel
theorem dL_law_1191 : decode cL_law 1191 = .ok (.ireturn, 1) := by decide +kernel
theorem dL_law_204 : decode cL_law 204 = .ok (.aload_n 1, 1) := by decide +kernel
theorem dL_law_205 : decode cL_law 205 = .ok (.aload_n 0, 1) := by decide +kernel
theorem dL_law_206 : decode cL_law 206 = .ok (.iload 4, 2) := by decide +kernel
theorem dL_law_208 : decode cL_law 208 = .ok (.iconst 1, 1) := by decide +kernel
theorem dL_law_209 : decode cL_law 209 = .ok (.iadd, 1) := by decide +kernel
theorem dL_law_210 : decode cL_law 210 = .ok (.iaload, 1) := by decide +kernel
theorem dL_law_211 : decode cL_law 211 = .ok (.aload_n 0, 1) := by decide +kernel
theorem dL_law_212 : decode cL_law 212 = .ok (.iload 4, 2) := by decide +kernel
theorem dL_law_214 : decode cL_law 214 = .ok (.iconst 2, 1) := by decide +kernel
theorem dL_law_215 : decode cL_law 215 = .ok (.iadd, 1) := by decide +kernel
theorem dL_law_216 : decode cL_law 216 = .ok (.iaload, 1) := by decide +kernel
theorem dL_law_217 : decode cL_law 217 = .ok (.aload_n 0, 1) := by decide +kernel
theorem dL_law_218 : decode cL_law 218 = .ok (.iload 4, 2) := by decide +kernel
theorem dL_law_220 : decode cL_law 220 = .ok (.iconst 3, 1) := by decide +kernel
theorem dL_law_221 : decode cL_law 221 = .ok (.iadd, 1) := by decide +kernel
theorem dL_law_222 : decode cL_law 222 = .ok (.iaload, 1) := by decide +kernel
theorem dL_law_223 : decode cL_law 223 = .ok (.aload_n 0, 1) := by decide +kernel
theorem dL_law_224 : decode cL_law 224 = .ok (.iload 4, 2) := by decide +kernel
theorem dL_law_226 : decode cL_law 226 = .ok (.iconst 4, 1) := by decide +kernel
theorem dL_law_227 : decode cL_law 227 = .ok (.iadd, 1) := by decide +kernel
theorem dL_law_228 : decode cL_law 228 = .ok (.iaload, 1) := by decide +kernel
theorem dL_law_229 : decode cL_law 229 = .ok (.aload_n 0, 1) := by decide +kernel
theorem dL_law_230 : decode cL_law 230 = .ok (.iload 4, 2) := by decide +kernel
theorem dL_law_232 : decode cL_law 232 = .ok (.iconst 5, 1) := by decide +kernel
theorem dL_law_233 : decode cL_law 233 = .ok (.iadd, 1) := by decide +kernel
theorem dL_law_234 : decode cL_law 234 = .ok (.iaload, 1) := by decide +kernel
theorem dL_law_235 : decode cL_law 235 = .ok (.invokevirtual 19, 3) := by decide +kernel
theorem G552 : Cond.code ⟨"HookedCity", "feed", "(IIIII)I"⟩ prog_1_method_2_code 6 (some .int) ∈ GW := gw_i 552 (by decide +kernel) rfl
theorem G549 : Cond.methodLink "HookedCityLaw" 19 ⟨"HookedCity", "feed", "(IIIII)I"⟩ ∈ GW := gw_i 549 (by decide +kernel) rfl
theorem V_HookedCityLaw_19 : VL "HookedCityLaw" 19 yX11_feed cX11_feed 6 (some .int) 5 := ⟨G552, G549, G119, by decide +kernel, by decide +kernel, by decide +kernel⟩
theorem G550 : Cond.instanceMethod ⟨"HookedCity", "feed", "(IIIII)I"⟩ ∈ GW := gw_i 550 (by decide +kernel) rfl
theorem G551 : Cond.selects "HookedCity" ⟨"HookedCity", "feed", "(IIIII)I"⟩ ⟨"HookedCity", "feed", "(IIIII)I"⟩ ∈ GW := gw_i 551 (by decide +kernel) rfl
theorem dL_law_238 : decode cL_law 238 = .ok (.aload_n 2, 1) := by decide +kernel
theorem dL_law_239 : decode cL_law 239 = .ok (.aload_n 0, 1) := by decide +kernel
theorem dL_law_240 : decode cL_law 240 = .ok (.iload 4, 2) := by decide +kernel
theorem dL_law_242 : decode cL_law 242 = .ok (.iconst 1, 1) := by decide +kernel
theorem dL_law_243 : decode cL_law 243 = .ok (.iadd, 1) := by decide +kernel
theorem dL_law_244 : decode cL_law 244 = .ok (.iaload, 1) := by decide +kernel
theorem dL_law_245 : decode cL_law 245 = .ok (.aload_n 0, 1) := by decide +kernel
theorem dL_law_246 : decode cL_law 246 = .ok (.iload 4, 2) := by decide +kernel
theorem dL_law_248 : decode cL_law 248 = .ok (.iconst 2, 1) := by decide +kernel
theorem dL_law_249 : decode cL_law 249 = .ok (.iadd, 1) := by decide +kernel
theorem dL_law_250 : decode cL_law 250 = .ok (.iaload, 1) := by decide +kernel
theorem dL_law_251 : decode cL_law 251 = .ok (.aload_n 0, 1) := by decide +kernel
theorem dL_law_252 : decode cL_law 252 = .ok (.iload 4, 2) := by decide +kernel
theorem dL_law_254 : decode cL_law 254 = .ok (.iconst 3, 1) := by decide +kernel
theorem dL_law_255 : decode cL_law 255 = .ok (.iadd, 1) := by decide +kernel
theorem dL_law_256 : decode cL_law 256 = .ok (.iaload, 1) := by decide +kernel
theorem dL_law_257 : decode cL_law 257 = .ok (.aload_n 0, 1) := by decide +kernel
theorem dL_law_258 : decode cL_law 258 = .ok (.iload 4, 2) := by decide +kernel
theorem dL_law_260 : decode cL_law 260 = .ok (.iconst 4, 1) := by decide +kernel
theorem dL_law_261 : decode cL_law 261 = .ok (.iadd, 1) := by decide +kernel
theorem dL_law_262 : decode cL_law 262 = .ok (.iaload, 1) := by decide +kernel
theorem dL_law_263 : decode cL_law 263 = .ok (.aload_n 0, 1) := by decide +kernel
theorem dL_law_264 : decode cL_law 264 = .ok (.iload 4, 2) := by decide +kernel
theorem dL_law_266 : decode cL_law 266 = .ok (.iconst 5, 1) := by decide +kernel
theorem dL_law_267 : decode cL_law 267 = .ok (.iadd, 1) := by decide +kernel
theorem dL_law_268 : decode cL_law 268 = .ok (.iaload, 1) := by decide +kernel
theorem dL_law_269 : decode cL_law 269 = .ok (.invokevirtual 23, 3) := by decide +kernel
theorem G1444 : Cond.code ⟨"HookedCityModel", "feed", "(IIIII)I"⟩ prog_14_method_4_code 6 (some .int) ∈ GW := gw_i 1444 (by decide +kernel) rfl
theorem G1441 : Cond.methodLink "HookedCityLaw" 23 ⟨"HookedCityModel", "feed", "(IIIII)I"⟩ ∈ GW := gw_i 1441 (by decide +kernel) rfl
theorem V_HookedCityLaw_23 : VL "HookedCityLaw" 23 yX12_feed cX12_feed 6 (some .int) 5 := ⟨G1444, G1441, G131, by decide +kernel, by decide +kernel, by decide +kernel⟩
theorem G1442 : Cond.instanceMethod ⟨"HookedCityModel", "feed", "(IIIII)I"⟩ ∈ GW := gw_i 1442 (by decide +kernel) rfl
theorem G1443 : Cond.selects "HookedCityModel" ⟨"HookedCityModel", "feed", "(IIIII)I"⟩ ⟨"HookedCityModel", "feed", "(IIIII)I"⟩ ∈ GW := gw_i 1443 (by decide +kernel) rfl
theorem dL_law_272 : decode cL_law 272 = .ok (.if_icmp .eq 912, 3) := by decide +kernel
theorem dL_law_277 : decode cL_law 277 = .ok (.aload_n 1, 1) := by decide +kernel
theorem dL_law_278 : decode cL_law 278 = .ok (.aload_n 0, 1) := by decide +kernel
theorem dL_law_279 : decode cL_law 279 = .ok (.iload 4, 2) := by decide +kernel
theorem dL_law_281 : decode cL_law 281 = .ok (.iconst 1, 1) := by decide +kernel
theorem dL_law_282 : decode cL_law 282 = .ok (.iadd, 1) := by decide +kernel
theorem dL_law_283 : decode cL_law 283 = .ok (.iaload, 1) := by decide +kernel
theorem dL_law_284 : decode cL_law 284 = .ok (.invokevirtual 24, 3) := by decide +kernel
theorem G564 : Cond.code ⟨"HookedCity", "end", "(I)Z"⟩ prog_1_method_3_code 2 (some .boolean) ∈ GW := gw_i 564 (by decide +kernel) rfl
theorem G561 : Cond.methodLink "HookedCityLaw" 24 ⟨"HookedCity", "end", "(I)Z"⟩ ∈ GW := gw_i 561 (by decide +kernel) rfl
theorem V_HookedCityLaw_24 : VL "HookedCityLaw" 24 yX11_end cX11_end 2 (some .boolean) 1 := ⟨G564, G561, G119, by decide +kernel, by decide +kernel, by decide +kernel⟩
theorem G562 : Cond.instanceMethod ⟨"HookedCity", "end", "(I)Z"⟩ ∈ GW := gw_i 562 (by decide +kernel) rfl
theorem G563 : Cond.selects "HookedCity" ⟨"HookedCity", "end", "(I)Z"⟩ ⟨"HookedCity", "end", "(I)Z"⟩ ∈ GW := gw_i 563 (by decide +kernel) rfl
theorem dL_law_287 : decode cL_law 287 = .ok (.aload_n 2, 1) := by decide +kernel
theorem dL_law_288 : decode cL_law 288 = .ok (.aload_n 0, 1) := by decide +kernel
theorem dL_law_289 : decode cL_law 289 = .ok (.iload 4, 2) := by decide +kernel
theorem dL_law_291 : decode cL_law 291 = .ok (.iconst 1, 1) := by decide +kernel
theorem dL_law_292 : decode cL_law 292 = .ok (.iadd, 1) := by decide +kernel
theorem dL_law_293 : decode cL_law 293 = .ok (.iaload, 1) := by decide +kernel
theorem dL_law_294 : decode cL_law 294 = .ok (.invokevirtual 28, 3) := by decide +kernel
theorem G1453 : Cond.code ⟨"HookedCityModel", "end", "(I)Z"⟩ prog_14_method_5_code 2 (some .boolean) ∈ GW := gw_i 1453 (by decide +kernel) rfl
theorem G1450 : Cond.methodLink "HookedCityLaw" 28 ⟨"HookedCityModel", "end", "(I)Z"⟩ ∈ GW := gw_i 1450 (by decide +kernel) rfl
theorem V_HookedCityLaw_28 : VL "HookedCityLaw" 28 yX12_end cX12_end 2 (some .boolean) 1 := ⟨G1453, G1450, G131, by decide +kernel, by decide +kernel, by decide +kernel⟩
theorem G1451 : Cond.instanceMethod ⟨"HookedCityModel", "end", "(I)Z"⟩ ∈ GW := gw_i 1451 (by decide +kernel) rfl
theorem G1452 : Cond.selects "HookedCityModel" ⟨"HookedCityModel", "end", "(I)Z"⟩ ⟨"HookedCityModel", "end", "(I)Z"⟩ ∈ GW := gw_i 1452 (by decide +kernel) rfl
theorem dL_law_297 : decode cL_law 297 = .ok (.if_icmp .eq 887, 3) := by decide +kernel
theorem dL_law_302 : decode cL_law 302 = .ok (.aload_n 1, 1) := by decide +kernel
theorem dL_law_303 : decode cL_law 303 = .ok (.invokevirtual 29, 3) := by decide +kernel
theorem G572 : Cond.code ⟨"HookedCity", "city", "()I"⟩ prog_1_method_4_code 3 (some .int) ∈ GW := gw_i 572 (by decide +kernel) rfl
theorem G569 : Cond.methodLink "HookedCityLaw" 29 ⟨"HookedCity", "city", "()I"⟩ ∈ GW := gw_i 569 (by decide +kernel) rfl
theorem V_HookedCityLaw_29 : VL "HookedCityLaw" 29 yX11_city cX11_city 3 (some .int) 0 := ⟨G572, G569, G119, by decide +kernel, by decide +kernel, by decide +kernel⟩
theorem G570 : Cond.instanceMethod ⟨"HookedCity", "city", "()I"⟩ ∈ GW := gw_i 570 (by decide +kernel) rfl
theorem G571 : Cond.selects "HookedCity" ⟨"HookedCity", "city", "()I"⟩ ⟨"HookedCity", "city", "()I"⟩ ∈ GW := gw_i 571 (by decide +kernel) rfl
theorem dL_law_306 : decode cL_law 306 = .ok (.aload_n 2, 1) := by decide +kernel
theorem dL_law_307 : decode cL_law 307 = .ok (.invokevirtual 33, 3) := by decide +kernel
theorem G1622 : Cond.code ⟨"HookedCityModel", "city", "()I"⟩ prog_14_method_41_code 3 (some .int) ∈ GW := gw_i 1622 (by decide +kernel) rfl
theorem G1619 : Cond.methodLink "HookedCityLaw" 33 ⟨"HookedCityModel", "city", "()I"⟩ ∈ GW := gw_i 1619 (by decide +kernel) rfl
theorem V_HookedCityLaw_33 : VL "HookedCityLaw" 33 yX12_city cX12_city 3 (some .int) 0 := ⟨G1622, G1619, G131, by decide +kernel, by decide +kernel, by decide +kernel⟩
theorem G1620 : Cond.instanceMethod ⟨"HookedCityModel", "city", "()I"⟩ ∈ GW := gw_i 1620 (by decide +kernel) rfl
theorem G1621 : Cond.selects "HookedCityModel" ⟨"HookedCityModel", "city", "()I"⟩ ⟨"HookedCityModel", "city", "()I"⟩ ∈ GW := gw_i 1621 (by decide +kernel) rfl
theorem dL_law_310 : decode cL_law 310 = .ok (.if_icmp .eq 874, 3) := by decide +kernel
theorem dL_law_315 : decode cL_law 315 = .ok (.aload_n 1, 1) := by decide +kernel
theorem dL_law_316 : decode cL_law 316 = .ok (.invokevirtual 34, 3) := by decide +kernel
theorem G806 : Cond.code ⟨"HookedCity", "fault", "()I"⟩ prog_1_method_5_code 1 (some .int) ∈ GW := gw_i 806 (by decide +kernel) rfl
theorem G803 : Cond.methodLink "HookedCityLaw" 34 ⟨"HookedCity", "fault", "()I"⟩ ∈ GW := gw_i 803 (by decide +kernel) rfl
theorem V_HookedCityLaw_34 : VL "HookedCityLaw" 34 yX11_fault cX11_fault 1 (some .int) 0 := ⟨G806, G803, G119, by decide +kernel, by decide +kernel, by decide +kernel⟩
theorem G804 : Cond.instanceMethod ⟨"HookedCity", "fault", "()I"⟩ ∈ GW := gw_i 804 (by decide +kernel) rfl
theorem G805 : Cond.selects "HookedCity" ⟨"HookedCity", "fault", "()I"⟩ ⟨"HookedCity", "fault", "()I"⟩ ∈ GW := gw_i 805 (by decide +kernel) rfl
theorem dL_law_319 : decode cL_law 319 = .ok (.aload_n 2, 1) := by decide +kernel
theorem dL_law_320 : decode cL_law 320 = .ok (.invokevirtual 37, 3) := by decide +kernel
theorem G1733 : Cond.code ⟨"HookedCityModel", "fault", "()I"⟩ prog_14_method_42_code 1 (some .int) ∈ GW := gw_i 1733 (by decide +kernel) rfl
theorem G1730 : Cond.methodLink "HookedCityLaw" 37 ⟨"HookedCityModel", "fault", "()I"⟩ ∈ GW := gw_i 1730 (by decide +kernel) rfl
theorem V_HookedCityLaw_37 : VL "HookedCityLaw" 37 yX12_fault cX12_fault 1 (some .int) 0 := ⟨G1733, G1730, G131, by decide +kernel, by decide +kernel, by decide +kernel⟩
theorem G1731 : Cond.instanceMethod ⟨"HookedCityModel", "fault", "()I"⟩ ∈ GW := gw_i 1731 (by decide +kernel) rfl
theorem G1732 : Cond.selects "HookedCityModel" ⟨"HookedCityModel", "fault", "()I"⟩ ⟨"HookedCityModel", "fault", "()I"⟩ ∈ GW := gw_i 1732 (by decide +kernel) rfl
theorem dL_law_323 : decode cL_law 323 = .ok (.if_icmp .eq 861, 3) := by decide +kernel
theorem dX12_refuse_0 : decode cX12_refuse 0 = .ok (.aload_n 0, 1) := by decide +kernel
theorem dX12_refuse_1 : decode cX12_refuse 1 = .ok (.iconst 1, 1) := by decide +kernel
theorem dX12_refuse_2 : decode cX12_refuse 2 = .ok (.putfield 1, 3) := by decide +kernel
theorem dX12_refuse_5 : decode cX12_refuse 5 = .ok (.iconst 0, 1) := by decide +kernel
theorem dX12_refuse_6 : decode cX12_refuse 6 = .ok (.ireturn, 1) := by decide +kernel
theorem dX12_person_0 : decode cX12_person 0 = .ok (.aload_n 0, 1) := by decide +kernel
theorem dX12_person_1 : decode cX12_person 1 = .ok (.iconst 0, 1) := by decide +kernel
theorem dX12_person_2 : decode cX12_person 2 = .ok (.putfield 1, 3) := by decide +kernel
theorem dX12_person_5 : decode cX12_person 5 = .ok (.aload_n 0, 1) := by decide +kernel
theorem dX12_person_6 : decode cX12_person 6 = .ok (.iload_n 1, 1) := by decide +kernel
theorem dX12_person_7 : decode cX12_person 7 = .ok (.invokevirtual 240, 3) := by decide +kernel
theorem dX12_person_10 : decode cX12_person 10 = .ok (.ifCond .ne 8, 3) := by decide +kernel
theorem dX12_person_13 : decode cX12_person 13 = .ok (.aload_n 0, 1) := by decide +kernel
theorem dX12_person_14 : decode cX12_person 14 = .ok (.invokevirtual 243, 3) := by decide +kernel
theorem G1745 : Cond.code ⟨"HookedCityModel", "refuse", "()I"⟩ prog_14_method_2_code 1 (some .int) ∈ GW := gw_i 1745 (by decide +kernel) rfl
theorem G1742 : Cond.methodLink "HookedCityModel" 243 ⟨"HookedCityModel", "refuse", "()I"⟩ ∈ GW := gw_i 1742 (by decide +kernel) rfl
theorem V_HookedCityModel_243 : VL "HookedCityModel" 243 yX12_refuse cX12_refuse 1 (some .int) 0 := ⟨G1745, G1742, G131, by decide +kernel, by decide +kernel, by decide +kernel⟩
theorem G1744 : Cond.instanceMethod ⟨"HookedCityModel", "refuse", "()I"⟩ ∈ GW := gw_i 1744 (by decide +kernel) rfl
theorem G69 : Cond.selects "HookedCityModel" ⟨"HookedCityModel", "refuse", "()I"⟩ ⟨"HookedCityModel", "refuse", "()I"⟩ ∈ GW := gw_i 69 (by decide +kernel) rfl
theorem dX12_person_17 : decode cX12_person 17 = .ok (.ireturn, 1) := by decide +kernel
theorem dL_law_328 : decode cL_law 328 = .ok (.aload_n 1, 1) := by decide +kernel
theorem dL_law_329 : decode cL_law 329 = .ok (.aload_n 0, 1) := by decide +kernel
theorem dL_law_330 : decode cL_law 330 = .ok (.iload 4, 2) := by decide +kernel
theorem dL_law_332 : decode cL_law 332 = .ok (.iconst 1, 1) := by decide +kernel
theorem dL_law_333 : decode cL_law 333 = .ok (.iadd, 1) := by decide +kernel
theorem dL_law_334 : decode cL_law 334 = .ok (.iaload, 1) := by decide +kernel
theorem dL_law_335 : decode cL_law 335 = .ok (.aload_n 0, 1) := by decide +kernel
theorem dL_law_336 : decode cL_law 336 = .ok (.iload 4, 2) := by decide +kernel
theorem dL_law_338 : decode cL_law 338 = .ok (.iconst 2, 1) := by decide +kernel
theorem dL_law_339 : decode cL_law 339 = .ok (.iadd, 1) := by decide +kernel
theorem dL_law_340 : decode cL_law 340 = .ok (.iaload, 1) := by decide +kernel
theorem dL_law_341 : decode cL_law 341 = .ok (.aload_n 3, 1) := by decide +kernel
theorem G1366 : Cond.methodLink "HookedCityLaw" 38 ⟨"HookedCityLaw", "person", "(LHookedCity;II[J)I"⟩ ∈ GW := gw_i 1366 (by decide +kernel) rfl
theorem G1367 : Cond.static ⟨"HookedCityLaw", "person", "(LHookedCity;II[J)I"⟩ ∈ GW := gw_i 1367 (by decide +kernel) rfl
theorem G118 : Cond.initialized "HookedCityLaw" ∈ GW := gw_i 118 (by decide +kernel) rfl
theorem G1368 : Cond.codeWith ⟨"HookedCityLaw", "person", "(LHookedCity;II[J)I"⟩ method_3_code 5 (some .int) [(0, 10, 13, 13)] ∈ GW := gw_i 1368 (by decide +kernel) rfl
theorem dL_law_342 : decode cL_law 342 = .ok (.invokestatic 38, 3) := by decide +kernel
theorem dL_law_345 : decode cL_law 345 = .ok (.istore 5, 2) := by decide +kernel
theorem dL_law_347 : decode cL_law 347 = .ok (.aload_n 2, 1) := by decide +kernel
theorem dL_law_348 : decode cL_law 348 = .ok (.aload_n 0, 1) := by decide +kernel
theorem dL_law_349 : decode cL_law 349 = .ok (.iload 4, 2) := by decide +kernel
theorem dL_law_351 : decode cL_law 351 = .ok (.iconst 1, 1) := by decide +kernel
theorem dL_law_352 : decode cL_law 352 = .ok (.iadd, 1) := by decide +kernel
theorem dL_law_353 : decode cL_law 353 = .ok (.iaload, 1) := by decide +kernel
theorem dL_law_354 : decode cL_law 354 = .ok (.aload_n 0, 1) := by decide +kernel
theorem dL_law_355 : decode cL_law 355 = .ok (.iload 4, 2) := by decide +kernel
theorem dL_law_357 : decode cL_law 357 = .ok (.iconst 2, 1) := by decide +kernel
theorem dL_law_358 : decode cL_law 358 = .ok (.iadd, 1) := by decide +kernel
theorem dL_law_359 : decode cL_law 359 = .ok (.iaload, 1) := by decide +kernel
theorem dL_law_360 : decode cL_law 360 = .ok (.invokevirtual 43, 3) := by decide +kernel
theorem G1737 : Cond.code ⟨"HookedCityModel", "person", "(II)I"⟩ prog_14_method_51_code 3 (some .int) ∈ GW := gw_i 1737 (by decide +kernel) rfl
theorem G1734 : Cond.methodLink "HookedCityLaw" 43 ⟨"HookedCityModel", "person", "(II)I"⟩ ∈ GW := gw_i 1734 (by decide +kernel) rfl
theorem V_HookedCityLaw_43 : VL "HookedCityLaw" 43 yX12_person cX12_person 3 (some .int) 2 := ⟨G1737, G1734, G131, by decide +kernel, by decide +kernel, by decide +kernel⟩
theorem G1735 : Cond.instanceMethod ⟨"HookedCityModel", "person", "(II)I"⟩ ∈ GW := gw_i 1735 (by decide +kernel) rfl
theorem G1736 : Cond.selects "HookedCityModel" ⟨"HookedCityModel", "person", "(II)I"⟩ ⟨"HookedCityModel", "person", "(II)I"⟩ ∈ GW := gw_i 1736 (by decide +kernel) rfl
theorem dL_law_363 : decode cL_law 363 = .ok (.istore 6, 2) := by decide +kernel
theorem dL_law_365 : decode cL_law 365 = .ok (.aload_n 2, 1) := by decide +kernel
theorem dL_law_366 : decode cL_law 366 = .ok (.invokevirtual 44, 3) := by decide +kernel
theorem dX12_thrown_0 : decode cX12_thrown 0 = .ok (.aload_n 0, 1) := by decide +kernel
theorem dX12_thrown_1 : decode cX12_thrown 1 = .ok (.getfield 1, 3) := by decide +kernel
theorem dX12_thrown_4 : decode cX12_thrown 4 = .ok (.ireturn, 1) := by decide +kernel
theorem G1440 : Cond.code ⟨"HookedCityModel", "thrown", "()I"⟩ prog_14_method_1_code 1 (some .int) ∈ GW := gw_i 1440 (by decide +kernel) rfl
theorem G1437 : Cond.methodLink "HookedCityLaw" 44 ⟨"HookedCityModel", "thrown", "()I"⟩ ∈ GW := gw_i 1437 (by decide +kernel) rfl
theorem V_HookedCityLaw_44 : VL "HookedCityLaw" 44 yX12_thrown cX12_thrown 1 (some .int) 0 := ⟨G1440, G1437, G131, by decide +kernel, by decide +kernel, by decide +kernel⟩
theorem G1438 : Cond.instanceMethod ⟨"HookedCityModel", "thrown", "()I"⟩ ∈ GW := gw_i 1438 (by decide +kernel) rfl
theorem G1439 : Cond.selects "HookedCityModel" ⟨"HookedCityModel", "thrown", "()I"⟩ ⟨"HookedCityModel", "thrown", "()I"⟩ ∈ GW := gw_i 1439 (by decide +kernel) rfl
theorem dL_law_369 : decode cL_law 369 = .ok (.iload 5, 2) := by decide +kernel
theorem dL_law_371 : decode cL_law 371 = .ok (.if_icmp .eq 5, 3) := by decide +kernel
theorem dL_law_376 : decode cL_law 376 = .ok (.iload 5, 2) := by decide +kernel
theorem dL_law_378 : decode cL_law 378 = .ok (.ifCond .ne 15, 3) := by decide +kernel
theorem dL_law_393 : decode cL_law 393 = .ok (.goto 791, 3) := by decide +kernel
theorem dL_law_396 : decode cL_law 396 = .ok (.aload_n 1, 1) := by decide +kernel
theorem dL_law_397 : decode cL_law 397 = .ok (.aload_n 0, 1) := by decide +kernel
theorem dL_law_398 : decode cL_law 398 = .ok (.iload 4, 2) := by decide +kernel
theorem dL_law_400 : decode cL_law 400 = .ok (.iconst 1, 1) := by decide +kernel
theorem dL_law_401 : decode cL_law 401 = .ok (.iadd, 1) := by decide +kernel
theorem dL_law_402 : decode cL_law 402 = .ok (.iaload, 1) := by decide +kernel
theorem dL_law_403 : decode cL_law 403 = .ok (.aload_n 0, 1) := by decide +kernel
theorem dL_law_404 : decode cL_law 404 = .ok (.iload 4, 2) := by decide +kernel
theorem dL_law_406 : decode cL_law 406 = .ok (.iconst 2, 1) := by decide +kernel
theorem dL_law_407 : decode cL_law 407 = .ok (.iadd, 1) := by decide +kernel
theorem dL_law_408 : decode cL_law 408 = .ok (.iaload, 1) := by decide +kernel
theorem dL_law_409 : decode cL_law 409 = .ok (.invokevirtual 47, 3) := by decide +kernel
theorem G810 : Cond.code ⟨"HookedCity", "maid", "(II)I"⟩ prog_1_method_7_code 3 (some .int) ∈ GW := gw_i 810 (by decide +kernel) rfl
theorem G807 : Cond.methodLink "HookedCityLaw" 47 ⟨"HookedCity", "maid", "(II)I"⟩ ∈ GW := gw_i 807 (by decide +kernel) rfl
theorem V_HookedCityLaw_47 : VL "HookedCityLaw" 47 yX11_maid cX11_maid 3 (some .int) 2 := ⟨G810, G807, G119, by decide +kernel, by decide +kernel, by decide +kernel⟩
theorem G808 : Cond.instanceMethod ⟨"HookedCity", "maid", "(II)I"⟩ ∈ GW := gw_i 808 (by decide +kernel) rfl
theorem G809 : Cond.selects "HookedCity" ⟨"HookedCity", "maid", "(II)I"⟩ ⟨"HookedCity", "maid", "(II)I"⟩ ∈ GW := gw_i 809 (by decide +kernel) rfl
theorem dL_law_412 : decode cL_law 412 = .ok (.aload_n 2, 1) := by decide +kernel
theorem dL_law_413 : decode cL_law 413 = .ok (.aload_n 0, 1) := by decide +kernel
theorem dL_law_414 : decode cL_law 414 = .ok (.iload 4, 2) := by decide +kernel
theorem dL_law_416 : decode cL_law 416 = .ok (.iconst 1, 1) := by decide +kernel
theorem dL_law_417 : decode cL_law 417 = .ok (.iadd, 1) := by decide +kernel
theorem dL_law_418 : decode cL_law 418 = .ok (.iaload, 1) := by decide +kernel
theorem dL_law_419 : decode cL_law 419 = .ok (.aload_n 0, 1) := by decide +kernel
theorem dL_law_420 : decode cL_law 420 = .ok (.iload 4, 2) := by decide +kernel
theorem dL_law_422 : decode cL_law 422 = .ok (.iconst 2, 1) := by decide +kernel
theorem dL_law_423 : decode cL_law 423 = .ok (.iadd, 1) := by decide +kernel
theorem dL_law_424 : decode cL_law 424 = .ok (.iaload, 1) := by decide +kernel
theorem dL_law_425 : decode cL_law 425 = .ok (.invokevirtual 50, 3) := by decide +kernel
theorem G1757 : Cond.code ⟨"HookedCityModel", "maid", "(II)I"⟩ prog_14_method_52_code 3 (some .int) ∈ GW := gw_i 1757 (by decide +kernel) rfl
theorem G1754 : Cond.methodLink "HookedCityLaw" 50 ⟨"HookedCityModel", "maid", "(II)I"⟩ ∈ GW := gw_i 1754 (by decide +kernel) rfl
theorem V_HookedCityLaw_50 : VL "HookedCityLaw" 50 yX12_maid cX12_maid 3 (some .int) 2 := ⟨G1757, G1754, G131, by decide +kernel, by decide +kernel, by decide +kernel⟩
theorem G1755 : Cond.instanceMethod ⟨"HookedCityModel", "maid", "(II)I"⟩ ∈ GW := gw_i 1755 (by decide +kernel) rfl
theorem G1756 : Cond.selects "HookedCityModel" ⟨"HookedCityModel", "maid", "(II)I"⟩ ⟨"HookedCityModel", "maid", "(II)I"⟩ ∈ GW := gw_i 1756 (by decide +kernel) rfl
theorem dL_law_428 : decode cL_law 428 = .ok (.if_icmp .eq 756, 3) := by decide +kernel
theorem dL_law_433 : decode cL_law 433 = .ok (.aload_n 1, 1) := by decide +kernel
theorem dL_law_434 : decode cL_law 434 = .ok (.aload_n 0, 1) := by decide +kernel
theorem dL_law_435 : decode cL_law 435 = .ok (.iload 4, 2) := by decide +kernel
theorem dL_law_437 : decode cL_law 437 = .ok (.iconst 1, 1) := by decide +kernel
theorem dL_law_438 : decode cL_law 438 = .ok (.iadd, 1) := by decide +kernel
theorem dL_law_439 : decode cL_law 439 = .ok (.iaload, 1) := by decide +kernel
theorem dL_law_440 : decode cL_law 440 = .ok (.invokevirtual 51, 3) := by decide +kernel
theorem G818 : Cond.code ⟨"HookedCity", "now", "(I)I"⟩ prog_1_method_8_code 2 (some .int) ∈ GW := gw_i 818 (by decide +kernel) rfl
theorem G815 : Cond.methodLink "HookedCityLaw" 51 ⟨"HookedCity", "now", "(I)I"⟩ ∈ GW := gw_i 815 (by decide +kernel) rfl
theorem V_HookedCityLaw_51 : VL "HookedCityLaw" 51 yX11_now cX11_now 2 (some .int) 1 := ⟨G818, G815, G119, by decide +kernel, by decide +kernel, by decide +kernel⟩
theorem G816 : Cond.instanceMethod ⟨"HookedCity", "now", "(I)I"⟩ ∈ GW := gw_i 816 (by decide +kernel) rfl
theorem G817 : Cond.selects "HookedCity" ⟨"HookedCity", "now", "(I)I"⟩ ⟨"HookedCity", "now", "(I)I"⟩ ∈ GW := gw_i 817 (by decide +kernel) rfl
theorem dL_law_443 : decode cL_law 443 = .ok (.aload_n 2, 1) := by decide +kernel
theorem dL_law_444 : decode cL_law 444 = .ok (.aload_n 0, 1) := by decide +kernel
theorem dL_law_445 : decode cL_law 445 = .ok (.iload 4, 2) := by decide +kernel
theorem dL_law_447 : decode cL_law 447 = .ok (.iconst 1, 1) := by decide +kernel
theorem dL_law_448 : decode cL_law 448 = .ok (.iadd, 1) := by decide +kernel
theorem dL_law_449 : decode cL_law 449 = .ok (.iaload, 1) := by decide +kernel
theorem dL_law_450 : decode cL_law 450 = .ok (.invokevirtual 55, 3) := by decide +kernel
theorem G1765 : Cond.code ⟨"HookedCityModel", "now", "(I)I"⟩ prog_14_method_55_code 4 (some .int) ∈ GW := gw_i 1765 (by decide +kernel) rfl
theorem G1762 : Cond.methodLink "HookedCityLaw" 55 ⟨"HookedCityModel", "now", "(I)I"⟩ ∈ GW := gw_i 1762 (by decide +kernel) rfl
theorem V_HookedCityLaw_55 : VL "HookedCityLaw" 55 yX12_now cX12_now 4 (some .int) 1 := ⟨G1765, G1762, G131, by decide +kernel, by decide +kernel, by decide +kernel⟩
theorem G1763 : Cond.instanceMethod ⟨"HookedCityModel", "now", "(I)I"⟩ ∈ GW := gw_i 1763 (by decide +kernel) rfl
theorem G1764 : Cond.selects "HookedCityModel" ⟨"HookedCityModel", "now", "(I)I"⟩ ⟨"HookedCityModel", "now", "(I)I"⟩ ∈ GW := gw_i 1764 (by decide +kernel) rfl
theorem dL_law_453 : decode cL_law 453 = .ok (.if_icmp .eq 731, 3) := by decide +kernel
theorem dL_law_458 : decode cL_law 458 = .ok (.aload_n 1, 1) := by decide +kernel
theorem dL_law_459 : decode cL_law 459 = .ok (.aload_n 0, 1) := by decide +kernel
theorem dL_law_460 : decode cL_law 460 = .ok (.iload 4, 2) := by decide +kernel
theorem dL_law_462 : decode cL_law 462 = .ok (.iconst 1, 1) := by decide +kernel
theorem dL_law_463 : decode cL_law 463 = .ok (.iadd, 1) := by decide +kernel
theorem dL_law_464 : decode cL_law 464 = .ok (.iaload, 1) := by decide +kernel
theorem dL_law_465 : decode cL_law 465 = .ok (.aload_n 0, 1) := by decide +kernel
theorem dL_law_466 : decode cL_law 466 = .ok (.iload 4, 2) := by decide +kernel
theorem dL_law_468 : decode cL_law 468 = .ok (.iconst 2, 1) := by decide +kernel
theorem dL_law_469 : decode cL_law 469 = .ok (.iadd, 1) := by decide +kernel
theorem dL_law_470 : decode cL_law 470 = .ok (.iaload, 1) := by decide +kernel
theorem dL_law_471 : decode cL_law 471 = .ok (.aload_n 0, 1) := by decide +kernel
theorem dL_law_472 : decode cL_law 472 = .ok (.iload 4, 2) := by decide +kernel
theorem dL_law_474 : decode cL_law 474 = .ok (.iconst 3, 1) := by decide +kernel
theorem dL_law_475 : decode cL_law 475 = .ok (.iadd, 1) := by decide +kernel
theorem dL_law_476 : decode cL_law 476 = .ok (.iaload, 1) := by decide +kernel
theorem dL_law_477 : decode cL_law 477 = .ok (.invokevirtual 56, 3) := by decide +kernel
theorem G838 : Cond.code ⟨"HookedCity", "button", "(III)I"⟩ prog_1_method_9_code 5 (some .int) ∈ GW := gw_i 838 (by decide +kernel) rfl
theorem G835 : Cond.methodLink "HookedCityLaw" 56 ⟨"HookedCity", "button", "(III)I"⟩ ∈ GW := gw_i 835 (by decide +kernel) rfl
theorem V_HookedCityLaw_56 : VL "HookedCityLaw" 56 yX11_button cX11_button 5 (some .int) 3 := ⟨G838, G835, G119, by decide +kernel, by decide +kernel, by decide +kernel⟩
theorem G836 : Cond.instanceMethod ⟨"HookedCity", "button", "(III)I"⟩ ∈ GW := gw_i 836 (by decide +kernel) rfl
theorem G837 : Cond.selects "HookedCity" ⟨"HookedCity", "button", "(III)I"⟩ ⟨"HookedCity", "button", "(III)I"⟩ ∈ GW := gw_i 837 (by decide +kernel) rfl
theorem dL_law_480 : decode cL_law 480 = .ok (.aload_n 2, 1) := by decide +kernel
theorem dL_law_481 : decode cL_law 481 = .ok (.aload_n 0, 1) := by decide +kernel
theorem dL_law_482 : decode cL_law 482 = .ok (.iload 4, 2) := by decide +kernel
theorem dL_law_484 : decode cL_law 484 = .ok (.iconst 1, 1) := by decide +kernel
theorem dL_law_485 : decode cL_law 485 = .ok (.iadd, 1) := by decide +kernel
theorem dL_law_486 : decode cL_law 486 = .ok (.iaload, 1) := by decide +kernel
theorem dL_law_487 : decode cL_law 487 = .ok (.aload_n 0, 1) := by decide +kernel
theorem dL_law_488 : decode cL_law 488 = .ok (.iload 4, 2) := by decide +kernel
theorem dL_law_490 : decode cL_law 490 = .ok (.iconst 2, 1) := by decide +kernel
theorem dL_law_491 : decode cL_law 491 = .ok (.iadd, 1) := by decide +kernel
theorem dL_law_492 : decode cL_law 492 = .ok (.iaload, 1) := by decide +kernel
theorem dL_law_493 : decode cL_law 493 = .ok (.aload_n 0, 1) := by decide +kernel
theorem dL_law_494 : decode cL_law 494 = .ok (.iload 4, 2) := by decide +kernel
theorem dL_law_496 : decode cL_law 496 = .ok (.iconst 3, 1) := by decide +kernel
theorem dL_law_497 : decode cL_law 497 = .ok (.iadd, 1) := by decide +kernel
theorem dL_law_498 : decode cL_law 498 = .ok (.iaload, 1) := by decide +kernel
theorem dL_law_499 : decode cL_law 499 = .ok (.invokevirtual 60, 3) := by decide +kernel
theorem G1789 : Cond.code ⟨"HookedCityModel", "button", "(III)I"⟩ prog_14_method_63_code 4 (some .int) ∈ GW := gw_i 1789 (by decide +kernel) rfl
theorem G1786 : Cond.methodLink "HookedCityLaw" 60 ⟨"HookedCityModel", "button", "(III)I"⟩ ∈ GW := gw_i 1786 (by decide +kernel) rfl
theorem V_HookedCityLaw_60 : VL "HookedCityLaw" 60 yX12_button cX12_button 4 (some .int) 3 := ⟨G1789, G1786, G131, by decide +kernel, by decide +kernel, by decide +kernel⟩
theorem G1787 : Cond.instanceMethod ⟨"HookedCityModel", "button", "(III)I"⟩ ∈ GW := gw_i 1787 (by decide +kernel) rfl
theorem G1788 : Cond.selects "HookedCityModel" ⟨"HookedCityModel", "button", "(III)I"⟩ ⟨"HookedCityModel", "button", "(III)I"⟩ ∈ GW := gw_i 1788 (by decide +kernel) rfl
theorem dL_law_502 : decode cL_law 502 = .ok (.if_icmp .eq 682, 3) := by decide +kernel
theorem dL_law_507 : decode cL_law 507 = .ok (.aload_n 1, 1) := by decide +kernel
theorem dL_law_508 : decode cL_law 508 = .ok (.aload_n 0, 1) := by decide +kernel
theorem dL_law_509 : decode cL_law 509 = .ok (.iload 4, 2) := by decide +kernel
theorem dL_law_511 : decode cL_law 511 = .ok (.iconst 1, 1) := by decide +kernel
theorem dL_law_512 : decode cL_law 512 = .ok (.iadd, 1) := by decide +kernel
theorem dL_law_513 : decode cL_law 513 = .ok (.iaload, 1) := by decide +kernel
theorem dL_law_514 : decode cL_law 514 = .ok (.aload_n 0, 1) := by decide +kernel
theorem dL_law_515 : decode cL_law 515 = .ok (.iload 4, 2) := by decide +kernel
theorem dL_law_517 : decode cL_law 517 = .ok (.iconst 2, 1) := by decide +kernel
theorem dL_law_518 : decode cL_law 518 = .ok (.iadd, 1) := by decide +kernel
theorem dL_law_519 : decode cL_law 519 = .ok (.iaload, 1) := by decide +kernel
theorem dL_law_520 : decode cL_law 520 = .ok (.invokevirtual 61, 3) := by decide +kernel
theorem G875 : Cond.code ⟨"HookedCity", "loose", "(II)I"⟩ prog_1_method_10_code 4 (some .int) ∈ GW := gw_i 875 (by decide +kernel) rfl
theorem G872 : Cond.methodLink "HookedCityLaw" 61 ⟨"HookedCity", "loose", "(II)I"⟩ ∈ GW := gw_i 872 (by decide +kernel) rfl
theorem V_HookedCityLaw_61 : VL "HookedCityLaw" 61 yX11_loose cX11_loose 4 (some .int) 2 := ⟨G875, G872, G119, by decide +kernel, by decide +kernel, by decide +kernel⟩
theorem G873 : Cond.instanceMethod ⟨"HookedCity", "loose", "(II)I"⟩ ∈ GW := gw_i 873 (by decide +kernel) rfl
theorem G874 : Cond.selects "HookedCity" ⟨"HookedCity", "loose", "(II)I"⟩ ⟨"HookedCity", "loose", "(II)I"⟩ ∈ GW := gw_i 874 (by decide +kernel) rfl
theorem dL_law_523 : decode cL_law 523 = .ok (.aload_n 2, 1) := by decide +kernel
theorem dL_law_524 : decode cL_law 524 = .ok (.aload_n 0, 1) := by decide +kernel
theorem dL_law_525 : decode cL_law 525 = .ok (.iload 4, 2) := by decide +kernel
theorem dL_law_527 : decode cL_law 527 = .ok (.iconst 1, 1) := by decide +kernel
theorem dL_law_528 : decode cL_law 528 = .ok (.iadd, 1) := by decide +kernel
theorem dL_law_529 : decode cL_law 529 = .ok (.iaload, 1) := by decide +kernel
theorem dL_law_530 : decode cL_law 530 = .ok (.aload_n 0, 1) := by decide +kernel
theorem dL_law_531 : decode cL_law 531 = .ok (.iload 4, 2) := by decide +kernel
theorem dL_law_533 : decode cL_law 533 = .ok (.iconst 2, 1) := by decide +kernel
theorem dL_law_534 : decode cL_law 534 = .ok (.iadd, 1) := by decide +kernel
theorem dL_law_535 : decode cL_law 535 = .ok (.iaload, 1) := by decide +kernel
theorem dL_law_536 : decode cL_law 536 = .ok (.invokevirtual 64, 3) := by decide +kernel
theorem G1821 : Cond.code ⟨"HookedCityModel", "loose", "(II)I"⟩ prog_14_method_64_code 3 (some .int) ∈ GW := gw_i 1821 (by decide +kernel) rfl
theorem G1818 : Cond.methodLink "HookedCityLaw" 64 ⟨"HookedCityModel", "loose", "(II)I"⟩ ∈ GW := gw_i 1818 (by decide +kernel) rfl
theorem V_HookedCityLaw_64 : VL "HookedCityLaw" 64 yX12_loose cX12_loose 3 (some .int) 2 := ⟨G1821, G1818, G131, by decide +kernel, by decide +kernel, by decide +kernel⟩
theorem G1819 : Cond.instanceMethod ⟨"HookedCityModel", "loose", "(II)I"⟩ ∈ GW := gw_i 1819 (by decide +kernel) rfl
theorem G1820 : Cond.selects "HookedCityModel" ⟨"HookedCityModel", "loose", "(II)I"⟩ ⟨"HookedCityModel", "loose", "(II)I"⟩ ∈ GW := gw_i 1820 (by decide +kernel) rfl
theorem dL_law_539 : decode cL_law 539 = .ok (.if_icmp .eq 645, 3) := by decide +kernel
theorem dL_law_544 : decode cL_law 544 = .ok (.aload_n 1, 1) := by decide +kernel
theorem dL_law_545 : decode cL_law 545 = .ok (.aload_n 0, 1) := by decide +kernel
theorem dL_law_546 : decode cL_law 546 = .ok (.iload 4, 2) := by decide +kernel
theorem dL_law_548 : decode cL_law 548 = .ok (.iconst 1, 1) := by decide +kernel
theorem dL_law_549 : decode cL_law 549 = .ok (.iadd, 1) := by decide +kernel
theorem dL_law_550 : decode cL_law 550 = .ok (.iaload, 1) := by decide +kernel
theorem dL_law_551 : decode cL_law 551 = .ok (.invokevirtual 65, 3) := by decide +kernel
theorem G891 : Cond.code ⟨"HookedCity", "mend", "(I)I"⟩ prog_1_method_11_code 3 (some .int) ∈ GW := gw_i 891 (by decide +kernel) rfl
theorem G888 : Cond.methodLink "HookedCityLaw" 65 ⟨"HookedCity", "mend", "(I)I"⟩ ∈ GW := gw_i 888 (by decide +kernel) rfl
theorem V_HookedCityLaw_65 : VL "HookedCityLaw" 65 yX11_mend cX11_mend 3 (some .int) 1 := ⟨G891, G888, G119, by decide +kernel, by decide +kernel, by decide +kernel⟩
theorem G889 : Cond.instanceMethod ⟨"HookedCity", "mend", "(I)I"⟩ ∈ GW := gw_i 889 (by decide +kernel) rfl
theorem G890 : Cond.selects "HookedCity" ⟨"HookedCity", "mend", "(I)I"⟩ ⟨"HookedCity", "mend", "(I)I"⟩ ∈ GW := gw_i 890 (by decide +kernel) rfl
theorem dL_law_554 : decode cL_law 554 = .ok (.aload_n 2, 1) := by decide +kernel
theorem dL_law_555 : decode cL_law 555 = .ok (.aload_n 0, 1) := by decide +kernel
theorem dL_law_556 : decode cL_law 556 = .ok (.iload 4, 2) := by decide +kernel
theorem dL_law_558 : decode cL_law 558 = .ok (.iconst 1, 1) := by decide +kernel
theorem dL_law_559 : decode cL_law 559 = .ok (.iadd, 1) := by decide +kernel
theorem dL_law_560 : decode cL_law 560 = .ok (.iaload, 1) := by decide +kernel
theorem dL_law_561 : decode cL_law 561 = .ok (.invokevirtual 68, 3) := by decide +kernel
theorem G1825 : Cond.code ⟨"HookedCityModel", "mend", "(I)I"⟩ prog_14_method_65_code 2 (some .int) ∈ GW := gw_i 1825 (by decide +kernel) rfl
theorem G1822 : Cond.methodLink "HookedCityLaw" 68 ⟨"HookedCityModel", "mend", "(I)I"⟩ ∈ GW := gw_i 1822 (by decide +kernel) rfl
theorem V_HookedCityLaw_68 : VL "HookedCityLaw" 68 yX12_mend cX12_mend 2 (some .int) 1 := ⟨G1825, G1822, G131, by decide +kernel, by decide +kernel, by decide +kernel⟩
theorem G1823 : Cond.instanceMethod ⟨"HookedCityModel", "mend", "(I)I"⟩ ∈ GW := gw_i 1823 (by decide +kernel) rfl
theorem G1824 : Cond.selects "HookedCityModel" ⟨"HookedCityModel", "mend", "(I)I"⟩ ⟨"HookedCityModel", "mend", "(I)I"⟩ ∈ GW := gw_i 1824 (by decide +kernel) rfl
theorem dL_law_564 : decode cL_law 564 = .ok (.if_icmp .eq 620, 3) := by decide +kernel
theorem dL_law_569 : decode cL_law 569 = .ok (.aload_n 1, 1) := by decide +kernel
theorem dL_law_570 : decode cL_law 570 = .ok (.aload_n 0, 1) := by decide +kernel
theorem dL_law_571 : decode cL_law 571 = .ok (.iload 4, 2) := by decide +kernel
theorem dL_law_573 : decode cL_law 573 = .ok (.iconst 1, 1) := by decide +kernel
theorem dL_law_574 : decode cL_law 574 = .ok (.iadd, 1) := by decide +kernel
theorem dL_law_575 : decode cL_law 575 = .ok (.iaload, 1) := by decide +kernel
theorem dL_law_576 : decode cL_law 576 = .ok (.invokevirtual 69, 3) := by decide +kernel
theorem G903 : Cond.code ⟨"HookedCity", "days", "(I)I"⟩ prog_1_method_12_code 2 (some .int) ∈ GW := gw_i 903 (by decide +kernel) rfl
theorem G900 : Cond.methodLink "HookedCityLaw" 69 ⟨"HookedCity", "days", "(I)I"⟩ ∈ GW := gw_i 900 (by decide +kernel) rfl
theorem V_HookedCityLaw_69 : VL "HookedCityLaw" 69 yX11_days cX11_days 2 (some .int) 1 := ⟨G903, G900, G119, by decide +kernel, by decide +kernel, by decide +kernel⟩
theorem G901 : Cond.instanceMethod ⟨"HookedCity", "days", "(I)I"⟩ ∈ GW := gw_i 901 (by decide +kernel) rfl
theorem G902 : Cond.selects "HookedCity" ⟨"HookedCity", "days", "(I)I"⟩ ⟨"HookedCity", "days", "(I)I"⟩ ∈ GW := gw_i 902 (by decide +kernel) rfl
theorem dL_law_579 : decode cL_law 579 = .ok (.aload_n 2, 1) := by decide +kernel
theorem dL_law_580 : decode cL_law 580 = .ok (.aload_n 0, 1) := by decide +kernel
theorem dL_law_581 : decode cL_law 581 = .ok (.iload 4, 2) := by decide +kernel
theorem dL_law_583 : decode cL_law 583 = .ok (.iconst 1, 1) := by decide +kernel
theorem dL_law_584 : decode cL_law 584 = .ok (.iadd, 1) := by decide +kernel
theorem dL_law_585 : decode cL_law 585 = .ok (.iaload, 1) := by decide +kernel
theorem dL_law_586 : decode cL_law 586 = .ok (.invokevirtual 72, 3) := by decide +kernel
theorem G1833 : Cond.code ⟨"HookedCityModel", "days", "(I)I"⟩ prog_14_method_70_code 2 (some .int) ∈ GW := gw_i 1833 (by decide +kernel) rfl
theorem G1830 : Cond.methodLink "HookedCityLaw" 72 ⟨"HookedCityModel", "days", "(I)I"⟩ ∈ GW := gw_i 1830 (by decide +kernel) rfl
theorem V_HookedCityLaw_72 : VL "HookedCityLaw" 72 yX12_days cX12_days 2 (some .int) 1 := ⟨G1833, G1830, G131, by decide +kernel, by decide +kernel, by decide +kernel⟩
theorem G1831 : Cond.instanceMethod ⟨"HookedCityModel", "days", "(I)I"⟩ ∈ GW := gw_i 1831 (by decide +kernel) rfl
theorem G1832 : Cond.selects "HookedCityModel" ⟨"HookedCityModel", "days", "(I)I"⟩ ⟨"HookedCityModel", "days", "(I)I"⟩ ∈ GW := gw_i 1832 (by decide +kernel) rfl
theorem dL_law_589 : decode cL_law 589 = .ok (.if_icmp .eq 595, 3) := by decide +kernel
theorem dL_law_594 : decode cL_law 594 = .ok (.aload_n 1, 1) := by decide +kernel
theorem dL_law_595 : decode cL_law 595 = .ok (.invokevirtual 73, 3) := by decide +kernel
theorem G920 : Cond.code ⟨"HookedCity", "undo", "()I"⟩ prog_1_method_13_code 1 (some .int) ∈ GW := gw_i 920 (by decide +kernel) rfl
theorem G917 : Cond.methodLink "HookedCityLaw" 73 ⟨"HookedCity", "undo", "()I"⟩ ∈ GW := gw_i 917 (by decide +kernel) rfl
theorem V_HookedCityLaw_73 : VL "HookedCityLaw" 73 yX11_undo cX11_undo 1 (some .int) 0 := ⟨G920, G917, G119, by decide +kernel, by decide +kernel, by decide +kernel⟩
theorem G918 : Cond.instanceMethod ⟨"HookedCity", "undo", "()I"⟩ ∈ GW := gw_i 918 (by decide +kernel) rfl
theorem G919 : Cond.selects "HookedCity" ⟨"HookedCity", "undo", "()I"⟩ ⟨"HookedCity", "undo", "()I"⟩ ∈ GW := gw_i 919 (by decide +kernel) rfl
theorem dL_law_598 : decode cL_law 598 = .ok (.aload_n 2, 1) := by decide +kernel
theorem dL_law_599 : decode cL_law 599 = .ok (.invokevirtual 76, 3) := by decide +kernel
theorem G1829 : Cond.code ⟨"HookedCityModel", "undo", "()I"⟩ prog_14_method_66_code 2 (some .int) ∈ GW := gw_i 1829 (by decide +kernel) rfl
theorem G1826 : Cond.methodLink "HookedCityLaw" 76 ⟨"HookedCityModel", "undo", "()I"⟩ ∈ GW := gw_i 1826 (by decide +kernel) rfl
theorem V_HookedCityLaw_76 : VL "HookedCityLaw" 76 yX12_undo cX12_undo 2 (some .int) 0 := ⟨G1829, G1826, G131, by decide +kernel, by decide +kernel, by decide +kernel⟩
theorem G1827 : Cond.instanceMethod ⟨"HookedCityModel", "undo", "()I"⟩ ∈ GW := gw_i 1827 (by decide +kernel) rfl
theorem G1828 : Cond.selects "HookedCityModel" ⟨"HookedCityModel", "undo", "()I"⟩ ⟨"HookedCityModel", "undo", "()I"⟩ ∈ GW := gw_i 1828 (by decide +kernel) rfl
theorem dL_law_602 : decode cL_law 602 = .ok (.if_icmp .eq 582, 3) := by decide +kernel
theorem dL_law_607 : decode cL_law 607 = .ok (.aload_n 1, 1) := by decide +kernel
theorem dL_law_608 : decode cL_law 608 = .ok (.aload_n 0, 1) := by decide +kernel
theorem dL_law_609 : decode cL_law 609 = .ok (.iload 4, 2) := by decide +kernel
theorem dL_law_611 : decode cL_law 611 = .ok (.iconst 1, 1) := by decide +kernel
theorem dL_law_612 : decode cL_law 612 = .ok (.iadd, 1) := by decide +kernel
theorem dL_law_613 : decode cL_law 613 = .ok (.iaload, 1) := by decide +kernel
theorem dL_law_614 : decode cL_law 614 = .ok (.invokevirtual 77, 3) := by decide +kernel
theorem G924 : Cond.code ⟨"HookedCity", "with", "(I)I"⟩ prog_1_method_14_code 2 (some .int) ∈ GW := gw_i 924 (by decide +kernel) rfl
theorem G921 : Cond.methodLink "HookedCityLaw" 77 ⟨"HookedCity", "with", "(I)I"⟩ ∈ GW := gw_i 921 (by decide +kernel) rfl
theorem V_HookedCityLaw_77 : VL "HookedCityLaw" 77 yX11_with cX11_with 2 (some .int) 1 := ⟨G924, G921, G119, by decide +kernel, by decide +kernel, by decide +kernel⟩
theorem G922 : Cond.instanceMethod ⟨"HookedCity", "with", "(I)I"⟩ ∈ GW := gw_i 922 (by decide +kernel) rfl
theorem G923 : Cond.selects "HookedCity" ⟨"HookedCity", "with", "(I)I"⟩ ⟨"HookedCity", "with", "(I)I"⟩ ∈ GW := gw_i 923 (by decide +kernel) rfl
theorem dL_law_617 : decode cL_law 617 = .ok (.aload_n 2, 1) := by decide +kernel
theorem dL_law_618 : decode cL_law 618 = .ok (.aload_n 0, 1) := by decide +kernel
theorem dL_law_619 : decode cL_law 619 = .ok (.iload 4, 2) := by decide +kernel
theorem dL_law_621 : decode cL_law 621 = .ok (.iconst 1, 1) := by decide +kernel
theorem dL_law_622 : decode cL_law 622 = .ok (.iadd, 1) := by decide +kernel
theorem dL_law_623 : decode cL_law 623 = .ok (.iaload, 1) := by decide +kernel
theorem dL_law_624 : decode cL_law 624 = .ok (.invokevirtual 80, 3) := by decide +kernel
theorem G1852 : Cond.code ⟨"HookedCityModel", "with", "(I)I"⟩ prog_14_method_71_code 2 (some .int) ∈ GW := gw_i 1852 (by decide +kernel) rfl
theorem G1849 : Cond.methodLink "HookedCityLaw" 80 ⟨"HookedCityModel", "with", "(I)I"⟩ ∈ GW := gw_i 1849 (by decide +kernel) rfl
theorem V_HookedCityLaw_80 : VL "HookedCityLaw" 80 yX12_with cX12_with 2 (some .int) 1 := ⟨G1852, G1849, G131, by decide +kernel, by decide +kernel, by decide +kernel⟩
theorem G1850 : Cond.instanceMethod ⟨"HookedCityModel", "with", "(I)I"⟩ ∈ GW := gw_i 1850 (by decide +kernel) rfl
theorem G1851 : Cond.selects "HookedCityModel" ⟨"HookedCityModel", "with", "(I)I"⟩ ⟨"HookedCityModel", "with", "(I)I"⟩ ∈ GW := gw_i 1851 (by decide +kernel) rfl
theorem dL_law_627 : decode cL_law 627 = .ok (.if_icmp .eq 557, 3) := by decide +kernel
theorem dL_law_632 : decode cL_law 632 = .ok (.aload_n 1, 1) := by decide +kernel
theorem dL_law_633 : decode cL_law 633 = .ok (.invokevirtual 81, 3) := by decide +kernel
theorem G932 : Cond.code ⟨"HookedCity", "parts", "()I"⟩ prog_1_method_15_code 1 (some .int) ∈ GW := gw_i 932 (by decide +kernel) rfl
theorem G929 : Cond.methodLink "HookedCityLaw" 81 ⟨"HookedCity", "parts", "()I"⟩ ∈ GW := gw_i 929 (by decide +kernel) rfl
theorem V_HookedCityLaw_81 : VL "HookedCityLaw" 81 yX11_parts cX11_parts 1 (some .int) 0 := ⟨G932, G929, G119, by decide +kernel, by decide +kernel, by decide +kernel⟩
theorem G930 : Cond.instanceMethod ⟨"HookedCity", "parts", "()I"⟩ ∈ GW := gw_i 930 (by decide +kernel) rfl
theorem G931 : Cond.selects "HookedCity" ⟨"HookedCity", "parts", "()I"⟩ ⟨"HookedCity", "parts", "()I"⟩ ∈ GW := gw_i 931 (by decide +kernel) rfl
theorem dL_law_636 : decode cL_law 636 = .ok (.aload_n 2, 1) := by decide +kernel
theorem dL_law_637 : decode cL_law 637 = .ok (.invokevirtual 84, 3) := by decide +kernel
theorem G1860 : Cond.code ⟨"HookedCityModel", "parts", "()I"⟩ prog_14_method_72_code 4 (some .int) ∈ GW := gw_i 1860 (by decide +kernel) rfl
theorem G1857 : Cond.methodLink "HookedCityLaw" 84 ⟨"HookedCityModel", "parts", "()I"⟩ ∈ GW := gw_i 1857 (by decide +kernel) rfl
theorem V_HookedCityLaw_84 : VL "HookedCityLaw" 84 yX12_parts cX12_parts 4 (some .int) 0 := ⟨G1860, G1857, G131, by decide +kernel, by decide +kernel, by decide +kernel⟩
theorem G1858 : Cond.instanceMethod ⟨"HookedCityModel", "parts", "()I"⟩ ∈ GW := gw_i 1858 (by decide +kernel) rfl
theorem G1859 : Cond.selects "HookedCityModel" ⟨"HookedCityModel", "parts", "()I"⟩ ⟨"HookedCityModel", "parts", "()I"⟩ ∈ GW := gw_i 1859 (by decide +kernel) rfl
theorem dL_law_640 : decode cL_law 640 = .ok (.if_icmp .eq 544, 3) := by decide +kernel
theorem dL_law_645 : decode cL_law 645 = .ok (.aload_n 1, 1) := by decide +kernel
theorem dL_law_646 : decode cL_law 646 = .ok (.invokevirtual 85, 3) := by decide +kernel
theorem G941 : Cond.code ⟨"HookedCity", "quiet", "()I"⟩ prog_1_method_16_code 1 (some .int) ∈ GW := gw_i 941 (by decide +kernel) rfl
theorem G938 : Cond.methodLink "HookedCityLaw" 85 ⟨"HookedCity", "quiet", "()I"⟩ ∈ GW := gw_i 938 (by decide +kernel) rfl
theorem V_HookedCityLaw_85 : VL "HookedCityLaw" 85 yX11_quiet cX11_quiet 1 (some .int) 0 := ⟨G941, G938, G119, by decide +kernel, by decide +kernel, by decide +kernel⟩
theorem G939 : Cond.instanceMethod ⟨"HookedCity", "quiet", "()I"⟩ ∈ GW := gw_i 939 (by decide +kernel) rfl
theorem G940 : Cond.selects "HookedCity" ⟨"HookedCity", "quiet", "()I"⟩ ⟨"HookedCity", "quiet", "()I"⟩ ∈ GW := gw_i 940 (by decide +kernel) rfl
theorem dL_law_649 : decode cL_law 649 = .ok (.aload_n 2, 1) := by decide +kernel
theorem dL_law_650 : decode cL_law 650 = .ok (.invokevirtual 88, 3) := by decide +kernel
theorem G1864 : Cond.code ⟨"HookedCityModel", "quiet", "()I"⟩ prog_14_method_73_code 3 (some .int) ∈ GW := gw_i 1864 (by decide +kernel) rfl
theorem G1861 : Cond.methodLink "HookedCityLaw" 88 ⟨"HookedCityModel", "quiet", "()I"⟩ ∈ GW := gw_i 1861 (by decide +kernel) rfl
theorem V_HookedCityLaw_88 : VL "HookedCityLaw" 88 yX12_quiet cX12_quiet 3 (some .int) 0 := ⟨G1864, G1861, G131, by decide +kernel, by decide +kernel, by decide +kernel⟩
theorem G1862 : Cond.instanceMethod ⟨"HookedCityModel", "quiet", "()I"⟩ ∈ GW := gw_i 1862 (by decide +kernel) rfl
theorem G1863 : Cond.selects "HookedCityModel" ⟨"HookedCityModel", "quiet", "()I"⟩ ⟨"HookedCityModel", "quiet", "()I"⟩ ∈ GW := gw_i 1863 (by decide +kernel) rfl
theorem dL_law_653 : decode cL_law 653 = .ok (.if_icmp .eq 531, 3) := by decide +kernel
theorem dL_law_658 : decode cL_law 658 = .ok (.aload_n 1, 1) := by decide +kernel
theorem dL_law_659 : decode cL_law 659 = .ok (.invokevirtual 89, 3) := by decide +kernel
theorem G953 : Cond.code ⟨"HookedCity", "match", "()I"⟩ prog_1_method_17_code 1 (some .int) ∈ GW := gw_i 953 (by decide +kernel) rfl
theorem G950 : Cond.methodLink "HookedCityLaw" 89 ⟨"HookedCity", "match", "()I"⟩ ∈ GW := gw_i 950 (by decide +kernel) rfl
theorem V_HookedCityLaw_89 : VL "HookedCityLaw" 89 yX11_match cX11_match 1 (some .int) 0 := ⟨G953, G950, G119, by decide +kernel, by decide +kernel, by decide +kernel⟩
theorem G951 : Cond.instanceMethod ⟨"HookedCity", "match", "()I"⟩ ∈ GW := gw_i 951 (by decide +kernel) rfl
theorem G952 : Cond.selects "HookedCity" ⟨"HookedCity", "match", "()I"⟩ ⟨"HookedCity", "match", "()I"⟩ ∈ GW := gw_i 952 (by decide +kernel) rfl
theorem dL_law_662 : decode cL_law 662 = .ok (.aload_n 2, 1) := by decide +kernel
theorem dL_law_663 : decode cL_law 663 = .ok (.invokevirtual 92, 3) := by decide +kernel
theorem G1868 : Cond.code ⟨"HookedCityModel", "match", "()I"⟩ prog_14_method_78_code 4 (some .int) ∈ GW := gw_i 1868 (by decide +kernel) rfl
theorem G1865 : Cond.methodLink "HookedCityLaw" 92 ⟨"HookedCityModel", "match", "()I"⟩ ∈ GW := gw_i 1865 (by decide +kernel) rfl
theorem V_HookedCityLaw_92 : VL "HookedCityLaw" 92 yX12_match cX12_match 4 (some .int) 0 := ⟨G1868, G1865, G131, by decide +kernel, by decide +kernel, by decide +kernel⟩
theorem G1866 : Cond.instanceMethod ⟨"HookedCityModel", "match", "()I"⟩ ∈ GW := gw_i 1866 (by decide +kernel) rfl
theorem G1867 : Cond.selects "HookedCityModel" ⟨"HookedCityModel", "match", "()I"⟩ ⟨"HookedCityModel", "match", "()I"⟩ ∈ GW := gw_i 1867 (by decide +kernel) rfl
theorem dL_law_666 : decode cL_law 666 = .ok (.if_icmp .eq 518, 3) := by decide +kernel
theorem dL_law_671 : decode cL_law 671 = .ok (.aload_n 1, 1) := by decide +kernel
theorem dL_law_672 : decode cL_law 672 = .ok (.aload_n 0, 1) := by decide +kernel
theorem dL_law_673 : decode cL_law 673 = .ok (.iload 4, 2) := by decide +kernel
theorem dL_law_675 : decode cL_law 675 = .ok (.iconst 1, 1) := by decide +kernel
theorem dL_law_676 : decode cL_law 676 = .ok (.iadd, 1) := by decide +kernel
theorem dL_law_677 : decode cL_law 677 = .ok (.iaload, 1) := by decide +kernel
theorem dL_law_678 : decode cL_law 678 = .ok (.invokevirtual 93, 3) := by decide +kernel
theorem G982 : Cond.code ⟨"HookedCity", "matched", "(I)I"⟩ prog_1_method_18_code 2 (some .int) ∈ GW := gw_i 982 (by decide +kernel) rfl
theorem G979 : Cond.methodLink "HookedCityLaw" 93 ⟨"HookedCity", "matched", "(I)I"⟩ ∈ GW := gw_i 979 (by decide +kernel) rfl
theorem V_HookedCityLaw_93 : VL "HookedCityLaw" 93 yX11_matched cX11_matched 2 (some .int) 1 := ⟨G982, G979, G119, by decide +kernel, by decide +kernel, by decide +kernel⟩
theorem G980 : Cond.instanceMethod ⟨"HookedCity", "matched", "(I)I"⟩ ∈ GW := gw_i 980 (by decide +kernel) rfl
theorem G981 : Cond.selects "HookedCity" ⟨"HookedCity", "matched", "(I)I"⟩ ⟨"HookedCity", "matched", "(I)I"⟩ ∈ GW := gw_i 981 (by decide +kernel) rfl
theorem dL_law_681 : decode cL_law 681 = .ok (.aload_n 2, 1) := by decide +kernel
theorem dL_law_682 : decode cL_law 682 = .ok (.aload_n 0, 1) := by decide +kernel
theorem dL_law_683 : decode cL_law 683 = .ok (.iload 4, 2) := by decide +kernel
theorem dL_law_685 : decode cL_law 685 = .ok (.iconst 1, 1) := by decide +kernel
theorem dL_law_686 : decode cL_law 686 = .ok (.iadd, 1) := by decide +kernel
theorem dL_law_687 : decode cL_law 687 = .ok (.iaload, 1) := by decide +kernel
theorem dL_law_688 : decode cL_law 688 = .ok (.invokevirtual 96, 3) := by decide +kernel
theorem G1888 : Cond.code ⟨"HookedCityModel", "matched", "(I)I"⟩ prog_14_method_79_code 2 (some .int) ∈ GW := gw_i 1888 (by decide +kernel) rfl
theorem G1885 : Cond.methodLink "HookedCityLaw" 96 ⟨"HookedCityModel", "matched", "(I)I"⟩ ∈ GW := gw_i 1885 (by decide +kernel) rfl
theorem V_HookedCityLaw_96 : VL "HookedCityLaw" 96 yX12_matched cX12_matched 2 (some .int) 1 := ⟨G1888, G1885, G131, by decide +kernel, by decide +kernel, by decide +kernel⟩
theorem G1886 : Cond.instanceMethod ⟨"HookedCityModel", "matched", "(I)I"⟩ ∈ GW := gw_i 1886 (by decide +kernel) rfl
theorem G1887 : Cond.selects "HookedCityModel" ⟨"HookedCityModel", "matched", "(I)I"⟩ ⟨"HookedCityModel", "matched", "(I)I"⟩ ∈ GW := gw_i 1887 (by decide +kernel) rfl
theorem dL_law_691 : decode cL_law 691 = .ok (.if_icmp .eq 493, 3) := by decide +kernel
theorem dL_law_696 : decode cL_law 696 = .ok (.aload_n 1, 1) := by decide +kernel
theorem dL_law_697 : decode cL_law 697 = .ok (.invokevirtual 97, 3) := by decide +kernel
theorem G986 : Cond.code ⟨"HookedCity", "takes", "()I"⟩ prog_1_method_19_code 3 (some .int) ∈ GW := gw_i 986 (by decide +kernel) rfl
theorem G983 : Cond.methodLink "HookedCityLaw" 97 ⟨"HookedCity", "takes", "()I"⟩ ∈ GW := gw_i 983 (by decide +kernel) rfl
theorem V_HookedCityLaw_97 : VL "HookedCityLaw" 97 yX11_takes cX11_takes 3 (some .int) 0 := ⟨G986, G983, G119, by decide +kernel, by decide +kernel, by decide +kernel⟩
theorem G984 : Cond.instanceMethod ⟨"HookedCity", "takes", "()I"⟩ ∈ GW := gw_i 984 (by decide +kernel) rfl
theorem G985 : Cond.selects "HookedCity" ⟨"HookedCity", "takes", "()I"⟩ ⟨"HookedCity", "takes", "()I"⟩ ∈ GW := gw_i 985 (by decide +kernel) rfl
theorem dL_law_700 : decode cL_law 700 = .ok (.aload_n 2, 1) := by decide +kernel
theorem dL_law_701 : decode cL_law 701 = .ok (.invokevirtual 100, 3) := by decide +kernel
theorem G1892 : Cond.code ⟨"HookedCityModel", "takes", "()I"⟩ prog_14_method_80_code 4 (some .int) ∈ GW := gw_i 1892 (by decide +kernel) rfl
theorem G1889 : Cond.methodLink "HookedCityLaw" 100 ⟨"HookedCityModel", "takes", "()I"⟩ ∈ GW := gw_i 1889 (by decide +kernel) rfl
theorem V_HookedCityLaw_100 : VL "HookedCityLaw" 100 yX12_takes cX12_takes 4 (some .int) 0 := ⟨G1892, G1889, G131, by decide +kernel, by decide +kernel, by decide +kernel⟩
theorem G1890 : Cond.instanceMethod ⟨"HookedCityModel", "takes", "()I"⟩ ∈ GW := gw_i 1890 (by decide +kernel) rfl
theorem G1891 : Cond.selects "HookedCityModel" ⟨"HookedCityModel", "takes", "()I"⟩ ⟨"HookedCityModel", "takes", "()I"⟩ ∈ GW := gw_i 1891 (by decide +kernel) rfl
theorem dL_law_704 : decode cL_law 704 = .ok (.if_icmp .eq 480, 3) := by decide +kernel
theorem dL_law_709 : decode cL_law 709 = .ok (.aload_n 1, 1) := by decide +kernel
theorem dL_law_710 : decode cL_law 710 = .ok (.invokevirtual 101, 3) := by decide +kernel
theorem G998 : Cond.code ⟨"HookedCity", "slips", "()I"⟩ prog_1_method_20_code 2 (some .int) ∈ GW := gw_i 998 (by decide +kernel) rfl
theorem G995 : Cond.methodLink "HookedCityLaw" 101 ⟨"HookedCity", "slips", "()I"⟩ ∈ GW := gw_i 995 (by decide +kernel) rfl
theorem V_HookedCityLaw_101 : VL "HookedCityLaw" 101 yX11_slips cX11_slips 2 (some .int) 0 := ⟨G998, G995, G119, by decide +kernel, by decide +kernel, by decide +kernel⟩
theorem G996 : Cond.instanceMethod ⟨"HookedCity", "slips", "()I"⟩ ∈ GW := gw_i 996 (by decide +kernel) rfl
theorem G997 : Cond.selects "HookedCity" ⟨"HookedCity", "slips", "()I"⟩ ⟨"HookedCity", "slips", "()I"⟩ ∈ GW := gw_i 997 (by decide +kernel) rfl
theorem dL_law_713 : decode cL_law 713 = .ok (.aload_n 2, 1) := by decide +kernel
theorem dL_law_714 : decode cL_law 714 = .ok (.invokevirtual 104, 3) := by decide +kernel
theorem G1896 : Cond.code ⟨"HookedCityModel", "slips", "()I"⟩ prog_14_method_83_code 6 (some .int) ∈ GW := gw_i 1896 (by decide +kernel) rfl
theorem G1893 : Cond.methodLink "HookedCityLaw" 104 ⟨"HookedCityModel", "slips", "()I"⟩ ∈ GW := gw_i 1893 (by decide +kernel) rfl
theorem V_HookedCityLaw_104 : VL "HookedCityLaw" 104 yX12_slips cX12_slips 6 (some .int) 0 := ⟨G1896, G1893, G131, by decide +kernel, by decide +kernel, by decide +kernel⟩
theorem G1894 : Cond.instanceMethod ⟨"HookedCityModel", "slips", "()I"⟩ ∈ GW := gw_i 1894 (by decide +kernel) rfl
theorem G1895 : Cond.selects "HookedCityModel" ⟨"HookedCityModel", "slips", "()I"⟩ ⟨"HookedCityModel", "slips", "()I"⟩ ∈ GW := gw_i 1895 (by decide +kernel) rfl
theorem dL_law_717 : decode cL_law 717 = .ok (.if_icmp .eq 467, 3) := by decide +kernel
theorem dL_law_722 : decode cL_law 722 = .ok (.aload_n 1, 1) := by decide +kernel
theorem dL_law_723 : decode cL_law 723 = .ok (.invokevirtual 105, 3) := by decide +kernel
theorem G1032 : Cond.code ⟨"HookedCity", "slipLeast", "()I"⟩ prog_1_method_21_code 1 (some .int) ∈ GW := gw_i 1032 (by decide +kernel) rfl
theorem G1029 : Cond.methodLink "HookedCityLaw" 105 ⟨"HookedCity", "slipLeast", "()I"⟩ ∈ GW := gw_i 1029 (by decide +kernel) rfl
theorem V_HookedCityLaw_105 : VL "HookedCityLaw" 105 yX11_slipLeast cX11_slipLeast 1 (some .int) 0 := ⟨G1032, G1029, G119, by decide +kernel, by decide +kernel, by decide +kernel⟩
theorem G1030 : Cond.instanceMethod ⟨"HookedCity", "slipLeast", "()I"⟩ ∈ GW := gw_i 1030 (by decide +kernel) rfl
theorem G1031 : Cond.selects "HookedCity" ⟨"HookedCity", "slipLeast", "()I"⟩ ⟨"HookedCity", "slipLeast", "()I"⟩ ∈ GW := gw_i 1031 (by decide +kernel) rfl
theorem dL_law_726 : decode cL_law 726 = .ok (.aload_n 2, 1) := by decide +kernel
theorem dL_law_727 : decode cL_law 727 = .ok (.invokevirtual 108, 3) := by decide +kernel
theorem G1908 : Cond.code ⟨"HookedCityModel", "slipLeast", "()I"⟩ prog_14_method_84_code 1 (some .int) ∈ GW := gw_i 1908 (by decide +kernel) rfl
theorem G1905 : Cond.methodLink "HookedCityLaw" 108 ⟨"HookedCityModel", "slipLeast", "()I"⟩ ∈ GW := gw_i 1905 (by decide +kernel) rfl
theorem V_HookedCityLaw_108 : VL "HookedCityLaw" 108 yX12_slipLeast cX12_slipLeast 1 (some .int) 0 := ⟨G1908, G1905, G131, by decide +kernel, by decide +kernel, by decide +kernel⟩
theorem G1906 : Cond.instanceMethod ⟨"HookedCityModel", "slipLeast", "()I"⟩ ∈ GW := gw_i 1906 (by decide +kernel) rfl
theorem G1907 : Cond.selects "HookedCityModel" ⟨"HookedCityModel", "slipLeast", "()I"⟩ ⟨"HookedCityModel", "slipLeast", "()I"⟩ ∈ GW := gw_i 1907 (by decide +kernel) rfl
theorem dL_law_730 : decode cL_law 730 = .ok (.if_icmp .eq 454, 3) := by decide +kernel
theorem dL_law_735 : decode cL_law 735 = .ok (.aload_n 1, 1) := by decide +kernel
theorem dL_law_736 : decode cL_law 736 = .ok (.invokevirtual 109, 3) := by decide +kernel
theorem G1036 : Cond.code ⟨"HookedCity", "turn", "()I"⟩ prog_1_method_22_code 1 (some .int) ∈ GW := gw_i 1036 (by decide +kernel) rfl
theorem G1033 : Cond.methodLink "HookedCityLaw" 109 ⟨"HookedCity", "turn", "()I"⟩ ∈ GW := gw_i 1033 (by decide +kernel) rfl
theorem V_HookedCityLaw_109 : VL "HookedCityLaw" 109 yX11_turn cX11_turn 1 (some .int) 0 := ⟨G1036, G1033, G119, by decide +kernel, by decide +kernel, by decide +kernel⟩
theorem G1034 : Cond.instanceMethod ⟨"HookedCity", "turn", "()I"⟩ ∈ GW := gw_i 1034 (by decide +kernel) rfl
theorem G1035 : Cond.selects "HookedCity" ⟨"HookedCity", "turn", "()I"⟩ ⟨"HookedCity", "turn", "()I"⟩ ∈ GW := gw_i 1035 (by decide +kernel) rfl
theorem dL_law_739 : decode cL_law 739 = .ok (.aload_n 2, 1) := by decide +kernel
theorem dL_law_740 : decode cL_law 740 = .ok (.invokevirtual 112, 3) := by decide +kernel
theorem G1912 : Cond.code ⟨"HookedCityModel", "turn", "()I"⟩ prog_14_method_85_code 1 (some .int) ∈ GW := gw_i 1912 (by decide +kernel) rfl
theorem G1909 : Cond.methodLink "HookedCityLaw" 112 ⟨"HookedCityModel", "turn", "()I"⟩ ∈ GW := gw_i 1909 (by decide +kernel) rfl
theorem V_HookedCityLaw_112 : VL "HookedCityLaw" 112 yX12_turn cX12_turn 1 (some .int) 0 := ⟨G1912, G1909, G131, by decide +kernel, by decide +kernel, by decide +kernel⟩
theorem G1910 : Cond.instanceMethod ⟨"HookedCityModel", "turn", "()I"⟩ ∈ GW := gw_i 1910 (by decide +kernel) rfl
theorem G1911 : Cond.selects "HookedCityModel" ⟨"HookedCityModel", "turn", "()I"⟩ ⟨"HookedCityModel", "turn", "()I"⟩ ∈ GW := gw_i 1911 (by decide +kernel) rfl
theorem dL_law_743 : decode cL_law 743 = .ok (.if_icmp .eq 441, 3) := by decide +kernel
theorem dL_law_748 : decode cL_law 748 = .ok (.aload_n 1, 1) := by decide +kernel
theorem dL_law_749 : decode cL_law 749 = .ok (.aload_n 0, 1) := by decide +kernel
theorem dL_law_750 : decode cL_law 750 = .ok (.iload 4, 2) := by decide +kernel
theorem dL_law_752 : decode cL_law 752 = .ok (.iconst 1, 1) := by decide +kernel
theorem dL_law_753 : decode cL_law 753 = .ok (.iadd, 1) := by decide +kernel
theorem dL_law_754 : decode cL_law 754 = .ok (.iaload, 1) := by decide +kernel
theorem dL_law_755 : decode cL_law 755 = .ok (.aload_n 0, 1) := by decide +kernel
theorem dL_law_756 : decode cL_law 756 = .ok (.iload 4, 2) := by decide +kernel
theorem dL_law_758 : decode cL_law 758 = .ok (.iconst 2, 1) := by decide +kernel
theorem dL_law_759 : decode cL_law 759 = .ok (.iadd, 1) := by decide +kernel
theorem dL_law_760 : decode cL_law 760 = .ok (.iaload, 1) := by decide +kernel
theorem dL_law_761 : decode cL_law 761 = .ok (.invokevirtual 113, 3) := by decide +kernel
theorem G1040 : Cond.code ⟨"HookedCity", "way", "(II)I"⟩ prog_1_method_23_code 3 (some .int) ∈ GW := gw_i 1040 (by decide +kernel) rfl
theorem G1037 : Cond.methodLink "HookedCityLaw" 113 ⟨"HookedCity", "way", "(II)I"⟩ ∈ GW := gw_i 1037 (by decide +kernel) rfl
theorem V_HookedCityLaw_113 : VL "HookedCityLaw" 113 yX11_way cX11_way 3 (some .int) 2 := ⟨G1040, G1037, G119, by decide +kernel, by decide +kernel, by decide +kernel⟩
theorem G1038 : Cond.instanceMethod ⟨"HookedCity", "way", "(II)I"⟩ ∈ GW := gw_i 1038 (by decide +kernel) rfl
theorem G1039 : Cond.selects "HookedCity" ⟨"HookedCity", "way", "(II)I"⟩ ⟨"HookedCity", "way", "(II)I"⟩ ∈ GW := gw_i 1039 (by decide +kernel) rfl
theorem dL_law_764 : decode cL_law 764 = .ok (.aload_n 2, 1) := by decide +kernel
theorem dL_law_765 : decode cL_law 765 = .ok (.aload_n 0, 1) := by decide +kernel
theorem dL_law_766 : decode cL_law 766 = .ok (.iload 4, 2) := by decide +kernel
theorem dL_law_768 : decode cL_law 768 = .ok (.iconst 1, 1) := by decide +kernel
theorem dL_law_769 : decode cL_law 769 = .ok (.iadd, 1) := by decide +kernel
theorem dL_law_770 : decode cL_law 770 = .ok (.iaload, 1) := by decide +kernel
theorem dL_law_771 : decode cL_law 771 = .ok (.aload_n 0, 1) := by decide +kernel
theorem dL_law_772 : decode cL_law 772 = .ok (.iload 4, 2) := by decide +kernel
theorem dL_law_774 : decode cL_law 774 = .ok (.iconst 2, 1) := by decide +kernel
theorem dL_law_775 : decode cL_law 775 = .ok (.iadd, 1) := by decide +kernel
theorem dL_law_776 : decode cL_law 776 = .ok (.iaload, 1) := by decide +kernel
theorem dL_law_777 : decode cL_law 777 = .ok (.invokevirtual 116, 3) := by decide +kernel
theorem G1916 : Cond.code ⟨"HookedCityModel", "way", "(II)I"⟩ prog_14_method_86_code 6 (some .int) ∈ GW := gw_i 1916 (by decide +kernel) rfl
theorem G1913 : Cond.methodLink "HookedCityLaw" 116 ⟨"HookedCityModel", "way", "(II)I"⟩ ∈ GW := gw_i 1913 (by decide +kernel) rfl
theorem V_HookedCityLaw_116 : VL "HookedCityLaw" 116 yX12_way cX12_way 6 (some .int) 2 := ⟨G1916, G1913, G131, by decide +kernel, by decide +kernel, by decide +kernel⟩
theorem G1914 : Cond.instanceMethod ⟨"HookedCityModel", "way", "(II)I"⟩ ∈ GW := gw_i 1914 (by decide +kernel) rfl
theorem G1915 : Cond.selects "HookedCityModel" ⟨"HookedCityModel", "way", "(II)I"⟩ ⟨"HookedCityModel", "way", "(II)I"⟩ ∈ GW := gw_i 1915 (by decide +kernel) rfl
theorem dL_law_780 : decode cL_law 780 = .ok (.if_icmp .eq 404, 3) := by decide +kernel
theorem dL_law_785 : decode cL_law 785 = .ok (.aload_n 1, 1) := by decide +kernel
theorem dL_law_786 : decode cL_law 786 = .ok (.aload_n 0, 1) := by decide +kernel
theorem dL_law_787 : decode cL_law 787 = .ok (.iload 4, 2) := by decide +kernel
theorem dL_law_789 : decode cL_law 789 = .ok (.iconst 1, 1) := by decide +kernel
theorem dL_law_790 : decode cL_law 790 = .ok (.iadd, 1) := by decide +kernel
theorem dL_law_791 : decode cL_law 791 = .ok (.iaload, 1) := by decide +kernel
theorem dL_law_792 : decode cL_law 792 = .ok (.invokevirtual 117, 3) := by decide +kernel
theorem G1059 : Cond.code ⟨"HookedCity", "wayAt", "(I)I"⟩ prog_1_method_24_code 2 (some .int) ∈ GW := gw_i 1059 (by decide +kernel) rfl
theorem G1056 : Cond.methodLink "HookedCityLaw" 117 ⟨"HookedCity", "wayAt", "(I)I"⟩ ∈ GW := gw_i 1056 (by decide +kernel) rfl
theorem V_HookedCityLaw_117 : VL "HookedCityLaw" 117 yX11_wayAt cX11_wayAt 2 (some .int) 1 := ⟨G1059, G1056, G119, by decide +kernel, by decide +kernel, by decide +kernel⟩
theorem G1057 : Cond.instanceMethod ⟨"HookedCity", "wayAt", "(I)I"⟩ ∈ GW := gw_i 1057 (by decide +kernel) rfl
theorem G1058 : Cond.selects "HookedCity" ⟨"HookedCity", "wayAt", "(I)I"⟩ ⟨"HookedCity", "wayAt", "(I)I"⟩ ∈ GW := gw_i 1058 (by decide +kernel) rfl
theorem dL_law_795 : decode cL_law 795 = .ok (.aload_n 2, 1) := by decide +kernel
theorem dL_law_796 : decode cL_law 796 = .ok (.aload_n 0, 1) := by decide +kernel
theorem dL_law_797 : decode cL_law 797 = .ok (.iload 4, 2) := by decide +kernel
theorem dL_law_799 : decode cL_law 799 = .ok (.iconst 1, 1) := by decide +kernel
theorem dL_law_800 : decode cL_law 800 = .ok (.iadd, 1) := by decide +kernel
theorem dL_law_801 : decode cL_law 801 = .ok (.iaload, 1) := by decide +kernel
theorem dL_law_802 : decode cL_law 802 = .ok (.invokevirtual 120, 3) := by decide +kernel
theorem G1921 : Cond.code ⟨"HookedCityModel", "wayAt", "(I)I"⟩ prog_14_method_87_code 2 (some .int) ∈ GW := gw_i 1921 (by decide +kernel) rfl
theorem G1918 : Cond.methodLink "HookedCityLaw" 120 ⟨"HookedCityModel", "wayAt", "(I)I"⟩ ∈ GW := gw_i 1918 (by decide +kernel) rfl
theorem V_HookedCityLaw_120 : VL "HookedCityLaw" 120 yX12_wayAt cX12_wayAt 2 (some .int) 1 := ⟨G1921, G1918, G131, by decide +kernel, by decide +kernel, by decide +kernel⟩
theorem G1919 : Cond.instanceMethod ⟨"HookedCityModel", "wayAt", "(I)I"⟩ ∈ GW := gw_i 1919 (by decide +kernel) rfl
theorem G1920 : Cond.selects "HookedCityModel" ⟨"HookedCityModel", "wayAt", "(I)I"⟩ ⟨"HookedCityModel", "wayAt", "(I)I"⟩ ∈ GW := gw_i 1920 (by decide +kernel) rfl
theorem dL_law_805 : decode cL_law 805 = .ok (.if_icmp .eq 379, 3) := by decide +kernel
theorem dL_law_810 : decode cL_law 810 = .ok (.aload_n 1, 1) := by decide +kernel
theorem dL_law_811 : decode cL_law 811 = .ok (.aload_n 0, 1) := by decide +kernel
theorem dL_law_812 : decode cL_law 812 = .ok (.iload 4, 2) := by decide +kernel
theorem dL_law_814 : decode cL_law 814 = .ok (.iconst 1, 1) := by decide +kernel
theorem dL_law_815 : decode cL_law 815 = .ok (.iadd, 1) := by decide +kernel
theorem dL_law_816 : decode cL_law 816 = .ok (.iaload, 1) := by decide +kernel
theorem dL_law_817 : decode cL_law 817 = .ok (.invokevirtual 121, 3) := by decide +kernel
theorem G1063 : Cond.code ⟨"HookedCity", "lasts", "(I)I"⟩ prog_1_method_25_code 2 (some .int) ∈ GW := gw_i 1063 (by decide +kernel) rfl
theorem G1060 : Cond.methodLink "HookedCityLaw" 121 ⟨"HookedCity", "lasts", "(I)I"⟩ ∈ GW := gw_i 1060 (by decide +kernel) rfl
theorem V_HookedCityLaw_121 : VL "HookedCityLaw" 121 yX11_lasts cX11_lasts 2 (some .int) 1 := ⟨G1063, G1060, G119, by decide +kernel, by decide +kernel, by decide +kernel⟩
theorem G1061 : Cond.instanceMethod ⟨"HookedCity", "lasts", "(I)I"⟩ ∈ GW := gw_i 1061 (by decide +kernel) rfl
theorem G1062 : Cond.selects "HookedCity" ⟨"HookedCity", "lasts", "(I)I"⟩ ⟨"HookedCity", "lasts", "(I)I"⟩ ∈ GW := gw_i 1062 (by decide +kernel) rfl
theorem dL_law_820 : decode cL_law 820 = .ok (.aload_n 2, 1) := by decide +kernel
theorem dL_law_821 : decode cL_law 821 = .ok (.aload_n 0, 1) := by decide +kernel
theorem dL_law_822 : decode cL_law 822 = .ok (.iload 4, 2) := by decide +kernel
theorem dL_law_824 : decode cL_law 824 = .ok (.iconst 1, 1) := by decide +kernel
theorem dL_law_825 : decode cL_law 825 = .ok (.iadd, 1) := by decide +kernel
theorem dL_law_826 : decode cL_law 826 = .ok (.iaload, 1) := by decide +kernel
theorem dL_law_827 : decode cL_law 827 = .ok (.invokevirtual 124, 3) := by decide +kernel
theorem G1925 : Cond.code ⟨"HookedCityModel", "lasts", "(I)I"⟩ prog_14_method_88_code 4 (some .int) ∈ GW := gw_i 1925 (by decide +kernel) rfl
theorem G1922 : Cond.methodLink "HookedCityLaw" 124 ⟨"HookedCityModel", "lasts", "(I)I"⟩ ∈ GW := gw_i 1922 (by decide +kernel) rfl
theorem V_HookedCityLaw_124 : VL "HookedCityLaw" 124 yX12_lasts cX12_lasts 4 (some .int) 1 := ⟨G1925, G1922, G131, by decide +kernel, by decide +kernel, by decide +kernel⟩
theorem G1923 : Cond.instanceMethod ⟨"HookedCityModel", "lasts", "(I)I"⟩ ∈ GW := gw_i 1923 (by decide +kernel) rfl
theorem G1924 : Cond.selects "HookedCityModel" ⟨"HookedCityModel", "lasts", "(I)I"⟩ ⟨"HookedCityModel", "lasts", "(I)I"⟩ ∈ GW := gw_i 1924 (by decide +kernel) rfl
theorem dL_law_830 : decode cL_law 830 = .ok (.if_icmp .eq 354, 3) := by decide +kernel
theorem dL_law_835 : decode cL_law 835 = .ok (.aload_n 1, 1) := by decide +kernel
theorem dL_law_836 : decode cL_law 836 = .ok (.aload_n 0, 1) := by decide +kernel
theorem dL_law_837 : decode cL_law 837 = .ok (.iload 4, 2) := by decide +kernel
theorem dL_law_839 : decode cL_law 839 = .ok (.iconst 1, 1) := by decide +kernel
theorem dL_law_840 : decode cL_law 840 = .ok (.iadd, 1) := by decide +kernel
theorem dL_law_841 : decode cL_law 841 = .ok (.iaload, 1) := by decide +kernel
theorem dL_law_842 : decode cL_law 842 = .ok (.invokevirtual 125, 3) := by decide +kernel
theorem G1071 : Cond.code ⟨"HookedCity", "near", "(I)I"⟩ prog_1_method_26_code 2 (some .int) ∈ GW := gw_i 1071 (by decide +kernel) rfl
theorem G1068 : Cond.methodLink "HookedCityLaw" 125 ⟨"HookedCity", "near", "(I)I"⟩ ∈ GW := gw_i 1068 (by decide +kernel) rfl
theorem V_HookedCityLaw_125 : VL "HookedCityLaw" 125 yX11_near cX11_near 2 (some .int) 1 := ⟨G1071, G1068, G119, by decide +kernel, by decide +kernel, by decide +kernel⟩
theorem G1069 : Cond.instanceMethod ⟨"HookedCity", "near", "(I)I"⟩ ∈ GW := gw_i 1069 (by decide +kernel) rfl
theorem G1070 : Cond.selects "HookedCity" ⟨"HookedCity", "near", "(I)I"⟩ ⟨"HookedCity", "near", "(I)I"⟩ ∈ GW := gw_i 1070 (by decide +kernel) rfl
theorem dL_law_845 : decode cL_law 845 = .ok (.aload_n 2, 1) := by decide +kernel
theorem dL_law_846 : decode cL_law 846 = .ok (.aload_n 0, 1) := by decide +kernel
theorem dL_law_847 : decode cL_law 847 = .ok (.iload 4, 2) := by decide +kernel
theorem dL_law_849 : decode cL_law 849 = .ok (.iconst 1, 1) := by decide +kernel
theorem dL_law_850 : decode cL_law 850 = .ok (.iadd, 1) := by decide +kernel
theorem dL_law_851 : decode cL_law 851 = .ok (.iaload, 1) := by decide +kernel
theorem dL_law_852 : decode cL_law 852 = .ok (.invokevirtual 128, 3) := by decide +kernel
theorem G1929 : Cond.code ⟨"HookedCityModel", "near", "(I)I"⟩ prog_14_method_89_code 2 (some .int) ∈ GW := gw_i 1929 (by decide +kernel) rfl
theorem G1926 : Cond.methodLink "HookedCityLaw" 128 ⟨"HookedCityModel", "near", "(I)I"⟩ ∈ GW := gw_i 1926 (by decide +kernel) rfl
theorem V_HookedCityLaw_128 : VL "HookedCityLaw" 128 yX12_near cX12_near 2 (some .int) 1 := ⟨G1929, G1926, G131, by decide +kernel, by decide +kernel, by decide +kernel⟩
theorem G1927 : Cond.instanceMethod ⟨"HookedCityModel", "near", "(I)I"⟩ ∈ GW := gw_i 1927 (by decide +kernel) rfl
theorem G1928 : Cond.selects "HookedCityModel" ⟨"HookedCityModel", "near", "(I)I"⟩ ⟨"HookedCityModel", "near", "(I)I"⟩ ∈ GW := gw_i 1928 (by decide +kernel) rfl
theorem dL_law_855 : decode cL_law 855 = .ok (.if_icmp .eq 329, 3) := by decide +kernel
theorem dL_law_860 : decode cL_law 860 = .ok (.aload_n 1, 1) := by decide +kernel
theorem dL_law_861 : decode cL_law 861 = .ok (.aload_n 0, 1) := by decide +kernel
theorem dL_law_862 : decode cL_law 862 = .ok (.iload 4, 2) := by decide +kernel
theorem dL_law_864 : decode cL_law 864 = .ok (.iconst 1, 1) := by decide +kernel
theorem dL_law_865 : decode cL_law 865 = .ok (.iadd, 1) := by decide +kernel
theorem dL_law_866 : decode cL_law 866 = .ok (.iaload, 1) := by decide +kernel
theorem dL_law_867 : decode cL_law 867 = .ok (.invokevirtual 129, 3) := by decide +kernel
theorem G1075 : Cond.code ⟨"HookedCity", "could", "(I)I"⟩ prog_1_method_27_code 2 (some .int) ∈ GW := gw_i 1075 (by decide +kernel) rfl
theorem G1072 : Cond.methodLink "HookedCityLaw" 129 ⟨"HookedCity", "could", "(I)I"⟩ ∈ GW := gw_i 1072 (by decide +kernel) rfl
theorem V_HookedCityLaw_129 : VL "HookedCityLaw" 129 yX11_could cX11_could 2 (some .int) 1 := ⟨G1075, G1072, G119, by decide +kernel, by decide +kernel, by decide +kernel⟩
theorem G1073 : Cond.instanceMethod ⟨"HookedCity", "could", "(I)I"⟩ ∈ GW := gw_i 1073 (by decide +kernel) rfl
theorem G1074 : Cond.selects "HookedCity" ⟨"HookedCity", "could", "(I)I"⟩ ⟨"HookedCity", "could", "(I)I"⟩ ∈ GW := gw_i 1074 (by decide +kernel) rfl
theorem dL_law_870 : decode cL_law 870 = .ok (.aload_n 2, 1) := by decide +kernel
theorem dL_law_871 : decode cL_law 871 = .ok (.aload_n 0, 1) := by decide +kernel
theorem dL_law_872 : decode cL_law 872 = .ok (.iload 4, 2) := by decide +kernel
theorem dL_law_874 : decode cL_law 874 = .ok (.iconst 1, 1) := by decide +kernel
theorem dL_law_875 : decode cL_law 875 = .ok (.iadd, 1) := by decide +kernel
theorem dL_law_876 : decode cL_law 876 = .ok (.iaload, 1) := by decide +kernel
theorem dL_law_877 : decode cL_law 877 = .ok (.invokevirtual 132, 3) := by decide +kernel
theorem G1933 : Cond.code ⟨"HookedCityModel", "could", "(I)I"⟩ prog_14_method_90_code 4 (some .int) ∈ GW := gw_i 1933 (by decide +kernel) rfl
theorem G1930 : Cond.methodLink "HookedCityLaw" 132 ⟨"HookedCityModel", "could", "(I)I"⟩ ∈ GW := gw_i 1930 (by decide +kernel) rfl
theorem V_HookedCityLaw_132 : VL "HookedCityLaw" 132 yX12_could cX12_could 4 (some .int) 1 := ⟨G1933, G1930, G131, by decide +kernel, by decide +kernel, by decide +kernel⟩
theorem G1931 : Cond.instanceMethod ⟨"HookedCityModel", "could", "(I)I"⟩ ∈ GW := gw_i 1931 (by decide +kernel) rfl
theorem G1932 : Cond.selects "HookedCityModel" ⟨"HookedCityModel", "could", "(I)I"⟩ ⟨"HookedCityModel", "could", "(I)I"⟩ ∈ GW := gw_i 1932 (by decide +kernel) rfl
theorem dL_law_880 : decode cL_law 880 = .ok (.if_icmp .eq 304, 3) := by decide +kernel
theorem dL_law_885 : decode cL_law 885 = .ok (.aload_n 1, 1) := by decide +kernel
theorem dL_law_886 : decode cL_law 886 = .ok (.aload_n 0, 1) := by decide +kernel
theorem dL_law_887 : decode cL_law 887 = .ok (.iload 4, 2) := by decide +kernel
theorem dL_law_889 : decode cL_law 889 = .ok (.iconst 1, 1) := by decide +kernel
theorem dL_law_890 : decode cL_law 890 = .ok (.iadd, 1) := by decide +kernel
theorem dL_law_891 : decode cL_law 891 = .ok (.iaload, 1) := by decide +kernel
theorem dL_law_892 : decode cL_law 892 = .ok (.invokevirtual 133, 3) := by decide +kernel
theorem G1083 : Cond.code ⟨"HookedCity", "card", "(I)I"⟩ prog_1_method_28_code 2 (some .int) ∈ GW := gw_i 1083 (by decide +kernel) rfl
theorem G1080 : Cond.methodLink "HookedCityLaw" 133 ⟨"HookedCity", "card", "(I)I"⟩ ∈ GW := gw_i 1080 (by decide +kernel) rfl
theorem V_HookedCityLaw_133 : VL "HookedCityLaw" 133 yX11_card cX11_card 2 (some .int) 1 := ⟨G1083, G1080, G119, by decide +kernel, by decide +kernel, by decide +kernel⟩
theorem G1081 : Cond.instanceMethod ⟨"HookedCity", "card", "(I)I"⟩ ∈ GW := gw_i 1081 (by decide +kernel) rfl
theorem G1082 : Cond.selects "HookedCity" ⟨"HookedCity", "card", "(I)I"⟩ ⟨"HookedCity", "card", "(I)I"⟩ ∈ GW := gw_i 1082 (by decide +kernel) rfl
theorem dL_law_895 : decode cL_law 895 = .ok (.aload_n 2, 1) := by decide +kernel
theorem dL_law_896 : decode cL_law 896 = .ok (.aload_n 0, 1) := by decide +kernel
theorem dL_law_897 : decode cL_law 897 = .ok (.iload 4, 2) := by decide +kernel
theorem dL_law_899 : decode cL_law 899 = .ok (.iconst 1, 1) := by decide +kernel
theorem dL_law_900 : decode cL_law 900 = .ok (.iadd, 1) := by decide +kernel
theorem dL_law_901 : decode cL_law 901 = .ok (.iaload, 1) := by decide +kernel
theorem dL_law_902 : decode cL_law 902 = .ok (.invokevirtual 136, 3) := by decide +kernel
theorem G1937 : Cond.code ⟨"HookedCityModel", "card", "(I)I"⟩ prog_14_method_94_code 2 (some .int) ∈ GW := gw_i 1937 (by decide +kernel) rfl
theorem G1934 : Cond.methodLink "HookedCityLaw" 136 ⟨"HookedCityModel", "card", "(I)I"⟩ ∈ GW := gw_i 1934 (by decide +kernel) rfl
theorem V_HookedCityLaw_136 : VL "HookedCityLaw" 136 yX12_card cX12_card 2 (some .int) 1 := ⟨G1937, G1934, G131, by decide +kernel, by decide +kernel, by decide +kernel⟩
theorem G1935 : Cond.instanceMethod ⟨"HookedCityModel", "card", "(I)I"⟩ ∈ GW := gw_i 1935 (by decide +kernel) rfl
theorem G1936 : Cond.selects "HookedCityModel" ⟨"HookedCityModel", "card", "(I)I"⟩ ⟨"HookedCityModel", "card", "(I)I"⟩ ∈ GW := gw_i 1936 (by decide +kernel) rfl
theorem dL_law_905 : decode cL_law 905 = .ok (.if_icmp .eq 279, 3) := by decide +kernel
theorem dL_law_910 : decode cL_law 910 = .ok (.aload_n 1, 1) := by decide +kernel
theorem dL_law_911 : decode cL_law 911 = .ok (.aload_n 0, 1) := by decide +kernel
theorem dL_law_912 : decode cL_law 912 = .ok (.iload 4, 2) := by decide +kernel
theorem dL_law_914 : decode cL_law 914 = .ok (.iconst 1, 1) := by decide +kernel
theorem dL_law_915 : decode cL_law 915 = .ok (.iadd, 1) := by decide +kernel
theorem dL_law_916 : decode cL_law 916 = .ok (.iaload, 1) := by decide +kernel
theorem dL_law_917 : decode cL_law 917 = .ok (.invokevirtual 137, 3) := by decide +kernel
theorem G1131 : Cond.code ⟨"HookedCity", "byteAt", "(I)I"⟩ prog_1_method_29_code 2 (some .int) ∈ GW := gw_i 1131 (by decide +kernel) rfl
theorem G1128 : Cond.methodLink "HookedCityLaw" 137 ⟨"HookedCity", "byteAt", "(I)I"⟩ ∈ GW := gw_i 1128 (by decide +kernel) rfl
theorem V_HookedCityLaw_137 : VL "HookedCityLaw" 137 yX11_byteAt cX11_byteAt 2 (some .int) 1 := ⟨G1131, G1128, G119, by decide +kernel, by decide +kernel, by decide +kernel⟩
theorem G1129 : Cond.instanceMethod ⟨"HookedCity", "byteAt", "(I)I"⟩ ∈ GW := gw_i 1129 (by decide +kernel) rfl
theorem G1130 : Cond.selects "HookedCity" ⟨"HookedCity", "byteAt", "(I)I"⟩ ⟨"HookedCity", "byteAt", "(I)I"⟩ ∈ GW := gw_i 1130 (by decide +kernel) rfl
theorem dL_law_920 : decode cL_law 920 = .ok (.aload_n 2, 1) := by decide +kernel
theorem dL_law_921 : decode cL_law 921 = .ok (.aload_n 0, 1) := by decide +kernel
theorem dL_law_922 : decode cL_law 922 = .ok (.iload 4, 2) := by decide +kernel
theorem dL_law_924 : decode cL_law 924 = .ok (.iconst 1, 1) := by decide +kernel
theorem dL_law_925 : decode cL_law 925 = .ok (.iadd, 1) := by decide +kernel
theorem dL_law_926 : decode cL_law 926 = .ok (.iaload, 1) := by decide +kernel
theorem dL_law_927 : decode cL_law 927 = .ok (.invokevirtual 140, 3) := by decide +kernel
theorem G1953 : Cond.code ⟨"HookedCityModel", "byteAt", "(I)I"⟩ prog_14_method_95_code 2 (some .int) ∈ GW := gw_i 1953 (by decide +kernel) rfl
theorem G1950 : Cond.methodLink "HookedCityLaw" 140 ⟨"HookedCityModel", "byteAt", "(I)I"⟩ ∈ GW := gw_i 1950 (by decide +kernel) rfl
theorem V_HookedCityLaw_140 : VL "HookedCityLaw" 140 yX12_byteAt cX12_byteAt 2 (some .int) 1 := ⟨G1953, G1950, G131, by decide +kernel, by decide +kernel, by decide +kernel⟩
theorem G1951 : Cond.instanceMethod ⟨"HookedCityModel", "byteAt", "(I)I"⟩ ∈ GW := gw_i 1951 (by decide +kernel) rfl
theorem G1952 : Cond.selects "HookedCityModel" ⟨"HookedCityModel", "byteAt", "(I)I"⟩ ⟨"HookedCityModel", "byteAt", "(I)I"⟩ ∈ GW := gw_i 1952 (by decide +kernel) rfl
theorem dL_law_930 : decode cL_law 930 = .ok (.if_icmp .eq 254, 3) := by decide +kernel
theorem dL_law_935 : decode cL_law 935 = .ok (.aload_n 1, 1) := by decide +kernel
theorem dL_law_936 : decode cL_law 936 = .ok (.aload_n 0, 1) := by decide +kernel
theorem dL_law_937 : decode cL_law 937 = .ok (.iload 4, 2) := by decide +kernel
theorem dL_law_939 : decode cL_law 939 = .ok (.iconst 1, 1) := by decide +kernel
theorem dL_law_940 : decode cL_law 940 = .ok (.iadd, 1) := by decide +kernel
theorem dL_law_941 : decode cL_law 941 = .ok (.iaload, 1) := by decide +kernel
theorem dL_law_942 : decode cL_law 942 = .ok (.aload_n 0, 1) := by decide +kernel
theorem dL_law_943 : decode cL_law 943 = .ok (.iload 4, 2) := by decide +kernel
theorem dL_law_945 : decode cL_law 945 = .ok (.iconst 2, 1) := by decide +kernel
theorem dL_law_946 : decode cL_law 946 = .ok (.iadd, 1) := by decide +kernel
theorem dL_law_947 : decode cL_law 947 = .ok (.iaload, 1) := by decide +kernel
theorem dL_law_948 : decode cL_law 948 = .ok (.invokevirtual 141, 3) := by decide +kernel
theorem G1135 : Cond.code ⟨"HookedCity", "drawn", "(II)I"⟩ prog_1_method_30_code 3 (some .int) ∈ GW := gw_i 1135 (by decide +kernel) rfl
theorem G1132 : Cond.methodLink "HookedCityLaw" 141 ⟨"HookedCity", "drawn", "(II)I"⟩ ∈ GW := gw_i 1132 (by decide +kernel) rfl
theorem V_HookedCityLaw_141 : VL "HookedCityLaw" 141 yX11_drawn cX11_drawn 3 (some .int) 2 := ⟨G1135, G1132, G119, by decide +kernel, by decide +kernel, by decide +kernel⟩
theorem G1133 : Cond.instanceMethod ⟨"HookedCity", "drawn", "(II)I"⟩ ∈ GW := gw_i 1133 (by decide +kernel) rfl
theorem G1134 : Cond.selects "HookedCity" ⟨"HookedCity", "drawn", "(II)I"⟩ ⟨"HookedCity", "drawn", "(II)I"⟩ ∈ GW := gw_i 1134 (by decide +kernel) rfl
theorem dL_law_951 : decode cL_law 951 = .ok (.aload_n 2, 1) := by decide +kernel
theorem dL_law_952 : decode cL_law 952 = .ok (.aload_n 0, 1) := by decide +kernel
theorem dL_law_953 : decode cL_law 953 = .ok (.iload 4, 2) := by decide +kernel
theorem dL_law_955 : decode cL_law 955 = .ok (.iconst 1, 1) := by decide +kernel
theorem dL_law_956 : decode cL_law 956 = .ok (.iadd, 1) := by decide +kernel
theorem dL_law_957 : decode cL_law 957 = .ok (.iaload, 1) := by decide +kernel
theorem dL_law_958 : decode cL_law 958 = .ok (.aload_n 0, 1) := by decide +kernel
theorem dL_law_959 : decode cL_law 959 = .ok (.iload 4, 2) := by decide +kernel
theorem dL_law_961 : decode cL_law 961 = .ok (.iconst 2, 1) := by decide +kernel
theorem dL_law_962 : decode cL_law 962 = .ok (.iadd, 1) := by decide +kernel
theorem dL_law_963 : decode cL_law 963 = .ok (.iaload, 1) := by decide +kernel
theorem dL_law_964 : decode cL_law 964 = .ok (.invokevirtual 144, 3) := by decide +kernel
theorem G1957 : Cond.code ⟨"HookedCityModel", "drawn", "(II)I"⟩ prog_14_method_99_code 3 (some .int) ∈ GW := gw_i 1957 (by decide +kernel) rfl
theorem G1954 : Cond.methodLink "HookedCityLaw" 144 ⟨"HookedCityModel", "drawn", "(II)I"⟩ ∈ GW := gw_i 1954 (by decide +kernel) rfl
theorem V_HookedCityLaw_144 : VL "HookedCityLaw" 144 yX12_drawn cX12_drawn 3 (some .int) 2 := ⟨G1957, G1954, G131, by decide +kernel, by decide +kernel, by decide +kernel⟩
theorem G1955 : Cond.instanceMethod ⟨"HookedCityModel", "drawn", "(II)I"⟩ ∈ GW := gw_i 1955 (by decide +kernel) rfl
theorem G1956 : Cond.selects "HookedCityModel" ⟨"HookedCityModel", "drawn", "(II)I"⟩ ⟨"HookedCityModel", "drawn", "(II)I"⟩ ∈ GW := gw_i 1956 (by decide +kernel) rfl
theorem dL_law_967 : decode cL_law 967 = .ok (.if_icmp .eq 217, 3) := by decide +kernel
theorem dL_law_972 : decode cL_law 972 = .ok (.aload_n 1, 1) := by decide +kernel
theorem dL_law_973 : decode cL_law 973 = .ok (.aload_n 0, 1) := by decide +kernel
theorem dL_law_974 : decode cL_law 974 = .ok (.iload 4, 2) := by decide +kernel
theorem dL_law_976 : decode cL_law 976 = .ok (.iconst 1, 1) := by decide +kernel
theorem dL_law_977 : decode cL_law 977 = .ok (.iadd, 1) := by decide +kernel
theorem dL_law_978 : decode cL_law 978 = .ok (.iaload, 1) := by decide +kernel
theorem dL_law_979 : decode cL_law 979 = .ok (.aload_n 0, 1) := by decide +kernel
theorem dL_law_980 : decode cL_law 980 = .ok (.iload 4, 2) := by decide +kernel
theorem dL_law_982 : decode cL_law 982 = .ok (.iconst 2, 1) := by decide +kernel
theorem dL_law_983 : decode cL_law 983 = .ok (.iadd, 1) := by decide +kernel
theorem dL_law_984 : decode cL_law 984 = .ok (.iaload, 1) := by decide +kernel
theorem dL_law_985 : decode cL_law 985 = .ok (.aload_n 0, 1) := by decide +kernel
theorem dL_law_986 : decode cL_law 986 = .ok (.iload 4, 2) := by decide +kernel
theorem dL_law_988 : decode cL_law 988 = .ok (.iconst 3, 1) := by decide +kernel
theorem dL_law_989 : decode cL_law 989 = .ok (.iadd, 1) := by decide +kernel
theorem dL_law_990 : decode cL_law 990 = .ok (.iaload, 1) := by decide +kernel
theorem dL_law_991 : decode cL_law 991 = .ok (.invokevirtual 145, 3) := by decide +kernel
theorem G1158 : Cond.code ⟨"HookedCity", "odds", "(III)I"⟩ prog_1_method_31_code 6 (some .int) ∈ GW := gw_i 1158 (by decide +kernel) rfl
theorem G1155 : Cond.methodLink "HookedCityLaw" 145 ⟨"HookedCity", "odds", "(III)I"⟩ ∈ GW := gw_i 1155 (by decide +kernel) rfl
theorem V_HookedCityLaw_145 : VL "HookedCityLaw" 145 yX11_odds cX11_odds 6 (some .int) 3 := ⟨G1158, G1155, G119, by decide +kernel, by decide +kernel, by decide +kernel⟩
theorem G1156 : Cond.instanceMethod ⟨"HookedCity", "odds", "(III)I"⟩ ∈ GW := gw_i 1156 (by decide +kernel) rfl
theorem G1157 : Cond.selects "HookedCity" ⟨"HookedCity", "odds", "(III)I"⟩ ⟨"HookedCity", "odds", "(III)I"⟩ ∈ GW := gw_i 1157 (by decide +kernel) rfl
theorem dL_law_994 : decode cL_law 994 = .ok (.aload_n 2, 1) := by decide +kernel
theorem dL_law_995 : decode cL_law 995 = .ok (.aload_n 0, 1) := by decide +kernel
theorem dL_law_996 : decode cL_law 996 = .ok (.iload 4, 2) := by decide +kernel
theorem dL_law_998 : decode cL_law 998 = .ok (.iconst 1, 1) := by decide +kernel
theorem dL_law_999 : decode cL_law 999 = .ok (.iadd, 1) := by decide +kernel
theorem dL_law_1000 : decode cL_law 1000 = .ok (.iaload, 1) := by decide +kernel
theorem dL_law_1001 : decode cL_law 1001 = .ok (.aload_n 0, 1) := by decide +kernel
theorem dL_law_1002 : decode cL_law 1002 = .ok (.iload 4, 2) := by decide +kernel
theorem dL_law_1004 : decode cL_law 1004 = .ok (.iconst 2, 1) := by decide +kernel
theorem dL_law_1005 : decode cL_law 1005 = .ok (.iadd, 1) := by decide +kernel
theorem dL_law_1006 : decode cL_law 1006 = .ok (.iaload, 1) := by decide +kernel
theorem dL_law_1007 : decode cL_law 1007 = .ok (.aload_n 0, 1) := by decide +kernel
theorem dL_law_1008 : decode cL_law 1008 = .ok (.iload 4, 2) := by decide +kernel
theorem dL_law_1010 : decode cL_law 1010 = .ok (.iconst 3, 1) := by decide +kernel
theorem dL_law_1011 : decode cL_law 1011 = .ok (.iadd, 1) := by decide +kernel
theorem dL_law_1012 : decode cL_law 1012 = .ok (.iaload, 1) := by decide +kernel
theorem dL_law_1013 : decode cL_law 1013 = .ok (.invokevirtual 148, 3) := by decide +kernel
theorem G1974 : Cond.code ⟨"HookedCityModel", "odds", "(III)I"⟩ prog_14_method_102_code 6 (some .int) ∈ GW := gw_i 1974 (by decide +kernel) rfl
theorem G1971 : Cond.methodLink "HookedCityLaw" 148 ⟨"HookedCityModel", "odds", "(III)I"⟩ ∈ GW := gw_i 1971 (by decide +kernel) rfl
theorem V_HookedCityLaw_148 : VL "HookedCityLaw" 148 yX12_odds cX12_odds 6 (some .int) 3 := ⟨G1974, G1971, G131, by decide +kernel, by decide +kernel, by decide +kernel⟩
theorem G1972 : Cond.instanceMethod ⟨"HookedCityModel", "odds", "(III)I"⟩ ∈ GW := gw_i 1972 (by decide +kernel) rfl
theorem G1973 : Cond.selects "HookedCityModel" ⟨"HookedCityModel", "odds", "(III)I"⟩ ⟨"HookedCityModel", "odds", "(III)I"⟩ ∈ GW := gw_i 1973 (by decide +kernel) rfl
theorem dL_law_1016 : decode cL_law 1016 = .ok (.if_icmp .eq 168, 3) := by decide +kernel
theorem dL_law_1021 : decode cL_law 1021 = .ok (.aload_n 1, 1) := by decide +kernel
theorem dL_law_1022 : decode cL_law 1022 = .ok (.aload_n 0, 1) := by decide +kernel
theorem dL_law_1023 : decode cL_law 1023 = .ok (.iload 4, 2) := by decide +kernel
theorem dL_law_1025 : decode cL_law 1025 = .ok (.iconst 1, 1) := by decide +kernel
theorem dL_law_1026 : decode cL_law 1026 = .ok (.iadd, 1) := by decide +kernel
theorem dL_law_1027 : decode cL_law 1027 = .ok (.iaload, 1) := by decide +kernel
theorem dL_law_1028 : decode cL_law 1028 = .ok (.invokevirtual 149, 3) := by decide +kernel
theorem G1162 : Cond.code ⟨"HookedCity", "book", "(I)I"⟩ prog_1_method_32_code 4 (some .int) ∈ GW := gw_i 1162 (by decide +kernel) rfl
theorem G1159 : Cond.methodLink "HookedCityLaw" 149 ⟨"HookedCity", "book", "(I)I"⟩ ∈ GW := gw_i 1159 (by decide +kernel) rfl
theorem V_HookedCityLaw_149 : VL "HookedCityLaw" 149 yX11_book cX11_book 4 (some .int) 1 := ⟨G1162, G1159, G119, by decide +kernel, by decide +kernel, by decide +kernel⟩
theorem G1160 : Cond.instanceMethod ⟨"HookedCity", "book", "(I)I"⟩ ∈ GW := gw_i 1160 (by decide +kernel) rfl
theorem G1161 : Cond.selects "HookedCity" ⟨"HookedCity", "book", "(I)I"⟩ ⟨"HookedCity", "book", "(I)I"⟩ ∈ GW := gw_i 1161 (by decide +kernel) rfl
theorem dL_law_1031 : decode cL_law 1031 = .ok (.aload_n 2, 1) := by decide +kernel
theorem dL_law_1032 : decode cL_law 1032 = .ok (.aload_n 0, 1) := by decide +kernel
theorem dL_law_1033 : decode cL_law 1033 = .ok (.iload 4, 2) := by decide +kernel
theorem dL_law_1035 : decode cL_law 1035 = .ok (.iconst 1, 1) := by decide +kernel
theorem dL_law_1036 : decode cL_law 1036 = .ok (.iadd, 1) := by decide +kernel
theorem dL_law_1037 : decode cL_law 1037 = .ok (.iaload, 1) := by decide +kernel
theorem dL_law_1038 : decode cL_law 1038 = .ok (.invokevirtual 152, 3) := by decide +kernel
theorem G1986 : Cond.code ⟨"HookedCityModel", "book", "(I)I"⟩ prog_14_method_108_code 4 (some .int) ∈ GW := gw_i 1986 (by decide +kernel) rfl
theorem G1983 : Cond.methodLink "HookedCityLaw" 152 ⟨"HookedCityModel", "book", "(I)I"⟩ ∈ GW := gw_i 1983 (by decide +kernel) rfl
theorem V_HookedCityLaw_152 : VL "HookedCityLaw" 152 yX12_book cX12_book 4 (some .int) 1 := ⟨G1986, G1983, G131, by decide +kernel, by decide +kernel, by decide +kernel⟩
theorem G1984 : Cond.instanceMethod ⟨"HookedCityModel", "book", "(I)I"⟩ ∈ GW := gw_i 1984 (by decide +kernel) rfl
theorem G1985 : Cond.selects "HookedCityModel" ⟨"HookedCityModel", "book", "(I)I"⟩ ⟨"HookedCityModel", "book", "(I)I"⟩ ∈ GW := gw_i 1985 (by decide +kernel) rfl
theorem dL_law_1041 : decode cL_law 1041 = .ok (.if_icmp .eq 143, 3) := by decide +kernel
theorem dL_law_1046 : decode cL_law 1046 = .ok (.aload_n 1, 1) := by decide +kernel
theorem dL_law_1047 : decode cL_law 1047 = .ok (.aload_n 0, 1) := by decide +kernel
theorem dL_law_1048 : decode cL_law 1048 = .ok (.iload 4, 2) := by decide +kernel
theorem dL_law_1050 : decode cL_law 1050 = .ok (.iconst 1, 1) := by decide +kernel
theorem dL_law_1051 : decode cL_law 1051 = .ok (.iadd, 1) := by decide +kernel
theorem dL_law_1052 : decode cL_law 1052 = .ok (.iaload, 1) := by decide +kernel
theorem dL_law_1053 : decode cL_law 1053 = .ok (.invokevirtual 153, 3) := by decide +kernel
theorem G1225 : Cond.code ⟨"HookedCity", "told", "(I)I"⟩ prog_1_method_33_code 2 (some .int) ∈ GW := gw_i 1225 (by decide +kernel) rfl
theorem G1222 : Cond.methodLink "HookedCityLaw" 153 ⟨"HookedCity", "told", "(I)I"⟩ ∈ GW := gw_i 1222 (by decide +kernel) rfl
theorem V_HookedCityLaw_153 : VL "HookedCityLaw" 153 yX11_told cX11_told 2 (some .int) 1 := ⟨G1225, G1222, G119, by decide +kernel, by decide +kernel, by decide +kernel⟩
theorem G1223 : Cond.instanceMethod ⟨"HookedCity", "told", "(I)I"⟩ ∈ GW := gw_i 1223 (by decide +kernel) rfl
theorem G1224 : Cond.selects "HookedCity" ⟨"HookedCity", "told", "(I)I"⟩ ⟨"HookedCity", "told", "(I)I"⟩ ∈ GW := gw_i 1224 (by decide +kernel) rfl
theorem dL_law_1056 : decode cL_law 1056 = .ok (.aload_n 2, 1) := by decide +kernel
theorem dL_law_1057 : decode cL_law 1057 = .ok (.aload_n 0, 1) := by decide +kernel
theorem dL_law_1058 : decode cL_law 1058 = .ok (.iload 4, 2) := by decide +kernel
theorem dL_law_1060 : decode cL_law 1060 = .ok (.iconst 1, 1) := by decide +kernel
theorem dL_law_1061 : decode cL_law 1061 = .ok (.iadd, 1) := by decide +kernel
theorem dL_law_1062 : decode cL_law 1062 = .ok (.iaload, 1) := by decide +kernel
theorem dL_law_1063 : decode cL_law 1063 = .ok (.invokevirtual 156, 3) := by decide +kernel
theorem G2014 : Cond.code ⟨"HookedCityModel", "told", "(I)I"⟩ prog_14_method_110_code 2 (some .int) ∈ GW := gw_i 2014 (by decide +kernel) rfl
theorem G2011 : Cond.methodLink "HookedCityLaw" 156 ⟨"HookedCityModel", "told", "(I)I"⟩ ∈ GW := gw_i 2011 (by decide +kernel) rfl
theorem V_HookedCityLaw_156 : VL "HookedCityLaw" 156 yX12_told cX12_told 2 (some .int) 1 := ⟨G2014, G2011, G131, by decide +kernel, by decide +kernel, by decide +kernel⟩
theorem G2012 : Cond.instanceMethod ⟨"HookedCityModel", "told", "(I)I"⟩ ∈ GW := gw_i 2012 (by decide +kernel) rfl
theorem G2013 : Cond.selects "HookedCityModel" ⟨"HookedCityModel", "told", "(I)I"⟩ ⟨"HookedCityModel", "told", "(I)I"⟩ ∈ GW := gw_i 2013 (by decide +kernel) rfl
theorem dL_law_1066 : decode cL_law 1066 = .ok (.if_icmp .eq 118, 3) := by decide +kernel
theorem dL_law_1071 : decode cL_law 1071 = .ok (.aload_n 1, 1) := by decide +kernel
theorem dL_law_1072 : decode cL_law 1072 = .ok (.invokevirtual 157, 3) := by decide +kernel
theorem G1229 : Cond.code ⟨"HookedCity", "sentence", "()I"⟩ prog_1_method_34_code 3 (some .int) ∈ GW := gw_i 1229 (by decide +kernel) rfl
theorem G1226 : Cond.methodLink "HookedCityLaw" 157 ⟨"HookedCity", "sentence", "()I"⟩ ∈ GW := gw_i 1226 (by decide +kernel) rfl
theorem V_HookedCityLaw_157 : VL "HookedCityLaw" 157 yX11_sentence cX11_sentence 3 (some .int) 0 := ⟨G1229, G1226, G119, by decide +kernel, by decide +kernel, by decide +kernel⟩
theorem G1227 : Cond.instanceMethod ⟨"HookedCity", "sentence", "()I"⟩ ∈ GW := gw_i 1227 (by decide +kernel) rfl
theorem G1228 : Cond.selects "HookedCity" ⟨"HookedCity", "sentence", "()I"⟩ ⟨"HookedCity", "sentence", "()I"⟩ ∈ GW := gw_i 1228 (by decide +kernel) rfl
theorem dL_law_1075 : decode cL_law 1075 = .ok (.aload_n 2, 1) := by decide +kernel
theorem dL_law_1076 : decode cL_law 1076 = .ok (.invokevirtual 160, 3) := by decide +kernel
theorem G2018 : Cond.code ⟨"HookedCityModel", "sentence", "()I"⟩ prog_14_method_119_code 2 (some .int) ∈ GW := gw_i 2018 (by decide +kernel) rfl
theorem G2015 : Cond.methodLink "HookedCityLaw" 160 ⟨"HookedCityModel", "sentence", "()I"⟩ ∈ GW := gw_i 2015 (by decide +kernel) rfl
theorem V_HookedCityLaw_160 : VL "HookedCityLaw" 160 yX12_sentence cX12_sentence 2 (some .int) 0 := ⟨G2018, G2015, G131, by decide +kernel, by decide +kernel, by decide +kernel⟩
theorem G2016 : Cond.instanceMethod ⟨"HookedCityModel", "sentence", "()I"⟩ ∈ GW := gw_i 2016 (by decide +kernel) rfl
theorem G2017 : Cond.selects "HookedCityModel" ⟨"HookedCityModel", "sentence", "()I"⟩ ⟨"HookedCityModel", "sentence", "()I"⟩ ∈ GW := gw_i 2017 (by decide +kernel) rfl
theorem dL_law_1079 : decode cL_law 1079 = .ok (.if_icmp .eq 105, 3) := by decide +kernel
theorem dL_law_1084 : decode cL_law 1084 = .ok (.aload_n 1, 1) := by decide +kernel
theorem dL_law_1085 : decode cL_law 1085 = .ok (.aload_n 0, 1) := by decide +kernel
theorem dL_law_1086 : decode cL_law 1086 = .ok (.iload 4, 2) := by decide +kernel
theorem dL_law_1088 : decode cL_law 1088 = .ok (.iconst 1, 1) := by decide +kernel
theorem dL_law_1089 : decode cL_law 1089 = .ok (.iadd, 1) := by decide +kernel
theorem dL_law_1090 : decode cL_law 1090 = .ok (.iaload, 1) := by decide +kernel
theorem dL_law_1091 : decode cL_law 1091 = .ok (.invokevirtual 161, 3) := by decide +kernel
theorem G1300 : Cond.code ⟨"HookedCity", "said", "(I)I"⟩ prog_1_method_35_code 3 (some .int) ∈ GW := gw_i 1300 (by decide +kernel) rfl
theorem G1297 : Cond.methodLink "HookedCityLaw" 161 ⟨"HookedCity", "said", "(I)I"⟩ ∈ GW := gw_i 1297 (by decide +kernel) rfl
theorem V_HookedCityLaw_161 : VL "HookedCityLaw" 161 yX11_said cX11_said 3 (some .int) 1 := ⟨G1300, G1297, G119, by decide +kernel, by decide +kernel, by decide +kernel⟩
theorem G1298 : Cond.instanceMethod ⟨"HookedCity", "said", "(I)I"⟩ ∈ GW := gw_i 1298 (by decide +kernel) rfl
theorem G1299 : Cond.selects "HookedCity" ⟨"HookedCity", "said", "(I)I"⟩ ⟨"HookedCity", "said", "(I)I"⟩ ∈ GW := gw_i 1299 (by decide +kernel) rfl
theorem dL_law_1094 : decode cL_law 1094 = .ok (.aload_n 2, 1) := by decide +kernel
theorem dL_law_1095 : decode cL_law 1095 = .ok (.aload_n 0, 1) := by decide +kernel
theorem dL_law_1096 : decode cL_law 1096 = .ok (.iload 4, 2) := by decide +kernel
theorem dL_law_1098 : decode cL_law 1098 = .ok (.iconst 1, 1) := by decide +kernel
theorem dL_law_1099 : decode cL_law 1099 = .ok (.iadd, 1) := by decide +kernel
theorem dL_law_1100 : decode cL_law 1100 = .ok (.iaload, 1) := by decide +kernel
theorem dL_law_1101 : decode cL_law 1101 = .ok (.invokevirtual 164, 3) := by decide +kernel
theorem G2054 : Cond.code ⟨"HookedCityModel", "said", "(I)I"⟩ prog_14_method_121_code 4 (some .int) ∈ GW := gw_i 2054 (by decide +kernel) rfl
theorem G2051 : Cond.methodLink "HookedCityLaw" 164 ⟨"HookedCityModel", "said", "(I)I"⟩ ∈ GW := gw_i 2051 (by decide +kernel) rfl
theorem V_HookedCityLaw_164 : VL "HookedCityLaw" 164 yX12_said cX12_said 4 (some .int) 1 := ⟨G2054, G2051, G131, by decide +kernel, by decide +kernel, by decide +kernel⟩
theorem G2052 : Cond.instanceMethod ⟨"HookedCityModel", "said", "(I)I"⟩ ∈ GW := gw_i 2052 (by decide +kernel) rfl
theorem G2053 : Cond.selects "HookedCityModel" ⟨"HookedCityModel", "said", "(I)I"⟩ ⟨"HookedCityModel", "said", "(I)I"⟩ ∈ GW := gw_i 2053 (by decide +kernel) rfl
theorem dL_law_1104 : decode cL_law 1104 = .ok (.if_icmp .eq 80, 3) := by decide +kernel
theorem dL_law_1109 : decode cL_law 1109 = .ok (.aload_n 1, 1) := by decide +kernel
theorem dL_law_1110 : decode cL_law 1110 = .ok (.aload_n 0, 1) := by decide +kernel
theorem dL_law_1111 : decode cL_law 1111 = .ok (.iload 4, 2) := by decide +kernel
theorem dL_law_1113 : decode cL_law 1113 = .ok (.iconst 1, 1) := by decide +kernel
theorem dL_law_1114 : decode cL_law 1114 = .ok (.iadd, 1) := by decide +kernel
theorem dL_law_1115 : decode cL_law 1115 = .ok (.iaload, 1) := by decide +kernel
theorem dL_law_1116 : decode cL_law 1116 = .ok (.invokevirtual 165, 3) := by decide +kernel
theorem G1339 : Cond.code ⟨"HookedCity", "image", "(I)Z"⟩ prog_1_method_36_code 2 (some .boolean) ∈ GW := gw_i 1339 (by decide +kernel) rfl
theorem G1336 : Cond.methodLink "HookedCityLaw" 165 ⟨"HookedCity", "image", "(I)Z"⟩ ∈ GW := gw_i 1336 (by decide +kernel) rfl
theorem V_HookedCityLaw_165 : VL "HookedCityLaw" 165 yX11_image cX11_image 2 (some .boolean) 1 := ⟨G1339, G1336, G119, by decide +kernel, by decide +kernel, by decide +kernel⟩
theorem G1337 : Cond.instanceMethod ⟨"HookedCity", "image", "(I)Z"⟩ ∈ GW := gw_i 1337 (by decide +kernel) rfl
theorem G1338 : Cond.selects "HookedCity" ⟨"HookedCity", "image", "(I)Z"⟩ ⟨"HookedCity", "image", "(I)Z"⟩ ∈ GW := gw_i 1338 (by decide +kernel) rfl
theorem dL_law_1119 : decode cL_law 1119 = .ok (.aload_n 2, 1) := by decide +kernel
theorem dL_law_1120 : decode cL_law 1120 = .ok (.aload_n 0, 1) := by decide +kernel
theorem dL_law_1121 : decode cL_law 1121 = .ok (.iload 4, 2) := by decide +kernel
theorem dL_law_1123 : decode cL_law 1123 = .ok (.iconst 1, 1) := by decide +kernel
theorem dL_law_1124 : decode cL_law 1124 = .ok (.iadd, 1) := by decide +kernel
theorem dL_law_1125 : decode cL_law 1125 = .ok (.iaload, 1) := by decide +kernel
theorem dL_law_1126 : decode cL_law 1126 = .ok (.invokevirtual 168, 3) := by decide +kernel
theorem G2062 : Cond.code ⟨"HookedCityModel", "image", "(I)Z"⟩ prog_14_method_122_code 3 (some .boolean) ∈ GW := gw_i 2062 (by decide +kernel) rfl
theorem G2059 : Cond.methodLink "HookedCityLaw" 168 ⟨"HookedCityModel", "image", "(I)Z"⟩ ∈ GW := gw_i 2059 (by decide +kernel) rfl
theorem V_HookedCityLaw_168 : VL "HookedCityLaw" 168 yX12_image cX12_image 3 (some .boolean) 1 := ⟨G2062, G2059, G131, by decide +kernel, by decide +kernel, by decide +kernel⟩
theorem G2060 : Cond.instanceMethod ⟨"HookedCityModel", "image", "(I)Z"⟩ ∈ GW := gw_i 2060 (by decide +kernel) rfl
theorem G2061 : Cond.selects "HookedCityModel" ⟨"HookedCityModel", "image", "(I)Z"⟩ ⟨"HookedCityModel", "image", "(I)Z"⟩ ∈ GW := gw_i 2061 (by decide +kernel) rfl
theorem dL_law_1129 : decode cL_law 1129 = .ok (.if_icmp .eq 55, 3) := by decide +kernel
theorem dL_law_1134 : decode cL_law 1134 = .ok (.aload_n 1, 1) := by decide +kernel
theorem dL_law_1135 : decode cL_law 1135 = .ok (.aload_n 0, 1) := by decide +kernel
theorem dL_law_1136 : decode cL_law 1136 = .ok (.iload 4, 2) := by decide +kernel
theorem dL_law_1138 : decode cL_law 1138 = .ok (.iconst 1, 1) := by decide +kernel
theorem dL_law_1139 : decode cL_law 1139 = .ok (.iadd, 1) := by decide +kernel
theorem dL_law_1140 : decode cL_law 1140 = .ok (.iaload, 1) := by decide +kernel
theorem dL_law_1141 : decode cL_law 1141 = .ok (.invokevirtual 169, 3) := by decide +kernel
theorem G1357 : Cond.code ⟨"HookedCity", "restore", "(I)Z"⟩ prog_1_method_37_code 2 (some .boolean) ∈ GW := gw_i 1357 (by decide +kernel) rfl
theorem G1354 : Cond.methodLink "HookedCityLaw" 169 ⟨"HookedCity", "restore", "(I)Z"⟩ ∈ GW := gw_i 1354 (by decide +kernel) rfl
theorem V_HookedCityLaw_169 : VL "HookedCityLaw" 169 yX11_restore cX11_restore 2 (some .boolean) 1 := ⟨G1357, G1354, G119, by decide +kernel, by decide +kernel, by decide +kernel⟩
theorem G1355 : Cond.instanceMethod ⟨"HookedCity", "restore", "(I)Z"⟩ ∈ GW := gw_i 1355 (by decide +kernel) rfl
theorem G1356 : Cond.selects "HookedCity" ⟨"HookedCity", "restore", "(I)Z"⟩ ⟨"HookedCity", "restore", "(I)Z"⟩ ∈ GW := gw_i 1356 (by decide +kernel) rfl
theorem dL_law_1144 : decode cL_law 1144 = .ok (.aload_n 2, 1) := by decide +kernel
theorem dL_law_1145 : decode cL_law 1145 = .ok (.aload_n 0, 1) := by decide +kernel
theorem dL_law_1146 : decode cL_law 1146 = .ok (.iload 4, 2) := by decide +kernel
theorem dL_law_1148 : decode cL_law 1148 = .ok (.iconst 1, 1) := by decide +kernel
theorem dL_law_1149 : decode cL_law 1149 = .ok (.iadd, 1) := by decide +kernel
theorem dL_law_1150 : decode cL_law 1150 = .ok (.iaload, 1) := by decide +kernel
theorem dL_law_1151 : decode cL_law 1151 = .ok (.invokevirtual 172, 3) := by decide +kernel
theorem G2066 : Cond.code ⟨"HookedCityModel", "restore", "(I)Z"⟩ prog_14_method_123_code 3 (some .boolean) ∈ GW := gw_i 2066 (by decide +kernel) rfl
theorem G2063 : Cond.methodLink "HookedCityLaw" 172 ⟨"HookedCityModel", "restore", "(I)Z"⟩ ∈ GW := gw_i 2063 (by decide +kernel) rfl
theorem V_HookedCityLaw_172 : VL "HookedCityLaw" 172 yX12_restore cX12_restore 3 (some .boolean) 1 := ⟨G2066, G2063, G131, by decide +kernel, by decide +kernel, by decide +kernel⟩
theorem G2064 : Cond.instanceMethod ⟨"HookedCityModel", "restore", "(I)Z"⟩ ∈ GW := gw_i 2064 (by decide +kernel) rfl
theorem G2065 : Cond.selects "HookedCityModel" ⟨"HookedCityModel", "restore", "(I)Z"⟩ ⟨"HookedCityModel", "restore", "(I)Z"⟩ ∈ GW := gw_i 2065 (by decide +kernel) rfl
theorem dL_law_1154 : decode cL_law 1154 = .ok (.if_icmp .eq 30, 3) := by decide +kernel
theorem dL_law_1159 : decode cL_law 1159 = .ok (.aload_n 1, 1) := by decide +kernel
theorem dL_law_1160 : decode cL_law 1160 = .ok (.aload_n 0, 1) := by decide +kernel
theorem dL_law_1161 : decode cL_law 1161 = .ok (.iload 4, 2) := by decide +kernel
theorem dL_law_1163 : decode cL_law 1163 = .ok (.iconst 1, 1) := by decide +kernel
theorem dL_law_1164 : decode cL_law 1164 = .ok (.iadd, 1) := by decide +kernel
theorem dL_law_1165 : decode cL_law 1165 = .ok (.iaload, 1) := by decide +kernel
theorem dL_law_1166 : decode cL_law 1166 = .ok (.invokevirtual 173, 3) := by decide +kernel
theorem G1365 : Cond.code ⟨"HookedCity", "count", "(I)I"⟩ prog_1_method_38_code 2 (some .int) ∈ GW := gw_i 1365 (by decide +kernel) rfl
theorem G1362 : Cond.methodLink "HookedCityLaw" 173 ⟨"HookedCity", "count", "(I)I"⟩ ∈ GW := gw_i 1362 (by decide +kernel) rfl
theorem V_HookedCityLaw_173 : VL "HookedCityLaw" 173 yX11_count cX11_count 2 (some .int) 1 := ⟨G1365, G1362, G119, by decide +kernel, by decide +kernel, by decide +kernel⟩
theorem G1363 : Cond.instanceMethod ⟨"HookedCity", "count", "(I)I"⟩ ∈ GW := gw_i 1363 (by decide +kernel) rfl
theorem G1364 : Cond.selects "HookedCity" ⟨"HookedCity", "count", "(I)I"⟩ ⟨"HookedCity", "count", "(I)I"⟩ ∈ GW := gw_i 1364 (by decide +kernel) rfl
theorem dL_law_1169 : decode cL_law 1169 = .ok (.aload_n 2, 1) := by decide +kernel
theorem dL_law_1170 : decode cL_law 1170 = .ok (.aload_n 0, 1) := by decide +kernel
theorem dL_law_1171 : decode cL_law 1171 = .ok (.iload 4, 2) := by decide +kernel
theorem dL_law_1173 : decode cL_law 1173 = .ok (.iconst 1, 1) := by decide +kernel
theorem dL_law_1174 : decode cL_law 1174 = .ok (.iadd, 1) := by decide +kernel
theorem dL_law_1175 : decode cL_law 1175 = .ok (.iaload, 1) := by decide +kernel
theorem dL_law_1176 : decode cL_law 1176 = .ok (.invokevirtual 176, 3) := by decide +kernel
theorem G2070 : Cond.code ⟨"HookedCityModel", "count", "(I)I"⟩ prog_14_method_124_code 2 (some .int) ∈ GW := gw_i 2070 (by decide +kernel) rfl
theorem G2067 : Cond.methodLink "HookedCityLaw" 176 ⟨"HookedCityModel", "count", "(I)I"⟩ ∈ GW := gw_i 2067 (by decide +kernel) rfl
theorem V_HookedCityLaw_176 : VL "HookedCityLaw" 176 yX12_count cX12_count 2 (some .int) 1 := ⟨G2070, G2067, G131, by decide +kernel, by decide +kernel, by decide +kernel⟩
theorem G2068 : Cond.instanceMethod ⟨"HookedCityModel", "count", "(I)I"⟩ ∈ GW := gw_i 2068 (by decide +kernel) rfl
theorem G2069 : Cond.selects "HookedCityModel" ⟨"HookedCityModel", "count", "(I)I"⟩ ⟨"HookedCityModel", "count", "(I)I"⟩ ∈ GW := gw_i 2069 (by decide +kernel) rfl
theorem dL_law_1179 : decode cL_law 1179 = .ok (.if_icmp .eq 5, 3) := by decide +kernel
set_option maxRecDepth 100000 in
set_option maxHeartbeats 4000000 in
theorem c437_X12_refuse (l : Launch) (D : va_G) (T : Nat → ClassId) (sz : Nat) (a0 a1 a2 a3 a4 a5 a6 a7 a8 a9 a10 a11 a12 a13 a14 a15 a16 a17 a18 a19 a20 a21 a22 : Nat) : Met l yX12_refuse (Cond.code yX12_refuse cX12_refuse 1 (some .int) :: GW) (Rm 0 0 0) (cPre [.ref a0] D T [(a0, .inr (11, [.int 0, .ref a1, .int 0, .int 0, .int 0, .int 0, .int 0, .int 0, .int 0, .int 0, .int 0, .int 0, .long 0, .int 0, .ref a2, .ref a3, .ref a4, .ref a5, .ref a6, .ref a7, .ref a8, .ref a9, .ref a10, .ref a11, .int 0, .ref a12, .ref a13, .ref a14, .ref a15, .int 0, .int 0, .int 0, .ref a16, .int (-1), .int (-1), .ref a17, .ref a18, .int 0, .ref a19, .int 0, .int 0, .ref a20, .ref a21, .int 0, .int 0, .ref a22, .int 0, .int 0, .int 0, .int 0]))] sz) (qI D [(a0, .inr (11, [.int 0, .ref a1, .int 0, .int 0, .int 0, .int 0, .int 0, .int 0, .int 0, .int 0, .int 0, .int 0, .long 0, .int 0, .ref a2, .ref a3, .ref a4, .ref a5, .ref a6, .ref a7, .ref a8, .ref a9, .ref a10, .ref a11, .int 0, .ref a12, .ref a13, .ref a14, .ref a15, .int 0, .int 0, .int 0, .ref a16, .int (-1), .int (-1), .ref a17, .ref a18, .int 0, .ref a19, .int 0, .int 0, .ref a20, .ref a21, .int 0, .int 0, .ref a22, .int 0, .int 0, .int 0, .int 0]))] sz (fun (v : Int32) (u : Unit) => (0 : Int32) = v) (fun u => [(a0, .inr (11, [.int 1, .ref a1, .int 0, .int 0, .int 0, .int 0, .int 0, .int 0, .int 0, .int 0, .int 0, .int 0, .long 0, .int 0, .ref a2, .ref a3, .ref a4, .ref a5, .ref a6, .ref a7, .ref a8, .ref a9, .ref a10, .ref a11, .int 0, .ref a12, .ref a13, .ref a14, .ref a15, .int 0, .int 0, .int 0, .ref a16, .int (-1), .int (-1), .ref a17, .ref a18, .int 0, .ref a19, .int 0, .int 0, .ref a20, .ref a21, .int 0, .int 0, .ref a22, .int 0, .int 0, .int 0, .int 0]))])) 0 0 (va_A [(a0, .inr (11, [.int 0, .ref a1, .int 0, .int 0, .int 0, .int 0, .int 0, .int 0, .int 0, .int 0, .int 0, .int 0, .long 0, .int 0, .ref a2, .ref a3, .ref a4, .ref a5, .ref a6, .ref a7, .ref a8, .ref a9, .ref a10, .ref a11, .int 0, .ref a12, .ref a13, .ref a14, .ref a15, .int 0, .int 0, .int 0, .ref a16, .int (-1), .int (-1), .ref a17, .ref a18, .int 0, .ref a19, .int 0, .int 0, .ref a20, .ref a21, .int 0, .int 0, .ref a22, .int 0, .int 0, .int 0, .int 0]))] sz) := by
  refine e_I (by decide) (Nat.le_of_ble_eq_true rfl) ?_
  intro p e s m args below meth c A Q ls M hin w ret hl
  have hx := M.1.1
  have hb := M.1.2.1
  have hl : lv_has ls 1 [(0, .ref a0)] := hl
  refine lv_aload_n hx hb dX12_refuse_0 rfl (lv_at hl 0 rfl) ?_
  refine lv_iconst (v := 1) hx hb dX12_refuse_1 (by decide) ?_
  refine r_put (ws' := [(a0, .inr (11, [.int 1, .ref a1, .int 0, .int 0, .int 0, .int 0, .int 0, .int 0, .int 0, .int 0, .int 0, .int 0, .long 0, .int 0, .ref a2, .ref a3, .ref a4, .ref a5, .ref a6, .ref a7, .ref a8, .ref a9, .ref a10, .ref a11, .int 0, .ref a12, .ref a13, .ref a14, .ref a15, .int 0, .int 0, .int 0, .ref a16, .int (-1), .int (-1), .ref a17, .ref a18, .int 0, .ref a19, .int 0, .int 0, .ref a20, .ref a21, .int 0, .int 0, .ref a22, .int 0, .int 0, .int 0, .int 0]))]) M w 0 0 clX12 rfl (by decide) G1467 rfl rfl rfl rfl (Nat.le_of_ble_eq_true rfl) rfl dX12_refuse_2 (fun H locs w => ?_)
  refine lv_iconst (v := 0) hx hb dX12_refuse_5 (by decide) ?_
  exact ret _ () _ _ _ _ _ [0] dX12_refuse_6 rfl w (by decide) rfl
set_option maxRecDepth 100000 in
set_option maxHeartbeats 4000000 in
theorem c438_X12_person (l : Launch) (D : va_G) (T : Nat → ClassId) (sz : Nat) (a0 a1 a2 a3 a4 a5 a6 a7 a8 a9 a10 a11 a12 a13 a14 a15 a16 a17 a18 a19 a20 a21 a22 : Nat) (x0 : Int32) (x1 : Int32) : Met l yX12_person (Cond.code yX12_person cX12_person 3 (some .int) :: GW) (Rm 2 0 0) (cPre [.ref a0, .int x0, .int x1] D T [(a0, .inr (11, [.int 0, .ref a1, .int 0, .int 0, .int 0, .int 0, .int 0, .int 0, .int 0, .int 0, .int 0, .int 0, .long 0, .int 0, .ref a2, .ref a3, .ref a4, .ref a5, .ref a6, .ref a7, .ref a8, .ref a9, .ref a10, .ref a11, .int 0, .ref a12, .ref a13, .ref a14, .ref a15, .int 0, .int 0, .int 0, .ref a16, .int (-1), .int (-1), .ref a17, .ref a18, .int 0, .ref a19, .int 0, .int 0, .ref a20, .ref a21, .int 0, .int 0, .ref a22, .int 0, .int 0, .int 0, .int 0])), (a2, .inl (T 0, 329, .inl cn45))] sz) (qI D [(a0, .inr (11, [.int 0, .ref a1, .int 0, .int 0, .int 0, .int 0, .int 0, .int 0, .int 0, .int 0, .int 0, .int 0, .long 0, .int 0, .ref a2, .ref a3, .ref a4, .ref a5, .ref a6, .ref a7, .ref a8, .ref a9, .ref a10, .ref a11, .int 0, .ref a12, .ref a13, .ref a14, .ref a15, .int 0, .int 0, .int 0, .ref a16, .int (-1), .int (-1), .ref a17, .ref a18, .int 0, .ref a19, .int 0, .int 0, .ref a20, .ref a21, .int 0, .int 0, .ref a22, .int 0, .int 0, .int 0, .int 0])), (a2, .inl (T 0, 329, .inl cn45))] sz (fun (v : Int32) (u : Unit) => (0 : Int32) = v) (fun u => [(a0, .inr (11, [.int 1, .ref a1, .int 0, .int 0, .int 0, .int 0, .int 0, .int 0, .int 0, .int 0, .int 0, .int 0, .long 0, .int 0, .ref a2, .ref a3, .ref a4, .ref a5, .ref a6, .ref a7, .ref a8, .ref a9, .ref a10, .ref a11, .int 0, .ref a12, .ref a13, .ref a14, .ref a15, .int 0, .int 0, .int 0, .ref a16, .int (-1), .int (-1), .ref a17, .ref a18, .int 0, .ref a19, .int 0, .int 0, .ref a20, .ref a21, .int 0, .int 0, .ref a22, .int 0, .int 0, .int 0, .int 0])), (a2, .inl (T 0, 329, .inl cn45))])) 0 0 (va_A [(a0, .inr (11, [.int 0, .ref a1, .int 0, .int 0, .int 0, .int 0, .int 0, .int 0, .int 0, .int 0, .int 0, .int 0, .long 0, .int 0, .ref a2, .ref a3, .ref a4, .ref a5, .ref a6, .ref a7, .ref a8, .ref a9, .ref a10, .ref a11, .int 0, .ref a12, .ref a13, .ref a14, .ref a15, .int 0, .int 0, .int 0, .ref a16, .int (-1), .int (-1), .ref a17, .ref a18, .int 0, .ref a19, .int 0, .int 0, .ref a20, .ref a21, .int 0, .int 0, .ref a22, .int 0, .int 0, .int 0, .int 0])), (a2, .inl (T 0, 329, .inl cn45))] sz) := by
  refine e_I (by decide) (Nat.le_of_ble_eq_true rfl) ?_
  intro p e s m args below meth c A Q ls M hin w ret hl
  have hx := M.1.1
  have hb := M.1.2.1
  have hl : lv_has ls 3 [(0, .ref a0), (1, .int x0), (2, .int x1)] := hl
  refine lv_aload_n hx hb dX12_person_0 rfl (lv_at hl 0 rfl) ?_
  refine lv_iconst (v := 0) hx hb dX12_person_1 (by decide) ?_
  refine r_put (ws' := [(a0, .inr (11, [.int 0, .ref a1, .int 0, .int 0, .int 0, .int 0, .int 0, .int 0, .int 0, .int 0, .int 0, .int 0, .long 0, .int 0, .ref a2, .ref a3, .ref a4, .ref a5, .ref a6, .ref a7, .ref a8, .ref a9, .ref a10, .ref a11, .int 0, .ref a12, .ref a13, .ref a14, .ref a15, .int 0, .int 0, .int 0, .ref a16, .int (-1), .int (-1), .ref a17, .ref a18, .int 0, .ref a19, .int 0, .int 0, .ref a20, .ref a21, .int 0, .int 0, .ref a22, .int 0, .int 0, .int 0, .int 0])), (a2, .inl (T 0, 329, .inl cn45))]) M w 0 0 clX12 rfl (by decide) G1467 rfl rfl rfl rfl (Nat.le_of_ble_eq_true rfl) rfl dX12_person_2 (fun H locs w => ?_)
  refine lv_aload_n hx hb dX12_person_5 rfl (lv_at hl 0 rfl) ?_
  refine lv_iload_n hx hb dX12_person_6 rfl (lv_at hl 1 rfl) ?_
  refine k_I (ce := 0) (sl := 0) (rest := []) (wr := []) (r_V (f := 1) [0, 1] M w V_HookedCityModel_240 G1740 G68 (c72_X12_isPerson l D T _ a0 a1 a2 a3 a4 a5 a6 a7 a8 a9 a10 a11 a12 a13 a14 a15 a16 a17 a18 a19 a20 a21 a22 x0) 0 clX12 rfl rfl (by decide) rfl hl.1 rfl (Nat.le_of_ble_eq_true rfl) dX12_person_7 (by decide) (by decide) (by decide) (by decide)) w [0, 1] [] rfl rfl (by decide) (by decide) rfl rfl (fun v _ H locs hp w => ?_)
  have hp : (0 : Int32) = v := hp
  subst hp
  have w : WD D A s.heap [(a0, .inr (11, [.int 0, .ref a1, .int 0, .int 0, .int 0, .int 0, .int 0, .int 0, .int 0, .int 0, .int 0, .int 0, .long 0, .int 0, .ref a2, .ref a3, .ref a4, .ref a5, .ref a6, .ref a7, .ref a8, .ref a9, .ref a10, .ref a11, .int 0, .ref a12, .ref a13, .ref a14, .ref a15, .int 0, .int 0, .int 0, .ref a16, .int (-1), .int (-1), .ref a17, .ref a18, .int 0, .ref a19, .int 0, .int 0, .ref a20, .ref a21, .int 0, .int 0, .ref a22, .int 0, .int 0, .int 0, .int 0])), (a2, .inl (T 0, 329, .inl cn45))] H locs := w
  refine lv_if_ne (tgt := 18) hx hb dX12_person_10 (by decide) (fun c => absurd (by decide +kernel) c) (fun _ => ?_)
  refine lv_aload_n hx hb dX12_person_13 rfl (lv_at hl 0 rfl) ?_
  refine k_I (ce := 0) (sl := 0) (rest := []) (wr := [(a2, .inl (T 0, 329, .inl cn45))]) (r_V (f := 0) [0] M w V_HookedCityModel_243 G1744 G69 (c437_X12_refuse l D T _ a0 a1 a2 a3 a4 a5 a6 a7 a8 a9 a10 a11 a12 a13 a14 a15 a16 a17 a18 a19 a20 a21 a22) 0 clX12 rfl rfl (by decide) rfl hl.1 rfl (Nat.le_of_ble_eq_true rfl) dX12_person_14 (by decide) (by decide) (by decide) (by decide)) w [0] [1] rfl rfl (by decide) (by decide) rfl rfl (fun v _ H locs hp w => ?_)
  have hp : (0 : Int32) = v := hp
  subst hp
  have w : WD D A s.heap [(a2, .inl (T 0, 329, .inl cn45)), (a0, .inr (11, [.int 1, .ref a1, .int 0, .int 0, .int 0, .int 0, .int 0, .int 0, .int 0, .int 0, .int 0, .int 0, .long 0, .int 0, .ref a2, .ref a3, .ref a4, .ref a5, .ref a6, .ref a7, .ref a8, .ref a9, .ref a10, .ref a11, .int 0, .ref a12, .ref a13, .ref a14, .ref a15, .int 0, .int 0, .int 0, .ref a16, .int (-1), .int (-1), .ref a17, .ref a18, .int 0, .ref a19, .int 0, .int 0, .ref a20, .ref a21, .int 0, .int 0, .ref a22, .int 0, .int 0, .int 0, .int 0]))] H locs := w
  exact ret _ () _ _ _ _ _ [1, 0] dX12_person_17 rfl w (by decide) rfl
set_option maxRecDepth 100000 in
set_option maxHeartbeats 4000000 in
theorem c439_X12_thrown (l : Launch) (D : va_G) (T : Nat → ClassId) (sz : Nat) (a0 a1 a2 a3 a4 a5 a6 a7 a8 a9 a10 a11 a12 a13 a14 a15 a16 a17 a18 a19 a20 a21 a22 : Nat) : Met l yX12_thrown (Cond.code yX12_thrown cX12_thrown 1 (some .int) :: GW) (Rm 0 0 0) (cPre [.ref a0] D T [(a0, .inr (11, [.int 1, .ref a1, .int 0, .int 0, .int 0, .int 0, .int 0, .int 0, .int 0, .int 0, .int 0, .int 0, .long 0, .int 0, .ref a2, .ref a3, .ref a4, .ref a5, .ref a6, .ref a7, .ref a8, .ref a9, .ref a10, .ref a11, .int 0, .ref a12, .ref a13, .ref a14, .ref a15, .int 0, .int 0, .int 0, .ref a16, .int (-1), .int (-1), .ref a17, .ref a18, .int 0, .ref a19, .int 0, .int 0, .ref a20, .ref a21, .int 0, .int 0, .ref a22, .int 0, .int 0, .int 0, .int 0]))] sz) (qI D [(a0, .inr (11, [.int 1, .ref a1, .int 0, .int 0, .int 0, .int 0, .int 0, .int 0, .int 0, .int 0, .int 0, .int 0, .long 0, .int 0, .ref a2, .ref a3, .ref a4, .ref a5, .ref a6, .ref a7, .ref a8, .ref a9, .ref a10, .ref a11, .int 0, .ref a12, .ref a13, .ref a14, .ref a15, .int 0, .int 0, .int 0, .ref a16, .int (-1), .int (-1), .ref a17, .ref a18, .int 0, .ref a19, .int 0, .int 0, .ref a20, .ref a21, .int 0, .int 0, .ref a22, .int 0, .int 0, .int 0, .int 0]))] sz (fun (v : Int32) (u : Unit) => (1 : Int32) = v) (fun u => [])) 0 0 (va_A [(a0, .inr (11, [.int 1, .ref a1, .int 0, .int 0, .int 0, .int 0, .int 0, .int 0, .int 0, .int 0, .int 0, .int 0, .long 0, .int 0, .ref a2, .ref a3, .ref a4, .ref a5, .ref a6, .ref a7, .ref a8, .ref a9, .ref a10, .ref a11, .int 0, .ref a12, .ref a13, .ref a14, .ref a15, .int 0, .int 0, .int 0, .ref a16, .int (-1), .int (-1), .ref a17, .ref a18, .int 0, .ref a19, .int 0, .int 0, .ref a20, .ref a21, .int 0, .int 0, .ref a22, .int 0, .int 0, .int 0, .int 0]))] sz) := by
  refine e_I (by decide) (Nat.le_of_ble_eq_true rfl) ?_
  intro p e s m args below meth c A Q ls M hin w ret hl
  have hx := M.1.1
  have hb := M.1.2.1
  have hl : lv_has ls 1 [(0, .ref a0)] := hl
  refine lv_aload_n hx hb dX12_thrown_0 rfl (lv_at hl 0 rfl) ?_
  refine r_get (v := .int 1) M w 0 0 clX12 rfl (by decide) G1467 rfl rfl dX12_thrown_1 ?_
  exact ret _ () _ _ _ _ _ [] dX12_thrown_4 rfl w (by decide) rfl
/-! THE CLAIM OUT OF ONE WALK OF THE LAW'S BODY. Your part is whole_start (and what it stands on); all else here is the same for every law, but numbers. -/
def R_law : String := "HookedCityLaw"
def lw_P (b : Addr) (xs : List Int32) (args : Array Value) (s : State) : Prop := args = #[.ref b] ∧ s.IntsAt b xs ∧ xs.length ≤ 6 ∧ (Jvm.Cond.and given_1 narrow_1).before args s = true
def lw_Q (_ : Array Value) (s : State) (o : Outcome) (t : State) : Prop := o = .returned (some (.int 1)) ∧ Framed s o t [] 600002 7302232
def lw_Z (below : List Frame) (a : Array Value) (s : State) : State → Prop := fun t => ∃ o, t.status = .running ∧ Ended t below o ∧ lw_Q a s o t
/-- the law's own end, with 1 on the stack, nothing written that was there before, its room as the claim has it -/
theorem lw_ret {p : Program} {l : Launch} {e : Env} {s : State} {m : MethodId} {below : List Frame} {meth : Method} {c : Code} {b : Nat} (hx : p.tables.exec = Jvm.exec) (hb : c.code = code) (hr : meth.sig.returnType = ret) (hlocks : meth.locks = false) {pc : Nat} {H : Heap} {ls : Array Slot} (hdg : decode code pc = .ok (.ireturn, 1)) : W p l e room_1 s m #[Value.ref b] below meth c H [] 600002 7302232 (lw_Z below #[Value.ref b] s) (F0 m pc ls [.int 1]) := by
  intro T hT X
  obtain ⟨fs, hret, hrun, hended, hW, hframe⟩ := X.leave (v := some (.int 1)) (hlocks := hlocks) (fun h => by rw [hr] at h; cases h)
  have hmeth' : T.vm.method? m = some meth := X.method'
  refine ⟨T.setFrames fs, ?_, .returned (some (.int 1)), hrun, hended, rfl, ⟨_, rfl⟩, hW, hframe⟩
  jvm_step X.here [X.here.top, hx, hb, hdg, hmeth', hr, ret, narrow_b1]
  (try refine ⟨rfl, ?_⟩); (try refine ⟨rfl, ?_⟩)
  first | (intro acts; rw [hret _ acts rfl rfl rfl]) | rw [hret _ _ rfl rfl rfl]
  exact Steps.refl _
/-- what holds at the law's entry: the machine, the code, the tables' words (any of lw_tbl by 'hts w (by decide +kernel)'), the script of L ints xs at the cell b, what the Statement gives of the start (any of its parts by flat_of_before) -/
def lw_At (p : Program) (s : State) (m : MethodId) (meth : Method) (c : Code) (b L : Nat) (xs : Nat → Int32) : Prop :=
  p.tables.exec = Jvm.exec ∧ c.code = code ∧ meth.sig.returnType = ret ∧ c.maxLocals = 7 ∧ s.vm.findClass R_law = some m.cls ∧ (∀ w ∈ lw_tbl, w.before #[Value.ref b] s = true) ∧ va_X b L xs s s.heap ∧ b < s.heap.size ∧ meth.locks = false ∧ (Jvm.Cond.and given_1 narrow_1).before #[Value.ref b] s = true
theorem gw_goodW {own : String} {idx : Nat} {y : MethodName} {c1 : Cond} (h1 : Cond.methodLink own idx y ∈ GW) (h2 : Cond.static y ∈ GW) (h3 : Cond.initialized y.cls ∈ GW) (h : c1 ∈ GW) : GoodIn GW (va_wsS own idx y (c1 :: GW)) := by
  intro w hw
  have key : ∀ w ∈ GW, w ∈ GW ∧ ((w.onTables && w.keeps) = true ∨ ∃ ty, w = .arrayClass ty) := fun w hw => ⟨hw, good_of_word (List.mem_filter.mp hw).2⟩
  unfold va_wsS at hw
  rcases List.mem_append.mp hw with hw | hw
  · rcases List.mem_cons.mp hw with rfl | hw
    · exact key _ h1
    · rcases List.mem_cons.mp hw with rfl | hw
      · exact key _ h2
      · rcases List.mem_cons.mp hw with rfl | hw
        · exact key _ h3
        · cases hw
  · rcases List.mem_cons.mp hw with rfl | hw
    · exact key _ h
    · exact key w hw
theorem WD.sub {D : va_G} {A : Nat → Prop} {H0 : Heap} {ws ws' : va_W} {H : Heap} {locs : List Loc} (w : WD D A H0 ws H locs) (is : List Nat) (hn : va_nd is = true) (hs : is.map (fun i => ws[i]?) = ws'.map some) : WD D A H0 ws' H locs := ⟨wsub w.1 is hs, w.2.1.sub is hn hs, w.2.2.1, w.2.2.2⟩
set_option maxRecDepth 100000 in
set_option maxHeartbeats 4000000 in
theorem law_exit {p : Program} {l : Launch} {e : Env} {s : State} {m : MethodId} {below : List Frame} {meth : Method} {c : Code} {D : va_G} {T : Nat → ClassId} {A : Nat → Prop} {b : Nat} {xs : Nat → Int32} (M : MC p s m #[Value.ref b] c code R_law 7 D T A) (hA9 : ∀ q, A q → s.heap.size ≤ q) (hr : meth.sig.returnType = ret) (hlocks : meth.locks = false) (hX : va_X b 6 xs s s.heap) (hbl : b < s.heap.size) {ws : va_W} {H : Heap} {locs : List Loc} {ls : Array Slot} (w : WD D A s.heap ws H locs) (hl : lv_has ls 7 [(4, .int 0), (0, .ref b)]) : W p l e room_1 s m #[Value.ref b] below meth c H locs 400000 6000000 (lw_Z below #[Value.ref b] s) (F0 m 1184 ls []) := by
  have hx := M.1.1
  have hb := M.1.2.1
  have hbA : ¬ A b := fun h => absurd (hA9 _ h) (Nat.not_le.mpr hbl)
  refine lv_iinc (v := (6 : Int32)) (lv' := [(4, .int 6), (0, .ref b)]) hx hb dL_law_1184 hl (k := 0) rfl (by decide +kernel) (by decide) rfl (fun ls hl => ?_)
  refine lv_goto (tgt := 23) hx hb dL_law_1187 (by decide) ?_
  refine lv_iload hx hb dL_law_23 (lv_at hl 0 rfl) ?_
  refine lv_aload_n hx hb dL_law_25 rfl (lv_at hl 1 rfl) ?_
  refine va_slen hx hb hX hbl hbA w.2.2.1 dL_law_26 ?_
  refine lv_bipush (v := 6) hx hb dL_law_27 (by decide) ?_
  refine r_isub (v := (0 : Int32)) M (by decide +kernel) dL_law_29 ?_
  refine lv_icmp_gt (tgt := 1190) hx hb dL_law_30 (by decide) (fun _ => ?_) (fun c => absurd (by decide +kernel) c)
  refine lv_iconst (v := 1) hx hb dL_law_1190 (by decide) ?_
  refine va_forget (fun q hq => hA9 _ (w.2.2.1.2.2 q hq)) ?_
  refine W.widen (k := 600002) (n := 7302232) (by decide) (by decide) ?_
  exact lw_ret hx hb hr hlocks dL_law_1191
set_option maxRecDepth 100000 in
set_option maxHeartbeats 4000000 in
theorem law_0 {p : Program} {l : Launch} {e : Env} {s : State} {m : MethodId} {below : List Frame} {meth : Method} {c : Code} {D : va_G} {T : Nat → ClassId} {A : Nat → Prop} {b : Nat} {xs : Nat → Int32} (M : MC p s m #[Value.ref b] c code R_law 7 D T A) (hA9 : ∀ q, A q → s.heap.size ≤ q) (hr : meth.sig.returnType = ret) (hlocks : meth.locks = false) (hX : va_X b 6 xs s s.heap) (hbl : b < s.heap.size) (xa0 xn0 xn2 xn7 xn12 xn18 xn22 xn23 xn26 xn28 xn29 xn30 xn40 xn50 xn55 xn1 ma0 mn0 mn21 mn19 mn1 mn2 mn3 mn4 mn5 mn6 mn7 mn20 mn8 mn9 mn10 mn11 mn12 mn13 mn14 mn15 mn16 mn17 mn18 oo : Nat) {H : Heap} {locs : List Loc} {ls : Array Slot} (w : WD D A s.heap [(xa0, .inr (10, [.ref xn0, .ref xn2, .ref xn7, .ref xn12, .ref xn18, .ref xn22, .ref xn23, .ref xn26, .ref xn28, .ref xn29, .ref xn30, .ref xn40, .ref xn50, .ref xn55, .int 0, .int 0, .int 0])), (xn0, .inr (8, [.ref xn1, .int 0, .int 0, .int 0, .int 0, .int 0, .null, .long 0, .int 0, .int 0, .int 0, .int 0])), (xn1, .inl (T 0, 940, .inl (fun _ => 0))), (ma0, .inr (11, [.int 0, .ref mn0, .int 0, .int 0, .int 0, .int 0, .int 0, .int 0, .int 0, .int 0, .int 0, .int 0, .long 0, .int 0, .ref mn21, .ref mn19, .ref mn1, .ref mn2, .ref mn3, .ref mn4, .ref mn5, .ref mn6, .ref mn7, .ref mn20, .int 0, .ref mn8, .ref mn9, .ref mn10, .ref mn11, .int 0, .int 0, .int 0, .ref mn12, .int (-1), .int (-1), .ref mn13, .ref mn14, .int 0, .ref mn15, .int 0, .int 0, .ref mn16, .ref mn17, .int 0, .int 0, .ref mn18, .int 0, .int 0, .int 0, .int 0])), (mn0, .inl (T 0, 940, .inl (fun _ => 0)))] H locs) (hl : lv_has ls 7 [(4, .int 0), (3, .ref oo), (2, .ref ma0), (1, .ref xa0), (0, .ref b)]) : W p l e room_1 s m #[Value.ref b] below meth c H locs 167 5547 (lw_Z below #[Value.ref b] s) (F0 m 204 ls []) := by
  have hx := M.1.1
  have hb := M.1.2.1
  have hbA : ¬ A b := fun h => absurd (hA9 _ h) (Nat.not_le.mpr hbl)
  refine lv_aload_n hx hb dL_law_204 rfl (lv_at hl 3 rfl) ?_
  refine lv_aload_n hx hb dL_law_205 rfl (lv_at hl 4 rfl) ?_
  refine lv_iload hx hb dL_law_206 (lv_at hl 0 rfl) ?_
  refine lv_iconst (v := 1) hx hb dL_law_208 (by decide) ?_
  refine r_iadd (v := (1 : Int32)) M (by decide +kernel) dL_law_209 ?_
  refine va_sld hx hb hX hbl hbA w.2.2.1 (vin (by decide +kernel)) dL_law_210 ?_
  refine lv_aload_n hx hb dL_law_211 rfl (lv_at hl 4 rfl) ?_
  refine lv_iload hx hb dL_law_212 (lv_at hl 0 rfl) ?_
  refine lv_iconst (v := 2) hx hb dL_law_214 (by decide) ?_
  refine r_iadd (v := (2 : Int32)) M (by decide +kernel) dL_law_215 ?_
  refine va_sld hx hb hX hbl hbA w.2.2.1 (vin (by decide +kernel)) dL_law_216 ?_
  refine lv_aload_n hx hb dL_law_217 rfl (lv_at hl 4 rfl) ?_
  refine lv_iload hx hb dL_law_218 (lv_at hl 0 rfl) ?_
  refine lv_iconst (v := 3) hx hb dL_law_220 (by decide) ?_
  refine r_iadd (v := (3 : Int32)) M (by decide +kernel) dL_law_221 ?_
  refine va_sld hx hb hX hbl hbA w.2.2.1 (vin (by decide +kernel)) dL_law_222 ?_
  refine lv_aload_n hx hb dL_law_223 rfl (lv_at hl 4 rfl) ?_
  refine lv_iload hx hb dL_law_224 (lv_at hl 0 rfl) ?_
  refine lv_iconst (v := 4) hx hb dL_law_226 (by decide) ?_
  refine r_iadd (v := (4 : Int32)) M (by decide +kernel) dL_law_227 ?_
  refine va_sld hx hb hX hbl hbA w.2.2.1 (vin (by decide +kernel)) dL_law_228 ?_
  refine lv_aload_n hx hb dL_law_229 rfl (lv_at hl 4 rfl) ?_
  refine lv_iload hx hb dL_law_230 (lv_at hl 0 rfl) ?_
  refine lv_iconst (v := 5) hx hb dL_law_232 (by decide) ?_
  refine r_iadd (v := (5 : Int32)) M (by decide +kernel) dL_law_233 ?_
  refine va_sld hx hb hX hbl hbA w.2.2.1 (vin (by decide +kernel)) dL_law_234 ?_
  refine k_I (ce := 167) (sl := 5547) (rest := []) (wr := [(ma0, .inr (11, [.int 0, .ref mn0, .int 0, .int 0, .int 0, .int 0, .int 0, .int 0, .int 0, .int 0, .int 0, .int 0, .long 0, .int 0, .ref mn21, .ref mn19, .ref mn1, .ref mn2, .ref mn3, .ref mn4, .ref mn5, .ref mn6, .ref mn7, .ref mn20, .int 0, .ref mn8, .ref mn9, .ref mn10, .ref mn11, .int 0, .int 0, .int 0, .ref mn12, .int (-1), .int (-1), .ref mn13, .ref mn14, .int 0, .ref mn15, .int 0, .int 0, .ref mn16, .ref mn17, .int 0, .int 0, .ref mn18, .int 0, .int 0, .int 0, .int 0])), (mn0, .inl (T 0, 940, .inl (fun _ => 0)))]) (r_V (f := 2) [0, 1, 2] M w V_HookedCityLaw_19 G550 G551 (c22_X11_feed l D T _ xa0 xn0 xn2 xn7 xn12 xn18 xn22 xn23 xn26 xn28 xn29 xn30 xn40 xn50 xn55 xn1 (xs (Int32.toNatClampNeg (1 : Int32))) (xs (Int32.toNatClampNeg (2 : Int32))) (xs (Int32.toNatClampNeg (3 : Int32))) (xs (Int32.toNatClampNeg (4 : Int32))) (xs (Int32.toNatClampNeg (5 : Int32)))) 0 clX11 rfl rfl (by decide) rfl hl.1 rfl (Nat.le_of_ble_eq_true rfl) dL_law_235 (by decide) (by decide) (by decide) (by decide)) w [0, 1, 2] [3, 4] rfl rfl (by decide) (by decide) rfl rfl (fun v _ H locs hp w => ?_)
  have hp : (20 : Int32) = v := hp
  subst hp
  have w : WD D A s.heap [(ma0, .inr (11, [.int 0, .ref mn0, .int 0, .int 0, .int 0, .int 0, .int 0, .int 0, .int 0, .int 0, .int 0, .int 0, .long 0, .int 0, .ref mn21, .ref mn19, .ref mn1, .ref mn2, .ref mn3, .ref mn4, .ref mn5, .ref mn6, .ref mn7, .ref mn20, .int 0, .ref mn8, .ref mn9, .ref mn10, .ref mn11, .int 0, .int 0, .int 0, .ref mn12, .int (-1), .int (-1), .ref mn13, .ref mn14, .int 0, .ref mn15, .int 0, .int 0, .ref mn16, .ref mn17, .int 0, .int 0, .ref mn18, .int 0, .int 0, .int 0, .int 0])), (mn0, .inl (T 0, 940, .inl (fun _ => 0)))] H locs := w
  refine lv_aload_n hx hb dL_law_238 rfl (lv_at hl 2 rfl) ?_
  refine lv_aload_n hx hb dL_law_239 rfl (lv_at hl 4 rfl) ?_
  refine lv_iload hx hb dL_law_240 (lv_at hl 0 rfl) ?_
  refine lv_iconst (v := 1) hx hb dL_law_242 (by decide) ?_
  refine r_iadd (v := (1 : Int32)) M (by decide +kernel) dL_law_243 ?_
  refine va_sld hx hb hX hbl hbA w.2.2.1 (vin (by decide +kernel)) dL_law_244 ?_
  refine lv_aload_n hx hb dL_law_245 rfl (lv_at hl 4 rfl) ?_
  refine lv_iload hx hb dL_law_246 (lv_at hl 0 rfl) ?_
  refine lv_iconst (v := 2) hx hb dL_law_248 (by decide) ?_
  refine r_iadd (v := (2 : Int32)) M (by decide +kernel) dL_law_249 ?_
  refine va_sld hx hb hX hbl hbA w.2.2.1 (vin (by decide +kernel)) dL_law_250 ?_
  refine lv_aload_n hx hb dL_law_251 rfl (lv_at hl 4 rfl) ?_
  refine lv_iload hx hb dL_law_252 (lv_at hl 0 rfl) ?_
  refine lv_iconst (v := 3) hx hb dL_law_254 (by decide) ?_
  refine r_iadd (v := (3 : Int32)) M (by decide +kernel) dL_law_255 ?_
  refine va_sld hx hb hX hbl hbA w.2.2.1 (vin (by decide +kernel)) dL_law_256 ?_
  refine lv_aload_n hx hb dL_law_257 rfl (lv_at hl 4 rfl) ?_
  refine lv_iload hx hb dL_law_258 (lv_at hl 0 rfl) ?_
  refine lv_iconst (v := 4) hx hb dL_law_260 (by decide) ?_
  refine r_iadd (v := (4 : Int32)) M (by decide +kernel) dL_law_261 ?_
  refine va_sld hx hb hX hbl hbA w.2.2.1 (vin (by decide +kernel)) dL_law_262 ?_
  refine lv_aload_n hx hb dL_law_263 rfl (lv_at hl 4 rfl) ?_
  refine lv_iload hx hb dL_law_264 (lv_at hl 0 rfl) ?_
  refine lv_iconst (v := 5) hx hb dL_law_266 (by decide) ?_
  refine r_iadd (v := (5 : Int32)) M (by decide +kernel) dL_law_267 ?_
  refine va_sld hx hb hX hbl hbA w.2.2.1 (vin (by decide +kernel)) dL_law_268 ?_
  refine k_I (ce := 167) (sl := 5547) (rest := [.int 20]) (wr := []) (r_V (f := 1) [0, 1] M w V_HookedCityLaw_23 G1442 G1443 (c28_X12_feed l D T _ ma0 mn0 mn21 mn19 mn1 mn2 mn3 mn4 mn5 mn6 mn7 mn20 mn8 mn9 mn10 mn11 mn12 mn13 mn14 mn15 mn16 mn17 mn18 (xs (Int32.toNatClampNeg (1 : Int32))) (xs (Int32.toNatClampNeg (2 : Int32))) (xs (Int32.toNatClampNeg (3 : Int32))) (xs (Int32.toNatClampNeg (4 : Int32))) (xs (Int32.toNatClampNeg (5 : Int32)))) 0 clX12 rfl rfl (by decide) rfl hl.1 rfl (Nat.le_of_ble_eq_true rfl) dL_law_269 (by decide) (by decide) (by decide) (by decide)) w [0, 1] [] rfl rfl (by decide) (by decide) rfl rfl (fun v _ H locs hp w => ?_)
  have hp : (20 : Int32) = v := hp
  subst hp
  have w : WD D A s.heap [] H locs := w
  refine lv_icmp_eq (tgt := 1184) hx hb dL_law_272 (by decide) (fun _ => ?_) (fun c => absurd (by decide +kernel) c)
  refine W.widen (k := 400000) (n := 6000000) (by decide) (by decide) ?_
  exact law_exit M hA9 hr hlocks hX hbl w (lv_sub hl [0, 4] rfl)
set_option maxRecDepth 100000 in
set_option maxHeartbeats 4000000 in
theorem law_1 {p : Program} {l : Launch} {e : Env} {s : State} {m : MethodId} {below : List Frame} {meth : Method} {c : Code} {D : va_G} {T : Nat → ClassId} {A : Nat → Prop} {b : Nat} {xs : Nat → Int32} (M : MC p s m #[Value.ref b] c code R_law 7 D T A) (hA9 : ∀ q, A q → s.heap.size ≤ q) (hr : meth.sig.returnType = ret) (hlocks : meth.locks = false) (hX : va_X b 6 xs s s.heap) (hbl : b < s.heap.size) (xa0 xn0 xn2 xn7 xn12 xn18 xn22 xn23 xn26 xn28 xn29 xn30 xn40 xn50 xn55 xn1 ma0 mn0 mn21 mn19 mn1 mn2 mn3 mn4 mn5 mn6 mn7 mn20 mn8 mn9 mn10 mn11 mn12 mn13 mn14 mn15 mn16 mn17 mn18 oo : Nat) {H : Heap} {locs : List Loc} {ls : Array Slot} (w : WD D A s.heap [(xa0, .inr (10, [.ref xn0, .ref xn2, .ref xn7, .ref xn12, .ref xn18, .ref xn22, .ref xn23, .ref xn26, .ref xn28, .ref xn29, .ref xn30, .ref xn40, .ref xn50, .ref xn55, .int 0, .int 0, .int 0])), (xn0, .inr (8, [.ref xn1, .int 0, .int 0, .int 0, .int 0, .int 0, .null, .long 0, .int 0, .int 0, .int 0, .int 0])), (ma0, .inr (11, [.int 0, .ref mn0, .int 0, .int 0, .int 0, .int 0, .int 0, .int 0, .int 0, .int 0, .int 0, .int 0, .long 0, .int 0, .ref mn21, .ref mn19, .ref mn1, .ref mn2, .ref mn3, .ref mn4, .ref mn5, .ref mn6, .ref mn7, .ref mn20, .int 0, .ref mn8, .ref mn9, .ref mn10, .ref mn11, .int 0, .int 0, .int 0, .ref mn12, .int (-1), .int (-1), .ref mn13, .ref mn14, .int 0, .ref mn15, .int 0, .int 0, .ref mn16, .ref mn17, .int 0, .int 0, .ref mn18, .int 0, .int 0, .int 0, .int 0]))] H locs) (hl : lv_has ls 7 [(4, .int 0), (3, .ref oo), (2, .ref ma0), (1, .ref xa0), (0, .ref b)]) : W p l e room_1 s m #[Value.ref b] below meth c H locs 167 5547 (lw_Z below #[Value.ref b] s) (F0 m 277 ls []) := by
  have hx := M.1.1
  have hb := M.1.2.1
  have hbA : ¬ A b := fun h => absurd (hA9 _ h) (Nat.not_le.mpr hbl)
  refine lv_aload_n hx hb dL_law_277 rfl (lv_at hl 3 rfl) ?_
  refine lv_aload_n hx hb dL_law_278 rfl (lv_at hl 4 rfl) ?_
  refine lv_iload hx hb dL_law_279 (lv_at hl 0 rfl) ?_
  refine lv_iconst (v := 1) hx hb dL_law_281 (by decide) ?_
  refine r_iadd (v := (1 : Int32)) M (by decide +kernel) dL_law_282 ?_
  refine va_sld hx hb hX hbl hbA w.2.2.1 (vin (by decide +kernel)) dL_law_283 ?_
  refine k_I (ce := 167) (sl := 5547) (rest := []) (wr := [(ma0, .inr (11, [.int 0, .ref mn0, .int 0, .int 0, .int 0, .int 0, .int 0, .int 0, .int 0, .int 0, .int 0, .int 0, .long 0, .int 0, .ref mn21, .ref mn19, .ref mn1, .ref mn2, .ref mn3, .ref mn4, .ref mn5, .ref mn6, .ref mn7, .ref mn20, .int 0, .ref mn8, .ref mn9, .ref mn10, .ref mn11, .int 0, .int 0, .int 0, .ref mn12, .int (-1), .int (-1), .ref mn13, .ref mn14, .int 0, .ref mn15, .int 0, .int 0, .ref mn16, .ref mn17, .int 0, .int 0, .ref mn18, .int 0, .int 0, .int 0, .int 0]))]) (r_V (f := 1) [0, 1] M w V_HookedCityLaw_24 G562 G563 (c30_X11_end l D T _ xa0 xn0 xn2 xn7 xn12 xn18 xn22 xn23 xn26 xn28 xn29 xn30 xn40 xn50 xn55 xn1 (xs (Int32.toNatClampNeg (1 : Int32)))) 0 clX11 rfl rfl (by decide) rfl hl.1 rfl (Nat.le_of_ble_eq_true rfl) dL_law_284 (by decide) (by decide) (by decide) (by decide)) w [0, 1] [2] rfl rfl (by decide) (by decide) rfl rfl (fun v _ H locs hp w => ?_)
  try dsimp only at hp
  rcases hp with ⟨c_1, hp⟩ | ⟨c_2, c_3, hp⟩ | ⟨c_4, c_5, hp⟩
  · have hp : (0 : Int32) = v := hp
    subst hp
    have w : WD D A s.heap [(ma0, .inr (11, [.int 0, .ref mn0, .int 0, .int 0, .int 0, .int 0, .int 0, .int 0, .int 0, .int 0, .int 0, .int 0, .long 0, .int 0, .ref mn21, .ref mn19, .ref mn1, .ref mn2, .ref mn3, .ref mn4, .ref mn5, .ref mn6, .ref mn7, .ref mn20, .int 0, .ref mn8, .ref mn9, .ref mn10, .ref mn11, .int 0, .int 0, .int 0, .ref mn12, .int (-1), .int (-1), .ref mn13, .ref mn14, .int 0, .ref mn15, .int 0, .int 0, .ref mn16, .ref mn17, .int 0, .int 0, .ref mn18, .int 0, .int 0, .int 0, .int 0]))] H locs := w
    refine lv_aload_n hx hb dL_law_287 rfl (lv_at hl 2 rfl) ?_
    refine lv_aload_n hx hb dL_law_288 rfl (lv_at hl 4 rfl) ?_
    refine lv_iload hx hb dL_law_289 (lv_at hl 0 rfl) ?_
    refine lv_iconst (v := 1) hx hb dL_law_291 (by decide) ?_
    refine r_iadd (v := (1 : Int32)) M (by decide +kernel) dL_law_292 ?_
    refine va_sld hx hb hX hbl hbA w.2.2.1 (vin (by decide +kernel)) dL_law_293 ?_
    refine k_I (ce := 167) (sl := 5547) (rest := [.int 0]) (wr := []) (r_V (f := 0) [0] M w V_HookedCityLaw_28 G1451 G1452 (c31_X12_end l D T _ ma0 mn0 mn21 mn19 mn1 mn2 mn3 mn4 mn5 mn6 mn7 mn20 mn8 mn9 mn10 mn11 mn12 mn13 mn14 mn15 mn16 mn17 mn18 (xs (Int32.toNatClampNeg (1 : Int32)))) 0 clX12 rfl rfl (by decide) rfl hl.1 rfl (Nat.le_of_ble_eq_true rfl) dL_law_294 (by decide) (by decide) (by decide) (by decide)) w [0] [] rfl rfl (by decide) (by decide) rfl rfl (fun v _ H locs hp w => ?_)
    try dsimp only at hp
    rcases hp with ⟨c_6, hp⟩ | ⟨c_7, c_8, hp⟩ | ⟨c_9, c_10, hp⟩
    · have hp : (0 : Int32) = v := hp
      subst hp
      have w : WD D A s.heap [] H locs := w
      refine lv_icmp_eq (tgt := 1184) hx hb dL_law_297 (by decide) (fun _ => ?_) (fun c => absurd (by decide +kernel) c)
      refine W.widen (k := 400000) (n := 6000000) (by decide) (by decide) ?_
      exact law_exit M hA9 hr hlocks hX hbl w (lv_sub hl [0, 4] rfl)
    · exfalso
      simp only [fa_lt, fa_le, fa_eq] at c_1 c_7 c_8
      have e0 : (0 : Int32).toInt = 0 := (by decide)
      omega
    · exfalso
      simp only [fa_lt, fa_le, fa_eq] at c_1 c_9 c_10
      have e0 : (0 : Int32).toInt = 0 := (by decide)
      omega
  · have hp : (0 : Int32) = v := hp
    subst hp
    have w : WD D A s.heap [(ma0, .inr (11, [.int 0, .ref mn0, .int 0, .int 0, .int 0, .int 0, .int 0, .int 0, .int 0, .int 0, .int 0, .int 0, .long 0, .int 0, .ref mn21, .ref mn19, .ref mn1, .ref mn2, .ref mn3, .ref mn4, .ref mn5, .ref mn6, .ref mn7, .ref mn20, .int 0, .ref mn8, .ref mn9, .ref mn10, .ref mn11, .int 0, .int 0, .int 0, .ref mn12, .int (-1), .int (-1), .ref mn13, .ref mn14, .int 0, .ref mn15, .int 0, .int 0, .ref mn16, .ref mn17, .int 0, .int 0, .ref mn18, .int 0, .int 0, .int 0, .int 0]))] H locs := w
    refine lv_aload_n hx hb dL_law_287 rfl (lv_at hl 2 rfl) ?_
    refine lv_aload_n hx hb dL_law_288 rfl (lv_at hl 4 rfl) ?_
    refine lv_iload hx hb dL_law_289 (lv_at hl 0 rfl) ?_
    refine lv_iconst (v := 1) hx hb dL_law_291 (by decide) ?_
    refine r_iadd (v := (1 : Int32)) M (by decide +kernel) dL_law_292 ?_
    refine va_sld hx hb hX hbl hbA w.2.2.1 (vin (by decide +kernel)) dL_law_293 ?_
    refine k_I (ce := 167) (sl := 5547) (rest := [.int 0]) (wr := []) (r_V (f := 0) [0] M w V_HookedCityLaw_28 G1451 G1452 (c31_X12_end l D T _ ma0 mn0 mn21 mn19 mn1 mn2 mn3 mn4 mn5 mn6 mn7 mn20 mn8 mn9 mn10 mn11 mn12 mn13 mn14 mn15 mn16 mn17 mn18 (xs (Int32.toNatClampNeg (1 : Int32)))) 0 clX12 rfl rfl (by decide) rfl hl.1 rfl (Nat.le_of_ble_eq_true rfl) dL_law_294 (by decide) (by decide) (by decide) (by decide)) w [0] [] rfl rfl (by decide) (by decide) rfl rfl (fun v _ H locs hp w => ?_)
    try dsimp only at hp
    rcases hp with ⟨c_11, hp⟩ | ⟨c_12, c_13, hp⟩ | ⟨c_14, c_15, hp⟩
    · exfalso
      simp only [fa_lt, fa_le, fa_eq] at c_2 c_3 c_11
      have e0 : (0 : Int32).toInt = 0 := (by decide)
      omega
    · have hp : (0 : Int32) = v := hp
      subst hp
      have w : WD D A s.heap [] H locs := w
      refine lv_icmp_eq (tgt := 1184) hx hb dL_law_297 (by decide) (fun _ => ?_) (fun c => absurd (by decide +kernel) c)
      refine W.widen (k := 400000) (n := 6000000) (by decide) (by decide) ?_
      exact law_exit M hA9 hr hlocks hX hbl w (lv_sub hl [0, 4] rfl)
    · exfalso
      simp only [fa_lt, fa_le, fa_eq] at c_2 c_3 c_14 c_15
      have e0 : (0 : Int32).toInt = 0 := (by decide)
      omega
  · have hp : (1 : Int32) = v := hp
    subst hp
    have w : WD D A s.heap [(ma0, .inr (11, [.int 0, .ref mn0, .int 0, .int 0, .int 0, .int 0, .int 0, .int 0, .int 0, .int 0, .int 0, .int 0, .long 0, .int 0, .ref mn21, .ref mn19, .ref mn1, .ref mn2, .ref mn3, .ref mn4, .ref mn5, .ref mn6, .ref mn7, .ref mn20, .int 0, .ref mn8, .ref mn9, .ref mn10, .ref mn11, .int 0, .int 0, .int 0, .ref mn12, .int (-1), .int (-1), .ref mn13, .ref mn14, .int 0, .ref mn15, .int 0, .int 0, .ref mn16, .ref mn17, .int 0, .int 0, .ref mn18, .int 0, .int 0, .int 0, .int 0]))] H locs := w
    refine lv_aload_n hx hb dL_law_287 rfl (lv_at hl 2 rfl) ?_
    refine lv_aload_n hx hb dL_law_288 rfl (lv_at hl 4 rfl) ?_
    refine lv_iload hx hb dL_law_289 (lv_at hl 0 rfl) ?_
    refine lv_iconst (v := 1) hx hb dL_law_291 (by decide) ?_
    refine r_iadd (v := (1 : Int32)) M (by decide +kernel) dL_law_292 ?_
    refine va_sld hx hb hX hbl hbA w.2.2.1 (vin (by decide +kernel)) dL_law_293 ?_
    refine k_I (ce := 167) (sl := 5547) (rest := [.int 1]) (wr := []) (r_V (f := 0) [0] M w V_HookedCityLaw_28 G1451 G1452 (c31_X12_end l D T _ ma0 mn0 mn21 mn19 mn1 mn2 mn3 mn4 mn5 mn6 mn7 mn20 mn8 mn9 mn10 mn11 mn12 mn13 mn14 mn15 mn16 mn17 mn18 (xs (Int32.toNatClampNeg (1 : Int32)))) 0 clX12 rfl rfl (by decide) rfl hl.1 rfl (Nat.le_of_ble_eq_true rfl) dL_law_294 (by decide) (by decide) (by decide) (by decide)) w [0] [] rfl rfl (by decide) (by decide) rfl rfl (fun v _ H locs hp w => ?_)
    try dsimp only at hp
    rcases hp with ⟨c_16, hp⟩ | ⟨c_17, c_18, hp⟩ | ⟨c_19, c_20, hp⟩
    · exfalso
      simp only [fa_lt, fa_le, fa_eq] at c_4 c_5 c_16
      have e0 : (0 : Int32).toInt = 0 := (by decide)
      omega
    · exfalso
      simp only [fa_lt, fa_le, fa_eq] at c_4 c_5 c_17 c_18
      have e0 : (0 : Int32).toInt = 0 := (by decide)
      omega
    · have hp : (1 : Int32) = v := hp
      subst hp
      have w : WD D A s.heap [] H locs := w
      refine lv_icmp_eq (tgt := 1184) hx hb dL_law_297 (by decide) (fun _ => ?_) (fun c => absurd (by decide +kernel) c)
      refine W.widen (k := 400000) (n := 6000000) (by decide) (by decide) ?_
      exact law_exit M hA9 hr hlocks hX hbl w (lv_sub hl [0, 4] rfl)
set_option maxRecDepth 100000 in
set_option maxHeartbeats 4000000 in
theorem law_2 {p : Program} {l : Launch} {e : Env} {s : State} {m : MethodId} {below : List Frame} {meth : Method} {c : Code} {D : va_G} {T : Nat → ClassId} {A : Nat → Prop} {b : Nat} {xs : Nat → Int32} (M : MC p s m #[Value.ref b] c code R_law 7 D T A) (hA9 : ∀ q, A q → s.heap.size ≤ q) (hr : meth.sig.returnType = ret) (hlocks : meth.locks = false) (hX : va_X b 6 xs s s.heap) (hbl : b < s.heap.size) (xa0 xn0 xn2 xn7 xn12 xn18 xn22 xn23 xn26 xn28 xn29 xn30 xn40 xn50 xn55 xn1 xn3 xn4 xn5 xn6 xn41 xn42 xn43 xn44 xn45 xn46 xn47 xn48 xn49 xn51 xn52 xn53 xn54 ma0 mn0 mn21 mn19 mn1 mn2 mn3 mn4 mn5 mn6 mn7 mn20 mn8 mn9 mn10 mn11 mn12 mn13 mn14 mn15 mn16 mn17 mn18 oo : Nat) {H : Heap} {locs : List Loc} {ls : Array Slot} (w : WD D A s.heap [(xa0, .inr (10, [.ref xn0, .ref xn2, .ref xn7, .ref xn12, .ref xn18, .ref xn22, .ref xn23, .ref xn26, .ref xn28, .ref xn29, .ref xn30, .ref xn40, .ref xn50, .ref xn55, .int 0, .int 0, .int 0])), (xn0, .inr (8, [.ref xn1, .int 0, .int 0, .int 0, .int 0, .int 0, .null, .long 0, .int 0, .int 0, .int 0, .int 0])), (xn2, .inr (7, [.ref xn3, .ref xn4, .ref xn5, .ref xn6, .int 0, .int 0, .int 0, .int 0])), (xn40, .inr (9, [.ref xn41, .ref xn42, .ref xn43, .ref xn44, .ref xn45, .ref xn46, .ref xn47, .ref xn48, .ref xn49, .int 0, .int 0, .int 0, .int 0, .int 12, .int 1, .int 0, .int 0, .int 0])), (xn50, .inr (5, [.ref xn51, .ref xn52, .ref xn53, .ref xn54, .int 0, .int 0])), (xn3, .inl (T 0, 9, .inl (fun _ => 0))), (xn4, .inl (T 0, 9, .inl (fun _ => 0))), (xn5, .inl (T 0, 9, .inl (fun _ => 0))), (xn6, .inl (T 0, 3, .inl (fun _ => 0))), (xn44, .inl (T 0, 9, .inl (fun _ => 0))), (xn45, .inl (T 0, 9, .inl (fun _ => 0))), (xn46, .inl (T 0, 9, .inl (fun _ => 0))), (xn47, .inl (T 0, 9, .inl (fun _ => 0))), (ma0, .inr (11, [.int 0, .ref mn0, .int 0, .int 0, .int 0, .int 0, .int 0, .int 0, .int 0, .int 0, .int 0, .int 0, .long 0, .int 0, .ref mn21, .ref mn19, .ref mn1, .ref mn2, .ref mn3, .ref mn4, .ref mn5, .ref mn6, .ref mn7, .ref mn20, .int 0, .ref mn8, .ref mn9, .ref mn10, .ref mn11, .int 0, .int 0, .int 0, .ref mn12, .int (-1), .int (-1), .ref mn13, .ref mn14, .int 0, .ref mn15, .int 0, .int 0, .ref mn16, .ref mn17, .int 0, .int 0, .ref mn18, .int 0, .int 0, .int 0, .int 0])), (mn21, .inl (T 0, 329, .inl cn45)), (mn19, .inl (T 0, 53, .inl cn13)), (mn4, .inl (T 1, 12, .inr (.inl (fun _ => 0)))), (mn5, .inl (T 1, 12, .inr (.inl (fun _ => 0)))), (mn20, .inl (T 2, 3, .inl cn9))] H locs) (hl : lv_has ls 7 [(4, .int 0), (3, .ref oo), (2, .ref ma0), (1, .ref xa0), (0, .ref b)]) : W p l e room_1 s m #[Value.ref b] below meth c H locs 167 5547 (lw_Z below #[Value.ref b] s) (F0 m 302 ls []) := by
  have hx := M.1.1
  have hb := M.1.2.1
  have hbA : ¬ A b := fun h => absurd (hA9 _ h) (Nat.not_le.mpr hbl)
  refine lv_aload_n hx hb dL_law_302 rfl (lv_at hl 3 rfl) ?_
  refine k_I (ce := 167) (sl := 5547) (rest := []) (wr := [(ma0, .inr (11, [.int 0, .ref mn0, .int 0, .int 0, .int 0, .int 0, .int 0, .int 0, .int 0, .int 0, .int 0, .int 0, .long 0, .int 0, .ref mn21, .ref mn19, .ref mn1, .ref mn2, .ref mn3, .ref mn4, .ref mn5, .ref mn6, .ref mn7, .ref mn20, .int 0, .ref mn8, .ref mn9, .ref mn10, .ref mn11, .int 0, .int 0, .int 0, .ref mn12, .int (-1), .int (-1), .ref mn13, .ref mn14, .int 0, .ref mn15, .int 0, .int 0, .ref mn16, .ref mn17, .int 0, .int 0, .ref mn18, .int 0, .int 0, .int 0, .int 0])), (mn21, .inl (T 0, 329, .inl cn45)), (mn19, .inl (T 0, 53, .inl cn13)), (mn4, .inl (T 1, 12, .inr (.inl (fun _ => 0)))), (mn5, .inl (T 1, 12, .inr (.inl (fun _ => 0)))), (mn20, .inl (T 2, 3, .inl cn9))]) (r_V (f := 3) [0, 1, 2, 3, 4, 5, 6, 7, 8, 9, 10, 11, 12] M w V_HookedCityLaw_29 G570 G571 (c42_X11_city l D T _ xa0 xn0 xn2 xn7 xn12 xn18 xn22 xn23 xn26 xn28 xn29 xn30 xn40 xn50 xn55 xn1 xn3 xn4 xn5 xn6 xn41 xn42 xn43 xn44 xn45 xn46 xn47 xn48 xn49 xn51 xn52 xn53 xn54) 0 clX11 rfl rfl (by decide) rfl hl.1 rfl (Nat.le_of_ble_eq_true rfl) dL_law_303 (by decide) (by decide) (by decide) (by decide)) w [0, 1, 2, 3, 4, 5, 6, 7, 8, 9, 10, 11, 12] [13, 14, 15, 16, 17, 18] rfl rfl (by decide) (by decide) rfl rfl (fun v _ H locs hp w => ?_)
  have hp : (0 : Int32) = v := hp
  subst hp
  have w : WD D A s.heap [(ma0, .inr (11, [.int 0, .ref mn0, .int 0, .int 0, .int 0, .int 0, .int 0, .int 0, .int 0, .int 0, .int 0, .int 0, .long 0, .int 0, .ref mn21, .ref mn19, .ref mn1, .ref mn2, .ref mn3, .ref mn4, .ref mn5, .ref mn6, .ref mn7, .ref mn20, .int 0, .ref mn8, .ref mn9, .ref mn10, .ref mn11, .int 0, .int 0, .int 0, .ref mn12, .int (-1), .int (-1), .ref mn13, .ref mn14, .int 0, .ref mn15, .int 0, .int 0, .ref mn16, .ref mn17, .int 0, .int 0, .ref mn18, .int 0, .int 0, .int 0, .int 0])), (mn21, .inl (T 0, 329, .inl cn45)), (mn19, .inl (T 0, 53, .inl cn13)), (mn4, .inl (T 1, 12, .inr (.inl (fun _ => 0)))), (mn5, .inl (T 1, 12, .inr (.inl (fun _ => 0)))), (mn20, .inl (T 2, 3, .inl cn9))] H locs := w
  refine lv_aload_n hx hb dL_law_306 rfl (lv_at hl 2 rfl) ?_
  refine k_I (ce := 167) (sl := 5547) (rest := [.int 0]) (wr := []) (r_V (f := 2) [0, 1, 2, 3, 4, 5] M w V_HookedCityLaw_33 G1620 G1621 (c48_X12_city l D T _ ma0 mn0 mn21 mn19 mn1 mn2 mn3 mn4 mn5 mn6 mn7 mn20 mn8 mn9 mn10 mn11 mn12 mn13 mn14 mn15 mn16 mn17 mn18) 0 clX12 rfl rfl (by decide) rfl hl.1 rfl (Nat.le_of_ble_eq_true rfl) dL_law_307 (by decide) (by decide) (by decide) (by decide)) w [0, 1, 2, 3, 4, 5] [] rfl rfl (by decide) (by decide) rfl rfl (fun v _ H locs hp w => ?_)
  have hp : (0 : Int32) = v := hp
  subst hp
  have w : WD D A s.heap [] H locs := w
  refine lv_icmp_eq (tgt := 1184) hx hb dL_law_310 (by decide) (fun _ => ?_) (fun c => absurd (by decide +kernel) c)
  refine W.widen (k := 400000) (n := 6000000) (by decide) (by decide) ?_
  exact law_exit M hA9 hr hlocks hX hbl w (lv_sub hl [0, 4] rfl)
set_option maxRecDepth 100000 in
set_option maxHeartbeats 4000000 in
theorem law_3 {p : Program} {l : Launch} {e : Env} {s : State} {m : MethodId} {below : List Frame} {meth : Method} {c : Code} {D : va_G} {T : Nat → ClassId} {A : Nat → Prop} {b : Nat} {xs : Nat → Int32} (M : MC p s m #[Value.ref b] c code R_law 7 D T A) (hA9 : ∀ q, A q → s.heap.size ≤ q) (hr : meth.sig.returnType = ret) (hlocks : meth.locks = false) (hX : va_X b 6 xs s s.heap) (hbl : b < s.heap.size) (xa0 xn0 xn2 xn7 xn12 xn18 xn22 xn23 xn26 xn28 xn29 xn30 xn40 xn50 xn55 xn1 ma0 mn0 mn21 mn19 mn1 mn2 mn3 mn4 mn5 mn6 mn7 mn20 mn8 mn9 mn10 mn11 mn12 mn13 mn14 mn15 mn16 mn17 mn18 oo : Nat) {H : Heap} {locs : List Loc} {ls : Array Slot} (w : WD D A s.heap [(xa0, .inr (10, [.ref xn0, .ref xn2, .ref xn7, .ref xn12, .ref xn18, .ref xn22, .ref xn23, .ref xn26, .ref xn28, .ref xn29, .ref xn30, .ref xn40, .ref xn50, .ref xn55, .int 0, .int 0, .int 0])), (xn0, .inr (8, [.ref xn1, .int 0, .int 0, .int 0, .int 0, .int 0, .null, .long 0, .int 0, .int 0, .int 0, .int 0])), (ma0, .inr (11, [.int 0, .ref mn0, .int 0, .int 0, .int 0, .int 0, .int 0, .int 0, .int 0, .int 0, .int 0, .int 0, .long 0, .int 0, .ref mn21, .ref mn19, .ref mn1, .ref mn2, .ref mn3, .ref mn4, .ref mn5, .ref mn6, .ref mn7, .ref mn20, .int 0, .ref mn8, .ref mn9, .ref mn10, .ref mn11, .int 0, .int 0, .int 0, .ref mn12, .int (-1), .int (-1), .ref mn13, .ref mn14, .int 0, .ref mn15, .int 0, .int 0, .ref mn16, .ref mn17, .int 0, .int 0, .ref mn18, .int 0, .int 0, .int 0, .int 0]))] H locs) (hl : lv_has ls 7 [(4, .int 0), (3, .ref oo), (2, .ref ma0), (1, .ref xa0), (0, .ref b)]) : W p l e room_1 s m #[Value.ref b] below meth c H locs 167 5547 (lw_Z below #[Value.ref b] s) (F0 m 315 ls []) := by
  have hx := M.1.1
  have hb := M.1.2.1
  have hbA : ¬ A b := fun h => absurd (hA9 _ h) (Nat.not_le.mpr hbl)
  refine lv_aload_n hx hb dL_law_315 rfl (lv_at hl 3 rfl) ?_
  refine k_I (ce := 167) (sl := 5547) (rest := []) (wr := [(ma0, .inr (11, [.int 0, .ref mn0, .int 0, .int 0, .int 0, .int 0, .int 0, .int 0, .int 0, .int 0, .int 0, .int 0, .long 0, .int 0, .ref mn21, .ref mn19, .ref mn1, .ref mn2, .ref mn3, .ref mn4, .ref mn5, .ref mn6, .ref mn7, .ref mn20, .int 0, .ref mn8, .ref mn9, .ref mn10, .ref mn11, .int 0, .int 0, .int 0, .ref mn12, .int (-1), .int (-1), .ref mn13, .ref mn14, .int 0, .ref mn15, .int 0, .int 0, .ref mn16, .ref mn17, .int 0, .int 0, .ref mn18, .int 0, .int 0, .int 0, .int 0]))]) (r_V (f := 0) [0, 1] M w V_HookedCityLaw_34 G804 G805 (c49_X11_fault l D T _ xa0 xn0 xn2 xn7 xn12 xn18 xn22 xn23 xn26 xn28 xn29 xn30 xn40 xn50 xn55 xn1) 0 clX11 rfl rfl (by decide) rfl hl.1 rfl (Nat.le_of_ble_eq_true rfl) dL_law_316 (by decide) (by decide) (by decide) (by decide)) w [0, 1] [2] rfl rfl (by decide) (by decide) rfl rfl (fun v _ H locs hp w => ?_)
  have hp : (0 : Int32) = v := hp
  subst hp
  have w : WD D A s.heap [(ma0, .inr (11, [.int 0, .ref mn0, .int 0, .int 0, .int 0, .int 0, .int 0, .int 0, .int 0, .int 0, .int 0, .int 0, .long 0, .int 0, .ref mn21, .ref mn19, .ref mn1, .ref mn2, .ref mn3, .ref mn4, .ref mn5, .ref mn6, .ref mn7, .ref mn20, .int 0, .ref mn8, .ref mn9, .ref mn10, .ref mn11, .int 0, .int 0, .int 0, .ref mn12, .int (-1), .int (-1), .ref mn13, .ref mn14, .int 0, .ref mn15, .int 0, .int 0, .ref mn16, .ref mn17, .int 0, .int 0, .ref mn18, .int 0, .int 0, .int 0, .int 0]))] H locs := w
  refine lv_aload_n hx hb dL_law_319 rfl (lv_at hl 2 rfl) ?_
  refine k_I (ce := 167) (sl := 5547) (rest := [.int 0]) (wr := []) (r_V (f := 0) [0] M w V_HookedCityLaw_37 G1731 G1732 (c50_X12_fault l D T _ ma0 mn0 mn21 mn19 mn1 mn2 mn3 mn4 mn5 mn6 mn7 mn20 mn8 mn9 mn10 mn11 mn12 mn13 mn14 mn15 mn16 mn17 mn18) 0 clX12 rfl rfl (by decide) rfl hl.1 rfl (Nat.le_of_ble_eq_true rfl) dL_law_320 (by decide) (by decide) (by decide) (by decide)) w [0] [] rfl rfl (by decide) (by decide) rfl rfl (fun v _ H locs hp w => ?_)
  have hp : (0 : Int32) = v := hp
  subst hp
  have w : WD D A s.heap [] H locs := w
  refine lv_icmp_eq (tgt := 1184) hx hb dL_law_323 (by decide) (fun _ => ?_) (fun c => absurd (by decide +kernel) c)
  refine W.widen (k := 400000) (n := 6000000) (by decide) (by decide) ?_
  exact law_exit M hA9 hr hlocks hX hbl w (lv_sub hl [0, 4] rfl)
set_option maxRecDepth 100000 in
set_option maxHeartbeats 4000000 in
theorem law_4 {p : Program} {l : Launch} {e : Env} {s : State} {m : MethodId} {below : List Frame} {meth : Method} {c : Code} {D : va_G} {T : Nat → ClassId} {A : Nat → Prop} {b : Nat} {xs : Nat → Int32} (M : MC p s m #[Value.ref b] c code R_law 7 D T A) (hA9 : ∀ q, A q → s.heap.size ≤ q) (hr : meth.sig.returnType = ret) (hlocks : meth.locks = false) (hX : va_X b 6 xs s s.heap) (hbl : b < s.heap.size) (hl9 : l.stackTraces = false) (hZT : ZT T s s.heap) (hca : HC s) (xa0 xn0 xn2 xn7 xn12 xn18 xn22 xn23 xn26 xn28 xn29 xn30 xn40 xn50 xn55 xn31 xn32 xn33 xn34 xn35 xn36 xn37 xn38 xn39 ma0 mn0 mn21 mn19 mn1 mn2 mn3 mn4 mn5 mn6 mn7 mn20 mn8 mn9 mn10 mn11 mn12 mn13 mn14 mn15 mn16 mn17 mn18 oo : Nat) {H : Heap} {locs : List Loc} {ls : Array Slot} (w : WD D A s.heap [(xa0, .inr (10, [.ref xn0, .ref xn2, .ref xn7, .ref xn12, .ref xn18, .ref xn22, .ref xn23, .ref xn26, .ref xn28, .ref xn29, .ref xn30, .ref xn40, .ref xn50, .ref xn55, .int 0, .int 0, .int 0])), (xn30, .inr (9, [.ref xn31, .ref xn32, .ref xn33, .ref xn34, .ref xn35, .ref xn36, .ref xn37, .ref xn38, .ref xn39, .int 0, .int 0, .int 0, .int 0, .int 12, .int 1, .int 0, .int 0, .int 0])), (ma0, .inr (11, [.int 0, .ref mn0, .int 0, .int 0, .int 0, .int 0, .int 0, .int 0, .int 0, .int 0, .int 0, .int 0, .long 0, .int 0, .ref mn21, .ref mn19, .ref mn1, .ref mn2, .ref mn3, .ref mn4, .ref mn5, .ref mn6, .ref mn7, .ref mn20, .int 0, .ref mn8, .ref mn9, .ref mn10, .ref mn11, .int 0, .int 0, .int 0, .ref mn12, .int (-1), .int (-1), .ref mn13, .ref mn14, .int 0, .ref mn15, .int 0, .int 0, .ref mn16, .ref mn17, .int 0, .int 0, .ref mn18, .int 0, .int 0, .int 0, .int 0])), (mn21, .inl (T 0, 329, .inl cn45)), (oo, .inl (T 1, 1, .inr (.inl (fun _ => 0))))] H locs) (hl : lv_has ls 7 [(4, .int 0), (3, .ref oo), (2, .ref ma0), (1, .ref xa0), (0, .ref b)]) : W p l e room_1 s m #[Value.ref b] below meth c H locs 167 5547 (lw_Z below #[Value.ref b] s) (F0 m 328 ls []) := by
  have hx := M.1.1
  have hb := M.1.2.1
  have hbA : ¬ A b := fun h => absurd (hA9 _ h) (Nat.not_le.mpr hbl)
  refine lv_aload_n hx hb dL_law_328 rfl (lv_at hl 3 rfl) ?_
  refine lv_aload_n hx hb dL_law_329 rfl (lv_at hl 4 rfl) ?_
  refine lv_iload hx hb dL_law_330 (lv_at hl 0 rfl) ?_
  refine lv_iconst (v := 1) hx hb dL_law_332 (by decide) ?_
  refine r_iadd (v := (1 : Int32)) M (by decide +kernel) dL_law_333 ?_
  refine va_sld hx hb hX hbl hbA w.2.2.1 (vin (by decide +kernel)) dL_law_334 ?_
  refine lv_aload_n hx hb dL_law_335 rfl (lv_at hl 4 rfl) ?_
  refine lv_iload hx hb dL_law_336 (lv_at hl 0 rfl) ?_
  refine lv_iconst (v := 2) hx hb dL_law_338 (by decide) ?_
  refine r_iadd (v := (2 : Int32)) M (by decide +kernel) dL_law_339 ?_
  refine va_sld hx hb hX hbl hbA w.2.2.1 (vin (by decide +kernel)) dL_law_340 ?_
  refine lv_aload_n hx hb dL_law_341 rfl (lv_at hl 1 rfl) ?_
  refine k_I (ce := 168) (sl := 5553) (rest := []) (wr := [(ma0, .inr (11, [.int 0, .ref mn0, .int 0, .int 0, .int 0, .int 0, .int 0, .int 0, .int 0, .int 0, .int 0, .int 0, .long 0, .int 0, .ref mn21, .ref mn19, .ref mn1, .ref mn2, .ref mn3, .ref mn4, .ref mn5, .ref mn6, .ref mn7, .ref mn20, .int 0, .ref mn8, .ref mn9, .ref mn10, .ref mn11, .int 0, .int 0, .int 0, .ref mn12, .int (-1), .int (-1), .ref mn13, .ref mn14, .int 0, .ref mn15, .int 0, .int 0, .ref mn16, .ref mn17, .int 0, .int 0, .ref mn18, .int 0, .int 0, .int 0, .int 0])), (mn21, .inl (T 0, 329, .inl cn45))]) (vx_runSW M.1 (c_lperson l hl9 D T _ xa0 xn0 xn2 xn7 xn12 xn18 xn22 xn23 xn26 xn28 xn29 xn30 xn40 xn50 xn55 xn31 xn32 xn33 xn34 xn35 xn36 xn37 xn38 xn39 (xs (Int32.toNatClampNeg (1 : Int32))) (xs (Int32.toNatClampNeg (2 : Int32))) oo) (vx_cwSW 4 M.1.2.2.2.2 (gw_goodW G1366 G1367 G118 G1368) rfl rfl rfl (by decide +kernel) ⟨by decide, by decide⟩) ⟨pPre.blind, fun U hU hW1 => pPre.mk hU hW1 M.2.1 M.2.2.1 M.2.2.2.1 M.2.2.2.2 w.2.2.1 (wsub w.1 [0, 1, 4] rfl) (w.2.1.sub [0, 1, 4] (by decide) rfl) hZT hca⟩ rfl rfl hl.1 rfl (Nat.le_of_ble_eq_true rfl) dL_law_342 ⟨by decide, by decide⟩) w [0, 1, 4] [2, 3] rfl rfl (by decide) (by decide) rfl rfl (fun v _ H locs hp w => ?_)
  obtain rfl : v = (1 : Int32) := (Eq.symm hp).trans rfl
  have w : WD D A s.heap [(ma0, .inr (11, [.int 0, .ref mn0, .int 0, .int 0, .int 0, .int 0, .int 0, .int 0, .int 0, .int 0, .int 0, .int 0, .long 0, .int 0, .ref mn21, .ref mn19, .ref mn1, .ref mn2, .ref mn3, .ref mn4, .ref mn5, .ref mn6, .ref mn7, .ref mn20, .int 0, .ref mn8, .ref mn9, .ref mn10, .ref mn11, .int 0, .int 0, .int 0, .ref mn12, .int (-1), .int (-1), .ref mn13, .ref mn14, .int 0, .ref mn15, .int 0, .int 0, .ref mn16, .ref mn17, .int 0, .int 0, .ref mn18, .int 0, .int 0, .int 0, .int 0])), (mn21, .inl (T 0, 329, .inl cn45))] H locs := w
  refine lv_istore (lv' := [(5, .int 1), (4, .int 0), (3, .ref oo), (2, .ref ma0), (1, .ref xa0), (0, .ref b)]) hx hb dL_law_345 hl (by decide) rfl (fun ls hl => ?_)
  refine lv_aload_n hx hb dL_law_347 rfl (lv_at hl 3 rfl) ?_
  refine lv_aload_n hx hb dL_law_348 rfl (lv_at hl 5 rfl) ?_
  refine lv_iload hx hb dL_law_349 (lv_at hl 1 rfl) ?_
  refine lv_iconst (v := 1) hx hb dL_law_351 (by decide) ?_
  refine r_iadd (v := (1 : Int32)) M (by decide +kernel) dL_law_352 ?_
  refine va_sld hx hb hX hbl hbA w.2.2.1 (vin (by decide +kernel)) dL_law_353 ?_
  refine lv_aload_n hx hb dL_law_354 rfl (lv_at hl 5 rfl) ?_
  refine lv_iload hx hb dL_law_355 (lv_at hl 1 rfl) ?_
  refine lv_iconst (v := 2) hx hb dL_law_357 (by decide) ?_
  refine r_iadd (v := (2 : Int32)) M (by decide +kernel) dL_law_358 ?_
  refine va_sld hx hb hX hbl hbA w.2.2.1 (vin (by decide +kernel)) dL_law_359 ?_
  refine k_I (ce := 168) (sl := 5553) (rest := []) (wr := []) (r_V (f := 2) [0, 1] M w V_HookedCityLaw_43 G1735 G1736 (c438_X12_person l D T _ ma0 mn0 mn21 mn19 mn1 mn2 mn3 mn4 mn5 mn6 mn7 mn20 mn8 mn9 mn10 mn11 mn12 mn13 mn14 mn15 mn16 mn17 mn18 (xs (Int32.toNatClampNeg (1 : Int32))) (xs (Int32.toNatClampNeg (2 : Int32)))) 0 clX12 rfl rfl (by decide) rfl hl.1 rfl (Nat.le_of_ble_eq_true rfl) dL_law_360 (by decide) (by decide) (by decide) (by decide)) w [0, 1] [] rfl rfl (by decide) (by decide) rfl rfl (fun v _ H locs hp w => ?_)
  have hp : (0 : Int32) = v := hp
  subst hp
  have w : WD D A s.heap [(ma0, .inr (11, [.int 1, .ref mn0, .int 0, .int 0, .int 0, .int 0, .int 0, .int 0, .int 0, .int 0, .int 0, .int 0, .long 0, .int 0, .ref mn21, .ref mn19, .ref mn1, .ref mn2, .ref mn3, .ref mn4, .ref mn5, .ref mn6, .ref mn7, .ref mn20, .int 0, .ref mn8, .ref mn9, .ref mn10, .ref mn11, .int 0, .int 0, .int 0, .ref mn12, .int (-1), .int (-1), .ref mn13, .ref mn14, .int 0, .ref mn15, .int 0, .int 0, .ref mn16, .ref mn17, .int 0, .int 0, .ref mn18, .int 0, .int 0, .int 0, .int 0])), (mn21, .inl (T 0, 329, .inl cn45))] H locs := w
  refine lv_istore (lv' := [(6, .int 0), (5, .int 1), (4, .int 0), (3, .ref oo), (2, .ref ma0), (1, .ref xa0), (0, .ref b)]) hx hb dL_law_363 hl (by decide) rfl (fun ls hl => ?_)
  refine lv_aload_n hx hb dL_law_365 rfl (lv_at hl 4 rfl) ?_
  refine k_I (ce := 168) (sl := 5553) (rest := []) (wr := [(mn21, .inl (T 0, 329, .inl cn45))]) (r_V (f := 0) [0] M w V_HookedCityLaw_44 G1438 G1439 (c439_X12_thrown l D T _ ma0 mn0 mn21 mn19 mn1 mn2 mn3 mn4 mn5 mn6 mn7 mn20 mn8 mn9 mn10 mn11 mn12 mn13 mn14 mn15 mn16 mn17 mn18) 0 clX12 rfl rfl (by decide) rfl hl.1 rfl (Nat.le_of_ble_eq_true rfl) dL_law_366 (by decide) (by decide) (by decide) (by decide)) w [0] [1] rfl rfl (by decide) (by decide) rfl rfl (fun v _ H locs hp w => ?_)
  have hp : (1 : Int32) = v := hp
  subst hp
  have w : WD D A s.heap [(mn21, .inl (T 0, 329, .inl cn45))] H locs := w
  refine lv_iload hx hb dL_law_369 (lv_at hl 1 rfl) ?_
  refine lv_icmp_eq (tgt := 376) hx hb dL_law_371 (by decide) (fun _ => ?_) (fun c => absurd (by decide +kernel) c)
  refine lv_iload hx hb dL_law_376 (lv_at hl 1 rfl) ?_
  refine lv_if_ne (tgt := 393) hx hb dL_law_378 (by decide) (fun _ => ?_) (fun c => absurd c (by decide +kernel))
  refine lv_goto (tgt := 1184) hx hb dL_law_393 (by decide) ?_
  refine W.widen (k := 400000) (n := 6000000) (by decide) (by decide) ?_
  exact law_exit M hA9 hr hlocks hX hbl w (lv_sub hl [2, 6] rfl)
set_option maxRecDepth 100000 in
set_option maxHeartbeats 4000000 in
theorem law_5 {p : Program} {l : Launch} {e : Env} {s : State} {m : MethodId} {below : List Frame} {meth : Method} {c : Code} {D : va_G} {T : Nat → ClassId} {A : Nat → Prop} {b : Nat} {xs : Nat → Int32} (M : MC p s m #[Value.ref b] c code R_law 7 D T A) (hA9 : ∀ q, A q → s.heap.size ≤ q) (hr : meth.sig.returnType = ret) (hlocks : meth.locks = false) (hX : va_X b 6 xs s s.heap) (hbl : b < s.heap.size) (xa0 xn0 xn2 xn7 xn12 xn18 xn22 xn23 xn26 xn28 xn29 xn30 xn40 xn50 xn55 xn31 xn32 xn33 xn34 xn35 xn36 xn37 xn38 xn39 ma0 mn0 mn21 mn19 mn1 mn2 mn3 mn4 mn5 mn6 mn7 mn20 mn8 mn9 mn10 mn11 mn12 mn13 mn14 mn15 mn16 mn17 mn18 oo : Nat) {H : Heap} {locs : List Loc} {ls : Array Slot} (w : WD D A s.heap [(xa0, .inr (10, [.ref xn0, .ref xn2, .ref xn7, .ref xn12, .ref xn18, .ref xn22, .ref xn23, .ref xn26, .ref xn28, .ref xn29, .ref xn30, .ref xn40, .ref xn50, .ref xn55, .int 0, .int 0, .int 0])), (xn30, .inr (9, [.ref xn31, .ref xn32, .ref xn33, .ref xn34, .ref xn35, .ref xn36, .ref xn37, .ref xn38, .ref xn39, .int 0, .int 0, .int 0, .int 0, .int 12, .int 1, .int 0, .int 0, .int 0])), (ma0, .inr (11, [.int 0, .ref mn0, .int 0, .int 0, .int 0, .int 0, .int 0, .int 0, .int 0, .int 0, .int 0, .int 0, .long 0, .int 0, .ref mn21, .ref mn19, .ref mn1, .ref mn2, .ref mn3, .ref mn4, .ref mn5, .ref mn6, .ref mn7, .ref mn20, .int 0, .ref mn8, .ref mn9, .ref mn10, .ref mn11, .int 0, .int 0, .int 0, .ref mn12, .int (-1), .int (-1), .ref mn13, .ref mn14, .int 0, .ref mn15, .int 0, .int 0, .ref mn16, .ref mn17, .int 0, .int 0, .ref mn18, .int 0, .int 0, .int 0, .int 0])), (mn21, .inl (T 0, 329, .inl cn45))] H locs) (hl : lv_has ls 7 [(4, .int 0), (3, .ref oo), (2, .ref ma0), (1, .ref xa0), (0, .ref b)]) : W p l e room_1 s m #[Value.ref b] below meth c H locs 167 5547 (lw_Z below #[Value.ref b] s) (F0 m 396 ls []) := by
  have hx := M.1.1
  have hb := M.1.2.1
  have hbA : ¬ A b := fun h => absurd (hA9 _ h) (Nat.not_le.mpr hbl)
  refine lv_aload_n hx hb dL_law_396 rfl (lv_at hl 3 rfl) ?_
  refine lv_aload_n hx hb dL_law_397 rfl (lv_at hl 4 rfl) ?_
  refine lv_iload hx hb dL_law_398 (lv_at hl 0 rfl) ?_
  refine lv_iconst (v := 1) hx hb dL_law_400 (by decide) ?_
  refine r_iadd (v := (1 : Int32)) M (by decide +kernel) dL_law_401 ?_
  refine va_sld hx hb hX hbl hbA w.2.2.1 (vin (by decide +kernel)) dL_law_402 ?_
  refine lv_aload_n hx hb dL_law_403 rfl (lv_at hl 4 rfl) ?_
  refine lv_iload hx hb dL_law_404 (lv_at hl 0 rfl) ?_
  refine lv_iconst (v := 2) hx hb dL_law_406 (by decide) ?_
  refine r_iadd (v := (2 : Int32)) M (by decide +kernel) dL_law_407 ?_
  refine va_sld hx hb hX hbl hbA w.2.2.1 (vin (by decide +kernel)) dL_law_408 ?_
  refine k_I (ce := 167) (sl := 5547) (rest := []) (wr := [(ma0, .inr (11, [.int 0, .ref mn0, .int 0, .int 0, .int 0, .int 0, .int 0, .int 0, .int 0, .int 0, .int 0, .int 0, .long 0, .int 0, .ref mn21, .ref mn19, .ref mn1, .ref mn2, .ref mn3, .ref mn4, .ref mn5, .ref mn6, .ref mn7, .ref mn20, .int 0, .ref mn8, .ref mn9, .ref mn10, .ref mn11, .int 0, .int 0, .int 0, .ref mn12, .int (-1), .int (-1), .ref mn13, .ref mn14, .int 0, .ref mn15, .int 0, .int 0, .ref mn16, .ref mn17, .int 0, .int 0, .ref mn18, .int 0, .int 0, .int 0, .int 0])), (mn21, .inl (T 0, 329, .inl cn45))]) (r_V (f := 1) [0, 1] M w V_HookedCityLaw_47 G808 G809 (c52_X11_maid l D T _ xa0 xn0 xn2 xn7 xn12 xn18 xn22 xn23 xn26 xn28 xn29 xn30 xn40 xn50 xn55 xn31 xn32 xn33 xn34 xn35 xn36 xn37 xn38 xn39 (xs (Int32.toNatClampNeg (1 : Int32))) (xs (Int32.toNatClampNeg (2 : Int32)))) 0 clX11 rfl rfl (by decide) rfl hl.1 rfl (Nat.le_of_ble_eq_true rfl) dL_law_409 (by decide) (by decide) (by decide) (by decide)) w [0, 1] [2, 3] rfl rfl (by decide) (by decide) rfl rfl (fun v _ H locs hp w => ?_)
  have hp : (-1 : Int32) = v := hp
  subst hp
  have w : WD D A s.heap [(ma0, .inr (11, [.int 0, .ref mn0, .int 0, .int 0, .int 0, .int 0, .int 0, .int 0, .int 0, .int 0, .int 0, .int 0, .long 0, .int 0, .ref mn21, .ref mn19, .ref mn1, .ref mn2, .ref mn3, .ref mn4, .ref mn5, .ref mn6, .ref mn7, .ref mn20, .int 0, .ref mn8, .ref mn9, .ref mn10, .ref mn11, .int 0, .int 0, .int 0, .ref mn12, .int (-1), .int (-1), .ref mn13, .ref mn14, .int 0, .ref mn15, .int 0, .int 0, .ref mn16, .ref mn17, .int 0, .int 0, .ref mn18, .int 0, .int 0, .int 0, .int 0])), (mn21, .inl (T 0, 329, .inl cn45))] H locs := w
  refine lv_aload_n hx hb dL_law_412 rfl (lv_at hl 2 rfl) ?_
  refine lv_aload_n hx hb dL_law_413 rfl (lv_at hl 4 rfl) ?_
  refine lv_iload hx hb dL_law_414 (lv_at hl 0 rfl) ?_
  refine lv_iconst (v := 1) hx hb dL_law_416 (by decide) ?_
  refine r_iadd (v := (1 : Int32)) M (by decide +kernel) dL_law_417 ?_
  refine va_sld hx hb hX hbl hbA w.2.2.1 (vin (by decide +kernel)) dL_law_418 ?_
  refine lv_aload_n hx hb dL_law_419 rfl (lv_at hl 4 rfl) ?_
  refine lv_iload hx hb dL_law_420 (lv_at hl 0 rfl) ?_
  refine lv_iconst (v := 2) hx hb dL_law_422 (by decide) ?_
  refine r_iadd (v := (2 : Int32)) M (by decide +kernel) dL_law_423 ?_
  refine va_sld hx hb hX hbl hbA w.2.2.1 (vin (by decide +kernel)) dL_law_424 ?_
  refine k_I (ce := 167) (sl := 5547) (rest := [.int (-1)]) (wr := []) (r_V (f := 2) [0, 1] M w V_HookedCityLaw_50 G1755 G1756 (c55_X12_maid l D T _ ma0 mn0 mn21 mn19 mn1 mn2 mn3 mn4 mn5 mn6 mn7 mn20 mn8 mn9 mn10 mn11 mn12 mn13 mn14 mn15 mn16 mn17 mn18 (xs (Int32.toNatClampNeg (1 : Int32))) (xs (Int32.toNatClampNeg (2 : Int32)))) 0 clX12 rfl rfl (by decide) rfl hl.1 rfl (Nat.le_of_ble_eq_true rfl) dL_law_425 (by decide) (by decide) (by decide) (by decide)) w [0, 1] [] rfl rfl (by decide) (by decide) rfl rfl (fun v _ H locs hp w => ?_)
  have hp : (-1 : Int32) = v := hp
  subst hp
  have w : WD D A s.heap [] H locs := w
  refine lv_icmp_eq (tgt := 1184) hx hb dL_law_428 (by decide) (fun _ => ?_) (fun c => absurd (by decide +kernel) c)
  refine W.widen (k := 400000) (n := 6000000) (by decide) (by decide) ?_
  exact law_exit M hA9 hr hlocks hX hbl w (lv_sub hl [0, 4] rfl)
set_option maxRecDepth 100000 in
set_option maxHeartbeats 4000000 in
theorem law_6 {p : Program} {l : Launch} {e : Env} {s : State} {m : MethodId} {below : List Frame} {meth : Method} {c : Code} {D : va_G} {T : Nat → ClassId} {A : Nat → Prop} {b : Nat} {xs : Nat → Int32} (M : MC p s m #[Value.ref b] c code R_law 7 D T A) (hA9 : ∀ q, A q → s.heap.size ≤ q) (hr : meth.sig.returnType = ret) (hlocks : meth.locks = false) (hX : va_X b 6 xs s s.heap) (hbl : b < s.heap.size) (xa0 xn0 xn2 xn7 xn12 xn18 xn22 xn23 xn26 xn28 xn29 xn30 xn40 xn50 xn55 xn3 xn4 xn5 xn6 xn31 xn32 xn33 xn34 xn35 xn36 xn37 xn38 xn39 ma0 mn0 mn21 mn19 mn1 mn2 mn3 mn4 mn5 mn6 mn7 mn20 mn8 mn9 mn10 mn11 mn12 mn13 mn14 mn15 mn16 mn17 mn18 oo : Nat) {H : Heap} {locs : List Loc} {ls : Array Slot} (w : WD D A s.heap [(xa0, .inr (10, [.ref xn0, .ref xn2, .ref xn7, .ref xn12, .ref xn18, .ref xn22, .ref xn23, .ref xn26, .ref xn28, .ref xn29, .ref xn30, .ref xn40, .ref xn50, .ref xn55, .int 0, .int 0, .int 0])), (xn2, .inr (7, [.ref xn3, .ref xn4, .ref xn5, .ref xn6, .int 0, .int 0, .int 0, .int 0])), (xn30, .inr (9, [.ref xn31, .ref xn32, .ref xn33, .ref xn34, .ref xn35, .ref xn36, .ref xn37, .ref xn38, .ref xn39, .int 0, .int 0, .int 0, .int 0, .int 12, .int 1, .int 0, .int 0, .int 0])), (ma0, .inr (11, [.int 0, .ref mn0, .int 0, .int 0, .int 0, .int 0, .int 0, .int 0, .int 0, .int 0, .int 0, .int 0, .long 0, .int 0, .ref mn21, .ref mn19, .ref mn1, .ref mn2, .ref mn3, .ref mn4, .ref mn5, .ref mn6, .ref mn7, .ref mn20, .int 0, .ref mn8, .ref mn9, .ref mn10, .ref mn11, .int 0, .int 0, .int 0, .ref mn12, .int (-1), .int (-1), .ref mn13, .ref mn14, .int 0, .ref mn15, .int 0, .int 0, .ref mn16, .ref mn17, .int 0, .int 0, .ref mn18, .int 0, .int 0, .int 0, .int 0])), (mn21, .inl (T 0, 329, .inl cn45))] H locs) (hl : lv_has ls 7 [(4, .int 0), (3, .ref oo), (2, .ref ma0), (1, .ref xa0), (0, .ref b)]) : W p l e room_1 s m #[Value.ref b] below meth c H locs 167 5547 (lw_Z below #[Value.ref b] s) (F0 m 433 ls []) := by
  have hx := M.1.1
  have hb := M.1.2.1
  have hbA : ¬ A b := fun h => absurd (hA9 _ h) (Nat.not_le.mpr hbl)
  refine lv_aload_n hx hb dL_law_433 rfl (lv_at hl 3 rfl) ?_
  refine lv_aload_n hx hb dL_law_434 rfl (lv_at hl 4 rfl) ?_
  refine lv_iload hx hb dL_law_435 (lv_at hl 0 rfl) ?_
  refine lv_iconst (v := 1) hx hb dL_law_437 (by decide) ?_
  refine r_iadd (v := (1 : Int32)) M (by decide +kernel) dL_law_438 ?_
  refine va_sld hx hb hX hbl hbA w.2.2.1 (vin (by decide +kernel)) dL_law_439 ?_
  refine k_I (ce := 167) (sl := 5547) (rest := []) (wr := [(ma0, .inr (11, [.int 0, .ref mn0, .int 0, .int 0, .int 0, .int 0, .int 0, .int 0, .int 0, .int 0, .int 0, .int 0, .long 0, .int 0, .ref mn21, .ref mn19, .ref mn1, .ref mn2, .ref mn3, .ref mn4, .ref mn5, .ref mn6, .ref mn7, .ref mn20, .int 0, .ref mn8, .ref mn9, .ref mn10, .ref mn11, .int 0, .int 0, .int 0, .ref mn12, .int (-1), .int (-1), .ref mn13, .ref mn14, .int 0, .ref mn15, .int 0, .int 0, .ref mn16, .ref mn17, .int 0, .int 0, .ref mn18, .int 0, .int 0, .int 0, .int 0])), (mn21, .inl (T 0, 329, .inl cn45))]) (r_V (f := 1) [0, 1, 2] M w V_HookedCityLaw_51 G816 G817 (c60_X11_now l D T _ xa0 xn0 xn2 xn7 xn12 xn18 xn22 xn23 xn26 xn28 xn29 xn30 xn40 xn50 xn55 xn3 xn4 xn5 xn6 xn31 xn32 xn33 xn34 xn35 xn36 xn37 xn38 xn39 (xs (Int32.toNatClampNeg (1 : Int32)))) 0 clX11 rfl rfl (by decide) rfl hl.1 rfl (Nat.le_of_ble_eq_true rfl) dL_law_440 (by decide) (by decide) (by decide) (by decide)) w [0, 1, 2] [3, 4] rfl rfl (by decide) (by decide) rfl rfl (fun v _ H locs hp w => ?_)
  try dsimp only at hp
  rcases hp with ⟨c_1, hp⟩ | ⟨c_2, c_3, hp⟩ | ⟨c_4, c_5, c_6, hp⟩ | ⟨c_7, c_8, c_9, c_10, hp⟩ | ⟨c_11, c_12, c_13, c_14, c_15, hp⟩ | ⟨c_16, c_17, c_18, c_19, c_20, c_21, hp⟩ | ⟨c_22, c_23, c_24, c_25, c_26, c_27, c_28, hp⟩ | ⟨c_29, c_30, c_31, c_32, c_33, c_34, c_35, c_36, hp⟩ | ⟨c_37, c_38, c_39, c_40, c_41, c_42, c_43, c_44, hp⟩
  · have hp : (0 : Int32) = v := hp
    subst hp
    have w : WD D A s.heap [(ma0, .inr (11, [.int 0, .ref mn0, .int 0, .int 0, .int 0, .int 0, .int 0, .int 0, .int 0, .int 0, .int 0, .int 0, .long 0, .int 0, .ref mn21, .ref mn19, .ref mn1, .ref mn2, .ref mn3, .ref mn4, .ref mn5, .ref mn6, .ref mn7, .ref mn20, .int 0, .ref mn8, .ref mn9, .ref mn10, .ref mn11, .int 0, .int 0, .int 0, .ref mn12, .int (-1), .int (-1), .ref mn13, .ref mn14, .int 0, .ref mn15, .int 0, .int 0, .ref mn16, .ref mn17, .int 0, .int 0, .ref mn18, .int 0, .int 0, .int 0, .int 0])), (mn21, .inl (T 0, 329, .inl cn45))] H locs := w
    refine lv_aload_n hx hb dL_law_443 rfl (lv_at hl 2 rfl) ?_
    refine lv_aload_n hx hb dL_law_444 rfl (lv_at hl 4 rfl) ?_
    refine lv_iload hx hb dL_law_445 (lv_at hl 0 rfl) ?_
    refine lv_iconst (v := 1) hx hb dL_law_447 (by decide) ?_
    refine r_iadd (v := (1 : Int32)) M (by decide +kernel) dL_law_448 ?_
    refine va_sld hx hb hX hbl hbA w.2.2.1 (vin (by decide +kernel)) dL_law_449 ?_
    refine k_I (ce := 167) (sl := 5547) (rest := [.int 0]) (wr := []) (r_V (f := 1) [0, 1] M w V_HookedCityLaw_55 G1763 G1764 (c63_X12_now l D T _ ma0 mn0 mn21 mn19 mn1 mn2 mn3 mn4 mn5 mn6 mn7 mn20 mn8 mn9 mn10 mn11 mn12 mn13 mn14 mn15 mn16 mn17 mn18 (xs (Int32.toNatClampNeg (1 : Int32)))) 0 clX12 rfl rfl (by decide) rfl hl.1 rfl (Nat.le_of_ble_eq_true rfl) dL_law_450 (by decide) (by decide) (by decide) (by decide)) w [0, 1] [] rfl rfl (by decide) (by decide) rfl rfl (fun v _ H locs hp w => ?_)
    try dsimp only at hp
    rcases hp with ⟨c_45, hp⟩ | ⟨c_46, c_47, hp⟩ | ⟨c_48, c_49, c_50, hp⟩ | ⟨c_51, c_52, c_53, c_54, hp⟩ | ⟨c_55, c_56, c_57, c_58, c_59, hp⟩ | ⟨c_60, c_61, c_62, c_63, c_64, c_65, hp⟩ | ⟨c_66, c_67, c_68, c_69, c_70, c_71, c_72, hp⟩ | ⟨c_73, c_74, c_75, c_76, c_77, c_78, c_79, c_80, hp⟩ | ⟨c_81, c_82, c_83, c_84, c_85, c_86, c_87, c_88, hp⟩
    · have hp : (0 : Int32) = v := hp
      subst hp
      have w : WD D A s.heap [] H locs := w
      refine lv_icmp_eq (tgt := 1184) hx hb dL_law_453 (by decide) (fun _ => ?_) (fun c => absurd (by decide +kernel) c)
      refine W.widen (k := 400000) (n := 6000000) (by decide) (by decide) ?_
      exact law_exit M hA9 hr hlocks hX hbl w (lv_sub hl [0, 4] rfl)
    · exfalso
      simp only [fa_lt, fa_le, fa_eq] at c_1 c_46 c_47
      have e0 : (0 : Int32).toInt = 0 := (by decide)
      have e1 : (1 : Int32).toInt = 1 := (by decide)
      omega
    · exfalso
      simp only [fa_lt, fa_le, fa_eq] at c_1 c_48 c_49 c_50
      have e0 : (0 : Int32).toInt = 0 := (by decide)
      have e1 : (1 : Int32).toInt = 1 := (by decide)
      have e2 : (2 : Int32).toInt = 2 := (by decide)
      omega
    · exfalso
      simp only [fa_lt, fa_le, fa_eq] at c_1 c_51 c_52 c_53 c_54
      have e0 : (0 : Int32).toInt = 0 := (by decide)
      have e1 : (1 : Int32).toInt = 1 := (by decide)
      have e2 : (2 : Int32).toInt = 2 := (by decide)
      have e3 : (3 : Int32).toInt = 3 := (by decide)
      omega
    · exfalso
      simp only [fa_lt, fa_le, fa_eq] at c_1 c_55 c_56 c_57 c_58 c_59
      have e0 : (0 : Int32).toInt = 0 := (by decide)
      have e1 : (1 : Int32).toInt = 1 := (by decide)
      have e2 : (2 : Int32).toInt = 2 := (by decide)
      have e3 : (3 : Int32).toInt = 3 := (by decide)
      have e4 : (4 : Int32).toInt = 4 := (by decide)
      omega
    · exfalso
      simp only [fa_lt, fa_le, fa_eq] at c_1 c_60 c_61 c_62 c_63 c_64 c_65
      have e0 : (0 : Int32).toInt = 0 := (by decide)
      have e1 : (1 : Int32).toInt = 1 := (by decide)
      have e2 : (2 : Int32).toInt = 2 := (by decide)
      have e3 : (3 : Int32).toInt = 3 := (by decide)
      have e4 : (4 : Int32).toInt = 4 := (by decide)
      have e5 : (5 : Int32).toInt = 5 := (by decide)
      omega
    · exfalso
      simp only [fa_lt, fa_le, fa_eq] at c_1 c_66 c_67 c_68 c_69 c_70 c_71 c_72
      have e0 : (0 : Int32).toInt = 0 := (by decide)
      have e1 : (1 : Int32).toInt = 1 := (by decide)
      have e2 : (2 : Int32).toInt = 2 := (by decide)
      have e3 : (3 : Int32).toInt = 3 := (by decide)
      have e4 : (4 : Int32).toInt = 4 := (by decide)
      have e5 : (5 : Int32).toInt = 5 := (by decide)
      have e6 : (6 : Int32).toInt = 6 := (by decide)
      omega
    · exfalso
      simp only [fa_lt, fa_le, fa_eq] at c_1 c_73 c_74 c_75 c_76 c_77 c_78 c_79 c_80
      have e0 : (0 : Int32).toInt = 0 := (by decide)
      have e1 : (1 : Int32).toInt = 1 := (by decide)
      have e2 : (2 : Int32).toInt = 2 := (by decide)
      have e3 : (3 : Int32).toInt = 3 := (by decide)
      have e4 : (4 : Int32).toInt = 4 := (by decide)
      have e5 : (5 : Int32).toInt = 5 := (by decide)
      have e6 : (6 : Int32).toInt = 6 := (by decide)
      have e7 : (7 : Int32).toInt = 7 := (by decide)
      omega
    · exfalso
      simp only [fa_lt, fa_le, fa_eq] at c_1 c_81 c_82 c_83 c_84 c_85 c_86 c_87 c_88
      have e0 : (0 : Int32).toInt = 0 := (by decide)
      have e1 : (1 : Int32).toInt = 1 := (by decide)
      have e2 : (2 : Int32).toInt = 2 := (by decide)
      have e3 : (3 : Int32).toInt = 3 := (by decide)
      have e4 : (4 : Int32).toInt = 4 := (by decide)
      have e5 : (5 : Int32).toInt = 5 := (by decide)
      have e6 : (6 : Int32).toInt = 6 := (by decide)
      have e7 : (7 : Int32).toInt = 7 := (by decide)
      omega
  · have hp : (0 : Int32) = v := hp
    subst hp
    have w : WD D A s.heap [(ma0, .inr (11, [.int 0, .ref mn0, .int 0, .int 0, .int 0, .int 0, .int 0, .int 0, .int 0, .int 0, .int 0, .int 0, .long 0, .int 0, .ref mn21, .ref mn19, .ref mn1, .ref mn2, .ref mn3, .ref mn4, .ref mn5, .ref mn6, .ref mn7, .ref mn20, .int 0, .ref mn8, .ref mn9, .ref mn10, .ref mn11, .int 0, .int 0, .int 0, .ref mn12, .int (-1), .int (-1), .ref mn13, .ref mn14, .int 0, .ref mn15, .int 0, .int 0, .ref mn16, .ref mn17, .int 0, .int 0, .ref mn18, .int 0, .int 0, .int 0, .int 0])), (mn21, .inl (T 0, 329, .inl cn45))] H locs := w
    refine lv_aload_n hx hb dL_law_443 rfl (lv_at hl 2 rfl) ?_
    refine lv_aload_n hx hb dL_law_444 rfl (lv_at hl 4 rfl) ?_
    refine lv_iload hx hb dL_law_445 (lv_at hl 0 rfl) ?_
    refine lv_iconst (v := 1) hx hb dL_law_447 (by decide) ?_
    refine r_iadd (v := (1 : Int32)) M (by decide +kernel) dL_law_448 ?_
    refine va_sld hx hb hX hbl hbA w.2.2.1 (vin (by decide +kernel)) dL_law_449 ?_
    refine k_I (ce := 167) (sl := 5547) (rest := [.int 0]) (wr := []) (r_V (f := 1) [0, 1] M w V_HookedCityLaw_55 G1763 G1764 (c63_X12_now l D T _ ma0 mn0 mn21 mn19 mn1 mn2 mn3 mn4 mn5 mn6 mn7 mn20 mn8 mn9 mn10 mn11 mn12 mn13 mn14 mn15 mn16 mn17 mn18 (xs (Int32.toNatClampNeg (1 : Int32)))) 0 clX12 rfl rfl (by decide) rfl hl.1 rfl (Nat.le_of_ble_eq_true rfl) dL_law_450 (by decide) (by decide) (by decide) (by decide)) w [0, 1] [] rfl rfl (by decide) (by decide) rfl rfl (fun v _ H locs hp w => ?_)
    try dsimp only at hp
    rcases hp with ⟨c_89, hp⟩ | ⟨c_90, c_91, hp⟩ | ⟨c_92, c_93, c_94, hp⟩ | ⟨c_95, c_96, c_97, c_98, hp⟩ | ⟨c_99, c_100, c_101, c_102, c_103, hp⟩ | ⟨c_104, c_105, c_106, c_107, c_108, c_109, hp⟩ | ⟨c_110, c_111, c_112, c_113, c_114, c_115, c_116, hp⟩ | ⟨c_117, c_118, c_119, c_120, c_121, c_122, c_123, c_124, hp⟩ | ⟨c_125, c_126, c_127, c_128, c_129, c_130, c_131, c_132, hp⟩
    · exfalso
      simp only [fa_lt, fa_le, fa_eq] at c_2 c_3 c_89
      have e0 : (0 : Int32).toInt = 0 := (by decide)
      have e1 : (1 : Int32).toInt = 1 := (by decide)
      omega
    · have hp : (0 : Int32) = v := hp
      subst hp
      have w : WD D A s.heap [] H locs := w
      refine lv_icmp_eq (tgt := 1184) hx hb dL_law_453 (by decide) (fun _ => ?_) (fun c => absurd (by decide +kernel) c)
      refine W.widen (k := 400000) (n := 6000000) (by decide) (by decide) ?_
      exact law_exit M hA9 hr hlocks hX hbl w (lv_sub hl [0, 4] rfl)
    · exfalso
      simp only [fa_lt, fa_le, fa_eq] at c_2 c_3 c_92 c_93 c_94
      have e0 : (0 : Int32).toInt = 0 := (by decide)
      have e1 : (1 : Int32).toInt = 1 := (by decide)
      have e2 : (2 : Int32).toInt = 2 := (by decide)
      omega
    · exfalso
      simp only [fa_lt, fa_le, fa_eq] at c_2 c_3 c_95 c_96 c_97 c_98
      have e0 : (0 : Int32).toInt = 0 := (by decide)
      have e1 : (1 : Int32).toInt = 1 := (by decide)
      have e2 : (2 : Int32).toInt = 2 := (by decide)
      have e3 : (3 : Int32).toInt = 3 := (by decide)
      omega
    · exfalso
      simp only [fa_lt, fa_le, fa_eq] at c_2 c_3 c_99 c_100 c_101 c_102 c_103
      have e0 : (0 : Int32).toInt = 0 := (by decide)
      have e1 : (1 : Int32).toInt = 1 := (by decide)
      have e2 : (2 : Int32).toInt = 2 := (by decide)
      have e3 : (3 : Int32).toInt = 3 := (by decide)
      have e4 : (4 : Int32).toInt = 4 := (by decide)
      omega
    · exfalso
      simp only [fa_lt, fa_le, fa_eq] at c_2 c_3 c_104 c_105 c_106 c_107 c_108 c_109
      have e0 : (0 : Int32).toInt = 0 := (by decide)
      have e1 : (1 : Int32).toInt = 1 := (by decide)
      have e2 : (2 : Int32).toInt = 2 := (by decide)
      have e3 : (3 : Int32).toInt = 3 := (by decide)
      have e4 : (4 : Int32).toInt = 4 := (by decide)
      have e5 : (5 : Int32).toInt = 5 := (by decide)
      omega
    · exfalso
      simp only [fa_lt, fa_le, fa_eq] at c_2 c_3 c_110 c_111 c_112 c_113 c_114 c_115 c_116
      have e0 : (0 : Int32).toInt = 0 := (by decide)
      have e1 : (1 : Int32).toInt = 1 := (by decide)
      have e2 : (2 : Int32).toInt = 2 := (by decide)
      have e3 : (3 : Int32).toInt = 3 := (by decide)
      have e4 : (4 : Int32).toInt = 4 := (by decide)
      have e5 : (5 : Int32).toInt = 5 := (by decide)
      have e6 : (6 : Int32).toInt = 6 := (by decide)
      omega
    · exfalso
      simp only [fa_lt, fa_le, fa_eq] at c_2 c_3 c_117 c_118 c_119 c_120 c_121 c_122 c_123 c_124
      have e0 : (0 : Int32).toInt = 0 := (by decide)
      have e1 : (1 : Int32).toInt = 1 := (by decide)
      have e2 : (2 : Int32).toInt = 2 := (by decide)
      have e3 : (3 : Int32).toInt = 3 := (by decide)
      have e4 : (4 : Int32).toInt = 4 := (by decide)
      have e5 : (5 : Int32).toInt = 5 := (by decide)
      have e6 : (6 : Int32).toInt = 6 := (by decide)
      have e7 : (7 : Int32).toInt = 7 := (by decide)
      omega
    · exfalso
      simp only [fa_lt, fa_le, fa_eq] at c_2 c_3 c_125 c_126 c_127 c_128 c_129 c_130 c_131 c_132
      have e0 : (0 : Int32).toInt = 0 := (by decide)
      have e1 : (1 : Int32).toInt = 1 := (by decide)
      have e2 : (2 : Int32).toInt = 2 := (by decide)
      have e3 : (3 : Int32).toInt = 3 := (by decide)
      have e4 : (4 : Int32).toInt = 4 := (by decide)
      have e5 : (5 : Int32).toInt = 5 := (by decide)
      have e6 : (6 : Int32).toInt = 6 := (by decide)
      have e7 : (7 : Int32).toInt = 7 := (by decide)
      omega
  · have hp : (0 : Int32) = v := hp
    subst hp
    have w : WD D A s.heap [(ma0, .inr (11, [.int 0, .ref mn0, .int 0, .int 0, .int 0, .int 0, .int 0, .int 0, .int 0, .int 0, .int 0, .int 0, .long 0, .int 0, .ref mn21, .ref mn19, .ref mn1, .ref mn2, .ref mn3, .ref mn4, .ref mn5, .ref mn6, .ref mn7, .ref mn20, .int 0, .ref mn8, .ref mn9, .ref mn10, .ref mn11, .int 0, .int 0, .int 0, .ref mn12, .int (-1), .int (-1), .ref mn13, .ref mn14, .int 0, .ref mn15, .int 0, .int 0, .ref mn16, .ref mn17, .int 0, .int 0, .ref mn18, .int 0, .int 0, .int 0, .int 0])), (mn21, .inl (T 0, 329, .inl cn45))] H locs := w
    refine lv_aload_n hx hb dL_law_443 rfl (lv_at hl 2 rfl) ?_
    refine lv_aload_n hx hb dL_law_444 rfl (lv_at hl 4 rfl) ?_
    refine lv_iload hx hb dL_law_445 (lv_at hl 0 rfl) ?_
    refine lv_iconst (v := 1) hx hb dL_law_447 (by decide) ?_
    refine r_iadd (v := (1 : Int32)) M (by decide +kernel) dL_law_448 ?_
    refine va_sld hx hb hX hbl hbA w.2.2.1 (vin (by decide +kernel)) dL_law_449 ?_
    refine k_I (ce := 167) (sl := 5547) (rest := [.int 0]) (wr := []) (r_V (f := 1) [0, 1] M w V_HookedCityLaw_55 G1763 G1764 (c63_X12_now l D T _ ma0 mn0 mn21 mn19 mn1 mn2 mn3 mn4 mn5 mn6 mn7 mn20 mn8 mn9 mn10 mn11 mn12 mn13 mn14 mn15 mn16 mn17 mn18 (xs (Int32.toNatClampNeg (1 : Int32)))) 0 clX12 rfl rfl (by decide) rfl hl.1 rfl (Nat.le_of_ble_eq_true rfl) dL_law_450 (by decide) (by decide) (by decide) (by decide)) w [0, 1] [] rfl rfl (by decide) (by decide) rfl rfl (fun v _ H locs hp w => ?_)
    try dsimp only at hp
    rcases hp with ⟨c_133, hp⟩ | ⟨c_134, c_135, hp⟩ | ⟨c_136, c_137, c_138, hp⟩ | ⟨c_139, c_140, c_141, c_142, hp⟩ | ⟨c_143, c_144, c_145, c_146, c_147, hp⟩ | ⟨c_148, c_149, c_150, c_151, c_152, c_153, hp⟩ | ⟨c_154, c_155, c_156, c_157, c_158, c_159, c_160, hp⟩ | ⟨c_161, c_162, c_163, c_164, c_165, c_166, c_167, c_168, hp⟩ | ⟨c_169, c_170, c_171, c_172, c_173, c_174, c_175, c_176, hp⟩
    · exfalso
      simp only [fa_lt, fa_le, fa_eq] at c_4 c_5 c_6 c_133
      have e0 : (0 : Int32).toInt = 0 := (by decide)
      have e1 : (1 : Int32).toInt = 1 := (by decide)
      have e2 : (2 : Int32).toInt = 2 := (by decide)
      omega
    · exfalso
      simp only [fa_lt, fa_le, fa_eq] at c_4 c_5 c_6 c_134 c_135
      have e0 : (0 : Int32).toInt = 0 := (by decide)
      have e1 : (1 : Int32).toInt = 1 := (by decide)
      have e2 : (2 : Int32).toInt = 2 := (by decide)
      omega
    · have hp : (0 : Int32) = v := hp
      subst hp
      have w : WD D A s.heap [] H locs := w
      refine lv_icmp_eq (tgt := 1184) hx hb dL_law_453 (by decide) (fun _ => ?_) (fun c => absurd (by decide +kernel) c)
      refine W.widen (k := 400000) (n := 6000000) (by decide) (by decide) ?_
      exact law_exit M hA9 hr hlocks hX hbl w (lv_sub hl [0, 4] rfl)
    · exfalso
      simp only [fa_lt, fa_le, fa_eq] at c_4 c_5 c_6 c_139 c_140 c_141 c_142
      have e0 : (0 : Int32).toInt = 0 := (by decide)
      have e1 : (1 : Int32).toInt = 1 := (by decide)
      have e2 : (2 : Int32).toInt = 2 := (by decide)
      have e3 : (3 : Int32).toInt = 3 := (by decide)
      omega
    · exfalso
      simp only [fa_lt, fa_le, fa_eq] at c_4 c_5 c_6 c_143 c_144 c_145 c_146 c_147
      have e0 : (0 : Int32).toInt = 0 := (by decide)
      have e1 : (1 : Int32).toInt = 1 := (by decide)
      have e2 : (2 : Int32).toInt = 2 := (by decide)
      have e3 : (3 : Int32).toInt = 3 := (by decide)
      have e4 : (4 : Int32).toInt = 4 := (by decide)
      omega
    · exfalso
      simp only [fa_lt, fa_le, fa_eq] at c_4 c_5 c_6 c_148 c_149 c_150 c_151 c_152 c_153
      have e0 : (0 : Int32).toInt = 0 := (by decide)
      have e1 : (1 : Int32).toInt = 1 := (by decide)
      have e2 : (2 : Int32).toInt = 2 := (by decide)
      have e3 : (3 : Int32).toInt = 3 := (by decide)
      have e4 : (4 : Int32).toInt = 4 := (by decide)
      have e5 : (5 : Int32).toInt = 5 := (by decide)
      omega
    · exfalso
      simp only [fa_lt, fa_le, fa_eq] at c_4 c_5 c_6 c_154 c_155 c_156 c_157 c_158 c_159 c_160
      have e0 : (0 : Int32).toInt = 0 := (by decide)
      have e1 : (1 : Int32).toInt = 1 := (by decide)
      have e2 : (2 : Int32).toInt = 2 := (by decide)
      have e3 : (3 : Int32).toInt = 3 := (by decide)
      have e4 : (4 : Int32).toInt = 4 := (by decide)
      have e5 : (5 : Int32).toInt = 5 := (by decide)
      have e6 : (6 : Int32).toInt = 6 := (by decide)
      omega
    · exfalso
      simp only [fa_lt, fa_le, fa_eq] at c_4 c_5 c_6 c_161 c_162 c_163 c_164 c_165 c_166 c_167 c_168
      have e0 : (0 : Int32).toInt = 0 := (by decide)
      have e1 : (1 : Int32).toInt = 1 := (by decide)
      have e2 : (2 : Int32).toInt = 2 := (by decide)
      have e3 : (3 : Int32).toInt = 3 := (by decide)
      have e4 : (4 : Int32).toInt = 4 := (by decide)
      have e5 : (5 : Int32).toInt = 5 := (by decide)
      have e6 : (6 : Int32).toInt = 6 := (by decide)
      have e7 : (7 : Int32).toInt = 7 := (by decide)
      omega
    · exfalso
      simp only [fa_lt, fa_le, fa_eq] at c_4 c_5 c_6 c_169 c_170 c_171 c_172 c_173 c_174 c_175 c_176
      have e0 : (0 : Int32).toInt = 0 := (by decide)
      have e1 : (1 : Int32).toInt = 1 := (by decide)
      have e2 : (2 : Int32).toInt = 2 := (by decide)
      have e3 : (3 : Int32).toInt = 3 := (by decide)
      have e4 : (4 : Int32).toInt = 4 := (by decide)
      have e5 : (5 : Int32).toInt = 5 := (by decide)
      have e6 : (6 : Int32).toInt = 6 := (by decide)
      have e7 : (7 : Int32).toInt = 7 := (by decide)
      omega
  · have hp : (0 : Int32) = v := hp
    subst hp
    have w : WD D A s.heap [(ma0, .inr (11, [.int 0, .ref mn0, .int 0, .int 0, .int 0, .int 0, .int 0, .int 0, .int 0, .int 0, .int 0, .int 0, .long 0, .int 0, .ref mn21, .ref mn19, .ref mn1, .ref mn2, .ref mn3, .ref mn4, .ref mn5, .ref mn6, .ref mn7, .ref mn20, .int 0, .ref mn8, .ref mn9, .ref mn10, .ref mn11, .int 0, .int 0, .int 0, .ref mn12, .int (-1), .int (-1), .ref mn13, .ref mn14, .int 0, .ref mn15, .int 0, .int 0, .ref mn16, .ref mn17, .int 0, .int 0, .ref mn18, .int 0, .int 0, .int 0, .int 0])), (mn21, .inl (T 0, 329, .inl cn45))] H locs := w
    refine lv_aload_n hx hb dL_law_443 rfl (lv_at hl 2 rfl) ?_
    refine lv_aload_n hx hb dL_law_444 rfl (lv_at hl 4 rfl) ?_
    refine lv_iload hx hb dL_law_445 (lv_at hl 0 rfl) ?_
    refine lv_iconst (v := 1) hx hb dL_law_447 (by decide) ?_
    refine r_iadd (v := (1 : Int32)) M (by decide +kernel) dL_law_448 ?_
    refine va_sld hx hb hX hbl hbA w.2.2.1 (vin (by decide +kernel)) dL_law_449 ?_
    refine k_I (ce := 167) (sl := 5547) (rest := [.int 0]) (wr := []) (r_V (f := 1) [0, 1] M w V_HookedCityLaw_55 G1763 G1764 (c63_X12_now l D T _ ma0 mn0 mn21 mn19 mn1 mn2 mn3 mn4 mn5 mn6 mn7 mn20 mn8 mn9 mn10 mn11 mn12 mn13 mn14 mn15 mn16 mn17 mn18 (xs (Int32.toNatClampNeg (1 : Int32)))) 0 clX12 rfl rfl (by decide) rfl hl.1 rfl (Nat.le_of_ble_eq_true rfl) dL_law_450 (by decide) (by decide) (by decide) (by decide)) w [0, 1] [] rfl rfl (by decide) (by decide) rfl rfl (fun v _ H locs hp w => ?_)
    try dsimp only at hp
    rcases hp with ⟨c_177, hp⟩ | ⟨c_178, c_179, hp⟩ | ⟨c_180, c_181, c_182, hp⟩ | ⟨c_183, c_184, c_185, c_186, hp⟩ | ⟨c_187, c_188, c_189, c_190, c_191, hp⟩ | ⟨c_192, c_193, c_194, c_195, c_196, c_197, hp⟩ | ⟨c_198, c_199, c_200, c_201, c_202, c_203, c_204, hp⟩ | ⟨c_205, c_206, c_207, c_208, c_209, c_210, c_211, c_212, hp⟩ | ⟨c_213, c_214, c_215, c_216, c_217, c_218, c_219, c_220, hp⟩
    · exfalso
      simp only [fa_lt, fa_le, fa_eq] at c_7 c_8 c_9 c_10 c_177
      have e0 : (0 : Int32).toInt = 0 := (by decide)
      have e1 : (1 : Int32).toInt = 1 := (by decide)
      have e2 : (2 : Int32).toInt = 2 := (by decide)
      have e3 : (3 : Int32).toInt = 3 := (by decide)
      omega
    · exfalso
      simp only [fa_lt, fa_le, fa_eq] at c_7 c_8 c_9 c_10 c_178 c_179
      have e0 : (0 : Int32).toInt = 0 := (by decide)
      have e1 : (1 : Int32).toInt = 1 := (by decide)
      have e2 : (2 : Int32).toInt = 2 := (by decide)
      have e3 : (3 : Int32).toInt = 3 := (by decide)
      omega
    · exfalso
      simp only [fa_lt, fa_le, fa_eq] at c_7 c_8 c_9 c_10 c_180 c_181 c_182
      have e0 : (0 : Int32).toInt = 0 := (by decide)
      have e1 : (1 : Int32).toInt = 1 := (by decide)
      have e2 : (2 : Int32).toInt = 2 := (by decide)
      have e3 : (3 : Int32).toInt = 3 := (by decide)
      omega
    · have hp : (0 : Int32) = v := hp
      subst hp
      have w : WD D A s.heap [] H locs := w
      refine lv_icmp_eq (tgt := 1184) hx hb dL_law_453 (by decide) (fun _ => ?_) (fun c => absurd (by decide +kernel) c)
      refine W.widen (k := 400000) (n := 6000000) (by decide) (by decide) ?_
      exact law_exit M hA9 hr hlocks hX hbl w (lv_sub hl [0, 4] rfl)
    · exfalso
      simp only [fa_lt, fa_le, fa_eq] at c_7 c_8 c_9 c_10 c_187 c_188 c_189 c_190 c_191
      have e0 : (0 : Int32).toInt = 0 := (by decide)
      have e1 : (1 : Int32).toInt = 1 := (by decide)
      have e2 : (2 : Int32).toInt = 2 := (by decide)
      have e3 : (3 : Int32).toInt = 3 := (by decide)
      have e4 : (4 : Int32).toInt = 4 := (by decide)
      omega
    · exfalso
      simp only [fa_lt, fa_le, fa_eq] at c_7 c_8 c_9 c_10 c_192 c_193 c_194 c_195 c_196 c_197
      have e0 : (0 : Int32).toInt = 0 := (by decide)
      have e1 : (1 : Int32).toInt = 1 := (by decide)
      have e2 : (2 : Int32).toInt = 2 := (by decide)
      have e3 : (3 : Int32).toInt = 3 := (by decide)
      have e4 : (4 : Int32).toInt = 4 := (by decide)
      have e5 : (5 : Int32).toInt = 5 := (by decide)
      omega
    · exfalso
      simp only [fa_lt, fa_le, fa_eq] at c_7 c_8 c_9 c_10 c_198 c_199 c_200 c_201 c_202 c_203 c_204
      have e0 : (0 : Int32).toInt = 0 := (by decide)
      have e1 : (1 : Int32).toInt = 1 := (by decide)
      have e2 : (2 : Int32).toInt = 2 := (by decide)
      have e3 : (3 : Int32).toInt = 3 := (by decide)
      have e4 : (4 : Int32).toInt = 4 := (by decide)
      have e5 : (5 : Int32).toInt = 5 := (by decide)
      have e6 : (6 : Int32).toInt = 6 := (by decide)
      omega
    · exfalso
      simp only [fa_lt, fa_le, fa_eq] at c_7 c_8 c_9 c_10 c_205 c_206 c_207 c_208 c_209 c_210 c_211 c_212
      have e0 : (0 : Int32).toInt = 0 := (by decide)
      have e1 : (1 : Int32).toInt = 1 := (by decide)
      have e2 : (2 : Int32).toInt = 2 := (by decide)
      have e3 : (3 : Int32).toInt = 3 := (by decide)
      have e4 : (4 : Int32).toInt = 4 := (by decide)
      have e5 : (5 : Int32).toInt = 5 := (by decide)
      have e6 : (6 : Int32).toInt = 6 := (by decide)
      have e7 : (7 : Int32).toInt = 7 := (by decide)
      omega
    · exfalso
      simp only [fa_lt, fa_le, fa_eq] at c_7 c_8 c_9 c_10 c_213 c_214 c_215 c_216 c_217 c_218 c_219 c_220
      have e0 : (0 : Int32).toInt = 0 := (by decide)
      have e1 : (1 : Int32).toInt = 1 := (by decide)
      have e2 : (2 : Int32).toInt = 2 := (by decide)
      have e3 : (3 : Int32).toInt = 3 := (by decide)
      have e4 : (4 : Int32).toInt = 4 := (by decide)
      have e5 : (5 : Int32).toInt = 5 := (by decide)
      have e6 : (6 : Int32).toInt = 6 := (by decide)
      have e7 : (7 : Int32).toInt = 7 := (by decide)
      omega
  · have hp : (0 : Int32) = v := hp
    subst hp
    have w : WD D A s.heap [(ma0, .inr (11, [.int 0, .ref mn0, .int 0, .int 0, .int 0, .int 0, .int 0, .int 0, .int 0, .int 0, .int 0, .int 0, .long 0, .int 0, .ref mn21, .ref mn19, .ref mn1, .ref mn2, .ref mn3, .ref mn4, .ref mn5, .ref mn6, .ref mn7, .ref mn20, .int 0, .ref mn8, .ref mn9, .ref mn10, .ref mn11, .int 0, .int 0, .int 0, .ref mn12, .int (-1), .int (-1), .ref mn13, .ref mn14, .int 0, .ref mn15, .int 0, .int 0, .ref mn16, .ref mn17, .int 0, .int 0, .ref mn18, .int 0, .int 0, .int 0, .int 0])), (mn21, .inl (T 0, 329, .inl cn45))] H locs := w
    refine lv_aload_n hx hb dL_law_443 rfl (lv_at hl 2 rfl) ?_
    refine lv_aload_n hx hb dL_law_444 rfl (lv_at hl 4 rfl) ?_
    refine lv_iload hx hb dL_law_445 (lv_at hl 0 rfl) ?_
    refine lv_iconst (v := 1) hx hb dL_law_447 (by decide) ?_
    refine r_iadd (v := (1 : Int32)) M (by decide +kernel) dL_law_448 ?_
    refine va_sld hx hb hX hbl hbA w.2.2.1 (vin (by decide +kernel)) dL_law_449 ?_
    refine k_I (ce := 167) (sl := 5547) (rest := [.int 0]) (wr := []) (r_V (f := 1) [0, 1] M w V_HookedCityLaw_55 G1763 G1764 (c63_X12_now l D T _ ma0 mn0 mn21 mn19 mn1 mn2 mn3 mn4 mn5 mn6 mn7 mn20 mn8 mn9 mn10 mn11 mn12 mn13 mn14 mn15 mn16 mn17 mn18 (xs (Int32.toNatClampNeg (1 : Int32)))) 0 clX12 rfl rfl (by decide) rfl hl.1 rfl (Nat.le_of_ble_eq_true rfl) dL_law_450 (by decide) (by decide) (by decide) (by decide)) w [0, 1] [] rfl rfl (by decide) (by decide) rfl rfl (fun v _ H locs hp w => ?_)
    try dsimp only at hp
    rcases hp with ⟨c_221, hp⟩ | ⟨c_222, c_223, hp⟩ | ⟨c_224, c_225, c_226, hp⟩ | ⟨c_227, c_228, c_229, c_230, hp⟩ | ⟨c_231, c_232, c_233, c_234, c_235, hp⟩ | ⟨c_236, c_237, c_238, c_239, c_240, c_241, hp⟩ | ⟨c_242, c_243, c_244, c_245, c_246, c_247, c_248, hp⟩ | ⟨c_249, c_250, c_251, c_252, c_253, c_254, c_255, c_256, hp⟩ | ⟨c_257, c_258, c_259, c_260, c_261, c_262, c_263, c_264, hp⟩
    · exfalso
      simp only [fa_lt, fa_le, fa_eq] at c_11 c_12 c_13 c_14 c_15 c_221
      have e0 : (0 : Int32).toInt = 0 := (by decide)
      have e1 : (1 : Int32).toInt = 1 := (by decide)
      have e2 : (2 : Int32).toInt = 2 := (by decide)
      have e3 : (3 : Int32).toInt = 3 := (by decide)
      have e4 : (4 : Int32).toInt = 4 := (by decide)
      omega
    · exfalso
      simp only [fa_lt, fa_le, fa_eq] at c_11 c_12 c_13 c_14 c_15 c_222 c_223
      have e0 : (0 : Int32).toInt = 0 := (by decide)
      have e1 : (1 : Int32).toInt = 1 := (by decide)
      have e2 : (2 : Int32).toInt = 2 := (by decide)
      have e3 : (3 : Int32).toInt = 3 := (by decide)
      have e4 : (4 : Int32).toInt = 4 := (by decide)
      omega
    · exfalso
      simp only [fa_lt, fa_le, fa_eq] at c_11 c_12 c_13 c_14 c_15 c_224 c_225 c_226
      have e0 : (0 : Int32).toInt = 0 := (by decide)
      have e1 : (1 : Int32).toInt = 1 := (by decide)
      have e2 : (2 : Int32).toInt = 2 := (by decide)
      have e3 : (3 : Int32).toInt = 3 := (by decide)
      have e4 : (4 : Int32).toInt = 4 := (by decide)
      omega
    · exfalso
      simp only [fa_lt, fa_le, fa_eq] at c_11 c_12 c_13 c_14 c_15 c_227 c_228 c_229 c_230
      have e0 : (0 : Int32).toInt = 0 := (by decide)
      have e1 : (1 : Int32).toInt = 1 := (by decide)
      have e2 : (2 : Int32).toInt = 2 := (by decide)
      have e3 : (3 : Int32).toInt = 3 := (by decide)
      have e4 : (4 : Int32).toInt = 4 := (by decide)
      omega
    · have hp : (0 : Int32) = v := hp
      subst hp
      have w : WD D A s.heap [] H locs := w
      refine lv_icmp_eq (tgt := 1184) hx hb dL_law_453 (by decide) (fun _ => ?_) (fun c => absurd (by decide +kernel) c)
      refine W.widen (k := 400000) (n := 6000000) (by decide) (by decide) ?_
      exact law_exit M hA9 hr hlocks hX hbl w (lv_sub hl [0, 4] rfl)
    · exfalso
      simp only [fa_lt, fa_le, fa_eq] at c_11 c_12 c_13 c_14 c_15 c_236 c_237 c_238 c_239 c_240 c_241
      have e0 : (0 : Int32).toInt = 0 := (by decide)
      have e1 : (1 : Int32).toInt = 1 := (by decide)
      have e2 : (2 : Int32).toInt = 2 := (by decide)
      have e3 : (3 : Int32).toInt = 3 := (by decide)
      have e4 : (4 : Int32).toInt = 4 := (by decide)
      have e5 : (5 : Int32).toInt = 5 := (by decide)
      omega
    · exfalso
      simp only [fa_lt, fa_le, fa_eq] at c_11 c_12 c_13 c_14 c_15 c_242 c_243 c_244 c_245 c_246 c_247 c_248
      have e0 : (0 : Int32).toInt = 0 := (by decide)
      have e1 : (1 : Int32).toInt = 1 := (by decide)
      have e2 : (2 : Int32).toInt = 2 := (by decide)
      have e3 : (3 : Int32).toInt = 3 := (by decide)
      have e4 : (4 : Int32).toInt = 4 := (by decide)
      have e5 : (5 : Int32).toInt = 5 := (by decide)
      have e6 : (6 : Int32).toInt = 6 := (by decide)
      omega
    · exfalso
      simp only [fa_lt, fa_le, fa_eq] at c_11 c_12 c_13 c_14 c_15 c_249 c_250 c_251 c_252 c_253 c_254 c_255 c_256
      have e0 : (0 : Int32).toInt = 0 := (by decide)
      have e1 : (1 : Int32).toInt = 1 := (by decide)
      have e2 : (2 : Int32).toInt = 2 := (by decide)
      have e3 : (3 : Int32).toInt = 3 := (by decide)
      have e4 : (4 : Int32).toInt = 4 := (by decide)
      have e5 : (5 : Int32).toInt = 5 := (by decide)
      have e6 : (6 : Int32).toInt = 6 := (by decide)
      have e7 : (7 : Int32).toInt = 7 := (by decide)
      omega
    · exfalso
      simp only [fa_lt, fa_le, fa_eq] at c_11 c_12 c_13 c_14 c_15 c_257 c_258 c_259 c_260 c_261 c_262 c_263 c_264
      have e0 : (0 : Int32).toInt = 0 := (by decide)
      have e1 : (1 : Int32).toInt = 1 := (by decide)
      have e2 : (2 : Int32).toInt = 2 := (by decide)
      have e3 : (3 : Int32).toInt = 3 := (by decide)
      have e4 : (4 : Int32).toInt = 4 := (by decide)
      have e5 : (5 : Int32).toInt = 5 := (by decide)
      have e6 : (6 : Int32).toInt = 6 := (by decide)
      have e7 : (7 : Int32).toInt = 7 := (by decide)
      omega
  · have hp : (0 : Int32) = v := hp
    subst hp
    have w : WD D A s.heap [(ma0, .inr (11, [.int 0, .ref mn0, .int 0, .int 0, .int 0, .int 0, .int 0, .int 0, .int 0, .int 0, .int 0, .int 0, .long 0, .int 0, .ref mn21, .ref mn19, .ref mn1, .ref mn2, .ref mn3, .ref mn4, .ref mn5, .ref mn6, .ref mn7, .ref mn20, .int 0, .ref mn8, .ref mn9, .ref mn10, .ref mn11, .int 0, .int 0, .int 0, .ref mn12, .int (-1), .int (-1), .ref mn13, .ref mn14, .int 0, .ref mn15, .int 0, .int 0, .ref mn16, .ref mn17, .int 0, .int 0, .ref mn18, .int 0, .int 0, .int 0, .int 0])), (mn21, .inl (T 0, 329, .inl cn45))] H locs := w
    refine lv_aload_n hx hb dL_law_443 rfl (lv_at hl 2 rfl) ?_
    refine lv_aload_n hx hb dL_law_444 rfl (lv_at hl 4 rfl) ?_
    refine lv_iload hx hb dL_law_445 (lv_at hl 0 rfl) ?_
    refine lv_iconst (v := 1) hx hb dL_law_447 (by decide) ?_
    refine r_iadd (v := (1 : Int32)) M (by decide +kernel) dL_law_448 ?_
    refine va_sld hx hb hX hbl hbA w.2.2.1 (vin (by decide +kernel)) dL_law_449 ?_
    refine k_I (ce := 167) (sl := 5547) (rest := [.int 0]) (wr := []) (r_V (f := 1) [0, 1] M w V_HookedCityLaw_55 G1763 G1764 (c63_X12_now l D T _ ma0 mn0 mn21 mn19 mn1 mn2 mn3 mn4 mn5 mn6 mn7 mn20 mn8 mn9 mn10 mn11 mn12 mn13 mn14 mn15 mn16 mn17 mn18 (xs (Int32.toNatClampNeg (1 : Int32)))) 0 clX12 rfl rfl (by decide) rfl hl.1 rfl (Nat.le_of_ble_eq_true rfl) dL_law_450 (by decide) (by decide) (by decide) (by decide)) w [0, 1] [] rfl rfl (by decide) (by decide) rfl rfl (fun v _ H locs hp w => ?_)
    try dsimp only at hp
    rcases hp with ⟨c_265, hp⟩ | ⟨c_266, c_267, hp⟩ | ⟨c_268, c_269, c_270, hp⟩ | ⟨c_271, c_272, c_273, c_274, hp⟩ | ⟨c_275, c_276, c_277, c_278, c_279, hp⟩ | ⟨c_280, c_281, c_282, c_283, c_284, c_285, hp⟩ | ⟨c_286, c_287, c_288, c_289, c_290, c_291, c_292, hp⟩ | ⟨c_293, c_294, c_295, c_296, c_297, c_298, c_299, c_300, hp⟩ | ⟨c_301, c_302, c_303, c_304, c_305, c_306, c_307, c_308, hp⟩
    · exfalso
      simp only [fa_lt, fa_le, fa_eq] at c_16 c_17 c_18 c_19 c_20 c_21 c_265
      have e0 : (0 : Int32).toInt = 0 := (by decide)
      have e1 : (1 : Int32).toInt = 1 := (by decide)
      have e2 : (2 : Int32).toInt = 2 := (by decide)
      have e3 : (3 : Int32).toInt = 3 := (by decide)
      have e4 : (4 : Int32).toInt = 4 := (by decide)
      have e5 : (5 : Int32).toInt = 5 := (by decide)
      omega
    · exfalso
      simp only [fa_lt, fa_le, fa_eq] at c_16 c_17 c_18 c_19 c_20 c_21 c_266 c_267
      have e0 : (0 : Int32).toInt = 0 := (by decide)
      have e1 : (1 : Int32).toInt = 1 := (by decide)
      have e2 : (2 : Int32).toInt = 2 := (by decide)
      have e3 : (3 : Int32).toInt = 3 := (by decide)
      have e4 : (4 : Int32).toInt = 4 := (by decide)
      have e5 : (5 : Int32).toInt = 5 := (by decide)
      omega
    · exfalso
      simp only [fa_lt, fa_le, fa_eq] at c_16 c_17 c_18 c_19 c_20 c_21 c_268 c_269 c_270
      have e0 : (0 : Int32).toInt = 0 := (by decide)
      have e1 : (1 : Int32).toInt = 1 := (by decide)
      have e2 : (2 : Int32).toInt = 2 := (by decide)
      have e3 : (3 : Int32).toInt = 3 := (by decide)
      have e4 : (4 : Int32).toInt = 4 := (by decide)
      have e5 : (5 : Int32).toInt = 5 := (by decide)
      omega
    · exfalso
      simp only [fa_lt, fa_le, fa_eq] at c_16 c_17 c_18 c_19 c_20 c_21 c_271 c_272 c_273 c_274
      have e0 : (0 : Int32).toInt = 0 := (by decide)
      have e1 : (1 : Int32).toInt = 1 := (by decide)
      have e2 : (2 : Int32).toInt = 2 := (by decide)
      have e3 : (3 : Int32).toInt = 3 := (by decide)
      have e4 : (4 : Int32).toInt = 4 := (by decide)
      have e5 : (5 : Int32).toInt = 5 := (by decide)
      omega
    · exfalso
      simp only [fa_lt, fa_le, fa_eq] at c_16 c_17 c_18 c_19 c_20 c_21 c_275 c_276 c_277 c_278 c_279
      have e0 : (0 : Int32).toInt = 0 := (by decide)
      have e1 : (1 : Int32).toInt = 1 := (by decide)
      have e2 : (2 : Int32).toInt = 2 := (by decide)
      have e3 : (3 : Int32).toInt = 3 := (by decide)
      have e4 : (4 : Int32).toInt = 4 := (by decide)
      have e5 : (5 : Int32).toInt = 5 := (by decide)
      omega
    · have hp : (0 : Int32) = v := hp
      subst hp
      have w : WD D A s.heap [] H locs := w
      refine lv_icmp_eq (tgt := 1184) hx hb dL_law_453 (by decide) (fun _ => ?_) (fun c => absurd (by decide +kernel) c)
      refine W.widen (k := 400000) (n := 6000000) (by decide) (by decide) ?_
      exact law_exit M hA9 hr hlocks hX hbl w (lv_sub hl [0, 4] rfl)
    · exfalso
      simp only [fa_lt, fa_le, fa_eq] at c_16 c_17 c_18 c_19 c_20 c_21 c_286 c_287 c_288 c_289 c_290 c_291 c_292
      have e0 : (0 : Int32).toInt = 0 := (by decide)
      have e1 : (1 : Int32).toInt = 1 := (by decide)
      have e2 : (2 : Int32).toInt = 2 := (by decide)
      have e3 : (3 : Int32).toInt = 3 := (by decide)
      have e4 : (4 : Int32).toInt = 4 := (by decide)
      have e5 : (5 : Int32).toInt = 5 := (by decide)
      have e6 : (6 : Int32).toInt = 6 := (by decide)
      omega
    · exfalso
      simp only [fa_lt, fa_le, fa_eq] at c_16 c_17 c_18 c_19 c_20 c_21 c_293 c_294 c_295 c_296 c_297 c_298 c_299 c_300
      have e0 : (0 : Int32).toInt = 0 := (by decide)
      have e1 : (1 : Int32).toInt = 1 := (by decide)
      have e2 : (2 : Int32).toInt = 2 := (by decide)
      have e3 : (3 : Int32).toInt = 3 := (by decide)
      have e4 : (4 : Int32).toInt = 4 := (by decide)
      have e5 : (5 : Int32).toInt = 5 := (by decide)
      have e6 : (6 : Int32).toInt = 6 := (by decide)
      have e7 : (7 : Int32).toInt = 7 := (by decide)
      omega
    · exfalso
      simp only [fa_lt, fa_le, fa_eq] at c_16 c_17 c_18 c_19 c_20 c_21 c_301 c_302 c_303 c_304 c_305 c_306 c_307 c_308
      have e0 : (0 : Int32).toInt = 0 := (by decide)
      have e1 : (1 : Int32).toInt = 1 := (by decide)
      have e2 : (2 : Int32).toInt = 2 := (by decide)
      have e3 : (3 : Int32).toInt = 3 := (by decide)
      have e4 : (4 : Int32).toInt = 4 := (by decide)
      have e5 : (5 : Int32).toInt = 5 := (by decide)
      have e6 : (6 : Int32).toInt = 6 := (by decide)
      have e7 : (7 : Int32).toInt = 7 := (by decide)
      omega
  · have hp : (0 : Int32) = v := hp
    subst hp
    have w : WD D A s.heap [(ma0, .inr (11, [.int 0, .ref mn0, .int 0, .int 0, .int 0, .int 0, .int 0, .int 0, .int 0, .int 0, .int 0, .int 0, .long 0, .int 0, .ref mn21, .ref mn19, .ref mn1, .ref mn2, .ref mn3, .ref mn4, .ref mn5, .ref mn6, .ref mn7, .ref mn20, .int 0, .ref mn8, .ref mn9, .ref mn10, .ref mn11, .int 0, .int 0, .int 0, .ref mn12, .int (-1), .int (-1), .ref mn13, .ref mn14, .int 0, .ref mn15, .int 0, .int 0, .ref mn16, .ref mn17, .int 0, .int 0, .ref mn18, .int 0, .int 0, .int 0, .int 0])), (mn21, .inl (T 0, 329, .inl cn45))] H locs := w
    refine lv_aload_n hx hb dL_law_443 rfl (lv_at hl 2 rfl) ?_
    refine lv_aload_n hx hb dL_law_444 rfl (lv_at hl 4 rfl) ?_
    refine lv_iload hx hb dL_law_445 (lv_at hl 0 rfl) ?_
    refine lv_iconst (v := 1) hx hb dL_law_447 (by decide) ?_
    refine r_iadd (v := (1 : Int32)) M (by decide +kernel) dL_law_448 ?_
    refine va_sld hx hb hX hbl hbA w.2.2.1 (vin (by decide +kernel)) dL_law_449 ?_
    refine k_I (ce := 167) (sl := 5547) (rest := [.int 0]) (wr := []) (r_V (f := 1) [0, 1] M w V_HookedCityLaw_55 G1763 G1764 (c63_X12_now l D T _ ma0 mn0 mn21 mn19 mn1 mn2 mn3 mn4 mn5 mn6 mn7 mn20 mn8 mn9 mn10 mn11 mn12 mn13 mn14 mn15 mn16 mn17 mn18 (xs (Int32.toNatClampNeg (1 : Int32)))) 0 clX12 rfl rfl (by decide) rfl hl.1 rfl (Nat.le_of_ble_eq_true rfl) dL_law_450 (by decide) (by decide) (by decide) (by decide)) w [0, 1] [] rfl rfl (by decide) (by decide) rfl rfl (fun v _ H locs hp w => ?_)
    try dsimp only at hp
    rcases hp with ⟨c_309, hp⟩ | ⟨c_310, c_311, hp⟩ | ⟨c_312, c_313, c_314, hp⟩ | ⟨c_315, c_316, c_317, c_318, hp⟩ | ⟨c_319, c_320, c_321, c_322, c_323, hp⟩ | ⟨c_324, c_325, c_326, c_327, c_328, c_329, hp⟩ | ⟨c_330, c_331, c_332, c_333, c_334, c_335, c_336, hp⟩ | ⟨c_337, c_338, c_339, c_340, c_341, c_342, c_343, c_344, hp⟩ | ⟨c_345, c_346, c_347, c_348, c_349, c_350, c_351, c_352, hp⟩
    · exfalso
      simp only [fa_lt, fa_le, fa_eq] at c_22 c_23 c_24 c_25 c_26 c_27 c_28 c_309
      have e0 : (0 : Int32).toInt = 0 := (by decide)
      have e1 : (1 : Int32).toInt = 1 := (by decide)
      have e2 : (2 : Int32).toInt = 2 := (by decide)
      have e3 : (3 : Int32).toInt = 3 := (by decide)
      have e4 : (4 : Int32).toInt = 4 := (by decide)
      have e5 : (5 : Int32).toInt = 5 := (by decide)
      have e6 : (6 : Int32).toInt = 6 := (by decide)
      omega
    · exfalso
      simp only [fa_lt, fa_le, fa_eq] at c_22 c_23 c_24 c_25 c_26 c_27 c_28 c_310 c_311
      have e0 : (0 : Int32).toInt = 0 := (by decide)
      have e1 : (1 : Int32).toInt = 1 := (by decide)
      have e2 : (2 : Int32).toInt = 2 := (by decide)
      have e3 : (3 : Int32).toInt = 3 := (by decide)
      have e4 : (4 : Int32).toInt = 4 := (by decide)
      have e5 : (5 : Int32).toInt = 5 := (by decide)
      have e6 : (6 : Int32).toInt = 6 := (by decide)
      omega
    · exfalso
      simp only [fa_lt, fa_le, fa_eq] at c_22 c_23 c_24 c_25 c_26 c_27 c_28 c_312 c_313 c_314
      have e0 : (0 : Int32).toInt = 0 := (by decide)
      have e1 : (1 : Int32).toInt = 1 := (by decide)
      have e2 : (2 : Int32).toInt = 2 := (by decide)
      have e3 : (3 : Int32).toInt = 3 := (by decide)
      have e4 : (4 : Int32).toInt = 4 := (by decide)
      have e5 : (5 : Int32).toInt = 5 := (by decide)
      have e6 : (6 : Int32).toInt = 6 := (by decide)
      omega
    · exfalso
      simp only [fa_lt, fa_le, fa_eq] at c_22 c_23 c_24 c_25 c_26 c_27 c_28 c_315 c_316 c_317 c_318
      have e0 : (0 : Int32).toInt = 0 := (by decide)
      have e1 : (1 : Int32).toInt = 1 := (by decide)
      have e2 : (2 : Int32).toInt = 2 := (by decide)
      have e3 : (3 : Int32).toInt = 3 := (by decide)
      have e4 : (4 : Int32).toInt = 4 := (by decide)
      have e5 : (5 : Int32).toInt = 5 := (by decide)
      have e6 : (6 : Int32).toInt = 6 := (by decide)
      omega
    · exfalso
      simp only [fa_lt, fa_le, fa_eq] at c_22 c_23 c_24 c_25 c_26 c_27 c_28 c_319 c_320 c_321 c_322 c_323
      have e0 : (0 : Int32).toInt = 0 := (by decide)
      have e1 : (1 : Int32).toInt = 1 := (by decide)
      have e2 : (2 : Int32).toInt = 2 := (by decide)
      have e3 : (3 : Int32).toInt = 3 := (by decide)
      have e4 : (4 : Int32).toInt = 4 := (by decide)
      have e5 : (5 : Int32).toInt = 5 := (by decide)
      have e6 : (6 : Int32).toInt = 6 := (by decide)
      omega
    · exfalso
      simp only [fa_lt, fa_le, fa_eq] at c_22 c_23 c_24 c_25 c_26 c_27 c_28 c_324 c_325 c_326 c_327 c_328 c_329
      have e0 : (0 : Int32).toInt = 0 := (by decide)
      have e1 : (1 : Int32).toInt = 1 := (by decide)
      have e2 : (2 : Int32).toInt = 2 := (by decide)
      have e3 : (3 : Int32).toInt = 3 := (by decide)
      have e4 : (4 : Int32).toInt = 4 := (by decide)
      have e5 : (5 : Int32).toInt = 5 := (by decide)
      have e6 : (6 : Int32).toInt = 6 := (by decide)
      omega
    · have hp : (0 : Int32) = v := hp
      subst hp
      have w : WD D A s.heap [] H locs := w
      refine lv_icmp_eq (tgt := 1184) hx hb dL_law_453 (by decide) (fun _ => ?_) (fun c => absurd (by decide +kernel) c)
      refine W.widen (k := 400000) (n := 6000000) (by decide) (by decide) ?_
      exact law_exit M hA9 hr hlocks hX hbl w (lv_sub hl [0, 4] rfl)
    · exfalso
      simp only [fa_lt, fa_le, fa_eq] at c_22 c_23 c_24 c_25 c_26 c_27 c_28 c_337 c_338 c_339 c_340 c_341 c_342 c_343 c_344
      have e0 : (0 : Int32).toInt = 0 := (by decide)
      have e1 : (1 : Int32).toInt = 1 := (by decide)
      have e2 : (2 : Int32).toInt = 2 := (by decide)
      have e3 : (3 : Int32).toInt = 3 := (by decide)
      have e4 : (4 : Int32).toInt = 4 := (by decide)
      have e5 : (5 : Int32).toInt = 5 := (by decide)
      have e6 : (6 : Int32).toInt = 6 := (by decide)
      have e7 : (7 : Int32).toInt = 7 := (by decide)
      omega
    · exfalso
      simp only [fa_lt, fa_le, fa_eq] at c_22 c_23 c_24 c_25 c_26 c_27 c_28 c_345 c_346 c_347 c_348 c_349 c_350 c_351 c_352
      have e0 : (0 : Int32).toInt = 0 := (by decide)
      have e1 : (1 : Int32).toInt = 1 := (by decide)
      have e2 : (2 : Int32).toInt = 2 := (by decide)
      have e3 : (3 : Int32).toInt = 3 := (by decide)
      have e4 : (4 : Int32).toInt = 4 := (by decide)
      have e5 : (5 : Int32).toInt = 5 := (by decide)
      have e6 : (6 : Int32).toInt = 6 := (by decide)
      have e7 : (7 : Int32).toInt = 7 := (by decide)
      omega
  · have hp : (1 : Int32) = v := hp
    subst hp
    have w : WD D A s.heap [(ma0, .inr (11, [.int 0, .ref mn0, .int 0, .int 0, .int 0, .int 0, .int 0, .int 0, .int 0, .int 0, .int 0, .int 0, .long 0, .int 0, .ref mn21, .ref mn19, .ref mn1, .ref mn2, .ref mn3, .ref mn4, .ref mn5, .ref mn6, .ref mn7, .ref mn20, .int 0, .ref mn8, .ref mn9, .ref mn10, .ref mn11, .int 0, .int 0, .int 0, .ref mn12, .int (-1), .int (-1), .ref mn13, .ref mn14, .int 0, .ref mn15, .int 0, .int 0, .ref mn16, .ref mn17, .int 0, .int 0, .ref mn18, .int 0, .int 0, .int 0, .int 0])), (mn21, .inl (T 0, 329, .inl cn45))] H locs := w
    refine lv_aload_n hx hb dL_law_443 rfl (lv_at hl 2 rfl) ?_
    refine lv_aload_n hx hb dL_law_444 rfl (lv_at hl 4 rfl) ?_
    refine lv_iload hx hb dL_law_445 (lv_at hl 0 rfl) ?_
    refine lv_iconst (v := 1) hx hb dL_law_447 (by decide) ?_
    refine r_iadd (v := (1 : Int32)) M (by decide +kernel) dL_law_448 ?_
    refine va_sld hx hb hX hbl hbA w.2.2.1 (vin (by decide +kernel)) dL_law_449 ?_
    refine k_I (ce := 167) (sl := 5547) (rest := [.int 1]) (wr := []) (r_V (f := 1) [0, 1] M w V_HookedCityLaw_55 G1763 G1764 (c63_X12_now l D T _ ma0 mn0 mn21 mn19 mn1 mn2 mn3 mn4 mn5 mn6 mn7 mn20 mn8 mn9 mn10 mn11 mn12 mn13 mn14 mn15 mn16 mn17 mn18 (xs (Int32.toNatClampNeg (1 : Int32)))) 0 clX12 rfl rfl (by decide) rfl hl.1 rfl (Nat.le_of_ble_eq_true rfl) dL_law_450 (by decide) (by decide) (by decide) (by decide)) w [0, 1] [] rfl rfl (by decide) (by decide) rfl rfl (fun v _ H locs hp w => ?_)
    try dsimp only at hp
    rcases hp with ⟨c_353, hp⟩ | ⟨c_354, c_355, hp⟩ | ⟨c_356, c_357, c_358, hp⟩ | ⟨c_359, c_360, c_361, c_362, hp⟩ | ⟨c_363, c_364, c_365, c_366, c_367, hp⟩ | ⟨c_368, c_369, c_370, c_371, c_372, c_373, hp⟩ | ⟨c_374, c_375, c_376, c_377, c_378, c_379, c_380, hp⟩ | ⟨c_381, c_382, c_383, c_384, c_385, c_386, c_387, c_388, hp⟩ | ⟨c_389, c_390, c_391, c_392, c_393, c_394, c_395, c_396, hp⟩
    · exfalso
      simp only [fa_lt, fa_le, fa_eq] at c_29 c_30 c_31 c_32 c_33 c_34 c_35 c_36 c_353
      have e0 : (0 : Int32).toInt = 0 := (by decide)
      have e1 : (1 : Int32).toInt = 1 := (by decide)
      have e2 : (2 : Int32).toInt = 2 := (by decide)
      have e3 : (3 : Int32).toInt = 3 := (by decide)
      have e4 : (4 : Int32).toInt = 4 := (by decide)
      have e5 : (5 : Int32).toInt = 5 := (by decide)
      have e6 : (6 : Int32).toInt = 6 := (by decide)
      have e7 : (7 : Int32).toInt = 7 := (by decide)
      omega
    · exfalso
      simp only [fa_lt, fa_le, fa_eq] at c_29 c_30 c_31 c_32 c_33 c_34 c_35 c_36 c_354 c_355
      have e0 : (0 : Int32).toInt = 0 := (by decide)
      have e1 : (1 : Int32).toInt = 1 := (by decide)
      have e2 : (2 : Int32).toInt = 2 := (by decide)
      have e3 : (3 : Int32).toInt = 3 := (by decide)
      have e4 : (4 : Int32).toInt = 4 := (by decide)
      have e5 : (5 : Int32).toInt = 5 := (by decide)
      have e6 : (6 : Int32).toInt = 6 := (by decide)
      have e7 : (7 : Int32).toInt = 7 := (by decide)
      omega
    · exfalso
      simp only [fa_lt, fa_le, fa_eq] at c_29 c_30 c_31 c_32 c_33 c_34 c_35 c_36 c_356 c_357 c_358
      have e0 : (0 : Int32).toInt = 0 := (by decide)
      have e1 : (1 : Int32).toInt = 1 := (by decide)
      have e2 : (2 : Int32).toInt = 2 := (by decide)
      have e3 : (3 : Int32).toInt = 3 := (by decide)
      have e4 : (4 : Int32).toInt = 4 := (by decide)
      have e5 : (5 : Int32).toInt = 5 := (by decide)
      have e6 : (6 : Int32).toInt = 6 := (by decide)
      have e7 : (7 : Int32).toInt = 7 := (by decide)
      omega
    · exfalso
      simp only [fa_lt, fa_le, fa_eq] at c_29 c_30 c_31 c_32 c_33 c_34 c_35 c_36 c_359 c_360 c_361 c_362
      have e0 : (0 : Int32).toInt = 0 := (by decide)
      have e1 : (1 : Int32).toInt = 1 := (by decide)
      have e2 : (2 : Int32).toInt = 2 := (by decide)
      have e3 : (3 : Int32).toInt = 3 := (by decide)
      have e4 : (4 : Int32).toInt = 4 := (by decide)
      have e5 : (5 : Int32).toInt = 5 := (by decide)
      have e6 : (6 : Int32).toInt = 6 := (by decide)
      have e7 : (7 : Int32).toInt = 7 := (by decide)
      omega
    · exfalso
      simp only [fa_lt, fa_le, fa_eq] at c_29 c_30 c_31 c_32 c_33 c_34 c_35 c_36 c_363 c_364 c_365 c_366 c_367
      have e0 : (0 : Int32).toInt = 0 := (by decide)
      have e1 : (1 : Int32).toInt = 1 := (by decide)
      have e2 : (2 : Int32).toInt = 2 := (by decide)
      have e3 : (3 : Int32).toInt = 3 := (by decide)
      have e4 : (4 : Int32).toInt = 4 := (by decide)
      have e5 : (5 : Int32).toInt = 5 := (by decide)
      have e6 : (6 : Int32).toInt = 6 := (by decide)
      have e7 : (7 : Int32).toInt = 7 := (by decide)
      omega
    · exfalso
      simp only [fa_lt, fa_le, fa_eq] at c_29 c_30 c_31 c_32 c_33 c_34 c_35 c_36 c_368 c_369 c_370 c_371 c_372 c_373
      have e0 : (0 : Int32).toInt = 0 := (by decide)
      have e1 : (1 : Int32).toInt = 1 := (by decide)
      have e2 : (2 : Int32).toInt = 2 := (by decide)
      have e3 : (3 : Int32).toInt = 3 := (by decide)
      have e4 : (4 : Int32).toInt = 4 := (by decide)
      have e5 : (5 : Int32).toInt = 5 := (by decide)
      have e6 : (6 : Int32).toInt = 6 := (by decide)
      have e7 : (7 : Int32).toInt = 7 := (by decide)
      omega
    · exfalso
      simp only [fa_lt, fa_le, fa_eq] at c_29 c_30 c_31 c_32 c_33 c_34 c_35 c_36 c_374 c_375 c_376 c_377 c_378 c_379 c_380
      have e0 : (0 : Int32).toInt = 0 := (by decide)
      have e1 : (1 : Int32).toInt = 1 := (by decide)
      have e2 : (2 : Int32).toInt = 2 := (by decide)
      have e3 : (3 : Int32).toInt = 3 := (by decide)
      have e4 : (4 : Int32).toInt = 4 := (by decide)
      have e5 : (5 : Int32).toInt = 5 := (by decide)
      have e6 : (6 : Int32).toInt = 6 := (by decide)
      have e7 : (7 : Int32).toInt = 7 := (by decide)
      omega
    · have hp : (1 : Int32) = v := hp
      subst hp
      have w : WD D A s.heap [] H locs := w
      refine lv_icmp_eq (tgt := 1184) hx hb dL_law_453 (by decide) (fun _ => ?_) (fun c => absurd (by decide +kernel) c)
      refine W.widen (k := 400000) (n := 6000000) (by decide) (by decide) ?_
      exact law_exit M hA9 hr hlocks hX hbl w (lv_sub hl [0, 4] rfl)
    · exfalso
      simp only [fa_lt, fa_le, fa_eq] at c_29 c_30 c_31 c_32 c_33 c_34 c_35 c_36 c_389 c_390 c_391 c_392 c_393 c_394 c_395 c_396
      have e0 : (0 : Int32).toInt = 0 := (by decide)
      have e1 : (1 : Int32).toInt = 1 := (by decide)
      have e2 : (2 : Int32).toInt = 2 := (by decide)
      have e3 : (3 : Int32).toInt = 3 := (by decide)
      have e4 : (4 : Int32).toInt = 4 := (by decide)
      have e5 : (5 : Int32).toInt = 5 := (by decide)
      have e6 : (6 : Int32).toInt = 6 := (by decide)
      have e7 : (7 : Int32).toInt = 7 := (by decide)
      omega
  · have hp : (-1 : Int32) = v := hp
    subst hp
    have w : WD D A s.heap [(ma0, .inr (11, [.int 0, .ref mn0, .int 0, .int 0, .int 0, .int 0, .int 0, .int 0, .int 0, .int 0, .int 0, .int 0, .long 0, .int 0, .ref mn21, .ref mn19, .ref mn1, .ref mn2, .ref mn3, .ref mn4, .ref mn5, .ref mn6, .ref mn7, .ref mn20, .int 0, .ref mn8, .ref mn9, .ref mn10, .ref mn11, .int 0, .int 0, .int 0, .ref mn12, .int (-1), .int (-1), .ref mn13, .ref mn14, .int 0, .ref mn15, .int 0, .int 0, .ref mn16, .ref mn17, .int 0, .int 0, .ref mn18, .int 0, .int 0, .int 0, .int 0])), (mn21, .inl (T 0, 329, .inl cn45))] H locs := w
    refine lv_aload_n hx hb dL_law_443 rfl (lv_at hl 2 rfl) ?_
    refine lv_aload_n hx hb dL_law_444 rfl (lv_at hl 4 rfl) ?_
    refine lv_iload hx hb dL_law_445 (lv_at hl 0 rfl) ?_
    refine lv_iconst (v := 1) hx hb dL_law_447 (by decide) ?_
    refine r_iadd (v := (1 : Int32)) M (by decide +kernel) dL_law_448 ?_
    refine va_sld hx hb hX hbl hbA w.2.2.1 (vin (by decide +kernel)) dL_law_449 ?_
    refine k_I (ce := 167) (sl := 5547) (rest := [.int (-1)]) (wr := []) (r_V (f := 1) [0, 1] M w V_HookedCityLaw_55 G1763 G1764 (c63_X12_now l D T _ ma0 mn0 mn21 mn19 mn1 mn2 mn3 mn4 mn5 mn6 mn7 mn20 mn8 mn9 mn10 mn11 mn12 mn13 mn14 mn15 mn16 mn17 mn18 (xs (Int32.toNatClampNeg (1 : Int32)))) 0 clX12 rfl rfl (by decide) rfl hl.1 rfl (Nat.le_of_ble_eq_true rfl) dL_law_450 (by decide) (by decide) (by decide) (by decide)) w [0, 1] [] rfl rfl (by decide) (by decide) rfl rfl (fun v _ H locs hp w => ?_)
    try dsimp only at hp
    rcases hp with ⟨c_397, hp⟩ | ⟨c_398, c_399, hp⟩ | ⟨c_400, c_401, c_402, hp⟩ | ⟨c_403, c_404, c_405, c_406, hp⟩ | ⟨c_407, c_408, c_409, c_410, c_411, hp⟩ | ⟨c_412, c_413, c_414, c_415, c_416, c_417, hp⟩ | ⟨c_418, c_419, c_420, c_421, c_422, c_423, c_424, hp⟩ | ⟨c_425, c_426, c_427, c_428, c_429, c_430, c_431, c_432, hp⟩ | ⟨c_433, c_434, c_435, c_436, c_437, c_438, c_439, c_440, hp⟩
    · exfalso
      simp only [fa_lt, fa_le, fa_eq] at c_37 c_38 c_39 c_40 c_41 c_42 c_43 c_44 c_397
      have e0 : (0 : Int32).toInt = 0 := (by decide)
      have e1 : (1 : Int32).toInt = 1 := (by decide)
      have e2 : (2 : Int32).toInt = 2 := (by decide)
      have e3 : (3 : Int32).toInt = 3 := (by decide)
      have e4 : (4 : Int32).toInt = 4 := (by decide)
      have e5 : (5 : Int32).toInt = 5 := (by decide)
      have e6 : (6 : Int32).toInt = 6 := (by decide)
      have e7 : (7 : Int32).toInt = 7 := (by decide)
      omega
    · exfalso
      simp only [fa_lt, fa_le, fa_eq] at c_37 c_38 c_39 c_40 c_41 c_42 c_43 c_44 c_398 c_399
      have e0 : (0 : Int32).toInt = 0 := (by decide)
      have e1 : (1 : Int32).toInt = 1 := (by decide)
      have e2 : (2 : Int32).toInt = 2 := (by decide)
      have e3 : (3 : Int32).toInt = 3 := (by decide)
      have e4 : (4 : Int32).toInt = 4 := (by decide)
      have e5 : (5 : Int32).toInt = 5 := (by decide)
      have e6 : (6 : Int32).toInt = 6 := (by decide)
      have e7 : (7 : Int32).toInt = 7 := (by decide)
      omega
    · exfalso
      simp only [fa_lt, fa_le, fa_eq] at c_37 c_38 c_39 c_40 c_41 c_42 c_43 c_44 c_400 c_401 c_402
      have e0 : (0 : Int32).toInt = 0 := (by decide)
      have e1 : (1 : Int32).toInt = 1 := (by decide)
      have e2 : (2 : Int32).toInt = 2 := (by decide)
      have e3 : (3 : Int32).toInt = 3 := (by decide)
      have e4 : (4 : Int32).toInt = 4 := (by decide)
      have e5 : (5 : Int32).toInt = 5 := (by decide)
      have e6 : (6 : Int32).toInt = 6 := (by decide)
      have e7 : (7 : Int32).toInt = 7 := (by decide)
      omega
    · exfalso
      simp only [fa_lt, fa_le, fa_eq] at c_37 c_38 c_39 c_40 c_41 c_42 c_43 c_44 c_403 c_404 c_405 c_406
      have e0 : (0 : Int32).toInt = 0 := (by decide)
      have e1 : (1 : Int32).toInt = 1 := (by decide)
      have e2 : (2 : Int32).toInt = 2 := (by decide)
      have e3 : (3 : Int32).toInt = 3 := (by decide)
      have e4 : (4 : Int32).toInt = 4 := (by decide)
      have e5 : (5 : Int32).toInt = 5 := (by decide)
      have e6 : (6 : Int32).toInt = 6 := (by decide)
      have e7 : (7 : Int32).toInt = 7 := (by decide)
      omega
    · exfalso
      simp only [fa_lt, fa_le, fa_eq] at c_37 c_38 c_39 c_40 c_41 c_42 c_43 c_44 c_407 c_408 c_409 c_410 c_411
      have e0 : (0 : Int32).toInt = 0 := (by decide)
      have e1 : (1 : Int32).toInt = 1 := (by decide)
      have e2 : (2 : Int32).toInt = 2 := (by decide)
      have e3 : (3 : Int32).toInt = 3 := (by decide)
      have e4 : (4 : Int32).toInt = 4 := (by decide)
      have e5 : (5 : Int32).toInt = 5 := (by decide)
      have e6 : (6 : Int32).toInt = 6 := (by decide)
      have e7 : (7 : Int32).toInt = 7 := (by decide)
      omega
    · exfalso
      simp only [fa_lt, fa_le, fa_eq] at c_37 c_38 c_39 c_40 c_41 c_42 c_43 c_44 c_412 c_413 c_414 c_415 c_416 c_417
      have e0 : (0 : Int32).toInt = 0 := (by decide)
      have e1 : (1 : Int32).toInt = 1 := (by decide)
      have e2 : (2 : Int32).toInt = 2 := (by decide)
      have e3 : (3 : Int32).toInt = 3 := (by decide)
      have e4 : (4 : Int32).toInt = 4 := (by decide)
      have e5 : (5 : Int32).toInt = 5 := (by decide)
      have e6 : (6 : Int32).toInt = 6 := (by decide)
      have e7 : (7 : Int32).toInt = 7 := (by decide)
      omega
    · exfalso
      simp only [fa_lt, fa_le, fa_eq] at c_37 c_38 c_39 c_40 c_41 c_42 c_43 c_44 c_418 c_419 c_420 c_421 c_422 c_423 c_424
      have e0 : (0 : Int32).toInt = 0 := (by decide)
      have e1 : (1 : Int32).toInt = 1 := (by decide)
      have e2 : (2 : Int32).toInt = 2 := (by decide)
      have e3 : (3 : Int32).toInt = 3 := (by decide)
      have e4 : (4 : Int32).toInt = 4 := (by decide)
      have e5 : (5 : Int32).toInt = 5 := (by decide)
      have e6 : (6 : Int32).toInt = 6 := (by decide)
      have e7 : (7 : Int32).toInt = 7 := (by decide)
      omega
    · exfalso
      simp only [fa_lt, fa_le, fa_eq] at c_37 c_38 c_39 c_40 c_41 c_42 c_43 c_44 c_425 c_426 c_427 c_428 c_429 c_430 c_431 c_432
      have e0 : (0 : Int32).toInt = 0 := (by decide)
      have e1 : (1 : Int32).toInt = 1 := (by decide)
      have e2 : (2 : Int32).toInt = 2 := (by decide)
      have e3 : (3 : Int32).toInt = 3 := (by decide)
      have e4 : (4 : Int32).toInt = 4 := (by decide)
      have e5 : (5 : Int32).toInt = 5 := (by decide)
      have e6 : (6 : Int32).toInt = 6 := (by decide)
      have e7 : (7 : Int32).toInt = 7 := (by decide)
      omega
    · have hp : (-1 : Int32) = v := hp
      subst hp
      have w : WD D A s.heap [] H locs := w
      refine lv_icmp_eq (tgt := 1184) hx hb dL_law_453 (by decide) (fun _ => ?_) (fun c => absurd (by decide +kernel) c)
      refine W.widen (k := 400000) (n := 6000000) (by decide) (by decide) ?_
      exact law_exit M hA9 hr hlocks hX hbl w (lv_sub hl [0, 4] rfl)
set_option maxRecDepth 100000 in
set_option maxHeartbeats 4000000 in
theorem law_7 {p : Program} {l : Launch} {e : Env} {s : State} {m : MethodId} {below : List Frame} {meth : Method} {c : Code} {D : va_G} {T : Nat → ClassId} {A : Nat → Prop} {b : Nat} {xs : Nat → Int32} (M : MC p s m #[Value.ref b] c code R_law 7 D T A) (hA9 : ∀ q, A q → s.heap.size ≤ q) (hr : meth.sig.returnType = ret) (hlocks : meth.locks = false) (hX : va_X b 6 xs s s.heap) (hbl : b < s.heap.size) (xa0 xn0 xn2 xn7 xn12 xn18 xn22 xn23 xn26 xn28 xn29 xn30 xn40 xn50 xn55 xn31 xn32 xn33 xn34 xn35 xn36 xn37 xn38 xn39 ma0 mn0 mn21 mn19 mn1 mn2 mn3 mn4 mn5 mn6 mn7 mn20 mn8 mn9 mn10 mn11 mn12 mn13 mn14 mn15 mn16 mn17 mn18 oo : Nat) {H : Heap} {locs : List Loc} {ls : Array Slot} (w : WD D A s.heap [(xa0, .inr (10, [.ref xn0, .ref xn2, .ref xn7, .ref xn12, .ref xn18, .ref xn22, .ref xn23, .ref xn26, .ref xn28, .ref xn29, .ref xn30, .ref xn40, .ref xn50, .ref xn55, .int 0, .int 0, .int 0])), (xn30, .inr (9, [.ref xn31, .ref xn32, .ref xn33, .ref xn34, .ref xn35, .ref xn36, .ref xn37, .ref xn38, .ref xn39, .int 0, .int 0, .int 0, .int 0, .int 12, .int 1, .int 0, .int 0, .int 0])), (ma0, .inr (11, [.int 0, .ref mn0, .int 0, .int 0, .int 0, .int 0, .int 0, .int 0, .int 0, .int 0, .int 0, .int 0, .long 0, .int 0, .ref mn21, .ref mn19, .ref mn1, .ref mn2, .ref mn3, .ref mn4, .ref mn5, .ref mn6, .ref mn7, .ref mn20, .int 0, .ref mn8, .ref mn9, .ref mn10, .ref mn11, .int 0, .int 0, .int 0, .ref mn12, .int (-1), .int (-1), .ref mn13, .ref mn14, .int 0, .ref mn15, .int 0, .int 0, .ref mn16, .ref mn17, .int 0, .int 0, .ref mn18, .int 0, .int 0, .int 0, .int 0])), (mn21, .inl (T 0, 329, .inl cn45))] H locs) (hl : lv_has ls 7 [(4, .int 0), (3, .ref oo), (2, .ref ma0), (1, .ref xa0), (0, .ref b)]) : W p l e room_1 s m #[Value.ref b] below meth c H locs 167 5547 (lw_Z below #[Value.ref b] s) (F0 m 458 ls []) := by
  have hx := M.1.1
  have hb := M.1.2.1
  have hbA : ¬ A b := fun h => absurd (hA9 _ h) (Nat.not_le.mpr hbl)
  refine lv_aload_n hx hb dL_law_458 rfl (lv_at hl 3 rfl) ?_
  refine lv_aload_n hx hb dL_law_459 rfl (lv_at hl 4 rfl) ?_
  refine lv_iload hx hb dL_law_460 (lv_at hl 0 rfl) ?_
  refine lv_iconst (v := 1) hx hb dL_law_462 (by decide) ?_
  refine r_iadd (v := (1 : Int32)) M (by decide +kernel) dL_law_463 ?_
  refine va_sld hx hb hX hbl hbA w.2.2.1 (vin (by decide +kernel)) dL_law_464 ?_
  refine lv_aload_n hx hb dL_law_465 rfl (lv_at hl 4 rfl) ?_
  refine lv_iload hx hb dL_law_466 (lv_at hl 0 rfl) ?_
  refine lv_iconst (v := 2) hx hb dL_law_468 (by decide) ?_
  refine r_iadd (v := (2 : Int32)) M (by decide +kernel) dL_law_469 ?_
  refine va_sld hx hb hX hbl hbA w.2.2.1 (vin (by decide +kernel)) dL_law_470 ?_
  refine lv_aload_n hx hb dL_law_471 rfl (lv_at hl 4 rfl) ?_
  refine lv_iload hx hb dL_law_472 (lv_at hl 0 rfl) ?_
  refine lv_iconst (v := 3) hx hb dL_law_474 (by decide) ?_
  refine r_iadd (v := (3 : Int32)) M (by decide +kernel) dL_law_475 ?_
  refine va_sld hx hb hX hbl hbA w.2.2.1 (vin (by decide +kernel)) dL_law_476 ?_
  refine k_I (ce := 167) (sl := 5547) (rest := []) (wr := [(ma0, .inr (11, [.int 0, .ref mn0, .int 0, .int 0, .int 0, .int 0, .int 0, .int 0, .int 0, .int 0, .int 0, .int 0, .long 0, .int 0, .ref mn21, .ref mn19, .ref mn1, .ref mn2, .ref mn3, .ref mn4, .ref mn5, .ref mn6, .ref mn7, .ref mn20, .int 0, .ref mn8, .ref mn9, .ref mn10, .ref mn11, .int 0, .int 0, .int 0, .ref mn12, .int (-1), .int (-1), .ref mn13, .ref mn14, .int 0, .ref mn15, .int 0, .int 0, .ref mn16, .ref mn17, .int 0, .int 0, .ref mn18, .int 0, .int 0, .int 0, .int 0])), (mn21, .inl (T 0, 329, .inl cn45))]) (r_V (f := 1) [0, 1] M w V_HookedCityLaw_56 G836 G837 (c64_X11_button l D T _ xa0 xn0 xn2 xn7 xn12 xn18 xn22 xn23 xn26 xn28 xn29 xn30 xn40 xn50 xn55 xn31 xn32 xn33 xn34 xn35 xn36 xn37 xn38 xn39 (xs (Int32.toNatClampNeg (1 : Int32))) (xs (Int32.toNatClampNeg (2 : Int32))) (xs (Int32.toNatClampNeg (3 : Int32)))) 0 clX11 rfl rfl (by decide) rfl hl.1 rfl (Nat.le_of_ble_eq_true rfl) dL_law_477 (by decide) (by decide) (by decide) (by decide)) w [0, 1] [2, 3] rfl rfl (by decide) (by decide) rfl rfl (fun v _ H locs hp w => ?_)
  have hp : (-1 : Int32) = v := hp
  subst hp
  have w : WD D A s.heap [(ma0, .inr (11, [.int 0, .ref mn0, .int 0, .int 0, .int 0, .int 0, .int 0, .int 0, .int 0, .int 0, .int 0, .int 0, .long 0, .int 0, .ref mn21, .ref mn19, .ref mn1, .ref mn2, .ref mn3, .ref mn4, .ref mn5, .ref mn6, .ref mn7, .ref mn20, .int 0, .ref mn8, .ref mn9, .ref mn10, .ref mn11, .int 0, .int 0, .int 0, .ref mn12, .int (-1), .int (-1), .ref mn13, .ref mn14, .int 0, .ref mn15, .int 0, .int 0, .ref mn16, .ref mn17, .int 0, .int 0, .ref mn18, .int 0, .int 0, .int 0, .int 0])), (mn21, .inl (T 0, 329, .inl cn45))] H locs := w
  refine lv_aload_n hx hb dL_law_480 rfl (lv_at hl 2 rfl) ?_
  refine lv_aload_n hx hb dL_law_481 rfl (lv_at hl 4 rfl) ?_
  refine lv_iload hx hb dL_law_482 (lv_at hl 0 rfl) ?_
  refine lv_iconst (v := 1) hx hb dL_law_484 (by decide) ?_
  refine r_iadd (v := (1 : Int32)) M (by decide +kernel) dL_law_485 ?_
  refine va_sld hx hb hX hbl hbA w.2.2.1 (vin (by decide +kernel)) dL_law_486 ?_
  refine lv_aload_n hx hb dL_law_487 rfl (lv_at hl 4 rfl) ?_
  refine lv_iload hx hb dL_law_488 (lv_at hl 0 rfl) ?_
  refine lv_iconst (v := 2) hx hb dL_law_490 (by decide) ?_
  refine r_iadd (v := (2 : Int32)) M (by decide +kernel) dL_law_491 ?_
  refine va_sld hx hb hX hbl hbA w.2.2.1 (vin (by decide +kernel)) dL_law_492 ?_
  refine lv_aload_n hx hb dL_law_493 rfl (lv_at hl 4 rfl) ?_
  refine lv_iload hx hb dL_law_494 (lv_at hl 0 rfl) ?_
  refine lv_iconst (v := 3) hx hb dL_law_496 (by decide) ?_
  refine r_iadd (v := (3 : Int32)) M (by decide +kernel) dL_law_497 ?_
  refine va_sld hx hb hX hbl hbA w.2.2.1 (vin (by decide +kernel)) dL_law_498 ?_
  refine k_I (ce := 167) (sl := 5547) (rest := [.int (-1)]) (wr := []) (r_V (f := 2) [0, 1] M w V_HookedCityLaw_60 G1787 G1788 (c66_X12_button l D T _ ma0 mn0 mn21 mn19 mn1 mn2 mn3 mn4 mn5 mn6 mn7 mn20 mn8 mn9 mn10 mn11 mn12 mn13 mn14 mn15 mn16 mn17 mn18 (xs (Int32.toNatClampNeg (1 : Int32))) (xs (Int32.toNatClampNeg (2 : Int32))) (xs (Int32.toNatClampNeg (3 : Int32)))) 0 clX12 rfl rfl (by decide) rfl hl.1 rfl (Nat.le_of_ble_eq_true rfl) dL_law_499 (by decide) (by decide) (by decide) (by decide)) w [0, 1] [] rfl rfl (by decide) (by decide) rfl rfl (fun v _ H locs hp w => ?_)
  have hp : (-1 : Int32) = v := hp
  subst hp
  have w : WD D A s.heap [] H locs := w
  refine lv_icmp_eq (tgt := 1184) hx hb dL_law_502 (by decide) (fun _ => ?_) (fun c => absurd (by decide +kernel) c)
  refine W.widen (k := 400000) (n := 6000000) (by decide) (by decide) ?_
  exact law_exit M hA9 hr hlocks hX hbl w (lv_sub hl [0, 4] rfl)
set_option maxRecDepth 100000 in
set_option maxHeartbeats 4000000 in
theorem law_8 {p : Program} {l : Launch} {e : Env} {s : State} {m : MethodId} {below : List Frame} {meth : Method} {c : Code} {D : va_G} {T : Nat → ClassId} {A : Nat → Prop} {b : Nat} {xs : Nat → Int32} (M : MC p s m #[Value.ref b] c code R_law 7 D T A) (hA9 : ∀ q, A q → s.heap.size ≤ q) (hr : meth.sig.returnType = ret) (hlocks : meth.locks = false) (hX : va_X b 6 xs s s.heap) (hbl : b < s.heap.size) (xa0 xn0 xn2 xn7 xn12 xn18 xn22 xn23 xn26 xn28 xn29 xn30 xn40 xn50 xn55 xn31 xn32 xn33 xn34 xn35 xn36 xn37 xn38 xn39 ma0 mn0 mn21 mn19 mn1 mn2 mn3 mn4 mn5 mn6 mn7 mn20 mn8 mn9 mn10 mn11 mn12 mn13 mn14 mn15 mn16 mn17 mn18 oo : Nat) {H : Heap} {locs : List Loc} {ls : Array Slot} (w : WD D A s.heap [(xa0, .inr (10, [.ref xn0, .ref xn2, .ref xn7, .ref xn12, .ref xn18, .ref xn22, .ref xn23, .ref xn26, .ref xn28, .ref xn29, .ref xn30, .ref xn40, .ref xn50, .ref xn55, .int 0, .int 0, .int 0])), (xn30, .inr (9, [.ref xn31, .ref xn32, .ref xn33, .ref xn34, .ref xn35, .ref xn36, .ref xn37, .ref xn38, .ref xn39, .int 0, .int 0, .int 0, .int 0, .int 12, .int 1, .int 0, .int 0, .int 0])), (ma0, .inr (11, [.int 0, .ref mn0, .int 0, .int 0, .int 0, .int 0, .int 0, .int 0, .int 0, .int 0, .int 0, .int 0, .long 0, .int 0, .ref mn21, .ref mn19, .ref mn1, .ref mn2, .ref mn3, .ref mn4, .ref mn5, .ref mn6, .ref mn7, .ref mn20, .int 0, .ref mn8, .ref mn9, .ref mn10, .ref mn11, .int 0, .int 0, .int 0, .ref mn12, .int (-1), .int (-1), .ref mn13, .ref mn14, .int 0, .ref mn15, .int 0, .int 0, .ref mn16, .ref mn17, .int 0, .int 0, .ref mn18, .int 0, .int 0, .int 0, .int 0])), (mn21, .inl (T 0, 329, .inl cn45))] H locs) (hl : lv_has ls 7 [(4, .int 0), (3, .ref oo), (2, .ref ma0), (1, .ref xa0), (0, .ref b)]) : W p l e room_1 s m #[Value.ref b] below meth c H locs 167 5547 (lw_Z below #[Value.ref b] s) (F0 m 507 ls []) := by
  have hx := M.1.1
  have hb := M.1.2.1
  have hbA : ¬ A b := fun h => absurd (hA9 _ h) (Nat.not_le.mpr hbl)
  refine lv_aload_n hx hb dL_law_507 rfl (lv_at hl 3 rfl) ?_
  refine lv_aload_n hx hb dL_law_508 rfl (lv_at hl 4 rfl) ?_
  refine lv_iload hx hb dL_law_509 (lv_at hl 0 rfl) ?_
  refine lv_iconst (v := 1) hx hb dL_law_511 (by decide) ?_
  refine r_iadd (v := (1 : Int32)) M (by decide +kernel) dL_law_512 ?_
  refine va_sld hx hb hX hbl hbA w.2.2.1 (vin (by decide +kernel)) dL_law_513 ?_
  refine lv_aload_n hx hb dL_law_514 rfl (lv_at hl 4 rfl) ?_
  refine lv_iload hx hb dL_law_515 (lv_at hl 0 rfl) ?_
  refine lv_iconst (v := 2) hx hb dL_law_517 (by decide) ?_
  refine r_iadd (v := (2 : Int32)) M (by decide +kernel) dL_law_518 ?_
  refine va_sld hx hb hX hbl hbA w.2.2.1 (vin (by decide +kernel)) dL_law_519 ?_
  refine k_I (ce := 167) (sl := 5547) (rest := []) (wr := [(ma0, .inr (11, [.int 0, .ref mn0, .int 0, .int 0, .int 0, .int 0, .int 0, .int 0, .int 0, .int 0, .int 0, .int 0, .long 0, .int 0, .ref mn21, .ref mn19, .ref mn1, .ref mn2, .ref mn3, .ref mn4, .ref mn5, .ref mn6, .ref mn7, .ref mn20, .int 0, .ref mn8, .ref mn9, .ref mn10, .ref mn11, .int 0, .int 0, .int 0, .ref mn12, .int (-1), .int (-1), .ref mn13, .ref mn14, .int 0, .ref mn15, .int 0, .int 0, .ref mn16, .ref mn17, .int 0, .int 0, .ref mn18, .int 0, .int 0, .int 0, .int 0])), (mn21, .inl (T 0, 329, .inl cn45))]) (r_V (f := 1) [0, 1] M w V_HookedCityLaw_61 G873 G874 (c67_X11_loose l D T _ xa0 xn0 xn2 xn7 xn12 xn18 xn22 xn23 xn26 xn28 xn29 xn30 xn40 xn50 xn55 xn31 xn32 xn33 xn34 xn35 xn36 xn37 xn38 xn39 (xs (Int32.toNatClampNeg (1 : Int32))) (xs (Int32.toNatClampNeg (2 : Int32)))) 0 clX11 rfl rfl (by decide) rfl hl.1 rfl (Nat.le_of_ble_eq_true rfl) dL_law_520 (by decide) (by decide) (by decide) (by decide)) w [0, 1] [2, 3] rfl rfl (by decide) (by decide) rfl rfl (fun v _ H locs hp w => ?_)
  have hp : (-1 : Int32) = v := hp
  subst hp
  have w : WD D A s.heap [(ma0, .inr (11, [.int 0, .ref mn0, .int 0, .int 0, .int 0, .int 0, .int 0, .int 0, .int 0, .int 0, .int 0, .int 0, .long 0, .int 0, .ref mn21, .ref mn19, .ref mn1, .ref mn2, .ref mn3, .ref mn4, .ref mn5, .ref mn6, .ref mn7, .ref mn20, .int 0, .ref mn8, .ref mn9, .ref mn10, .ref mn11, .int 0, .int 0, .int 0, .ref mn12, .int (-1), .int (-1), .ref mn13, .ref mn14, .int 0, .ref mn15, .int 0, .int 0, .ref mn16, .ref mn17, .int 0, .int 0, .ref mn18, .int 0, .int 0, .int 0, .int 0])), (mn21, .inl (T 0, 329, .inl cn45))] H locs := w
  refine lv_aload_n hx hb dL_law_523 rfl (lv_at hl 2 rfl) ?_
  refine lv_aload_n hx hb dL_law_524 rfl (lv_at hl 4 rfl) ?_
  refine lv_iload hx hb dL_law_525 (lv_at hl 0 rfl) ?_
  refine lv_iconst (v := 1) hx hb dL_law_527 (by decide) ?_
  refine r_iadd (v := (1 : Int32)) M (by decide +kernel) dL_law_528 ?_
  refine va_sld hx hb hX hbl hbA w.2.2.1 (vin (by decide +kernel)) dL_law_529 ?_
  refine lv_aload_n hx hb dL_law_530 rfl (lv_at hl 4 rfl) ?_
  refine lv_iload hx hb dL_law_531 (lv_at hl 0 rfl) ?_
  refine lv_iconst (v := 2) hx hb dL_law_533 (by decide) ?_
  refine r_iadd (v := (2 : Int32)) M (by decide +kernel) dL_law_534 ?_
  refine va_sld hx hb hX hbl hbA w.2.2.1 (vin (by decide +kernel)) dL_law_535 ?_
  refine k_I (ce := 167) (sl := 5547) (rest := [.int (-1)]) (wr := []) (r_V (f := 2) [0, 1] M w V_HookedCityLaw_64 G1819 G1820 (c69_X12_loose l D T _ ma0 mn0 mn21 mn19 mn1 mn2 mn3 mn4 mn5 mn6 mn7 mn20 mn8 mn9 mn10 mn11 mn12 mn13 mn14 mn15 mn16 mn17 mn18 (xs (Int32.toNatClampNeg (1 : Int32))) (xs (Int32.toNatClampNeg (2 : Int32)))) 0 clX12 rfl rfl (by decide) rfl hl.1 rfl (Nat.le_of_ble_eq_true rfl) dL_law_536 (by decide) (by decide) (by decide) (by decide)) w [0, 1] [] rfl rfl (by decide) (by decide) rfl rfl (fun v _ H locs hp w => ?_)
  have hp : (-1 : Int32) = v := hp
  subst hp
  have w : WD D A s.heap [] H locs := w
  refine lv_icmp_eq (tgt := 1184) hx hb dL_law_539 (by decide) (fun _ => ?_) (fun c => absurd (by decide +kernel) c)
  refine W.widen (k := 400000) (n := 6000000) (by decide) (by decide) ?_
  exact law_exit M hA9 hr hlocks hX hbl w (lv_sub hl [0, 4] rfl)
set_option maxRecDepth 100000 in
set_option maxHeartbeats 4000000 in
theorem law_9 {p : Program} {l : Launch} {e : Env} {s : State} {m : MethodId} {below : List Frame} {meth : Method} {c : Code} {D : va_G} {T : Nat → ClassId} {A : Nat → Prop} {b : Nat} {xs : Nat → Int32} (M : MC p s m #[Value.ref b] c code R_law 7 D T A) (hA9 : ∀ q, A q → s.heap.size ≤ q) (hr : meth.sig.returnType = ret) (hlocks : meth.locks = false) (hX : va_X b 6 xs s s.heap) (hbl : b < s.heap.size) (xa0 xn0 xn2 xn7 xn12 xn18 xn22 xn23 xn26 xn28 xn29 xn30 xn40 xn50 xn55 xn31 xn32 xn33 xn34 xn35 xn36 xn37 xn38 xn39 ma0 mn0 mn21 mn19 mn1 mn2 mn3 mn4 mn5 mn6 mn7 mn20 mn8 mn9 mn10 mn11 mn12 mn13 mn14 mn15 mn16 mn17 mn18 oo : Nat) {H : Heap} {locs : List Loc} {ls : Array Slot} (w : WD D A s.heap [(xa0, .inr (10, [.ref xn0, .ref xn2, .ref xn7, .ref xn12, .ref xn18, .ref xn22, .ref xn23, .ref xn26, .ref xn28, .ref xn29, .ref xn30, .ref xn40, .ref xn50, .ref xn55, .int 0, .int 0, .int 0])), (xn30, .inr (9, [.ref xn31, .ref xn32, .ref xn33, .ref xn34, .ref xn35, .ref xn36, .ref xn37, .ref xn38, .ref xn39, .int 0, .int 0, .int 0, .int 0, .int 12, .int 1, .int 0, .int 0, .int 0])), (ma0, .inr (11, [.int 0, .ref mn0, .int 0, .int 0, .int 0, .int 0, .int 0, .int 0, .int 0, .int 0, .int 0, .int 0, .long 0, .int 0, .ref mn21, .ref mn19, .ref mn1, .ref mn2, .ref mn3, .ref mn4, .ref mn5, .ref mn6, .ref mn7, .ref mn20, .int 0, .ref mn8, .ref mn9, .ref mn10, .ref mn11, .int 0, .int 0, .int 0, .ref mn12, .int (-1), .int (-1), .ref mn13, .ref mn14, .int 0, .ref mn15, .int 0, .int 0, .ref mn16, .ref mn17, .int 0, .int 0, .ref mn18, .int 0, .int 0, .int 0, .int 0])), (mn21, .inl (T 0, 329, .inl cn45))] H locs) (hl : lv_has ls 7 [(4, .int 0), (3, .ref oo), (2, .ref ma0), (1, .ref xa0), (0, .ref b)]) : W p l e room_1 s m #[Value.ref b] below meth c H locs 167 5547 (lw_Z below #[Value.ref b] s) (F0 m 544 ls []) := by
  have hx := M.1.1
  have hb := M.1.2.1
  have hbA : ¬ A b := fun h => absurd (hA9 _ h) (Nat.not_le.mpr hbl)
  refine lv_aload_n hx hb dL_law_544 rfl (lv_at hl 3 rfl) ?_
  refine lv_aload_n hx hb dL_law_545 rfl (lv_at hl 4 rfl) ?_
  refine lv_iload hx hb dL_law_546 (lv_at hl 0 rfl) ?_
  refine lv_iconst (v := 1) hx hb dL_law_548 (by decide) ?_
  refine r_iadd (v := (1 : Int32)) M (by decide +kernel) dL_law_549 ?_
  refine va_sld hx hb hX hbl hbA w.2.2.1 (vin (by decide +kernel)) dL_law_550 ?_
  refine k_I (ce := 167) (sl := 5547) (rest := []) (wr := [(ma0, .inr (11, [.int 0, .ref mn0, .int 0, .int 0, .int 0, .int 0, .int 0, .int 0, .int 0, .int 0, .int 0, .int 0, .long 0, .int 0, .ref mn21, .ref mn19, .ref mn1, .ref mn2, .ref mn3, .ref mn4, .ref mn5, .ref mn6, .ref mn7, .ref mn20, .int 0, .ref mn8, .ref mn9, .ref mn10, .ref mn11, .int 0, .int 0, .int 0, .ref mn12, .int (-1), .int (-1), .ref mn13, .ref mn14, .int 0, .ref mn15, .int 0, .int 0, .ref mn16, .ref mn17, .int 0, .int 0, .ref mn18, .int 0, .int 0, .int 0, .int 0])), (mn21, .inl (T 0, 329, .inl cn45))]) (r_V (f := 1) [0, 1] M w V_HookedCityLaw_65 G889 G890 (c71_X11_mend l D T _ xa0 xn0 xn2 xn7 xn12 xn18 xn22 xn23 xn26 xn28 xn29 xn30 xn40 xn50 xn55 xn31 xn32 xn33 xn34 xn35 xn36 xn37 xn38 xn39 (xs (Int32.toNatClampNeg (1 : Int32)))) 0 clX11 rfl rfl (by decide) rfl hl.1 rfl (Nat.le_of_ble_eq_true rfl) dL_law_551 (by decide) (by decide) (by decide) (by decide)) w [0, 1] [2, 3] rfl rfl (by decide) (by decide) rfl rfl (fun v _ H locs hp w => ?_)
  have hp : (-1 : Int32) = v := hp
  subst hp
  have w : WD D A s.heap [(ma0, .inr (11, [.int 0, .ref mn0, .int 0, .int 0, .int 0, .int 0, .int 0, .int 0, .int 0, .int 0, .int 0, .int 0, .long 0, .int 0, .ref mn21, .ref mn19, .ref mn1, .ref mn2, .ref mn3, .ref mn4, .ref mn5, .ref mn6, .ref mn7, .ref mn20, .int 0, .ref mn8, .ref mn9, .ref mn10, .ref mn11, .int 0, .int 0, .int 0, .ref mn12, .int (-1), .int (-1), .ref mn13, .ref mn14, .int 0, .ref mn15, .int 0, .int 0, .ref mn16, .ref mn17, .int 0, .int 0, .ref mn18, .int 0, .int 0, .int 0, .int 0])), (mn21, .inl (T 0, 329, .inl cn45))] H locs := w
  refine lv_aload_n hx hb dL_law_554 rfl (lv_at hl 2 rfl) ?_
  refine lv_aload_n hx hb dL_law_555 rfl (lv_at hl 4 rfl) ?_
  refine lv_iload hx hb dL_law_556 (lv_at hl 0 rfl) ?_
  refine lv_iconst (v := 1) hx hb dL_law_558 (by decide) ?_
  refine r_iadd (v := (1 : Int32)) M (by decide +kernel) dL_law_559 ?_
  refine va_sld hx hb hX hbl hbA w.2.2.1 (vin (by decide +kernel)) dL_law_560 ?_
  refine k_I (ce := 167) (sl := 5547) (rest := [.int (-1)]) (wr := []) (r_V (f := 2) [0, 1] M w V_HookedCityLaw_68 G1823 G1824 (c74_X12_mend l D T _ ma0 mn0 mn21 mn19 mn1 mn2 mn3 mn4 mn5 mn6 mn7 mn20 mn8 mn9 mn10 mn11 mn12 mn13 mn14 mn15 mn16 mn17 mn18 (xs (Int32.toNatClampNeg (1 : Int32)))) 0 clX12 rfl rfl (by decide) rfl hl.1 rfl (Nat.le_of_ble_eq_true rfl) dL_law_561 (by decide) (by decide) (by decide) (by decide)) w [0, 1] [] rfl rfl (by decide) (by decide) rfl rfl (fun v _ H locs hp w => ?_)
  have hp : (-1 : Int32) = v := hp
  subst hp
  have w : WD D A s.heap [] H locs := w
  refine lv_icmp_eq (tgt := 1184) hx hb dL_law_564 (by decide) (fun _ => ?_) (fun c => absurd (by decide +kernel) c)
  refine W.widen (k := 400000) (n := 6000000) (by decide) (by decide) ?_
  exact law_exit M hA9 hr hlocks hX hbl w (lv_sub hl [0, 4] rfl)
set_option maxRecDepth 100000 in
set_option maxHeartbeats 4000000 in
theorem law_10 {p : Program} {l : Launch} {e : Env} {s : State} {m : MethodId} {below : List Frame} {meth : Method} {c : Code} {D : va_G} {T : Nat → ClassId} {A : Nat → Prop} {b : Nat} {xs : Nat → Int32} (M : MC p s m #[Value.ref b] c code R_law 7 D T A) (hA9 : ∀ q, A q → s.heap.size ≤ q) (hr : meth.sig.returnType = ret) (hlocks : meth.locks = false) (hX : va_X b 6 xs s s.heap) (hbl : b < s.heap.size) (xa0 xn0 xn2 xn7 xn12 xn18 xn22 xn23 xn26 xn28 xn29 xn30 xn40 xn50 xn55 xn3 xn4 xn5 xn6 xn95 xn90 xn85 xn80 xn75 xn70 xn65 xn60 xn31 xn32 xn33 xn34 xn35 xn36 xn37 xn38 xn39 xn61 xn62 xn63 xn64 ma0 mn0 mn21 mn19 mn1 mn2 mn3 mn4 mn5 mn6 mn7 mn20 mn8 mn9 mn10 mn11 mn12 mn13 mn14 mn15 mn16 mn17 mn18 oo : Nat) {H : Heap} {locs : List Loc} {ls : Array Slot} (w : WD D A s.heap [(xa0, .inr (10, [.ref xn0, .ref xn2, .ref xn7, .ref xn12, .ref xn18, .ref xn22, .ref xn23, .ref xn26, .ref xn28, .ref xn29, .ref xn30, .ref xn40, .ref xn50, .ref xn55, .int 0, .int 0, .int 0])), (xn2, .inr (7, [.ref xn3, .ref xn4, .ref xn5, .ref xn6, .int 0, .int 0, .int 0, .int 0])), (xn28, .inl (T 3, 8, .inr (.inr (.inr (.inr (va_up (va_up (va_up (va_up (va_up (va_up (va_up (va_up (fun _ => none) (Int32.toNatClampNeg (0 : Int32)) (some xn60)) (Int32.toNatClampNeg (1 : Int32)) (some xn65)) (Int32.toNatClampNeg (2 : Int32)) (some xn70)) (Int32.toNatClampNeg (3 : Int32)) (some xn75)) (Int32.toNatClampNeg (4 : Int32)) (some xn80)) (Int32.toNatClampNeg (5 : Int32)) (some xn85)) (Int32.toNatClampNeg (6 : Int32)) (some xn90)) (Int32.toNatClampNeg (7 : Int32)) (some xn95))))))), (xn30, .inr (9, [.ref xn31, .ref xn32, .ref xn33, .ref xn34, .ref xn35, .ref xn36, .ref xn37, .ref xn38, .ref xn39, .int 0, .int 0, .int 0, .int 0, .int 12, .int 1, .int 0, .int 0, .int 0])), (xn3, .inl (T 0, 9, .inl (fun _ => 0))), (xn4, .inl (T 0, 9, .inl (fun _ => 0))), (xn5, .inl (T 0, 9, .inl (fun _ => 0))), (xn6, .inl (T 0, 3, .inl (fun _ => 0))), (xn60, .inr (7, [.ref xn61, .ref xn62, .ref xn63, .ref xn64, .int 0, .int 0, .int 0, .int 0])), (xn61, .inl (T 0, 9, .inl (fun _ => 0))), (xn62, .inl (T 0, 9, .inl (fun _ => 0))), (xn63, .inl (T 0, 9, .inl (fun _ => 0))), (xn64, .inl (T 0, 3, .inl (fun _ => 0))), (ma0, .inr (11, [.int 0, .ref mn0, .int 0, .int 0, .int 0, .int 0, .int 0, .int 0, .int 0, .int 0, .int 0, .int 0, .long 0, .int 0, .ref mn21, .ref mn19, .ref mn1, .ref mn2, .ref mn3, .ref mn4, .ref mn5, .ref mn6, .ref mn7, .ref mn20, .int 0, .ref mn8, .ref mn9, .ref mn10, .ref mn11, .int 0, .int 0, .int 0, .ref mn12, .int (-1), .int (-1), .ref mn13, .ref mn14, .int 0, .ref mn15, .int 0, .int 0, .ref mn16, .ref mn17, .int 0, .int 0, .ref mn18, .int 0, .int 0, .int 0, .int 0])), (mn21, .inl (T 0, 329, .inl cn45)), (mn2, .inl (T 0, 272, .inl (fun _ => 0)))] H locs) (hl : lv_has ls 7 [(4, .int 0), (3, .ref oo), (2, .ref ma0), (1, .ref xa0), (0, .ref b)]) : W p l e room_1 s m #[Value.ref b] below meth c H locs 167 5547 (lw_Z below #[Value.ref b] s) (F0 m 569 ls []) := by
  have hx := M.1.1
  have hb := M.1.2.1
  have hbA : ¬ A b := fun h => absurd (hA9 _ h) (Nat.not_le.mpr hbl)
  refine lv_aload_n hx hb dL_law_569 rfl (lv_at hl 3 rfl) ?_
  refine lv_aload_n hx hb dL_law_570 rfl (lv_at hl 4 rfl) ?_
  refine lv_iload hx hb dL_law_571 (lv_at hl 0 rfl) ?_
  refine lv_iconst (v := 1) hx hb dL_law_573 (by decide) ?_
  refine r_iadd (v := (1 : Int32)) M (by decide +kernel) dL_law_574 ?_
  refine va_sld hx hb hX hbl hbA w.2.2.1 (vin (by decide +kernel)) dL_law_575 ?_
  refine k_I (ce := 167) (sl := 5547) (rest := []) (wr := [(ma0, .inr (11, [.int 0, .ref mn0, .int 0, .int 0, .int 0, .int 0, .int 0, .int 0, .int 0, .int 0, .int 0, .int 0, .long 0, .int 0, .ref mn21, .ref mn19, .ref mn1, .ref mn2, .ref mn3, .ref mn4, .ref mn5, .ref mn6, .ref mn7, .ref mn20, .int 0, .ref mn8, .ref mn9, .ref mn10, .ref mn11, .int 0, .int 0, .int 0, .ref mn12, .int (-1), .int (-1), .ref mn13, .ref mn14, .int 0, .ref mn15, .int 0, .int 0, .ref mn16, .ref mn17, .int 0, .int 0, .ref mn18, .int 0, .int 0, .int 0, .int 0])), (mn21, .inl (T 0, 329, .inl cn45)), (mn2, .inl (T 0, 272, .inl (fun _ => 0)))]) (r_V (f := 3) [0, 1, 2, 3, 4, 5, 6, 7, 8, 9, 10, 11, 12] M w V_HookedCityLaw_69 G901 G902 (c307_X11_days l D T _ xa0 xn0 xn2 xn7 xn12 xn18 xn22 xn23 xn26 xn28 xn29 xn30 xn40 xn50 xn55 xn3 xn4 xn5 xn6 xn95 xn90 xn85 xn80 xn75 xn70 xn65 xn60 xn31 xn32 xn33 xn34 xn35 xn36 xn37 xn38 xn39 xn61 xn62 xn63 xn64 (xs (Int32.toNatClampNeg (1 : Int32)))) 0 clX11 rfl rfl (by decide) rfl hl.1 rfl (Nat.le_of_ble_eq_true rfl) dL_law_576 (by decide) (by decide) (by decide) (by decide)) w [0, 1, 2, 3, 4, 5, 6, 7, 8, 9, 10, 11, 12] [13, 14, 15] rfl rfl (by decide) (by decide) rfl rfl (fun v _ H locs hp w => ?_)
  try dsimp only at hp
  rcases hp with ⟨c_1, hp⟩ | ⟨c_2, c_3, hp⟩ | ⟨c_4, c_5, hp⟩
  · have hp : (-1 : Int32) = v := hp
    subst hp
    have w : WD D A s.heap [(ma0, .inr (11, [.int 0, .ref mn0, .int 0, .int 0, .int 0, .int 0, .int 0, .int 0, .int 0, .int 0, .int 0, .int 0, .long 0, .int 0, .ref mn21, .ref mn19, .ref mn1, .ref mn2, .ref mn3, .ref mn4, .ref mn5, .ref mn6, .ref mn7, .ref mn20, .int 0, .ref mn8, .ref mn9, .ref mn10, .ref mn11, .int 0, .int 0, .int 0, .ref mn12, .int (-1), .int (-1), .ref mn13, .ref mn14, .int 0, .ref mn15, .int 0, .int 0, .ref mn16, .ref mn17, .int 0, .int 0, .ref mn18, .int 0, .int 0, .int 0, .int 0])), (mn21, .inl (T 0, 329, .inl cn45)), (mn2, .inl (T 0, 272, .inl (fun _ => 0)))] H locs := w
    refine lv_aload_n hx hb dL_law_579 rfl (lv_at hl 2 rfl) ?_
    refine lv_aload_n hx hb dL_law_580 rfl (lv_at hl 4 rfl) ?_
    refine lv_iload hx hb dL_law_581 (lv_at hl 0 rfl) ?_
    refine lv_iconst (v := 1) hx hb dL_law_583 (by decide) ?_
    refine r_iadd (v := (1 : Int32)) M (by decide +kernel) dL_law_584 ?_
    refine va_sld hx hb hX hbl hbA w.2.2.1 (vin (by decide +kernel)) dL_law_585 ?_
    refine k_I (ce := 167) (sl := 5547) (rest := [.int (-1)]) (wr := []) (r_V (f := 3) [0, 1, 2] M w V_HookedCityLaw_72 G1831 G1832 (c436_X12_days l D T _ ma0 mn0 mn21 mn19 mn1 mn2 mn3 mn4 mn5 mn6 mn7 mn20 mn8 mn9 mn10 mn11 mn12 mn13 mn14 mn15 mn16 mn17 mn18 (xs (Int32.toNatClampNeg (1 : Int32)))) 0 clX12 rfl rfl (by decide) rfl hl.1 rfl (Nat.le_of_ble_eq_true rfl) dL_law_586 (by decide) (by decide) (by decide) (by decide)) w [0, 1, 2] [] rfl rfl (by decide) (by decide) rfl rfl (fun v _ H locs hp w => ?_)
    try dsimp only at hp
    rcases hp with ⟨c_6, hp⟩ | ⟨c_7, c_8, hp⟩ | ⟨c_9, c_10, hp⟩
    · have hp : (-1 : Int32) = v := hp
      subst hp
      have w : WD D A s.heap [] H locs := w
      refine lv_icmp_eq (tgt := 1184) hx hb dL_law_589 (by decide) (fun _ => ?_) (fun c => absurd (by decide +kernel) c)
      refine W.widen (k := 400000) (n := 6000000) (by decide) (by decide) ?_
      exact law_exit M hA9 hr hlocks hX hbl w (lv_sub hl [0, 4] rfl)
    · exfalso
      simp only [fa_lt, fa_le, fa_eq] at c_1 c_7 c_8
      have e1 : (1 : Int32).toInt = 1 := (by decide)
      have e60 : (60 : Int32).toInt = 60 := (by decide)
      omega
    · exfalso
      simp only [fa_lt, fa_le, fa_eq] at c_1 c_9 c_10
      have e1 : (1 : Int32).toInt = 1 := (by decide)
      have e60 : (60 : Int32).toInt = 60 := (by decide)
      omega
  · have hp : (-1 : Int32) = v := hp
    subst hp
    have w : WD D A s.heap [(ma0, .inr (11, [.int 0, .ref mn0, .int 0, .int 0, .int 0, .int 0, .int 0, .int 0, .int 0, .int 0, .int 0, .int 0, .long 0, .int 0, .ref mn21, .ref mn19, .ref mn1, .ref mn2, .ref mn3, .ref mn4, .ref mn5, .ref mn6, .ref mn7, .ref mn20, .int 0, .ref mn8, .ref mn9, .ref mn10, .ref mn11, .int 0, .int 0, .int 0, .ref mn12, .int (-1), .int (-1), .ref mn13, .ref mn14, .int 0, .ref mn15, .int 0, .int 0, .ref mn16, .ref mn17, .int 0, .int 0, .ref mn18, .int 0, .int 0, .int 0, .int 0])), (mn21, .inl (T 0, 329, .inl cn45)), (mn2, .inl (T 0, 272, .inl (fun _ => 0)))] H locs := w
    refine lv_aload_n hx hb dL_law_579 rfl (lv_at hl 2 rfl) ?_
    refine lv_aload_n hx hb dL_law_580 rfl (lv_at hl 4 rfl) ?_
    refine lv_iload hx hb dL_law_581 (lv_at hl 0 rfl) ?_
    refine lv_iconst (v := 1) hx hb dL_law_583 (by decide) ?_
    refine r_iadd (v := (1 : Int32)) M (by decide +kernel) dL_law_584 ?_
    refine va_sld hx hb hX hbl hbA w.2.2.1 (vin (by decide +kernel)) dL_law_585 ?_
    refine k_I (ce := 167) (sl := 5547) (rest := [.int (-1)]) (wr := []) (r_V (f := 3) [0, 1, 2] M w V_HookedCityLaw_72 G1831 G1832 (c436_X12_days l D T _ ma0 mn0 mn21 mn19 mn1 mn2 mn3 mn4 mn5 mn6 mn7 mn20 mn8 mn9 mn10 mn11 mn12 mn13 mn14 mn15 mn16 mn17 mn18 (xs (Int32.toNatClampNeg (1 : Int32)))) 0 clX12 rfl rfl (by decide) rfl hl.1 rfl (Nat.le_of_ble_eq_true rfl) dL_law_586 (by decide) (by decide) (by decide) (by decide)) w [0, 1, 2] [] rfl rfl (by decide) (by decide) rfl rfl (fun v _ H locs hp w => ?_)
    try dsimp only at hp
    rcases hp with ⟨c_11, hp⟩ | ⟨c_12, c_13, hp⟩ | ⟨c_14, c_15, hp⟩
    · exfalso
      simp only [fa_lt, fa_le, fa_eq] at c_2 c_3 c_11
      have e1 : (1 : Int32).toInt = 1 := (by decide)
      have e60 : (60 : Int32).toInt = 60 := (by decide)
      omega
    · have hp : (-1 : Int32) = v := hp
      subst hp
      have w : WD D A s.heap [] H locs := w
      refine lv_icmp_eq (tgt := 1184) hx hb dL_law_589 (by decide) (fun _ => ?_) (fun c => absurd (by decide +kernel) c)
      refine W.widen (k := 400000) (n := 6000000) (by decide) (by decide) ?_
      exact law_exit M hA9 hr hlocks hX hbl w (lv_sub hl [0, 4] rfl)
    · exfalso
      simp only [fa_lt, fa_le, fa_eq] at c_2 c_3 c_14 c_15
      have e1 : (1 : Int32).toInt = 1 := (by decide)
      have e60 : (60 : Int32).toInt = 60 := (by decide)
      omega
  · have hp : (xs (Int32.toNatClampNeg (1 : Int32))) = v := hp
    subst hp
    have w : WD D A s.heap [(ma0, .inr (11, [.int 0, .ref mn0, .int 0, .int 0, .int 0, .int 0, .int 0, .int 0, .int 0, .int 0, .int 0, .int 0, .long 0, .int 0, .ref mn21, .ref mn19, .ref mn1, .ref mn2, .ref mn3, .ref mn4, .ref mn5, .ref mn6, .ref mn7, .ref mn20, .int 0, .ref mn8, .ref mn9, .ref mn10, .ref mn11, .int 0, .int 0, .int 0, .ref mn12, .int (-1), .int (-1), .ref mn13, .ref mn14, .int 0, .ref mn15, .int 0, .int 0, .ref mn16, .ref mn17, .int 0, .int 0, .ref mn18, .int 0, .int 0, .int 0, .int 0])), (mn21, .inl (T 0, 329, .inl cn45)), (mn2, .inl (T 0, 272, .inl (fun _ => 0)))] H locs := w
    refine lv_aload_n hx hb dL_law_579 rfl (lv_at hl 2 rfl) ?_
    refine lv_aload_n hx hb dL_law_580 rfl (lv_at hl 4 rfl) ?_
    refine lv_iload hx hb dL_law_581 (lv_at hl 0 rfl) ?_
    refine lv_iconst (v := 1) hx hb dL_law_583 (by decide) ?_
    refine r_iadd (v := (1 : Int32)) M (by decide +kernel) dL_law_584 ?_
    refine va_sld hx hb hX hbl hbA w.2.2.1 (vin (by decide +kernel)) dL_law_585 ?_
    refine k_I (ce := 167) (sl := 5547) (rest := [.int (xs (Int32.toNatClampNeg (1 : Int32)))]) (wr := []) (r_V (f := 3) [0, 1, 2] M w V_HookedCityLaw_72 G1831 G1832 (c436_X12_days l D T _ ma0 mn0 mn21 mn19 mn1 mn2 mn3 mn4 mn5 mn6 mn7 mn20 mn8 mn9 mn10 mn11 mn12 mn13 mn14 mn15 mn16 mn17 mn18 (xs (Int32.toNatClampNeg (1 : Int32)))) 0 clX12 rfl rfl (by decide) rfl hl.1 rfl (Nat.le_of_ble_eq_true rfl) dL_law_586 (by decide) (by decide) (by decide) (by decide)) w [0, 1, 2] [] rfl rfl (by decide) (by decide) rfl rfl (fun v _ H locs hp w => ?_)
    try dsimp only at hp
    rcases hp with ⟨c_16, hp⟩ | ⟨c_17, c_18, hp⟩ | ⟨c_19, c_20, hp⟩
    · exfalso
      simp only [fa_lt, fa_le, fa_eq] at c_4 c_5 c_16
      have e1 : (1 : Int32).toInt = 1 := (by decide)
      have e60 : (60 : Int32).toInt = 60 := (by decide)
      omega
    · exfalso
      simp only [fa_lt, fa_le, fa_eq] at c_4 c_5 c_17 c_18
      have e1 : (1 : Int32).toInt = 1 := (by decide)
      have e60 : (60 : Int32).toInt = 60 := (by decide)
      omega
    · have hp : (xs (Int32.toNatClampNeg (1 : Int32))) = v := hp
      subst hp
      have w : WD D A s.heap [] H locs := w
      refine lv_icmp_eq (tgt := 1184) hx hb dL_law_589 (by decide) (fun _ => ?_) (fun c => absurd rfl c)
      refine W.widen (k := 400000) (n := 6000000) (by decide) (by decide) ?_
      exact law_exit M hA9 hr hlocks hX hbl w (lv_sub hl [0, 4] rfl)
set_option maxRecDepth 100000 in
set_option maxHeartbeats 4000000 in
theorem law_11 {p : Program} {l : Launch} {e : Env} {s : State} {m : MethodId} {below : List Frame} {meth : Method} {c : Code} {D : va_G} {T : Nat → ClassId} {A : Nat → Prop} {b : Nat} {xs : Nat → Int32} (M : MC p s m #[Value.ref b] c code R_law 7 D T A) (hA9 : ∀ q, A q → s.heap.size ≤ q) (hr : meth.sig.returnType = ret) (hlocks : meth.locks = false) (hX : va_X b 6 xs s s.heap) (hbl : b < s.heap.size) (xa0 xn0 xn2 xn7 xn12 xn18 xn22 xn23 xn26 xn28 xn29 xn30 xn40 xn50 xn55 ma0 mn0 mn21 mn19 mn1 mn2 mn3 mn4 mn5 mn6 mn7 mn20 mn8 mn9 mn10 mn11 mn12 mn13 mn14 mn15 mn16 mn17 mn18 oo : Nat) {H : Heap} {locs : List Loc} {ls : Array Slot} (w : WD D A s.heap [(xa0, .inr (10, [.ref xn0, .ref xn2, .ref xn7, .ref xn12, .ref xn18, .ref xn22, .ref xn23, .ref xn26, .ref xn28, .ref xn29, .ref xn30, .ref xn40, .ref xn50, .ref xn55, .int 0, .int 0, .int 0])), (ma0, .inr (11, [.int 0, .ref mn0, .int 0, .int 0, .int 0, .int 0, .int 0, .int 0, .int 0, .int 0, .int 0, .int 0, .long 0, .int 0, .ref mn21, .ref mn19, .ref mn1, .ref mn2, .ref mn3, .ref mn4, .ref mn5, .ref mn6, .ref mn7, .ref mn20, .int 0, .ref mn8, .ref mn9, .ref mn10, .ref mn11, .int 0, .int 0, .int 0, .ref mn12, .int (-1), .int (-1), .ref mn13, .ref mn14, .int 0, .ref mn15, .int 0, .int 0, .ref mn16, .ref mn17, .int 0, .int 0, .ref mn18, .int 0, .int 0, .int 0, .int 0]))] H locs) (hl : lv_has ls 7 [(4, .int 0), (3, .ref oo), (2, .ref ma0), (1, .ref xa0), (0, .ref b)]) : W p l e room_1 s m #[Value.ref b] below meth c H locs 167 5547 (lw_Z below #[Value.ref b] s) (F0 m 594 ls []) := by
  have hx := M.1.1
  have hb := M.1.2.1
  have hbA : ¬ A b := fun h => absurd (hA9 _ h) (Nat.not_le.mpr hbl)
  refine lv_aload_n hx hb dL_law_594 rfl (lv_at hl 3 rfl) ?_
  refine k_I (ce := 167) (sl := 5547) (rest := []) (wr := [(ma0, .inr (11, [.int 0, .ref mn0, .int 0, .int 0, .int 0, .int 0, .int 0, .int 0, .int 0, .int 0, .int 0, .int 0, .long 0, .int 0, .ref mn21, .ref mn19, .ref mn1, .ref mn2, .ref mn3, .ref mn4, .ref mn5, .ref mn6, .ref mn7, .ref mn20, .int 0, .ref mn8, .ref mn9, .ref mn10, .ref mn11, .int 0, .int 0, .int 0, .ref mn12, .int (-1), .int (-1), .ref mn13, .ref mn14, .int 0, .ref mn15, .int 0, .int 0, .ref mn16, .ref mn17, .int 0, .int 0, .ref mn18, .int 0, .int 0, .int 0, .int 0]))]) (r_V (f := 0) [0] M w V_HookedCityLaw_73 G918 G919 (c75_X11_undo l D T _ xa0 xn0 xn2 xn7 xn12 xn18 xn22 xn23 xn26 xn28 xn29 xn30 xn40 xn50 xn55) 0 clX11 rfl rfl (by decide) rfl hl.1 rfl (Nat.le_of_ble_eq_true rfl) dL_law_595 (by decide) (by decide) (by decide) (by decide)) w [0] [1] rfl rfl (by decide) (by decide) rfl rfl (fun v _ H locs hp w => ?_)
  have hp : (-1 : Int32) = v := hp
  subst hp
  have w : WD D A s.heap [(ma0, .inr (11, [.int 0, .ref mn0, .int 0, .int 0, .int 0, .int 0, .int 0, .int 0, .int 0, .int 0, .int 0, .int 0, .long 0, .int 0, .ref mn21, .ref mn19, .ref mn1, .ref mn2, .ref mn3, .ref mn4, .ref mn5, .ref mn6, .ref mn7, .ref mn20, .int 0, .ref mn8, .ref mn9, .ref mn10, .ref mn11, .int 0, .int 0, .int 0, .ref mn12, .int (-1), .int (-1), .ref mn13, .ref mn14, .int 0, .ref mn15, .int 0, .int 0, .ref mn16, .ref mn17, .int 0, .int 0, .ref mn18, .int 0, .int 0, .int 0, .int 0]))] H locs := w
  refine lv_aload_n hx hb dL_law_598 rfl (lv_at hl 2 rfl) ?_
  refine k_I (ce := 167) (sl := 5547) (rest := [.int (-1)]) (wr := []) (r_V (f := 0) [0] M w V_HookedCityLaw_76 G1827 G1828 (c76_X12_undo l D T _ ma0 mn0 mn21 mn19 mn1 mn2 mn3 mn4 mn5 mn6 mn7 mn20 mn8 mn9 mn10 mn11 mn12 mn13 mn14 mn15 mn16 mn17 mn18) 0 clX12 rfl rfl (by decide) rfl hl.1 rfl (Nat.le_of_ble_eq_true rfl) dL_law_599 (by decide) (by decide) (by decide) (by decide)) w [0] [] rfl rfl (by decide) (by decide) rfl rfl (fun v _ H locs hp w => ?_)
  have hp : (-1 : Int32) = v := hp
  subst hp
  have w : WD D A s.heap [] H locs := w
  refine lv_icmp_eq (tgt := 1184) hx hb dL_law_602 (by decide) (fun _ => ?_) (fun c => absurd (by decide +kernel) c)
  refine W.widen (k := 400000) (n := 6000000) (by decide) (by decide) ?_
  exact law_exit M hA9 hr hlocks hX hbl w (lv_sub hl [0, 4] rfl)
set_option maxRecDepth 100000 in
set_option maxHeartbeats 4000000 in
theorem law_12 {p : Program} {l : Launch} {e : Env} {s : State} {m : MethodId} {below : List Frame} {meth : Method} {c : Code} {D : va_G} {T : Nat → ClassId} {A : Nat → Prop} {b : Nat} {xs : Nat → Int32} (M : MC p s m #[Value.ref b] c code R_law 7 D T A) (hA9 : ∀ q, A q → s.heap.size ≤ q) (hr : meth.sig.returnType = ret) (hlocks : meth.locks = false) (hX : va_X b 6 xs s s.heap) (hbl : b < s.heap.size) (xa0 xn0 xn2 xn7 xn12 xn18 xn22 xn23 xn26 xn28 xn29 xn30 xn40 xn50 xn55 xn31 xn32 xn33 xn34 xn35 xn36 xn37 xn38 xn39 ma0 mn0 mn21 mn19 mn1 mn2 mn3 mn4 mn5 mn6 mn7 mn20 mn8 mn9 mn10 mn11 mn12 mn13 mn14 mn15 mn16 mn17 mn18 oo : Nat) {H : Heap} {locs : List Loc} {ls : Array Slot} (w : WD D A s.heap [(xa0, .inr (10, [.ref xn0, .ref xn2, .ref xn7, .ref xn12, .ref xn18, .ref xn22, .ref xn23, .ref xn26, .ref xn28, .ref xn29, .ref xn30, .ref xn40, .ref xn50, .ref xn55, .int 0, .int 0, .int 0])), (xn30, .inr (9, [.ref xn31, .ref xn32, .ref xn33, .ref xn34, .ref xn35, .ref xn36, .ref xn37, .ref xn38, .ref xn39, .int 0, .int 0, .int 0, .int 0, .int 12, .int 1, .int 0, .int 0, .int 0])), (ma0, .inr (11, [.int 0, .ref mn0, .int 0, .int 0, .int 0, .int 0, .int 0, .int 0, .int 0, .int 0, .int 0, .int 0, .long 0, .int 0, .ref mn21, .ref mn19, .ref mn1, .ref mn2, .ref mn3, .ref mn4, .ref mn5, .ref mn6, .ref mn7, .ref mn20, .int 0, .ref mn8, .ref mn9, .ref mn10, .ref mn11, .int 0, .int 0, .int 0, .ref mn12, .int (-1), .int (-1), .ref mn13, .ref mn14, .int 0, .ref mn15, .int 0, .int 0, .ref mn16, .ref mn17, .int 0, .int 0, .ref mn18, .int 0, .int 0, .int 0, .int 0])), (mn21, .inl (T 0, 329, .inl cn45))] H locs) (hl : lv_has ls 7 [(4, .int 0), (3, .ref oo), (2, .ref ma0), (1, .ref xa0), (0, .ref b)]) : W p l e room_1 s m #[Value.ref b] below meth c H locs 167 5547 (lw_Z below #[Value.ref b] s) (F0 m 607 ls []) := by
  have hx := M.1.1
  have hb := M.1.2.1
  have hbA : ¬ A b := fun h => absurd (hA9 _ h) (Nat.not_le.mpr hbl)
  refine lv_aload_n hx hb dL_law_607 rfl (lv_at hl 3 rfl) ?_
  refine lv_aload_n hx hb dL_law_608 rfl (lv_at hl 4 rfl) ?_
  refine lv_iload hx hb dL_law_609 (lv_at hl 0 rfl) ?_
  refine lv_iconst (v := 1) hx hb dL_law_611 (by decide) ?_
  refine r_iadd (v := (1 : Int32)) M (by decide +kernel) dL_law_612 ?_
  refine va_sld hx hb hX hbl hbA w.2.2.1 (vin (by decide +kernel)) dL_law_613 ?_
  refine k_I (ce := 167) (sl := 5547) (rest := []) (wr := [(ma0, .inr (11, [.int 0, .ref mn0, .int 0, .int 0, .int 0, .int 0, .int 0, .int 0, .int 0, .int 0, .int 0, .int 0, .long 0, .int 0, .ref mn21, .ref mn19, .ref mn1, .ref mn2, .ref mn3, .ref mn4, .ref mn5, .ref mn6, .ref mn7, .ref mn20, .int 0, .ref mn8, .ref mn9, .ref mn10, .ref mn11, .int 0, .int 0, .int 0, .ref mn12, .int (-1), .int (-1), .ref mn13, .ref mn14, .int 0, .ref mn15, .int 0, .int 0, .ref mn16, .ref mn17, .int 0, .int 0, .ref mn18, .int 0, .int 0, .int 0, .int 0])), (mn21, .inl (T 0, 329, .inl cn45))]) (r_V (f := 1) [0, 1] M w V_HookedCityLaw_77 G922 G923 (c77_X11_with l D T _ xa0 xn0 xn2 xn7 xn12 xn18 xn22 xn23 xn26 xn28 xn29 xn30 xn40 xn50 xn55 xn31 xn32 xn33 xn34 xn35 xn36 xn37 xn38 xn39 (xs (Int32.toNatClampNeg (1 : Int32)))) 0 clX11 rfl rfl (by decide) rfl hl.1 rfl (Nat.le_of_ble_eq_true rfl) dL_law_614 (by decide) (by decide) (by decide) (by decide)) w [0, 1] [2, 3] rfl rfl (by decide) (by decide) rfl rfl (fun v _ H locs hp w => ?_)
  have hp : (-1 : Int32) = v := hp
  subst hp
  have w : WD D A s.heap [(ma0, .inr (11, [.int 0, .ref mn0, .int 0, .int 0, .int 0, .int 0, .int 0, .int 0, .int 0, .int 0, .int 0, .int 0, .long 0, .int 0, .ref mn21, .ref mn19, .ref mn1, .ref mn2, .ref mn3, .ref mn4, .ref mn5, .ref mn6, .ref mn7, .ref mn20, .int 0, .ref mn8, .ref mn9, .ref mn10, .ref mn11, .int 0, .int 0, .int 0, .ref mn12, .int (-1), .int (-1), .ref mn13, .ref mn14, .int 0, .ref mn15, .int 0, .int 0, .ref mn16, .ref mn17, .int 0, .int 0, .ref mn18, .int 0, .int 0, .int 0, .int 0])), (mn21, .inl (T 0, 329, .inl cn45))] H locs := w
  refine lv_aload_n hx hb dL_law_617 rfl (lv_at hl 2 rfl) ?_
  refine lv_aload_n hx hb dL_law_618 rfl (lv_at hl 4 rfl) ?_
  refine lv_iload hx hb dL_law_619 (lv_at hl 0 rfl) ?_
  refine lv_iconst (v := 1) hx hb dL_law_621 (by decide) ?_
  refine r_iadd (v := (1 : Int32)) M (by decide +kernel) dL_law_622 ?_
  refine va_sld hx hb hX hbl hbA w.2.2.1 (vin (by decide +kernel)) dL_law_623 ?_
  refine k_I (ce := 167) (sl := 5547) (rest := [.int (-1)]) (wr := []) (r_V (f := 2) [0, 1] M w V_HookedCityLaw_80 G1850 G1851 (c78_X12_with l D T _ ma0 mn0 mn21 mn19 mn1 mn2 mn3 mn4 mn5 mn6 mn7 mn20 mn8 mn9 mn10 mn11 mn12 mn13 mn14 mn15 mn16 mn17 mn18 (xs (Int32.toNatClampNeg (1 : Int32)))) 0 clX12 rfl rfl (by decide) rfl hl.1 rfl (Nat.le_of_ble_eq_true rfl) dL_law_624 (by decide) (by decide) (by decide) (by decide)) w [0, 1] [] rfl rfl (by decide) (by decide) rfl rfl (fun v _ H locs hp w => ?_)
  have hp : (-1 : Int32) = v := hp
  subst hp
  have w : WD D A s.heap [] H locs := w
  refine lv_icmp_eq (tgt := 1184) hx hb dL_law_627 (by decide) (fun _ => ?_) (fun c => absurd (by decide +kernel) c)
  refine W.widen (k := 400000) (n := 6000000) (by decide) (by decide) ?_
  exact law_exit M hA9 hr hlocks hX hbl w (lv_sub hl [0, 4] rfl)
set_option maxRecDepth 100000 in
set_option maxHeartbeats 4000000 in
theorem law_13 {p : Program} {l : Launch} {e : Env} {s : State} {m : MethodId} {below : List Frame} {meth : Method} {c : Code} {D : va_G} {T : Nat → ClassId} {A : Nat → Prop} {b : Nat} {xs : Nat → Int32} (M : MC p s m #[Value.ref b] c code R_law 7 D T A) (hA9 : ∀ q, A q → s.heap.size ≤ q) (hr : meth.sig.returnType = ret) (hlocks : meth.locks = false) (hX : va_X b 6 xs s s.heap) (hbl : b < s.heap.size) (xa0 xn0 xn2 xn7 xn12 xn18 xn22 xn23 xn26 xn28 xn29 xn30 xn40 xn50 xn55 xn3 xn4 xn5 xn6 xn31 xn32 xn33 xn34 xn35 xn36 xn37 xn38 xn39 ma0 mn0 mn21 mn19 mn1 mn2 mn3 mn4 mn5 mn6 mn7 mn20 mn8 mn9 mn10 mn11 mn12 mn13 mn14 mn15 mn16 mn17 mn18 oo : Nat) {H : Heap} {locs : List Loc} {ls : Array Slot} (w : WD D A s.heap [(xa0, .inr (10, [.ref xn0, .ref xn2, .ref xn7, .ref xn12, .ref xn18, .ref xn22, .ref xn23, .ref xn26, .ref xn28, .ref xn29, .ref xn30, .ref xn40, .ref xn50, .ref xn55, .int 0, .int 0, .int 0])), (xn2, .inr (7, [.ref xn3, .ref xn4, .ref xn5, .ref xn6, .int 0, .int 0, .int 0, .int 0])), (xn30, .inr (9, [.ref xn31, .ref xn32, .ref xn33, .ref xn34, .ref xn35, .ref xn36, .ref xn37, .ref xn38, .ref xn39, .int 0, .int 0, .int 0, .int 0, .int 12, .int 1, .int 0, .int 0, .int 0])), (ma0, .inr (11, [.int 0, .ref mn0, .int 0, .int 0, .int 0, .int 0, .int 0, .int 0, .int 0, .int 0, .int 0, .int 0, .long 0, .int 0, .ref mn21, .ref mn19, .ref mn1, .ref mn2, .ref mn3, .ref mn4, .ref mn5, .ref mn6, .ref mn7, .ref mn20, .int 0, .ref mn8, .ref mn9, .ref mn10, .ref mn11, .int 0, .int 0, .int 0, .ref mn12, .int (-1), .int (-1), .ref mn13, .ref mn14, .int 0, .ref mn15, .int 0, .int 0, .ref mn16, .ref mn17, .int 0, .int 0, .ref mn18, .int 0, .int 0, .int 0, .int 0])), (mn21, .inl (T 0, 329, .inl cn45))] H locs) (hl : lv_has ls 7 [(4, .int 0), (3, .ref oo), (2, .ref ma0), (1, .ref xa0), (0, .ref b)]) : W p l e room_1 s m #[Value.ref b] below meth c H locs 167 5547 (lw_Z below #[Value.ref b] s) (F0 m 632 ls []) := by
  have hx := M.1.1
  have hb := M.1.2.1
  have hbA : ¬ A b := fun h => absurd (hA9 _ h) (Nat.not_le.mpr hbl)
  refine lv_aload_n hx hb dL_law_632 rfl (lv_at hl 3 rfl) ?_
  refine k_I (ce := 167) (sl := 5547) (rest := []) (wr := [(ma0, .inr (11, [.int 0, .ref mn0, .int 0, .int 0, .int 0, .int 0, .int 0, .int 0, .int 0, .int 0, .int 0, .int 0, .long 0, .int 0, .ref mn21, .ref mn19, .ref mn1, .ref mn2, .ref mn3, .ref mn4, .ref mn5, .ref mn6, .ref mn7, .ref mn20, .int 0, .ref mn8, .ref mn9, .ref mn10, .ref mn11, .int 0, .int 0, .int 0, .ref mn12, .int (-1), .int (-1), .ref mn13, .ref mn14, .int 0, .ref mn15, .int 0, .int 0, .ref mn16, .ref mn17, .int 0, .int 0, .ref mn18, .int 0, .int 0, .int 0, .int 0])), (mn21, .inl (T 0, 329, .inl cn45))]) (r_V (f := 1) [0, 1, 2] M w V_HookedCityLaw_81 G930 G931 (c80_X11_parts l D T _ xa0 xn0 xn2 xn7 xn12 xn18 xn22 xn23 xn26 xn28 xn29 xn30 xn40 xn50 xn55 xn3 xn4 xn5 xn6 xn31 xn32 xn33 xn34 xn35 xn36 xn37 xn38 xn39) 0 clX11 rfl rfl (by decide) rfl hl.1 rfl (Nat.le_of_ble_eq_true rfl) dL_law_633 (by decide) (by decide) (by decide) (by decide)) w [0, 1, 2] [3, 4] rfl rfl (by decide) (by decide) rfl rfl (fun v _ H locs hp w => ?_)
  have hp : (0 : Int32) = v := hp
  subst hp
  have w : WD D A s.heap [(ma0, .inr (11, [.int 0, .ref mn0, .int 0, .int 0, .int 0, .int 0, .int 0, .int 0, .int 0, .int 0, .int 0, .int 0, .long 0, .int 0, .ref mn21, .ref mn19, .ref mn1, .ref mn2, .ref mn3, .ref mn4, .ref mn5, .ref mn6, .ref mn7, .ref mn20, .int 0, .ref mn8, .ref mn9, .ref mn10, .ref mn11, .int 0, .int 0, .int 0, .ref mn12, .int (-1), .int (-1), .ref mn13, .ref mn14, .int 0, .ref mn15, .int 0, .int 0, .ref mn16, .ref mn17, .int 0, .int 0, .ref mn18, .int 0, .int 0, .int 0, .int 0])), (mn21, .inl (T 0, 329, .inl cn45))] H locs := w
  refine lv_aload_n hx hb dL_law_636 rfl (lv_at hl 2 rfl) ?_
  refine k_I (ce := 167) (sl := 5547) (rest := [.int 0]) (wr := []) (r_V (f := 0) [0, 1] M w V_HookedCityLaw_84 G1858 G1859 (c81_X12_parts l D T _ ma0 mn0 mn21 mn19 mn1 mn2 mn3 mn4 mn5 mn6 mn7 mn20 mn8 mn9 mn10 mn11 mn12 mn13 mn14 mn15 mn16 mn17 mn18) 0 clX12 rfl rfl (by decide) rfl hl.1 rfl (Nat.le_of_ble_eq_true rfl) dL_law_637 (by decide) (by decide) (by decide) (by decide)) w [0, 1] [] rfl rfl (by decide) (by decide) rfl rfl (fun v _ H locs hp w => ?_)
  have hp : (0 : Int32) = v := hp
  subst hp
  have w : WD D A s.heap [] H locs := w
  refine lv_icmp_eq (tgt := 1184) hx hb dL_law_640 (by decide) (fun _ => ?_) (fun c => absurd (by decide +kernel) c)
  refine W.widen (k := 400000) (n := 6000000) (by decide) (by decide) ?_
  exact law_exit M hA9 hr hlocks hX hbl w (lv_sub hl [0, 4] rfl)
set_option maxRecDepth 100000 in
set_option maxHeartbeats 4000000 in
theorem law_14 {p : Program} {l : Launch} {e : Env} {s : State} {m : MethodId} {below : List Frame} {meth : Method} {c : Code} {D : va_G} {T : Nat → ClassId} {A : Nat → Prop} {b : Nat} {xs : Nat → Int32} (M : MC p s m #[Value.ref b] c code R_law 7 D T A) (hA9 : ∀ q, A q → s.heap.size ≤ q) (hr : meth.sig.returnType = ret) (hlocks : meth.locks = false) (hX : va_X b 6 xs s s.heap) (hbl : b < s.heap.size) (xa0 xn0 xn2 xn7 xn12 xn18 xn22 xn23 xn26 xn28 xn29 xn30 xn40 xn50 xn55 xn3 xn4 xn5 xn6 xn31 xn32 xn33 xn34 xn35 xn36 xn37 xn38 xn39 ma0 mn0 mn21 mn19 mn1 mn2 mn3 mn4 mn5 mn6 mn7 mn20 mn8 mn9 mn10 mn11 mn12 mn13 mn14 mn15 mn16 mn17 mn18 oo : Nat) {H : Heap} {locs : List Loc} {ls : Array Slot} (w : WD D A s.heap [(xa0, .inr (10, [.ref xn0, .ref xn2, .ref xn7, .ref xn12, .ref xn18, .ref xn22, .ref xn23, .ref xn26, .ref xn28, .ref xn29, .ref xn30, .ref xn40, .ref xn50, .ref xn55, .int 0, .int 0, .int 0])), (xn2, .inr (7, [.ref xn3, .ref xn4, .ref xn5, .ref xn6, .int 0, .int 0, .int 0, .int 0])), (xn30, .inr (9, [.ref xn31, .ref xn32, .ref xn33, .ref xn34, .ref xn35, .ref xn36, .ref xn37, .ref xn38, .ref xn39, .int 0, .int 0, .int 0, .int 0, .int 12, .int 1, .int 0, .int 0, .int 0])), (ma0, .inr (11, [.int 0, .ref mn0, .int 0, .int 0, .int 0, .int 0, .int 0, .int 0, .int 0, .int 0, .int 0, .int 0, .long 0, .int 0, .ref mn21, .ref mn19, .ref mn1, .ref mn2, .ref mn3, .ref mn4, .ref mn5, .ref mn6, .ref mn7, .ref mn20, .int 0, .ref mn8, .ref mn9, .ref mn10, .ref mn11, .int 0, .int 0, .int 0, .ref mn12, .int (-1), .int (-1), .ref mn13, .ref mn14, .int 0, .ref mn15, .int 0, .int 0, .ref mn16, .ref mn17, .int 0, .int 0, .ref mn18, .int 0, .int 0, .int 0, .int 0])), (mn21, .inl (T 0, 329, .inl cn45))] H locs) (hl : lv_has ls 7 [(4, .int 0), (3, .ref oo), (2, .ref ma0), (1, .ref xa0), (0, .ref b)]) : W p l e room_1 s m #[Value.ref b] below meth c H locs 167 5547 (lw_Z below #[Value.ref b] s) (F0 m 645 ls []) := by
  have hx := M.1.1
  have hb := M.1.2.1
  have hbA : ¬ A b := fun h => absurd (hA9 _ h) (Nat.not_le.mpr hbl)
  refine lv_aload_n hx hb dL_law_645 rfl (lv_at hl 3 rfl) ?_
  refine k_I (ce := 167) (sl := 5547) (rest := []) (wr := [(ma0, .inr (11, [.int 0, .ref mn0, .int 0, .int 0, .int 0, .int 0, .int 0, .int 0, .int 0, .int 0, .int 0, .int 0, .long 0, .int 0, .ref mn21, .ref mn19, .ref mn1, .ref mn2, .ref mn3, .ref mn4, .ref mn5, .ref mn6, .ref mn7, .ref mn20, .int 0, .ref mn8, .ref mn9, .ref mn10, .ref mn11, .int 0, .int 0, .int 0, .ref mn12, .int (-1), .int (-1), .ref mn13, .ref mn14, .int 0, .ref mn15, .int 0, .int 0, .ref mn16, .ref mn17, .int 0, .int 0, .ref mn18, .int 0, .int 0, .int 0, .int 0])), (mn21, .inl (T 0, 329, .inl cn45))]) (r_V (f := 1) [0, 1, 2] M w V_HookedCityLaw_85 G939 G940 (c83_X11_quiet l D T _ xa0 xn0 xn2 xn7 xn12 xn18 xn22 xn23 xn26 xn28 xn29 xn30 xn40 xn50 xn55 xn3 xn4 xn5 xn6 xn31 xn32 xn33 xn34 xn35 xn36 xn37 xn38 xn39) 0 clX11 rfl rfl (by decide) rfl hl.1 rfl (Nat.le_of_ble_eq_true rfl) dL_law_646 (by decide) (by decide) (by decide) (by decide)) w [0, 1, 2] [3, 4] rfl rfl (by decide) (by decide) rfl rfl (fun v _ H locs hp w => ?_)
  have hp : (0 : Int32) = v := hp
  subst hp
  have w : WD D A s.heap [(ma0, .inr (11, [.int 0, .ref mn0, .int 0, .int 0, .int 0, .int 0, .int 0, .int 0, .int 0, .int 0, .int 0, .int 0, .long 0, .int 0, .ref mn21, .ref mn19, .ref mn1, .ref mn2, .ref mn3, .ref mn4, .ref mn5, .ref mn6, .ref mn7, .ref mn20, .int 0, .ref mn8, .ref mn9, .ref mn10, .ref mn11, .int 0, .int 0, .int 0, .ref mn12, .int (-1), .int (-1), .ref mn13, .ref mn14, .int 0, .ref mn15, .int 0, .int 0, .ref mn16, .ref mn17, .int 0, .int 0, .ref mn18, .int 0, .int 0, .int 0, .int 0])), (mn21, .inl (T 0, 329, .inl cn45))] H locs := w
  refine lv_aload_n hx hb dL_law_649 rfl (lv_at hl 2 rfl) ?_
  refine k_I (ce := 167) (sl := 5547) (rest := [.int 0]) (wr := []) (r_V (f := 0) [0, 1] M w V_HookedCityLaw_88 G1862 G1863 (c84_X12_quiet l D T _ ma0 mn0 mn21 mn19 mn1 mn2 mn3 mn4 mn5 mn6 mn7 mn20 mn8 mn9 mn10 mn11 mn12 mn13 mn14 mn15 mn16 mn17 mn18) 0 clX12 rfl rfl (by decide) rfl hl.1 rfl (Nat.le_of_ble_eq_true rfl) dL_law_650 (by decide) (by decide) (by decide) (by decide)) w [0, 1] [] rfl rfl (by decide) (by decide) rfl rfl (fun v _ H locs hp w => ?_)
  have hp : (0 : Int32) = v := hp
  subst hp
  have w : WD D A s.heap [] H locs := w
  refine lv_icmp_eq (tgt := 1184) hx hb dL_law_653 (by decide) (fun _ => ?_) (fun c => absurd (by decide +kernel) c)
  refine W.widen (k := 400000) (n := 6000000) (by decide) (by decide) ?_
  exact law_exit M hA9 hr hlocks hX hbl w (lv_sub hl [0, 4] rfl)
set_option maxRecDepth 100000 in
set_option maxHeartbeats 4000000 in
theorem law_15 {p : Program} {l : Launch} {e : Env} {s : State} {m : MethodId} {below : List Frame} {meth : Method} {c : Code} {D : va_G} {T : Nat → ClassId} {A : Nat → Prop} {b : Nat} {xs : Nat → Int32} (M : MC p s m #[Value.ref b] c code R_law 7 D T A) (hA9 : ∀ q, A q → s.heap.size ≤ q) (hr : meth.sig.returnType = ret) (hlocks : meth.locks = false) (hX : va_X b 6 xs s s.heap) (hbl : b < s.heap.size) (xa0 xn0 xn2 xn7 xn12 xn18 xn22 xn23 xn26 xn28 xn29 xn30 xn40 xn50 xn55 xn21 xn19 xn20 xn31 xn32 xn33 xn34 xn35 xn36 xn37 xn38 xn39 ma0 mn0 mn21 mn19 mn1 mn2 mn3 mn4 mn5 mn6 mn7 mn20 mn8 mn9 mn10 mn11 mn12 mn13 mn14 mn15 mn16 mn17 mn18 oo : Nat) {H : Heap} {locs : List Loc} {ls : Array Slot} (w : WD D A s.heap [(xa0, .inr (10, [.ref xn0, .ref xn2, .ref xn7, .ref xn12, .ref xn18, .ref xn22, .ref xn23, .ref xn26, .ref xn28, .ref xn29, .ref xn30, .ref xn40, .ref xn50, .ref xn55, .int 0, .int 0, .int 0])), (xn18, .inr (3, [.ref xn21, .ref xn19, .ref xn20, .int 0, .int 0])), (xn30, .inr (9, [.ref xn31, .ref xn32, .ref xn33, .ref xn34, .ref xn35, .ref xn36, .ref xn37, .ref xn38, .ref xn39, .int 0, .int 0, .int 0, .int 0, .int 12, .int 1, .int 0, .int 0, .int 0])), (xn21, .inl (T 0, 9, .inl cn6)), (xn20, .inl (T 0, 9, .inl (fun _ => 0))), (ma0, .inr (11, [.int 0, .ref mn0, .int 0, .int 0, .int 0, .int 0, .int 0, .int 0, .int 0, .int 0, .int 0, .int 0, .long 0, .int 0, .ref mn21, .ref mn19, .ref mn1, .ref mn2, .ref mn3, .ref mn4, .ref mn5, .ref mn6, .ref mn7, .ref mn20, .int 0, .ref mn8, .ref mn9, .ref mn10, .ref mn11, .int 0, .int 0, .int 0, .ref mn12, .int (-1), .int (-1), .ref mn13, .ref mn14, .int 0, .ref mn15, .int 0, .int 0, .ref mn16, .ref mn17, .int 0, .int 0, .ref mn18, .int 0, .int 0, .int 0, .int 0])), (mn21, .inl (T 0, 329, .inl cn45)), (mn8, .inl (T 0, 9, .inl (fun _ => 0))), (mn11, .inl (T 2, 9, .inl (fun _ => 0)))] H locs) (hl : lv_has ls 7 [(4, .int 0), (3, .ref oo), (2, .ref ma0), (1, .ref xa0), (0, .ref b)]) : W p l e room_1 s m #[Value.ref b] below meth c H locs 167 5547 (lw_Z below #[Value.ref b] s) (F0 m 658 ls []) := by
  have hx := M.1.1
  have hb := M.1.2.1
  have hbA : ¬ A b := fun h => absurd (hA9 _ h) (Nat.not_le.mpr hbl)
  refine lv_aload_n hx hb dL_law_658 rfl (lv_at hl 3 rfl) ?_
  refine k_I (ce := 167) (sl := 5547) (rest := []) (wr := [(ma0, .inr (11, [.int 0, .ref mn0, .int 0, .int 0, .int 0, .int 0, .int 0, .int 0, .int 0, .int 0, .int 0, .int 0, .long 0, .int 0, .ref mn21, .ref mn19, .ref mn1, .ref mn2, .ref mn3, .ref mn4, .ref mn5, .ref mn6, .ref mn7, .ref mn20, .int 0, .ref mn8, .ref mn9, .ref mn10, .ref mn11, .int 0, .int 0, .int 0, .ref mn12, .int (-1), .int (-1), .ref mn13, .ref mn14, .int 0, .ref mn15, .int 0, .int 0, .ref mn16, .ref mn17, .int 0, .int 0, .ref mn18, .int 0, .int 0, .int 0, .int 0])), (mn21, .inl (T 0, 329, .inl cn45)), (mn8, .inl (T 0, 9, .inl (fun _ => 0))), (mn11, .inl (T 2, 9, .inl (fun _ => 0)))]) (r_V (f := 3) [0, 1, 2, 3, 4] M w V_HookedCityLaw_89 G951 G952 (c89_X11_match l D T _ xa0 xn0 xn2 xn7 xn12 xn18 xn22 xn23 xn26 xn28 xn29 xn30 xn40 xn50 xn55 xn21 xn19 xn20 xn31 xn32 xn33 xn34 xn35 xn36 xn37 xn38 xn39) 0 clX11 rfl rfl (by decide) rfl hl.1 rfl (Nat.le_of_ble_eq_true rfl) dL_law_659 (by decide) (by decide) (by decide) (by decide)) w [0, 1, 2, 3, 4] [5, 6, 7, 8] rfl rfl (by decide) (by decide) rfl rfl (fun v _ H locs hp w => ?_)
  have hp : (0 : Int32) = v := hp
  subst hp
  have w : WD D A s.heap [(ma0, .inr (11, [.int 0, .ref mn0, .int 0, .int 0, .int 0, .int 0, .int 0, .int 0, .int 0, .int 0, .int 0, .int 0, .long 0, .int 0, .ref mn21, .ref mn19, .ref mn1, .ref mn2, .ref mn3, .ref mn4, .ref mn5, .ref mn6, .ref mn7, .ref mn20, .int 0, .ref mn8, .ref mn9, .ref mn10, .ref mn11, .int 0, .int 0, .int 0, .ref mn12, .int (-1), .int (-1), .ref mn13, .ref mn14, .int 0, .ref mn15, .int 0, .int 0, .ref mn16, .ref mn17, .int 0, .int 0, .ref mn18, .int 0, .int 0, .int 0, .int 0])), (mn21, .inl (T 0, 329, .inl cn45)), (mn8, .inl (T 0, 9, .inl (fun _ => 0))), (mn11, .inl (T 2, 9, .inl (fun _ => 0)))] H locs := w
  refine lv_aload_n hx hb dL_law_662 rfl (lv_at hl 2 rfl) ?_
  refine k_I (ce := 167) (sl := 5547) (rest := [.int 0]) (wr := []) (r_V (f := 1) [0, 1, 2, 3] M w V_HookedCityLaw_92 G1866 G1867 (c91_X12_match l D T _ ma0 mn0 mn21 mn19 mn1 mn2 mn3 mn4 mn5 mn6 mn7 mn20 mn8 mn9 mn10 mn11 mn12 mn13 mn14 mn15 mn16 mn17 mn18) 0 clX12 rfl rfl (by decide) rfl hl.1 rfl (Nat.le_of_ble_eq_true rfl) dL_law_663 (by decide) (by decide) (by decide) (by decide)) w [0, 1, 2, 3] [] rfl rfl (by decide) (by decide) rfl rfl (fun v _ H locs hp w => ?_)
  have hp : (0 : Int32) = v := hp
  subst hp
  have w : WD D A s.heap [] H locs := w
  refine lv_icmp_eq (tgt := 1184) hx hb dL_law_666 (by decide) (fun _ => ?_) (fun c => absurd (by decide +kernel) c)
  refine W.widen (k := 400000) (n := 6000000) (by decide) (by decide) ?_
  exact law_exit M hA9 hr hlocks hX hbl w (lv_sub hl [0, 4] rfl)
set_option maxRecDepth 100000 in
set_option maxHeartbeats 4000000 in
theorem law_16 {p : Program} {l : Launch} {e : Env} {s : State} {m : MethodId} {below : List Frame} {meth : Method} {c : Code} {D : va_G} {T : Nat → ClassId} {A : Nat → Prop} {b : Nat} {xs : Nat → Int32} (M : MC p s m #[Value.ref b] c code R_law 7 D T A) (hA9 : ∀ q, A q → s.heap.size ≤ q) (hr : meth.sig.returnType = ret) (hlocks : meth.locks = false) (hX : va_X b 6 xs s s.heap) (hbl : b < s.heap.size) (xa0 xn0 xn2 xn7 xn12 xn18 xn22 xn23 xn26 xn28 xn29 xn30 xn40 xn50 xn55 xn21 xn19 xn20 ma0 mn0 mn21 mn19 mn1 mn2 mn3 mn4 mn5 mn6 mn7 mn20 mn8 mn9 mn10 mn11 mn12 mn13 mn14 mn15 mn16 mn17 mn18 oo : Nat) {H : Heap} {locs : List Loc} {ls : Array Slot} (w : WD D A s.heap [(xa0, .inr (10, [.ref xn0, .ref xn2, .ref xn7, .ref xn12, .ref xn18, .ref xn22, .ref xn23, .ref xn26, .ref xn28, .ref xn29, .ref xn30, .ref xn40, .ref xn50, .ref xn55, .int 0, .int 0, .int 0])), (xn18, .inr (3, [.ref xn21, .ref xn19, .ref xn20, .int 0, .int 0])), (xn21, .inl (T 0, 9, .inl cn6)), (ma0, .inr (11, [.int 0, .ref mn0, .int 0, .int 0, .int 0, .int 0, .int 0, .int 0, .int 0, .int 0, .int 0, .int 0, .long 0, .int 0, .ref mn21, .ref mn19, .ref mn1, .ref mn2, .ref mn3, .ref mn4, .ref mn5, .ref mn6, .ref mn7, .ref mn20, .int 0, .ref mn8, .ref mn9, .ref mn10, .ref mn11, .int 0, .int 0, .int 0, .ref mn12, .int (-1), .int (-1), .ref mn13, .ref mn14, .int 0, .ref mn15, .int 0, .int 0, .ref mn16, .ref mn17, .int 0, .int 0, .ref mn18, .int 0, .int 0, .int 0, .int 0]))] H locs) (hl : lv_has ls 7 [(4, .int 0), (3, .ref oo), (2, .ref ma0), (1, .ref xa0), (0, .ref b)]) : W p l e room_1 s m #[Value.ref b] below meth c H locs 167 5547 (lw_Z below #[Value.ref b] s) (F0 m 671 ls []) := by
  have hx := M.1.1
  have hb := M.1.2.1
  have hbA : ¬ A b := fun h => absurd (hA9 _ h) (Nat.not_le.mpr hbl)
  refine lv_aload_n hx hb dL_law_671 rfl (lv_at hl 3 rfl) ?_
  refine lv_aload_n hx hb dL_law_672 rfl (lv_at hl 4 rfl) ?_
  refine lv_iload hx hb dL_law_673 (lv_at hl 0 rfl) ?_
  refine lv_iconst (v := 1) hx hb dL_law_675 (by decide) ?_
  refine r_iadd (v := (1 : Int32)) M (by decide +kernel) dL_law_676 ?_
  refine va_sld hx hb hX hbl hbA w.2.2.1 (vin (by decide +kernel)) dL_law_677 ?_
  refine k_I (ce := 167) (sl := 5547) (rest := []) (wr := [(ma0, .inr (11, [.int 0, .ref mn0, .int 0, .int 0, .int 0, .int 0, .int 0, .int 0, .int 0, .int 0, .int 0, .int 0, .long 0, .int 0, .ref mn21, .ref mn19, .ref mn1, .ref mn2, .ref mn3, .ref mn4, .ref mn5, .ref mn6, .ref mn7, .ref mn20, .int 0, .ref mn8, .ref mn9, .ref mn10, .ref mn11, .int 0, .int 0, .int 0, .ref mn12, .int (-1), .int (-1), .ref mn13, .ref mn14, .int 0, .ref mn15, .int 0, .int 0, .ref mn16, .ref mn17, .int 0, .int 0, .ref mn18, .int 0, .int 0, .int 0, .int 0]))]) (r_V (f := 0) [0, 1, 2] M w V_HookedCityLaw_93 G980 G981 (c92_X11_matched l D T _ xa0 xn0 xn2 xn7 xn12 xn18 xn22 xn23 xn26 xn28 xn29 xn30 xn40 xn50 xn55 xn21 xn19 xn20 (xs (Int32.toNatClampNeg (1 : Int32)))) 0 clX11 rfl rfl (by decide) rfl hl.1 rfl (Nat.le_of_ble_eq_true rfl) dL_law_678 (by decide) (by decide) (by decide) (by decide)) w [0, 1, 2] [3] rfl rfl (by decide) (by decide) rfl rfl (fun v _ H locs hp w => ?_)
  have hp : (-1 : Int32) = v := hp
  subst hp
  have w : WD D A s.heap [(ma0, .inr (11, [.int 0, .ref mn0, .int 0, .int 0, .int 0, .int 0, .int 0, .int 0, .int 0, .int 0, .int 0, .int 0, .long 0, .int 0, .ref mn21, .ref mn19, .ref mn1, .ref mn2, .ref mn3, .ref mn4, .ref mn5, .ref mn6, .ref mn7, .ref mn20, .int 0, .ref mn8, .ref mn9, .ref mn10, .ref mn11, .int 0, .int 0, .int 0, .ref mn12, .int (-1), .int (-1), .ref mn13, .ref mn14, .int 0, .ref mn15, .int 0, .int 0, .ref mn16, .ref mn17, .int 0, .int 0, .ref mn18, .int 0, .int 0, .int 0, .int 0]))] H locs := w
  refine lv_aload_n hx hb dL_law_681 rfl (lv_at hl 2 rfl) ?_
  refine lv_aload_n hx hb dL_law_682 rfl (lv_at hl 4 rfl) ?_
  refine lv_iload hx hb dL_law_683 (lv_at hl 0 rfl) ?_
  refine lv_iconst (v := 1) hx hb dL_law_685 (by decide) ?_
  refine r_iadd (v := (1 : Int32)) M (by decide +kernel) dL_law_686 ?_
  refine va_sld hx hb hX hbl hbA w.2.2.1 (vin (by decide +kernel)) dL_law_687 ?_
  refine k_I (ce := 167) (sl := 5547) (rest := [.int (-1)]) (wr := []) (r_V (f := 0) [0] M w V_HookedCityLaw_96 G1886 G1887 (c93_X12_matched l D T _ ma0 mn0 mn21 mn19 mn1 mn2 mn3 mn4 mn5 mn6 mn7 mn20 mn8 mn9 mn10 mn11 mn12 mn13 mn14 mn15 mn16 mn17 mn18 (xs (Int32.toNatClampNeg (1 : Int32)))) 0 clX12 rfl rfl (by decide) rfl hl.1 rfl (Nat.le_of_ble_eq_true rfl) dL_law_688 (by decide) (by decide) (by decide) (by decide)) w [0] [] rfl rfl (by decide) (by decide) rfl rfl (fun v _ H locs hp w => ?_)
  have hp : (-1 : Int32) = v := hp
  subst hp
  have w : WD D A s.heap [] H locs := w
  refine lv_icmp_eq (tgt := 1184) hx hb dL_law_691 (by decide) (fun _ => ?_) (fun c => absurd (by decide +kernel) c)
  refine W.widen (k := 400000) (n := 6000000) (by decide) (by decide) ?_
  exact law_exit M hA9 hr hlocks hX hbl w (lv_sub hl [0, 4] rfl)
set_option maxRecDepth 100000 in
set_option maxHeartbeats 4000000 in
theorem law_17 {p : Program} {l : Launch} {e : Env} {s : State} {m : MethodId} {below : List Frame} {meth : Method} {c : Code} {D : va_G} {T : Nat → ClassId} {A : Nat → Prop} {b : Nat} {xs : Nat → Int32} (M : MC p s m #[Value.ref b] c code R_law 7 D T A) (hA9 : ∀ q, A q → s.heap.size ≤ q) (hr : meth.sig.returnType = ret) (hlocks : meth.locks = false) (hX : va_X b 6 xs s s.heap) (hbl : b < s.heap.size) (xa0 xn0 xn2 xn7 xn12 xn18 xn22 xn23 xn26 xn28 xn29 xn30 xn40 xn50 xn55 ma0 mn0 mn21 mn19 mn1 mn2 mn3 mn4 mn5 mn6 mn7 mn20 mn8 mn9 mn10 mn11 mn12 mn13 mn14 mn15 mn16 mn17 mn18 oo : Nat) {H : Heap} {locs : List Loc} {ls : Array Slot} (w : WD D A s.heap [(xa0, .inr (10, [.ref xn0, .ref xn2, .ref xn7, .ref xn12, .ref xn18, .ref xn22, .ref xn23, .ref xn26, .ref xn28, .ref xn29, .ref xn30, .ref xn40, .ref xn50, .ref xn55, .int 0, .int 0, .int 0])), (ma0, .inr (11, [.int 0, .ref mn0, .int 0, .int 0, .int 0, .int 0, .int 0, .int 0, .int 0, .int 0, .int 0, .int 0, .long 0, .int 0, .ref mn21, .ref mn19, .ref mn1, .ref mn2, .ref mn3, .ref mn4, .ref mn5, .ref mn6, .ref mn7, .ref mn20, .int 0, .ref mn8, .ref mn9, .ref mn10, .ref mn11, .int 0, .int 0, .int 0, .ref mn12, .int (-1), .int (-1), .ref mn13, .ref mn14, .int 0, .ref mn15, .int 0, .int 0, .ref mn16, .ref mn17, .int 0, .int 0, .ref mn18, .int 0, .int 0, .int 0, .int 0]))] H locs) (hl : lv_has ls 7 [(4, .int 0), (3, .ref oo), (2, .ref ma0), (1, .ref xa0), (0, .ref b)]) : W p l e room_1 s m #[Value.ref b] below meth c H locs 167 5547 (lw_Z below #[Value.ref b] s) (F0 m 696 ls []) := by
  have hx := M.1.1
  have hb := M.1.2.1
  have hbA : ¬ A b := fun h => absurd (hA9 _ h) (Nat.not_le.mpr hbl)
  refine lv_aload_n hx hb dL_law_696 rfl (lv_at hl 3 rfl) ?_
  refine k_I (ce := 167) (sl := 5547) (rest := []) (wr := [(ma0, .inr (11, [.int 0, .ref mn0, .int 0, .int 0, .int 0, .int 0, .int 0, .int 0, .int 0, .int 0, .int 0, .int 0, .long 0, .int 0, .ref mn21, .ref mn19, .ref mn1, .ref mn2, .ref mn3, .ref mn4, .ref mn5, .ref mn6, .ref mn7, .ref mn20, .int 0, .ref mn8, .ref mn9, .ref mn10, .ref mn11, .int 0, .int 0, .int 0, .ref mn12, .int (-1), .int (-1), .ref mn13, .ref mn14, .int 0, .ref mn15, .int 0, .int 0, .ref mn16, .ref mn17, .int 0, .int 0, .ref mn18, .int 0, .int 0, .int 0, .int 0]))]) (r_V (f := 0) [0] M w V_HookedCityLaw_97 G984 G985 (c94_X11_takes l D T _ xa0 xn0 xn2 xn7 xn12 xn18 xn22 xn23 xn26 xn28 xn29 xn30 xn40 xn50 xn55) 0 clX11 rfl rfl (by decide) rfl hl.1 rfl (Nat.le_of_ble_eq_true rfl) dL_law_697 (by decide) (by decide) (by decide) (by decide)) w [0] [1] rfl rfl (by decide) (by decide) rfl rfl (fun v _ H locs hp w => ?_)
  have hp : (-1 : Int32) = v := hp
  subst hp
  have w : WD D A s.heap [(ma0, .inr (11, [.int 0, .ref mn0, .int 0, .int 0, .int 0, .int 0, .int 0, .int 0, .int 0, .int 0, .int 0, .int 0, .long 0, .int 0, .ref mn21, .ref mn19, .ref mn1, .ref mn2, .ref mn3, .ref mn4, .ref mn5, .ref mn6, .ref mn7, .ref mn20, .int 0, .ref mn8, .ref mn9, .ref mn10, .ref mn11, .int 0, .int 0, .int 0, .ref mn12, .int (-1), .int (-1), .ref mn13, .ref mn14, .int 0, .ref mn15, .int 0, .int 0, .ref mn16, .ref mn17, .int 0, .int 0, .ref mn18, .int 0, .int 0, .int 0, .int 0]))] H locs := w
  refine lv_aload_n hx hb dL_law_700 rfl (lv_at hl 2 rfl) ?_
  refine k_I (ce := 167) (sl := 5547) (rest := [.int (-1)]) (wr := []) (r_V (f := 0) [0] M w V_HookedCityLaw_100 G1890 G1891 (c95_X12_takes l D T _ ma0 mn0 mn21 mn19 mn1 mn2 mn3 mn4 mn5 mn6 mn7 mn20 mn8 mn9 mn10 mn11 mn12 mn13 mn14 mn15 mn16 mn17 mn18) 0 clX12 rfl rfl (by decide) rfl hl.1 rfl (Nat.le_of_ble_eq_true rfl) dL_law_701 (by decide) (by decide) (by decide) (by decide)) w [0] [] rfl rfl (by decide) (by decide) rfl rfl (fun v _ H locs hp w => ?_)
  have hp : (-1 : Int32) = v := hp
  subst hp
  have w : WD D A s.heap [] H locs := w
  refine lv_icmp_eq (tgt := 1184) hx hb dL_law_704 (by decide) (fun _ => ?_) (fun c => absurd (by decide +kernel) c)
  refine W.widen (k := 400000) (n := 6000000) (by decide) (by decide) ?_
  exact law_exit M hA9 hr hlocks hX hbl w (lv_sub hl [0, 4] rfl)
set_option maxRecDepth 100000 in
set_option maxHeartbeats 4000000 in
theorem law_18 {p : Program} {l : Launch} {e : Env} {s : State} {m : MethodId} {below : List Frame} {meth : Method} {c : Code} {D : va_G} {T : Nat → ClassId} {A : Nat → Prop} {b : Nat} {xs : Nat → Int32} (M : MC p s m #[Value.ref b] c code R_law 7 D T A) (hA9 : ∀ q, A q → s.heap.size ≤ q) (hr : meth.sig.returnType = ret) (hlocks : meth.locks = false) (hX : va_X b 6 xs s s.heap) (hbl : b < s.heap.size) (xa0 xn0 xn2 xn7 xn12 xn18 xn22 xn23 xn26 xn28 xn29 xn30 xn40 xn50 xn55 xn1 xn31 xn32 xn33 xn34 xn35 xn36 xn37 xn38 xn39 ma0 mn0 mn21 mn19 mn1 mn2 mn3 mn4 mn5 mn6 mn7 mn20 mn8 mn9 mn10 mn11 mn12 mn13 mn14 mn15 mn16 mn17 mn18 oo : Nat) {H : Heap} {locs : List Loc} {ls : Array Slot} (w : WD D A s.heap [(xa0, .inr (10, [.ref xn0, .ref xn2, .ref xn7, .ref xn12, .ref xn18, .ref xn22, .ref xn23, .ref xn26, .ref xn28, .ref xn29, .ref xn30, .ref xn40, .ref xn50, .ref xn55, .int 0, .int 0, .int 0])), (xn0, .inr (8, [.ref xn1, .int 0, .int 0, .int 0, .int 0, .int 0, .null, .long 0, .int 0, .int 0, .int 0, .int 0])), (xn22, .inr (6, [.int (-1), .int (-1)])), (xn30, .inr (9, [.ref xn31, .ref xn32, .ref xn33, .ref xn34, .ref xn35, .ref xn36, .ref xn37, .ref xn38, .ref xn39, .int 0, .int 0, .int 0, .int 0, .int 12, .int 1, .int 0, .int 0, .int 0])), (ma0, .inr (11, [.int 0, .ref mn0, .int 0, .int 0, .int 0, .int 0, .int 0, .int 0, .int 0, .int 0, .int 0, .int 0, .long 0, .int 0, .ref mn21, .ref mn19, .ref mn1, .ref mn2, .ref mn3, .ref mn4, .ref mn5, .ref mn6, .ref mn7, .ref mn20, .int 0, .ref mn8, .ref mn9, .ref mn10, .ref mn11, .int 0, .int 0, .int 0, .ref mn12, .int (-1), .int (-1), .ref mn13, .ref mn14, .int 0, .ref mn15, .int 0, .int 0, .ref mn16, .ref mn17, .int 0, .int 0, .ref mn18, .int 0, .int 0, .int 0, .int 0]))] H locs) (hl : lv_has ls 7 [(4, .int 0), (3, .ref oo), (2, .ref ma0), (1, .ref xa0), (0, .ref b)]) : W p l e room_1 s m #[Value.ref b] below meth c H locs 167 5547 (lw_Z below #[Value.ref b] s) (F0 m 709 ls []) := by
  have hx := M.1.1
  have hb := M.1.2.1
  have hbA : ¬ A b := fun h => absurd (hA9 _ h) (Nat.not_le.mpr hbl)
  refine lv_aload_n hx hb dL_law_709 rfl (lv_at hl 3 rfl) ?_
  refine k_I (ce := 167) (sl := 5547) (rest := []) (wr := [(ma0, .inr (11, [.int 0, .ref mn0, .int 0, .int 0, .int 0, .int 0, .int 0, .int 0, .int 0, .int 0, .int 0, .int 0, .long 0, .int 0, .ref mn21, .ref mn19, .ref mn1, .ref mn2, .ref mn3, .ref mn4, .ref mn5, .ref mn6, .ref mn7, .ref mn20, .int 0, .ref mn8, .ref mn9, .ref mn10, .ref mn11, .int 0, .int 0, .int 0, .ref mn12, .int (-1), .int (-1), .ref mn13, .ref mn14, .int 0, .ref mn15, .int 0, .int 0, .ref mn16, .ref mn17, .int 0, .int 0, .ref mn18, .int 0, .int 0, .int 0, .int 0]))]) (r_V (f := 2) [0, 1, 2, 3] M w V_HookedCityLaw_101 G996 G997 (c99_X11_slips l D T _ xa0 xn0 xn2 xn7 xn12 xn18 xn22 xn23 xn26 xn28 xn29 xn30 xn40 xn50 xn55 xn1 xn31 xn32 xn33 xn34 xn35 xn36 xn37 xn38 xn39) 0 clX11 rfl rfl (by decide) rfl hl.1 rfl (Nat.le_of_ble_eq_true rfl) dL_law_710 (by decide) (by decide) (by decide) (by decide)) w [0, 1, 2, 3] [4] rfl rfl (by decide) (by decide) rfl rfl (fun v _ H locs hp w => ?_)
  have hp : (-1 : Int32) = v := hp
  subst hp
  have w : WD D A s.heap [(ma0, .inr (11, [.int 0, .ref mn0, .int 0, .int 0, .int 0, .int 0, .int 0, .int 0, .int 0, .int 0, .int 0, .int 0, .long 0, .int 0, .ref mn21, .ref mn19, .ref mn1, .ref mn2, .ref mn3, .ref mn4, .ref mn5, .ref mn6, .ref mn7, .ref mn20, .int 0, .ref mn8, .ref mn9, .ref mn10, .ref mn11, .int 0, .int 0, .int 0, .ref mn12, .int (-1), .int (-1), .ref mn13, .ref mn14, .int 0, .ref mn15, .int 0, .int 0, .ref mn16, .ref mn17, .int 0, .int 0, .ref mn18, .int 0, .int 0, .int 0, .int 0]))] H locs := w
  refine lv_aload_n hx hb dL_law_713 rfl (lv_at hl 2 rfl) ?_
  refine k_I (ce := 167) (sl := 5547) (rest := [.int (-1)]) (wr := []) (r_V (f := 1) [0] M w V_HookedCityLaw_104 G1894 G1895 (c101_X12_slips l D T _ ma0 mn0 mn21 mn19 mn1 mn2 mn3 mn4 mn5 mn6 mn7 mn20 mn8 mn9 mn10 mn11 mn12 mn13 mn14 mn15 mn16 mn17 mn18) 0 clX12 rfl rfl (by decide) rfl hl.1 rfl (Nat.le_of_ble_eq_true rfl) dL_law_714 (by decide) (by decide) (by decide) (by decide)) w [0] [] rfl rfl (by decide) (by decide) rfl rfl (fun v _ H locs hp w => ?_)
  have hp : (-1 : Int32) = v := hp
  subst hp
  have w : WD D A s.heap [] H locs := w
  refine lv_icmp_eq (tgt := 1184) hx hb dL_law_717 (by decide) (fun _ => ?_) (fun c => absurd (by decide +kernel) c)
  refine W.widen (k := 400000) (n := 6000000) (by decide) (by decide) ?_
  exact law_exit M hA9 hr hlocks hX hbl w (lv_sub hl [0, 4] rfl)
set_option maxRecDepth 100000 in
set_option maxHeartbeats 4000000 in
theorem law_19 {p : Program} {l : Launch} {e : Env} {s : State} {m : MethodId} {below : List Frame} {meth : Method} {c : Code} {D : va_G} {T : Nat → ClassId} {A : Nat → Prop} {b : Nat} {xs : Nat → Int32} (M : MC p s m #[Value.ref b] c code R_law 7 D T A) (hA9 : ∀ q, A q → s.heap.size ≤ q) (hr : meth.sig.returnType = ret) (hlocks : meth.locks = false) (hX : va_X b 6 xs s s.heap) (hbl : b < s.heap.size) (xa0 xn0 xn2 xn7 xn12 xn18 xn22 xn23 xn26 xn28 xn29 xn30 xn40 xn50 xn55 ma0 mn0 mn21 mn19 mn1 mn2 mn3 mn4 mn5 mn6 mn7 mn20 mn8 mn9 mn10 mn11 mn12 mn13 mn14 mn15 mn16 mn17 mn18 oo : Nat) {H : Heap} {locs : List Loc} {ls : Array Slot} (w : WD D A s.heap [(xa0, .inr (10, [.ref xn0, .ref xn2, .ref xn7, .ref xn12, .ref xn18, .ref xn22, .ref xn23, .ref xn26, .ref xn28, .ref xn29, .ref xn30, .ref xn40, .ref xn50, .ref xn55, .int 0, .int 0, .int 0])), (xn22, .inr (6, [.int (-1), .int (-1)])), (ma0, .inr (11, [.int 0, .ref mn0, .int 0, .int 0, .int 0, .int 0, .int 0, .int 0, .int 0, .int 0, .int 0, .int 0, .long 0, .int 0, .ref mn21, .ref mn19, .ref mn1, .ref mn2, .ref mn3, .ref mn4, .ref mn5, .ref mn6, .ref mn7, .ref mn20, .int 0, .ref mn8, .ref mn9, .ref mn10, .ref mn11, .int 0, .int 0, .int 0, .ref mn12, .int (-1), .int (-1), .ref mn13, .ref mn14, .int 0, .ref mn15, .int 0, .int 0, .ref mn16, .ref mn17, .int 0, .int 0, .ref mn18, .int 0, .int 0, .int 0, .int 0]))] H locs) (hl : lv_has ls 7 [(4, .int 0), (3, .ref oo), (2, .ref ma0), (1, .ref xa0), (0, .ref b)]) : W p l e room_1 s m #[Value.ref b] below meth c H locs 167 5547 (lw_Z below #[Value.ref b] s) (F0 m 722 ls []) := by
  have hx := M.1.1
  have hb := M.1.2.1
  have hbA : ¬ A b := fun h => absurd (hA9 _ h) (Nat.not_le.mpr hbl)
  refine lv_aload_n hx hb dL_law_722 rfl (lv_at hl 3 rfl) ?_
  refine k_I (ce := 167) (sl := 5547) (rest := []) (wr := [(ma0, .inr (11, [.int 0, .ref mn0, .int 0, .int 0, .int 0, .int 0, .int 0, .int 0, .int 0, .int 0, .int 0, .int 0, .long 0, .int 0, .ref mn21, .ref mn19, .ref mn1, .ref mn2, .ref mn3, .ref mn4, .ref mn5, .ref mn6, .ref mn7, .ref mn20, .int 0, .ref mn8, .ref mn9, .ref mn10, .ref mn11, .int 0, .int 0, .int 0, .ref mn12, .int (-1), .int (-1), .ref mn13, .ref mn14, .int 0, .ref mn15, .int 0, .int 0, .ref mn16, .ref mn17, .int 0, .int 0, .ref mn18, .int 0, .int 0, .int 0, .int 0]))]) (r_V (f := 0) [0, 1] M w V_HookedCityLaw_105 G1030 G1031 (c102_X11_slipLeast l D T _ xa0 xn0 xn2 xn7 xn12 xn18 xn22 xn23 xn26 xn28 xn29 xn30 xn40 xn50 xn55) 0 clX11 rfl rfl (by decide) rfl hl.1 rfl (Nat.le_of_ble_eq_true rfl) dL_law_723 (by decide) (by decide) (by decide) (by decide)) w [0, 1] [2] rfl rfl (by decide) (by decide) rfl rfl (fun v _ H locs hp w => ?_)
  have hp : (-1 : Int32) = v := hp
  subst hp
  have w : WD D A s.heap [(ma0, .inr (11, [.int 0, .ref mn0, .int 0, .int 0, .int 0, .int 0, .int 0, .int 0, .int 0, .int 0, .int 0, .int 0, .long 0, .int 0, .ref mn21, .ref mn19, .ref mn1, .ref mn2, .ref mn3, .ref mn4, .ref mn5, .ref mn6, .ref mn7, .ref mn20, .int 0, .ref mn8, .ref mn9, .ref mn10, .ref mn11, .int 0, .int 0, .int 0, .ref mn12, .int (-1), .int (-1), .ref mn13, .ref mn14, .int 0, .ref mn15, .int 0, .int 0, .ref mn16, .ref mn17, .int 0, .int 0, .ref mn18, .int 0, .int 0, .int 0, .int 0]))] H locs := w
  refine lv_aload_n hx hb dL_law_726 rfl (lv_at hl 2 rfl) ?_
  refine k_I (ce := 167) (sl := 5547) (rest := [.int (-1)]) (wr := []) (r_V (f := 0) [0] M w V_HookedCityLaw_108 G1906 G1907 (c103_X12_slipLeast l D T _ ma0 mn0 mn21 mn19 mn1 mn2 mn3 mn4 mn5 mn6 mn7 mn20 mn8 mn9 mn10 mn11 mn12 mn13 mn14 mn15 mn16 mn17 mn18) 0 clX12 rfl rfl (by decide) rfl hl.1 rfl (Nat.le_of_ble_eq_true rfl) dL_law_727 (by decide) (by decide) (by decide) (by decide)) w [0] [] rfl rfl (by decide) (by decide) rfl rfl (fun v _ H locs hp w => ?_)
  have hp : (-1 : Int32) = v := hp
  subst hp
  have w : WD D A s.heap [] H locs := w
  refine lv_icmp_eq (tgt := 1184) hx hb dL_law_730 (by decide) (fun _ => ?_) (fun c => absurd (by decide +kernel) c)
  refine W.widen (k := 400000) (n := 6000000) (by decide) (by decide) ?_
  exact law_exit M hA9 hr hlocks hX hbl w (lv_sub hl [0, 4] rfl)
set_option maxRecDepth 100000 in
set_option maxHeartbeats 4000000 in
theorem law_20 {p : Program} {l : Launch} {e : Env} {s : State} {m : MethodId} {below : List Frame} {meth : Method} {c : Code} {D : va_G} {T : Nat → ClassId} {A : Nat → Prop} {b : Nat} {xs : Nat → Int32} (M : MC p s m #[Value.ref b] c code R_law 7 D T A) (hA9 : ∀ q, A q → s.heap.size ≤ q) (hr : meth.sig.returnType = ret) (hlocks : meth.locks = false) (hX : va_X b 6 xs s s.heap) (hbl : b < s.heap.size) (xa0 xn0 xn2 xn7 xn12 xn18 xn22 xn23 xn26 xn28 xn29 xn30 xn40 xn50 xn55 ma0 mn0 mn21 mn19 mn1 mn2 mn3 mn4 mn5 mn6 mn7 mn20 mn8 mn9 mn10 mn11 mn12 mn13 mn14 mn15 mn16 mn17 mn18 oo : Nat) {H : Heap} {locs : List Loc} {ls : Array Slot} (w : WD D A s.heap [(xa0, .inr (10, [.ref xn0, .ref xn2, .ref xn7, .ref xn12, .ref xn18, .ref xn22, .ref xn23, .ref xn26, .ref xn28, .ref xn29, .ref xn30, .ref xn40, .ref xn50, .ref xn55, .int 0, .int 0, .int 0])), (xn22, .inr (6, [.int (-1), .int (-1)])), (ma0, .inr (11, [.int 0, .ref mn0, .int 0, .int 0, .int 0, .int 0, .int 0, .int 0, .int 0, .int 0, .int 0, .int 0, .long 0, .int 0, .ref mn21, .ref mn19, .ref mn1, .ref mn2, .ref mn3, .ref mn4, .ref mn5, .ref mn6, .ref mn7, .ref mn20, .int 0, .ref mn8, .ref mn9, .ref mn10, .ref mn11, .int 0, .int 0, .int 0, .ref mn12, .int (-1), .int (-1), .ref mn13, .ref mn14, .int 0, .ref mn15, .int 0, .int 0, .ref mn16, .ref mn17, .int 0, .int 0, .ref mn18, .int 0, .int 0, .int 0, .int 0]))] H locs) (hl : lv_has ls 7 [(4, .int 0), (3, .ref oo), (2, .ref ma0), (1, .ref xa0), (0, .ref b)]) : W p l e room_1 s m #[Value.ref b] below meth c H locs 167 5547 (lw_Z below #[Value.ref b] s) (F0 m 735 ls []) := by
  have hx := M.1.1
  have hb := M.1.2.1
  have hbA : ¬ A b := fun h => absurd (hA9 _ h) (Nat.not_le.mpr hbl)
  refine lv_aload_n hx hb dL_law_735 rfl (lv_at hl 3 rfl) ?_
  refine k_I (ce := 167) (sl := 5547) (rest := []) (wr := [(ma0, .inr (11, [.int 0, .ref mn0, .int 0, .int 0, .int 0, .int 0, .int 0, .int 0, .int 0, .int 0, .int 0, .int 0, .long 0, .int 0, .ref mn21, .ref mn19, .ref mn1, .ref mn2, .ref mn3, .ref mn4, .ref mn5, .ref mn6, .ref mn7, .ref mn20, .int 0, .ref mn8, .ref mn9, .ref mn10, .ref mn11, .int 0, .int 0, .int 0, .ref mn12, .int (-1), .int (-1), .ref mn13, .ref mn14, .int 0, .ref mn15, .int 0, .int 0, .ref mn16, .ref mn17, .int 0, .int 0, .ref mn18, .int 0, .int 0, .int 0, .int 0]))]) (r_V (f := 0) [0, 1] M w V_HookedCityLaw_109 G1034 G1035 (c104_X11_turn l D T _ xa0 xn0 xn2 xn7 xn12 xn18 xn22 xn23 xn26 xn28 xn29 xn30 xn40 xn50 xn55) 0 clX11 rfl rfl (by decide) rfl hl.1 rfl (Nat.le_of_ble_eq_true rfl) dL_law_736 (by decide) (by decide) (by decide) (by decide)) w [0, 1] [2] rfl rfl (by decide) (by decide) rfl rfl (fun v _ H locs hp w => ?_)
  have hp : (-1 : Int32) = v := hp
  subst hp
  have w : WD D A s.heap [(ma0, .inr (11, [.int 0, .ref mn0, .int 0, .int 0, .int 0, .int 0, .int 0, .int 0, .int 0, .int 0, .int 0, .int 0, .long 0, .int 0, .ref mn21, .ref mn19, .ref mn1, .ref mn2, .ref mn3, .ref mn4, .ref mn5, .ref mn6, .ref mn7, .ref mn20, .int 0, .ref mn8, .ref mn9, .ref mn10, .ref mn11, .int 0, .int 0, .int 0, .ref mn12, .int (-1), .int (-1), .ref mn13, .ref mn14, .int 0, .ref mn15, .int 0, .int 0, .ref mn16, .ref mn17, .int 0, .int 0, .ref mn18, .int 0, .int 0, .int 0, .int 0]))] H locs := w
  refine lv_aload_n hx hb dL_law_739 rfl (lv_at hl 2 rfl) ?_
  refine k_I (ce := 167) (sl := 5547) (rest := [.int (-1)]) (wr := []) (r_V (f := 0) [0] M w V_HookedCityLaw_112 G1910 G1911 (c105_X12_turn l D T _ ma0 mn0 mn21 mn19 mn1 mn2 mn3 mn4 mn5 mn6 mn7 mn20 mn8 mn9 mn10 mn11 mn12 mn13 mn14 mn15 mn16 mn17 mn18) 0 clX12 rfl rfl (by decide) rfl hl.1 rfl (Nat.le_of_ble_eq_true rfl) dL_law_740 (by decide) (by decide) (by decide) (by decide)) w [0] [] rfl rfl (by decide) (by decide) rfl rfl (fun v _ H locs hp w => ?_)
  have hp : (-1 : Int32) = v := hp
  subst hp
  have w : WD D A s.heap [] H locs := w
  refine lv_icmp_eq (tgt := 1184) hx hb dL_law_743 (by decide) (fun _ => ?_) (fun c => absurd (by decide +kernel) c)
  refine W.widen (k := 400000) (n := 6000000) (by decide) (by decide) ?_
  exact law_exit M hA9 hr hlocks hX hbl w (lv_sub hl [0, 4] rfl)
set_option maxRecDepth 100000 in
set_option maxHeartbeats 4000000 in
theorem law_21 {p : Program} {l : Launch} {e : Env} {s : State} {m : MethodId} {below : List Frame} {meth : Method} {c : Code} {D : va_G} {T : Nat → ClassId} {A : Nat → Prop} {b : Nat} {xs : Nat → Int32} (M : MC p s m #[Value.ref b] c code R_law 7 D T A) (hA9 : ∀ q, A q → s.heap.size ≤ q) (hr : meth.sig.returnType = ret) (hlocks : meth.locks = false) (hX : va_X b 6 xs s s.heap) (hbl : b < s.heap.size) (xa0 xn0 xn2 xn7 xn12 xn18 xn22 xn23 xn26 xn28 xn29 xn30 xn40 xn50 xn55 xn31 xn32 xn33 xn34 xn35 xn36 xn37 xn38 xn39 ma0 mn0 mn21 mn19 mn1 mn2 mn3 mn4 mn5 mn6 mn7 mn20 mn8 mn9 mn10 mn11 mn12 mn13 mn14 mn15 mn16 mn17 mn18 oo : Nat) {H : Heap} {locs : List Loc} {ls : Array Slot} (w : WD D A s.heap [(xa0, .inr (10, [.ref xn0, .ref xn2, .ref xn7, .ref xn12, .ref xn18, .ref xn22, .ref xn23, .ref xn26, .ref xn28, .ref xn29, .ref xn30, .ref xn40, .ref xn50, .ref xn55, .int 0, .int 0, .int 0])), (xn30, .inr (9, [.ref xn31, .ref xn32, .ref xn33, .ref xn34, .ref xn35, .ref xn36, .ref xn37, .ref xn38, .ref xn39, .int 0, .int 0, .int 0, .int 0, .int 12, .int 1, .int 0, .int 0, .int 0])), (ma0, .inr (11, [.int 0, .ref mn0, .int 0, .int 0, .int 0, .int 0, .int 0, .int 0, .int 0, .int 0, .int 0, .int 0, .long 0, .int 0, .ref mn21, .ref mn19, .ref mn1, .ref mn2, .ref mn3, .ref mn4, .ref mn5, .ref mn6, .ref mn7, .ref mn20, .int 0, .ref mn8, .ref mn9, .ref mn10, .ref mn11, .int 0, .int 0, .int 0, .ref mn12, .int (-1), .int (-1), .ref mn13, .ref mn14, .int 0, .ref mn15, .int 0, .int 0, .ref mn16, .ref mn17, .int 0, .int 0, .ref mn18, .int 0, .int 0, .int 0, .int 0])), (mn21, .inl (T 0, 329, .inl cn45))] H locs) (hl : lv_has ls 7 [(4, .int 0), (3, .ref oo), (2, .ref ma0), (1, .ref xa0), (0, .ref b)]) : W p l e room_1 s m #[Value.ref b] below meth c H locs 167 5547 (lw_Z below #[Value.ref b] s) (F0 m 748 ls []) := by
  have hx := M.1.1
  have hb := M.1.2.1
  have hbA : ¬ A b := fun h => absurd (hA9 _ h) (Nat.not_le.mpr hbl)
  refine lv_aload_n hx hb dL_law_748 rfl (lv_at hl 3 rfl) ?_
  refine lv_aload_n hx hb dL_law_749 rfl (lv_at hl 4 rfl) ?_
  refine lv_iload hx hb dL_law_750 (lv_at hl 0 rfl) ?_
  refine lv_iconst (v := 1) hx hb dL_law_752 (by decide) ?_
  refine r_iadd (v := (1 : Int32)) M (by decide +kernel) dL_law_753 ?_
  refine va_sld hx hb hX hbl hbA w.2.2.1 (vin (by decide +kernel)) dL_law_754 ?_
  refine lv_aload_n hx hb dL_law_755 rfl (lv_at hl 4 rfl) ?_
  refine lv_iload hx hb dL_law_756 (lv_at hl 0 rfl) ?_
  refine lv_iconst (v := 2) hx hb dL_law_758 (by decide) ?_
  refine r_iadd (v := (2 : Int32)) M (by decide +kernel) dL_law_759 ?_
  refine va_sld hx hb hX hbl hbA w.2.2.1 (vin (by decide +kernel)) dL_law_760 ?_
  refine k_I (ce := 167) (sl := 5547) (rest := []) (wr := [(ma0, .inr (11, [.int 0, .ref mn0, .int 0, .int 0, .int 0, .int 0, .int 0, .int 0, .int 0, .int 0, .int 0, .int 0, .long 0, .int 0, .ref mn21, .ref mn19, .ref mn1, .ref mn2, .ref mn3, .ref mn4, .ref mn5, .ref mn6, .ref mn7, .ref mn20, .int 0, .ref mn8, .ref mn9, .ref mn10, .ref mn11, .int 0, .int 0, .int 0, .ref mn12, .int (-1), .int (-1), .ref mn13, .ref mn14, .int 0, .ref mn15, .int 0, .int 0, .ref mn16, .ref mn17, .int 0, .int 0, .ref mn18, .int 0, .int 0, .int 0, .int 0])), (mn21, .inl (T 0, 329, .inl cn45))]) (r_V (f := 1) [0, 1] M w V_HookedCityLaw_113 G1038 G1039 (c106_X11_way l D T _ xa0 xn0 xn2 xn7 xn12 xn18 xn22 xn23 xn26 xn28 xn29 xn30 xn40 xn50 xn55 xn31 xn32 xn33 xn34 xn35 xn36 xn37 xn38 xn39 (xs (Int32.toNatClampNeg (1 : Int32))) (xs (Int32.toNatClampNeg (2 : Int32)))) 0 clX11 rfl rfl (by decide) rfl hl.1 rfl (Nat.le_of_ble_eq_true rfl) dL_law_761 (by decide) (by decide) (by decide) (by decide)) w [0, 1] [2, 3] rfl rfl (by decide) (by decide) rfl rfl (fun v _ H locs hp w => ?_)
  have hp : (-1 : Int32) = v := hp
  subst hp
  have w : WD D A s.heap [(ma0, .inr (11, [.int 0, .ref mn0, .int 0, .int 0, .int 0, .int 0, .int 0, .int 0, .int 0, .int 0, .int 0, .int 0, .long 0, .int 0, .ref mn21, .ref mn19, .ref mn1, .ref mn2, .ref mn3, .ref mn4, .ref mn5, .ref mn6, .ref mn7, .ref mn20, .int 0, .ref mn8, .ref mn9, .ref mn10, .ref mn11, .int 0, .int 0, .int 0, .ref mn12, .int (-1), .int (-1), .ref mn13, .ref mn14, .int 0, .ref mn15, .int 0, .int 0, .ref mn16, .ref mn17, .int 0, .int 0, .ref mn18, .int 0, .int 0, .int 0, .int 0])), (mn21, .inl (T 0, 329, .inl cn45))] H locs := w
  refine lv_aload_n hx hb dL_law_764 rfl (lv_at hl 2 rfl) ?_
  refine lv_aload_n hx hb dL_law_765 rfl (lv_at hl 4 rfl) ?_
  refine lv_iload hx hb dL_law_766 (lv_at hl 0 rfl) ?_
  refine lv_iconst (v := 1) hx hb dL_law_768 (by decide) ?_
  refine r_iadd (v := (1 : Int32)) M (by decide +kernel) dL_law_769 ?_
  refine va_sld hx hb hX hbl hbA w.2.2.1 (vin (by decide +kernel)) dL_law_770 ?_
  refine lv_aload_n hx hb dL_law_771 rfl (lv_at hl 4 rfl) ?_
  refine lv_iload hx hb dL_law_772 (lv_at hl 0 rfl) ?_
  refine lv_iconst (v := 2) hx hb dL_law_774 (by decide) ?_
  refine r_iadd (v := (2 : Int32)) M (by decide +kernel) dL_law_775 ?_
  refine va_sld hx hb hX hbl hbA w.2.2.1 (vin (by decide +kernel)) dL_law_776 ?_
  refine k_I (ce := 167) (sl := 5547) (rest := [.int (-1)]) (wr := []) (r_V (f := 2) [0, 1] M w V_HookedCityLaw_116 G1914 G1915 (c107_X12_way l D T _ ma0 mn0 mn21 mn19 mn1 mn2 mn3 mn4 mn5 mn6 mn7 mn20 mn8 mn9 mn10 mn11 mn12 mn13 mn14 mn15 mn16 mn17 mn18 (xs (Int32.toNatClampNeg (1 : Int32))) (xs (Int32.toNatClampNeg (2 : Int32)))) 0 clX12 rfl rfl (by decide) rfl hl.1 rfl (Nat.le_of_ble_eq_true rfl) dL_law_777 (by decide) (by decide) (by decide) (by decide)) w [0, 1] [] rfl rfl (by decide) (by decide) rfl rfl (fun v _ H locs hp w => ?_)
  have hp : (-1 : Int32) = v := hp
  subst hp
  have w : WD D A s.heap [] H locs := w
  refine lv_icmp_eq (tgt := 1184) hx hb dL_law_780 (by decide) (fun _ => ?_) (fun c => absurd (by decide +kernel) c)
  refine W.widen (k := 400000) (n := 6000000) (by decide) (by decide) ?_
  exact law_exit M hA9 hr hlocks hX hbl w (lv_sub hl [0, 4] rfl)
set_option maxRecDepth 100000 in
set_option maxHeartbeats 4000000 in
theorem law_22 {p : Program} {l : Launch} {e : Env} {s : State} {m : MethodId} {below : List Frame} {meth : Method} {c : Code} {D : va_G} {T : Nat → ClassId} {A : Nat → Prop} {b : Nat} {xs : Nat → Int32} (M : MC p s m #[Value.ref b] c code R_law 7 D T A) (hA9 : ∀ q, A q → s.heap.size ≤ q) (hr : meth.sig.returnType = ret) (hlocks : meth.locks = false) (hX : va_X b 6 xs s s.heap) (hbl : b < s.heap.size) (xa0 xn0 xn2 xn7 xn12 xn18 xn22 xn23 xn26 xn28 xn29 xn30 xn40 xn50 xn55 xn24 xn25 ma0 mn0 mn21 mn19 mn1 mn2 mn3 mn4 mn5 mn6 mn7 mn20 mn8 mn9 mn10 mn11 mn12 mn13 mn14 mn15 mn16 mn17 mn18 oo : Nat) {H : Heap} {locs : List Loc} {ls : Array Slot} (w : WD D A s.heap [(xa0, .inr (10, [.ref xn0, .ref xn2, .ref xn7, .ref xn12, .ref xn18, .ref xn22, .ref xn23, .ref xn26, .ref xn28, .ref xn29, .ref xn30, .ref xn40, .ref xn50, .ref xn55, .int 0, .int 0, .int 0])), (xn23, .inr (4, [.ref xn24, .ref xn25, .int 0])), (ma0, .inr (11, [.int 0, .ref mn0, .int 0, .int 0, .int 0, .int 0, .int 0, .int 0, .int 0, .int 0, .int 0, .int 0, .long 0, .int 0, .ref mn21, .ref mn19, .ref mn1, .ref mn2, .ref mn3, .ref mn4, .ref mn5, .ref mn6, .ref mn7, .ref mn20, .int 0, .ref mn8, .ref mn9, .ref mn10, .ref mn11, .int 0, .int 0, .int 0, .ref mn12, .int (-1), .int (-1), .ref mn13, .ref mn14, .int 0, .ref mn15, .int 0, .int 0, .ref mn16, .ref mn17, .int 0, .int 0, .ref mn18, .int 0, .int 0, .int 0, .int 0]))] H locs) (hl : lv_has ls 7 [(4, .int 0), (3, .ref oo), (2, .ref ma0), (1, .ref xa0), (0, .ref b)]) : W p l e room_1 s m #[Value.ref b] below meth c H locs 167 5547 (lw_Z below #[Value.ref b] s) (F0 m 785 ls []) := by
  have hx := M.1.1
  have hb := M.1.2.1
  have hbA : ¬ A b := fun h => absurd (hA9 _ h) (Nat.not_le.mpr hbl)
  refine lv_aload_n hx hb dL_law_785 rfl (lv_at hl 3 rfl) ?_
  refine lv_aload_n hx hb dL_law_786 rfl (lv_at hl 4 rfl) ?_
  refine lv_iload hx hb dL_law_787 (lv_at hl 0 rfl) ?_
  refine lv_iconst (v := 1) hx hb dL_law_789 (by decide) ?_
  refine r_iadd (v := (1 : Int32)) M (by decide +kernel) dL_law_790 ?_
  refine va_sld hx hb hX hbl hbA w.2.2.1 (vin (by decide +kernel)) dL_law_791 ?_
  refine k_I (ce := 167) (sl := 5547) (rest := []) (wr := [(ma0, .inr (11, [.int 0, .ref mn0, .int 0, .int 0, .int 0, .int 0, .int 0, .int 0, .int 0, .int 0, .int 0, .int 0, .long 0, .int 0, .ref mn21, .ref mn19, .ref mn1, .ref mn2, .ref mn3, .ref mn4, .ref mn5, .ref mn6, .ref mn7, .ref mn20, .int 0, .ref mn8, .ref mn9, .ref mn10, .ref mn11, .int 0, .int 0, .int 0, .ref mn12, .int (-1), .int (-1), .ref mn13, .ref mn14, .int 0, .ref mn15, .int 0, .int 0, .ref mn16, .ref mn17, .int 0, .int 0, .ref mn18, .int 0, .int 0, .int 0, .int 0]))]) (r_V (f := 0) [0, 1] M w V_HookedCityLaw_117 G1057 G1058 (c108_X11_wayAt l D T _ xa0 xn0 xn2 xn7 xn12 xn18 xn22 xn23 xn26 xn28 xn29 xn30 xn40 xn50 xn55 xn24 xn25 (xs (Int32.toNatClampNeg (1 : Int32)))) 0 clX11 rfl rfl (by decide) rfl hl.1 rfl (Nat.le_of_ble_eq_true rfl) dL_law_792 (by decide) (by decide) (by decide) (by decide)) w [0, 1] [2] rfl rfl (by decide) (by decide) rfl rfl (fun v _ H locs hp w => ?_)
  have hp : (-1 : Int32) = v := hp
  subst hp
  have w : WD D A s.heap [(ma0, .inr (11, [.int 0, .ref mn0, .int 0, .int 0, .int 0, .int 0, .int 0, .int 0, .int 0, .int 0, .int 0, .int 0, .long 0, .int 0, .ref mn21, .ref mn19, .ref mn1, .ref mn2, .ref mn3, .ref mn4, .ref mn5, .ref mn6, .ref mn7, .ref mn20, .int 0, .ref mn8, .ref mn9, .ref mn10, .ref mn11, .int 0, .int 0, .int 0, .ref mn12, .int (-1), .int (-1), .ref mn13, .ref mn14, .int 0, .ref mn15, .int 0, .int 0, .ref mn16, .ref mn17, .int 0, .int 0, .ref mn18, .int 0, .int 0, .int 0, .int 0]))] H locs := w
  refine lv_aload_n hx hb dL_law_795 rfl (lv_at hl 2 rfl) ?_
  refine lv_aload_n hx hb dL_law_796 rfl (lv_at hl 4 rfl) ?_
  refine lv_iload hx hb dL_law_797 (lv_at hl 0 rfl) ?_
  refine lv_iconst (v := 1) hx hb dL_law_799 (by decide) ?_
  refine r_iadd (v := (1 : Int32)) M (by decide +kernel) dL_law_800 ?_
  refine va_sld hx hb hX hbl hbA w.2.2.1 (vin (by decide +kernel)) dL_law_801 ?_
  refine k_I (ce := 167) (sl := 5547) (rest := [.int (-1)]) (wr := []) (r_V (f := 1) [0] M w V_HookedCityLaw_120 G1919 G1920 (c109_X12_wayAt l D T _ ma0 mn0 mn21 mn19 mn1 mn2 mn3 mn4 mn5 mn6 mn7 mn20 mn8 mn9 mn10 mn11 mn12 mn13 mn14 mn15 mn16 mn17 mn18 (xs (Int32.toNatClampNeg (1 : Int32)))) 0 clX12 rfl rfl (by decide) rfl hl.1 rfl (Nat.le_of_ble_eq_true rfl) dL_law_802 (by decide) (by decide) (by decide) (by decide)) w [0] [] rfl rfl (by decide) (by decide) rfl rfl (fun v _ H locs hp w => ?_)
  have hp : (-1 : Int32) = v := hp
  subst hp
  have w : WD D A s.heap [] H locs := w
  refine lv_icmp_eq (tgt := 1184) hx hb dL_law_805 (by decide) (fun _ => ?_) (fun c => absurd (by decide +kernel) c)
  refine W.widen (k := 400000) (n := 6000000) (by decide) (by decide) ?_
  exact law_exit M hA9 hr hlocks hX hbl w (lv_sub hl [0, 4] rfl)
set_option maxRecDepth 100000 in
set_option maxHeartbeats 4000000 in
theorem law_23 {p : Program} {l : Launch} {e : Env} {s : State} {m : MethodId} {below : List Frame} {meth : Method} {c : Code} {D : va_G} {T : Nat → ClassId} {A : Nat → Prop} {b : Nat} {xs : Nat → Int32} (M : MC p s m #[Value.ref b] c code R_law 7 D T A) (hA9 : ∀ q, A q → s.heap.size ≤ q) (hr : meth.sig.returnType = ret) (hlocks : meth.locks = false) (hX : va_X b 6 xs s s.heap) (hbl : b < s.heap.size) (xa0 xn0 xn2 xn7 xn12 xn18 xn22 xn23 xn26 xn28 xn29 xn30 xn40 xn50 xn55 xn31 xn32 xn33 xn34 xn35 xn36 xn37 xn38 xn39 ma0 mn0 mn21 mn19 mn1 mn2 mn3 mn4 mn5 mn6 mn7 mn20 mn8 mn9 mn10 mn11 mn12 mn13 mn14 mn15 mn16 mn17 mn18 oo : Nat) {H : Heap} {locs : List Loc} {ls : Array Slot} (w : WD D A s.heap [(xa0, .inr (10, [.ref xn0, .ref xn2, .ref xn7, .ref xn12, .ref xn18, .ref xn22, .ref xn23, .ref xn26, .ref xn28, .ref xn29, .ref xn30, .ref xn40, .ref xn50, .ref xn55, .int 0, .int 0, .int 0])), (xn30, .inr (9, [.ref xn31, .ref xn32, .ref xn33, .ref xn34, .ref xn35, .ref xn36, .ref xn37, .ref xn38, .ref xn39, .int 0, .int 0, .int 0, .int 0, .int 12, .int 1, .int 0, .int 0, .int 0])), (ma0, .inr (11, [.int 0, .ref mn0, .int 0, .int 0, .int 0, .int 0, .int 0, .int 0, .int 0, .int 0, .int 0, .int 0, .long 0, .int 0, .ref mn21, .ref mn19, .ref mn1, .ref mn2, .ref mn3, .ref mn4, .ref mn5, .ref mn6, .ref mn7, .ref mn20, .int 0, .ref mn8, .ref mn9, .ref mn10, .ref mn11, .int 0, .int 0, .int 0, .ref mn12, .int (-1), .int (-1), .ref mn13, .ref mn14, .int 0, .ref mn15, .int 0, .int 0, .ref mn16, .ref mn17, .int 0, .int 0, .ref mn18, .int 0, .int 0, .int 0, .int 0])), (mn21, .inl (T 0, 329, .inl cn45))] H locs) (hl : lv_has ls 7 [(4, .int 0), (3, .ref oo), (2, .ref ma0), (1, .ref xa0), (0, .ref b)]) : W p l e room_1 s m #[Value.ref b] below meth c H locs 167 5547 (lw_Z below #[Value.ref b] s) (F0 m 810 ls []) := by
  have hx := M.1.1
  have hb := M.1.2.1
  have hbA : ¬ A b := fun h => absurd (hA9 _ h) (Nat.not_le.mpr hbl)
  refine lv_aload_n hx hb dL_law_810 rfl (lv_at hl 3 rfl) ?_
  refine lv_aload_n hx hb dL_law_811 rfl (lv_at hl 4 rfl) ?_
  refine lv_iload hx hb dL_law_812 (lv_at hl 0 rfl) ?_
  refine lv_iconst (v := 1) hx hb dL_law_814 (by decide) ?_
  refine r_iadd (v := (1 : Int32)) M (by decide +kernel) dL_law_815 ?_
  refine va_sld hx hb hX hbl hbA w.2.2.1 (vin (by decide +kernel)) dL_law_816 ?_
  refine k_I (ce := 167) (sl := 5547) (rest := []) (wr := [(ma0, .inr (11, [.int 0, .ref mn0, .int 0, .int 0, .int 0, .int 0, .int 0, .int 0, .int 0, .int 0, .int 0, .int 0, .long 0, .int 0, .ref mn21, .ref mn19, .ref mn1, .ref mn2, .ref mn3, .ref mn4, .ref mn5, .ref mn6, .ref mn7, .ref mn20, .int 0, .ref mn8, .ref mn9, .ref mn10, .ref mn11, .int 0, .int 0, .int 0, .ref mn12, .int (-1), .int (-1), .ref mn13, .ref mn14, .int 0, .ref mn15, .int 0, .int 0, .ref mn16, .ref mn17, .int 0, .int 0, .ref mn18, .int 0, .int 0, .int 0, .int 0])), (mn21, .inl (T 0, 329, .inl cn45))]) (r_V (f := 1) [0, 1] M w V_HookedCityLaw_121 G1061 G1062 (c110_X11_lasts l D T _ xa0 xn0 xn2 xn7 xn12 xn18 xn22 xn23 xn26 xn28 xn29 xn30 xn40 xn50 xn55 xn31 xn32 xn33 xn34 xn35 xn36 xn37 xn38 xn39 (xs (Int32.toNatClampNeg (1 : Int32)))) 0 clX11 rfl rfl (by decide) rfl hl.1 rfl (Nat.le_of_ble_eq_true rfl) dL_law_817 (by decide) (by decide) (by decide) (by decide)) w [0, 1] [2, 3] rfl rfl (by decide) (by decide) rfl rfl (fun v _ H locs hp w => ?_)
  have hp : (-1 : Int32) = v := hp
  subst hp
  have w : WD D A s.heap [(ma0, .inr (11, [.int 0, .ref mn0, .int 0, .int 0, .int 0, .int 0, .int 0, .int 0, .int 0, .int 0, .int 0, .int 0, .long 0, .int 0, .ref mn21, .ref mn19, .ref mn1, .ref mn2, .ref mn3, .ref mn4, .ref mn5, .ref mn6, .ref mn7, .ref mn20, .int 0, .ref mn8, .ref mn9, .ref mn10, .ref mn11, .int 0, .int 0, .int 0, .ref mn12, .int (-1), .int (-1), .ref mn13, .ref mn14, .int 0, .ref mn15, .int 0, .int 0, .ref mn16, .ref mn17, .int 0, .int 0, .ref mn18, .int 0, .int 0, .int 0, .int 0])), (mn21, .inl (T 0, 329, .inl cn45))] H locs := w
  refine lv_aload_n hx hb dL_law_820 rfl (lv_at hl 2 rfl) ?_
  refine lv_aload_n hx hb dL_law_821 rfl (lv_at hl 4 rfl) ?_
  refine lv_iload hx hb dL_law_822 (lv_at hl 0 rfl) ?_
  refine lv_iconst (v := 1) hx hb dL_law_824 (by decide) ?_
  refine r_iadd (v := (1 : Int32)) M (by decide +kernel) dL_law_825 ?_
  refine va_sld hx hb hX hbl hbA w.2.2.1 (vin (by decide +kernel)) dL_law_826 ?_
  refine k_I (ce := 167) (sl := 5547) (rest := [.int (-1)]) (wr := []) (r_V (f := 2) [0, 1] M w V_HookedCityLaw_124 G1923 G1924 (c111_X12_lasts l D T _ ma0 mn0 mn21 mn19 mn1 mn2 mn3 mn4 mn5 mn6 mn7 mn20 mn8 mn9 mn10 mn11 mn12 mn13 mn14 mn15 mn16 mn17 mn18 (xs (Int32.toNatClampNeg (1 : Int32)))) 0 clX12 rfl rfl (by decide) rfl hl.1 rfl (Nat.le_of_ble_eq_true rfl) dL_law_827 (by decide) (by decide) (by decide) (by decide)) w [0, 1] [] rfl rfl (by decide) (by decide) rfl rfl (fun v _ H locs hp w => ?_)
  have hp : (-1 : Int32) = v := hp
  subst hp
  have w : WD D A s.heap [] H locs := w
  refine lv_icmp_eq (tgt := 1184) hx hb dL_law_830 (by decide) (fun _ => ?_) (fun c => absurd (by decide +kernel) c)
  refine W.widen (k := 400000) (n := 6000000) (by decide) (by decide) ?_
  exact law_exit M hA9 hr hlocks hX hbl w (lv_sub hl [0, 4] rfl)
set_option maxRecDepth 100000 in
set_option maxHeartbeats 4000000 in
theorem law_24 {p : Program} {l : Launch} {e : Env} {s : State} {m : MethodId} {below : List Frame} {meth : Method} {c : Code} {D : va_G} {T : Nat → ClassId} {A : Nat → Prop} {b : Nat} {xs : Nat → Int32} (M : MC p s m #[Value.ref b] c code R_law 7 D T A) (hA9 : ∀ q, A q → s.heap.size ≤ q) (hr : meth.sig.returnType = ret) (hlocks : meth.locks = false) (hX : va_X b 6 xs s s.heap) (hbl : b < s.heap.size) (xa0 xn0 xn2 xn7 xn12 xn18 xn22 xn23 xn26 xn28 xn29 xn30 xn40 xn50 xn55 xn31 xn32 xn33 xn34 xn35 xn36 xn37 xn38 xn39 ma0 mn0 mn21 mn19 mn1 mn2 mn3 mn4 mn5 mn6 mn7 mn20 mn8 mn9 mn10 mn11 mn12 mn13 mn14 mn15 mn16 mn17 mn18 oo : Nat) {H : Heap} {locs : List Loc} {ls : Array Slot} (w : WD D A s.heap [(xa0, .inr (10, [.ref xn0, .ref xn2, .ref xn7, .ref xn12, .ref xn18, .ref xn22, .ref xn23, .ref xn26, .ref xn28, .ref xn29, .ref xn30, .ref xn40, .ref xn50, .ref xn55, .int 0, .int 0, .int 0])), (xn30, .inr (9, [.ref xn31, .ref xn32, .ref xn33, .ref xn34, .ref xn35, .ref xn36, .ref xn37, .ref xn38, .ref xn39, .int 0, .int 0, .int 0, .int 0, .int 12, .int 1, .int 0, .int 0, .int 0])), (ma0, .inr (11, [.int 0, .ref mn0, .int 0, .int 0, .int 0, .int 0, .int 0, .int 0, .int 0, .int 0, .int 0, .int 0, .long 0, .int 0, .ref mn21, .ref mn19, .ref mn1, .ref mn2, .ref mn3, .ref mn4, .ref mn5, .ref mn6, .ref mn7, .ref mn20, .int 0, .ref mn8, .ref mn9, .ref mn10, .ref mn11, .int 0, .int 0, .int 0, .ref mn12, .int (-1), .int (-1), .ref mn13, .ref mn14, .int 0, .ref mn15, .int 0, .int 0, .ref mn16, .ref mn17, .int 0, .int 0, .ref mn18, .int 0, .int 0, .int 0, .int 0])), (mn21, .inl (T 0, 329, .inl cn45))] H locs) (hl : lv_has ls 7 [(4, .int 0), (3, .ref oo), (2, .ref ma0), (1, .ref xa0), (0, .ref b)]) : W p l e room_1 s m #[Value.ref b] below meth c H locs 167 5547 (lw_Z below #[Value.ref b] s) (F0 m 835 ls []) := by
  have hx := M.1.1
  have hb := M.1.2.1
  have hbA : ¬ A b := fun h => absurd (hA9 _ h) (Nat.not_le.mpr hbl)
  refine lv_aload_n hx hb dL_law_835 rfl (lv_at hl 3 rfl) ?_
  refine lv_aload_n hx hb dL_law_836 rfl (lv_at hl 4 rfl) ?_
  refine lv_iload hx hb dL_law_837 (lv_at hl 0 rfl) ?_
  refine lv_iconst (v := 1) hx hb dL_law_839 (by decide) ?_
  refine r_iadd (v := (1 : Int32)) M (by decide +kernel) dL_law_840 ?_
  refine va_sld hx hb hX hbl hbA w.2.2.1 (vin (by decide +kernel)) dL_law_841 ?_
  refine k_I (ce := 167) (sl := 5547) (rest := []) (wr := [(ma0, .inr (11, [.int 0, .ref mn0, .int 0, .int 0, .int 0, .int 0, .int 0, .int 0, .int 0, .int 0, .int 0, .int 0, .long 0, .int 0, .ref mn21, .ref mn19, .ref mn1, .ref mn2, .ref mn3, .ref mn4, .ref mn5, .ref mn6, .ref mn7, .ref mn20, .int 0, .ref mn8, .ref mn9, .ref mn10, .ref mn11, .int 0, .int 0, .int 0, .ref mn12, .int (-1), .int (-1), .ref mn13, .ref mn14, .int 0, .ref mn15, .int 0, .int 0, .ref mn16, .ref mn17, .int 0, .int 0, .ref mn18, .int 0, .int 0, .int 0, .int 0])), (mn21, .inl (T 0, 329, .inl cn45))]) (r_V (f := 1) [0, 1] M w V_HookedCityLaw_125 G1069 G1070 (c112_X11_near l D T _ xa0 xn0 xn2 xn7 xn12 xn18 xn22 xn23 xn26 xn28 xn29 xn30 xn40 xn50 xn55 xn31 xn32 xn33 xn34 xn35 xn36 xn37 xn38 xn39 (xs (Int32.toNatClampNeg (1 : Int32)))) 0 clX11 rfl rfl (by decide) rfl hl.1 rfl (Nat.le_of_ble_eq_true rfl) dL_law_842 (by decide) (by decide) (by decide) (by decide)) w [0, 1] [2, 3] rfl rfl (by decide) (by decide) rfl rfl (fun v _ H locs hp w => ?_)
  have hp : (-1 : Int32) = v := hp
  subst hp
  have w : WD D A s.heap [(ma0, .inr (11, [.int 0, .ref mn0, .int 0, .int 0, .int 0, .int 0, .int 0, .int 0, .int 0, .int 0, .int 0, .int 0, .long 0, .int 0, .ref mn21, .ref mn19, .ref mn1, .ref mn2, .ref mn3, .ref mn4, .ref mn5, .ref mn6, .ref mn7, .ref mn20, .int 0, .ref mn8, .ref mn9, .ref mn10, .ref mn11, .int 0, .int 0, .int 0, .ref mn12, .int (-1), .int (-1), .ref mn13, .ref mn14, .int 0, .ref mn15, .int 0, .int 0, .ref mn16, .ref mn17, .int 0, .int 0, .ref mn18, .int 0, .int 0, .int 0, .int 0])), (mn21, .inl (T 0, 329, .inl cn45))] H locs := w
  refine lv_aload_n hx hb dL_law_845 rfl (lv_at hl 2 rfl) ?_
  refine lv_aload_n hx hb dL_law_846 rfl (lv_at hl 4 rfl) ?_
  refine lv_iload hx hb dL_law_847 (lv_at hl 0 rfl) ?_
  refine lv_iconst (v := 1) hx hb dL_law_849 (by decide) ?_
  refine r_iadd (v := (1 : Int32)) M (by decide +kernel) dL_law_850 ?_
  refine va_sld hx hb hX hbl hbA w.2.2.1 (vin (by decide +kernel)) dL_law_851 ?_
  refine k_I (ce := 167) (sl := 5547) (rest := [.int (-1)]) (wr := []) (r_V (f := 2) [0, 1] M w V_HookedCityLaw_128 G1927 G1928 (c113_X12_near l D T _ ma0 mn0 mn21 mn19 mn1 mn2 mn3 mn4 mn5 mn6 mn7 mn20 mn8 mn9 mn10 mn11 mn12 mn13 mn14 mn15 mn16 mn17 mn18 (xs (Int32.toNatClampNeg (1 : Int32)))) 0 clX12 rfl rfl (by decide) rfl hl.1 rfl (Nat.le_of_ble_eq_true rfl) dL_law_852 (by decide) (by decide) (by decide) (by decide)) w [0, 1] [] rfl rfl (by decide) (by decide) rfl rfl (fun v _ H locs hp w => ?_)
  have hp : (-1 : Int32) = v := hp
  subst hp
  have w : WD D A s.heap [] H locs := w
  refine lv_icmp_eq (tgt := 1184) hx hb dL_law_855 (by decide) (fun _ => ?_) (fun c => absurd (by decide +kernel) c)
  refine W.widen (k := 400000) (n := 6000000) (by decide) (by decide) ?_
  exact law_exit M hA9 hr hlocks hX hbl w (lv_sub hl [0, 4] rfl)
set_option maxRecDepth 100000 in
set_option maxHeartbeats 4000000 in
theorem law_25 {p : Program} {l : Launch} {e : Env} {s : State} {m : MethodId} {below : List Frame} {meth : Method} {c : Code} {D : va_G} {T : Nat → ClassId} {A : Nat → Prop} {b : Nat} {xs : Nat → Int32} (M : MC p s m #[Value.ref b] c code R_law 7 D T A) (hA9 : ∀ q, A q → s.heap.size ≤ q) (hr : meth.sig.returnType = ret) (hlocks : meth.locks = false) (hX : va_X b 6 xs s s.heap) (hbl : b < s.heap.size) (xa0 xn0 xn2 xn7 xn12 xn18 xn22 xn23 xn26 xn28 xn29 xn30 xn40 xn50 xn55 xn31 xn32 xn33 xn34 xn35 xn36 xn37 xn38 xn39 ma0 mn0 mn21 mn19 mn1 mn2 mn3 mn4 mn5 mn6 mn7 mn20 mn8 mn9 mn10 mn11 mn12 mn13 mn14 mn15 mn16 mn17 mn18 oo : Nat) {H : Heap} {locs : List Loc} {ls : Array Slot} (w : WD D A s.heap [(xa0, .inr (10, [.ref xn0, .ref xn2, .ref xn7, .ref xn12, .ref xn18, .ref xn22, .ref xn23, .ref xn26, .ref xn28, .ref xn29, .ref xn30, .ref xn40, .ref xn50, .ref xn55, .int 0, .int 0, .int 0])), (xn30, .inr (9, [.ref xn31, .ref xn32, .ref xn33, .ref xn34, .ref xn35, .ref xn36, .ref xn37, .ref xn38, .ref xn39, .int 0, .int 0, .int 0, .int 0, .int 12, .int 1, .int 0, .int 0, .int 0])), (ma0, .inr (11, [.int 0, .ref mn0, .int 0, .int 0, .int 0, .int 0, .int 0, .int 0, .int 0, .int 0, .int 0, .int 0, .long 0, .int 0, .ref mn21, .ref mn19, .ref mn1, .ref mn2, .ref mn3, .ref mn4, .ref mn5, .ref mn6, .ref mn7, .ref mn20, .int 0, .ref mn8, .ref mn9, .ref mn10, .ref mn11, .int 0, .int 0, .int 0, .ref mn12, .int (-1), .int (-1), .ref mn13, .ref mn14, .int 0, .ref mn15, .int 0, .int 0, .ref mn16, .ref mn17, .int 0, .int 0, .ref mn18, .int 0, .int 0, .int 0, .int 0])), (mn21, .inl (T 0, 329, .inl cn45))] H locs) (hl : lv_has ls 7 [(4, .int 0), (3, .ref oo), (2, .ref ma0), (1, .ref xa0), (0, .ref b)]) : W p l e room_1 s m #[Value.ref b] below meth c H locs 167 5547 (lw_Z below #[Value.ref b] s) (F0 m 860 ls []) := by
  have hx := M.1.1
  have hb := M.1.2.1
  have hbA : ¬ A b := fun h => absurd (hA9 _ h) (Nat.not_le.mpr hbl)
  refine lv_aload_n hx hb dL_law_860 rfl (lv_at hl 3 rfl) ?_
  refine lv_aload_n hx hb dL_law_861 rfl (lv_at hl 4 rfl) ?_
  refine lv_iload hx hb dL_law_862 (lv_at hl 0 rfl) ?_
  refine lv_iconst (v := 1) hx hb dL_law_864 (by decide) ?_
  refine r_iadd (v := (1 : Int32)) M (by decide +kernel) dL_law_865 ?_
  refine va_sld hx hb hX hbl hbA w.2.2.1 (vin (by decide +kernel)) dL_law_866 ?_
  refine k_I (ce := 167) (sl := 5547) (rest := []) (wr := [(ma0, .inr (11, [.int 0, .ref mn0, .int 0, .int 0, .int 0, .int 0, .int 0, .int 0, .int 0, .int 0, .int 0, .int 0, .long 0, .int 0, .ref mn21, .ref mn19, .ref mn1, .ref mn2, .ref mn3, .ref mn4, .ref mn5, .ref mn6, .ref mn7, .ref mn20, .int 0, .ref mn8, .ref mn9, .ref mn10, .ref mn11, .int 0, .int 0, .int 0, .ref mn12, .int (-1), .int (-1), .ref mn13, .ref mn14, .int 0, .ref mn15, .int 0, .int 0, .ref mn16, .ref mn17, .int 0, .int 0, .ref mn18, .int 0, .int 0, .int 0, .int 0])), (mn21, .inl (T 0, 329, .inl cn45))]) (r_V (f := 1) [0, 1] M w V_HookedCityLaw_129 G1073 G1074 (c114_X11_could l D T _ xa0 xn0 xn2 xn7 xn12 xn18 xn22 xn23 xn26 xn28 xn29 xn30 xn40 xn50 xn55 xn31 xn32 xn33 xn34 xn35 xn36 xn37 xn38 xn39 (xs (Int32.toNatClampNeg (1 : Int32)))) 0 clX11 rfl rfl (by decide) rfl hl.1 rfl (Nat.le_of_ble_eq_true rfl) dL_law_867 (by decide) (by decide) (by decide) (by decide)) w [0, 1] [2, 3] rfl rfl (by decide) (by decide) rfl rfl (fun v _ H locs hp w => ?_)
  have hp : (-1 : Int32) = v := hp
  subst hp
  have w : WD D A s.heap [(ma0, .inr (11, [.int 0, .ref mn0, .int 0, .int 0, .int 0, .int 0, .int 0, .int 0, .int 0, .int 0, .int 0, .int 0, .long 0, .int 0, .ref mn21, .ref mn19, .ref mn1, .ref mn2, .ref mn3, .ref mn4, .ref mn5, .ref mn6, .ref mn7, .ref mn20, .int 0, .ref mn8, .ref mn9, .ref mn10, .ref mn11, .int 0, .int 0, .int 0, .ref mn12, .int (-1), .int (-1), .ref mn13, .ref mn14, .int 0, .ref mn15, .int 0, .int 0, .ref mn16, .ref mn17, .int 0, .int 0, .ref mn18, .int 0, .int 0, .int 0, .int 0])), (mn21, .inl (T 0, 329, .inl cn45))] H locs := w
  refine lv_aload_n hx hb dL_law_870 rfl (lv_at hl 2 rfl) ?_
  refine lv_aload_n hx hb dL_law_871 rfl (lv_at hl 4 rfl) ?_
  refine lv_iload hx hb dL_law_872 (lv_at hl 0 rfl) ?_
  refine lv_iconst (v := 1) hx hb dL_law_874 (by decide) ?_
  refine r_iadd (v := (1 : Int32)) M (by decide +kernel) dL_law_875 ?_
  refine va_sld hx hb hX hbl hbA w.2.2.1 (vin (by decide +kernel)) dL_law_876 ?_
  refine k_I (ce := 167) (sl := 5547) (rest := [.int (-1)]) (wr := []) (r_V (f := 2) [0, 1] M w V_HookedCityLaw_132 G1931 G1932 (c115_X12_could l D T _ ma0 mn0 mn21 mn19 mn1 mn2 mn3 mn4 mn5 mn6 mn7 mn20 mn8 mn9 mn10 mn11 mn12 mn13 mn14 mn15 mn16 mn17 mn18 (xs (Int32.toNatClampNeg (1 : Int32)))) 0 clX12 rfl rfl (by decide) rfl hl.1 rfl (Nat.le_of_ble_eq_true rfl) dL_law_877 (by decide) (by decide) (by decide) (by decide)) w [0, 1] [] rfl rfl (by decide) (by decide) rfl rfl (fun v _ H locs hp w => ?_)
  have hp : (-1 : Int32) = v := hp
  subst hp
  have w : WD D A s.heap [] H locs := w
  refine lv_icmp_eq (tgt := 1184) hx hb dL_law_880 (by decide) (fun _ => ?_) (fun c => absurd (by decide +kernel) c)
  refine W.widen (k := 400000) (n := 6000000) (by decide) (by decide) ?_
  exact law_exit M hA9 hr hlocks hX hbl w (lv_sub hl [0, 4] rfl)
set_option maxRecDepth 100000 in
set_option maxHeartbeats 4000000 in
theorem law_26 {p : Program} {l : Launch} {e : Env} {s : State} {m : MethodId} {below : List Frame} {meth : Method} {c : Code} {D : va_G} {T : Nat → ClassId} {A : Nat → Prop} {b : Nat} {xs : Nat → Int32} (M : MC p s m #[Value.ref b] c code R_law 7 D T A) (hA9 : ∀ q, A q → s.heap.size ≤ q) (hr : meth.sig.returnType = ret) (hlocks : meth.locks = false) (hX : va_X b 6 xs s s.heap) (hbl : b < s.heap.size) (xa0 xn0 xn2 xn7 xn12 xn18 xn22 xn23 xn26 xn28 xn29 xn30 xn40 xn50 xn55 xn31 xn32 xn33 xn34 xn35 xn36 xn37 xn38 xn39 ma0 mn0 mn21 mn19 mn1 mn2 mn3 mn4 mn5 mn6 mn7 mn20 mn8 mn9 mn10 mn11 mn12 mn13 mn14 mn15 mn16 mn17 mn18 oo : Nat) {H : Heap} {locs : List Loc} {ls : Array Slot} (w : WD D A s.heap [(xa0, .inr (10, [.ref xn0, .ref xn2, .ref xn7, .ref xn12, .ref xn18, .ref xn22, .ref xn23, .ref xn26, .ref xn28, .ref xn29, .ref xn30, .ref xn40, .ref xn50, .ref xn55, .int 0, .int 0, .int 0])), (xn30, .inr (9, [.ref xn31, .ref xn32, .ref xn33, .ref xn34, .ref xn35, .ref xn36, .ref xn37, .ref xn38, .ref xn39, .int 0, .int 0, .int 0, .int 0, .int 12, .int 1, .int 0, .int 0, .int 0])), (ma0, .inr (11, [.int 0, .ref mn0, .int 0, .int 0, .int 0, .int 0, .int 0, .int 0, .int 0, .int 0, .int 0, .int 0, .long 0, .int 0, .ref mn21, .ref mn19, .ref mn1, .ref mn2, .ref mn3, .ref mn4, .ref mn5, .ref mn6, .ref mn7, .ref mn20, .int 0, .ref mn8, .ref mn9, .ref mn10, .ref mn11, .int 0, .int 0, .int 0, .ref mn12, .int (-1), .int (-1), .ref mn13, .ref mn14, .int 0, .ref mn15, .int 0, .int 0, .ref mn16, .ref mn17, .int 0, .int 0, .ref mn18, .int 0, .int 0, .int 0, .int 0])), (mn21, .inl (T 0, 329, .inl cn45))] H locs) (hl : lv_has ls 7 [(4, .int 0), (3, .ref oo), (2, .ref ma0), (1, .ref xa0), (0, .ref b)]) : W p l e room_1 s m #[Value.ref b] below meth c H locs 167 5547 (lw_Z below #[Value.ref b] s) (F0 m 885 ls []) := by
  have hx := M.1.1
  have hb := M.1.2.1
  have hbA : ¬ A b := fun h => absurd (hA9 _ h) (Nat.not_le.mpr hbl)
  refine lv_aload_n hx hb dL_law_885 rfl (lv_at hl 3 rfl) ?_
  refine lv_aload_n hx hb dL_law_886 rfl (lv_at hl 4 rfl) ?_
  refine lv_iload hx hb dL_law_887 (lv_at hl 0 rfl) ?_
  refine lv_iconst (v := 1) hx hb dL_law_889 (by decide) ?_
  refine r_iadd (v := (1 : Int32)) M (by decide +kernel) dL_law_890 ?_
  refine va_sld hx hb hX hbl hbA w.2.2.1 (vin (by decide +kernel)) dL_law_891 ?_
  refine k_I (ce := 167) (sl := 5547) (rest := []) (wr := [(ma0, .inr (11, [.int 0, .ref mn0, .int 0, .int 0, .int 0, .int 0, .int 0, .int 0, .int 0, .int 0, .int 0, .int 0, .long 0, .int 0, .ref mn21, .ref mn19, .ref mn1, .ref mn2, .ref mn3, .ref mn4, .ref mn5, .ref mn6, .ref mn7, .ref mn20, .int 0, .ref mn8, .ref mn9, .ref mn10, .ref mn11, .int 0, .int 0, .int 0, .ref mn12, .int (-1), .int (-1), .ref mn13, .ref mn14, .int 0, .ref mn15, .int 0, .int 0, .ref mn16, .ref mn17, .int 0, .int 0, .ref mn18, .int 0, .int 0, .int 0, .int 0])), (mn21, .inl (T 0, 329, .inl cn45))]) (r_V (f := 1) [0, 1] M w V_HookedCityLaw_133 G1081 G1082 (c116_X11_card l D T _ xa0 xn0 xn2 xn7 xn12 xn18 xn22 xn23 xn26 xn28 xn29 xn30 xn40 xn50 xn55 xn31 xn32 xn33 xn34 xn35 xn36 xn37 xn38 xn39 (xs (Int32.toNatClampNeg (1 : Int32)))) 0 clX11 rfl rfl (by decide) rfl hl.1 rfl (Nat.le_of_ble_eq_true rfl) dL_law_892 (by decide) (by decide) (by decide) (by decide)) w [0, 1] [2, 3] rfl rfl (by decide) (by decide) rfl rfl (fun v _ H locs hp w => ?_)
  have hp : (-1 : Int32) = v := hp
  subst hp
  have w : WD D A s.heap [(ma0, .inr (11, [.int 0, .ref mn0, .int 0, .int 0, .int 0, .int 0, .int 0, .int 0, .int 0, .int 0, .int 0, .int 0, .long 0, .int 0, .ref mn21, .ref mn19, .ref mn1, .ref mn2, .ref mn3, .ref mn4, .ref mn5, .ref mn6, .ref mn7, .ref mn20, .int 0, .ref mn8, .ref mn9, .ref mn10, .ref mn11, .int 0, .int 0, .int 0, .ref mn12, .int (-1), .int (-1), .ref mn13, .ref mn14, .int 0, .ref mn15, .int 0, .int 0, .ref mn16, .ref mn17, .int 0, .int 0, .ref mn18, .int 0, .int 0, .int 0, .int 0])), (mn21, .inl (T 0, 329, .inl cn45))] H locs := w
  refine lv_aload_n hx hb dL_law_895 rfl (lv_at hl 2 rfl) ?_
  refine lv_aload_n hx hb dL_law_896 rfl (lv_at hl 4 rfl) ?_
  refine lv_iload hx hb dL_law_897 (lv_at hl 0 rfl) ?_
  refine lv_iconst (v := 1) hx hb dL_law_899 (by decide) ?_
  refine r_iadd (v := (1 : Int32)) M (by decide +kernel) dL_law_900 ?_
  refine va_sld hx hb hX hbl hbA w.2.2.1 (vin (by decide +kernel)) dL_law_901 ?_
  refine k_I (ce := 167) (sl := 5547) (rest := [.int (-1)]) (wr := []) (r_V (f := 2) [0, 1] M w V_HookedCityLaw_136 G1935 G1936 (c117_X12_card l D T _ ma0 mn0 mn21 mn19 mn1 mn2 mn3 mn4 mn5 mn6 mn7 mn20 mn8 mn9 mn10 mn11 mn12 mn13 mn14 mn15 mn16 mn17 mn18 (xs (Int32.toNatClampNeg (1 : Int32)))) 0 clX12 rfl rfl (by decide) rfl hl.1 rfl (Nat.le_of_ble_eq_true rfl) dL_law_902 (by decide) (by decide) (by decide) (by decide)) w [0, 1] [] rfl rfl (by decide) (by decide) rfl rfl (fun v _ H locs hp w => ?_)
  have hp : (-1 : Int32) = v := hp
  subst hp
  have w : WD D A s.heap [] H locs := w
  refine lv_icmp_eq (tgt := 1184) hx hb dL_law_905 (by decide) (fun _ => ?_) (fun c => absurd (by decide +kernel) c)
  refine W.widen (k := 400000) (n := 6000000) (by decide) (by decide) ?_
  exact law_exit M hA9 hr hlocks hX hbl w (lv_sub hl [0, 4] rfl)
set_option maxRecDepth 100000 in
set_option maxHeartbeats 4000000 in
theorem law_27 {p : Program} {l : Launch} {e : Env} {s : State} {m : MethodId} {below : List Frame} {meth : Method} {c : Code} {D : va_G} {T : Nat → ClassId} {A : Nat → Prop} {b : Nat} {xs : Nat → Int32} (M : MC p s m #[Value.ref b] c code R_law 7 D T A) (hA9 : ∀ q, A q → s.heap.size ≤ q) (hr : meth.sig.returnType = ret) (hlocks : meth.locks = false) (hX : va_X b 6 xs s s.heap) (hbl : b < s.heap.size) (xa0 xn0 xn2 xn7 xn12 xn18 xn22 xn23 xn26 xn28 xn29 xn30 xn40 xn50 xn55 xn27 ma0 mn0 mn21 mn19 mn1 mn2 mn3 mn4 mn5 mn6 mn7 mn20 mn8 mn9 mn10 mn11 mn12 mn13 mn14 mn15 mn16 mn17 mn18 oo : Nat) {H : Heap} {locs : List Loc} {ls : Array Slot} (w : WD D A s.heap [(xa0, .inr (10, [.ref xn0, .ref xn2, .ref xn7, .ref xn12, .ref xn18, .ref xn22, .ref xn23, .ref xn26, .ref xn28, .ref xn29, .ref xn30, .ref xn40, .ref xn50, .ref xn55, .int 0, .int 0, .int 0])), (xn26, .inr (2, [.ref xn27, .int 0])), (ma0, .inr (11, [.int 0, .ref mn0, .int 0, .int 0, .int 0, .int 0, .int 0, .int 0, .int 0, .int 0, .int 0, .int 0, .long 0, .int 0, .ref mn21, .ref mn19, .ref mn1, .ref mn2, .ref mn3, .ref mn4, .ref mn5, .ref mn6, .ref mn7, .ref mn20, .int 0, .ref mn8, .ref mn9, .ref mn10, .ref mn11, .int 0, .int 0, .int 0, .ref mn12, .int (-1), .int (-1), .ref mn13, .ref mn14, .int 0, .ref mn15, .int 0, .int 0, .ref mn16, .ref mn17, .int 0, .int 0, .ref mn18, .int 0, .int 0, .int 0, .int 0]))] H locs) (hl : lv_has ls 7 [(4, .int 0), (3, .ref oo), (2, .ref ma0), (1, .ref xa0), (0, .ref b)]) : W p l e room_1 s m #[Value.ref b] below meth c H locs 167 5547 (lw_Z below #[Value.ref b] s) (F0 m 910 ls []) := by
  have hx := M.1.1
  have hb := M.1.2.1
  have hbA : ¬ A b := fun h => absurd (hA9 _ h) (Nat.not_le.mpr hbl)
  refine lv_aload_n hx hb dL_law_910 rfl (lv_at hl 3 rfl) ?_
  refine lv_aload_n hx hb dL_law_911 rfl (lv_at hl 4 rfl) ?_
  refine lv_iload hx hb dL_law_912 (lv_at hl 0 rfl) ?_
  refine lv_iconst (v := 1) hx hb dL_law_914 (by decide) ?_
  refine r_iadd (v := (1 : Int32)) M (by decide +kernel) dL_law_915 ?_
  refine va_sld hx hb hX hbl hbA w.2.2.1 (vin (by decide +kernel)) dL_law_916 ?_
  refine k_I (ce := 167) (sl := 5547) (rest := []) (wr := [(ma0, .inr (11, [.int 0, .ref mn0, .int 0, .int 0, .int 0, .int 0, .int 0, .int 0, .int 0, .int 0, .int 0, .int 0, .long 0, .int 0, .ref mn21, .ref mn19, .ref mn1, .ref mn2, .ref mn3, .ref mn4, .ref mn5, .ref mn6, .ref mn7, .ref mn20, .int 0, .ref mn8, .ref mn9, .ref mn10, .ref mn11, .int 0, .int 0, .int 0, .ref mn12, .int (-1), .int (-1), .ref mn13, .ref mn14, .int 0, .ref mn15, .int 0, .int 0, .ref mn16, .ref mn17, .int 0, .int 0, .ref mn18, .int 0, .int 0, .int 0, .int 0]))]) (r_V (f := 0) [0, 1] M w V_HookedCityLaw_137 G1129 G1130 (c118_X11_byteAt l D T _ xa0 xn0 xn2 xn7 xn12 xn18 xn22 xn23 xn26 xn28 xn29 xn30 xn40 xn50 xn55 xn27 (xs (Int32.toNatClampNeg (1 : Int32)))) 0 clX11 rfl rfl (by decide) rfl hl.1 rfl (Nat.le_of_ble_eq_true rfl) dL_law_917 (by decide) (by decide) (by decide) (by decide)) w [0, 1] [2] rfl rfl (by decide) (by decide) rfl rfl (fun v _ H locs hp w => ?_)
  have hp : (-1 : Int32) = v := hp
  subst hp
  have w : WD D A s.heap [(ma0, .inr (11, [.int 0, .ref mn0, .int 0, .int 0, .int 0, .int 0, .int 0, .int 0, .int 0, .int 0, .int 0, .int 0, .long 0, .int 0, .ref mn21, .ref mn19, .ref mn1, .ref mn2, .ref mn3, .ref mn4, .ref mn5, .ref mn6, .ref mn7, .ref mn20, .int 0, .ref mn8, .ref mn9, .ref mn10, .ref mn11, .int 0, .int 0, .int 0, .ref mn12, .int (-1), .int (-1), .ref mn13, .ref mn14, .int 0, .ref mn15, .int 0, .int 0, .ref mn16, .ref mn17, .int 0, .int 0, .ref mn18, .int 0, .int 0, .int 0, .int 0]))] H locs := w
  refine lv_aload_n hx hb dL_law_920 rfl (lv_at hl 2 rfl) ?_
  refine lv_aload_n hx hb dL_law_921 rfl (lv_at hl 4 rfl) ?_
  refine lv_iload hx hb dL_law_922 (lv_at hl 0 rfl) ?_
  refine lv_iconst (v := 1) hx hb dL_law_924 (by decide) ?_
  refine r_iadd (v := (1 : Int32)) M (by decide +kernel) dL_law_925 ?_
  refine va_sld hx hb hX hbl hbA w.2.2.1 (vin (by decide +kernel)) dL_law_926 ?_
  refine k_I (ce := 167) (sl := 5547) (rest := [.int (-1)]) (wr := []) (r_V (f := 1) [0] M w V_HookedCityLaw_140 G1951 G1952 (c119_X12_byteAt l D T _ ma0 mn0 mn21 mn19 mn1 mn2 mn3 mn4 mn5 mn6 mn7 mn20 mn8 mn9 mn10 mn11 mn12 mn13 mn14 mn15 mn16 mn17 mn18 (xs (Int32.toNatClampNeg (1 : Int32)))) 0 clX12 rfl rfl (by decide) rfl hl.1 rfl (Nat.le_of_ble_eq_true rfl) dL_law_927 (by decide) (by decide) (by decide) (by decide)) w [0] [] rfl rfl (by decide) (by decide) rfl rfl (fun v _ H locs hp w => ?_)
  have hp : (-1 : Int32) = v := hp
  subst hp
  have w : WD D A s.heap [] H locs := w
  refine lv_icmp_eq (tgt := 1184) hx hb dL_law_930 (by decide) (fun _ => ?_) (fun c => absurd (by decide +kernel) c)
  refine W.widen (k := 400000) (n := 6000000) (by decide) (by decide) ?_
  exact law_exit M hA9 hr hlocks hX hbl w (lv_sub hl [0, 4] rfl)
set_option maxRecDepth 100000 in
set_option maxHeartbeats 4000000 in
theorem law_28 {p : Program} {l : Launch} {e : Env} {s : State} {m : MethodId} {below : List Frame} {meth : Method} {c : Code} {D : va_G} {T : Nat → ClassId} {A : Nat → Prop} {b : Nat} {xs : Nat → Int32} (M : MC p s m #[Value.ref b] c code R_law 7 D T A) (hA9 : ∀ q, A q → s.heap.size ≤ q) (hr : meth.sig.returnType = ret) (hlocks : meth.locks = false) (hX : va_X b 6 xs s s.heap) (hbl : b < s.heap.size) (xa0 xn0 xn2 xn7 xn12 xn18 xn22 xn23 xn26 xn28 xn29 xn30 xn40 xn50 xn55 xn31 xn32 xn33 xn34 xn35 xn36 xn37 xn38 xn39 ma0 mn0 mn21 mn19 mn1 mn2 mn3 mn4 mn5 mn6 mn7 mn20 mn8 mn9 mn10 mn11 mn12 mn13 mn14 mn15 mn16 mn17 mn18 oo : Nat) {H : Heap} {locs : List Loc} {ls : Array Slot} (w : WD D A s.heap [(xa0, .inr (10, [.ref xn0, .ref xn2, .ref xn7, .ref xn12, .ref xn18, .ref xn22, .ref xn23, .ref xn26, .ref xn28, .ref xn29, .ref xn30, .ref xn40, .ref xn50, .ref xn55, .int 0, .int 0, .int 0])), (xn30, .inr (9, [.ref xn31, .ref xn32, .ref xn33, .ref xn34, .ref xn35, .ref xn36, .ref xn37, .ref xn38, .ref xn39, .int 0, .int 0, .int 0, .int 0, .int 12, .int 1, .int 0, .int 0, .int 0])), (ma0, .inr (11, [.int 0, .ref mn0, .int 0, .int 0, .int 0, .int 0, .int 0, .int 0, .int 0, .int 0, .int 0, .int 0, .long 0, .int 0, .ref mn21, .ref mn19, .ref mn1, .ref mn2, .ref mn3, .ref mn4, .ref mn5, .ref mn6, .ref mn7, .ref mn20, .int 0, .ref mn8, .ref mn9, .ref mn10, .ref mn11, .int 0, .int 0, .int 0, .ref mn12, .int (-1), .int (-1), .ref mn13, .ref mn14, .int 0, .ref mn15, .int 0, .int 0, .ref mn16, .ref mn17, .int 0, .int 0, .ref mn18, .int 0, .int 0, .int 0, .int 0])), (mn21, .inl (T 0, 329, .inl cn45))] H locs) (hl : lv_has ls 7 [(4, .int 0), (3, .ref oo), (2, .ref ma0), (1, .ref xa0), (0, .ref b)]) : W p l e room_1 s m #[Value.ref b] below meth c H locs 167 5547 (lw_Z below #[Value.ref b] s) (F0 m 935 ls []) := by
  have hx := M.1.1
  have hb := M.1.2.1
  have hbA : ¬ A b := fun h => absurd (hA9 _ h) (Nat.not_le.mpr hbl)
  refine lv_aload_n hx hb dL_law_935 rfl (lv_at hl 3 rfl) ?_
  refine lv_aload_n hx hb dL_law_936 rfl (lv_at hl 4 rfl) ?_
  refine lv_iload hx hb dL_law_937 (lv_at hl 0 rfl) ?_
  refine lv_iconst (v := 1) hx hb dL_law_939 (by decide) ?_
  refine r_iadd (v := (1 : Int32)) M (by decide +kernel) dL_law_940 ?_
  refine va_sld hx hb hX hbl hbA w.2.2.1 (vin (by decide +kernel)) dL_law_941 ?_
  refine lv_aload_n hx hb dL_law_942 rfl (lv_at hl 4 rfl) ?_
  refine lv_iload hx hb dL_law_943 (lv_at hl 0 rfl) ?_
  refine lv_iconst (v := 2) hx hb dL_law_945 (by decide) ?_
  refine r_iadd (v := (2 : Int32)) M (by decide +kernel) dL_law_946 ?_
  refine va_sld hx hb hX hbl hbA w.2.2.1 (vin (by decide +kernel)) dL_law_947 ?_
  refine k_I (ce := 167) (sl := 5547) (rest := []) (wr := [(ma0, .inr (11, [.int 0, .ref mn0, .int 0, .int 0, .int 0, .int 0, .int 0, .int 0, .int 0, .int 0, .int 0, .int 0, .long 0, .int 0, .ref mn21, .ref mn19, .ref mn1, .ref mn2, .ref mn3, .ref mn4, .ref mn5, .ref mn6, .ref mn7, .ref mn20, .int 0, .ref mn8, .ref mn9, .ref mn10, .ref mn11, .int 0, .int 0, .int 0, .ref mn12, .int (-1), .int (-1), .ref mn13, .ref mn14, .int 0, .ref mn15, .int 0, .int 0, .ref mn16, .ref mn17, .int 0, .int 0, .ref mn18, .int 0, .int 0, .int 0, .int 0])), (mn21, .inl (T 0, 329, .inl cn45))]) (r_V (f := 0) [0, 1] M w V_HookedCityLaw_141 G1133 G1134 (c120_X11_drawn l D T _ xa0 xn0 xn2 xn7 xn12 xn18 xn22 xn23 xn26 xn28 xn29 xn30 xn40 xn50 xn55 xn31 xn32 xn33 xn34 xn35 xn36 xn37 xn38 xn39 (xs (Int32.toNatClampNeg (1 : Int32))) (xs (Int32.toNatClampNeg (2 : Int32)))) 0 clX11 rfl rfl (by decide) rfl hl.1 rfl (Nat.le_of_ble_eq_true rfl) dL_law_948 (by decide) (by decide) (by decide) (by decide)) w [0, 1] [2, 3] rfl rfl (by decide) (by decide) rfl rfl (fun v _ H locs hp w => ?_)
  have hp : (-1 : Int32) = v := hp
  subst hp
  have w : WD D A s.heap [(ma0, .inr (11, [.int 0, .ref mn0, .int 0, .int 0, .int 0, .int 0, .int 0, .int 0, .int 0, .int 0, .int 0, .int 0, .long 0, .int 0, .ref mn21, .ref mn19, .ref mn1, .ref mn2, .ref mn3, .ref mn4, .ref mn5, .ref mn6, .ref mn7, .ref mn20, .int 0, .ref mn8, .ref mn9, .ref mn10, .ref mn11, .int 0, .int 0, .int 0, .ref mn12, .int (-1), .int (-1), .ref mn13, .ref mn14, .int 0, .ref mn15, .int 0, .int 0, .ref mn16, .ref mn17, .int 0, .int 0, .ref mn18, .int 0, .int 0, .int 0, .int 0])), (mn21, .inl (T 0, 329, .inl cn45))] H locs := w
  refine lv_aload_n hx hb dL_law_951 rfl (lv_at hl 2 rfl) ?_
  refine lv_aload_n hx hb dL_law_952 rfl (lv_at hl 4 rfl) ?_
  refine lv_iload hx hb dL_law_953 (lv_at hl 0 rfl) ?_
  refine lv_iconst (v := 1) hx hb dL_law_955 (by decide) ?_
  refine r_iadd (v := (1 : Int32)) M (by decide +kernel) dL_law_956 ?_
  refine va_sld hx hb hX hbl hbA w.2.2.1 (vin (by decide +kernel)) dL_law_957 ?_
  refine lv_aload_n hx hb dL_law_958 rfl (lv_at hl 4 rfl) ?_
  refine lv_iload hx hb dL_law_959 (lv_at hl 0 rfl) ?_
  refine lv_iconst (v := 2) hx hb dL_law_961 (by decide) ?_
  refine r_iadd (v := (2 : Int32)) M (by decide +kernel) dL_law_962 ?_
  refine va_sld hx hb hX hbl hbA w.2.2.1 (vin (by decide +kernel)) dL_law_963 ?_
  refine k_I (ce := 167) (sl := 5547) (rest := [.int (-1)]) (wr := []) (r_V (f := 1) [0, 1] M w V_HookedCityLaw_144 G1955 G1956 (c122_X12_drawn l D T _ ma0 mn0 mn21 mn19 mn1 mn2 mn3 mn4 mn5 mn6 mn7 mn20 mn8 mn9 mn10 mn11 mn12 mn13 mn14 mn15 mn16 mn17 mn18 (xs (Int32.toNatClampNeg (1 : Int32))) (xs (Int32.toNatClampNeg (2 : Int32)))) 0 clX12 rfl rfl (by decide) rfl hl.1 rfl (Nat.le_of_ble_eq_true rfl) dL_law_964 (by decide) (by decide) (by decide) (by decide)) w [0, 1] [] rfl rfl (by decide) (by decide) rfl rfl (fun v _ H locs hp w => ?_)
  have hp : (-1 : Int32) = v := hp
  subst hp
  have w : WD D A s.heap [] H locs := w
  refine lv_icmp_eq (tgt := 1184) hx hb dL_law_967 (by decide) (fun _ => ?_) (fun c => absurd (by decide +kernel) c)
  refine W.widen (k := 400000) (n := 6000000) (by decide) (by decide) ?_
  exact law_exit M hA9 hr hlocks hX hbl w (lv_sub hl [0, 4] rfl)
set_option maxRecDepth 100000 in
set_option maxHeartbeats 4000000 in
theorem law_29 {p : Program} {l : Launch} {e : Env} {s : State} {m : MethodId} {below : List Frame} {meth : Method} {c : Code} {D : va_G} {T : Nat → ClassId} {A : Nat → Prop} {b : Nat} {xs : Nat → Int32} (M : MC p s m #[Value.ref b] c code R_law 7 D T A) (hA9 : ∀ q, A q → s.heap.size ≤ q) (hr : meth.sig.returnType = ret) (hlocks : meth.locks = false) (hX : va_X b 6 xs s s.heap) (hbl : b < s.heap.size) (xa0 xn0 xn2 xn7 xn12 xn18 xn22 xn23 xn26 xn28 xn29 xn30 xn40 xn50 xn55 xn31 xn32 xn33 xn34 xn35 xn36 xn37 xn38 xn39 ma0 mn0 mn21 mn19 mn1 mn2 mn3 mn4 mn5 mn6 mn7 mn20 mn8 mn9 mn10 mn11 mn12 mn13 mn14 mn15 mn16 mn17 mn18 oo : Nat) {H : Heap} {locs : List Loc} {ls : Array Slot} (w : WD D A s.heap [(xa0, .inr (10, [.ref xn0, .ref xn2, .ref xn7, .ref xn12, .ref xn18, .ref xn22, .ref xn23, .ref xn26, .ref xn28, .ref xn29, .ref xn30, .ref xn40, .ref xn50, .ref xn55, .int 0, .int 0, .int 0])), (xn30, .inr (9, [.ref xn31, .ref xn32, .ref xn33, .ref xn34, .ref xn35, .ref xn36, .ref xn37, .ref xn38, .ref xn39, .int 0, .int 0, .int 0, .int 0, .int 12, .int 1, .int 0, .int 0, .int 0])), (ma0, .inr (11, [.int 0, .ref mn0, .int 0, .int 0, .int 0, .int 0, .int 0, .int 0, .int 0, .int 0, .int 0, .int 0, .long 0, .int 0, .ref mn21, .ref mn19, .ref mn1, .ref mn2, .ref mn3, .ref mn4, .ref mn5, .ref mn6, .ref mn7, .ref mn20, .int 0, .ref mn8, .ref mn9, .ref mn10, .ref mn11, .int 0, .int 0, .int 0, .ref mn12, .int (-1), .int (-1), .ref mn13, .ref mn14, .int 0, .ref mn15, .int 0, .int 0, .ref mn16, .ref mn17, .int 0, .int 0, .ref mn18, .int 0, .int 0, .int 0, .int 0])), (mn21, .inl (T 0, 329, .inl cn45))] H locs) (hl : lv_has ls 7 [(4, .int 0), (3, .ref oo), (2, .ref ma0), (1, .ref xa0), (0, .ref b)]) : W p l e room_1 s m #[Value.ref b] below meth c H locs 167 5547 (lw_Z below #[Value.ref b] s) (F0 m 972 ls []) := by
  have hx := M.1.1
  have hb := M.1.2.1
  have hbA : ¬ A b := fun h => absurd (hA9 _ h) (Nat.not_le.mpr hbl)
  refine lv_aload_n hx hb dL_law_972 rfl (lv_at hl 3 rfl) ?_
  refine lv_aload_n hx hb dL_law_973 rfl (lv_at hl 4 rfl) ?_
  refine lv_iload hx hb dL_law_974 (lv_at hl 0 rfl) ?_
  refine lv_iconst (v := 1) hx hb dL_law_976 (by decide) ?_
  refine r_iadd (v := (1 : Int32)) M (by decide +kernel) dL_law_977 ?_
  refine va_sld hx hb hX hbl hbA w.2.2.1 (vin (by decide +kernel)) dL_law_978 ?_
  refine lv_aload_n hx hb dL_law_979 rfl (lv_at hl 4 rfl) ?_
  refine lv_iload hx hb dL_law_980 (lv_at hl 0 rfl) ?_
  refine lv_iconst (v := 2) hx hb dL_law_982 (by decide) ?_
  refine r_iadd (v := (2 : Int32)) M (by decide +kernel) dL_law_983 ?_
  refine va_sld hx hb hX hbl hbA w.2.2.1 (vin (by decide +kernel)) dL_law_984 ?_
  refine lv_aload_n hx hb dL_law_985 rfl (lv_at hl 4 rfl) ?_
  refine lv_iload hx hb dL_law_986 (lv_at hl 0 rfl) ?_
  refine lv_iconst (v := 3) hx hb dL_law_988 (by decide) ?_
  refine r_iadd (v := (3 : Int32)) M (by decide +kernel) dL_law_989 ?_
  refine va_sld hx hb hX hbl hbA w.2.2.1 (vin (by decide +kernel)) dL_law_990 ?_
  refine k_I (ce := 167) (sl := 5547) (rest := []) (wr := [(ma0, .inr (11, [.int 0, .ref mn0, .int 0, .int 0, .int 0, .int 0, .int 0, .int 0, .int 0, .int 0, .int 0, .int 0, .long 0, .int 0, .ref mn21, .ref mn19, .ref mn1, .ref mn2, .ref mn3, .ref mn4, .ref mn5, .ref mn6, .ref mn7, .ref mn20, .int 0, .ref mn8, .ref mn9, .ref mn10, .ref mn11, .int 0, .int 0, .int 0, .ref mn12, .int (-1), .int (-1), .ref mn13, .ref mn14, .int 0, .ref mn15, .int 0, .int 0, .ref mn16, .ref mn17, .int 0, .int 0, .ref mn18, .int 0, .int 0, .int 0, .int 0])), (mn21, .inl (T 0, 329, .inl cn45))]) (r_V (f := 1) [0, 1] M w V_HookedCityLaw_145 G1156 G1157 (c123_X11_odds l D T _ xa0 xn0 xn2 xn7 xn12 xn18 xn22 xn23 xn26 xn28 xn29 xn30 xn40 xn50 xn55 xn31 xn32 xn33 xn34 xn35 xn36 xn37 xn38 xn39 (xs (Int32.toNatClampNeg (1 : Int32))) (xs (Int32.toNatClampNeg (2 : Int32))) (xs (Int32.toNatClampNeg (3 : Int32)))) 0 clX11 rfl rfl (by decide) rfl hl.1 rfl (Nat.le_of_ble_eq_true rfl) dL_law_991 (by decide) (by decide) (by decide) (by decide)) w [0, 1] [2, 3] rfl rfl (by decide) (by decide) rfl rfl (fun v _ H locs hp w => ?_)
  have hp : (-1 : Int32) = v := hp
  subst hp
  have w : WD D A s.heap [(ma0, .inr (11, [.int 0, .ref mn0, .int 0, .int 0, .int 0, .int 0, .int 0, .int 0, .int 0, .int 0, .int 0, .int 0, .long 0, .int 0, .ref mn21, .ref mn19, .ref mn1, .ref mn2, .ref mn3, .ref mn4, .ref mn5, .ref mn6, .ref mn7, .ref mn20, .int 0, .ref mn8, .ref mn9, .ref mn10, .ref mn11, .int 0, .int 0, .int 0, .ref mn12, .int (-1), .int (-1), .ref mn13, .ref mn14, .int 0, .ref mn15, .int 0, .int 0, .ref mn16, .ref mn17, .int 0, .int 0, .ref mn18, .int 0, .int 0, .int 0, .int 0])), (mn21, .inl (T 0, 329, .inl cn45))] H locs := w
  refine lv_aload_n hx hb dL_law_994 rfl (lv_at hl 2 rfl) ?_
  refine lv_aload_n hx hb dL_law_995 rfl (lv_at hl 4 rfl) ?_
  refine lv_iload hx hb dL_law_996 (lv_at hl 0 rfl) ?_
  refine lv_iconst (v := 1) hx hb dL_law_998 (by decide) ?_
  refine r_iadd (v := (1 : Int32)) M (by decide +kernel) dL_law_999 ?_
  refine va_sld hx hb hX hbl hbA w.2.2.1 (vin (by decide +kernel)) dL_law_1000 ?_
  refine lv_aload_n hx hb dL_law_1001 rfl (lv_at hl 4 rfl) ?_
  refine lv_iload hx hb dL_law_1002 (lv_at hl 0 rfl) ?_
  refine lv_iconst (v := 2) hx hb dL_law_1004 (by decide) ?_
  refine r_iadd (v := (2 : Int32)) M (by decide +kernel) dL_law_1005 ?_
  refine va_sld hx hb hX hbl hbA w.2.2.1 (vin (by decide +kernel)) dL_law_1006 ?_
  refine lv_aload_n hx hb dL_law_1007 rfl (lv_at hl 4 rfl) ?_
  refine lv_iload hx hb dL_law_1008 (lv_at hl 0 rfl) ?_
  refine lv_iconst (v := 3) hx hb dL_law_1010 (by decide) ?_
  refine r_iadd (v := (3 : Int32)) M (by decide +kernel) dL_law_1011 ?_
  refine va_sld hx hb hX hbl hbA w.2.2.1 (vin (by decide +kernel)) dL_law_1012 ?_
  refine k_I (ce := 167) (sl := 5547) (rest := [.int (-1)]) (wr := []) (r_V (f := 2) [0, 1] M w V_HookedCityLaw_148 G1972 G1973 (c124_X12_odds l D T _ ma0 mn0 mn21 mn19 mn1 mn2 mn3 mn4 mn5 mn6 mn7 mn20 mn8 mn9 mn10 mn11 mn12 mn13 mn14 mn15 mn16 mn17 mn18 (xs (Int32.toNatClampNeg (1 : Int32))) (xs (Int32.toNatClampNeg (2 : Int32))) (xs (Int32.toNatClampNeg (3 : Int32)))) 0 clX12 rfl rfl (by decide) rfl hl.1 rfl (Nat.le_of_ble_eq_true rfl) dL_law_1013 (by decide) (by decide) (by decide) (by decide)) w [0, 1] [] rfl rfl (by decide) (by decide) rfl rfl (fun v _ H locs hp w => ?_)
  have hp : (-1 : Int32) = v := hp
  subst hp
  have w : WD D A s.heap [] H locs := w
  refine lv_icmp_eq (tgt := 1184) hx hb dL_law_1016 (by decide) (fun _ => ?_) (fun c => absurd (by decide +kernel) c)
  refine W.widen (k := 400000) (n := 6000000) (by decide) (by decide) ?_
  exact law_exit M hA9 hr hlocks hX hbl w (lv_sub hl [0, 4] rfl)
set_option maxRecDepth 100000 in
set_option maxHeartbeats 4000000 in
theorem law_30 {p : Program} {l : Launch} {e : Env} {s : State} {m : MethodId} {below : List Frame} {meth : Method} {c : Code} {D : va_G} {T : Nat → ClassId} {A : Nat → Prop} {b : Nat} {xs : Nat → Int32} (M : MC p s m #[Value.ref b] c code R_law 7 D T A) (hA9 : ∀ q, A q → s.heap.size ≤ q) (hr : meth.sig.returnType = ret) (hlocks : meth.locks = false) (hX : va_X b 6 xs s s.heap) (hbl : b < s.heap.size) (xa0 xn0 xn2 xn7 xn12 xn18 xn22 xn23 xn26 xn28 xn29 xn30 xn40 xn50 xn55 xn1 xn3 xn4 xn5 xn6 xn8 xn9 xn10 xn11 xn13 xn14 xn15 xn16 xn17 xn95 xn90 xn85 xn80 xn75 xn70 xn65 xn60 xn31 xn32 xn33 xn34 xn35 xn36 xn37 xn38 xn39 xn61 xn62 xn63 xn64 ma0 mn0 mn21 mn19 mn1 mn2 mn3 mn4 mn5 mn6 mn7 mn20 mn8 mn9 mn10 mn11 mn12 mn13 mn14 mn15 mn16 mn17 mn18 oo : Nat) {H : Heap} {locs : List Loc} {ls : Array Slot} (w : WD D A s.heap [(xa0, .inr (10, [.ref xn0, .ref xn2, .ref xn7, .ref xn12, .ref xn18, .ref xn22, .ref xn23, .ref xn26, .ref xn28, .ref xn29, .ref xn30, .ref xn40, .ref xn50, .ref xn55, .int 0, .int 0, .int 0])), (xn0, .inr (8, [.ref xn1, .int 0, .int 0, .int 0, .int 0, .int 0, .null, .long 0, .int 0, .int 0, .int 0, .int 0])), (xn2, .inr (7, [.ref xn3, .ref xn4, .ref xn5, .ref xn6, .int 0, .int 0, .int 0, .int 0])), (xn7, .inr (7, [.ref xn8, .ref xn9, .ref xn10, .ref xn11, .int 0, .int 0, .int 0, .int 0])), (xn12, .inr (0, [.ref xn13, .ref xn14, .ref xn15, .ref xn16, .ref xn17, .int 0])), (xn28, .inl (T 3, 8, .inr (.inr (.inr (.inr (va_up (va_up (va_up (va_up (va_up (va_up (va_up (va_up (fun _ => none) (Int32.toNatClampNeg (0 : Int32)) (some xn60)) (Int32.toNatClampNeg (1 : Int32)) (some xn65)) (Int32.toNatClampNeg (2 : Int32)) (some xn70)) (Int32.toNatClampNeg (3 : Int32)) (some xn75)) (Int32.toNatClampNeg (4 : Int32)) (some xn80)) (Int32.toNatClampNeg (5 : Int32)) (some xn85)) (Int32.toNatClampNeg (6 : Int32)) (some xn90)) (Int32.toNatClampNeg (7 : Int32)) (some xn95))))))), (xn30, .inr (9, [.ref xn31, .ref xn32, .ref xn33, .ref xn34, .ref xn35, .ref xn36, .ref xn37, .ref xn38, .ref xn39, .int 0, .int 0, .int 0, .int 0, .int 12, .int 1, .int 0, .int 0, .int 0])), (xn3, .inl (T 0, 9, .inl (fun _ => 0))), (xn4, .inl (T 0, 9, .inl (fun _ => 0))), (xn5, .inl (T 0, 9, .inl (fun _ => 0))), (xn6, .inl (T 0, 3, .inl (fun _ => 0))), (xn8, .inl (T 0, 9, .inl (fun _ => 0))), (xn9, .inl (T 0, 9, .inl (fun _ => 0))), (xn10, .inl (T 0, 9, .inl (fun _ => 0))), (xn11, .inl (T 0, 3, .inl (fun _ => 0))), (xn17, .inl (T 0, 4, .inl cn4)), (xn60, .inr (7, [.ref xn61, .ref xn62, .ref xn63, .ref xn64, .int 0, .int 0, .int 0, .int 0])), (xn61, .inl (T 0, 9, .inl (fun _ => 0))), (xn62, .inl (T 0, 9, .inl (fun _ => 0))), (xn63, .inl (T 0, 9, .inl (fun _ => 0))), (xn64, .inl (T 0, 3, .inl (fun _ => 0))), (ma0, .inr (11, [.int 0, .ref mn0, .int 0, .int 0, .int 0, .int 0, .int 0, .int 0, .int 0, .int 0, .int 0, .int 0, .long 0, .int 0, .ref mn21, .ref mn19, .ref mn1, .ref mn2, .ref mn3, .ref mn4, .ref mn5, .ref mn6, .ref mn7, .ref mn20, .int 0, .ref mn8, .ref mn9, .ref mn10, .ref mn11, .int 0, .int 0, .int 0, .ref mn12, .int (-1), .int (-1), .ref mn13, .ref mn14, .int 0, .ref mn15, .int 0, .int 0, .ref mn16, .ref mn17, .int 0, .int 0, .ref mn18, .int 0, .int 0, .int 0, .int 0])), (mn21, .inl (T 0, 329, .inl cn45)), (mn3, .inl (T 0, 34, .inl (fun _ => 0))), (mn17, .inl (T 0, 4, .inl (fun _ => 0)))] H locs) (hl : lv_has ls 7 [(4, .int 0), (3, .ref oo), (2, .ref ma0), (1, .ref xa0), (0, .ref b)]) : W p l e room_1 s m #[Value.ref b] below meth c H locs 167 5547 (lw_Z below #[Value.ref b] s) (F0 m 1021 ls []) := by
  have hx := M.1.1
  have hb := M.1.2.1
  have hbA : ¬ A b := fun h => absurd (hA9 _ h) (Nat.not_le.mpr hbl)
  refine lv_aload_n hx hb dL_law_1021 rfl (lv_at hl 3 rfl) ?_
  refine lv_aload_n hx hb dL_law_1022 rfl (lv_at hl 4 rfl) ?_
  refine lv_iload hx hb dL_law_1023 (lv_at hl 0 rfl) ?_
  refine lv_iconst (v := 1) hx hb dL_law_1025 (by decide) ?_
  refine r_iadd (v := (1 : Int32)) M (by decide +kernel) dL_law_1026 ?_
  refine va_sld hx hb hX hbl hbA w.2.2.1 (vin (by decide +kernel)) dL_law_1027 ?_
  refine k_I (ce := 167) (sl := 5547) (rest := []) (wr := [(ma0, .inr (11, [.int 0, .ref mn0, .int 0, .int 0, .int 0, .int 0, .int 0, .int 0, .int 0, .int 0, .int 0, .int 0, .long 0, .int 0, .ref mn21, .ref mn19, .ref mn1, .ref mn2, .ref mn3, .ref mn4, .ref mn5, .ref mn6, .ref mn7, .ref mn20, .int 0, .ref mn8, .ref mn9, .ref mn10, .ref mn11, .int 0, .int 0, .int 0, .ref mn12, .int (-1), .int (-1), .ref mn13, .ref mn14, .int 0, .ref mn15, .int 0, .int 0, .ref mn16, .ref mn17, .int 0, .int 0, .ref mn18, .int 0, .int 0, .int 0, .int 0])), (mn21, .inl (T 0, 329, .inl cn45)), (mn3, .inl (T 0, 34, .inl (fun _ => 0))), (mn17, .inl (T 0, 4, .inl (fun _ => 0)))]) (r_V (f := 3) [0, 1, 2, 3, 4, 5, 6, 7, 8, 9, 10, 11, 12, 13, 14, 15, 16, 17, 18, 19, 20] M w V_HookedCityLaw_149 G1160 G1161 (c134_X11_book l D T _ xa0 xn0 xn2 xn7 xn12 xn18 xn22 xn23 xn26 xn28 xn29 xn30 xn40 xn50 xn55 xn1 xn3 xn4 xn5 xn6 xn8 xn9 xn10 xn11 xn13 xn14 xn15 xn16 xn17 xn95 xn90 xn85 xn80 xn75 xn70 xn65 xn60 xn31 xn32 xn33 xn34 xn35 xn36 xn37 xn38 xn39 xn61 xn62 xn63 xn64 (xs (Int32.toNatClampNeg (1 : Int32)))) 0 clX11 rfl rfl (by decide) rfl hl.1 rfl (Nat.le_of_ble_eq_true rfl) dL_law_1028 (by decide) (by decide) (by decide) (by decide)) w [0, 1, 2, 3, 4, 5, 6, 7, 8, 9, 10, 11, 12, 13, 14, 15, 16, 17, 18, 19, 20] [21, 22, 23, 24] rfl rfl (by decide) (by decide) rfl rfl (fun v _ H locs hp w => ?_)
  try dsimp only at hp
  rcases hp with ⟨c_1, c_2, hp⟩ | ⟨c_3, c_4, c_5, hp⟩ | ⟨c_6, c_7, hp⟩
  · have hp : (-1 : Int32) = v := hp
    subst hp
    have w : WD D A s.heap [(ma0, .inr (11, [.int 0, .ref mn0, .int 0, .int 0, .int 0, .int 0, .int 0, .int 0, .int 0, .int 0, .int 0, .int 0, .long 0, .int 0, .ref mn21, .ref mn19, .ref mn1, .ref mn2, .ref mn3, .ref mn4, .ref mn5, .ref mn6, .ref mn7, .ref mn20, .int 0, .ref mn8, .ref mn9, .ref mn10, .ref mn11, .int 0, .int 0, .int 0, .ref mn12, .int (-1), .int (-1), .ref mn13, .ref mn14, .int 0, .ref mn15, .int 0, .int 0, .ref mn16, .ref mn17, .int 0, .int 0, .ref mn18, .int 0, .int 0, .int 0, .int 0])), (mn21, .inl (T 0, 329, .inl cn45)), (mn3, .inl (T 0, 34, .inl (fun _ => 0))), (mn17, .inl (T 0, 4, .inl (fun _ => 0)))] H locs := w
    refine lv_aload_n hx hb dL_law_1031 rfl (lv_at hl 2 rfl) ?_
    refine lv_aload_n hx hb dL_law_1032 rfl (lv_at hl 4 rfl) ?_
    refine lv_iload hx hb dL_law_1033 (lv_at hl 0 rfl) ?_
    refine lv_iconst (v := 1) hx hb dL_law_1035 (by decide) ?_
    refine r_iadd (v := (1 : Int32)) M (by decide +kernel) dL_law_1036 ?_
    refine va_sld hx hb hX hbl hbA w.2.2.1 (vin (by decide +kernel)) dL_law_1037 ?_
    refine k_I (ce := 167) (sl := 5547) (rest := [.int (-1)]) (wr := []) (r_V (f := 2) [0, 1, 2, 3] M w V_HookedCityLaw_152 G1984 G1985 (c141_X12_book l D T _ ma0 mn0 mn21 mn19 mn1 mn2 mn3 mn4 mn5 mn6 mn7 mn20 mn8 mn9 mn10 mn11 mn12 mn13 mn14 mn15 mn16 mn17 mn18 (xs (Int32.toNatClampNeg (1 : Int32)))) 0 clX12 rfl rfl (by decide) rfl hl.1 rfl (Nat.le_of_ble_eq_true rfl) dL_law_1038 (by decide) (by decide) (by decide) (by decide)) w [0, 1, 2, 3] [] rfl rfl (by decide) (by decide) rfl rfl (fun v _ H locs hp w => ?_)
    try dsimp only at hp
    rcases hp with ⟨c_8, hp⟩ | ⟨c_9, c_10, hp⟩ | ⟨c_11, c_12, c_13, hp⟩ | ⟨c_14, c_15, c_16, hp⟩
    · exfalso
      simp only [fa_lt, fa_le, fa_eq] at c_1 c_2 c_8
      have e0 : (0 : Int32).toInt = 0 := (by decide)
      have e1 : (1 : Int32).toInt = 1 := (by decide)
      omega
    · exfalso
      simp only [fa_lt, fa_le, fa_eq] at c_1 c_2 c_9 c_10
      have e0 : (0 : Int32).toInt = 0 := (by decide)
      have e1 : (1 : Int32).toInt = 1 := (by decide)
      omega
    · have hp : (-1 : Int32) = v := hp
      subst hp
      have w : WD D A s.heap [] H locs := w
      refine lv_icmp_eq (tgt := 1184) hx hb dL_law_1041 (by decide) (fun _ => ?_) (fun c => absurd (by decide +kernel) c)
      refine W.widen (k := 400000) (n := 6000000) (by decide) (by decide) ?_
      exact law_exit M hA9 hr hlocks hX hbl w (lv_sub hl [0, 4] rfl)
    · exfalso
      simp only [fa_lt, fa_le, fa_eq] at c_1 c_2 c_14 c_15 c_16
      have e0 : (0 : Int32).toInt = 0 := (by decide)
      have e1 : (1 : Int32).toInt = 1 := (by decide)
      omega
  · have hp : (-1 : Int32) = v := hp
    subst hp
    have w : WD D A s.heap [(ma0, .inr (11, [.int 0, .ref mn0, .int 0, .int 0, .int 0, .int 0, .int 0, .int 0, .int 0, .int 0, .int 0, .int 0, .long 0, .int 0, .ref mn21, .ref mn19, .ref mn1, .ref mn2, .ref mn3, .ref mn4, .ref mn5, .ref mn6, .ref mn7, .ref mn20, .int 0, .ref mn8, .ref mn9, .ref mn10, .ref mn11, .int 0, .int 0, .int 0, .ref mn12, .int (-1), .int (-1), .ref mn13, .ref mn14, .int 0, .ref mn15, .int 0, .int 0, .ref mn16, .ref mn17, .int 0, .int 0, .ref mn18, .int 0, .int 0, .int 0, .int 0])), (mn21, .inl (T 0, 329, .inl cn45)), (mn3, .inl (T 0, 34, .inl (fun _ => 0))), (mn17, .inl (T 0, 4, .inl (fun _ => 0)))] H locs := w
    refine lv_aload_n hx hb dL_law_1031 rfl (lv_at hl 2 rfl) ?_
    refine lv_aload_n hx hb dL_law_1032 rfl (lv_at hl 4 rfl) ?_
    refine lv_iload hx hb dL_law_1033 (lv_at hl 0 rfl) ?_
    refine lv_iconst (v := 1) hx hb dL_law_1035 (by decide) ?_
    refine r_iadd (v := (1 : Int32)) M (by decide +kernel) dL_law_1036 ?_
    refine va_sld hx hb hX hbl hbA w.2.2.1 (vin (by decide +kernel)) dL_law_1037 ?_
    refine k_I (ce := 167) (sl := 5547) (rest := [.int (-1)]) (wr := []) (r_V (f := 2) [0, 1, 2, 3] M w V_HookedCityLaw_152 G1984 G1985 (c141_X12_book l D T _ ma0 mn0 mn21 mn19 mn1 mn2 mn3 mn4 mn5 mn6 mn7 mn20 mn8 mn9 mn10 mn11 mn12 mn13 mn14 mn15 mn16 mn17 mn18 (xs (Int32.toNatClampNeg (1 : Int32)))) 0 clX12 rfl rfl (by decide) rfl hl.1 rfl (Nat.le_of_ble_eq_true rfl) dL_law_1038 (by decide) (by decide) (by decide) (by decide)) w [0, 1, 2, 3] [] rfl rfl (by decide) (by decide) rfl rfl (fun v _ H locs hp w => ?_)
    try dsimp only at hp
    rcases hp with ⟨c_17, hp⟩ | ⟨c_18, c_19, hp⟩ | ⟨c_20, c_21, c_22, hp⟩ | ⟨c_23, c_24, c_25, hp⟩
    · exfalso
      simp only [fa_lt, fa_le, fa_eq] at c_3 c_4 c_5 c_17
      have e0 : (0 : Int32).toInt = 0 := (by decide)
      have e1 : (1 : Int32).toInt = 1 := (by decide)
      omega
    · exfalso
      simp only [fa_lt, fa_le, fa_eq] at c_3 c_4 c_5 c_18 c_19
      have e0 : (0 : Int32).toInt = 0 := (by decide)
      have e1 : (1 : Int32).toInt = 1 := (by decide)
      omega
    · exfalso
      simp only [fa_lt, fa_le, fa_eq] at c_3 c_4 c_5 c_20 c_21 c_22
      have e0 : (0 : Int32).toInt = 0 := (by decide)
      have e1 : (1 : Int32).toInt = 1 := (by decide)
      omega
    · have hp : (-1 : Int32) = v := hp
      subst hp
      have w : WD D A s.heap [] H locs := w
      refine lv_icmp_eq (tgt := 1184) hx hb dL_law_1041 (by decide) (fun _ => ?_) (fun c => absurd (by decide +kernel) c)
      refine W.widen (k := 400000) (n := 6000000) (by decide) (by decide) ?_
      exact law_exit M hA9 hr hlocks hX hbl w (lv_sub hl [0, 4] rfl)
  · have hp : (-1000 : Int32) = v := hp
    subst hp
    have w : WD D A s.heap [(ma0, .inr (11, [.int 0, .ref mn0, .int 0, .int 0, .int 0, .int 0, .int 0, .int 0, .int 0, .int 0, .int 0, .int 0, .long 0, .int 0, .ref mn21, .ref mn19, .ref mn1, .ref mn2, .ref mn3, .ref mn4, .ref mn5, .ref mn6, .ref mn7, .ref mn20, .int 0, .ref mn8, .ref mn9, .ref mn10, .ref mn11, .int 0, .int 0, .int 0, .ref mn12, .int (-1), .int (-1), .ref mn13, .ref mn14, .int 0, .ref mn15, .int 0, .int 0, .ref mn16, .ref mn17, .int 0, .int 0, .ref mn18, .int 0, .int 0, .int 0, .int 0])), (mn21, .inl (T 0, 329, .inl cn45)), (mn3, .inl (T 0, 34, .inl (fun _ => 0))), (mn17, .inl (T 0, 4, .inl (fun _ => 0)))] H locs := w
    refine lv_aload_n hx hb dL_law_1031 rfl (lv_at hl 2 rfl) ?_
    refine lv_aload_n hx hb dL_law_1032 rfl (lv_at hl 4 rfl) ?_
    refine lv_iload hx hb dL_law_1033 (lv_at hl 0 rfl) ?_
    refine lv_iconst (v := 1) hx hb dL_law_1035 (by decide) ?_
    refine r_iadd (v := (1 : Int32)) M (by decide +kernel) dL_law_1036 ?_
    refine va_sld hx hb hX hbl hbA w.2.2.1 (vin (by decide +kernel)) dL_law_1037 ?_
    refine k_I (ce := 167) (sl := 5547) (rest := [.int (-1000)]) (wr := []) (r_V (f := 2) [0, 1, 2, 3] M w V_HookedCityLaw_152 G1984 G1985 (c141_X12_book l D T _ ma0 mn0 mn21 mn19 mn1 mn2 mn3 mn4 mn5 mn6 mn7 mn20 mn8 mn9 mn10 mn11 mn12 mn13 mn14 mn15 mn16 mn17 mn18 (xs (Int32.toNatClampNeg (1 : Int32)))) 0 clX12 rfl rfl (by decide) rfl hl.1 rfl (Nat.le_of_ble_eq_true rfl) dL_law_1038 (by decide) (by decide) (by decide) (by decide)) w [0, 1, 2, 3] [] rfl rfl (by decide) (by decide) rfl rfl (fun v _ H locs hp w => ?_)
    try dsimp only at hp
    rcases hp with ⟨c_26, hp⟩ | ⟨c_27, c_28, hp⟩ | ⟨c_29, c_30, c_31, hp⟩ | ⟨c_32, c_33, c_34, hp⟩
    · have hp : (-1000 : Int32) = v := hp
      subst hp
      have w : WD D A s.heap [] H locs := w
      refine lv_icmp_eq (tgt := 1184) hx hb dL_law_1041 (by decide) (fun _ => ?_) (fun c => absurd (by decide +kernel) c)
      refine W.widen (k := 400000) (n := 6000000) (by decide) (by decide) ?_
      exact law_exit M hA9 hr hlocks hX hbl w (lv_sub hl [0, 4] rfl)
    · have hp : (-1000 : Int32) = v := hp
      subst hp
      have w : WD D A s.heap [] H locs := w
      refine lv_icmp_eq (tgt := 1184) hx hb dL_law_1041 (by decide) (fun _ => ?_) (fun c => absurd (by decide +kernel) c)
      refine W.widen (k := 400000) (n := 6000000) (by decide) (by decide) ?_
      exact law_exit M hA9 hr hlocks hX hbl w (lv_sub hl [0, 4] rfl)
    · exfalso
      simp only [fa_lt, fa_le, fa_eq] at c_6 c_7 c_29 c_30 c_31
      have e0 : (0 : Int32).toInt = 0 := (by decide)
      have e1 : (1 : Int32).toInt = 1 := (by decide)
      omega
    · exfalso
      simp only [fa_lt, fa_le, fa_eq] at c_6 c_7 c_32 c_33 c_34
      have e0 : (0 : Int32).toInt = 0 := (by decide)
      have e1 : (1 : Int32).toInt = 1 := (by decide)
      omega
set_option maxRecDepth 100000 in
set_option maxHeartbeats 4000000 in
theorem law_31 {p : Program} {l : Launch} {e : Env} {s : State} {m : MethodId} {below : List Frame} {meth : Method} {c : Code} {D : va_G} {T : Nat → ClassId} {A : Nat → Prop} {b : Nat} {xs : Nat → Int32} (M : MC p s m #[Value.ref b] c code R_law 7 D T A) (hA9 : ∀ q, A q → s.heap.size ≤ q) (hr : meth.sig.returnType = ret) (hlocks : meth.locks = false) (hX : va_X b 6 xs s s.heap) (hbl : b < s.heap.size) (xa0 xn0 xn2 xn7 xn12 xn18 xn22 xn23 xn26 xn28 xn29 xn30 xn40 xn50 xn55 xn13 xn14 xn15 xn16 xn17 ma0 mn0 mn21 mn19 mn1 mn2 mn3 mn4 mn5 mn6 mn7 mn20 mn8 mn9 mn10 mn11 mn12 mn13 mn14 mn15 mn16 mn17 mn18 oo : Nat) {H : Heap} {locs : List Loc} {ls : Array Slot} (w : WD D A s.heap [(xa0, .inr (10, [.ref xn0, .ref xn2, .ref xn7, .ref xn12, .ref xn18, .ref xn22, .ref xn23, .ref xn26, .ref xn28, .ref xn29, .ref xn30, .ref xn40, .ref xn50, .ref xn55, .int 0, .int 0, .int 0])), (xn12, .inr (0, [.ref xn13, .ref xn14, .ref xn15, .ref xn16, .ref xn17, .int 0])), (xn17, .inl (T 0, 4, .inl cn4)), (ma0, .inr (11, [.int 0, .ref mn0, .int 0, .int 0, .int 0, .int 0, .int 0, .int 0, .int 0, .int 0, .int 0, .int 0, .long 0, .int 0, .ref mn21, .ref mn19, .ref mn1, .ref mn2, .ref mn3, .ref mn4, .ref mn5, .ref mn6, .ref mn7, .ref mn20, .int 0, .ref mn8, .ref mn9, .ref mn10, .ref mn11, .int 0, .int 0, .int 0, .ref mn12, .int (-1), .int (-1), .ref mn13, .ref mn14, .int 0, .ref mn15, .int 0, .int 0, .ref mn16, .ref mn17, .int 0, .int 0, .ref mn18, .int 0, .int 0, .int 0, .int 0]))] H locs) (hl : lv_has ls 7 [(4, .int 0), (3, .ref oo), (2, .ref ma0), (1, .ref xa0), (0, .ref b)]) : W p l e room_1 s m #[Value.ref b] below meth c H locs 167 5547 (lw_Z below #[Value.ref b] s) (F0 m 1046 ls []) := by
  have hx := M.1.1
  have hb := M.1.2.1
  have hbA : ¬ A b := fun h => absurd (hA9 _ h) (Nat.not_le.mpr hbl)
  refine lv_aload_n hx hb dL_law_1046 rfl (lv_at hl 3 rfl) ?_
  refine lv_aload_n hx hb dL_law_1047 rfl (lv_at hl 4 rfl) ?_
  refine lv_iload hx hb dL_law_1048 (lv_at hl 0 rfl) ?_
  refine lv_iconst (v := 1) hx hb dL_law_1050 (by decide) ?_
  refine r_iadd (v := (1 : Int32)) M (by decide +kernel) dL_law_1051 ?_
  refine va_sld hx hb hX hbl hbA w.2.2.1 (vin (by decide +kernel)) dL_law_1052 ?_
  refine k_I (ce := 167) (sl := 5547) (rest := []) (wr := [(ma0, .inr (11, [.int 0, .ref mn0, .int 0, .int 0, .int 0, .int 0, .int 0, .int 0, .int 0, .int 0, .int 0, .int 0, .long 0, .int 0, .ref mn21, .ref mn19, .ref mn1, .ref mn2, .ref mn3, .ref mn4, .ref mn5, .ref mn6, .ref mn7, .ref mn20, .int 0, .ref mn8, .ref mn9, .ref mn10, .ref mn11, .int 0, .int 0, .int 0, .ref mn12, .int (-1), .int (-1), .ref mn13, .ref mn14, .int 0, .ref mn15, .int 0, .int 0, .ref mn16, .ref mn17, .int 0, .int 0, .ref mn18, .int 0, .int 0, .int 0, .int 0]))]) (r_V (f := 0) [0, 1, 2] M w V_HookedCityLaw_153 G1223 G1224 (c142_X11_told l D T _ xa0 xn0 xn2 xn7 xn12 xn18 xn22 xn23 xn26 xn28 xn29 xn30 xn40 xn50 xn55 xn13 xn14 xn15 xn16 xn17 (xs (Int32.toNatClampNeg (1 : Int32)))) 0 clX11 rfl rfl (by decide) rfl hl.1 rfl (Nat.le_of_ble_eq_true rfl) dL_law_1053 (by decide) (by decide) (by decide) (by decide)) w [0, 1, 2] [3] rfl rfl (by decide) (by decide) rfl rfl (fun v _ H locs hp w => ?_)
  have hp : (-1 : Int32) = v := hp
  subst hp
  have w : WD D A s.heap [(ma0, .inr (11, [.int 0, .ref mn0, .int 0, .int 0, .int 0, .int 0, .int 0, .int 0, .int 0, .int 0, .int 0, .int 0, .long 0, .int 0, .ref mn21, .ref mn19, .ref mn1, .ref mn2, .ref mn3, .ref mn4, .ref mn5, .ref mn6, .ref mn7, .ref mn20, .int 0, .ref mn8, .ref mn9, .ref mn10, .ref mn11, .int 0, .int 0, .int 0, .ref mn12, .int (-1), .int (-1), .ref mn13, .ref mn14, .int 0, .ref mn15, .int 0, .int 0, .ref mn16, .ref mn17, .int 0, .int 0, .ref mn18, .int 0, .int 0, .int 0, .int 0]))] H locs := w
  refine lv_aload_n hx hb dL_law_1056 rfl (lv_at hl 2 rfl) ?_
  refine lv_aload_n hx hb dL_law_1057 rfl (lv_at hl 4 rfl) ?_
  refine lv_iload hx hb dL_law_1058 (lv_at hl 0 rfl) ?_
  refine lv_iconst (v := 1) hx hb dL_law_1060 (by decide) ?_
  refine r_iadd (v := (1 : Int32)) M (by decide +kernel) dL_law_1061 ?_
  refine va_sld hx hb hX hbl hbA w.2.2.1 (vin (by decide +kernel)) dL_law_1062 ?_
  refine k_I (ce := 167) (sl := 5547) (rest := [.int (-1)]) (wr := []) (r_V (f := 0) [0] M w V_HookedCityLaw_156 G2012 G2013 (c143_X12_told l D T _ ma0 mn0 mn21 mn19 mn1 mn2 mn3 mn4 mn5 mn6 mn7 mn20 mn8 mn9 mn10 mn11 mn12 mn13 mn14 mn15 mn16 mn17 mn18 (xs (Int32.toNatClampNeg (1 : Int32)))) 0 clX12 rfl rfl (by decide) rfl hl.1 rfl (Nat.le_of_ble_eq_true rfl) dL_law_1063 (by decide) (by decide) (by decide) (by decide)) w [0] [] rfl rfl (by decide) (by decide) rfl rfl (fun v _ H locs hp w => ?_)
  have hp : (-1 : Int32) = v := hp
  subst hp
  have w : WD D A s.heap [] H locs := w
  refine lv_icmp_eq (tgt := 1184) hx hb dL_law_1066 (by decide) (fun _ => ?_) (fun c => absurd (by decide +kernel) c)
  refine W.widen (k := 400000) (n := 6000000) (by decide) (by decide) ?_
  exact law_exit M hA9 hr hlocks hX hbl w (lv_sub hl [0, 4] rfl)
set_option maxRecDepth 100000 in
set_option maxHeartbeats 4000000 in
theorem law_32 {p : Program} {l : Launch} {e : Env} {s : State} {m : MethodId} {below : List Frame} {meth : Method} {c : Code} {D : va_G} {T : Nat → ClassId} {A : Nat → Prop} {b : Nat} {xs : Nat → Int32} (M : MC p s m #[Value.ref b] c code R_law 7 D T A) (hA9 : ∀ q, A q → s.heap.size ≤ q) (hr : meth.sig.returnType = ret) (hlocks : meth.locks = false) (hX : va_X b 6 xs s s.heap) (hbl : b < s.heap.size) (xa0 xn0 xn2 xn7 xn12 xn18 xn22 xn23 xn26 xn28 xn29 xn30 xn40 xn50 xn55 xn1 xn56 xn57 xn58 xn59 ma0 mn0 mn21 mn19 mn1 mn2 mn3 mn4 mn5 mn6 mn7 mn20 mn8 mn9 mn10 mn11 mn12 mn13 mn14 mn15 mn16 mn17 mn18 oo : Nat) {H : Heap} {locs : List Loc} {ls : Array Slot} (w : WD D A s.heap [(xa0, .inr (10, [.ref xn0, .ref xn2, .ref xn7, .ref xn12, .ref xn18, .ref xn22, .ref xn23, .ref xn26, .ref xn28, .ref xn29, .ref xn30, .ref xn40, .ref xn50, .ref xn55, .int 0, .int 0, .int 0])), (xn0, .inr (8, [.ref xn1, .int 0, .int 0, .int 0, .int 0, .int 0, .null, .long 0, .int 0, .int 0, .int 0, .int 0])), (xn55, .inr (5, [.ref xn56, .ref xn57, .ref xn58, .ref xn59, .int 0, .int 0])), (ma0, .inr (11, [.int 0, .ref mn0, .int 0, .int 0, .int 0, .int 0, .int 0, .int 0, .int 0, .int 0, .int 0, .int 0, .long 0, .int 0, .ref mn21, .ref mn19, .ref mn1, .ref mn2, .ref mn3, .ref mn4, .ref mn5, .ref mn6, .ref mn7, .ref mn20, .int 0, .ref mn8, .ref mn9, .ref mn10, .ref mn11, .int 0, .int 0, .int 0, .ref mn12, .int (-1), .int (-1), .ref mn13, .ref mn14, .int 0, .ref mn15, .int 0, .int 0, .ref mn16, .ref mn17, .int 0, .int 0, .ref mn18, .int 0, .int 0, .int 0, .int 0]))] H locs) (hl : lv_has ls 7 [(4, .int 0), (3, .ref oo), (2, .ref ma0), (1, .ref xa0), (0, .ref b)]) : W p l e room_1 s m #[Value.ref b] below meth c H locs 167 5547 (lw_Z below #[Value.ref b] s) (F0 m 1071 ls []) := by
  have hx := M.1.1
  have hb := M.1.2.1
  have hbA : ¬ A b := fun h => absurd (hA9 _ h) (Nat.not_le.mpr hbl)
  refine lv_aload_n hx hb dL_law_1071 rfl (lv_at hl 3 rfl) ?_
  refine k_I (ce := 167) (sl := 5547) (rest := []) (wr := [(ma0, .inr (11, [.int 0, .ref mn0, .int 0, .int 0, .int 0, .int 0, .int 0, .int 0, .int 0, .int 0, .int 0, .int 0, .long 0, .int 0, .ref mn21, .ref mn19, .ref mn1, .ref mn2, .ref mn3, .ref mn4, .ref mn5, .ref mn6, .ref mn7, .ref mn20, .int 0, .ref mn8, .ref mn9, .ref mn10, .ref mn11, .int 0, .int 0, .int 0, .ref mn12, .int (-1), .int (-1), .ref mn13, .ref mn14, .int 0, .ref mn15, .int 0, .int 0, .ref mn16, .ref mn17, .int 0, .int 0, .ref mn18, .int 0, .int 0, .int 0, .int 0]))]) (r_V (f := 6) [0, 1, 2] M w V_HookedCityLaw_157 G1227 G1228 (c155_X11_sentence l D T _ xa0 xn0 xn2 xn7 xn12 xn18 xn22 xn23 xn26 xn28 xn29 xn30 xn40 xn50 xn55 xn1 xn56 xn57 xn58 xn59) 0 clX11 rfl rfl (by decide) rfl hl.1 rfl (Nat.le_of_ble_eq_true rfl) dL_law_1072 (by decide) (by decide) (by decide) (by decide)) w [0, 1, 2] [3] rfl rfl (by decide) (by decide) rfl rfl (fun v _ H locs hp w => ?_)
  have hp : (-1 : Int32) = v := hp
  subst hp
  have w : WD D A s.heap [(ma0, .inr (11, [.int 0, .ref mn0, .int 0, .int 0, .int 0, .int 0, .int 0, .int 0, .int 0, .int 0, .int 0, .int 0, .long 0, .int 0, .ref mn21, .ref mn19, .ref mn1, .ref mn2, .ref mn3, .ref mn4, .ref mn5, .ref mn6, .ref mn7, .ref mn20, .int 0, .ref mn8, .ref mn9, .ref mn10, .ref mn11, .int 0, .int 0, .int 0, .ref mn12, .int (-1), .int (-1), .ref mn13, .ref mn14, .int 0, .ref mn15, .int 0, .int 0, .ref mn16, .ref mn17, .int 0, .int 0, .ref mn18, .int 0, .int 0, .int 0, .int 0]))] H locs := w
  refine lv_aload_n hx hb dL_law_1075 rfl (lv_at hl 2 rfl) ?_
  refine k_I (ce := 167) (sl := 5547) (rest := [.int (-1)]) (wr := []) (r_V (f := 4) [0] M w V_HookedCityLaw_160 G2016 G2017 (c173_X12_sentence l D T _ ma0 mn0 mn21 mn19 mn1 mn2 mn3 mn4 mn5 mn6 mn7 mn20 mn8 mn9 mn10 mn11 mn12 mn13 mn14 mn15 mn16 mn17 mn18) 0 clX12 rfl rfl (by decide) rfl hl.1 rfl (Nat.le_of_ble_eq_true rfl) dL_law_1076 (by decide) (by decide) (by decide) (by decide)) w [0] [] rfl rfl (by decide) (by decide) rfl rfl (fun v _ H locs hp w => ?_)
  have hp : (-1 : Int32) = v := hp
  subst hp
  have w : WD D A s.heap [] H locs := w
  refine lv_icmp_eq (tgt := 1184) hx hb dL_law_1079 (by decide) (fun _ => ?_) (fun c => absurd (by decide +kernel) c)
  refine W.widen (k := 400000) (n := 6000000) (by decide) (by decide) ?_
  exact law_exit M hA9 hr hlocks hX hbl w (lv_sub hl [0, 4] rfl)
set_option maxRecDepth 100000 in
set_option maxHeartbeats 4000000 in
theorem law_33 {p : Program} {l : Launch} {e : Env} {s : State} {m : MethodId} {below : List Frame} {meth : Method} {c : Code} {D : va_G} {T : Nat → ClassId} {A : Nat → Prop} {b : Nat} {xs : Nat → Int32} (M : MC p s m #[Value.ref b] c code R_law 7 D T A) (hA9 : ∀ q, A q → s.heap.size ≤ q) (hr : meth.sig.returnType = ret) (hlocks : meth.locks = false) (hX : va_X b 6 xs s s.heap) (hbl : b < s.heap.size) (xa0 xn0 xn2 xn7 xn12 xn18 xn22 xn23 xn26 xn28 xn29 xn30 xn40 xn50 xn55 xn51 xn52 xn53 xn54 ma0 mn0 mn21 mn19 mn1 mn2 mn3 mn4 mn5 mn6 mn7 mn20 mn8 mn9 mn10 mn11 mn12 mn13 mn14 mn15 mn16 mn17 mn18 oo : Nat) {H : Heap} {locs : List Loc} {ls : Array Slot} (w : WD D A s.heap [(xa0, .inr (10, [.ref xn0, .ref xn2, .ref xn7, .ref xn12, .ref xn18, .ref xn22, .ref xn23, .ref xn26, .ref xn28, .ref xn29, .ref xn30, .ref xn40, .ref xn50, .ref xn55, .int 0, .int 0, .int 0])), (xn50, .inr (5, [.ref xn51, .ref xn52, .ref xn53, .ref xn54, .int 0, .int 0])), (ma0, .inr (11, [.int 0, .ref mn0, .int 0, .int 0, .int 0, .int 0, .int 0, .int 0, .int 0, .int 0, .int 0, .int 0, .long 0, .int 0, .ref mn21, .ref mn19, .ref mn1, .ref mn2, .ref mn3, .ref mn4, .ref mn5, .ref mn6, .ref mn7, .ref mn20, .int 0, .ref mn8, .ref mn9, .ref mn10, .ref mn11, .int 0, .int 0, .int 0, .ref mn12, .int (-1), .int (-1), .ref mn13, .ref mn14, .int 0, .ref mn15, .int 0, .int 0, .ref mn16, .ref mn17, .int 0, .int 0, .ref mn18, .int 0, .int 0, .int 0, .int 0])), (mn21, .inl (T 0, 329, .inl cn45))] H locs) (hl : lv_has ls 7 [(4, .int 0), (3, .ref oo), (2, .ref ma0), (1, .ref xa0), (0, .ref b)]) : W p l e room_1 s m #[Value.ref b] below meth c H locs 167 5547 (lw_Z below #[Value.ref b] s) (F0 m 1084 ls []) := by
  have hx := M.1.1
  have hb := M.1.2.1
  have hbA : ¬ A b := fun h => absurd (hA9 _ h) (Nat.not_le.mpr hbl)
  refine lv_aload_n hx hb dL_law_1084 rfl (lv_at hl 3 rfl) ?_
  refine lv_aload_n hx hb dL_law_1085 rfl (lv_at hl 4 rfl) ?_
  refine lv_iload hx hb dL_law_1086 (lv_at hl 0 rfl) ?_
  refine lv_iconst (v := 1) hx hb dL_law_1088 (by decide) ?_
  refine r_iadd (v := (1 : Int32)) M (by decide +kernel) dL_law_1089 ?_
  refine va_sld hx hb hX hbl hbA w.2.2.1 (vin (by decide +kernel)) dL_law_1090 ?_
  refine k_I (ce := 167) (sl := 5547) (rest := []) (wr := [(ma0, .inr (11, [.int 0, .ref mn0, .int 0, .int 0, .int 0, .int 0, .int 0, .int 0, .int 0, .int 0, .int 0, .int 0, .long 0, .int 0, .ref mn21, .ref mn19, .ref mn1, .ref mn2, .ref mn3, .ref mn4, .ref mn5, .ref mn6, .ref mn7, .ref mn20, .int 0, .ref mn8, .ref mn9, .ref mn10, .ref mn11, .int 0, .int 0, .int 0, .ref mn12, .int (-1), .int (-1), .ref mn13, .ref mn14, .int 0, .ref mn15, .int 0, .int 0, .ref mn16, .ref mn17, .int 0, .int 0, .ref mn18, .int 0, .int 0, .int 0, .int 0])), (mn21, .inl (T 0, 329, .inl cn45))]) (r_V (f := 1) [0, 1] M w V_HookedCityLaw_161 G1298 G1299 (c175_X11_said l D T _ xa0 xn0 xn2 xn7 xn12 xn18 xn22 xn23 xn26 xn28 xn29 xn30 xn40 xn50 xn55 xn51 xn52 xn53 xn54 (xs (Int32.toNatClampNeg (1 : Int32)))) 0 clX11 rfl rfl (by decide) rfl hl.1 rfl (Nat.le_of_ble_eq_true rfl) dL_law_1091 (by decide) (by decide) (by decide) (by decide)) w [0, 1] [2, 3] rfl rfl (by decide) (by decide) rfl rfl (fun v _ H locs hp w => ?_)
  have hp : (-1 : Int32) = v := hp
  subst hp
  have w : WD D A s.heap [(ma0, .inr (11, [.int 0, .ref mn0, .int 0, .int 0, .int 0, .int 0, .int 0, .int 0, .int 0, .int 0, .int 0, .int 0, .long 0, .int 0, .ref mn21, .ref mn19, .ref mn1, .ref mn2, .ref mn3, .ref mn4, .ref mn5, .ref mn6, .ref mn7, .ref mn20, .int 0, .ref mn8, .ref mn9, .ref mn10, .ref mn11, .int 0, .int 0, .int 0, .ref mn12, .int (-1), .int (-1), .ref mn13, .ref mn14, .int 0, .ref mn15, .int 0, .int 0, .ref mn16, .ref mn17, .int 0, .int 0, .ref mn18, .int 0, .int 0, .int 0, .int 0])), (mn21, .inl (T 0, 329, .inl cn45))] H locs := w
  refine lv_aload_n hx hb dL_law_1094 rfl (lv_at hl 2 rfl) ?_
  refine lv_aload_n hx hb dL_law_1095 rfl (lv_at hl 4 rfl) ?_
  refine lv_iload hx hb dL_law_1096 (lv_at hl 0 rfl) ?_
  refine lv_iconst (v := 1) hx hb dL_law_1098 (by decide) ?_
  refine r_iadd (v := (1 : Int32)) M (by decide +kernel) dL_law_1099 ?_
  refine va_sld hx hb hX hbl hbA w.2.2.1 (vin (by decide +kernel)) dL_law_1100 ?_
  refine k_I (ce := 167) (sl := 5547) (rest := [.int (-1)]) (wr := []) (r_V (f := 0) [0, 1] M w V_HookedCityLaw_164 G2052 G2053 (c176_X12_said l D T _ ma0 mn0 mn21 mn19 mn1 mn2 mn3 mn4 mn5 mn6 mn7 mn20 mn8 mn9 mn10 mn11 mn12 mn13 mn14 mn15 mn16 mn17 mn18 (xs (Int32.toNatClampNeg (1 : Int32)))) 0 clX12 rfl rfl (by decide) rfl hl.1 rfl (Nat.le_of_ble_eq_true rfl) dL_law_1101 (by decide) (by decide) (by decide) (by decide)) w [0, 1] [] rfl rfl (by decide) (by decide) rfl rfl (fun v _ H locs hp w => ?_)
  have hp : (-1 : Int32) = v := hp
  subst hp
  have w : WD D A s.heap [] H locs := w
  refine lv_icmp_eq (tgt := 1184) hx hb dL_law_1104 (by decide) (fun _ => ?_) (fun c => absurd (by decide +kernel) c)
  refine W.widen (k := 400000) (n := 6000000) (by decide) (by decide) ?_
  exact law_exit M hA9 hr hlocks hX hbl w (lv_sub hl [0, 4] rfl)
set_option maxRecDepth 100000 in
set_option maxHeartbeats 4000000 in
theorem law_34 {p : Program} {l : Launch} {e : Env} {s : State} {m : MethodId} {below : List Frame} {meth : Method} {c : Code} {D : va_G} {T : Nat → ClassId} {A : Nat → Prop} {b : Nat} {xs : Nat → Int32} (M : MC p s m #[Value.ref b] c code R_law 7 D T A) (hA9 : ∀ q, A q → s.heap.size ≤ q) (hr : meth.sig.returnType = ret) (hlocks : meth.locks = false) (hX : va_X b 6 xs s s.heap) (hbl : b < s.heap.size) (xa0 xn0 xn2 xn7 xn12 xn18 xn22 xn23 xn26 xn28 xn29 xn30 xn40 xn50 xn55 xn3 xn4 xn5 xn6 xn121 xn100 xn31 xn32 xn33 xn34 xn35 xn36 xn37 xn38 xn39 xn51 xn52 xn53 xn54 xn122 xn132 xn137 xn101 xn111 xn116 xn123 xn124 xn125 xn126 xn127 xn128 xn129 xn130 xn131 xn133 xn134 xn135 xn136 xn138 xn139 xn140 xn141 xn102 xn103 xn104 xn105 xn106 xn107 xn108 xn109 xn110 xn112 xn113 xn114 xn115 xn117 xn118 xn119 xn120 ma0 mn0 mn21 mn19 mn1 mn2 mn3 mn4 mn5 mn6 mn7 mn20 mn8 mn9 mn10 mn11 mn12 mn13 mn14 mn15 mn16 mn17 mn18 oo : Nat) {H : Heap} {locs : List Loc} {ls : Array Slot} (w : WD D A s.heap [(xa0, .inr (10, [.ref xn0, .ref xn2, .ref xn7, .ref xn12, .ref xn18, .ref xn22, .ref xn23, .ref xn26, .ref xn28, .ref xn29, .ref xn30, .ref xn40, .ref xn50, .ref xn55, .int 0, .int 0, .int 0])), (xn2, .inr (7, [.ref xn3, .ref xn4, .ref xn5, .ref xn6, .int 0, .int 0, .int 0, .int 0])), (xn29, .inl (T 4, 2, .inr (.inr (.inr (.inr (va_up (va_up (fun _ => none) (Int32.toNatClampNeg (0 : Int32)) (some xn100)) (Int32.toNatClampNeg (1 : Int32)) (some xn121))))))), (xn30, .inr (9, [.ref xn31, .ref xn32, .ref xn33, .ref xn34, .ref xn35, .ref xn36, .ref xn37, .ref xn38, .ref xn39, .int 0, .int 0, .int 0, .int 0, .int 12, .int 1, .int 0, .int 0, .int 0])), (xn50, .inr (5, [.ref xn51, .ref xn52, .ref xn53, .ref xn54, .int 0, .int 0])), (xn3, .inl (T 0, 9, .inl (fun _ => 0))), (xn4, .inl (T 0, 9, .inl (fun _ => 0))), (xn5, .inl (T 0, 9, .inl (fun _ => 0))), (xn6, .inl (T 0, 3, .inl (fun _ => 0))), (xn121, .inr (1, [.ref xn122, .ref xn132, .ref xn137, .int 0])), (xn100, .inr (1, [.ref xn101, .ref xn111, .ref xn116, .int 0])), (xn31, .inl (T 1, 9, .inr (.inl (fun _ => 0)))), (xn32, .inl (T 0, 9, .inl (fun _ => 0))), (xn33, .inl (T 0, 9, .inl (fun _ => 0))), (xn34, .inl (T 0, 9, .inl (fun _ => 0))), (xn35, .inl (T 0, 9, .inl (fun _ => 0))), (xn38, .inl (T 1, 3, .inr (.inl (fun _ => 0)))), (xn39, .inl (T 0, 3, .inl (fun _ => 0))), (xn122, .inr (9, [.ref xn123, .ref xn124, .ref xn125, .ref xn126, .ref xn127, .ref xn128, .ref xn129, .ref xn130, .ref xn131, .int 0, .int 0, .int 0, .int 0, .int 12, .int 1, .int 0, .int 0, .int 0])), (xn132, .inr (7, [.ref xn133, .ref xn134, .ref xn135, .ref xn136, .int 0, .int 0, .int 0, .int 0])), (xn137, .inr (5, [.ref xn138, .ref xn139, .ref xn140, .ref xn141, .int 0, .int 0])), (xn101, .inr (9, [.ref xn102, .ref xn103, .ref xn104, .ref xn105, .ref xn106, .ref xn107, .ref xn108, .ref xn109, .ref xn110, .int 0, .int 0, .int 0, .int 0, .int 12, .int 1, .int 0, .int 0, .int 0])), (xn111, .inr (7, [.ref xn112, .ref xn113, .ref xn114, .ref xn115, .int 0, .int 0, .int 0, .int 0])), (xn116, .inr (5, [.ref xn117, .ref xn118, .ref xn119, .ref xn120, .int 0, .int 0])), (xn123, .inl (T 1, 9, .inr (.inl (fun _ => 0)))), (xn124, .inl (T 0, 9, .inl (fun _ => 0))), (xn125, .inl (T 0, 9, .inl (fun _ => 0))), (xn126, .inl (T 0, 9, .inl (fun _ => 0))), (xn127, .inl (T 0, 9, .inl (fun _ => 0))), (xn130, .inl (T 1, 3, .inr (.inl (fun _ => 0)))), (xn131, .inl (T 0, 3, .inl (fun _ => 0))), (xn133, .inl (T 0, 9, .inl (fun _ => 0))), (xn134, .inl (T 0, 9, .inl (fun _ => 0))), (xn135, .inl (T 0, 9, .inl (fun _ => 0))), (xn136, .inl (T 0, 3, .inl (fun _ => 0))), (xn102, .inl (T 1, 9, .inr (.inl (fun _ => 0)))), (xn103, .inl (T 0, 9, .inl (fun _ => 0))), (xn104, .inl (T 0, 9, .inl (fun _ => 0))), (xn105, .inl (T 0, 9, .inl (fun _ => 0))), (xn106, .inl (T 0, 9, .inl (fun _ => 0))), (xn109, .inl (T 1, 3, .inr (.inl (fun _ => 0)))), (xn110, .inl (T 0, 3, .inl (fun _ => 0))), (xn112, .inl (T 0, 9, .inl (fun _ => 0))), (xn113, .inl (T 0, 9, .inl (fun _ => 0))), (xn114, .inl (T 0, 9, .inl (fun _ => 0))), (xn115, .inl (T 0, 3, .inl (fun _ => 0))), (ma0, .inr (11, [.int 0, .ref mn0, .int 0, .int 0, .int 0, .int 0, .int 0, .int 0, .int 0, .int 0, .int 0, .int 0, .long 0, .int 0, .ref mn21, .ref mn19, .ref mn1, .ref mn2, .ref mn3, .ref mn4, .ref mn5, .ref mn6, .ref mn7, .ref mn20, .int 0, .ref mn8, .ref mn9, .ref mn10, .ref mn11, .int 0, .int 0, .int 0, .ref mn12, .int (-1), .int (-1), .ref mn13, .ref mn14, .int 0, .ref mn15, .int 0, .int 0, .ref mn16, .ref mn17, .int 0, .int 0, .ref mn18, .int 0, .int 0, .int 0, .int 0])), (mn21, .inl (T 0, 329, .inl cn45)), (mn1, .inl (T 0, 658, .inl (fun _ => 0))), (mn4, .inl (T 1, 12, .inr (.inl (fun _ => 0)))), (mn6, .inl (T 1, 24, .inr (.inl (fun _ => 0)))), (mn7, .inl (T 2, 2, .inl (fun _ => 0)))] H locs) (hl : lv_has ls 7 [(4, .int 0), (3, .ref oo), (2, .ref ma0), (1, .ref xa0), (0, .ref b)]) : W p l e room_1 s m #[Value.ref b] below meth c H locs 167 5547 (lw_Z below #[Value.ref b] s) (F0 m 1109 ls []) := by
  have hx := M.1.1
  have hb := M.1.2.1
  have hbA : ¬ A b := fun h => absurd (hA9 _ h) (Nat.not_le.mpr hbl)
  refine lv_aload_n hx hb dL_law_1109 rfl (lv_at hl 3 rfl) ?_
  refine lv_aload_n hx hb dL_law_1110 rfl (lv_at hl 4 rfl) ?_
  refine lv_iload hx hb dL_law_1111 (lv_at hl 0 rfl) ?_
  refine lv_iconst (v := 1) hx hb dL_law_1113 (by decide) ?_
  refine r_iadd (v := (1 : Int32)) M (by decide +kernel) dL_law_1114 ?_
  refine va_sld hx hb hX hbl hbA w.2.2.1 (vin (by decide +kernel)) dL_law_1115 ?_
  refine k_I (ce := 167) (sl := 5547) (rest := []) (wr := [(ma0, .inr (11, [.int 0, .ref mn0, .int 0, .int 0, .int 0, .int 0, .int 0, .int 0, .int 0, .int 0, .int 0, .int 0, .long 0, .int 0, .ref mn21, .ref mn19, .ref mn1, .ref mn2, .ref mn3, .ref mn4, .ref mn5, .ref mn6, .ref mn7, .ref mn20, .int 0, .ref mn8, .ref mn9, .ref mn10, .ref mn11, .int 0, .int 0, .int 0, .ref mn12, .int (-1), .int (-1), .ref mn13, .ref mn14, .int 0, .ref mn15, .int 0, .int 0, .ref mn16, .ref mn17, .int 0, .int 0, .ref mn18, .int 0, .int 0, .int 0, .int 0])), (mn21, .inl (T 0, 329, .inl cn45)), (mn1, .inl (T 0, 658, .inl (fun _ => 0))), (mn4, .inl (T 1, 12, .inr (.inl (fun _ => 0)))), (mn6, .inl (T 1, 24, .inr (.inl (fun _ => 0)))), (mn7, .inl (T 2, 2, .inl (fun _ => 0)))]) (r_V (f := 3) [0, 1, 2, 3, 4, 5, 6, 7, 8, 9, 10, 11, 12, 13, 14, 15, 16, 17, 18, 19, 20, 21, 22, 23, 24, 25, 26, 27, 28, 29, 30, 31, 32, 33, 34, 35, 36, 37, 38, 39, 40, 41, 42, 43, 44, 45] M w V_HookedCityLaw_165 G1337 G1338 (c180_X11_image l D T _ xa0 xn0 xn2 xn7 xn12 xn18 xn22 xn23 xn26 xn28 xn29 xn30 xn40 xn50 xn55 xn3 xn4 xn5 xn6 xn121 xn100 xn31 xn32 xn33 xn34 xn35 xn36 xn37 xn38 xn39 xn51 xn52 xn53 xn54 xn122 xn132 xn137 xn101 xn111 xn116 xn123 xn124 xn125 xn126 xn127 xn128 xn129 xn130 xn131 xn133 xn134 xn135 xn136 xn138 xn139 xn140 xn141 xn102 xn103 xn104 xn105 xn106 xn107 xn108 xn109 xn110 xn112 xn113 xn114 xn115 xn117 xn118 xn119 xn120 (xs (Int32.toNatClampNeg (1 : Int32)))) 0 clX11 rfl rfl (by decide) rfl hl.1 rfl (Nat.le_of_ble_eq_true rfl) dL_law_1116 (by decide) (by decide) (by decide) (by decide)) w [0, 1, 2, 3, 4, 5, 6, 7, 8, 9, 10, 11, 12, 13, 14, 15, 16, 17, 18, 19, 20, 21, 22, 23, 24, 25, 26, 27, 28, 29, 30, 31, 32, 33, 34, 35, 36, 37, 38, 39, 40, 41, 42, 43, 44, 45] [46, 47, 48, 49, 50, 51] rfl rfl (by decide) (by decide) rfl rfl (fun v _ H locs hp w => ?_)
  try dsimp only at hp
  rcases hp with ⟨c_1, hp⟩ | ⟨c_2, c_3, hp⟩ | ⟨c_4, c_5, c_6, hp⟩ | ⟨c_7, c_8, c_9, hp⟩
  · have hp : (0 : Int32) = v := hp
    subst hp
    have w : WD D A s.heap [(ma0, .inr (11, [.int 0, .ref mn0, .int 0, .int 0, .int 0, .int 0, .int 0, .int 0, .int 0, .int 0, .int 0, .int 0, .long 0, .int 0, .ref mn21, .ref mn19, .ref mn1, .ref mn2, .ref mn3, .ref mn4, .ref mn5, .ref mn6, .ref mn7, .ref mn20, .int 0, .ref mn8, .ref mn9, .ref mn10, .ref mn11, .int 0, .int 0, .int 0, .ref mn12, .int (-1), .int (-1), .ref mn13, .ref mn14, .int 0, .ref mn15, .int 0, .int 0, .ref mn16, .ref mn17, .int 0, .int 0, .ref mn18, .int 0, .int 0, .int 0, .int 0])), (mn21, .inl (T 0, 329, .inl cn45)), (mn1, .inl (T 0, 658, .inl (fun _ => 0))), (mn4, .inl (T 1, 12, .inr (.inl (fun _ => 0)))), (mn6, .inl (T 1, 24, .inr (.inl (fun _ => 0)))), (mn7, .inl (T 2, 2, .inl (fun _ => 0)))] H locs := w
    refine lv_aload_n hx hb dL_law_1119 rfl (lv_at hl 2 rfl) ?_
    refine lv_aload_n hx hb dL_law_1120 rfl (lv_at hl 4 rfl) ?_
    refine lv_iload hx hb dL_law_1121 (lv_at hl 0 rfl) ?_
    refine lv_iconst (v := 1) hx hb dL_law_1123 (by decide) ?_
    refine r_iadd (v := (1 : Int32)) M (by decide +kernel) dL_law_1124 ?_
    refine va_sld hx hb hX hbl hbA w.2.2.1 (vin (by decide +kernel)) dL_law_1125 ?_
    refine k_I (ce := 167) (sl := 5547) (rest := [.int 0]) (wr := []) (r_V (f := 1) [0, 1, 2, 3, 4, 5] M w V_HookedCityLaw_168 G2060 G2061 (c181_X12_image l D T _ ma0 mn0 mn21 mn19 mn1 mn2 mn3 mn4 mn5 mn6 mn7 mn20 mn8 mn9 mn10 mn11 mn12 mn13 mn14 mn15 mn16 mn17 mn18 (xs (Int32.toNatClampNeg (1 : Int32)))) 0 clX12 rfl rfl (by decide) rfl hl.1 rfl (Nat.le_of_ble_eq_true rfl) dL_law_1126 (by decide) (by decide) (by decide) (by decide)) w [0, 1, 2, 3, 4, 5] [] rfl rfl (by decide) (by decide) rfl rfl (fun v _ H locs hp w => ?_)
    try dsimp only at hp
    rcases hp with ⟨c_10, hp⟩ | ⟨c_11, c_12, hp⟩ | ⟨c_13, c_14, c_15, hp⟩ | ⟨c_16, c_17, c_18, hp⟩
    · have hp : (0 : Int32) = v := hp
      subst hp
      have w : WD D A s.heap [] H locs := w
      refine lv_icmp_eq (tgt := 1184) hx hb dL_law_1129 (by decide) (fun _ => ?_) (fun c => absurd (by decide +kernel) c)
      refine W.widen (k := 400000) (n := 6000000) (by decide) (by decide) ?_
      exact law_exit M hA9 hr hlocks hX hbl w (lv_sub hl [0, 4] rfl)
    · exfalso
      simp only [fa_lt, fa_le, fa_eq] at c_1 c_11 c_12
      have e0 : (0 : Int32).toInt = 0 := (by decide)
      have e1 : (1 : Int32).toInt = 1 := (by decide)
      omega
    · exfalso
      simp only [fa_lt, fa_le, fa_eq] at c_1 c_13 c_14 c_15
      have e0 : (0 : Int32).toInt = 0 := (by decide)
      have e1 : (1 : Int32).toInt = 1 := (by decide)
      omega
    · exfalso
      simp only [fa_lt, fa_le, fa_eq] at c_1 c_16 c_17 c_18
      have e0 : (0 : Int32).toInt = 0 := (by decide)
      have e1 : (1 : Int32).toInt = 1 := (by decide)
      omega
  · have hp : (0 : Int32) = v := hp
    subst hp
    have w : WD D A s.heap [(ma0, .inr (11, [.int 0, .ref mn0, .int 0, .int 0, .int 0, .int 0, .int 0, .int 0, .int 0, .int 0, .int 0, .int 0, .long 0, .int 0, .ref mn21, .ref mn19, .ref mn1, .ref mn2, .ref mn3, .ref mn4, .ref mn5, .ref mn6, .ref mn7, .ref mn20, .int 0, .ref mn8, .ref mn9, .ref mn10, .ref mn11, .int 0, .int 0, .int 0, .ref mn12, .int (-1), .int (-1), .ref mn13, .ref mn14, .int 0, .ref mn15, .int 0, .int 0, .ref mn16, .ref mn17, .int 0, .int 0, .ref mn18, .int 0, .int 0, .int 0, .int 0])), (mn21, .inl (T 0, 329, .inl cn45)), (mn1, .inl (T 0, 658, .inl (fun _ => 0))), (mn4, .inl (T 1, 12, .inr (.inl (fun _ => 0)))), (mn6, .inl (T 1, 24, .inr (.inl (fun _ => 0)))), (mn7, .inl (T 2, 2, .inl (fun _ => 0)))] H locs := w
    refine lv_aload_n hx hb dL_law_1119 rfl (lv_at hl 2 rfl) ?_
    refine lv_aload_n hx hb dL_law_1120 rfl (lv_at hl 4 rfl) ?_
    refine lv_iload hx hb dL_law_1121 (lv_at hl 0 rfl) ?_
    refine lv_iconst (v := 1) hx hb dL_law_1123 (by decide) ?_
    refine r_iadd (v := (1 : Int32)) M (by decide +kernel) dL_law_1124 ?_
    refine va_sld hx hb hX hbl hbA w.2.2.1 (vin (by decide +kernel)) dL_law_1125 ?_
    refine k_I (ce := 167) (sl := 5547) (rest := [.int 0]) (wr := []) (r_V (f := 1) [0, 1, 2, 3, 4, 5] M w V_HookedCityLaw_168 G2060 G2061 (c181_X12_image l D T _ ma0 mn0 mn21 mn19 mn1 mn2 mn3 mn4 mn5 mn6 mn7 mn20 mn8 mn9 mn10 mn11 mn12 mn13 mn14 mn15 mn16 mn17 mn18 (xs (Int32.toNatClampNeg (1 : Int32)))) 0 clX12 rfl rfl (by decide) rfl hl.1 rfl (Nat.le_of_ble_eq_true rfl) dL_law_1126 (by decide) (by decide) (by decide) (by decide)) w [0, 1, 2, 3, 4, 5] [] rfl rfl (by decide) (by decide) rfl rfl (fun v _ H locs hp w => ?_)
    try dsimp only at hp
    rcases hp with ⟨c_19, hp⟩ | ⟨c_20, c_21, hp⟩ | ⟨c_22, c_23, c_24, hp⟩ | ⟨c_25, c_26, c_27, hp⟩
    · exfalso
      simp only [fa_lt, fa_le, fa_eq] at c_2 c_3 c_19
      have e0 : (0 : Int32).toInt = 0 := (by decide)
      have e2 : (2 : Int32).toInt = 2 := (by decide)
      omega
    · have hp : (0 : Int32) = v := hp
      subst hp
      have w : WD D A s.heap [] H locs := w
      refine lv_icmp_eq (tgt := 1184) hx hb dL_law_1129 (by decide) (fun _ => ?_) (fun c => absurd (by decide +kernel) c)
      refine W.widen (k := 400000) (n := 6000000) (by decide) (by decide) ?_
      exact law_exit M hA9 hr hlocks hX hbl w (lv_sub hl [0, 4] rfl)
    · exfalso
      simp only [fa_lt, fa_le, fa_eq] at c_2 c_3 c_22 c_23 c_24
      have e0 : (0 : Int32).toInt = 0 := (by decide)
      have e1 : (1 : Int32).toInt = 1 := (by decide)
      have e2 : (2 : Int32).toInt = 2 := (by decide)
      omega
    · exfalso
      simp only [fa_lt, fa_le, fa_eq] at c_2 c_3 c_25 c_26 c_27
      have e0 : (0 : Int32).toInt = 0 := (by decide)
      have e1 : (1 : Int32).toInt = 1 := (by decide)
      have e2 : (2 : Int32).toInt = 2 := (by decide)
      omega
  · have hp : (1 : Int32) = v := hp
    subst hp
    have w : WD D A s.heap [(ma0, .inr (11, [.int 0, .ref mn0, .int 0, .int 0, .int 0, .int 0, .int 0, .int 0, .int 0, .int 0, .int 0, .int 0, .long 0, .int 0, .ref mn21, .ref mn19, .ref mn1, .ref mn2, .ref mn3, .ref mn4, .ref mn5, .ref mn6, .ref mn7, .ref mn20, .int 0, .ref mn8, .ref mn9, .ref mn10, .ref mn11, .int 0, .int 0, .int 0, .ref mn12, .int (-1), .int (-1), .ref mn13, .ref mn14, .int 0, .ref mn15, .int 0, .int 0, .ref mn16, .ref mn17, .int 0, .int 0, .ref mn18, .int 0, .int 0, .int 0, .int 0])), (mn21, .inl (T 0, 329, .inl cn45)), (mn1, .inl (T 0, 658, .inl (fun _ => 0))), (mn4, .inl (T 1, 12, .inr (.inl (fun _ => 0)))), (mn6, .inl (T 1, 24, .inr (.inl (fun _ => 0)))), (mn7, .inl (T 2, 2, .inl (fun _ => 0)))] H locs := w
    refine lv_aload_n hx hb dL_law_1119 rfl (lv_at hl 2 rfl) ?_
    refine lv_aload_n hx hb dL_law_1120 rfl (lv_at hl 4 rfl) ?_
    refine lv_iload hx hb dL_law_1121 (lv_at hl 0 rfl) ?_
    refine lv_iconst (v := 1) hx hb dL_law_1123 (by decide) ?_
    refine r_iadd (v := (1 : Int32)) M (by decide +kernel) dL_law_1124 ?_
    refine va_sld hx hb hX hbl hbA w.2.2.1 (vin (by decide +kernel)) dL_law_1125 ?_
    refine k_I (ce := 167) (sl := 5547) (rest := [.int 1]) (wr := []) (r_V (f := 1) [0, 1, 2, 3, 4, 5] M w V_HookedCityLaw_168 G2060 G2061 (c181_X12_image l D T _ ma0 mn0 mn21 mn19 mn1 mn2 mn3 mn4 mn5 mn6 mn7 mn20 mn8 mn9 mn10 mn11 mn12 mn13 mn14 mn15 mn16 mn17 mn18 (xs (Int32.toNatClampNeg (1 : Int32)))) 0 clX12 rfl rfl (by decide) rfl hl.1 rfl (Nat.le_of_ble_eq_true rfl) dL_law_1126 (by decide) (by decide) (by decide) (by decide)) w [0, 1, 2, 3, 4, 5] [] rfl rfl (by decide) (by decide) rfl rfl (fun v _ H locs hp w => ?_)
    try dsimp only at hp
    rcases hp with ⟨c_28, hp⟩ | ⟨c_29, c_30, hp⟩ | ⟨c_31, c_32, c_33, hp⟩ | ⟨c_34, c_35, c_36, hp⟩
    · exfalso
      simp only [fa_lt, fa_le, fa_eq] at c_4 c_5 c_6 c_28
      have e0 : (0 : Int32).toInt = 0 := (by decide)
      have e2 : (2 : Int32).toInt = 2 := (by decide)
      omega
    · exfalso
      simp only [fa_lt, fa_le, fa_eq] at c_4 c_5 c_6 c_29 c_30
      have e0 : (0 : Int32).toInt = 0 := (by decide)
      have e1 : (1 : Int32).toInt = 1 := (by decide)
      have e2 : (2 : Int32).toInt = 2 := (by decide)
      omega
    · have hp : (1 : Int32) = v := hp
      subst hp
      have w : WD D A s.heap [] H locs := w
      refine lv_icmp_eq (tgt := 1184) hx hb dL_law_1129 (by decide) (fun _ => ?_) (fun c => absurd (by decide +kernel) c)
      refine W.widen (k := 400000) (n := 6000000) (by decide) (by decide) ?_
      exact law_exit M hA9 hr hlocks hX hbl w (lv_sub hl [0, 4] rfl)
    · exfalso
      simp only [fa_lt, fa_le, fa_eq] at c_4 c_5 c_6 c_34 c_35 c_36
      have e0 : (0 : Int32).toInt = 0 := (by decide)
      have e1 : (1 : Int32).toInt = 1 := (by decide)
      have e2 : (2 : Int32).toInt = 2 := (by decide)
      omega
  · have hp : (1 : Int32) = v := hp
    subst hp
    have w : WD D A s.heap [(ma0, .inr (11, [.int 0, .ref mn0, .int 0, .int 0, .int 0, .int 0, .int 0, .int 0, .int 0, .int 0, .int 0, .int 0, .long 0, .int 0, .ref mn21, .ref mn19, .ref mn1, .ref mn2, .ref mn3, .ref mn4, .ref mn5, .ref mn6, .ref mn7, .ref mn20, .int 0, .ref mn8, .ref mn9, .ref mn10, .ref mn11, .int 0, .int 0, .int 0, .ref mn12, .int (-1), .int (-1), .ref mn13, .ref mn14, .int 0, .ref mn15, .int 0, .int 0, .ref mn16, .ref mn17, .int 0, .int 0, .ref mn18, .int 0, .int 0, .int 0, .int 0])), (mn21, .inl (T 0, 329, .inl cn45)), (mn1, .inl (T 0, 658, .inl (fun _ => 0))), (mn4, .inl (T 1, 12, .inr (.inl (fun _ => 0)))), (mn6, .inl (T 1, 24, .inr (.inl (fun _ => 0)))), (mn7, .inl (T 2, 2, .inl (fun _ => 0)))] H locs := w
    refine lv_aload_n hx hb dL_law_1119 rfl (lv_at hl 2 rfl) ?_
    refine lv_aload_n hx hb dL_law_1120 rfl (lv_at hl 4 rfl) ?_
    refine lv_iload hx hb dL_law_1121 (lv_at hl 0 rfl) ?_
    refine lv_iconst (v := 1) hx hb dL_law_1123 (by decide) ?_
    refine r_iadd (v := (1 : Int32)) M (by decide +kernel) dL_law_1124 ?_
    refine va_sld hx hb hX hbl hbA w.2.2.1 (vin (by decide +kernel)) dL_law_1125 ?_
    refine k_I (ce := 167) (sl := 5547) (rest := [.int 1]) (wr := []) (r_V (f := 1) [0, 1, 2, 3, 4, 5] M w V_HookedCityLaw_168 G2060 G2061 (c181_X12_image l D T _ ma0 mn0 mn21 mn19 mn1 mn2 mn3 mn4 mn5 mn6 mn7 mn20 mn8 mn9 mn10 mn11 mn12 mn13 mn14 mn15 mn16 mn17 mn18 (xs (Int32.toNatClampNeg (1 : Int32)))) 0 clX12 rfl rfl (by decide) rfl hl.1 rfl (Nat.le_of_ble_eq_true rfl) dL_law_1126 (by decide) (by decide) (by decide) (by decide)) w [0, 1, 2, 3, 4, 5] [] rfl rfl (by decide) (by decide) rfl rfl (fun v _ H locs hp w => ?_)
    try dsimp only at hp
    rcases hp with ⟨c_37, hp⟩ | ⟨c_38, c_39, hp⟩ | ⟨c_40, c_41, c_42, hp⟩ | ⟨c_43, c_44, c_45, hp⟩
    · exfalso
      simp only [fa_lt, fa_le, fa_eq] at c_7 c_8 c_9 c_37
      have e0 : (0 : Int32).toInt = 0 := (by decide)
      have e1 : (1 : Int32).toInt = 1 := (by decide)
      have e2 : (2 : Int32).toInt = 2 := (by decide)
      omega
    · exfalso
      simp only [fa_lt, fa_le, fa_eq] at c_7 c_8 c_9 c_38 c_39
      have e0 : (0 : Int32).toInt = 0 := (by decide)
      have e1 : (1 : Int32).toInt = 1 := (by decide)
      have e2 : (2 : Int32).toInt = 2 := (by decide)
      omega
    · exfalso
      simp only [fa_lt, fa_le, fa_eq] at c_7 c_8 c_9 c_40 c_41 c_42
      have e0 : (0 : Int32).toInt = 0 := (by decide)
      have e1 : (1 : Int32).toInt = 1 := (by decide)
      have e2 : (2 : Int32).toInt = 2 := (by decide)
      omega
    · have hp : (1 : Int32) = v := hp
      subst hp
      have w : WD D A s.heap [] H locs := w
      refine lv_icmp_eq (tgt := 1184) hx hb dL_law_1129 (by decide) (fun _ => ?_) (fun c => absurd (by decide +kernel) c)
      refine W.widen (k := 400000) (n := 6000000) (by decide) (by decide) ?_
      exact law_exit M hA9 hr hlocks hX hbl w (lv_sub hl [0, 4] rfl)
set_option maxRecDepth 100000 in
set_option maxHeartbeats 4000000 in
theorem law_35 {p : Program} {l : Launch} {e : Env} {s : State} {m : MethodId} {below : List Frame} {meth : Method} {c : Code} {D : va_G} {T : Nat → ClassId} {A : Nat → Prop} {b : Nat} {xs : Nat → Int32} (M : MC p s m #[Value.ref b] c code R_law 7 D T A) (hA9 : ∀ q, A q → s.heap.size ≤ q) (hr : meth.sig.returnType = ret) (hlocks : meth.locks = false) (hX : va_X b 6 xs s s.heap) (hbl : b < s.heap.size) (xa0 xn0 xn2 xn7 xn12 xn18 xn22 xn23 xn26 xn28 xn29 xn30 xn40 xn50 xn55 xn121 xn100 xn122 xn132 xn137 xn101 xn111 xn116 ma0 mn0 mn21 mn19 mn1 mn2 mn3 mn4 mn5 mn6 mn7 mn20 mn8 mn9 mn10 mn11 mn12 mn13 mn14 mn15 mn16 mn17 mn18 oo : Nat) {H : Heap} {locs : List Loc} {ls : Array Slot} (w : WD D A s.heap [(xa0, .inr (10, [.ref xn0, .ref xn2, .ref xn7, .ref xn12, .ref xn18, .ref xn22, .ref xn23, .ref xn26, .ref xn28, .ref xn29, .ref xn30, .ref xn40, .ref xn50, .ref xn55, .int 0, .int 0, .int 0])), (xn29, .inl (T 4, 2, .inr (.inr (.inr (.inr (va_up (va_up (fun _ => none) (Int32.toNatClampNeg (0 : Int32)) (some xn100)) (Int32.toNatClampNeg (1 : Int32)) (some xn121))))))), (xn121, .inr (1, [.ref xn122, .ref xn132, .ref xn137, .int 0])), (xn100, .inr (1, [.ref xn101, .ref xn111, .ref xn116, .int 0])), (ma0, .inr (11, [.int 0, .ref mn0, .int 0, .int 0, .int 0, .int 0, .int 0, .int 0, .int 0, .int 0, .int 0, .int 0, .long 0, .int 0, .ref mn21, .ref mn19, .ref mn1, .ref mn2, .ref mn3, .ref mn4, .ref mn5, .ref mn6, .ref mn7, .ref mn20, .int 0, .ref mn8, .ref mn9, .ref mn10, .ref mn11, .int 0, .int 0, .int 0, .ref mn12, .int (-1), .int (-1), .ref mn13, .ref mn14, .int 0, .ref mn15, .int 0, .int 0, .ref mn16, .ref mn17, .int 0, .int 0, .ref mn18, .int 0, .int 0, .int 0, .int 0])), (mn7, .inl (T 2, 2, .inl (fun _ => 0)))] H locs) (hl : lv_has ls 7 [(4, .int 0), (3, .ref oo), (2, .ref ma0), (1, .ref xa0), (0, .ref b)]) : W p l e room_1 s m #[Value.ref b] below meth c H locs 167 5547 (lw_Z below #[Value.ref b] s) (F0 m 1134 ls []) := by
  have hx := M.1.1
  have hb := M.1.2.1
  have hbA : ¬ A b := fun h => absurd (hA9 _ h) (Nat.not_le.mpr hbl)
  refine lv_aload_n hx hb dL_law_1134 rfl (lv_at hl 3 rfl) ?_
  refine lv_aload_n hx hb dL_law_1135 rfl (lv_at hl 4 rfl) ?_
  refine lv_iload hx hb dL_law_1136 (lv_at hl 0 rfl) ?_
  refine lv_iconst (v := 1) hx hb dL_law_1138 (by decide) ?_
  refine r_iadd (v := (1 : Int32)) M (by decide +kernel) dL_law_1139 ?_
  refine va_sld hx hb hX hbl hbA w.2.2.1 (vin (by decide +kernel)) dL_law_1140 ?_
  refine k_I (ce := 167) (sl := 5547) (rest := []) (wr := [(ma0, .inr (11, [.int 0, .ref mn0, .int 0, .int 0, .int 0, .int 0, .int 0, .int 0, .int 0, .int 0, .int 0, .int 0, .long 0, .int 0, .ref mn21, .ref mn19, .ref mn1, .ref mn2, .ref mn3, .ref mn4, .ref mn5, .ref mn6, .ref mn7, .ref mn20, .int 0, .ref mn8, .ref mn9, .ref mn10, .ref mn11, .int 0, .int 0, .int 0, .ref mn12, .int (-1), .int (-1), .ref mn13, .ref mn14, .int 0, .ref mn15, .int 0, .int 0, .ref mn16, .ref mn17, .int 0, .int 0, .ref mn18, .int 0, .int 0, .int 0, .int 0])), (mn7, .inl (T 2, 2, .inl (fun _ => 0)))]) (r_V (f := 0) [0, 1, 2, 3] M w V_HookedCityLaw_169 G1355 G1356 (c182_X11_restore l D T _ xa0 xn0 xn2 xn7 xn12 xn18 xn22 xn23 xn26 xn28 xn29 xn30 xn40 xn50 xn55 xn121 xn100 xn122 xn132 xn137 xn101 xn111 xn116 (xs (Int32.toNatClampNeg (1 : Int32)))) 0 clX11 rfl rfl (by decide) rfl hl.1 rfl (Nat.le_of_ble_eq_true rfl) dL_law_1141 (by decide) (by decide) (by decide) (by decide)) w [0, 1, 2, 3] [4, 5] rfl rfl (by decide) (by decide) rfl rfl (fun v _ H locs hp w => ?_)
  have hp : (0 : Int32) = v := hp
  subst hp
  have w : WD D A s.heap [(ma0, .inr (11, [.int 0, .ref mn0, .int 0, .int 0, .int 0, .int 0, .int 0, .int 0, .int 0, .int 0, .int 0, .int 0, .long 0, .int 0, .ref mn21, .ref mn19, .ref mn1, .ref mn2, .ref mn3, .ref mn4, .ref mn5, .ref mn6, .ref mn7, .ref mn20, .int 0, .ref mn8, .ref mn9, .ref mn10, .ref mn11, .int 0, .int 0, .int 0, .ref mn12, .int (-1), .int (-1), .ref mn13, .ref mn14, .int 0, .ref mn15, .int 0, .int 0, .ref mn16, .ref mn17, .int 0, .int 0, .ref mn18, .int 0, .int 0, .int 0, .int 0])), (mn7, .inl (T 2, 2, .inl (fun _ => 0)))] H locs := w
  refine lv_aload_n hx hb dL_law_1144 rfl (lv_at hl 2 rfl) ?_
  refine lv_aload_n hx hb dL_law_1145 rfl (lv_at hl 4 rfl) ?_
  refine lv_iload hx hb dL_law_1146 (lv_at hl 0 rfl) ?_
  refine lv_iconst (v := 1) hx hb dL_law_1148 (by decide) ?_
  refine r_iadd (v := (1 : Int32)) M (by decide +kernel) dL_law_1149 ?_
  refine va_sld hx hb hX hbl hbA w.2.2.1 (vin (by decide +kernel)) dL_law_1150 ?_
  refine k_I (ce := 167) (sl := 5547) (rest := [.int 0]) (wr := []) (r_V (f := 1) [0, 1] M w V_HookedCityLaw_172 G2064 G2065 (c183_X12_restore l D T _ ma0 mn0 mn21 mn19 mn1 mn2 mn3 mn4 mn5 mn6 mn7 mn20 mn8 mn9 mn10 mn11 mn12 mn13 mn14 mn15 mn16 mn17 mn18 (xs (Int32.toNatClampNeg (1 : Int32)))) 0 clX12 rfl rfl (by decide) rfl hl.1 rfl (Nat.le_of_ble_eq_true rfl) dL_law_1151 (by decide) (by decide) (by decide) (by decide)) w [0, 1] [] rfl rfl (by decide) (by decide) rfl rfl (fun v _ H locs hp w => ?_)
  have hp : (0 : Int32) = v := hp
  subst hp
  have w : WD D A s.heap [] H locs := w
  refine lv_icmp_eq (tgt := 1184) hx hb dL_law_1154 (by decide) (fun _ => ?_) (fun c => absurd (by decide +kernel) c)
  refine W.widen (k := 400000) (n := 6000000) (by decide) (by decide) ?_
  exact law_exit M hA9 hr hlocks hX hbl w (lv_sub hl [0, 4] rfl)
set_option maxRecDepth 100000 in
set_option maxHeartbeats 4000000 in
theorem law_36 {p : Program} {l : Launch} {e : Env} {s : State} {m : MethodId} {below : List Frame} {meth : Method} {c : Code} {D : va_G} {T : Nat → ClassId} {A : Nat → Prop} {b : Nat} {xs : Nat → Int32} (M : MC p s m #[Value.ref b] c code R_law 7 D T A) (hA9 : ∀ q, A q → s.heap.size ≤ q) (hr : meth.sig.returnType = ret) (hlocks : meth.locks = false) (hX : va_X b 6 xs s s.heap) (hbl : b < s.heap.size) (xa0 xn0 xn2 xn7 xn12 xn18 xn22 xn23 xn26 xn28 xn29 xn30 xn40 xn50 xn55 xn1 xn31 xn32 xn33 xn34 xn35 xn36 xn37 xn38 xn39 ma0 mn0 mn21 mn19 mn1 mn2 mn3 mn4 mn5 mn6 mn7 mn20 mn8 mn9 mn10 mn11 mn12 mn13 mn14 mn15 mn16 mn17 mn18 oo : Nat) {H : Heap} {locs : List Loc} {ls : Array Slot} (w : WD D A s.heap [(xa0, .inr (10, [.ref xn0, .ref xn2, .ref xn7, .ref xn12, .ref xn18, .ref xn22, .ref xn23, .ref xn26, .ref xn28, .ref xn29, .ref xn30, .ref xn40, .ref xn50, .ref xn55, .int 0, .int 0, .int 0])), (xn0, .inr (8, [.ref xn1, .int 0, .int 0, .int 0, .int 0, .int 0, .null, .long 0, .int 0, .int 0, .int 0, .int 0])), (xn30, .inr (9, [.ref xn31, .ref xn32, .ref xn33, .ref xn34, .ref xn35, .ref xn36, .ref xn37, .ref xn38, .ref xn39, .int 0, .int 0, .int 0, .int 0, .int 12, .int 1, .int 0, .int 0, .int 0])), (ma0, .inr (11, [.int 0, .ref mn0, .int 0, .int 0, .int 0, .int 0, .int 0, .int 0, .int 0, .int 0, .int 0, .int 0, .long 0, .int 0, .ref mn21, .ref mn19, .ref mn1, .ref mn2, .ref mn3, .ref mn4, .ref mn5, .ref mn6, .ref mn7, .ref mn20, .int 0, .ref mn8, .ref mn9, .ref mn10, .ref mn11, .int 0, .int 0, .int 0, .ref mn12, .int (-1), .int (-1), .ref mn13, .ref mn14, .int 0, .ref mn15, .int 0, .int 0, .ref mn16, .ref mn17, .int 0, .int 0, .ref mn18, .int 0, .int 0, .int 0, .int 0])), (mn21, .inl (T 0, 329, .inl cn45))] H locs) (hl : lv_has ls 7 [(4, .int 0), (3, .ref oo), (2, .ref ma0), (1, .ref xa0), (0, .ref b)]) : W p l e room_1 s m #[Value.ref b] below meth c H locs 167 5547 (lw_Z below #[Value.ref b] s) (F0 m 1159 ls []) := by
  have hx := M.1.1
  have hb := M.1.2.1
  have hbA : ¬ A b := fun h => absurd (hA9 _ h) (Nat.not_le.mpr hbl)
  refine lv_aload_n hx hb dL_law_1159 rfl (lv_at hl 3 rfl) ?_
  refine lv_aload_n hx hb dL_law_1160 rfl (lv_at hl 4 rfl) ?_
  refine lv_iload hx hb dL_law_1161 (lv_at hl 0 rfl) ?_
  refine lv_iconst (v := 1) hx hb dL_law_1163 (by decide) ?_
  refine r_iadd (v := (1 : Int32)) M (by decide +kernel) dL_law_1164 ?_
  refine va_sld hx hb hX hbl hbA w.2.2.1 (vin (by decide +kernel)) dL_law_1165 ?_
  refine k_I (ce := 167) (sl := 5547) (rest := []) (wr := [(ma0, .inr (11, [.int 0, .ref mn0, .int 0, .int 0, .int 0, .int 0, .int 0, .int 0, .int 0, .int 0, .int 0, .int 0, .long 0, .int 0, .ref mn21, .ref mn19, .ref mn1, .ref mn2, .ref mn3, .ref mn4, .ref mn5, .ref mn6, .ref mn7, .ref mn20, .int 0, .ref mn8, .ref mn9, .ref mn10, .ref mn11, .int 0, .int 0, .int 0, .ref mn12, .int (-1), .int (-1), .ref mn13, .ref mn14, .int 0, .ref mn15, .int 0, .int 0, .ref mn16, .ref mn17, .int 0, .int 0, .ref mn18, .int 0, .int 0, .int 0, .int 0])), (mn21, .inl (T 0, 329, .inl cn45))]) (r_V (f := 0) [0, 1, 2] M w V_HookedCityLaw_173 G1363 G1364 (c184_X11_count l D T _ xa0 xn0 xn2 xn7 xn12 xn18 xn22 xn23 xn26 xn28 xn29 xn30 xn40 xn50 xn55 xn1 xn31 xn32 xn33 xn34 xn35 xn36 xn37 xn38 xn39 (xs (Int32.toNatClampNeg (1 : Int32)))) 0 clX11 rfl rfl (by decide) rfl hl.1 rfl (Nat.le_of_ble_eq_true rfl) dL_law_1166 (by decide) (by decide) (by decide) (by decide)) w [0, 1, 2] [3, 4] rfl rfl (by decide) (by decide) rfl rfl (fun v _ H locs hp w => ?_)
  try dsimp only at hp
  rcases hp with ⟨c_1, hp⟩ | ⟨c_2, c_3, hp⟩ | ⟨c_4, c_5, c_6, c_7, c_8, hp⟩ | ⟨c_9, c_10, c_11, hp⟩ | ⟨c_12, c_13, c_14, c_15, hp⟩ | ⟨c_16, c_17, c_18, c_19, c_20, hp⟩
  · have hp : (0 : Int32) = v := hp
    subst hp
    have w : WD D A s.heap [(ma0, .inr (11, [.int 0, .ref mn0, .int 0, .int 0, .int 0, .int 0, .int 0, .int 0, .int 0, .int 0, .int 0, .int 0, .long 0, .int 0, .ref mn21, .ref mn19, .ref mn1, .ref mn2, .ref mn3, .ref mn4, .ref mn5, .ref mn6, .ref mn7, .ref mn20, .int 0, .ref mn8, .ref mn9, .ref mn10, .ref mn11, .int 0, .int 0, .int 0, .ref mn12, .int (-1), .int (-1), .ref mn13, .ref mn14, .int 0, .ref mn15, .int 0, .int 0, .ref mn16, .ref mn17, .int 0, .int 0, .ref mn18, .int 0, .int 0, .int 0, .int 0])), (mn21, .inl (T 0, 329, .inl cn45))] H locs := w
    refine lv_aload_n hx hb dL_law_1169 rfl (lv_at hl 2 rfl) ?_
    refine lv_aload_n hx hb dL_law_1170 rfl (lv_at hl 4 rfl) ?_
    refine lv_iload hx hb dL_law_1171 (lv_at hl 0 rfl) ?_
    refine lv_iconst (v := 1) hx hb dL_law_1173 (by decide) ?_
    refine r_iadd (v := (1 : Int32)) M (by decide +kernel) dL_law_1174 ?_
    refine va_sld hx hb hX hbl hbA w.2.2.1 (vin (by decide +kernel)) dL_law_1175 ?_
    refine k_I (ce := 167) (sl := 5547) (rest := [.int 0]) (wr := []) (r_V (f := 0) [0, 1] M w V_HookedCityLaw_176 G2068 G2069 (c185_X12_count l D T _ ma0 mn0 mn21 mn19 mn1 mn2 mn3 mn4 mn5 mn6 mn7 mn20 mn8 mn9 mn10 mn11 mn12 mn13 mn14 mn15 mn16 mn17 mn18 (xs (Int32.toNatClampNeg (1 : Int32)))) 0 clX12 rfl rfl (by decide) rfl hl.1 rfl (Nat.le_of_ble_eq_true rfl) dL_law_1176 (by decide) (by decide) (by decide) (by decide)) w [0, 1] [] rfl rfl (by decide) (by decide) rfl rfl (fun v _ H locs hp w => ?_)
    try dsimp only at hp
    rcases hp with ⟨c_21, hp⟩ | ⟨c_22, c_23, hp⟩ | ⟨c_24, c_25, c_26, c_27, c_28, hp⟩ | ⟨c_29, c_30, c_31, hp⟩ | ⟨c_32, c_33, c_34, c_35, hp⟩ | ⟨c_36, c_37, c_38, c_39, c_40, hp⟩
    · have hp : (0 : Int32) = v := hp
      subst hp
      have w : WD D A s.heap [] H locs := w
      refine lv_icmp_eq (tgt := 1184) hx hb dL_law_1179 (by decide) (fun _ => ?_) (fun c => absurd (by decide +kernel) c)
      refine W.widen (k := 400000) (n := 6000000) (by decide) (by decide) ?_
      exact law_exit M hA9 hr hlocks hX hbl w (lv_sub hl [0, 4] rfl)
    · exfalso
      simp only [fa_lt, fa_le, fa_eq] at c_1 c_22 c_23
      have e0 : (0 : Int32).toInt = 0 := (by decide)
      have e1 : (1 : Int32).toInt = 1 := (by decide)
      omega
    · exfalso
      simp only [fa_lt, fa_le, fa_eq] at c_1 c_24 c_25 c_26 c_27 c_28
      have e0 : (0 : Int32).toInt = 0 := (by decide)
      have e1 : (1 : Int32).toInt = 1 := (by decide)
      have e2 : (2 : Int32).toInt = 2 := (by decide)
      have e3 : (3 : Int32).toInt = 3 := (by decide)
      have e4 : (4 : Int32).toInt = 4 := (by decide)
      omega
    · exfalso
      simp only [fa_lt, fa_le, fa_eq] at c_1 c_29 c_30 c_31
      have e0 : (0 : Int32).toInt = 0 := (by decide)
      have e1 : (1 : Int32).toInt = 1 := (by decide)
      have e2 : (2 : Int32).toInt = 2 := (by decide)
      omega
    · exfalso
      simp only [fa_lt, fa_le, fa_eq] at c_1 c_32 c_33 c_34 c_35
      have e0 : (0 : Int32).toInt = 0 := (by decide)
      have e1 : (1 : Int32).toInt = 1 := (by decide)
      have e2 : (2 : Int32).toInt = 2 := (by decide)
      have e3 : (3 : Int32).toInt = 3 := (by decide)
      omega
    · exfalso
      simp only [fa_lt, fa_le, fa_eq] at c_1 c_36 c_37 c_38 c_39 c_40
      have e0 : (0 : Int32).toInt = 0 := (by decide)
      have e1 : (1 : Int32).toInt = 1 := (by decide)
      have e2 : (2 : Int32).toInt = 2 := (by decide)
      have e3 : (3 : Int32).toInt = 3 := (by decide)
      have e4 : (4 : Int32).toInt = 4 := (by decide)
      omega
  · have hp : (0 : Int32) = v := hp
    subst hp
    have w : WD D A s.heap [(ma0, .inr (11, [.int 0, .ref mn0, .int 0, .int 0, .int 0, .int 0, .int 0, .int 0, .int 0, .int 0, .int 0, .int 0, .long 0, .int 0, .ref mn21, .ref mn19, .ref mn1, .ref mn2, .ref mn3, .ref mn4, .ref mn5, .ref mn6, .ref mn7, .ref mn20, .int 0, .ref mn8, .ref mn9, .ref mn10, .ref mn11, .int 0, .int 0, .int 0, .ref mn12, .int (-1), .int (-1), .ref mn13, .ref mn14, .int 0, .ref mn15, .int 0, .int 0, .ref mn16, .ref mn17, .int 0, .int 0, .ref mn18, .int 0, .int 0, .int 0, .int 0])), (mn21, .inl (T 0, 329, .inl cn45))] H locs := w
    refine lv_aload_n hx hb dL_law_1169 rfl (lv_at hl 2 rfl) ?_
    refine lv_aload_n hx hb dL_law_1170 rfl (lv_at hl 4 rfl) ?_
    refine lv_iload hx hb dL_law_1171 (lv_at hl 0 rfl) ?_
    refine lv_iconst (v := 1) hx hb dL_law_1173 (by decide) ?_
    refine r_iadd (v := (1 : Int32)) M (by decide +kernel) dL_law_1174 ?_
    refine va_sld hx hb hX hbl hbA w.2.2.1 (vin (by decide +kernel)) dL_law_1175 ?_
    refine k_I (ce := 167) (sl := 5547) (rest := [.int 0]) (wr := []) (r_V (f := 0) [0, 1] M w V_HookedCityLaw_176 G2068 G2069 (c185_X12_count l D T _ ma0 mn0 mn21 mn19 mn1 mn2 mn3 mn4 mn5 mn6 mn7 mn20 mn8 mn9 mn10 mn11 mn12 mn13 mn14 mn15 mn16 mn17 mn18 (xs (Int32.toNatClampNeg (1 : Int32)))) 0 clX12 rfl rfl (by decide) rfl hl.1 rfl (Nat.le_of_ble_eq_true rfl) dL_law_1176 (by decide) (by decide) (by decide) (by decide)) w [0, 1] [] rfl rfl (by decide) (by decide) rfl rfl (fun v _ H locs hp w => ?_)
    try dsimp only at hp
    rcases hp with ⟨c_41, hp⟩ | ⟨c_42, c_43, hp⟩ | ⟨c_44, c_45, c_46, c_47, c_48, hp⟩ | ⟨c_49, c_50, c_51, hp⟩ | ⟨c_52, c_53, c_54, c_55, hp⟩ | ⟨c_56, c_57, c_58, c_59, c_60, hp⟩
    · exfalso
      simp only [fa_lt, fa_le, fa_eq] at c_2 c_3 c_41
      have e0 : (0 : Int32).toInt = 0 := (by decide)
      have e1 : (1 : Int32).toInt = 1 := (by decide)
      omega
    · have hp : (0 : Int32) = v := hp
      subst hp
      have w : WD D A s.heap [] H locs := w
      refine lv_icmp_eq (tgt := 1184) hx hb dL_law_1179 (by decide) (fun _ => ?_) (fun c => absurd (by decide +kernel) c)
      refine W.widen (k := 400000) (n := 6000000) (by decide) (by decide) ?_
      exact law_exit M hA9 hr hlocks hX hbl w (lv_sub hl [0, 4] rfl)
    · exfalso
      simp only [fa_lt, fa_le, fa_eq] at c_2 c_3 c_44 c_45 c_46 c_47 c_48
      have e0 : (0 : Int32).toInt = 0 := (by decide)
      have e1 : (1 : Int32).toInt = 1 := (by decide)
      have e2 : (2 : Int32).toInt = 2 := (by decide)
      have e3 : (3 : Int32).toInt = 3 := (by decide)
      have e4 : (4 : Int32).toInt = 4 := (by decide)
      omega
    · exfalso
      simp only [fa_lt, fa_le, fa_eq] at c_2 c_3 c_49 c_50 c_51
      have e0 : (0 : Int32).toInt = 0 := (by decide)
      have e1 : (1 : Int32).toInt = 1 := (by decide)
      have e2 : (2 : Int32).toInt = 2 := (by decide)
      omega
    · exfalso
      simp only [fa_lt, fa_le, fa_eq] at c_2 c_3 c_52 c_53 c_54 c_55
      have e0 : (0 : Int32).toInt = 0 := (by decide)
      have e1 : (1 : Int32).toInt = 1 := (by decide)
      have e2 : (2 : Int32).toInt = 2 := (by decide)
      have e3 : (3 : Int32).toInt = 3 := (by decide)
      omega
    · exfalso
      simp only [fa_lt, fa_le, fa_eq] at c_2 c_3 c_56 c_57 c_58 c_59 c_60
      have e0 : (0 : Int32).toInt = 0 := (by decide)
      have e1 : (1 : Int32).toInt = 1 := (by decide)
      have e2 : (2 : Int32).toInt = 2 := (by decide)
      have e3 : (3 : Int32).toInt = 3 := (by decide)
      have e4 : (4 : Int32).toInt = 4 := (by decide)
      omega
  · have hp : (0 : Int32) = v := hp
    subst hp
    have w : WD D A s.heap [(ma0, .inr (11, [.int 0, .ref mn0, .int 0, .int 0, .int 0, .int 0, .int 0, .int 0, .int 0, .int 0, .int 0, .int 0, .long 0, .int 0, .ref mn21, .ref mn19, .ref mn1, .ref mn2, .ref mn3, .ref mn4, .ref mn5, .ref mn6, .ref mn7, .ref mn20, .int 0, .ref mn8, .ref mn9, .ref mn10, .ref mn11, .int 0, .int 0, .int 0, .ref mn12, .int (-1), .int (-1), .ref mn13, .ref mn14, .int 0, .ref mn15, .int 0, .int 0, .ref mn16, .ref mn17, .int 0, .int 0, .ref mn18, .int 0, .int 0, .int 0, .int 0])), (mn21, .inl (T 0, 329, .inl cn45))] H locs := w
    refine lv_aload_n hx hb dL_law_1169 rfl (lv_at hl 2 rfl) ?_
    refine lv_aload_n hx hb dL_law_1170 rfl (lv_at hl 4 rfl) ?_
    refine lv_iload hx hb dL_law_1171 (lv_at hl 0 rfl) ?_
    refine lv_iconst (v := 1) hx hb dL_law_1173 (by decide) ?_
    refine r_iadd (v := (1 : Int32)) M (by decide +kernel) dL_law_1174 ?_
    refine va_sld hx hb hX hbl hbA w.2.2.1 (vin (by decide +kernel)) dL_law_1175 ?_
    refine k_I (ce := 167) (sl := 5547) (rest := [.int 0]) (wr := []) (r_V (f := 0) [0, 1] M w V_HookedCityLaw_176 G2068 G2069 (c185_X12_count l D T _ ma0 mn0 mn21 mn19 mn1 mn2 mn3 mn4 mn5 mn6 mn7 mn20 mn8 mn9 mn10 mn11 mn12 mn13 mn14 mn15 mn16 mn17 mn18 (xs (Int32.toNatClampNeg (1 : Int32)))) 0 clX12 rfl rfl (by decide) rfl hl.1 rfl (Nat.le_of_ble_eq_true rfl) dL_law_1176 (by decide) (by decide) (by decide) (by decide)) w [0, 1] [] rfl rfl (by decide) (by decide) rfl rfl (fun v _ H locs hp w => ?_)
    try dsimp only at hp
    rcases hp with ⟨c_61, hp⟩ | ⟨c_62, c_63, hp⟩ | ⟨c_64, c_65, c_66, c_67, c_68, hp⟩ | ⟨c_69, c_70, c_71, hp⟩ | ⟨c_72, c_73, c_74, c_75, hp⟩ | ⟨c_76, c_77, c_78, c_79, c_80, hp⟩
    · exfalso
      simp only [fa_lt, fa_le, fa_eq] at c_4 c_5 c_6 c_7 c_8 c_61
      have e0 : (0 : Int32).toInt = 0 := (by decide)
      have e1 : (1 : Int32).toInt = 1 := (by decide)
      have e2 : (2 : Int32).toInt = 2 := (by decide)
      have e3 : (3 : Int32).toInt = 3 := (by decide)
      have e4 : (4 : Int32).toInt = 4 := (by decide)
      omega
    · exfalso
      simp only [fa_lt, fa_le, fa_eq] at c_4 c_5 c_6 c_7 c_8 c_62 c_63
      have e0 : (0 : Int32).toInt = 0 := (by decide)
      have e1 : (1 : Int32).toInt = 1 := (by decide)
      have e2 : (2 : Int32).toInt = 2 := (by decide)
      have e3 : (3 : Int32).toInt = 3 := (by decide)
      have e4 : (4 : Int32).toInt = 4 := (by decide)
      omega
    · have hp : (0 : Int32) = v := hp
      subst hp
      have w : WD D A s.heap [] H locs := w
      refine lv_icmp_eq (tgt := 1184) hx hb dL_law_1179 (by decide) (fun _ => ?_) (fun c => absurd (by decide +kernel) c)
      refine W.widen (k := 400000) (n := 6000000) (by decide) (by decide) ?_
      exact law_exit M hA9 hr hlocks hX hbl w (lv_sub hl [0, 4] rfl)
    · exfalso
      simp only [fa_lt, fa_le, fa_eq] at c_4 c_5 c_6 c_7 c_8 c_69 c_70 c_71
      have e0 : (0 : Int32).toInt = 0 := (by decide)
      have e1 : (1 : Int32).toInt = 1 := (by decide)
      have e2 : (2 : Int32).toInt = 2 := (by decide)
      have e3 : (3 : Int32).toInt = 3 := (by decide)
      have e4 : (4 : Int32).toInt = 4 := (by decide)
      omega
    · exfalso
      simp only [fa_lt, fa_le, fa_eq] at c_4 c_5 c_6 c_7 c_8 c_72 c_73 c_74 c_75
      have e0 : (0 : Int32).toInt = 0 := (by decide)
      have e1 : (1 : Int32).toInt = 1 := (by decide)
      have e2 : (2 : Int32).toInt = 2 := (by decide)
      have e3 : (3 : Int32).toInt = 3 := (by decide)
      have e4 : (4 : Int32).toInt = 4 := (by decide)
      omega
    · exfalso
      simp only [fa_lt, fa_le, fa_eq] at c_4 c_5 c_6 c_7 c_8 c_76 c_77 c_78 c_79 c_80
      have e0 : (0 : Int32).toInt = 0 := (by decide)
      have e1 : (1 : Int32).toInt = 1 := (by decide)
      have e2 : (2 : Int32).toInt = 2 := (by decide)
      have e3 : (3 : Int32).toInt = 3 := (by decide)
      have e4 : (4 : Int32).toInt = 4 := (by decide)
      omega
  · have hp : (12 : Int32) = v := hp
    subst hp
    have w : WD D A s.heap [(ma0, .inr (11, [.int 0, .ref mn0, .int 0, .int 0, .int 0, .int 0, .int 0, .int 0, .int 0, .int 0, .int 0, .int 0, .long 0, .int 0, .ref mn21, .ref mn19, .ref mn1, .ref mn2, .ref mn3, .ref mn4, .ref mn5, .ref mn6, .ref mn7, .ref mn20, .int 0, .ref mn8, .ref mn9, .ref mn10, .ref mn11, .int 0, .int 0, .int 0, .ref mn12, .int (-1), .int (-1), .ref mn13, .ref mn14, .int 0, .ref mn15, .int 0, .int 0, .ref mn16, .ref mn17, .int 0, .int 0, .ref mn18, .int 0, .int 0, .int 0, .int 0])), (mn21, .inl (T 0, 329, .inl cn45))] H locs := w
    refine lv_aload_n hx hb dL_law_1169 rfl (lv_at hl 2 rfl) ?_
    refine lv_aload_n hx hb dL_law_1170 rfl (lv_at hl 4 rfl) ?_
    refine lv_iload hx hb dL_law_1171 (lv_at hl 0 rfl) ?_
    refine lv_iconst (v := 1) hx hb dL_law_1173 (by decide) ?_
    refine r_iadd (v := (1 : Int32)) M (by decide +kernel) dL_law_1174 ?_
    refine va_sld hx hb hX hbl hbA w.2.2.1 (vin (by decide +kernel)) dL_law_1175 ?_
    refine k_I (ce := 167) (sl := 5547) (rest := [.int 12]) (wr := []) (r_V (f := 0) [0, 1] M w V_HookedCityLaw_176 G2068 G2069 (c185_X12_count l D T _ ma0 mn0 mn21 mn19 mn1 mn2 mn3 mn4 mn5 mn6 mn7 mn20 mn8 mn9 mn10 mn11 mn12 mn13 mn14 mn15 mn16 mn17 mn18 (xs (Int32.toNatClampNeg (1 : Int32)))) 0 clX12 rfl rfl (by decide) rfl hl.1 rfl (Nat.le_of_ble_eq_true rfl) dL_law_1176 (by decide) (by decide) (by decide) (by decide)) w [0, 1] [] rfl rfl (by decide) (by decide) rfl rfl (fun v _ H locs hp w => ?_)
    try dsimp only at hp
    rcases hp with ⟨c_81, hp⟩ | ⟨c_82, c_83, hp⟩ | ⟨c_84, c_85, c_86, c_87, c_88, hp⟩ | ⟨c_89, c_90, c_91, hp⟩ | ⟨c_92, c_93, c_94, c_95, hp⟩ | ⟨c_96, c_97, c_98, c_99, c_100, hp⟩
    · exfalso
      simp only [fa_lt, fa_le, fa_eq] at c_9 c_10 c_11 c_81
      have e0 : (0 : Int32).toInt = 0 := (by decide)
      have e1 : (1 : Int32).toInt = 1 := (by decide)
      have e2 : (2 : Int32).toInt = 2 := (by decide)
      omega
    · exfalso
      simp only [fa_lt, fa_le, fa_eq] at c_9 c_10 c_11 c_82 c_83
      have e0 : (0 : Int32).toInt = 0 := (by decide)
      have e1 : (1 : Int32).toInt = 1 := (by decide)
      have e2 : (2 : Int32).toInt = 2 := (by decide)
      omega
    · exfalso
      simp only [fa_lt, fa_le, fa_eq] at c_9 c_10 c_11 c_84 c_85 c_86 c_87 c_88
      have e0 : (0 : Int32).toInt = 0 := (by decide)
      have e1 : (1 : Int32).toInt = 1 := (by decide)
      have e2 : (2 : Int32).toInt = 2 := (by decide)
      have e3 : (3 : Int32).toInt = 3 := (by decide)
      have e4 : (4 : Int32).toInt = 4 := (by decide)
      omega
    · have hp : (12 : Int32) = v := hp
      subst hp
      have w : WD D A s.heap [] H locs := w
      refine lv_icmp_eq (tgt := 1184) hx hb dL_law_1179 (by decide) (fun _ => ?_) (fun c => absurd (by decide +kernel) c)
      refine W.widen (k := 400000) (n := 6000000) (by decide) (by decide) ?_
      exact law_exit M hA9 hr hlocks hX hbl w (lv_sub hl [0, 4] rfl)
    · exfalso
      simp only [fa_lt, fa_le, fa_eq] at c_9 c_10 c_11 c_92 c_93 c_94 c_95
      have e0 : (0 : Int32).toInt = 0 := (by decide)
      have e1 : (1 : Int32).toInt = 1 := (by decide)
      have e2 : (2 : Int32).toInt = 2 := (by decide)
      have e3 : (3 : Int32).toInt = 3 := (by decide)
      omega
    · exfalso
      simp only [fa_lt, fa_le, fa_eq] at c_9 c_10 c_11 c_96 c_97 c_98 c_99 c_100
      have e0 : (0 : Int32).toInt = 0 := (by decide)
      have e1 : (1 : Int32).toInt = 1 := (by decide)
      have e2 : (2 : Int32).toInt = 2 := (by decide)
      have e3 : (3 : Int32).toInt = 3 := (by decide)
      have e4 : (4 : Int32).toInt = 4 := (by decide)
      omega
  · have hp : (1 : Int32) = v := hp
    subst hp
    have w : WD D A s.heap [(ma0, .inr (11, [.int 0, .ref mn0, .int 0, .int 0, .int 0, .int 0, .int 0, .int 0, .int 0, .int 0, .int 0, .int 0, .long 0, .int 0, .ref mn21, .ref mn19, .ref mn1, .ref mn2, .ref mn3, .ref mn4, .ref mn5, .ref mn6, .ref mn7, .ref mn20, .int 0, .ref mn8, .ref mn9, .ref mn10, .ref mn11, .int 0, .int 0, .int 0, .ref mn12, .int (-1), .int (-1), .ref mn13, .ref mn14, .int 0, .ref mn15, .int 0, .int 0, .ref mn16, .ref mn17, .int 0, .int 0, .ref mn18, .int 0, .int 0, .int 0, .int 0])), (mn21, .inl (T 0, 329, .inl cn45))] H locs := w
    refine lv_aload_n hx hb dL_law_1169 rfl (lv_at hl 2 rfl) ?_
    refine lv_aload_n hx hb dL_law_1170 rfl (lv_at hl 4 rfl) ?_
    refine lv_iload hx hb dL_law_1171 (lv_at hl 0 rfl) ?_
    refine lv_iconst (v := 1) hx hb dL_law_1173 (by decide) ?_
    refine r_iadd (v := (1 : Int32)) M (by decide +kernel) dL_law_1174 ?_
    refine va_sld hx hb hX hbl hbA w.2.2.1 (vin (by decide +kernel)) dL_law_1175 ?_
    refine k_I (ce := 167) (sl := 5547) (rest := [.int 1]) (wr := []) (r_V (f := 0) [0, 1] M w V_HookedCityLaw_176 G2068 G2069 (c185_X12_count l D T _ ma0 mn0 mn21 mn19 mn1 mn2 mn3 mn4 mn5 mn6 mn7 mn20 mn8 mn9 mn10 mn11 mn12 mn13 mn14 mn15 mn16 mn17 mn18 (xs (Int32.toNatClampNeg (1 : Int32)))) 0 clX12 rfl rfl (by decide) rfl hl.1 rfl (Nat.le_of_ble_eq_true rfl) dL_law_1176 (by decide) (by decide) (by decide) (by decide)) w [0, 1] [] rfl rfl (by decide) (by decide) rfl rfl (fun v _ H locs hp w => ?_)
    try dsimp only at hp
    rcases hp with ⟨c_101, hp⟩ | ⟨c_102, c_103, hp⟩ | ⟨c_104, c_105, c_106, c_107, c_108, hp⟩ | ⟨c_109, c_110, c_111, hp⟩ | ⟨c_112, c_113, c_114, c_115, hp⟩ | ⟨c_116, c_117, c_118, c_119, c_120, hp⟩
    · exfalso
      simp only [fa_lt, fa_le, fa_eq] at c_12 c_13 c_14 c_15 c_101
      have e0 : (0 : Int32).toInt = 0 := (by decide)
      have e1 : (1 : Int32).toInt = 1 := (by decide)
      have e2 : (2 : Int32).toInt = 2 := (by decide)
      have e3 : (3 : Int32).toInt = 3 := (by decide)
      omega
    · exfalso
      simp only [fa_lt, fa_le, fa_eq] at c_12 c_13 c_14 c_15 c_102 c_103
      have e0 : (0 : Int32).toInt = 0 := (by decide)
      have e1 : (1 : Int32).toInt = 1 := (by decide)
      have e2 : (2 : Int32).toInt = 2 := (by decide)
      have e3 : (3 : Int32).toInt = 3 := (by decide)
      omega
    · exfalso
      simp only [fa_lt, fa_le, fa_eq] at c_12 c_13 c_14 c_15 c_104 c_105 c_106 c_107 c_108
      have e0 : (0 : Int32).toInt = 0 := (by decide)
      have e1 : (1 : Int32).toInt = 1 := (by decide)
      have e2 : (2 : Int32).toInt = 2 := (by decide)
      have e3 : (3 : Int32).toInt = 3 := (by decide)
      have e4 : (4 : Int32).toInt = 4 := (by decide)
      omega
    · exfalso
      simp only [fa_lt, fa_le, fa_eq] at c_12 c_13 c_14 c_15 c_109 c_110 c_111
      have e0 : (0 : Int32).toInt = 0 := (by decide)
      have e1 : (1 : Int32).toInt = 1 := (by decide)
      have e2 : (2 : Int32).toInt = 2 := (by decide)
      have e3 : (3 : Int32).toInt = 3 := (by decide)
      omega
    · have hp : (1 : Int32) = v := hp
      subst hp
      have w : WD D A s.heap [] H locs := w
      refine lv_icmp_eq (tgt := 1184) hx hb dL_law_1179 (by decide) (fun _ => ?_) (fun c => absurd (by decide +kernel) c)
      refine W.widen (k := 400000) (n := 6000000) (by decide) (by decide) ?_
      exact law_exit M hA9 hr hlocks hX hbl w (lv_sub hl [0, 4] rfl)
    · exfalso
      simp only [fa_lt, fa_le, fa_eq] at c_12 c_13 c_14 c_15 c_116 c_117 c_118 c_119 c_120
      have e0 : (0 : Int32).toInt = 0 := (by decide)
      have e1 : (1 : Int32).toInt = 1 := (by decide)
      have e2 : (2 : Int32).toInt = 2 := (by decide)
      have e3 : (3 : Int32).toInt = 3 := (by decide)
      have e4 : (4 : Int32).toInt = 4 := (by decide)
      omega
  · have hp : (-1 : Int32) = v := hp
    subst hp
    have w : WD D A s.heap [(ma0, .inr (11, [.int 0, .ref mn0, .int 0, .int 0, .int 0, .int 0, .int 0, .int 0, .int 0, .int 0, .int 0, .int 0, .long 0, .int 0, .ref mn21, .ref mn19, .ref mn1, .ref mn2, .ref mn3, .ref mn4, .ref mn5, .ref mn6, .ref mn7, .ref mn20, .int 0, .ref mn8, .ref mn9, .ref mn10, .ref mn11, .int 0, .int 0, .int 0, .ref mn12, .int (-1), .int (-1), .ref mn13, .ref mn14, .int 0, .ref mn15, .int 0, .int 0, .ref mn16, .ref mn17, .int 0, .int 0, .ref mn18, .int 0, .int 0, .int 0, .int 0])), (mn21, .inl (T 0, 329, .inl cn45))] H locs := w
    refine lv_aload_n hx hb dL_law_1169 rfl (lv_at hl 2 rfl) ?_
    refine lv_aload_n hx hb dL_law_1170 rfl (lv_at hl 4 rfl) ?_
    refine lv_iload hx hb dL_law_1171 (lv_at hl 0 rfl) ?_
    refine lv_iconst (v := 1) hx hb dL_law_1173 (by decide) ?_
    refine r_iadd (v := (1 : Int32)) M (by decide +kernel) dL_law_1174 ?_
    refine va_sld hx hb hX hbl hbA w.2.2.1 (vin (by decide +kernel)) dL_law_1175 ?_
    refine k_I (ce := 167) (sl := 5547) (rest := [.int (-1)]) (wr := []) (r_V (f := 0) [0, 1] M w V_HookedCityLaw_176 G2068 G2069 (c185_X12_count l D T _ ma0 mn0 mn21 mn19 mn1 mn2 mn3 mn4 mn5 mn6 mn7 mn20 mn8 mn9 mn10 mn11 mn12 mn13 mn14 mn15 mn16 mn17 mn18 (xs (Int32.toNatClampNeg (1 : Int32)))) 0 clX12 rfl rfl (by decide) rfl hl.1 rfl (Nat.le_of_ble_eq_true rfl) dL_law_1176 (by decide) (by decide) (by decide) (by decide)) w [0, 1] [] rfl rfl (by decide) (by decide) rfl rfl (fun v _ H locs hp w => ?_)
    try dsimp only at hp
    rcases hp with ⟨c_121, hp⟩ | ⟨c_122, c_123, hp⟩ | ⟨c_124, c_125, c_126, c_127, c_128, hp⟩ | ⟨c_129, c_130, c_131, hp⟩ | ⟨c_132, c_133, c_134, c_135, hp⟩ | ⟨c_136, c_137, c_138, c_139, c_140, hp⟩
    · exfalso
      simp only [fa_lt, fa_le, fa_eq] at c_16 c_17 c_18 c_19 c_20 c_121
      have e0 : (0 : Int32).toInt = 0 := (by decide)
      have e1 : (1 : Int32).toInt = 1 := (by decide)
      have e2 : (2 : Int32).toInt = 2 := (by decide)
      have e3 : (3 : Int32).toInt = 3 := (by decide)
      have e4 : (4 : Int32).toInt = 4 := (by decide)
      omega
    · exfalso
      simp only [fa_lt, fa_le, fa_eq] at c_16 c_17 c_18 c_19 c_20 c_122 c_123
      have e0 : (0 : Int32).toInt = 0 := (by decide)
      have e1 : (1 : Int32).toInt = 1 := (by decide)
      have e2 : (2 : Int32).toInt = 2 := (by decide)
      have e3 : (3 : Int32).toInt = 3 := (by decide)
      have e4 : (4 : Int32).toInt = 4 := (by decide)
      omega
    · exfalso
      simp only [fa_lt, fa_le, fa_eq] at c_16 c_17 c_18 c_19 c_20 c_124 c_125 c_126 c_127 c_128
      have e0 : (0 : Int32).toInt = 0 := (by decide)
      have e1 : (1 : Int32).toInt = 1 := (by decide)
      have e2 : (2 : Int32).toInt = 2 := (by decide)
      have e3 : (3 : Int32).toInt = 3 := (by decide)
      have e4 : (4 : Int32).toInt = 4 := (by decide)
      omega
    · exfalso
      simp only [fa_lt, fa_le, fa_eq] at c_16 c_17 c_18 c_19 c_20 c_129 c_130 c_131
      have e0 : (0 : Int32).toInt = 0 := (by decide)
      have e1 : (1 : Int32).toInt = 1 := (by decide)
      have e2 : (2 : Int32).toInt = 2 := (by decide)
      have e3 : (3 : Int32).toInt = 3 := (by decide)
      have e4 : (4 : Int32).toInt = 4 := (by decide)
      omega
    · exfalso
      simp only [fa_lt, fa_le, fa_eq] at c_16 c_17 c_18 c_19 c_20 c_132 c_133 c_134 c_135
      have e0 : (0 : Int32).toInt = 0 := (by decide)
      have e1 : (1 : Int32).toInt = 1 := (by decide)
      have e2 : (2 : Int32).toInt = 2 := (by decide)
      have e3 : (3 : Int32).toInt = 3 := (by decide)
      have e4 : (4 : Int32).toInt = 4 := (by decide)
      omega
    · have hp : (-1 : Int32) = v := hp
      subst hp
      have w : WD D A s.heap [] H locs := w
      refine lv_icmp_eq (tgt := 1184) hx hb dL_law_1179 (by decide) (fun _ => ?_) (fun c => absurd (by decide +kernel) c)
      refine W.widen (k := 400000) (n := 6000000) (by decide) (by decide) ?_
      exact law_exit M hA9 hr hlocks hX hbl w (lv_sub hl [0, 4] rfl)
