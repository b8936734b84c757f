theorem dX12_way_0 : decode cX12_way 0 = .ok (.aload_n 0, 1) := by decide +kernel
theorem dX12_way_1 : decode cX12_way 1 = .ok (.iconst 0, 1) := by decide +kernel
theorem dX12_way_2 : decode cX12_way 2 = .ok (.putfield 1, 3) := by decide +kernel
theorem dX12_way_5 : decode cX12_way 5 = .ok (.aload_n 0, 1) := by decide +kernel
theorem dX12_way_6 : decode cX12_way 6 = .ok (.iload_n 1, 1) := by decide +kernel
theorem dX12_way_7 : decode cX12_way 7 = .ok (.invokevirtual 240, 3) := by decide +kernel
theorem dX12_way_10 : decode cX12_way 10 = .ok (.ifCond .eq 11, 3) := by decide +kernel
theorem dX12_way_21 : decode cX12_way 21 = .ok (.iconst (-1), 1) := by decide +kernel
theorem dX12_way_22 : decode cX12_way 22 = .ok (.ireturn, 1) := by decide +kernel
theorem dX12_way_13 : decode cX12_way 13 = .ok (.aload_n 0, 1) := by decide +kernel
theorem dX12_way_14 : decode cX12_way 14 = .ok (.iload_n 2, 1) := by decide +kernel
theorem dX12_way_15 : decode cX12_way 15 = .ok (.invokevirtual 240, 3) := by decide +kernel
theorem dX12_way_18 : decode cX12_way 18 = .ok (.ifCond .ne 5, 3) := by decide +kernel
theorem dX12_way_23 : decode cX12_way 23 = .ok (.iconst 0, 1) := by decide +kernel
theorem dX12_way_24 : decode cX12_way 24 = .ok (.istore_n 3, 1) := by decide +kernel
theorem dX12_way_25 : decode cX12_way 25 = .ok (.iload_n 3, 1) := by decide +kernel
theorem dX12_way_26 : decode cX12_way 26 = .ok (.bipush 9, 2) := by decide +kernel
theorem dX12_way_28 : decode cX12_way 28 = .ok (.if_icmp .ge 18, 3) := by decide +kernel
theorem dX12_way_46 : decode cX12_way 46 = .ok (.aload_n 0, 1) := by decide +kernel
theorem dX12_way_47 : decode cX12_way 47 = .ok (.getfield 151, 3) := by decide +kernel
theorem G1498 : Cond.fieldLink "HookedCityModel" 151 "HookedCityModel" "far" "[I" ∈ GW := gw_i 1498 (by decide +kernel) rfl
theorem dX12_way_50 : decode cX12_way 50 = .ok (.iload_n 2, 1) := by decide +kernel
theorem dX12_way_51 : decode cX12_way 51 = .ok (.iconst 0, 1) := by decide +kernel
theorem dX12_way_52 : decode cX12_way 52 = .ok (.iastore, 1) := by decide +kernel
theorem dX12_way_53 : decode cX12_way 53 = .ok (.iconst 0, 1) := by decide +kernel
theorem dX12_way_54 : decode cX12_way 54 = .ok (.istore_n 3, 1) := by decide +kernel
theorem dX12_way_55 : decode cX12_way 55 = .ok (.iload_n 3, 1) := by decide +kernel
theorem dX12_way_56 : decode cX12_way 56 = .ok (.bipush 9, 2) := by decide +kernel
theorem dX12_way_58 : decode cX12_way 58 = .ok (.if_icmp .ge 85, 3) := by decide +kernel
theorem dX12_way_143 : decode cX12_way 143 = .ok (.aload_n 0, 1) := by decide +kernel
theorem dX12_way_144 : decode cX12_way 144 = .ok (.getfield 151, 3) := by decide +kernel
theorem dX12_way_147 : decode cX12_way 147 = .ok (.iload_n 1, 1) := by decide +kernel
theorem dX12_way_148 : decode cX12_way 148 = .ok (.iaload, 1) := by decide +kernel
theorem dX12_way_149 : decode cX12_way 149 = .ok (.ldc_w 334, 3) := by decide +kernel
theorem G1913 : Cond.constant "HookedCityModel" 334 100000 ∈ GW := gw_i 1913 (by decide +kernel) rfl
theorem dX12_way_152 : decode cX12_way 152 = .ok (.if_icmp .lt 5, 3) := by decide +kernel
theorem dX12_way_157 : decode cX12_way 157 = .ok (.iload_n 1, 1) := by decide +kernel
theorem dX12_way_158 : decode cX12_way 158 = .ok (.istore_n 3, 1) := by decide +kernel
theorem dX12_way_159 : decode cX12_way 159 = .ok (.aload_n 0, 1) := by decide +kernel
theorem dX12_way_160 : decode cX12_way 160 = .ok (.aload_n 0, 1) := by decide +kernel
theorem dX12_way_161 : decode cX12_way 161 = .ok (.getfield 151, 3) := by decide +kernel
theorem dX12_way_164 : decode cX12_way 164 = .ok (.iload_n 1, 1) := by decide +kernel
theorem dX12_way_165 : decode cX12_way 165 = .ok (.iaload, 1) := by decide +kernel
theorem dX12_way_166 : decode cX12_way 166 = .ok (.iconst 1, 1) := by decide +kernel
theorem dX12_way_167 : decode cX12_way 167 = .ok (.iadd, 1) := by decide +kernel
theorem dX12_way_168 : decode cX12_way 168 = .ok (.putfield 335, 3) := by decide +kernel
theorem dX12_way_171 : decode cX12_way 171 = .ok (.iconst 0, 1) := by decide +kernel
theorem dX12_way_172 : decode cX12_way 172 = .ok (.istore 4, 2) := by decide +kernel
theorem dX12_way_174 : decode cX12_way 174 = .ok (.iload 4, 2) := by decide +kernel
theorem dX12_way_176 : decode cX12_way 176 = .ok (.aload_n 0, 1) := by decide +kernel
theorem dX12_way_177 : decode cX12_way 177 = .ok (.getfield 335, 3) := by decide +kernel
theorem dX12_way_180 : decode cX12_way 180 = .ok (.if_icmp .ge 75, 3) := by decide +kernel
theorem dX12_way_255 : decode cX12_way 255 = .ok (.aload_n 0, 1) := by decide +kernel
theorem dX12_way_256 : decode cX12_way 256 = .ok (.getfield 151, 3) := by decide +kernel
theorem dX12_way_259 : decode cX12_way 259 = .ok (.iload_n 1, 1) := by decide +kernel
theorem dX12_way_260 : decode cX12_way 260 = .ok (.iaload, 1) := by decide +kernel
theorem dX12_way_261 : decode cX12_way 261 = .ok (.ireturn, 1) := by decide +kernel
theorem dX12_way_183 : decode cX12_way 183 = .ok (.aload_n 0, 1) := by decide +kernel
theorem dX12_way_184 : decode cX12_way 184 = .ok (.getfield 154, 3) := by decide +kernel
theorem dX12_way_187 : decode cX12_way 187 = .ok (.iload 4, 2) := by decide +kernel
theorem dX12_way_189 : decode cX12_way 189 = .ok (.iload_n 3, 1) := by decide +kernel
theorem dX12_way_190 : decode cX12_way 190 = .ok (.iastore, 1) := by decide +kernel
theorem dX12_way_191 : decode cX12_way 191 = .ok (.iconst 0, 1) := by decide +kernel
theorem dX12_way_192 : decode cX12_way 192 = .ok (.istore 5, 2) := by decide +kernel
theorem dX12_way_194 : decode cX12_way 194 = .ok (.iload 4, 2) := by decide +kernel
theorem dX12_way_196 : decode cX12_way 196 = .ok (.iconst 1, 1) := by decide +kernel
theorem dX12_way_197 : decode cX12_way 197 = .ok (.iadd, 1) := by decide +kernel
theorem dX12_way_198 : decode cX12_way 198 = .ok (.aload_n 0, 1) := by decide +kernel
theorem dX12_way_199 : decode cX12_way 199 = .ok (.getfield 335, 3) := by decide +kernel
theorem dX12_way_202 : decode cX12_way 202 = .ok (.if_icmp .ge 44, 3) := by decide +kernel
theorem dX12_way_246 : decode cX12_way 246 = .ok (.iload 5, 2) := by decide +kernel
theorem dX12_way_248 : decode cX12_way 248 = .ok (.istore_n 3, 1) := by decide +kernel
theorem dX12_way_249 : decode cX12_way 249 = .ok (.iinc 4 1, 3) := by decide +kernel
theorem dX12_way_252 : decode cX12_way 252 = .ok (.goto (-78), 3) := by decide +kernel
theorem dX12_way_205 : decode cX12_way 205 = .ok (.aload_n 0, 1) := by decide +kernel
theorem dX12_way_206 : decode cX12_way 206 = .ok (.getfield 98, 3) := by decide +kernel
theorem dX12_way_209 : decode cX12_way 209 = .ok (.bipush 44, 2) := by decide +kernel
theorem dX12_way_211 : decode cX12_way 211 = .ok (.iload_n 3, 1) := by decide +kernel
theorem dX12_way_212 : decode cX12_way 212 = .ok (.iadd, 1) := by decide +kernel
theorem dX12_way_213 : decode cX12_way 213 = .ok (.iaload, 1) := by decide +kernel
theorem dX12_way_214 : decode cX12_way 214 = .ok (.iload 5, 2) := by decide +kernel
theorem dX12_way_216 : decode cX12_way 216 = .ok (.invokestatic 206, 3) := by decide +kernel
theorem dX12_way_219 : decode cX12_way 219 = .ok (.ifCond .eq 21, 3) := by decide +kernel
theorem dX12_way_240 : decode cX12_way 240 = .ok (.iinc 5 1, 3) := by decide +kernel
theorem dX12_way_243 : decode cX12_way 243 = .ok (.goto (-49), 3) := by decide +kernel
theorem dX12_way_222 : decode cX12_way 222 = .ok (.aload_n 0, 1) := by decide +kernel
theorem dX12_way_223 : decode cX12_way 223 = .ok (.getfield 151, 3) := by decide +kernel
theorem dX12_way_226 : decode cX12_way 226 = .ok (.iload 5, 2) := by decide +kernel
theorem dX12_way_228 : decode cX12_way 228 = .ok (.iaload, 1) := by decide +kernel
theorem dX12_way_229 : decode cX12_way 229 = .ok (.aload_n 0, 1) := by decide +kernel
theorem dX12_way_230 : decode cX12_way 230 = .ok (.getfield 151, 3) := by decide +kernel
theorem dX12_way_233 : decode cX12_way 233 = .ok (.iload_n 3, 1) := by decide +kernel
theorem dX12_way_234 : decode cX12_way 234 = .ok (.iaload, 1) := by decide +kernel
theorem dX12_way_235 : decode cX12_way 235 = .ok (.iconst 1, 1) := by decide +kernel
theorem dX12_way_236 : decode cX12_way 236 = .ok (.isub, 1) := by decide +kernel
theorem dX12_way_237 : decode cX12_way 237 = .ok (.if_icmp .eq 9, 3) := by decide +kernel
theorem dX12_way_155 : decode cX12_way 155 = .ok (.iconst (-1), 1) := by decide +kernel
theorem dX12_way_156 : decode cX12_way 156 = .ok (.ireturn, 1) := by decide +kernel
theorem dX12_way_61 : decode cX12_way 61 = .ok (.iconst 0, 1) := by decide +kernel
theorem dX12_way_62 : decode cX12_way 62 = .ok (.istore 4, 2) := by decide +kernel
theorem dX12_way_64 : decode cX12_way 64 = .ok (.iload 4, 2) := by decide +kernel
theorem dX12_way_66 : decode cX12_way 66 = .ok (.bipush 9, 2) := by decide +kernel
theorem dX12_way_68 : decode cX12_way 68 = .ok (.if_icmp .ge 69, 3) := by decide +kernel
theorem dX12_way_137 : decode cX12_way 137 = .ok (.iinc 3 1, 3) := by decide +kernel
theorem dX12_way_140 : decode cX12_way 140 = .ok (.goto (-85), 3) := by decide +kernel
theorem dX12_way_71 : decode cX12_way 71 = .ok (.iconst 0, 1) := by decide +kernel
theorem dX12_way_72 : decode cX12_way 72 = .ok (.istore 5, 2) := by decide +kernel
theorem dX12_way_74 : decode cX12_way 74 = .ok (.iload 5, 2) := by decide +kernel
theorem dX12_way_76 : decode cX12_way 76 = .ok (.bipush 9, 2) := by decide +kernel
theorem dX12_way_78 : decode cX12_way 78 = .ok (.if_icmp .ge 53, 3) := by decide +kernel
theorem dX12_way_131 : decode cX12_way 131 = .ok (.iinc 4 1, 3) := by decide +kernel
theorem dX12_way_134 : decode cX12_way 134 = .ok (.goto (-70), 3) := by decide +kernel
theorem dX12_way_81 : decode cX12_way 81 = .ok (.aload_n 0, 1) := by decide +kernel
theorem dX12_way_82 : decode cX12_way 82 = .ok (.getfield 98, 3) := by decide +kernel
theorem dX12_way_85 : decode cX12_way 85 = .ok (.bipush 44, 2) := by decide +kernel
theorem dX12_way_87 : decode cX12_way 87 = .ok (.iload 4, 2) := by decide +kernel
theorem dX12_way_89 : decode cX12_way 89 = .ok (.iadd, 1) := by decide +kernel
theorem dX12_way_90 : decode cX12_way 90 = .ok (.iaload, 1) := by decide +kernel
theorem dX12_way_91 : decode cX12_way 91 = .ok (.iload 5, 2) := by decide +kernel
theorem dX12_way_93 : decode cX12_way 93 = .ok (.invokestatic 206, 3) := by decide +kernel
theorem dX12_way_96 : decode cX12_way 96 = .ok (.ifCond .eq 29, 3) := by decide +kernel
theorem dX12_way_125 : decode cX12_way 125 = .ok (.iinc 5 1, 3) := by decide +kernel
theorem dX12_way_128 : decode cX12_way 128 = .ok (.goto (-54), 3) := by decide +kernel
theorem dX12_way_99 : decode cX12_way 99 = .ok (.aload_n 0, 1) := by decide +kernel
theorem dX12_way_100 : decode cX12_way 100 = .ok (.getfield 151, 3) := by decide +kernel
theorem dX12_way_103 : decode cX12_way 103 = .ok (.iload 4, 2) := by decide +kernel
theorem dX12_way_105 : decode cX12_way 105 = .ok (.aload_n 0, 1) := by decide +kernel
theorem dX12_way_106 : decode cX12_way 106 = .ok (.getfield 151, 3) := by decide +kernel
theorem dX12_way_109 : decode cX12_way 109 = .ok (.iload 4, 2) := by decide +kernel
theorem dX12_way_111 : decode cX12_way 111 = .ok (.iaload, 1) := by decide +kernel
theorem dX12_way_112 : decode cX12_way 112 = .ok (.aload_n 0, 1) := by decide +kernel
theorem dX12_way_113 : decode cX12_way 113 = .ok (.getfield 151, 3) := by decide +kernel
theorem dX12_way_116 : decode cX12_way 116 = .ok (.iload 5, 2) := by decide +kernel
theorem dX12_way_118 : decode cX12_way 118 = .ok (.iaload, 1) := by decide +kernel
theorem dX12_way_119 : decode cX12_way 119 = .ok (.iconst 1, 1) := by decide +kernel
theorem dX12_way_120 : decode cX12_way 120 = .ok (.iadd, 1) := by decide +kernel
theorem dX12_way_121 : decode cX12_way 121 = .ok (.invokestatic 298, 3) := by decide +kernel
theorem dX12_way_124 : decode cX12_way 124 = .ok (.iastore, 1) := by decide +kernel
theorem dX12_way_31 : decode cX12_way 31 = .ok (.aload_n 0, 1) := by decide +kernel
theorem dX12_way_32 : decode cX12_way 32 = .ok (.getfield 151, 3) := by decide +kernel
theorem dX12_way_35 : decode cX12_way 35 = .ok (.iload_n 3, 1) := by decide +kernel
theorem dX12_way_36 : decode cX12_way 36 = .ok (.ldc_w 334, 3) := by decide +kernel
theorem dX12_way_39 : decode cX12_way 39 = .ok (.iastore, 1) := by decide +kernel
theorem dX12_way_40 : decode cX12_way 40 = .ok (.iinc 3 1, 3) := by decide +kernel
theorem dX12_way_43 : decode cX12_way 43 = .ok (.goto (-18), 3) := by decide +kernel
set_option maxRecDepth 100000 in
set_option maxHeartbeats 4000000 in
theorem c452_X12_way (l : Launch) (D : va_G) (T : Nat → ClassId) (sz : Nat) (a0 : Nat) (x0 : Int) (x1 : Int) (r0 : Int32) (a1 : Nat) (x2 : Int) (x3 : Int) (x4 : Int) (x5 : Int) (x6 : Int) (x7 : Int) (r1 : Int32) (x8 : Int) (x9 : Int) (x10 : Int) (y0 : Int64) (x11 : Int) (a2 : Nat) (a3 : Nat) (a4 : Nat) (a5 : Nat) (a6 : Nat) (a7 : Nat) (a8 : Nat) (a9 : Nat) (a10 : Nat) (a11 : Nat) (x12 : Int) (a12 : Nat) (a13 : Nat) (a14 : Nat) (a15 : Nat) (x13 : Int) (r2 : Int32) (r3 : Int32) (a16 : Nat) (x14 : Int) (x15 : Int) (a17 : Nat) (a18 : Nat) (x16 : Int) (a19 : Nat) (x17 : Int) (r4 : Int32) (a20 : Nat) (a21 : Nat) (x18 : Int) (r5 : Int32) (a22 : Nat) (x19 : Int) (x20 : Int) (x21 : Int) (x22 : Int) (f0 : Int → Int) (f1 : Int → Int) (f2 : Nat → Int32) (x0_a : (-2147483648) ≤ x0) (x0_b : x0 ≤ 2147483647) (x1_a : (-2147483648) ≤ x1) (x1_b : x1 ≤ 2147483647) (x2_a : 0 ≤ x2) (x2_b : x2 ≤ 940) (x3_a : 0 ≤ x3) (x3_b : x3 ≤ 940) (x4_a : 0 ≤ x4) (x4_b : x4 ≤ 940) (x5_a : 0 ≤ x5) (x5_b : x5 ≤ 940) (x6_a : 0 ≤ x6) (x6_b : x6 ≤ 940) (x7_a : 0 ≤ x7) (x7_b : x7 ≤ 4) (x8_a : (-2147483648) ≤ x8) (x8_b : x8 ≤ 2147483647) (x9_a : (-2147483648) ≤ x9) (x9_b : x9 ≤ 2147483647) (x10_a : 0 ≤ x10) (x10_b : x10 ≤ 940) (x11_a : (-2147483648) ≤ x11) (x11_b : x11 ≤ 2147483647) (x12_a : 0 ≤ x12) (x12_b : x12 ≤ 8) (x13_a : 0 ≤ x13) (x13_b : x13 ≤ 9) (x14_a : (-1) ≤ x14) (x14_b : x14 ≤ 9) (x15_a : (-1) ≤ x15) (x15_b : x15 ≤ 8) (x16_a : 0 ≤ x16) (x16_b : x16 ≤ 9) (x17_a : 0 ≤ x17) (x17_b : x17 ≤ 64) (x18_a : 0 ≤ x18) (x18_b : x18 ≤ 40) (x19_a : 0 ≤ x19) (x19_b : x19 ≤ 40) (x20_a : 0 ≤ x20) (x20_b : x20 ≤ 20) (x21_a : 0 ≤ x21) (x21_b : x21 ≤ 8) (x22_a : 0 ≤ x22) (x22_b : x22 ≤ 39) (f0_h : nowI f0) (f1_h : rng 0 100000 f1) : Met l yX12_way (Cond.code yX12_way cX12_way 6 (some .int) :: GW) (Rm 2 0 0) (cPre [.ref a0, .int (iI x0), .int (iI x1)] D T [(a0, .inr (11, [.int r0, .ref a1, .int (iI x2), .int (iI x3), .int (iI x4), .int (iI x5), .int (iI x6), .int (iI x7), .int r1, .int (iI x8), .int (iI x9), .int (iI x10), .long y0, .int (iI x11), .ref a2, .ref a3, .ref a4, .ref a5, .ref a6, .ref a7, .ref a8, .ref a9, .ref a10, .ref a11, .int (iI x12), .ref a12, .ref a13, .ref a14, .ref a15, .int (iI x13), .int r2, .int r3, .ref a16, .int (iI x14), .int (iI x15), .ref a17, .ref a18, .int (iI x16), .ref a19, .int (iI x17), .int r4, .ref a20, .ref a21, .int (iI x18), .int r5, .ref a22, .int (iI x19), .int (iI x20), .int (iI x21), .int (iI x22)])), (a2, .inl (T 0, 329, .inl (cI f0))), (a17, .inl (T 0, 9, .inl (cI f1))), (a18, .inl (T 0, 9, .inl f2))] sz) (qI D [(a0, .inr (11, [.int r0, .ref a1, .int (iI x2), .int (iI x3), .int (iI x4), .int (iI x5), .int (iI x6), .int (iI x7), .int r1, .int (iI x8), .int (iI x9), .int (iI x10), .long y0, .int (iI x11), .ref a2, .ref a3, .ref a4, .ref a5, .ref a6, .ref a7, .ref a8, .ref a9, .ref a10, .ref a11, .int (iI x12), .ref a12, .ref a13, .ref a14, .ref a15, .int (iI x13), .int r2, .int r3, .ref a16, .int (iI x14), .int (iI x15), .ref a17, .ref a18, .int (iI x16), .ref a19, .int (iI x17), .int r4, .ref a20, .ref a21, .int (iI x18), .int r5, .ref a22, .int (iI x19), .int (iI x20), .int (iI x21), .int (iI x22)])), (a2, .inl (T 0, 329, .inl (cI f0))), (a17, .inl (T 0, 9, .inl (cI f1))), (a18, .inl (T 0, 9, .inl f2))] sz (fun (v : Int32) (u : Int × Int32 × Int × (Int → Int) × (Nat → Int32)) => iI u.1 = v ∧ (-2147483648) ≤ u.1 ∧ u.1 ≤ 2147483647 ∧ 0 ≤ u.2.2.1 ∧ u.2.2.1 ≤ 9 ∧ rng 0 100000 u.2.2.2.1) (fun u => [(a0, .inr (11, [.int u.2.1, .ref a1, .int (iI x2), .int (iI x3), .int (iI x4), .int (iI x5), .int (iI x6), .int (iI x7), .int r1, .int (iI x8), .int (iI x9), .int (iI x10), .long y0, .int (iI x11), .ref a2, .ref a3, .ref a4, .ref a5, .ref a6, .ref a7, .ref a8, .ref a9, .ref a10, .ref a11, .int (iI x12), .ref a12, .ref a13, .ref a14, .ref a15, .int (iI x13), .int r2, .int r3, .ref a16, .int (iI x14), .int (iI x15), .ref a17, .ref a18, .int (iI u.2.2.1), .ref a19, .int (iI x17), .int r4, .ref a20, .ref a21, .int (iI x18), .int r5, .ref a22, .int (iI x19), .int (iI x20), .int (iI x21), .int (iI x22)])), (a2, .inl (T 0, 329, .inl (cI f0))), (a17, .inl (T 0, 9, .inl (cI u.2.2.2.1))), (a18, .inl (T 0, 9, .inl u.2.2.2.2))])) 0 0 (va_A [(a0, .inr (11, [.int r0, .ref a1, .int (iI x2), .int (iI x3), .int (iI x4), .int (iI x5), .int (iI x6), .int (iI x7), .int r1, .int (iI x8), .int (iI x9), .int (iI x10), .long y0, .int (iI x11), .ref a2, .ref a3, .ref a4, .ref a5, .ref a6, .ref a7, .ref a8, .ref a9, .ref a10, .ref a11, .int (iI x12), .ref a12, .ref a13, .ref a14, .ref a15, .int (iI x13), .int r2, .int r3, .ref a16, .int (iI x14), .int (iI x15), .ref a17, .ref a18, .int (iI x16), .ref a19, .int (iI x17), .int r4, .ref a20, .ref a21, .int (iI x18), .int r5, .ref a22, .int (iI x19), .int (iI x20), .int (iI x21), .int (iI x22)])), (a2, .inl (T 0, 329, .inl (cI f0))), (a17, .inl (T 0, 9, .inl (cI f1))), (a18, .inl (T 0, 9, .inl f2))] sz) := by
  refine e_I (by decide) (Nat.le_of_ble_eq_true rfl) ?_
  intro p e s m args below meth c A Q ls M hin w ret hl
  have hx := M.1.1
  have hb := M.1.2.1
  have hl : lv_has ls 6 [(0, .ref a0), (1, .int (iI x0)), (2, .int (iI x1))] := hl
  refine lv_aload_n hx hb dX12_way_0 rfl (lv_at hl 0 rfl) ?_
  refine lv_iconst (v := iI 0) hx hb dX12_way_1 (by decide +kernel) ?_
  refine r_put (ws' := [(a0, .inr (11, [.int (iI 0), .ref a1, .int (iI x2), .int (iI x3), .int (iI x4), .int (iI x5), .int (iI x6), .int (iI x7), .int r1, .int (iI x8), .int (iI x9), .int (iI x10), .long y0, .int (iI x11), .ref a2, .ref a3, .ref a4, .ref a5, .ref a6, .ref a7, .ref a8, .ref a9, .ref a10, .ref a11, .int (iI x12), .ref a12, .ref a13, .ref a14, .ref a15, .int (iI x13), .int r2, .int r3, .ref a16, .int (iI x14), .int (iI x15), .ref a17, .ref a18, .int (iI x16), .ref a19, .int (iI x17), .int r4, .ref a20, .ref a21, .int (iI x18), .int r5, .ref a22, .int (iI x19), .int (iI x20), .int (iI x21), .int (iI x22)])), (a2, .inl (T 0, 329, .inl (cI f0))), (a17, .inl (T 0, 9, .inl (cI f1))), (a18, .inl (T 0, 9, .inl f2))]) M w 0 0 clX12 rfl (by decide) G1463 rfl rfl rfl rfl (Nat.le_of_ble_eq_true rfl) rfl dX12_way_2 (fun H locs w => ?_)
  refine lv_aload_n hx hb dX12_way_5 rfl (lv_at hl 0 rfl) ?_
  refine lv_iload_n hx hb dX12_way_6 rfl (lv_at hl 1 rfl) ?_
  refine k_I (ce := 0) (sl := 0) (rest := []) (wr := [(a17, .inl (T 0, 9, .inl (cI f1))), (a18, .inl (T 0, 9, .inl f2))]) (r_V (f := 1) [0, 1] M w V_HookedCityModel_240 G1736 G68 (c68_X12_isPerson l D T _ a0 x0 (iI 0) a1 x2 x3 x4 x5 x6 x7 r1 x8 x9 x10 y0 x11 a2 a3 a4 a5 a6 a7 a8 a9 a10 a11 x12 a12 a13 a14 a15 x13 r2 r3 a16 x14 x15 a17 a18 x16 a19 x17 r4 a20 a21 x18 r5 a22 x19 x20 x21 x22 f0 x0_a x0_b x2_a x2_b x3_a x3_b x4_a x4_b x5_a x5_b x6_a x6_b x7_a x7_b x8_a x8_b x9_a x9_b x10_a x10_b x11_a x11_b x12_a x12_b x13_a x13_b x14_a x14_b x15_a x15_b x16_a x16_b x17_a x17_b x18_a x18_b x19_a x19_b x20_a x20_b x21_a x21_b x22_a x22_b f0_h) 0 clX12 rfl rfl (by decide) rfl hl.1 rfl (Nat.le_of_ble_eq_true rfl) dX12_way_7 (by decide) (by decide) (by decide) (by decide)) w [0, 1] [2, 3] rfl rfl (by decide) (by decide) rfl rfl (fun v z1 H locs hp w => ?_)
  have hv : iI z1 = v := hp.1
  subst hv
  have z1_a : 0 ≤ z1 := hp.2.1
  have z1_b : z1 ≤ 1 := hp.2.2.1
  have ee2 : 0 ≤ ((x0 + 4294967296) - (z1 * 4294967296)) := hp.2.2.2.1
  have ee3 : 0 ≤ (((8 - x0) + 4294967296) - (z1 * 4294967296)) := hp.2.2.2.2.1
  have pq4 : ipQ z1 x0 (f0 0) := hp.2.2.2.2.2
  have w : WD D A s.heap [(a17, .inl (T 0, 9, .inl (cI f1))), (a18, .inl (T 0, 9, .inl f2)), (a0, .inr (11, [.int (iI 0), .ref a1, .int (iI x2), .int (iI x3), .int (iI x4), .int (iI x5), .int (iI x6), .int (iI x7), .int r1, .int (iI x8), .int (iI x9), .int (iI x10), .long y0, .int (iI x11), .ref a2, .ref a3, .ref a4, .ref a5, .ref a6, .ref a7, .ref a8, .ref a9, .ref a10, .ref a11, .int (iI x12), .ref a12, .ref a13, .ref a14, .ref a15, .int (iI x13), .int r2, .int r3, .ref a16, .int (iI x14), .int (iI x15), .ref a17, .ref a18, .int (iI x16), .ref a19, .int (iI x17), .int r4, .ref a20, .ref a21, .int (iI x18), .int r5, .ref a22, .int (iI x19), .int (iI x20), .int (iI x21), .int (iI x22)])), (a2, .inl (T 0, 329, .inl (cI f0)))] H locs := w
  refine lv_if_eq (tgt := 21) hx hb dX12_way_10 (by decide) (fun c_5 => ?_) (fun c_5 => ?_)
  · replace c_5 := (iz_eq (Int.le_trans (by decide) z1_a) (Int.le_trans z1_b (by decide))).mp c_5
    refine lv_iconst (v := iI (-1)) hx hb dX12_way_21 (by decide +kernel) ?_
    exact ret _ ((-1), (iI 0), x16, f1, f2) _ _ _ _ _ [2, 3, 0, 1] dX12_way_22 ⟨rfl, (show (-2147483648) ≤ (-1) from by decide), (show ((-1) : Int) ≤ 2147483647 from by decide), x16_a, x16_b, f1_h⟩ w (by decide) rfl
  · replace c_5 : ¬ z1 = 0 := fun h => c_5 ((iz_eq (Int.le_trans (by decide) z1_a) (Int.le_trans z1_b (by decide))).mpr h)
    refine lv_aload_n hx hb dX12_way_13 rfl (lv_at hl 0 rfl) ?_
    refine lv_iload_n hx hb dX12_way_14 rfl (lv_at hl 2 rfl) ?_
    refine k_I (ce := 0) (sl := 0) (rest := []) (wr := [(a17, .inl (T 0, 9, .inl (cI f1))), (a18, .inl (T 0, 9, .inl f2))]) (r_V (f := 1) [2, 3] M w V_HookedCityModel_240 G1736 G68 (c68_X12_isPerson l D T _ a0 x1 (iI 0) a1 x2 x3 x4 x5 x6 x7 r1 x8 x9 x10 y0 x11 a2 a3 a4 a5 a6 a7 a8 a9 a10 a11 x12 a12 a13 a14 a15 x13 r2 r3 a16 x14 x15 a17 a18 x16 a19 x17 r4 a20 a21 x18 r5 a22 x19 x20 x21 x22 f0 x1_a x1_b x2_a x2_b x3_a x3_b x4_a x4_b x5_a x5_b x6_a x6_b x7_a x7_b x8_a x8_b x9_a x9_b x10_a x10_b x11_a x11_b x12_a x12_b x13_a x13_b x14_a x14_b x15_a x15_b x16_a x16_b x17_a x17_b x18_a x18_b x19_a x19_b x20_a x20_b x21_a x21_b x22_a x22_b f0_h) 2 clX12 rfl rfl (by decide) rfl hl.1 rfl (Nat.le_of_ble_eq_true rfl) dX12_way_15 (by decide) (by decide) (by decide) (by decide)) w [2, 3] [0, 1] rfl rfl (by decide) (by decide) rfl rfl (fun v z6 H locs hp w => ?_)
    have hv : iI z6 = v := hp.1
    subst hv
    have z6_a : 0 ≤ z6 := hp.2.1
    have z6_b : z6 ≤ 1 := hp.2.2.1
    have ee7 : 0 ≤ ((x1 + 4294967296) - (z6 * 4294967296)) := hp.2.2.2.1
    have ee8 : 0 ≤ (((8 - x1) + 4294967296) - (z6 * 4294967296)) := hp.2.2.2.2.1
    have pq9 : ipQ z6 x1 (f0 0) := hp.2.2.2.2.2
    have w : WD D A s.heap [(a17, .inl (T 0, 9, .inl (cI f1))), (a18, .inl (T 0, 9, .inl f2)), (a0, .inr (11, [.int (iI 0), .ref a1, .int (iI x2), .int (iI x3), .int (iI x4), .int (iI x5), .int (iI x6), .int (iI x7), .int r1, .int (iI x8), .int (iI x9), .int (iI x10), .long y0, .int (iI x11), .ref a2, .ref a3, .ref a4, .ref a5, .ref a6, .ref a7, .ref a8, .ref a9, .ref a10, .ref a11, .int (iI x12), .ref a12, .ref a13, .ref a14, .ref a15, .int (iI x13), .int r2, .int r3, .ref a16, .int (iI x14), .int (iI x15), .ref a17, .ref a18, .int (iI x16), .ref a19, .int (iI x17), .int r4, .ref a20, .ref a21, .int (iI x18), .int r5, .ref a22, .int (iI x19), .int (iI x20), .int (iI x21), .int (iI x22)])), (a2, .inl (T 0, 329, .inl (cI f0)))] H locs := w
    refine lv_if_ne (tgt := 23) hx hb dX12_way_18 (by decide) (fun c_10 => ?_) (fun c_10 => ?_)
    · replace c_10 : ¬ z6 = 0 := fun h => c_10 ((iz_eq (Int.le_trans (by decide) z6_a) (Int.le_trans z6_b (by decide))).mpr h)
      refine lv_iconst (v := iI 0) hx hb dX12_way_23 (by decide +kernel) ?_
      refine lv_istore_n (lv' := [(3, .int (iI 0)), (0, .ref a0), (1, .int (iI x0)), (2, .int (iI x1))]) hx hb dX12_way_24 rfl hl (by decide) rfl (fun ls hl => ?_)
      have w := WD.eq (ws' := [(a17, .inl (T 0, 9, .inl (cI (rgz 0 0 100000 f1)))), (a18, .inl (T 0, 9, .inl f2)), (a0, .inr (11, [.int (iI 0), .ref a1, .int (iI x2), .int (iI x3), .int (iI x4), .int (iI x5), .int (iI x6), .int (iI x7), .int r1, .int (iI x8), .int (iI x9), .int (iI x10), .long y0, .int (iI x11), .ref a2, .ref a3, .ref a4, .ref a5, .ref a6, .ref a7, .ref a8, .ref a9, .ref a10, .ref a11, .int (iI x12), .ref a12, .ref a13, .ref a14, .ref a15, .int (iI x13), .int r2, .int r3, .ref a16, .int (iI x14), .int (iI x15), .ref a17, .ref a18, .int (iI x16), .ref a19, .int (iI x17), .int r4, .ref a20, .ref a21, .int (iI x18), .int r5, .ref a22, .int (iI x19), .int (iI x20), .int (iI x21), .int (iI x22)])), (a2, .inl (T 0, 329, .inl (cI f0)))]) (by rw [rgz_0 (lo := 0) (hi := 0) (x := 100000) (c := f1) (by decide)]) w
      have loop1 : ∀ (k1 : Nat) (z11 : Int) (H : Heap) (locs : List Loc) (ls : Array Slot), 0 ≤ z11 → z11 ≤ 9 → ((9 - z11) : Int).toNat < k1 → WD D A s.heap [(a17, .inl (T 0, 9, .inl (cI (rgz 0 z11 100000 f1)))), (a18, .inl (T 0, 9, .inl f2)), (a0, .inr (11, [.int (iI 0), .ref a1, .int (iI x2), .int (iI x3), .int (iI x4), .int (iI x5), .int (iI x6), .int (iI x7), .int r1, .int (iI x8), .int (iI x9), .int (iI x10), .long y0, .int (iI x11), .ref a2, .ref a3, .ref a4, .ref a5, .ref a6, .ref a7, .ref a8, .ref a9, .ref a10, .ref a11, .int (iI x12), .ref a12, .ref a13, .ref a14, .ref a15, .int (iI x13), .int r2, .int r3, .ref a16, .int (iI x14), .int (iI x15), .ref a17, .ref a18, .int (iI x16), .ref a19, .int (iI x17), .int r4, .ref a20, .ref a21, .int (iI x18), .int r5, .ref a22, .int (iI x19), .int (iI x20), .int (iI x21), .int (iI x22)])), (a2, .inl (T 0, 329, .inl (cI f0)))] H locs → lv_has ls 6 [(3, .int (iI z11)), (0, .ref a0), (1, .int (iI x0)), (2, .int (iI x1))] → W p l e (Rm 2 0 0) s m args below meth c H locs 0 0 Q (F0 m 25 ls []) := by
        intro k1
        induction k1 with
        | zero => intro z11 H locs ls z11_a z11_b hm; exact absurd hm (Nat.not_lt_zero _)
        | succ k1 ih1 =>
          intro z11 H locs ls z11_a z11_b hm1 w hl
          refine lv_iload_n hx hb dX12_way_25 rfl (lv_at hl 0 rfl) ?_
          refine lv_bipush (v := iI 9) hx hb dX12_way_26 (by decide +kernel) ?_
          refine lv_icmp_ge (tgt := 46) hx hb dX12_way_28 (by decide) (fun c_12 => ?_) (fun c_12 => ?_)
          · replace c_12 := (iI_le (by decide) (by decide) (Int.le_trans (by decide) z11_a) (Int.le_trans z11_b (by decide))).mp c_12
            obtain rfl : z11 = 9 := by omega
            refine lv_aload_n hx hb dX12_way_46 rfl (lv_at hl 1 rfl) ?_
            refine r_get (v := .ref a17) M w 2 35 clX12 rfl (by decide) G1498 rfl rfl dX12_way_47 ?_
            refine lv_iload_n hx hb dX12_way_50 rfl (lv_at hl 3 rfl) ?_
            refine lv_iconst (v := iI 0) hx hb dX12_way_51 (by decide +kernel) ?_
            refine r_iast (ws' := [(a17, .inl (T 0, 9, .inl (cI (upz (rgz 0 9 100000 f1) x1 0)))), (a18, .inl (T 0, 9, .inl f2)), (a0, .inr (11, [.int (iI 0), .ref a1, .int (iI x2), .int (iI x3), .int (iI x4), .int (iI x5), .int (iI x6), .int (iI x7), .int r1, .int (iI x8), .int (iI x9), .int (iI x10), .long y0, .int (iI x11), .ref a2, .ref a3, .ref a4, .ref a5, .ref a6, .ref a7, .ref a8, .ref a9, .ref a10, .ref a11, .int (iI x12), .ref a12, .ref a13, .ref a14, .ref a15, .int (iI x13), .int r2, .int r3, .ref a16, .int (iI x14), .int (iI x15), .ref a17, .ref a18, .int (iI x16), .ref a19, .int (iI x17), .int r4, .ref a20, .ref a21, .int (iI x18), .int r5, .ref a22, .int (iI x19), .int (iI x20), .int (iI x21), .int (iI x22)])), (a2, .inl (T 0, 329, .inl (cI f0)))]) M w 0 rfl (iI_in (by omega) (by omega) (by decide)) (by rw [cI_up (by omega) (by omega)]; rfl) dX12_way_52 (fun H locs w => ?_)
            refine lv_iconst (v := iI 0) hx hb dX12_way_53 (by decide +kernel) ?_
            refine lv_istore_n (lv' := [(3, .int (iI 0)), (0, .ref a0), (1, .int (iI x0)), (2, .int (iI x1))]) hx hb dX12_way_54 rfl hl (by decide) rfl (fun ls hl => ?_)
            have loop2 : ∀ (k2 : Nat) (ff13 : Int → Int) (z14 : Int) (H : Heap) (locs : List Loc) (ls : Array Slot), rng 0 100000 ff13 → 0 ≤ z14 → z14 ≤ 9 → wL f0 ff13 x1 z14 0 0 → ((9 - z14) : Int).toNat < k2 → WD D A s.heap [(a17, .inl (T 0, 9, .inl (cI ff13))), (a18, .inl (T 0, 9, .inl f2)), (a0, .inr (11, [.int (iI 0), .ref a1, .int (iI x2), .int (iI x3), .int (iI x4), .int (iI x5), .int (iI x6), .int (iI x7), .int r1, .int (iI x8), .int (iI x9), .int (iI x10), .long y0, .int (iI x11), .ref a2, .ref a3, .ref a4, .ref a5, .ref a6, .ref a7, .ref a8, .ref a9, .ref a10, .ref a11, .int (iI x12), .ref a12, .ref a13, .ref a14, .ref a15, .int (iI x13), .int r2, .int r3, .ref a16, .int (iI x14), .int (iI x15), .ref a17, .ref a18, .int (iI x16), .ref a19, .int (iI x17), .int r4, .ref a20, .ref a21, .int (iI x18), .int r5, .ref a22, .int (iI x19), .int (iI x20), .int (iI x21), .int (iI x22)])), (a2, .inl (T 0, 329, .inl (cI f0)))] H locs → lv_has ls 6 [(3, .int (iI z14)), (0, .ref a0), (1, .int (iI x0)), (2, .int (iI x1))] → W p l e (Rm 2 0 0) s m args below meth c H locs 0 0 Q (F0 m 55 ls []) := by
              intro k2
              induction k2 with
              | zero => intro ff13 z14 H locs ls ff13_h z14_a z14_b lq2_w hm; exact absurd hm (Nat.not_lt_zero _)
              | succ k2 ih2 =>
                intro ff13 z14 H locs ls ff13_h z14_a z14_b lq2_w hm2 w hl
                refine lv_iload_n hx hb dX12_way_55 rfl (lv_at hl 0 rfl) ?_
                refine lv_bipush (v := iI 9) hx hb dX12_way_56 (by decide +kernel) ?_
                refine lv_icmp_ge (tgt := 143) hx hb dX12_way_58 (by decide) (fun c_15 => ?_) (fun c_15 => ?_)
                · replace c_15 := (iI_le (by decide) (by decide) (Int.le_trans (by decide) z14_a) (Int.le_trans z14_b (by decide))).mp c_15
                  have hW := wL_fin lq2_w (by omega)
                  refine lv_aload_n hx hb dX12_way_143 rfl (lv_at hl 1 rfl) ?_
                  refine r_get (v := .ref a17) M w 2 35 clX12 rfl (by decide) G1498 rfl rfl dX12_way_144 ?_
                  refine lv_iload_n hx hb dX12_way_147 rfl (lv_at hl 2 rfl) ?_
                  refine r_iald (v := iI (ff13 x0)) M w 0 rfl (iI_in (by omega) (by omega) (by decide)) (cI_at (by omega) (by omega)) dX12_way_148 ?_
                  have hh16 : 0 ≤ (ff13 x0) ∧ (ff13 x0) ≤ 100000 := ff13_h x0
                  refine lv_ldcw (v := _) hx hb M.1.2.2.2.1 (M.1.2.2.2.2 _ G1913) dX12_way_149 ?_
                  refine b_lit (z := 100000) (by decide +kernel) ?_
                  refine lv_icmp_lt (tgt := 157) hx hb dX12_way_152 (by decide) (fun c_17 => ?_) (fun c_17 => ?_)
                  · replace c_17 := (iI_lt (by omega) (by omega) (by decide) (by decide)).mp c_17
                    obtain ⟨hW3, hW4, -⟩ := hW x0 (by omega) (by omega) (by omega)
                    refine lv_iload_n hx hb dX12_way_157 rfl (lv_at hl 2 rfl) ?_
                    refine lv_istore_n (lv' := [(3, .int (iI x0)), (0, .ref a0), (1, .int (iI x0)), (2, .int (iI x1))]) hx hb dX12_way_158 rfl hl (by decide) rfl (fun ls hl => ?_)
                    refine lv_aload_n hx hb dX12_way_159 rfl (lv_at hl 1 rfl) ?_
                    refine lv_aload_n hx hb dX12_way_160 rfl (lv_at hl 1 rfl) ?_
                    refine r_get (v := .ref a17) M w 2 35 clX12 rfl (by decide) G1498 rfl rfl dX12_way_161 ?_
                    refine lv_iload_n hx hb dX12_way_164 rfl (lv_at hl 2 rfl) ?_
                    refine r_iald (v := iI (ff13 x0)) M w 0 rfl (iI_in (by omega) (by omega) (by decide)) (cI_at (by omega) (by omega)) dX12_way_165 ?_
                    have hh18 : 0 ≤ (ff13 x0) ∧ (ff13 x0) ≤ 100000 := ff13_h x0
                    refine lv_iconst (v := iI 1) hx hb dX12_way_166 (by decide +kernel) ?_
                    refine r_iadd (v := iI ((ff13 x0) + 1)) M (iI_add _ _) dX12_way_167 ?_
                    refine r_put (ws' := [(a17, .inl (T 0, 9, .inl (cI ff13))), (a18, .inl (T 0, 9, .inl f2)), (a0, .inr (11, [.int (iI 0), .ref a1, .int (iI x2), .int (iI x3), .int (iI x4), .int (iI x5), .int (iI x6), .int (iI x7), .int r1, .int (iI x8), .int (iI x9), .int (iI x10), .long y0, .int (iI x11), .ref a2, .ref a3, .ref a4, .ref a5, .ref a6, .ref a7, .ref a8, .ref a9, .ref a10, .ref a11, .int (iI x12), .ref a12, .ref a13, .ref a14, .ref a15, .int (iI x13), .int r2, .int r3, .ref a16, .int (iI x14), .int (iI x15), .ref a17, .ref a18, .int (iI ((ff13 x0) + 1)), .ref a19, .int (iI x17), .int r4, .ref a20, .ref a21, .int (iI x18), .int r5, .ref a22, .int (iI x19), .int (iI x20), .int (iI x21), .int (iI x22)])), (a2, .inl (T 0, 329, .inl (cI f0)))]) M w 2 37 clX12 rfl (by decide) G1500 rfl rfl rfl rfl (Nat.le_of_ble_eq_true rfl) rfl dX12_way_168 (fun H locs w => ?_)
                    refine lv_iconst (v := iI 0) hx hb dX12_way_171 (by decide +kernel) ?_
                    refine lv_istore (lv' := [(4, .int (iI 0)), (3, .int (iI x0)), (0, .ref a0), (1, .int (iI x0)), (2, .int (iI x1))]) hx hb dX12_way_172 hl (by decide) rfl (fun ls hl => ?_)
                    have loop3 : ∀ (k3 : Nat) (ff19 : Nat → Int32) (z20 : Int) (z21 : Int) (H : Heap) (locs : List Loc) (ls : Array Slot), 0 ≤ z20 → z20 ≤ 9 → 0 ≤ z21 → z21 ≤ 8 → 0 ≤ (((ff13 x0) + 1) - z20) → (z20 < ((ff13 x0) + 1) → ff13 z21 = ((ff13 x0) + 1) - 1 - z20) → ((((ff13 x0) + 1) - z20) : Int).toNat < k3 → WD D A s.heap [(a17, .inl (T 0, 9, .inl (cI ff13))), (a18, .inl (T 0, 9, .inl ff19)), (a0, .inr (11, [.int (iI 0), .ref a1, .int (iI x2), .int (iI x3), .int (iI x4), .int (iI x5), .int (iI x6), .int (iI x7), .int r1, .int (iI x8), .int (iI x9), .int (iI x10), .long y0, .int (iI x11), .ref a2, .ref a3, .ref a4, .ref a5, .ref a6, .ref a7, .ref a8, .ref a9, .ref a10, .ref a11, .int (iI x12), .ref a12, .ref a13, .ref a14, .ref a15, .int (iI x13), .int r2, .int r3, .ref a16, .int (iI x14), .int (iI x15), .ref a17, .ref a18, .int (iI ((ff13 x0) + 1)), .ref a19, .int (iI x17), .int r4, .ref a20, .ref a21, .int (iI x18), .int r5, .ref a22, .int (iI x19), .int (iI x20), .int (iI x21), .int (iI x22)])), (a2, .inl (T 0, 329, .inl (cI f0)))] H locs → lv_has ls 6 [(4, .int (iI z20)), (3, .int (iI z21)), (0, .ref a0), (1, .int (iI x0)), (2, .int (iI x1))] → W p l e (Rm 2 0 0) s m args below meth c H locs 0 0 Q (F0 m 174 ls []) := by
                      intro k3
                      induction k3 with
                      | zero => intro ff19 z20 z21 H locs ls z20_a z20_b z21_a z21_b q3_0 lq3_p hm; exact absurd hm (Nat.not_lt_zero _)
                      | succ k3 ih3 =>
                        intro ff19 z20 z21 H locs ls z20_a z20_b z21_a z21_b q3_0 lq3_p hm3 w hl
                        refine lv_iload hx hb dX12_way_174 (lv_at hl 0 rfl) ?_
                        refine lv_aload_n hx hb dX12_way_176 rfl (lv_at hl 2 rfl) ?_
                        refine r_get (v := .int (iI ((ff13 x0) + 1))) M w 2 37 clX12 rfl (by decide) G1500 rfl rfl dX12_way_177 ?_
                        refine lv_icmp_ge (tgt := 255) hx hb dX12_way_180 (by decide) (fun c_22 => ?_) (fun c_22 => ?_)
                        · replace c_22 := (iI_le (by omega) (by omega) (Int.le_trans (by decide) z20_a) (Int.le_trans z20_b (by decide))).mp c_22
                          refine lv_aload_n hx hb dX12_way_255 rfl (lv_at hl 2 rfl) ?_
                          refine r_get (v := .ref a17) M w 2 35 clX12 rfl (by decide) G1498 rfl rfl dX12_way_256 ?_
                          refine lv_iload_n hx hb dX12_way_259 rfl (lv_at hl 3 rfl) ?_
                          refine r_iald (v := iI (ff13 x0)) M w 0 rfl (iI_in (by omega) (by omega) (by decide)) (cI_at (by omega) (by omega)) dX12_way_260 ?_
                          have hh23 : 0 ≤ (ff13 x0) ∧ (ff13 x0) ≤ 100000 := ff13_h x0
                          exact ret _ ((ff13 x0), (iI 0), ((ff13 x0) + 1), ff13, ff19) _ _ _ _ _ [2, 3, 0, 1] dX12_way_261 ⟨rfl, (show (-2147483648) ≤ (ff13 x0) from by omega), (show (ff13 x0) ≤ 2147483647 from by omega), (show 0 ≤ ((ff13 x0) + 1) from by omega), (show ((ff13 x0) + 1) ≤ 9 from by omega), ff13_h⟩ w (by decide) rfl
                        · replace c_22 : z20 < ((ff13 x0) + 1) := Int.not_le.mp (fun h => c_22 ((iI_le (by omega) (by omega) (Int.le_trans (by decide) z20_a) (Int.le_trans z20_b (by decide))).mpr h))
                          refine lv_aload_n hx hb dX12_way_183 rfl (lv_at hl 2 rfl) ?_
                          refine r_get (v := .ref a18) M w 2 36 clX12 rfl (by decide) G1499 rfl rfl dX12_way_184 ?_
                          refine lv_iload hx hb dX12_way_187 (lv_at hl 0 rfl) ?_
                          refine lv_iload_n hx hb dX12_way_189 rfl (lv_at hl 1 rfl) ?_
                          refine r_iast (ws' := [(a17, .inl (T 0, 9, .inl (cI ff13))), (a18, .inl (T 0, 9, .inl (upd ff19 (Int32.toNatClampNeg (iI z20)) (iI z21)))), (a0, .inr (11, [.int (iI 0), .ref a1, .int (iI x2), .int (iI x3), .int (iI x4), .int (iI x5), .int (iI x6), .int (iI x7), .int r1, .int (iI x8), .int (iI x9), .int (iI x10), .long y0, .int (iI x11), .ref a2, .ref a3, .ref a4, .ref a5, .ref a6, .ref a7, .ref a8, .ref a9, .ref a10, .ref a11, .int (iI x12), .ref a12, .ref a13, .ref a14, .ref a15, .int (iI x13), .int r2, .int r3, .ref a16, .int (iI x14), .int (iI x15), .ref a17, .ref a18, .int (iI ((ff13 x0) + 1)), .ref a19, .int (iI x17), .int r4, .ref a20, .ref a21, .int (iI x18), .int r5, .ref a22, .int (iI x19), .int (iI x20), .int (iI x21), .int (iI x22)])), (a2, .inl (T 0, 329, .inl (cI f0)))]) M w 1 rfl (iI_in (by omega) (by omega) (by decide)) rfl dX12_way_190 (fun H locs w => ?_)
                          refine lv_iconst (v := iI 0) hx hb dX12_way_191 (by decide +kernel) ?_
                          refine lv_istore (lv' := [(5, .int (iI 0)), (4, .int (iI z20)), (3, .int (iI z21)), (0, .ref a0), (1, .int (iI x0)), (2, .int (iI x1))]) hx hb dX12_way_192 hl (by decide) rfl (fun ls hl => ?_)
                          have loop4 : ∀ (k4 : Nat) (z24 : Int) (H : Heap) (locs : List Loc) (ls : Array Slot), 0 ≤ z24 → z24 ≤ 9 → 0 ≤ ((((((ff13 x0) + 1) - z20) - 1) * 9) - z24) → (∀ j : Int, 0 ≤ j → j < z24 → ¬ (wE f0 z21 j ∧ ff13 j = ff13 z21 - 1)) → ((9 - z24) : Int).toNat < k4 → WD D A s.heap [(a17, .inl (T 0, 9, .inl (cI ff13))), (a18, .inl (T 0, 9, .inl (upd ff19 (Int32.toNatClampNeg (iI z20)) (iI z21)))), (a0, .inr (11, [.int (iI 0), .ref a1, .int (iI x2), .int (iI x3), .int (iI x4), .int (iI x5), .int (iI x6), .int (iI x7), .int r1, .int (iI x8), .int (iI x9), .int (iI x10), .long y0, .int (iI x11), .ref a2, .ref a3, .ref a4, .ref a5, .ref a6, .ref a7, .ref a8, .ref a9, .ref a10, .ref a11, .int (iI x12), .ref a12, .ref a13, .ref a14, .ref a15, .int (iI x13), .int r2, .int r3, .ref a16, .int (iI x14), .int (iI x15), .ref a17, .ref a18, .int (iI ((ff13 x0) + 1)), .ref a19, .int (iI x17), .int r4, .ref a20, .ref a21, .int (iI x18), .int r5, .ref a22, .int (iI x19), .int (iI x20), .int (iI x21), .int (iI x22)])), (a2, .inl (T 0, 329, .inl (cI f0)))] H locs → lv_has ls 6 [(5, .int (iI z24)), (4, .int (iI z20)), (3, .int (iI z21)), (0, .ref a0), (1, .int (iI x0)), (2, .int (iI x1))] → W p l e (Rm 2 0 0) s m args below meth c H locs 0 0 Q (F0 m 194 ls []) := by
                            intro k4
                            induction k4 with
                            | zero => intro z24 H locs ls z24_a z24_b q4_0 lq4_n hm; exact absurd hm (Nat.not_lt_zero _)
                            | succ k4 ih4 =>
                              intro z24 H locs ls z24_a z24_b q4_0 lq4_n hm4 w hl
                              refine lv_iload hx hb dX12_way_194 (lv_at hl 1 rfl) ?_
                              refine lv_iconst (v := iI 1) hx hb dX12_way_196 (by decide +kernel) ?_
                              refine r_iadd (v := iI (z20 + 1)) M (iI_add _ _) dX12_way_197 ?_
                              refine lv_aload_n hx hb dX12_way_198 rfl (lv_at hl 3 rfl) ?_
                              refine r_get (v := .int (iI ((ff13 x0) + 1))) M w 2 37 clX12 rfl (by decide) G1500 rfl rfl dX12_way_199 ?_
                              refine lv_icmp_ge (tgt := 246) hx hb dX12_way_202 (by decide) (fun c_25 => ?_) (fun c_25 => ?_)
                              · replace c_25 := (iI_le (by omega) (by omega) (by omega) (by omega)).mp c_25
                                refine lv_iload hx hb dX12_way_246 (lv_at hl 0 rfl) ?_
                                refine lv_istore_n (lv' := [(3, .int (iI z24)), (5, .int (iI z24)), (4, .int (iI z20)), (0, .ref a0), (1, .int (iI x0)), (2, .int (iI x1))]) hx hb dX12_way_248 rfl hl (by decide) rfl (fun ls hl => ?_)
                                refine lv_iinc (v := iI (z20 + 1)) (lv' := [(4, .int (iI (z20 + 1))), (3, .int (iI z24)), (5, .int (iI z24)), (0, .ref a0), (1, .int (iI x0)), (2, .int (iI x1))]) hx hb dX12_way_249 hl (k := 2) rfl (ii_inc (by decide +kernel)) (by decide) rfl (fun ls hl => ?_)
                                refine lv_goto (tgt := 174) hx hb dX12_way_252 (by decide) ?_
                                exact ih3 (upd ff19 (Int32.toNatClampNeg (iI z20)) (iI z21)) (z20 + 1) z24 _ _ _ (by omega) (by omega) (by omega) (by omega) (by omega) (fun h => by have e9 := lq3_p (by omega); omega) (by omega) w (lv_sub hl [0, 1, 3, 4, 5] rfl)
                              · replace c_25 : (z20 + 1) < ((ff13 x0) + 1) := Int.not_le.mp (fun h => c_25 ((iI_le (by omega) (by omega) (by omega) (by omega)).mpr h))
                                have e8 := lq3_p (by omega)
                                have e9 : z24 ≤ 8 := wN_le hW (by omega) (by omega) (by omega) (by omega) lq4_n
                                refine lv_aload_n hx hb dX12_way_205 rfl (lv_at hl 3 rfl) ?_
                                refine r_get (v := .ref a2) M w 2 14 clX12 rfl (by decide) G1477 rfl rfl dX12_way_206 ?_
                                refine lv_bipush (v := iI 44) hx hb dX12_way_209 (by decide +kernel) ?_
                                refine lv_iload_n hx hb dX12_way_211 rfl (lv_at hl 2 rfl) ?_
                                refine r_iadd (v := iI (44 + z21)) M (iI_add _ _) dX12_way_212 ?_
                                refine r_iald (v := iI (f0 (44 + z21))) M w 3 rfl (iI_in (by omega) (by omega) (by decide)) (cI_at (by omega) (by omega)) dX12_way_213 ?_
                                have hh26 : (-2147483648) ≤ (f0 (44 + z21)) ∧ (f0 (44 + z21)) ≤ 2147483647 := f0_h.1 (44 + z21)
                                refine lv_iload hx hb dX12_way_214 (lv_at hl 0 rfl) ?_
                                refine k_I (ce := 0) (sl := 0) (rest := []) (wr := [(a17, .inl (T 0, 9, .inl (cI ff13))), (a18, .inl (T 0, 9, .inl (upd ff19 (Int32.toNatClampNeg (iI z20)) (iI z21)))), (a0, .inr (11, [.int (iI 0), .ref a1, .int (iI x2), .int (iI x3), .int (iI x4), .int (iI x5), .int (iI x6), .int (iI x7), .int r1, .int (iI x8), .int (iI x9), .int (iI x10), .long y0, .int (iI x11), .ref a2, .ref a3, .ref a4, .ref a5, .ref a6, .ref a7, .ref a8, .ref a9, .ref a10, .ref a11, .int (iI x12), .ref a12, .ref a13, .ref a14, .ref a15, .int (iI x13), .int r2, .int r3, .ref a16, .int (iI x14), .int (iI x15), .ref a17, .ref a18, .int (iI ((ff13 x0) + 1)), .ref a19, .int (iI x17), .int r4, .ref a20, .ref a21, .int (iI x18), .int r5, .ref a22, .int (iI x19), .int (iI x20), .int (iI x21), .int (iI x22)])), (a2, .inl (T 0, 329, .inl (cI f0)))]) (r_S (f := 0) [] M w V_HookedCityModel_206 G1708 (c125_X12_has l D T _ (iI (f0 (44 + z21))) z24 (by omega) (by omega)) rfl (by decide) rfl hl.1 rfl (Nat.le_of_ble_eq_true rfl) dX12_way_216 (by decide) (by decide) (by decide) (by decide)) w [] [0, 1, 2, 3] rfl rfl (by decide) (by decide) rfl rfl (fun v z27 H locs hp w => ?_)
                                have hv : iI z27 = v := hp.1
                                subst hv
                                have z27_a : 0 ≤ z27 := hp.2.1
                                have z27_b : z27 ≤ 1 := hp.2.2.1
                                have pq28 : z27 = 1 → hbt (iI (f0 (44 + z21))) z24 := hp.2.2.2.1
                                have pq29 : z27 = 0 → ¬ hbt (iI (f0 (44 + z21))) z24 := hp.2.2.2.2
                                have w : WD D A s.heap [(a17, .inl (T 0, 9, .inl (cI ff13))), (a18, .inl (T 0, 9, .inl (upd ff19 (Int32.toNatClampNeg (iI z20)) (iI z21)))), (a0, .inr (11, [.int (iI 0), .ref a1, .int (iI x2), .int (iI x3), .int (iI x4), .int (iI x5), .int (iI x6), .int (iI x7), .int r1, .int (iI x8), .int (iI x9), .int (iI x10), .long y0, .int (iI x11), .ref a2, .ref a3, .ref a4, .ref a5, .ref a6, .ref a7, .ref a8, .ref a9, .ref a10, .ref a11, .int (iI x12), .ref a12, .ref a13, .ref a14, .ref a15, .int (iI x13), .int r2, .int r3, .ref a16, .int (iI x14), .int (iI x15), .ref a17, .ref a18, .int (iI ((ff13 x0) + 1)), .ref a19, .int (iI x17), .int r4, .ref a20, .ref a21, .int (iI x18), .int r5, .ref a22, .int (iI x19), .int (iI x20), .int (iI x21), .int (iI x22)])), (a2, .inl (T 0, 329, .inl (cI f0)))] H locs := w
                                refine lv_if_eq (tgt := 240) hx hb dX12_way_219 (by decide) (fun c_30 => ?_) (fun c_30 => ?_)
                                · replace c_30 := (iz_eq (Int.le_trans (by decide) z27_a) (Int.le_trans z27_b (by decide))).mp c_30
                                  refine lv_iinc (v := iI (z24 + 1)) (lv' := [(5, .int (iI (z24 + 1))), (4, .int (iI z20)), (3, .int (iI z21)), (0, .ref a0), (1, .int (iI x0)), (2, .int (iI x1))]) hx hb dX12_way_240 hl (k := 0) rfl (ii_inc (by decide +kernel)) (by decide) rfl (fun ls hl => ?_)
                                  refine lv_goto (tgt := 194) hx hb dX12_way_243 (by decide) ?_
                                  exact ih4 (z24 + 1) _ _ _ (by omega) (by omega) (by omega) (wN_s lq4_n (by first | exact (fun h => absurd h.1 (pq29 (by omega))) | (intro h; have e9 := h.2; omega))) (by omega) w (lv_sub hl [0, 1, 2, 3, 4, 5] rfl)
                                · replace c_30 : ¬ z27 = 0 := fun h => c_30 ((iz_eq (Int.le_trans (by decide) z27_a) (Int.le_trans z27_b (by decide))).mpr h)
                                  refine lv_aload_n hx hb dX12_way_222 rfl (lv_at hl 3 rfl) ?_
                                  refine r_get (v := .ref a17) M w 2 35 clX12 rfl (by decide) G1498 rfl rfl dX12_way_223 ?_
                                  refine lv_iload hx hb dX12_way_226 (lv_at hl 0 rfl) ?_
                                  refine r_iald (v := iI (ff13 z24)) M w 0 rfl (iI_in (by omega) (by omega) (by decide)) (cI_at (by omega) (by omega)) dX12_way_228 ?_
                                  have hh31 : 0 ≤ (ff13 z24) ∧ (ff13 z24) ≤ 100000 := ff13_h z24
                                  refine lv_aload_n hx hb dX12_way_229 rfl (lv_at hl 3 rfl) ?_
                                  refine r_get (v := .ref a17) M w 2 35 clX12 rfl (by decide) G1498 rfl rfl dX12_way_230 ?_
                                  refine lv_iload_n hx hb dX12_way_233 rfl (lv_at hl 2 rfl) ?_
                                  refine r_iald (v := iI (ff13 z21)) M w 0 rfl (iI_in (by omega) (by omega) (by decide)) (cI_at (by omega) (by omega)) dX12_way_234 ?_
                                  have hh32 : 0 ≤ (ff13 z21) ∧ (ff13 z21) ≤ 100000 := ff13_h z21
                                  refine lv_iconst (v := iI 1) hx hb dX12_way_235 (by decide +kernel) ?_
                                  refine r_isub (v := iI ((ff13 z21) - 1)) M (iI_sub _ _) dX12_way_236 ?_
                                  refine lv_icmp_eq (tgt := 246) hx hb dX12_way_237 (by decide) (fun c_33 => ?_) (fun c_33 => ?_)
                                  · replace c_33 := (iI_eq (by omega) (by omega) (by omega) (by omega)).mp c_33
                                    refine lv_iload hx hb dX12_way_246 (lv_at hl 0 rfl) ?_
                                    refine lv_istore_n (lv' := [(3, .int (iI z24)), (5, .int (iI z24)), (4, .int (iI z20)), (0, .ref a0), (1, .int (iI x0)), (2, .int (iI x1))]) hx hb dX12_way_248 rfl hl (by decide) rfl (fun ls hl => ?_)
                                    refine lv_iinc (v := iI (z20 + 1)) (lv' := [(4, .int (iI (z20 + 1))), (3, .int (iI z24)), (5, .int (iI z24)), (0, .ref a0), (1, .int (iI x0)), (2, .int (iI x1))]) hx hb dX12_way_249 hl (k := 2) rfl (ii_inc (by decide +kernel)) (by decide) rfl (fun ls hl => ?_)
                                    refine lv_goto (tgt := 174) hx hb dX12_way_252 (by decide) ?_
                                    exact ih3 (upd ff19 (Int32.toNatClampNeg (iI z20)) (iI z21)) (z20 + 1) z24 _ _ _ (by omega) (by omega) (by omega) (by omega) (by omega) (fun h => by have e9 := lq3_p (by omega); omega) (by omega) w (lv_sub hl [0, 1, 3, 4, 5] rfl)
                                  · replace c_33 : ¬ (ff13 z24) = ((ff13 z21) - 1) := fun h => c_33 ((iI_eq (by omega) (by omega) (by omega) (by omega)).mpr h)
                                    refine lv_iinc (v := iI (z24 + 1)) (lv' := [(5, .int (iI (z24 + 1))), (4, .int (iI z20)), (3, .int (iI z21)), (0, .ref a0), (1, .int (iI x0)), (2, .int (iI x1))]) hx hb dX12_way_240 hl (k := 0) rfl (ii_inc (by decide +kernel)) (by decide) rfl (fun ls hl => ?_)
                                    refine lv_goto (tgt := 194) hx hb dX12_way_243 (by decide) ?_
                                    exact ih4 (z24 + 1) _ _ _ (by omega) (by omega) (by omega) (wN_s lq4_n (by first | exact (fun h => absurd h.1 (pq29 (by omega))) | (intro h; have e9 := h.2; omega))) (by omega) w (lv_sub hl [0, 1, 2, 3, 4, 5] rfl)
                          exact loop4 ((9 : Int).toNat + 1) 0 _ _ _ (by decide) (by decide) (by omega) (fun j a b => absurd b (by omega)) (Nat.lt_succ_self _) w (lv_sub hl [0, 1, 2, 3, 4, 5] rfl)
                    exact loop3 (((((ff13 x0) + 1) - 0) : Int).toNat + 1) f2 0 x0 _ _ _ (by decide) (by decide) (by omega) (by omega) (by omega) (fun _ => by omega) (Nat.lt_succ_self _) w (lv_sub hl [0, 1, 2, 3, 4] rfl)
                  · replace c_17 : 100000 ≤ (ff13 x0) := Int.not_lt.mp (fun h => c_17 ((iI_lt (by omega) (by omega) (by decide) (by decide)).mpr h))
                    refine lv_iconst (v := iI (-1)) hx hb dX12_way_155 (by decide +kernel) ?_
                    exact ret _ ((-1), (iI 0), x16, ff13, f2) _ _ _ _ _ [2, 3, 0, 1] dX12_way_156 ⟨rfl, (show (-2147483648) ≤ (-1) from by decide), (show ((-1) : Int) ≤ 2147483647 from by decide), x16_a, x16_b, ff13_h⟩ w (by decide) rfl
                · replace c_15 : z14 < 9 := Int.not_le.mp (fun h => c_15 ((iI_le (by decide) (by decide) (Int.le_trans (by decide) z14_a) (Int.le_trans z14_b (by decide))).mpr h))
                  refine lv_iconst (v := iI 0) hx hb dX12_way_61 (by decide +kernel) ?_
                  refine lv_istore (lv' := [(4, .int (iI 0)), (3, .int (iI z14)), (0, .ref a0), (1, .int (iI x0)), (2, .int (iI x1))]) hx hb dX12_way_62 hl (by decide) rfl (fun ls hl => ?_)
                  have loop3 : ∀ (k3 : Nat) (ff34 : Int → Int) (z35 : Int) (H : Heap) (locs : List Loc) (ls : Array Slot), rng 0 100000 ff34 → 0 ≤ z35 → z35 ≤ 9 → wL f0 ff34 x1 z14 z35 0 → ((9 - z35) : Int).toNat < k3 → WD D A s.heap [(a17, .inl (T 0, 9, .inl (cI ff34))), (a18, .inl (T 0, 9, .inl f2)), (a0, .inr (11, [.int (iI 0), .ref a1, .int (iI x2), .int (iI x3), .int (iI x4), .int (iI x5), .int (iI x6), .int (iI x7), .int r1, .int (iI x8), .int (iI x9), .int (iI x10), .long y0, .int (iI x11), .ref a2, .ref a3, .ref a4, .ref a5, .ref a6, .ref a7, .ref a8, .ref a9, .ref a10, .ref a11, .int (iI x12), .ref a12, .ref a13, .ref a14, .ref a15, .int (iI x13), .int r2, .int r3, .ref a16, .int (iI x14), .int (iI x15), .ref a17, .ref a18, .int (iI x16), .ref a19, .int (iI x17), .int r4, .ref a20, .ref a21, .int (iI x18), .int r5, .ref a22, .int (iI x19), .int (iI x20), .int (iI x21), .int (iI x22)])), (a2, .inl (T 0, 329, .inl (cI f0)))] H locs → lv_has ls 6 [(4, .int (iI z35)), (3, .int (iI z14)), (0, .ref a0), (1, .int (iI x0)), (2, .int (iI x1))] → W p l e (Rm 2 0 0) s m args below meth c H locs 0 0 Q (F0 m 64 ls []) := by
                    intro k3
                    induction k3 with
                    | zero => intro ff34 z35 H locs ls ff34_h z35_a z35_b lq3_w hm; exact absurd hm (Nat.not_lt_zero _)
                    | succ k3 ih3 =>
                      intro ff34 z35 H locs ls ff34_h z35_a z35_b lq3_w hm3 w hl
                      refine lv_iload hx hb dX12_way_64 (lv_at hl 0 rfl) ?_
                      refine lv_bipush (v := iI 9) hx hb dX12_way_66 (by decide +kernel) ?_
                      refine lv_icmp_ge (tgt := 137) hx hb dX12_way_68 (by decide) (fun c_36 => ?_) (fun c_36 => ?_)
                      · replace c_36 := (iI_le (by decide) (by decide) (Int.le_trans (by decide) z35_a) (Int.le_trans z35_b (by decide))).mp c_36
                        refine lv_iinc (v := iI (z14 + 1)) (lv' := [(3, .int (iI (z14 + 1))), (4, .int (iI z35)), (0, .ref a0), (1, .int (iI x0)), (2, .int (iI x1))]) hx hb dX12_way_137 hl (k := 1) rfl (ii_inc (by decide +kernel)) (by decide) rfl (fun ls hl => ?_)
                        refine lv_goto (tgt := 55) hx hb dX12_way_140 (by decide) ?_
                        exact ih2 ff34 (z14 + 1) _ _ _ ff34_h (by omega) (by omega) (wL_R lq3_w (by omega)) (by omega) w (lv_sub hl [0, 2, 3, 4] rfl)
                      · replace c_36 : z35 < 9 := Int.not_le.mp (fun h => c_36 ((iI_le (by decide) (by decide) (Int.le_trans (by decide) z35_a) (Int.le_trans z35_b (by decide))).mpr h))
                        refine lv_iconst (v := iI 0) hx hb dX12_way_71 (by decide +kernel) ?_
                        refine lv_istore (lv' := [(5, .int (iI 0)), (4, .int (iI z35)), (3, .int (iI z14)), (0, .ref a0), (1, .int (iI x0)), (2, .int (iI x1))]) hx hb dX12_way_72 hl (by decide) rfl (fun ls hl => ?_)
                        have loop4 : ∀ (k4 : Nat) (ff37 : Int → Int) (z38 : Int) (H : Heap) (locs : List Loc) (ls : Array Slot), rng 0 100000 ff37 → 0 ≤ z38 → z38 ≤ 9 → wL f0 ff37 x1 z14 z35 z38 → ((9 - z38) : Int).toNat < k4 → WD D A s.heap [(a17, .inl (T 0, 9, .inl (cI ff37))), (a18, .inl (T 0, 9, .inl f2)), (a0, .inr (11, [.int (iI 0), .ref a1, .int (iI x2), .int (iI x3), .int (iI x4), .int (iI x5), .int (iI x6), .int (iI x7), .int r1, .int (iI x8), .int (iI x9), .int (iI x10), .long y0, .int (iI x11), .ref a2, .ref a3, .ref a4, .ref a5, .ref a6, .ref a7, .ref a8, .ref a9, .ref a10, .ref a11, .int (iI x12), .ref a12, .ref a13, .ref a14, .ref a15, .int (iI x13), .int r2, .int r3, .ref a16, .int (iI x14), .int (iI x15), .ref a17, .ref a18, .int (iI x16), .ref a19, .int (iI x17), .int r4, .ref a20, .ref a21, .int (iI x18), .int r5, .ref a22, .int (iI x19), .int (iI x20), .int (iI x21), .int (iI x22)])), (a2, .inl (T 0, 329, .inl (cI f0)))] H locs → lv_has ls 6 [(5, .int (iI z38)), (4, .int (iI z35)), (3, .int (iI z14)), (0, .ref a0), (1, .int (iI x0)), (2, .int (iI x1))] → W p l e (Rm 2 0 0) s m args below meth c H locs 0 0 Q (F0 m 74 ls []) := by
                          intro k4
                          induction k4 with
                          | zero => intro ff37 z38 H locs ls ff37_h z38_a z38_b lq4_w hm; exact absurd hm (Nat.not_lt_zero _)
                          | succ k4 ih4 =>
                            intro ff37 z38 H locs ls ff37_h z38_a z38_b lq4_w hm4 w hl
                            refine lv_iload hx hb dX12_way_74 (lv_at hl 0 rfl) ?_
                            refine lv_bipush (v := iI 9) hx hb dX12_way_76 (by decide +kernel) ?_
                            refine lv_icmp_ge (tgt := 131) hx hb dX12_way_78 (by decide) (fun c_39 => ?_) (fun c_39 => ?_)
                            · replace c_39 := (iI_le (by decide) (by decide) (Int.le_trans (by decide) z38_a) (Int.le_trans z38_b (by decide))).mp c_39
                              refine lv_iinc (v := iI (z35 + 1)) (lv' := [(4, .int (iI (z35 + 1))), (5, .int (iI z38)), (3, .int (iI z14)), (0, .ref a0), (1, .int (iI x0)), (2, .int (iI x1))]) hx hb dX12_way_131 hl (k := 1) rfl (ii_inc (by decide +kernel)) (by decide) rfl (fun ls hl => ?_)
                              refine lv_goto (tgt := 64) hx hb dX12_way_134 (by decide) ?_
                              exact ih3 ff37 (z35 + 1) _ _ _ ff37_h (by omega) (by omega) (wL_A lq4_w (by omega)) (by omega) w (lv_sub hl [0, 2, 3, 4, 5] rfl)
                            · replace c_39 : z38 < 9 := Int.not_le.mp (fun h => c_39 ((iI_le (by decide) (by decide) (Int.le_trans (by decide) z38_a) (Int.le_trans z38_b (by decide))).mpr h))
                              refine lv_aload_n hx hb dX12_way_81 rfl (lv_at hl 3 rfl) ?_
                              refine r_get (v := .ref a2) M w 2 14 clX12 rfl (by decide) G1477 rfl rfl dX12_way_82 ?_
                              refine lv_bipush (v := iI 44) hx hb dX12_way_85 (by decide +kernel) ?_
                              refine lv_iload hx hb dX12_way_87 (lv_at hl 1 rfl) ?_
                              refine r_iadd (v := iI (44 + z35)) M (iI_add _ _) dX12_way_89 ?_
                              refine r_iald (v := iI (f0 (44 + z35))) M w 3 rfl (iI_in (by omega) (by omega) (by decide)) (cI_at (by omega) (by omega)) dX12_way_90 ?_
                              have hh40 : (-2147483648) ≤ (f0 (44 + z35)) ∧ (f0 (44 + z35)) ≤ 2147483647 := f0_h.1 (44 + z35)
                              refine lv_iload hx hb dX12_way_91 (lv_at hl 0 rfl) ?_
                              refine k_I (ce := 0) (sl := 0) (rest := []) (wr := [(a17, .inl (T 0, 9, .inl (cI ff37))), (a18, .inl (T 0, 9, .inl f2)), (a0, .inr (11, [.int (iI 0), .ref a1, .int (iI x2), .int (iI x3), .int (iI x4), .int (iI x5), .int (iI x6), .int (iI x7), .int r1, .int (iI x8), .int (iI x9), .int (iI x10), .long y0, .int (iI x11), .ref a2, .ref a3, .ref a4, .ref a5, .ref a6, .ref a7, .ref a8, .ref a9, .ref a10, .ref a11, .int (iI x12), .ref a12, .ref a13, .ref a14, .ref a15, .int (iI x13), .int r2, .int r3, .ref a16, .int (iI x14), .int (iI x15), .ref a17, .ref a18, .int (iI x16), .ref a19, .int (iI x17), .int r4, .ref a20, .ref a21, .int (iI x18), .int r5, .ref a22, .int (iI x19), .int (iI x20), .int (iI x21), .int (iI x22)])), (a2, .inl (T 0, 329, .inl (cI f0)))]) (r_S (f := 0) [] M w V_HookedCityModel_206 G1708 (c125_X12_has l D T _ (iI (f0 (44 + z35))) z38 (by omega) (by omega)) rfl (by decide) rfl hl.1 rfl (Nat.le_of_ble_eq_true rfl) dX12_way_93 (by decide) (by decide) (by decide) (by decide)) w [] [0, 1, 2, 3] rfl rfl (by decide) (by decide) rfl rfl (fun v z41 H locs hp w => ?_)
                              have hv : iI z41 = v := hp.1
                              subst hv
                              have z41_a : 0 ≤ z41 := hp.2.1
                              have z41_b : z41 ≤ 1 := hp.2.2.1
                              have pq42 : z41 = 1 → hbt (iI (f0 (44 + z35))) z38 := hp.2.2.2.1
                              have pq43 : z41 = 0 → ¬ hbt (iI (f0 (44 + z35))) z38 := hp.2.2.2.2
                              have w : WD D A s.heap [(a17, .inl (T 0, 9, .inl (cI ff37))), (a18, .inl (T 0, 9, .inl f2)), (a0, .inr (11, [.int (iI 0), .ref a1, .int (iI x2), .int (iI x3), .int (iI x4), .int (iI x5), .int (iI x6), .int (iI x7), .int r1, .int (iI x8), .int (iI x9), .int (iI x10), .long y0, .int (iI x11), .ref a2, .ref a3, .ref a4, .ref a5, .ref a6, .ref a7, .ref a8, .ref a9, .ref a10, .ref a11, .int (iI x12), .ref a12, .ref a13, .ref a14, .ref a15, .int (iI x13), .int r2, .int r3, .ref a16, .int (iI x14), .int (iI x15), .ref a17, .ref a18, .int (iI x16), .ref a19, .int (iI x17), .int r4, .ref a20, .ref a21, .int (iI x18), .int r5, .ref a22, .int (iI x19), .int (iI x20), .int (iI x21), .int (iI x22)])), (a2, .inl (T 0, 329, .inl (cI f0)))] H locs := w
                              refine lv_if_eq (tgt := 125) hx hb dX12_way_96 (by decide) (fun c_44 => ?_) (fun c_44 => ?_)
                              · replace c_44 := (iz_eq (Int.le_trans (by decide) z41_a) (Int.le_trans z41_b (by decide))).mp c_44
                                refine lv_iinc (v := iI (z38 + 1)) (lv' := [(5, .int (iI (z38 + 1))), (4, .int (iI z35)), (3, .int (iI z14)), (0, .ref a0), (1, .int (iI x0)), (2, .int (iI x1))]) hx hb dX12_way_125 hl (k := 0) rfl (ii_inc (by decide +kernel)) (by decide) rfl (fun ls hl => ?_)
                                refine lv_goto (tgt := 74) hx hb dX12_way_128 (by decide) ?_
                                exact ih4 ff37 (z38 + 1) _ _ _ ff37_h (by omega) (by omega) (wL_no lq4_w (pq43 (by omega))) (by omega) w (lv_sub hl [0, 1, 2, 3, 4, 5] rfl)
                              · replace c_44 : ¬ z41 = 0 := fun h => c_44 ((iz_eq (Int.le_trans (by decide) z41_a) (Int.le_trans z41_b (by decide))).mpr h)
                                refine lv_aload_n hx hb dX12_way_99 rfl (lv_at hl 3 rfl) ?_
                                refine r_get (v := .ref a17) M w 2 35 clX12 rfl (by decide) G1498 rfl rfl dX12_way_100 ?_
                                refine lv_iload hx hb dX12_way_103 (lv_at hl 1 rfl) ?_
                                refine lv_aload_n hx hb dX12_way_105 rfl (lv_at hl 3 rfl) ?_
                                refine r_get (v := .ref a17) M w 2 35 clX12 rfl (by decide) G1498 rfl rfl dX12_way_106 ?_
                                refine lv_iload hx hb dX12_way_109 (lv_at hl 1 rfl) ?_
                                refine r_iald (v := iI (ff37 z35)) M w 0 rfl (iI_in (by omega) (by omega) (by decide)) (cI_at (by omega) (by omega)) dX12_way_111 ?_
                                have hh45 : 0 ≤ (ff37 z35) ∧ (ff37 z35) ≤ 100000 := ff37_h z35
                                refine lv_aload_n hx hb dX12_way_112 rfl (lv_at hl 3 rfl) ?_
                                refine r_get (v := .ref a17) M w 2 35 clX12 rfl (by decide) G1498 rfl rfl dX12_way_113 ?_
                                refine lv_iload hx hb dX12_way_116 (lv_at hl 0 rfl) ?_
                                refine r_iald (v := iI (ff37 z38)) M w 0 rfl (iI_in (by omega) (by omega) (by decide)) (cI_at (by omega) (by omega)) dX12_way_118 ?_
                                have hh46 : 0 ≤ (ff37 z38) ∧ (ff37 z38) ≤ 100000 := ff37_h z38
                                refine lv_iconst (v := iI 1) hx hb dX12_way_119 (by decide +kernel) ?_
                                refine r_iadd (v := iI ((ff37 z38) + 1)) M (iI_add _ _) dX12_way_120 ?_
                                refine k_I (ce := 0) (sl := 0) (rest := [.int (iI z35), .ref a17]) (wr := [(a17, .inl (T 0, 9, .inl (cI ff37))), (a18, .inl (T 0, 9, .inl f2)), (a0, .inr (11, [.int (iI 0), .ref a1, .int (iI x2), .int (iI x3), .int (iI x4), .int (iI x5), .int (iI x6), .int (iI x7), .int r1, .int (iI x8), .int (iI x9), .int (iI x10), .long y0, .int (iI x11), .ref a2, .ref a3, .ref a4, .ref a5, .ref a6, .ref a7, .ref a8, .ref a9, .ref a10, .ref a11, .int (iI x12), .ref a12, .ref a13, .ref a14, .ref a15, .int (iI x13), .int r2, .int r3, .ref a16, .int (iI x14), .int (iI x15), .ref a17, .ref a18, .int (iI x16), .ref a19, .int (iI x17), .int r4, .ref a20, .ref a21, .int (iI x18), .int r5, .ref a22, .int (iI x19), .int (iI x20), .int (iI x21), .int (iI x22)])), (a2, .inl (T 0, 329, .inl (cI f0)))]) (r_S (f := 0) [] M w V_HookedCityModel_298 G1835 (c8_X12_least l D T _ (ff37 z35) ((ff37 z38) + 1) (by omega) (by omega) (by omega) (by omega)) rfl (by decide) rfl hl.1 rfl (Nat.le_of_ble_eq_true rfl) dX12_way_121 (by decide) (by decide) (by decide) (by decide)) w [] [0, 1, 2, 3] rfl rfl (by decide) (by decide) rfl rfl (fun v z47 H locs hp w => ?_)
                                have hv : iI z47 = v := hp.1
                                subst hv
                                have z47_a : (-2147483648) ≤ z47 := hp.2.1
                                have z47_b : z47 ≤ 2147483647 := hp.2.2.1
                                have w : WD D A s.heap [(a17, .inl (T 0, 9, .inl (cI ff37))), (a18, .inl (T 0, 9, .inl f2)), (a0, .inr (11, [.int (iI 0), .ref a1, .int (iI x2), .int (iI x3), .int (iI x4), .int (iI x5), .int (iI x6), .int (iI x7), .int r1, .int (iI x8), .int (iI x9), .int (iI x10), .long y0, .int (iI x11), .ref a2, .ref a3, .ref a4, .ref a5, .ref a6, .ref a7, .ref a8, .ref a9, .ref a10, .ref a11, .int (iI x12), .ref a12, .ref a13, .ref a14, .ref a15, .int (iI x13), .int r2, .int r3, .ref a16, .int (iI x14), .int (iI x15), .ref a17, .ref a18, .int (iI x16), .ref a19, .int (iI x17), .int r4, .ref a20, .ref a21, .int (iI x18), .int r5, .ref a22, .int (iI x19), .int (iI x20), .int (iI x21), .int (iI x22)])), (a2, .inl (T 0, 329, .inl (cI f0)))] H locs := w
                                rcases hp.2.2.2 with ⟨c_48, hr⟩ | ⟨c_49, hr⟩
                                · subst hr
                                  refine r_iast (ws' := [(a17, .inl (T 0, 9, .inl (cI (upz ff37 z35 ((ff37 z38) + 1))))), (a18, .inl (T 0, 9, .inl f2)), (a0, .inr (11, [.int (iI 0), .ref a1, .int (iI x2), .int (iI x3), .int (iI x4), .int (iI x5), .int (iI x6), .int (iI x7), .int r1, .int (iI x8), .int (iI x9), .int (iI x10), .long y0, .int (iI x11), .ref a2, .ref a3, .ref a4, .ref a5, .ref a6, .ref a7, .ref a8, .ref a9, .ref a10, .ref a11, .int (iI x12), .ref a12, .ref a13, .ref a14, .ref a15, .int (iI x13), .int r2, .int r3, .ref a16, .int (iI x14), .int (iI x15), .ref a17, .ref a18, .int (iI x16), .ref a19, .int (iI x17), .int r4, .ref a20, .ref a21, .int (iI x18), .int r5, .ref a22, .int (iI x19), .int (iI x20), .int (iI x21), .int (iI x22)])), (a2, .inl (T 0, 329, .inl (cI f0)))]) M w 0 rfl (iI_in (by omega) (by omega) (by decide)) (by rw [cI_up (by omega) (by omega)]; rfl) dX12_way_124 (fun H locs w => ?_)
                                  refine lv_iinc (v := iI (z38 + 1)) (lv' := [(5, .int (iI (z38 + 1))), (4, .int (iI z35)), (3, .int (iI z14)), (0, .ref a0), (1, .int (iI x0)), (2, .int (iI x1))]) hx hb dX12_way_125 hl (k := 0) rfl (ii_inc (by decide +kernel)) (by decide) rfl (fun ls hl => ?_)
                                  refine lv_goto (tgt := 74) hx hb dX12_way_128 (by decide) ?_
                                  exact ih4 (upz ff37 z35 ((ff37 z38) + 1)) (z38 + 1) _ _ _ (rng_up ff37_h (by omega) (by omega)) (by omega) (by omega) (wL_up lq4_w (by omega) (by omega) (by omega) (by omega) (pq42 (by omega)) (by omega)) (by omega) w (lv_sub hl [0, 1, 2, 3, 4, 5] rfl)
                                · subst hr
                                  refine r_iast (ws' := [(a17, .inl (T 0, 9, .inl (cI (upz ff37 z35 (ff37 z35))))), (a18, .inl (T 0, 9, .inl f2)), (a0, .inr (11, [.int (iI 0), .ref a1, .int (iI x2), .int (iI x3), .int (iI x4), .int (iI x5), .int (iI x6), .int (iI x7), .int r1, .int (iI x8), .int (iI x9), .int (iI x10), .long y0, .int (iI x11), .ref a2, .ref a3, .ref a4, .ref a5, .ref a6, .ref a7, .ref a8, .ref a9, .ref a10, .ref a11, .int (iI x12), .ref a12, .ref a13, .ref a14, .ref a15, .int (iI x13), .int r2, .int r3, .ref a16, .int (iI x14), .int (iI x15), .ref a17, .ref a18, .int (iI x16), .ref a19, .int (iI x17), .int r4, .ref a20, .ref a21, .int (iI x18), .int r5, .ref a22, .int (iI x19), .int (iI x20), .int (iI x21), .int (iI x22)])), (a2, .inl (T 0, 329, .inl (cI f0)))]) M w 0 rfl (iI_in (by omega) (by omega) (by decide)) (by rw [cI_up (by omega) (by omega)]; rfl) dX12_way_124 (fun H locs w => ?_)
                                  refine lv_iinc (v := iI (z38 + 1)) (lv' := [(5, .int (iI (z38 + 1))), (4, .int (iI z35)), (3, .int (iI z14)), (0, .ref a0), (1, .int (iI x0)), (2, .int (iI x1))]) hx hb dX12_way_125 hl (k := 0) rfl (ii_inc (by decide +kernel)) (by decide) rfl (fun ls hl => ?_)
                                  refine lv_goto (tgt := 74) hx hb dX12_way_128 (by decide) ?_
                                  exact ih4 (upz ff37 z35 (ff37 z35)) (z38 + 1) _ _ _ (rng_up ff37_h (by omega) (by omega)) (by omega) (by omega) (wL_up lq4_w (by omega) (by omega) (by omega) (by omega) (pq42 (by omega)) (by omega)) (by omega) w (lv_sub hl [0, 1, 2, 3, 4, 5] rfl)
                        exact loop4 ((9 : Int).toNat + 1) ff34 0 _ _ _ ff34_h (by decide) (by decide) lq3_w (Nat.lt_succ_self _) w (lv_sub hl [0, 1, 2, 3, 4, 5] rfl)
                  exact loop3 ((9 : Int).toNat + 1) ff13 0 _ _ _ ff13_h (by decide) (by decide) lq2_w (Nat.lt_succ_self _) w (lv_sub hl [0, 1, 2, 3, 4] rfl)
            exact loop2 ((9 : Int).toNat + 1) (upz (rgz 0 9 100000 f1) x1 0) 0 _ _ _ (rng_up (rng_rg f1_h (by decide) (by decide)) (by omega) (by omega)) (by decide) (by decide) wL_0 (Nat.lt_succ_self _) w (lv_sub hl [0, 1, 2, 3] rfl)
          · replace c_12 : z11 < 9 := Int.not_le.mp (fun h => c_12 ((iI_le (by decide) (by decide) (Int.le_trans (by decide) z11_a) (Int.le_trans z11_b (by decide))).mpr h))
            refine lv_aload_n hx hb dX12_way_31 rfl (lv_at hl 1 rfl) ?_
            refine r_get (v := .ref a17) M w 2 35 clX12 rfl (by decide) G1498 rfl rfl dX12_way_32 ?_
            refine lv_iload_n hx hb dX12_way_35 rfl (lv_at hl 0 rfl) ?_
            refine lv_ldcw (v := _) hx hb M.1.2.2.2.1 (M.1.2.2.2.2 _ G1913) dX12_way_36 ?_
            refine b_lit (z := 100000) (by decide +kernel) ?_
            refine r_iast (ws' := [(a17, .inl (T 0, 9, .inl (cI (upz (rgz 0 z11 100000 f1) z11 100000)))), (a18, .inl (T 0, 9, .inl f2)), (a0, .inr (11, [.int (iI 0), .ref a1, .int (iI x2), .int (iI x3), .int (iI x4), .int (iI x5), .int (iI x6), .int (iI x7), .int r1, .int (iI x8), .int (iI x9), .int (iI x10), .long y0, .int (iI x11), .ref a2, .ref a3, .ref a4, .ref a5, .ref a6, .ref a7, .ref a8, .ref a9, .ref a10, .ref a11, .int (iI x12), .ref a12, .ref a13, .ref a14, .ref a15, .int (iI x13), .int r2, .int r3, .ref a16, .int (iI x14), .int (iI x15), .ref a17, .ref a18, .int (iI x16), .ref a19, .int (iI x17), .int r4, .ref a20, .ref a21, .int (iI x18), .int r5, .ref a22, .int (iI x19), .int (iI x20), .int (iI x21), .int (iI x22)])), (a2, .inl (T 0, 329, .inl (cI f0)))]) M w 0 rfl (iI_in (by omega) (by omega) (by decide)) (by rw [cI_up (by omega) (by omega)]; rfl) dX12_way_39 (fun H locs w => ?_)
            refine lv_iinc (v := iI (z11 + 1)) (lv' := [(3, .int (iI (z11 + 1))), (0, .ref a0), (1, .int (iI x0)), (2, .int (iI x1))]) hx hb dX12_way_40 hl (k := 0) rfl (ii_inc (by decide +kernel)) (by decide) rfl (fun ls hl => ?_)
            refine lv_goto (tgt := 25) hx hb dX12_way_43 (by decide) ?_
            have w := WD.eq (ws' := [(a17, .inl (T 0, 9, .inl (cI (rgz 0 (z11 + 1) 100000 f1)))), (a18, .inl (T 0, 9, .inl f2)), (a0, .inr (11, [.int (iI 0), .ref a1, .int (iI x2), .int (iI x3), .int (iI x4), .int (iI x5), .int (iI x6), .int (iI x7), .int r1, .int (iI x8), .int (iI x9), .int (iI x10), .long y0, .int (iI x11), .ref a2, .ref a3, .ref a4, .ref a5, .ref a6, .ref a7, .ref a8, .ref a9, .ref a10, .ref a11, .int (iI x12), .ref a12, .ref a13, .ref a14, .ref a15, .int (iI x13), .int r2, .int r3, .ref a16, .int (iI x14), .int (iI x15), .ref a17, .ref a18, .int (iI x16), .ref a19, .int (iI x17), .int r4, .ref a20, .ref a21, .int (iI x18), .int r5, .ref a22, .int (iI x19), .int (iI x20), .int (iI x21), .int (iI x22)])), (a2, .inl (T 0, 329, .inl (cI f0)))]) (by rw [← rgz_t (lo := 0) (k := z11) (k' := (z11 + 1)) (x := 100000) (c := f1) (by omega) (by omega)]) w
            exact ih1 (z11 + 1) _ _ _ (by omega) (by omega) (by omega) w (lv_sub hl [0, 1, 2, 3] rfl)
      exact loop1 ((9 : Int).toNat + 1) 0 _ _ _ (by decide) (by decide) (Nat.lt_succ_self _) w (lv_sub hl [0, 1, 2, 3] rfl)
    · replace c_10 := (iz_eq (Int.le_trans (by decide) z6_a) (Int.le_trans z6_b (by decide))).mp c_10
      refine lv_iconst (v := iI (-1)) hx hb dX12_way_21 (by decide +kernel) ?_
      exact ret _ ((-1), (iI 0), x16, f1, f2) _ _ _ _ _ [2, 3, 0, 1] dX12_way_22 ⟨rfl, (show (-2147483648) ≤ (-1) from by decide), (show ((-1) : Int) ≤ 2147483647 from by decide), x16_a, x16_b, f1_h⟩ w (by decide) rfl
