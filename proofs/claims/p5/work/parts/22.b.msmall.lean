theorem dX12_inBy_0 : decode cX12_inBy 0 = .ok (.iload_n 1, 1) := by decide +kernel
theorem dX12_inBy_1 : decode cX12_inBy 1 = .ok (.iload_n 2, 1) := by decide +kernel
theorem dX12_inBy_2 : decode cX12_inBy 2 = .ok (.if_icmp .ge 9, 3) := by decide +kernel
theorem dX12_inBy_11 : decode cX12_inBy 11 = .ok (.iload_n 1, 1) := by decide +kernel
theorem dX12_inBy_12 : decode cX12_inBy 12 = .ok (.iconst 2, 1) := by decide +kernel
theorem dX12_inBy_13 : decode cX12_inBy 13 = .ok (.iadd, 1) := by decide +kernel
theorem dX12_inBy_14 : decode cX12_inBy 14 = .ok (.istore_n 3, 1) := by decide +kernel
theorem dX12_inBy_15 : decode cX12_inBy 15 = .ok (.iload_n 3, 1) := by decide +kernel
theorem dX12_inBy_16 : decode cX12_inBy 16 = .ok (.aload_n 0, 1) := by decide +kernel
theorem dX12_inBy_17 : decode cX12_inBy 17 = .ok (.getfield 98, 3) := by decide +kernel
theorem dX12_inBy_20 : decode cX12_inBy 20 = .ok (.iconst 0, 1) := by decide +kernel
theorem dX12_inBy_21 : decode cX12_inBy 21 = .ok (.iaload, 1) := by decide +kernel
theorem dX12_inBy_22 : decode cX12_inBy 22 = .ok (.if_icmp .ge 7, 3) := by decide +kernel
theorem dX12_inBy_29 : decode cX12_inBy 29 = .ok (.sipush 255, 3) := by decide +kernel
theorem dX12_inBy_32 : decode cX12_inBy 32 = .ok (.ireturn, 1) := by decide +kernel
theorem dX12_inBy_25 : decode cX12_inBy 25 = .ok (.iload_n 3, 1) := by decide +kernel
theorem dX12_inBy_26 : decode cX12_inBy 26 = .ok (.goto 6, 3) := by decide +kernel
theorem dX12_inBy_5 : decode cX12_inBy 5 = .ok (.iload_n 1, 1) := by decide +kernel
theorem dX12_inBy_6 : decode cX12_inBy 6 = .ok (.iconst 1, 1) := by decide +kernel
theorem dX12_inBy_7 : decode cX12_inBy 7 = .ok (.iadd, 1) := by decide +kernel
theorem dX12_inBy_8 : decode cX12_inBy 8 = .ok (.goto 6, 3) := by decide +kernel
theorem dX12_leftBy_0 : decode cX12_leftBy 0 = .ok (.iconst 0, 1) := by decide +kernel
theorem dX12_leftBy_1 : decode cX12_leftBy 1 = .ok (.istore_n 3, 1) := by decide +kernel
theorem dX12_leftBy_2 : decode cX12_leftBy 2 = .ok (.iconst 0, 1) := by decide +kernel
theorem dX12_leftBy_3 : decode cX12_leftBy 3 = .ok (.istore 4, 2) := by decide +kernel
theorem dX12_leftBy_5 : decode cX12_leftBy 5 = .ok (.iload 4, 2) := by decide +kernel
theorem dX12_leftBy_7 : decode cX12_leftBy 7 = .ok (.iload_n 2, 1) := by decide +kernel
theorem dX12_leftBy_8 : decode cX12_leftBy 8 = .ok (.if_icmp .ge 66, 3) := by decide +kernel
theorem dX12_leftBy_74 : decode cX12_leftBy 74 = .ok (.iload_n 3, 1) := by decide +kernel
theorem dX12_leftBy_75 : decode cX12_leftBy 75 = .ok (.ireturn, 1) := by decide +kernel
theorem dX12_leftBy_11 : decode cX12_leftBy 11 = .ok (.iconst 0, 1) := by decide +kernel
theorem dX12_leftBy_12 : decode cX12_leftBy 12 = .ok (.istore 5, 2) := by decide +kernel
theorem dX12_leftBy_14 : decode cX12_leftBy 14 = .ok (.iconst 0, 1) := by decide +kernel
theorem dX12_leftBy_15 : decode cX12_leftBy 15 = .ok (.istore 6, 2) := by decide +kernel
theorem dX12_leftBy_17 : decode cX12_leftBy 17 = .ok (.iload 6, 2) := by decide +kernel
theorem dX12_leftBy_19 : decode cX12_leftBy 19 = .ok (.iload_n 2, 1) := by decide +kernel
theorem dX12_leftBy_20 : decode cX12_leftBy 20 = .ok (.if_icmp .ge 39, 3) := by decide +kernel
theorem dX12_leftBy_59 : decode cX12_leftBy 59 = .ok (.iload 5, 2) := by decide +kernel
theorem dX12_leftBy_61 : decode cX12_leftBy 61 = .ok (.iload_n 3, 1) := by decide +kernel
theorem dX12_leftBy_62 : decode cX12_leftBy 62 = .ok (.if_icmp .le 6, 3) := by decide +kernel
theorem dX12_leftBy_68 : decode cX12_leftBy 68 = .ok (.iinc 4 1, 3) := by decide +kernel
theorem dX12_leftBy_71 : decode cX12_leftBy 71 = .ok (.goto (-66), 3) := by decide +kernel
theorem dX12_leftBy_65 : decode cX12_leftBy 65 = .ok (.iload 5, 2) := by decide +kernel
theorem dX12_leftBy_67 : decode cX12_leftBy 67 = .ok (.istore_n 3, 1) := by decide +kernel
theorem dX12_leftBy_23 : decode cX12_leftBy 23 = .ok (.aload_n 0, 1) := by decide +kernel
theorem dX12_leftBy_24 : decode cX12_leftBy 24 = .ok (.iload_n 1, 1) := by decide +kernel
theorem dX12_leftBy_25 : decode cX12_leftBy 25 = .ok (.aload_n 0, 1) := by decide +kernel
theorem dX12_leftBy_26 : decode cX12_leftBy 26 = .ok (.getfield 142, 3) := by decide +kernel
theorem G1495 : Cond.fieldLink "HookedCityModel" 142 "HookedCityModel" "slip" "[I" ∈ GW := gw_i 1495 (by decide +kernel) rfl
theorem dX12_leftBy_29 : decode cX12_leftBy 29 = .ok (.iload 6, 2) := by decide +kernel
theorem dX12_leftBy_31 : decode cX12_leftBy 31 = .ok (.iaload, 1) := by decide +kernel
theorem dX12_leftBy_32 : decode cX12_leftBy 32 = .ok (.invokevirtual 328, 3) := by decide +kernel
theorem G1896 : Cond.code ⟨"HookedCityModel", "inBy", "(II)I"⟩ prog_14_method_81_code 4 (some .int) ∈ GW := gw_i 1896 (by decide +kernel) rfl
theorem G1893 : Cond.methodLink "HookedCityModel" 328 ⟨"HookedCityModel", "inBy", "(II)I"⟩ ∈ GW := gw_i 1893 (by decide +kernel) rfl
theorem V_HookedCityModel_328 : VL "HookedCityModel" 328 yX12_inBy cX12_inBy 4 (some .int) 2 := ⟨G1896, G1893, G131, by decide +kernel, by decide +kernel, by decide +kernel⟩
theorem G1895 : Cond.instanceMethod ⟨"HookedCityModel", "inBy", "(II)I"⟩ ∈ GW := gw_i 1895 (by decide +kernel) rfl
theorem G93 : Cond.selects "HookedCityModel" ⟨"HookedCityModel", "inBy", "(II)I"⟩ ⟨"HookedCityModel", "inBy", "(II)I"⟩ ∈ GW := gw_i 93 (by decide +kernel) rfl
theorem dX12_leftBy_35 : decode cX12_leftBy 35 = .ok (.aload_n 0, 1) := by decide +kernel
theorem dX12_leftBy_36 : decode cX12_leftBy 36 = .ok (.iload_n 1, 1) := by decide +kernel
theorem dX12_leftBy_37 : decode cX12_leftBy 37 = .ok (.aload_n 0, 1) := by decide +kernel
theorem dX12_leftBy_38 : decode cX12_leftBy 38 = .ok (.getfield 142, 3) := by decide +kernel
theorem dX12_leftBy_41 : decode cX12_leftBy 41 = .ok (.iload 4, 2) := by decide +kernel
theorem dX12_leftBy_43 : decode cX12_leftBy 43 = .ok (.iaload, 1) := by decide +kernel
theorem dX12_leftBy_44 : decode cX12_leftBy 44 = .ok (.invokevirtual 328, 3) := by decide +kernel
theorem dX12_leftBy_47 : decode cX12_leftBy 47 = .ok (.if_icmp .ne 6, 3) := by decide +kernel
theorem dX12_leftBy_53 : decode cX12_leftBy 53 = .ok (.iinc 6 1, 3) := by decide +kernel
theorem dX12_leftBy_56 : decode cX12_leftBy 56 = .ok (.goto (-39), 3) := by decide +kernel
theorem dX12_leftBy_50 : decode cX12_leftBy 50 = .ok (.iinc 5 1, 3) := by decide +kernel
theorem dX12_slips_0 : decode cX12_slips 0 = .ok (.aload_n 0, 1) := by decide +kernel
theorem dX12_slips_1 : decode cX12_slips 1 = .ok (.iconst 0, 1) := by decide +kernel
theorem dX12_slips_2 : decode cX12_slips 2 = .ok (.putfield 1, 3) := by decide +kernel
theorem dX12_slips_5 : decode cX12_slips 5 = .ok (.aload_n 0, 1) := by decide +kernel
theorem dX12_slips_6 : decode cX12_slips 6 = .ok (.invokevirtual 89, 3) := by decide +kernel
theorem dX12_slips_9 : decode cX12_slips 9 = .ok (.istore_n 1, 1) := by decide +kernel
theorem dX12_slips_10 : decode cX12_slips 10 = .ok (.iload_n 1, 1) := by decide +kernel
theorem dX12_slips_11 : decode cX12_slips 11 = .ok (.iconst 2, 1) := by decide +kernel
theorem dX12_slips_12 : decode cX12_slips 12 = .ok (.irem, 1) := by decide +kernel
theorem dX12_slips_13 : decode cX12_slips 13 = .ok (.ifCond .ne 15, 3) := by decide +kernel
theorem dX12_slips_28 : decode cX12_slips 28 = .ok (.iconst (-1), 1) := by decide +kernel
theorem dX12_slips_29 : decode cX12_slips 29 = .ok (.ireturn, 1) := by decide +kernel
theorem dX12_slips_16 : decode cX12_slips 16 = .ok (.iload_n 1, 1) := by decide +kernel
theorem dX12_slips_17 : decode cX12_slips 17 = .ok (.iconst 2, 1) := by decide +kernel
theorem dX12_slips_18 : decode cX12_slips 18 = .ok (.idiv, 1) := by decide +kernel
theorem dX12_slips_19 : decode cX12_slips 19 = .ok (.iconst 1, 1) := by decide +kernel
theorem dX12_slips_20 : decode cX12_slips 20 = .ok (.bipush 8, 2) := by decide +kernel
theorem dX12_slips_22 : decode cX12_slips 22 = .ok (.invokestatic 75, 3) := by decide +kernel
theorem dX12_slips_25 : decode cX12_slips 25 = .ok (.ifCond .ne 5, 3) := by decide +kernel
theorem dX12_slips_30 : decode cX12_slips 30 = .ok (.iconst 0, 1) := by decide +kernel
theorem dX12_slips_31 : decode cX12_slips 31 = .ok (.istore_n 2, 1) := by decide +kernel
theorem dX12_slips_32 : decode cX12_slips 32 = .ok (.iload_n 2, 1) := by decide +kernel
theorem dX12_slips_33 : decode cX12_slips 33 = .ok (.iload_n 1, 1) := by decide +kernel
theorem dX12_slips_34 : decode cX12_slips 34 = .ok (.if_icmp .ge 53, 3) := by decide +kernel
theorem dX12_slips_87 : decode cX12_slips 87 = .ok (.iconst 0, 1) := by decide +kernel
theorem dX12_slips_88 : decode cX12_slips 88 = .ok (.istore_n 2, 1) := by decide +kernel
theorem dX12_slips_89 : decode cX12_slips 89 = .ok (.iconst 0, 1) := by decide +kernel
theorem dX12_slips_90 : decode cX12_slips 90 = .ok (.istore_n 3, 1) := by decide +kernel
theorem dX12_slips_91 : decode cX12_slips 91 = .ok (.iload_n 3, 1) := by decide +kernel
theorem dX12_slips_92 : decode cX12_slips 92 = .ok (.aload_n 0, 1) := by decide +kernel
theorem dX12_slips_93 : decode cX12_slips 93 = .ok (.getfield 98, 3) := by decide +kernel
theorem dX12_slips_96 : decode cX12_slips 96 = .ok (.iconst 0, 1) := by decide +kernel
theorem dX12_slips_97 : decode cX12_slips 97 = .ok (.iaload, 1) := by decide +kernel
theorem dX12_slips_98 : decode cX12_slips 98 = .ok (.if_icmp .gt 81, 3) := by decide +kernel
theorem dX12_slips_179 : decode cX12_slips 179 = .ok (.iload_n 2, 1) := by decide +kernel
theorem dX12_slips_180 : decode cX12_slips 180 = .ok (.ifCond .ne 5, 3) := by decide +kernel
theorem dX12_slips_185 : decode cX12_slips 185 = .ok (.aload_n 0, 1) := by decide +kernel
theorem dX12_slips_186 : decode cX12_slips 186 = .ok (.aload_n 0, 1) := by decide +kernel
theorem dX12_slips_187 : decode cX12_slips 187 = .ok (.getfield 142, 3) := by decide +kernel
theorem dX12_slips_190 : decode cX12_slips 190 = .ok (.iconst 0, 1) := by decide +kernel
theorem dX12_slips_191 : decode cX12_slips 191 = .ok (.iaload, 1) := by decide +kernel
theorem dX12_slips_192 : decode cX12_slips 192 = .ok (.putfield 145, 3) := by decide +kernel
theorem G1496 : Cond.fieldLink "HookedCityModel" 145 "HookedCityModel" "slipLeast" "I" ∈ GW := gw_i 1496 (by decide +kernel) rfl
theorem dX12_slips_195 : decode cX12_slips 195 = .ok (.aload_n 0, 1) := by decide +kernel
theorem dX12_slips_196 : decode cX12_slips 196 = .ok (.iconst 0, 1) := by decide +kernel
theorem dX12_slips_197 : decode cX12_slips 197 = .ok (.putfield 148, 3) := by decide +kernel
theorem G1497 : Cond.fieldLink "HookedCityModel" 148 "HookedCityModel" "turning" "I" ∈ GW := gw_i 1497 (by decide +kernel) rfl
theorem dX12_slips_200 : decode cX12_slips 200 = .ok (.iconst 1, 1) := by decide +kernel
theorem dX12_slips_201 : decode cX12_slips 201 = .ok (.istore_n 3, 1) := by decide +kernel
theorem dX12_slips_202 : decode cX12_slips 202 = .ok (.iload_n 3, 1) := by decide +kernel
theorem dX12_slips_203 : decode cX12_slips 203 = .ok (.aload_n 0, 1) := by decide +kernel
theorem dX12_slips_204 : decode cX12_slips 204 = .ok (.getfield 98, 3) := by decide +kernel
theorem dX12_slips_207 : decode cX12_slips 207 = .ok (.iconst 0, 1) := by decide +kernel
theorem dX12_slips_208 : decode cX12_slips 208 = .ok (.iaload, 1) := by decide +kernel
theorem dX12_slips_209 : decode cX12_slips 209 = .ok (.if_icmp .ge 32, 3) := by decide +kernel
theorem dX12_slips_241 : decode cX12_slips 241 = .ok (.iload_n 2, 1) := by decide +kernel
theorem dX12_slips_242 : decode cX12_slips 242 = .ok (.ireturn, 1) := by decide +kernel
theorem dX12_slips_212 : decode cX12_slips 212 = .ok (.aload_n 0, 1) := by decide +kernel
theorem dX12_slips_213 : decode cX12_slips 213 = .ok (.iload_n 3, 1) := by decide +kernel
theorem dX12_slips_214 : decode cX12_slips 214 = .ok (.iload_n 2, 1) := by decide +kernel
theorem dX12_slips_215 : decode cX12_slips 215 = .ok (.invokevirtual 331, 3) := by decide +kernel
theorem G1900 : Cond.code ⟨"HookedCityModel", "leftBy", "(II)I"⟩ prog_14_method_82_code 7 (some .int) ∈ GW := gw_i 1900 (by decide +kernel) rfl
theorem G1897 : Cond.methodLink "HookedCityModel" 331 ⟨"HookedCityModel", "leftBy", "(II)I"⟩ ∈ GW := gw_i 1897 (by decide +kernel) rfl
theorem V_HookedCityModel_331 : VL "HookedCityModel" 331 yX12_leftBy cX12_leftBy 7 (some .int) 2 := ⟨G1900, G1897, G131, by decide +kernel, by decide +kernel, by decide +kernel⟩
theorem G1899 : Cond.instanceMethod ⟨"HookedCityModel", "leftBy", "(II)I"⟩ ∈ GW := gw_i 1899 (by decide +kernel) rfl
theorem G94 : Cond.selects "HookedCityModel" ⟨"HookedCityModel", "leftBy", "(II)I"⟩ ⟨"HookedCityModel", "leftBy", "(II)I"⟩ ∈ GW := gw_i 94 (by decide +kernel) rfl
theorem dX12_slips_218 : decode cX12_slips 218 = .ok (.aload_n 0, 1) := by decide +kernel
theorem dX12_slips_219 : decode cX12_slips 219 = .ok (.aload_n 0, 1) := by decide +kernel
theorem dX12_slips_220 : decode cX12_slips 220 = .ok (.getfield 148, 3) := by decide +kernel
theorem dX12_slips_223 : decode cX12_slips 223 = .ok (.iload_n 2, 1) := by decide +kernel
theorem dX12_slips_224 : decode cX12_slips 224 = .ok (.invokevirtual 331, 3) := by decide +kernel
theorem dX12_slips_227 : decode cX12_slips 227 = .ok (.if_icmp .ge 8, 3) := by decide +kernel
theorem dX12_slips_235 : decode cX12_slips 235 = .ok (.iinc 3 1, 3) := by decide +kernel
theorem dX12_slips_238 : decode cX12_slips 238 = .ok (.goto (-36), 3) := by decide +kernel
theorem dX12_slips_230 : decode cX12_slips 230 = .ok (.aload_n 0, 1) := by decide +kernel
theorem dX12_slips_231 : decode cX12_slips 231 = .ok (.iload_n 3, 1) := by decide +kernel
theorem dX12_slips_232 : decode cX12_slips 232 = .ok (.putfield 148, 3) := by decide +kernel
theorem dX12_slips_183 : decode cX12_slips 183 = .ok (.iconst 0, 1) := by decide +kernel
theorem dX12_slips_184 : decode cX12_slips 184 = .ok (.ireturn, 1) := by decide +kernel
theorem dX12_slips_101 : decode cX12_slips 101 = .ok (.iconst 1, 1) := by decide +kernel
theorem dX12_slips_102 : decode cX12_slips 102 = .ok (.istore 4, 2) := by decide +kernel
theorem dX12_slips_104 : decode cX12_slips 104 = .ok (.iconst 0, 1) := by decide +kernel
theorem dX12_slips_105 : decode cX12_slips 105 = .ok (.istore 5, 2) := by decide +kernel
theorem dX12_slips_107 : decode cX12_slips 107 = .ok (.iload 5, 2) := by decide +kernel
theorem dX12_slips_109 : decode cX12_slips 109 = .ok (.iload_n 1, 1) := by decide +kernel
theorem dX12_slips_110 : decode cX12_slips 110 = .ok (.if_icmp .ge 45, 3) := by decide +kernel
theorem dX12_slips_155 : decode cX12_slips 155 = .ok (.iload 4, 2) := by decide +kernel
theorem dX12_slips_157 : decode cX12_slips 157 = .ok (.ifCond .ne 6, 3) := by decide +kernel
theorem dX12_slips_163 : decode cX12_slips 163 = .ok (.aload_n 0, 1) := by decide +kernel
theorem dX12_slips_164 : decode cX12_slips 164 = .ok (.getfield 142, 3) := by decide +kernel
theorem dX12_slips_167 : decode cX12_slips 167 = .ok (.iload_n 2, 1) := by decide +kernel
theorem dX12_slips_168 : decode cX12_slips 168 = .ok (.iload_n 3, 1) := by decide +kernel
theorem dX12_slips_169 : decode cX12_slips 169 = .ok (.iastore, 1) := by decide +kernel
theorem dX12_slips_170 : decode cX12_slips 170 = .ok (.iinc 2 1, 3) := by decide +kernel
theorem dX12_slips_173 : decode cX12_slips 173 = .ok (.iinc 3 1, 3) := by decide +kernel
theorem dX12_slips_176 : decode cX12_slips 176 = .ok (.goto (-85), 3) := by decide +kernel
theorem dX12_slips_160 : decode cX12_slips 160 = .ok (.goto 13, 3) := by decide +kernel
theorem dX12_slips_113 : decode cX12_slips 113 = .ok (.iload 4, 2) := by decide +kernel
theorem dX12_slips_115 : decode cX12_slips 115 = .ok (.ifCond .eq 31, 3) := by decide +kernel
theorem dX12_slips_146 : decode cX12_slips 146 = .ok (.iconst 0, 1) := by decide +kernel
theorem dX12_slips_147 : decode cX12_slips 147 = .ok (.istore 4, 2) := by decide +kernel
theorem dX12_slips_149 : decode cX12_slips 149 = .ok (.iinc 5 2, 3) := by decide +kernel
theorem dX12_slips_152 : decode cX12_slips 152 = .ok (.goto (-45), 3) := by decide +kernel
theorem dX12_slips_118 : decode cX12_slips 118 = .ok (.aload_n 0, 1) := by decide +kernel
theorem dX12_slips_119 : decode cX12_slips 119 = .ok (.aload_n 0, 1) := by decide +kernel
theorem dX12_slips_120 : decode cX12_slips 120 = .ok (.getfield 7, 3) := by decide +kernel
theorem dX12_slips_123 : decode cX12_slips 123 = .ok (.iload 5, 2) := by decide +kernel
theorem dX12_slips_125 : decode cX12_slips 125 = .ok (.iaload, 1) := by decide +kernel
theorem dX12_slips_126 : decode cX12_slips 126 = .ok (.iload_n 3, 1) := by decide +kernel
theorem dX12_slips_127 : decode cX12_slips 127 = .ok (.invokevirtual 328, 3) := by decide +kernel
theorem dX12_slips_130 : decode cX12_slips 130 = .ok (.aload_n 0, 1) := by decide +kernel
theorem dX12_slips_131 : decode cX12_slips 131 = .ok (.getfield 7, 3) := by decide +kernel
theorem dX12_slips_134 : decode cX12_slips 134 = .ok (.iload 5, 2) := by decide +kernel
theorem dX12_slips_136 : decode cX12_slips 136 = .ok (.iconst 1, 1) := by decide +kernel
theorem dX12_slips_137 : decode cX12_slips 137 = .ok (.iadd, 1) := by decide +kernel
theorem dX12_slips_138 : decode cX12_slips 138 = .ok (.iaload, 1) := by decide +kernel
theorem dX12_slips_139 : decode cX12_slips 139 = .ok (.if_icmp .ne 7, 3) := by decide +kernel
theorem dX12_slips_142 : decode cX12_slips 142 = .ok (.iconst 1, 1) := by decide +kernel
theorem dX12_slips_143 : decode cX12_slips 143 = .ok (.goto 4, 3) := by decide +kernel
theorem dX12_slips_37 : decode cX12_slips 37 = .ok (.aload_n 0, 1) := by decide +kernel
theorem dX12_slips_38 : decode cX12_slips 38 = .ok (.aload_n 0, 1) := by decide +kernel
theorem dX12_slips_39 : decode cX12_slips 39 = .ok (.getfield 7, 3) := by decide +kernel
theorem dX12_slips_42 : decode cX12_slips 42 = .ok (.iload_n 2, 1) := by decide +kernel
theorem dX12_slips_43 : decode cX12_slips 43 = .ok (.iaload, 1) := by decide +kernel
theorem dX12_slips_44 : decode cX12_slips 44 = .ok (.invokevirtual 240, 3) := by decide +kernel
theorem dX12_slips_47 : decode cX12_slips 47 = .ok (.ifCond .eq 32, 3) := by decide +kernel
theorem dX12_slips_79 : decode cX12_slips 79 = .ok (.iconst (-1), 1) := by decide +kernel
theorem dX12_slips_80 : decode cX12_slips 80 = .ok (.ireturn, 1) := by decide +kernel
theorem dX12_slips_50 : decode cX12_slips 50 = .ok (.aload_n 0, 1) := by decide +kernel
theorem dX12_slips_51 : decode cX12_slips 51 = .ok (.getfield 7, 3) := by decide +kernel
theorem dX12_slips_54 : decode cX12_slips 54 = .ok (.iload_n 2, 1) := by decide +kernel
theorem dX12_slips_55 : decode cX12_slips 55 = .ok (.iconst 1, 1) := by decide +kernel
theorem dX12_slips_56 : decode cX12_slips 56 = .ok (.iadd, 1) := by decide +kernel
theorem dX12_slips_57 : decode cX12_slips 57 = .ok (.iaload, 1) := by decide +kernel
theorem dX12_slips_58 : decode cX12_slips 58 = .ok (.sipush 255, 3) := by decide +kernel
theorem dX12_slips_61 : decode cX12_slips 61 = .ok (.if_icmp .eq 20, 3) := by decide +kernel
theorem dX12_slips_81 : decode cX12_slips 81 = .ok (.iinc 2 2, 3) := by decide +kernel
theorem dX12_slips_84 : decode cX12_slips 84 = .ok (.goto (-52), 3) := by decide +kernel
theorem dX12_slips_64 : decode cX12_slips 64 = .ok (.aload_n 0, 1) := by decide +kernel
theorem dX12_slips_65 : decode cX12_slips 65 = .ok (.aload_n 0, 1) := by decide +kernel
theorem dX12_slips_66 : decode cX12_slips 66 = .ok (.getfield 7, 3) := by decide +kernel
theorem dX12_slips_69 : decode cX12_slips 69 = .ok (.iload_n 2, 1) := by decide +kernel
theorem dX12_slips_70 : decode cX12_slips 70 = .ok (.iconst 1, 1) := by decide +kernel
theorem dX12_slips_71 : decode cX12_slips 71 = .ok (.iadd, 1) := by decide +kernel
theorem dX12_slips_72 : decode cX12_slips 72 = .ok (.iaload, 1) := by decide +kernel
theorem dX12_slips_73 : decode cX12_slips 73 = .ok (.invokevirtual 240, 3) := by decide +kernel
theorem dX12_slips_76 : decode cX12_slips 76 = .ok (.ifCond .ne 5, 3) := by decide +kernel
theorem dX12_slipLeast_0 : decode cX12_slipLeast 0 = .ok (.aload_n 0, 1) := by decide +kernel
theorem dX12_slipLeast_1 : decode cX12_slipLeast 1 = .ok (.iconst 0, 1) := by decide +kernel
theorem dX12_slipLeast_2 : decode cX12_slipLeast 2 = .ok (.putfield 1, 3) := by decide +kernel
theorem dX12_slipLeast_5 : decode cX12_slipLeast 5 = .ok (.aload_n 0, 1) := by decide +kernel
theorem dX12_slipLeast_6 : decode cX12_slipLeast 6 = .ok (.getfield 145, 3) := by decide +kernel
theorem dX12_slipLeast_9 : decode cX12_slipLeast 9 = .ok (.ireturn, 1) := by decide +kernel
theorem dX12_turn_0 : decode cX12_turn 0 = .ok (.aload_n 0, 1) := by decide +kernel
theorem dX12_turn_1 : decode cX12_turn 1 = .ok (.iconst 0, 1) := by decide +kernel
theorem dX12_turn_2 : decode cX12_turn 2 = .ok (.putfield 1, 3) := by decide +kernel
theorem dX12_turn_5 : decode cX12_turn 5 = .ok (.aload_n 0, 1) := by decide +kernel
theorem dX12_turn_6 : decode cX12_turn 6 = .ok (.getfield 148, 3) := by decide +kernel
theorem dX12_turn_9 : decode cX12_turn 9 = .ok (.ireturn, 1) := by decide +kernel
theorem dX12_lasts_0 : decode cX12_lasts 0 = .ok (.aload_n 0, 1) := by decide +kernel
theorem dX12_lasts_1 : decode cX12_lasts 1 = .ok (.iconst 0, 1) := by decide +kernel
theorem dX12_lasts_2 : decode cX12_lasts 2 = .ok (.putfield 1, 3) := by decide +kernel
theorem dX12_lasts_5 : decode cX12_lasts 5 = .ok (.aload_n 0, 1) := by decide +kernel
theorem dX12_lasts_6 : decode cX12_lasts 6 = .ok (.iload_n 1, 1) := by decide +kernel
theorem dX12_lasts_7 : decode cX12_lasts 7 = .ok (.invokevirtual 240, 3) := by decide +kernel
theorem dX12_lasts_10 : decode cX12_lasts 10 = .ok (.ifCond .eq 11, 3) := by decide +kernel
theorem dX12_lasts_21 : decode cX12_lasts 21 = .ok (.iconst (-1), 1) := by decide +kernel
theorem dX12_lasts_22 : decode cX12_lasts 22 = .ok (.ireturn, 1) := by decide +kernel
theorem dX12_lasts_13 : decode cX12_lasts 13 = .ok (.aload_n 0, 1) := by decide +kernel
theorem dX12_lasts_14 : decode cX12_lasts 14 = .ok (.iload_n 1, 1) := by decide +kernel
theorem dX12_lasts_15 : decode cX12_lasts 15 = .ok (.invokevirtual 261, 3) := by decide +kernel
theorem dX12_lasts_18 : decode cX12_lasts 18 = .ok (.ifCond .eq 5, 3) := by decide +kernel
theorem dX12_lasts_23 : decode cX12_lasts 23 = .ok (.aload_n 0, 1) := by decide +kernel
theorem dX12_lasts_24 : decode cX12_lasts 24 = .ok (.getfield 98, 3) := by decide +kernel
theorem dX12_lasts_27 : decode cX12_lasts 27 = .ok (.bipush 75, 2) := by decide +kernel
theorem dX12_lasts_29 : decode cX12_lasts 29 = .ok (.iload_n 1, 1) := by decide +kernel
theorem dX12_lasts_30 : decode cX12_lasts 30 = .ok (.iadd, 1) := by decide +kernel
theorem dX12_lasts_31 : decode cX12_lasts 31 = .ok (.iaload, 1) := by decide +kernel
theorem dX12_lasts_32 : decode cX12_lasts 32 = .ok (.istore_n 2, 1) := by decide +kernel
theorem dX12_lasts_33 : decode cX12_lasts 33 = .ok (.aload_n 0, 1) := by decide +kernel
theorem dX12_lasts_34 : decode cX12_lasts 34 = .ok (.getfield 98, 3) := by decide +kernel
theorem dX12_lasts_37 : decode cX12_lasts 37 = .ok (.bipush 53, 2) := by decide +kernel
theorem dX12_lasts_39 : decode cX12_lasts 39 = .ok (.iaload, 1) := by decide +kernel
theorem dX12_lasts_40 : decode cX12_lasts 40 = .ok (.istore_n 3, 1) := by decide +kernel
theorem dX12_lasts_41 : decode cX12_lasts 41 = .ok (.iload_n 3, 1) := by decide +kernel
theorem dX12_lasts_42 : decode cX12_lasts 42 = .ok (.sipush 400, 3) := by decide +kernel
theorem dX12_lasts_45 : decode cX12_lasts 45 = .ok (.if_icmp .ge 45, 3) := by decide +kernel
theorem dX12_lasts_90 : decode cX12_lasts 90 = .ok (.iconst (-1), 1) := by decide +kernel
theorem dX12_lasts_91 : decode cX12_lasts 91 = .ok (.ireturn, 1) := by decide +kernel
theorem dX12_lasts_48 : decode cX12_lasts 48 = .ok (.iload_n 3, 1) := by decide +kernel
theorem dX12_lasts_49 : decode cX12_lasts 49 = .ok (.aload_n 0, 1) := by decide +kernel
theorem dX12_lasts_50 : decode cX12_lasts 50 = .ok (.getfield 98, 3) := by decide +kernel
theorem dX12_lasts_53 : decode cX12_lasts 53 = .ok (.iconst 3, 1) := by decide +kernel
theorem dX12_lasts_54 : decode cX12_lasts 54 = .ok (.iaload, 1) := by decide +kernel
theorem dX12_lasts_55 : decode cX12_lasts 55 = .ok (.irem, 1) := by decide +kernel
theorem dX12_lasts_56 : decode cX12_lasts 56 = .ok (.aload_n 0, 1) := by decide +kernel
theorem dX12_lasts_57 : decode cX12_lasts 57 = .ok (.getfield 98, 3) := by decide +kernel
theorem dX12_lasts_60 : decode cX12_lasts 60 = .ok (.iconst 4, 1) := by decide +kernel
theorem dX12_lasts_61 : decode cX12_lasts 61 = .ok (.iaload, 1) := by decide +kernel
theorem dX12_lasts_62 : decode cX12_lasts 62 = .ok (.if_icmp .ge 6, 3) := by decide +kernel
theorem dX12_lasts_68 : decode cX12_lasts 68 = .ok (.iload_n 2, 1) := by decide +kernel
theorem dX12_lasts_69 : decode cX12_lasts 69 = .ok (.ifCond .ne 15, 3) := by decide +kernel
theorem dX12_lasts_84 : decode cX12_lasts 84 = .ok (.iinc 3 1, 3) := by decide +kernel
theorem dX12_lasts_87 : decode cX12_lasts 87 = .ok (.goto (-46), 3) := by decide +kernel
theorem dX12_lasts_72 : decode cX12_lasts 72 = .ok (.iload_n 3, 1) := by decide +kernel
theorem dX12_lasts_73 : decode cX12_lasts 73 = .ok (.iconst 1, 1) := by decide +kernel
theorem dX12_lasts_74 : decode cX12_lasts 74 = .ok (.iadd, 1) := by decide +kernel
theorem dX12_lasts_75 : decode cX12_lasts 75 = .ok (.aload_n 0, 1) := by decide +kernel
theorem dX12_lasts_76 : decode cX12_lasts 76 = .ok (.getfield 98, 3) := by decide +kernel
theorem dX12_lasts_79 : decode cX12_lasts 79 = .ok (.bipush 53, 2) := by decide +kernel
theorem dX12_lasts_81 : decode cX12_lasts 81 = .ok (.iaload, 1) := by decide +kernel
theorem dX12_lasts_82 : decode cX12_lasts 82 = .ok (.isub, 1) := by decide +kernel
theorem dX12_lasts_83 : decode cX12_lasts 83 = .ok (.ireturn, 1) := by decide +kernel
theorem dX12_lasts_65 : decode cX12_lasts 65 = .ok (.iinc 2 (-1), 3) := by decide +kernel
theorem dX12_near_0 : decode cX12_near 0 = .ok (.aload_n 0, 1) := by decide +kernel
theorem dX12_near_1 : decode cX12_near 1 = .ok (.iconst 0, 1) := by decide +kernel
theorem dX12_near_2 : decode cX12_near 2 = .ok (.putfield 1, 3) := by decide +kernel
theorem dX12_near_5 : decode cX12_near 5 = .ok (.aload_n 0, 1) := by decide +kernel
theorem dX12_near_6 : decode cX12_near 6 = .ok (.iload_n 1, 1) := by decide +kernel
theorem dX12_near_7 : decode cX12_near 7 = .ok (.invokevirtual 240, 3) := by decide +kernel
theorem dX12_near_10 : decode cX12_near 10 = .ok (.ifCond .eq 15, 3) := by decide +kernel
theorem dX12_near_25 : decode cX12_near 25 = .ok (.iconst (-1), 1) := by decide +kernel
theorem dX12_near_26 : decode cX12_near 26 = .ok (.ireturn, 1) := by decide +kernel
theorem dX12_near_13 : decode cX12_near 13 = .ok (.aload_n 0, 1) := by decide +kernel
theorem dX12_near_14 : decode cX12_near 14 = .ok (.getfield 98, 3) := by decide +kernel
theorem dX12_near_17 : decode cX12_near 17 = .ok (.bipush 44, 2) := by decide +kernel
theorem dX12_near_19 : decode cX12_near 19 = .ok (.iload_n 1, 1) := by decide +kernel
theorem dX12_near_20 : decode cX12_near 20 = .ok (.iadd, 1) := by decide +kernel
theorem dX12_near_21 : decode cX12_near 21 = .ok (.iaload, 1) := by decide +kernel
theorem dX12_near_22 : decode cX12_near 22 = .ok (.goto 4, 3) := by decide +kernel
theorem dX12_could_0 : decode cX12_could 0 = .ok (.aload_n 0, 1) := by decide +kernel
theorem dX12_could_1 : decode cX12_could 1 = .ok (.iconst 0, 1) := by decide +kernel
theorem dX12_could_2 : decode cX12_could 2 = .ok (.putfield 1, 3) := by decide +kernel
theorem dX12_could_5 : decode cX12_could 5 = .ok (.aload_n 0, 1) := by decide +kernel
theorem dX12_could_6 : decode cX12_could 6 = .ok (.iload_n 1, 1) := by decide +kernel
theorem dX12_could_7 : decode cX12_could 7 = .ok (.invokevirtual 240, 3) := by decide +kernel
theorem dX12_could_10 : decode cX12_could 10 = .ok (.ifCond .ne 5, 3) := by decide +kernel
theorem dX12_could_15 : decode cX12_could 15 = .ok (.iconst 0, 1) := by decide +kernel
theorem dX12_could_16 : decode cX12_could 16 = .ok (.istore_n 2, 1) := by decide +kernel
theorem dX12_could_17 : decode cX12_could 17 = .ok (.iconst 0, 1) := by decide +kernel
theorem dX12_could_18 : decode cX12_could 18 = .ok (.istore_n 3, 1) := by decide +kernel
theorem dX12_could_19 : decode cX12_could 19 = .ok (.iload_n 3, 1) := by decide +kernel
theorem dX12_could_20 : decode cX12_could 20 = .ok (.aload_n 0, 1) := by decide +kernel
theorem dX12_could_21 : decode cX12_could 21 = .ok (.getfield 98, 3) := by decide +kernel
theorem dX12_could_24 : decode cX12_could 24 = .ok (.iconst 0, 1) := by decide +kernel
theorem dX12_could_25 : decode cX12_could 25 = .ok (.iaload, 1) := by decide +kernel
theorem dX12_could_26 : decode cX12_could 26 = .ok (.if_icmp .ge 24, 3) := by decide +kernel
theorem dX12_could_50 : decode cX12_could 50 = .ok (.iload_n 2, 1) := by decide +kernel
theorem dX12_could_51 : decode cX12_could 51 = .ok (.ireturn, 1) := by decide +kernel
theorem dX12_could_29 : decode cX12_could 29 = .ok (.aload_n 0, 1) := by decide +kernel
theorem dX12_could_30 : decode cX12_could 30 = .ok (.iload_n 1, 1) := by decide +kernel
theorem dX12_could_31 : decode cX12_could 31 = .ok (.iload_n 3, 1) := by decide +kernel
theorem dX12_could_32 : decode cX12_could 32 = .ok (.invokevirtual 273, 3) := by decide +kernel
theorem dX12_could_35 : decode cX12_could 35 = .ok (.ifCond .ne 9, 3) := by decide +kernel
theorem dX12_could_44 : decode cX12_could 44 = .ok (.iinc 3 1, 3) := by decide +kernel
theorem dX12_could_47 : decode cX12_could 47 = .ok (.goto (-28), 3) := by decide +kernel
theorem dX12_could_38 : decode cX12_could 38 = .ok (.iload_n 2, 1) := by decide +kernel
theorem dX12_could_39 : decode cX12_could 39 = .ok (.iconst 1, 1) := by decide +kernel
theorem dX12_could_40 : decode cX12_could 40 = .ok (.iload_n 3, 1) := by decide +kernel
theorem dX12_could_41 : decode cX12_could 41 = .ok (.ishl, 1) := by decide +kernel
theorem dX12_could_42 : decode cX12_could 42 = .ok (.ior, 1) := by decide +kernel
theorem dX12_could_43 : decode cX12_could 43 = .ok (.istore_n 2, 1) := by decide +kernel
theorem dX12_could_13 : decode cX12_could 13 = .ok (.iconst (-1), 1) := by decide +kernel
theorem dX12_could_14 : decode cX12_could 14 = .ok (.ireturn, 1) := by decide +kernel
theorem dX12_byteAt_0 : decode cX12_byteAt 0 = .ok (.aload_n 0, 1) := by decide +kernel
theorem dX12_byteAt_1 : decode cX12_byteAt 1 = .ok (.iconst 0, 1) := by decide +kernel
theorem dX12_byteAt_2 : decode cX12_byteAt 2 = .ok (.putfield 1, 3) := by decide +kernel
theorem dX12_byteAt_5 : decode cX12_byteAt 5 = .ok (.iload_n 1, 1) := by decide +kernel
theorem dX12_byteAt_6 : decode cX12_byteAt 6 = .ok (.iconst 0, 1) := by decide +kernel
theorem dX12_byteAt_7 : decode cX12_byteAt 7 = .ok (.aload_n 0, 1) := by decide +kernel
theorem dX12_byteAt_8 : decode cX12_byteAt 8 = .ok (.getfield 338, 3) := by decide +kernel
theorem G1502 : Cond.fieldLink "HookedCityModel" 338 "HookedCityModel" "texts" "I" ∈ GW := gw_i 1502 (by decide +kernel) rfl
theorem dX12_byteAt_11 : decode cX12_byteAt 11 = .ok (.iconst 1, 1) := by decide +kernel
theorem dX12_byteAt_12 : decode cX12_byteAt 12 = .ok (.isub, 1) := by decide +kernel
theorem dX12_byteAt_13 : decode cX12_byteAt 13 = .ok (.invokestatic 75, 3) := by decide +kernel
theorem dX12_byteAt_16 : decode cX12_byteAt 16 = .ok (.ifCond .eq 12, 3) := by decide +kernel
theorem dX12_byteAt_28 : decode cX12_byteAt 28 = .ok (.iconst (-1), 1) := by decide +kernel
theorem dX12_byteAt_29 : decode cX12_byteAt 29 = .ok (.ireturn, 1) := by decide +kernel
theorem dX12_byteAt_19 : decode cX12_byteAt 19 = .ok (.aload_n 0, 1) := by decide +kernel
theorem dX12_byteAt_20 : decode cX12_byteAt 20 = .ok (.getfield 157, 3) := by decide +kernel
theorem G1501 : Cond.fieldLink "HookedCityModel" 157 "HookedCityModel" "text" "[I" ∈ GW := gw_i 1501 (by decide +kernel) rfl
theorem dX12_byteAt_23 : decode cX12_byteAt 23 = .ok (.iload_n 1, 1) := by decide +kernel
theorem dX12_byteAt_24 : decode cX12_byteAt 24 = .ok (.iaload, 1) := by decide +kernel
theorem dX12_byteAt_25 : decode cX12_byteAt 25 = .ok (.goto 4, 3) := by decide +kernel
theorem dX12_told_0 : decode cX12_told 0 = .ok (.aload_n 0, 1) := by decide +kernel
theorem dX12_told_1 : decode cX12_told 1 = .ok (.iconst 0, 1) := by decide +kernel
theorem dX12_told_2 : decode cX12_told 2 = .ok (.putfield 1, 3) := by decide +kernel
theorem dX12_told_5 : decode cX12_told 5 = .ok (.aload_n 0, 1) := by decide +kernel
theorem dX12_told_6 : decode cX12_told 6 = .ok (.getfield 388, 3) := by decide +kernel
theorem G1507 : Cond.fieldLink "HookedCityModel" 388 "HookedCityModel" "hasWritten" "Z" ∈ GW := gw_i 1507 (by decide +kernel) rfl
theorem dX12_told_9 : decode cX12_told 9 = .ok (.ifCond .eq 21, 3) := by decide +kernel
theorem dX12_told_30 : decode cX12_told 30 = .ok (.iconst (-1), 1) := by decide +kernel
theorem dX12_told_31 : decode cX12_told 31 = .ok (.ireturn, 1) := by decide +kernel
theorem dX12_told_12 : decode cX12_told 12 = .ok (.iload_n 1, 1) := by decide +kernel
theorem dX12_told_13 : decode cX12_told 13 = .ok (.iconst 0, 1) := by decide +kernel
theorem dX12_told_14 : decode cX12_told 14 = .ok (.iconst 3, 1) := by decide +kernel
theorem dX12_told_15 : decode cX12_told 15 = .ok (.invokestatic 75, 3) := by decide +kernel
theorem dX12_told_18 : decode cX12_told 18 = .ok (.ifCond .eq 12, 3) := by decide +kernel
theorem dX12_told_21 : decode cX12_told 21 = .ok (.aload_n 0, 1) := by decide +kernel
theorem dX12_told_22 : decode cX12_told 22 = .ok (.getfield 163, 3) := by decide +kernel
theorem G1505 : Cond.fieldLink "HookedCityModel" 163 "HookedCityModel" "written" "[I" ∈ GW := gw_i 1505 (by decide +kernel) rfl
theorem dX12_told_25 : decode cX12_told 25 = .ok (.iload_n 1, 1) := by decide +kernel
theorem dX12_told_26 : decode cX12_told 26 = .ok (.iaload, 1) := by decide +kernel
theorem dX12_told_27 : decode cX12_told 27 = .ok (.goto 4, 3) := by decide +kernel
theorem dX12_wayAt_0 : decode cX12_wayAt 0 = .ok (.aload_n 0, 1) := by decide +kernel
theorem dX12_wayAt_1 : decode cX12_wayAt 1 = .ok (.iconst 0, 1) := by decide +kernel
theorem dX12_wayAt_2 : decode cX12_wayAt 2 = .ok (.putfield 1, 3) := by decide +kernel
theorem dX12_wayAt_5 : decode cX12_wayAt 5 = .ok (.iload_n 1, 1) := by decide +kernel
theorem dX12_wayAt_6 : decode cX12_wayAt 6 = .ok (.iconst 0, 1) := by decide +kernel
theorem dX12_wayAt_7 : decode cX12_wayAt 7 = .ok (.aload_n 0, 1) := by decide +kernel
theorem dX12_wayAt_8 : decode cX12_wayAt 8 = .ok (.getfield 335, 3) := by decide +kernel
theorem G1500 : Cond.fieldLink "HookedCityModel" 335 "HookedCityModel" "pathMany" "I" ∈ GW := gw_i 1500 (by decide +kernel) rfl
theorem dX12_wayAt_11 : decode cX12_wayAt 11 = .ok (.iconst 1, 1) := by decide +kernel
theorem dX12_wayAt_12 : decode cX12_wayAt 12 = .ok (.isub, 1) := by decide +kernel
theorem dX12_wayAt_13 : decode cX12_wayAt 13 = .ok (.invokestatic 75, 3) := by decide +kernel
theorem dX12_wayAt_16 : decode cX12_wayAt 16 = .ok (.ifCond .eq 12, 3) := by decide +kernel
theorem dX12_wayAt_28 : decode cX12_wayAt 28 = .ok (.iconst (-1), 1) := by decide +kernel
theorem dX12_wayAt_29 : decode cX12_wayAt 29 = .ok (.ireturn, 1) := by decide +kernel
theorem dX12_wayAt_19 : decode cX12_wayAt 19 = .ok (.aload_n 0, 1) := by decide +kernel
theorem dX12_wayAt_20 : decode cX12_wayAt 20 = .ok (.getfield 154, 3) := by decide +kernel
theorem G1499 : Cond.fieldLink "HookedCityModel" 154 "HookedCityModel" "path" "[I" ∈ GW := gw_i 1499 (by decide +kernel) rfl
theorem dX12_wayAt_23 : decode cX12_wayAt 23 = .ok (.iload_n 1, 1) := by decide +kernel
theorem dX12_wayAt_24 : decode cX12_wayAt 24 = .ok (.iaload, 1) := by decide +kernel
theorem dX12_wayAt_25 : decode cX12_wayAt 25 = .ok (.goto 4, 3) := by decide +kernel
theorem dX12_matched_0 : decode cX12_matched 0 = .ok (.aload_n 0, 1) := by decide +kernel
theorem dX12_matched_1 : decode cX12_matched 1 = .ok (.iconst 0, 1) := by decide +kernel
theorem dX12_matched_2 : decode cX12_matched 2 = .ok (.putfield 1, 3) := by decide +kernel
theorem dX12_matched_5 : decode cX12_matched 5 = .ok (.aload_n 0, 1) := by decide +kernel
theorem dX12_matched_6 : decode cX12_matched 6 = .ok (.getfield 325, 3) := by decide +kernel
theorem G1493 : Cond.fieldLink "HookedCityModel" 325 "HookedCityModel" "hasMatched" "Z" ∈ GW := gw_i 1493 (by decide +kernel) rfl
theorem dX12_matched_9 : decode cX12_matched 9 = .ok (.ifCond .eq 26, 3) := by decide +kernel
theorem dX12_matched_35 : decode cX12_matched 35 = .ok (.iconst (-1), 1) := by decide +kernel
theorem dX12_matched_36 : decode cX12_matched 36 = .ok (.ireturn, 1) := by decide +kernel
theorem dX12_matched_12 : decode cX12_matched 12 = .ok (.iload_n 1, 1) := by decide +kernel
theorem dX12_matched_13 : decode cX12_matched 13 = .ok (.iconst 0, 1) := by decide +kernel
theorem dX12_matched_14 : decode cX12_matched 14 = .ok (.aload_n 0, 1) := by decide +kernel
theorem dX12_matched_15 : decode cX12_matched 15 = .ok (.getfield 322, 3) := by decide +kernel
theorem G1492 : Cond.fieldLink "HookedCityModel" 322 "HookedCityModel" "matchedMany" "I" ∈ GW := gw_i 1492 (by decide +kernel) rfl
theorem dX12_matched_18 : decode cX12_matched 18 = .ok (.iconst 1, 1) := by decide +kernel
theorem dX12_matched_19 : decode cX12_matched 19 = .ok (.isub, 1) := by decide +kernel
theorem dX12_matched_20 : decode cX12_matched 20 = .ok (.invokestatic 75, 3) := by decide +kernel
theorem dX12_matched_23 : decode cX12_matched 23 = .ok (.ifCond .eq 12, 3) := by decide +kernel
theorem dX12_matched_26 : decode cX12_matched 26 = .ok (.aload_n 0, 1) := by decide +kernel
theorem dX12_matched_27 : decode cX12_matched 27 = .ok (.getfield 133, 3) := by decide +kernel
theorem G1489 : Cond.fieldLink "HookedCityModel" 133 "HookedCityModel" "matched" "[I" ∈ GW := gw_i 1489 (by decide +kernel) rfl
theorem dX12_matched_30 : decode cX12_matched 30 = .ok (.iload_n 1, 1) := by decide +kernel
theorem dX12_matched_31 : decode cX12_matched 31 = .ok (.iaload, 1) := by decide +kernel
theorem dX12_matched_32 : decode cX12_matched 32 = .ok (.goto 4, 3) := by decide +kernel
theorem dX12_count_0 : decode cX12_count 0 = .ok (.aload_n 0, 1) := by decide +kernel
theorem dX12_count_1 : decode cX12_count 1 = .ok (.iconst 0, 1) := by decide +kernel
theorem dX12_count_2 : decode cX12_count 2 = .ok (.putfield 1, 3) := by decide +kernel
theorem dX12_count_5 : decode cX12_count 5 = .ok (.iload_n 1, 1) := by decide +kernel
theorem dX12_count_6 : decode cX12_count 6 = .ok (.tableswitch 67 0 4 #[34, 41, 48, 55, 62], 34) := by decide +kernel
theorem dX12_count_40 : decode cX12_count 40 = .ok (.aload_n 0, 1) := by decide +kernel
theorem dX12_count_41 : decode cX12_count 41 = .ok (.getfield 98, 3) := by decide +kernel
theorem dX12_count_44 : decode cX12_count 44 = .ok (.iconst 0, 1) := by decide +kernel
theorem dX12_count_45 : decode cX12_count 45 = .ok (.iaload, 1) := by decide +kernel
theorem dX12_count_46 : decode cX12_count 46 = .ok (.ireturn, 1) := by decide +kernel
theorem dX12_count_47 : decode cX12_count 47 = .ok (.aload_n 0, 1) := by decide +kernel
theorem dX12_count_48 : decode cX12_count 48 = .ok (.getfield 98, 3) := by decide +kernel
theorem dX12_count_51 : decode cX12_count 51 = .ok (.iconst 1, 1) := by decide +kernel
theorem dX12_count_52 : decode cX12_count 52 = .ok (.iaload, 1) := by decide +kernel
theorem dX12_count_53 : decode cX12_count 53 = .ok (.ireturn, 1) := by decide +kernel
theorem dX12_count_54 : decode cX12_count 54 = .ok (.aload_n 0, 1) := by decide +kernel
theorem dX12_count_55 : decode cX12_count 55 = .ok (.getfield 98, 3) := by decide +kernel
theorem dX12_count_58 : decode cX12_count 58 = .ok (.iconst 3, 1) := by decide +kernel
theorem dX12_count_59 : decode cX12_count 59 = .ok (.iaload, 1) := by decide +kernel
theorem dX12_count_60 : decode cX12_count 60 = .ok (.ireturn, 1) := by decide +kernel
theorem dX12_count_61 : decode cX12_count 61 = .ok (.aload_n 0, 1) := by decide +kernel
theorem dX12_count_62 : decode cX12_count 62 = .ok (.getfield 98, 3) := by decide +kernel
theorem dX12_count_65 : decode cX12_count 65 = .ok (.iconst 4, 1) := by decide +kernel
theorem dX12_count_66 : decode cX12_count 66 = .ok (.iaload, 1) := by decide +kernel
theorem dX12_count_67 : decode cX12_count 67 = .ok (.ireturn, 1) := by decide +kernel
theorem dX12_count_68 : decode cX12_count 68 = .ok (.aload_n 0, 1) := by decide +kernel
theorem dX12_count_69 : decode cX12_count 69 = .ok (.getfield 11, 3) := by decide +kernel
theorem dX12_count_72 : decode cX12_count 72 = .ok (.ireturn, 1) := by decide +kernel
theorem dX12_count_73 : decode cX12_count 73 = .ok (.iconst (-1), 1) := by decide +kernel
theorem dX12_count_74 : decode cX12_count 74 = .ok (.ireturn, 1) := by decide +kernel
theorem dX12_fault_0 : decode cX12_fault 0 = .ok (.aload_n 0, 1) := by decide +kernel
theorem dX12_fault_1 : decode cX12_fault 1 = .ok (.iconst 0, 1) := by decide +kernel
theorem dX12_fault_2 : decode cX12_fault 2 = .ok (.putfield 1, 3) := by decide +kernel
theorem dX12_fault_5 : decode cX12_fault 5 = .ok (.aload_n 0, 1) := by decide +kernel
theorem dX12_fault_6 : decode cX12_fault 6 = .ok (.getfield 66, 3) := by decide +kernel
theorem dX12_fault_9 : decode cX12_fault 9 = .ok (.ireturn, 1) := by decide +kernel
theorem dX12_takes_0 : decode cX12_takes 0 = .ok (.aload_n 0, 1) := by decide +kernel
theorem dX12_takes_1 : decode cX12_takes 1 = .ok (.iconst 0, 1) := by decide +kernel
theorem dX12_takes_2 : decode cX12_takes 2 = .ok (.putfield 1, 3) := by decide +kernel
theorem dX12_takes_5 : decode cX12_takes 5 = .ok (.aload_n 0, 1) := by decide +kernel
theorem dX12_takes_6 : decode cX12_takes 6 = .ok (.getfield 236, 3) := by decide +kernel
theorem dX12_takes_9 : decode cX12_takes 9 = .ok (.ifCond .ne 5, 3) := by decide +kernel
theorem dX12_takes_14 : decode cX12_takes 14 = .ok (.iconst 0, 1) := by decide +kernel
theorem dX12_takes_15 : decode cX12_takes 15 = .ok (.istore_n 1, 1) := by decide +kernel
theorem dX12_takes_16 : decode cX12_takes 16 = .ok (.iconst 0, 1) := by decide +kernel
theorem dX12_takes_17 : decode cX12_takes 17 = .ok (.istore_n 2, 1) := by decide +kernel
theorem dX12_takes_18 : decode cX12_takes 18 = .ok (.iload_n 2, 1) := by decide +kernel
theorem dX12_takes_19 : decode cX12_takes 19 = .ok (.aload_n 0, 1) := by decide +kernel
theorem dX12_takes_20 : decode cX12_takes 20 = .ok (.getfield 98, 3) := by decide +kernel
theorem dX12_takes_23 : decode cX12_takes 23 = .ok (.iconst 0, 1) := by decide +kernel
theorem dX12_takes_24 : decode cX12_takes 24 = .ok (.iaload, 1) := by decide +kernel
theorem dX12_takes_25 : decode cX12_takes 25 = .ok (.if_icmp .ge 54, 3) := by decide +kernel
theorem dX12_takes_79 : decode cX12_takes 79 = .ok (.iconst 0, 1) := by decide +kernel
theorem dX12_takes_80 : decode cX12_takes 80 = .ok (.istore_n 2, 1) := by decide +kernel
theorem dX12_takes_81 : decode cX12_takes 81 = .ok (.iconst 0, 1) := by decide +kernel
theorem dX12_takes_82 : decode cX12_takes 82 = .ok (.istore_n 3, 1) := by decide +kernel
theorem dX12_takes_83 : decode cX12_takes 83 = .ok (.iload_n 3, 1) := by decide +kernel
theorem dX12_takes_84 : decode cX12_takes 84 = .ok (.aload_n 0, 1) := by decide +kernel
theorem dX12_takes_85 : decode cX12_takes 85 = .ok (.getfield 98, 3) := by decide +kernel
theorem dX12_takes_88 : decode cX12_takes 88 = .ok (.iconst 1, 1) := by decide +kernel
theorem dX12_takes_89 : decode cX12_takes 89 = .ok (.iaload, 1) := by decide +kernel
theorem dX12_takes_90 : decode cX12_takes 90 = .ok (.if_icmp .ge 21, 3) := by decide +kernel
theorem dX12_takes_111 : decode cX12_takes 111 = .ok (.iload_n 1, 1) := by decide +kernel
theorem dX12_takes_112 : decode cX12_takes 112 = .ok (.ifCond .ne 5, 3) := by decide +kernel
theorem dX12_takes_117 : decode cX12_takes 117 = .ok (.iload_n 2, 1) := by decide +kernel
theorem dX12_takes_118 : decode cX12_takes 118 = .ok (.ifCond .ne 7, 3) := by decide +kernel
theorem dX12_takes_125 : decode cX12_takes 125 = .ok (.iload_n 1, 1) := by decide +kernel
theorem dX12_takes_126 : decode cX12_takes 126 = .ok (.iload_n 2, 1) := by decide +kernel
theorem dX12_takes_127 : decode cX12_takes 127 = .ok (.iadd, 1) := by decide +kernel
theorem dX12_takes_128 : decode cX12_takes 128 = .ok (.iconst 1, 1) := by decide +kernel
theorem dX12_takes_129 : decode cX12_takes 129 = .ok (.isub, 1) := by decide +kernel
theorem dX12_takes_130 : decode cX12_takes 130 = .ok (.iload_n 2, 1) := by decide +kernel
theorem dX12_takes_131 : decode cX12_takes 131 = .ok (.idiv, 1) := by decide +kernel
theorem dX12_takes_132 : decode cX12_takes 132 = .ok (.ireturn, 1) := by decide +kernel
theorem dX12_takes_121 : decode cX12_takes 121 = .ok (.iconst (-1), 1) := by decide +kernel
theorem dX12_takes_122 : decode cX12_takes 122 = .ok (.goto 10, 3) := by decide +kernel
theorem dX12_takes_115 : decode cX12_takes 115 = .ok (.iconst 0, 1) := by decide +kernel
theorem dX12_takes_116 : decode cX12_takes 116 = .ok (.ireturn, 1) := by decide +kernel
theorem dX12_takes_93 : decode cX12_takes 93 = .ok (.iload_n 2, 1) := by decide +kernel
theorem dX12_takes_94 : decode cX12_takes 94 = .ok (.aload_n 0, 1) := by decide +kernel
theorem dX12_takes_95 : decode cX12_takes 95 = .ok (.getfield 98, 3) := by decide +kernel
theorem dX12_takes_98 : decode cX12_takes 98 = .ok (.bipush 41, 2) := by decide +kernel
theorem dX12_takes_100 : decode cX12_takes 100 = .ok (.iload_n 3, 1) := by decide +kernel
theorem dX12_takes_101 : decode cX12_takes 101 = .ok (.iadd, 1) := by decide +kernel
theorem dX12_takes_102 : decode cX12_takes 102 = .ok (.iaload, 1) := by decide +kernel
theorem dX12_takes_103 : decode cX12_takes 103 = .ok (.iadd, 1) := by decide +kernel
theorem dX12_takes_104 : decode cX12_takes 104 = .ok (.istore_n 2, 1) := by decide +kernel
theorem dX12_takes_105 : decode cX12_takes 105 = .ok (.iinc 3 1, 3) := by decide +kernel
theorem dX12_takes_108 : decode cX12_takes 108 = .ok (.goto (-25), 3) := by decide +kernel
theorem dX12_takes_28 : decode cX12_takes 28 = .ok (.aload_n 0, 1) := by decide +kernel
theorem dX12_takes_29 : decode cX12_takes 29 = .ok (.getfield 98, 3) := by decide +kernel
theorem dX12_takes_32 : decode cX12_takes 32 = .ok (.bipush 57, 2) := by decide +kernel
theorem dX12_takes_34 : decode cX12_takes 34 = .ok (.iload_n 2, 1) := by decide +kernel
theorem dX12_takes_35 : decode cX12_takes 35 = .ok (.iadd, 1) := by decide +kernel
theorem dX12_takes_36 : decode cX12_takes 36 = .ok (.iaload, 1) := by decide +kernel
theorem dX12_takes_37 : decode cX12_takes 37 = .ok (.aload_n 0, 1) := by decide +kernel
theorem dX12_takes_38 : decode cX12_takes 38 = .ok (.getfield 133, 3) := by decide +kernel
theorem dX12_takes_41 : decode cX12_takes 41 = .ok (.iload_n 2, 1) := by decide +kernel
theorem dX12_takes_42 : decode cX12_takes 42 = .ok (.iaload, 1) := by decide +kernel
theorem dX12_takes_43 : decode cX12_takes 43 = .ok (.if_icmp .ne 6, 3) := by decide +kernel
theorem dX12_takes_49 : decode cX12_takes 49 = .ok (.aload_n 0, 1) := by decide +kernel
theorem dX12_takes_50 : decode cX12_takes 50 = .ok (.iload_n 2, 1) := by decide +kernel
theorem dX12_takes_51 : decode cX12_takes 51 = .ok (.invokevirtual 255, 3) := by decide +kernel
theorem dX12_takes_54 : decode cX12_takes 54 = .ok (.ifCond .ne 6, 3) := by decide +kernel
theorem dX12_takes_60 : decode cX12_takes 60 = .ok (.aload_n 0, 1) := by decide +kernel
theorem dX12_takes_61 : decode cX12_takes 61 = .ok (.getfield 133, 3) := by decide +kernel
theorem dX12_takes_64 : decode cX12_takes 64 = .ok (.iload_n 2, 1) := by decide +kernel
theorem dX12_takes_65 : decode cX12_takes 65 = .ok (.iaload, 1) := by decide +kernel
theorem dX12_takes_66 : decode cX12_takes 66 = .ok (.iconst (-1), 1) := by decide +kernel
theorem dX12_takes_67 : decode cX12_takes 67 = .ok (.if_icmp .eq 6, 3) := by decide +kernel
theorem dX12_takes_73 : decode cX12_takes 73 = .ok (.iinc 2 1, 3) := by decide +kernel
theorem dX12_takes_76 : decode cX12_takes 76 = .ok (.goto (-58), 3) := by decide +kernel
theorem dX12_takes_70 : decode cX12_takes 70 = .ok (.iinc 1 1, 3) := by decide +kernel
theorem dX12_takes_57 : decode cX12_takes 57 = .ok (.iinc 1 1, 3) := by decide +kernel
theorem dX12_takes_46 : decode cX12_takes 46 = .ok (.goto 27, 3) := by decide +kernel
theorem dX12_takes_12 : decode cX12_takes 12 = .ok (.iconst (-1), 1) := by decide +kernel
theorem dX12_takes_13 : decode cX12_takes 13 = .ok (.ireturn, 1) := by decide +kernel
theorem dX12_layAside_0 : decode cX12_layAside 0 = .ok (.iconst 0, 1) := by decide +kernel
theorem dX12_layAside_1 : decode cX12_layAside 1 = .ok (.istore_n 1, 1) := by decide +kernel
theorem dX12_layAside_2 : decode cX12_layAside 2 = .ok (.iload_n 1, 1) := by decide +kernel
theorem dX12_layAside_3 : decode cX12_layAside 3 = .ok (.bipush 34, 2) := by decide +kernel
theorem dX12_layAside_5 : decode cX12_layAside 5 = .ok (.if_icmp .ge 24, 3) := by decide +kernel
theorem dX12_layAside_29 : decode cX12_layAside 29 = .ok (.return_, 1) := by decide +kernel
theorem dX12_layAside_8 : decode cX12_layAside 8 = .ok (.aload_n 0, 1) := by decide +kernel
theorem dX12_layAside_9 : decode cX12_layAside 9 = .ok (.getfield 110, 3) := by decide +kernel
theorem G1481 : Cond.fieldLink "HookedCityModel" 110 "HookedCityModel" "aside" "[I" ∈ GW := gw_i 1481 (by decide +kernel) rfl
theorem dX12_layAside_12 : decode cX12_layAside 12 = .ok (.iload_n 1, 1) := by decide +kernel
theorem dX12_layAside_13 : decode cX12_layAside 13 = .ok (.aload_n 0, 1) := by decide +kernel
theorem dX12_layAside_14 : decode cX12_layAside 14 = .ok (.getfield 98, 3) := by decide +kernel
theorem dX12_layAside_17 : decode cX12_layAside 17 = .ok (.bipush 53, 2) := by decide +kernel
theorem dX12_layAside_19 : decode cX12_layAside 19 = .ok (.iload_n 1, 1) := by decide +kernel
theorem dX12_layAside_20 : decode cX12_layAside 20 = .ok (.iadd, 1) := by decide +kernel
theorem dX12_layAside_21 : decode cX12_layAside 21 = .ok (.iaload, 1) := by decide +kernel
theorem dX12_layAside_22 : decode cX12_layAside 22 = .ok (.iastore, 1) := by decide +kernel
theorem dX12_layAside_23 : decode cX12_layAside 23 = .ok (.iinc 1 1, 3) := by decide +kernel
theorem dX12_layAside_26 : decode cX12_layAside 26 = .ok (.goto (-24), 3) := by decide +kernel
theorem dX12_takeBack_0 : decode cX12_takeBack 0 = .ok (.iconst 0, 1) := by decide +kernel
theorem dX12_takeBack_1 : decode cX12_takeBack 1 = .ok (.istore_n 1, 1) := by decide +kernel
theorem dX12_takeBack_2 : decode cX12_takeBack 2 = .ok (.iload_n 1, 1) := by decide +kernel
theorem dX12_takeBack_3 : decode cX12_takeBack 3 = .ok (.bipush 34, 2) := by decide +kernel
theorem dX12_takeBack_5 : decode cX12_takeBack 5 = .ok (.if_icmp .ge 24, 3) := by decide +kernel
theorem dX12_takeBack_29 : decode cX12_takeBack 29 = .ok (.return_, 1) := by decide +kernel
theorem dX12_takeBack_8 : decode cX12_takeBack 8 = .ok (.aload_n 0, 1) := by decide +kernel
theorem dX12_takeBack_9 : decode cX12_takeBack 9 = .ok (.getfield 98, 3) := by decide +kernel
theorem dX12_takeBack_12 : decode cX12_takeBack 12 = .ok (.bipush 53, 2) := by decide +kernel
theorem dX12_takeBack_14 : decode cX12_takeBack 14 = .ok (.iload_n 1, 1) := by decide +kernel
theorem dX12_takeBack_15 : decode cX12_takeBack 15 = .ok (.iadd, 1) := by decide +kernel
theorem dX12_takeBack_16 : decode cX12_takeBack 16 = .ok (.aload_n 0, 1) := by decide +kernel
theorem dX12_takeBack_17 : decode cX12_takeBack 17 = .ok (.getfield 110, 3) := by decide +kernel
theorem dX12_takeBack_20 : decode cX12_takeBack 20 = .ok (.iload_n 1, 1) := by decide +kernel
theorem dX12_takeBack_21 : decode cX12_takeBack 21 = .ok (.iaload, 1) := by decide +kernel
theorem dX12_takeBack_22 : decode cX12_takeBack 22 = .ok (.iastore, 1) := by decide +kernel
theorem dX12_takeBack_23 : decode cX12_takeBack 23 = .ok (.iinc 1 1, 3) := by decide +kernel
theorem dX12_takeBack_26 : decode cX12_takeBack 26 = .ok (.goto (-24), 3) := by decide +kernel
theorem dX12_odds_0 : decode cX12_odds 0 = .ok (.aload_n 0, 1) := by decide +kernel
theorem dX12_odds_1 : decode cX12_odds 1 = .ok (.iconst 0, 1) := by decide +kernel
theorem dX12_odds_2 : decode cX12_odds 2 = .ok (.putfield 1, 3) := by decide +kernel
theorem dX12_odds_5 : decode cX12_odds 5 = .ok (.aload_n 0, 1) := by decide +kernel
theorem dX12_odds_6 : decode cX12_odds 6 = .ok (.iload_n 1, 1) := by decide +kernel
theorem dX12_odds_7 : decode cX12_odds 7 = .ok (.invokevirtual 240, 3) := by decide +kernel
theorem dX12_odds_10 : decode cX12_odds 10 = .ok (.ifCond .eq 22, 3) := by decide +kernel
theorem dX12_odds_32 : decode cX12_odds 32 = .ok (.iconst (-1), 1) := by decide +kernel
theorem dX12_odds_33 : decode cX12_odds 33 = .ok (.ireturn, 1) := by decide +kernel
theorem dX12_odds_13 : decode cX12_odds 13 = .ok (.iload_n 2, 1) := by decide +kernel
theorem dX12_odds_14 : decode cX12_odds 14 = .ok (.iconst 1, 1) := by decide +kernel
theorem dX12_odds_15 : decode cX12_odds 15 = .ok (.bipush 30, 2) := by decide +kernel
theorem dX12_odds_17 : decode cX12_odds 17 = .ok (.invokestatic 75, 3) := by decide +kernel
theorem dX12_odds_20 : decode cX12_odds 20 = .ok (.ifCond .eq 12, 3) := by decide +kernel
theorem dX12_odds_23 : decode cX12_odds 23 = .ok (.aload_n 0, 1) := by decide +kernel
theorem dX12_odds_24 : decode cX12_odds 24 = .ok (.getfield 98, 3) := by decide +kernel
theorem dX12_odds_27 : decode cX12_odds 27 = .ok (.iconst 1, 1) := by decide +kernel
theorem dX12_odds_28 : decode cX12_odds 28 = .ok (.iaload, 1) := by decide +kernel
theorem dX12_odds_29 : decode cX12_odds 29 = .ok (.ifCond .ne 5, 3) := by decide +kernel
theorem dX12_odds_34 : decode cX12_odds 34 = .ok (.aload_n 0, 1) := by decide +kernel
theorem dX12_odds_35 : decode cX12_odds 35 = .ok (.invokevirtual 364, 3) := by decide +kernel
theorem G1974 : Cond.code ⟨"HookedCityModel", "layAside", "()V"⟩ prog_14_method_100_code 2 none ∈ GW := gw_i 1974 (by decide +kernel) rfl
theorem G1971 : Cond.methodLink "HookedCityModel" 364 ⟨"HookedCityModel", "layAside", "()V"⟩ ∈ GW := gw_i 1971 (by decide +kernel) rfl
theorem V_HookedCityModel_364 : VL "HookedCityModel" 364 yX12_layAside cX12_layAside 2 none 0 := ⟨G1974, G1971, G131, by decide +kernel, by decide +kernel, by decide +kernel⟩
theorem G1973 : Cond.instanceMethod ⟨"HookedCityModel", "layAside", "()V"⟩ ∈ GW := gw_i 1973 (by decide +kernel) rfl
theorem G101 : Cond.selects "HookedCityModel" ⟨"HookedCityModel", "layAside", "()V"⟩ ⟨"HookedCityModel", "layAside", "()V"⟩ ∈ GW := gw_i 101 (by decide +kernel) rfl
theorem dX12_odds_38 : decode cX12_odds 38 = .ok (.iconst 0, 1) := by decide +kernel
theorem dX12_odds_39 : decode cX12_odds 39 = .ok (.istore 4, 2) := by decide +kernel
theorem dX12_odds_41 : decode cX12_odds 41 = .ok (.iconst 0, 1) := by decide +kernel
theorem dX12_odds_42 : decode cX12_odds 42 = .ok (.istore 5, 2) := by decide +kernel
theorem dX12_odds_44 : decode cX12_odds 44 = .ok (.iload 5, 2) := by decide +kernel
theorem dX12_odds_46 : decode cX12_odds 46 = .ok (.iload_n 2, 1) := by decide +kernel
theorem dX12_odds_47 : decode cX12_odds 47 = .ok (.if_icmp .ge 35, 3) := by decide +kernel
theorem dX12_odds_82 : decode cX12_odds 82 = .ok (.iload 4, 2) := by decide +kernel
theorem dX12_odds_84 : decode cX12_odds 84 = .ok (.ireturn, 1) := by decide +kernel
theorem dX12_odds_50 : decode cX12_odds 50 = .ok (.aload_n 0, 1) := by decide +kernel
theorem dX12_odds_51 : decode cX12_odds 51 = .ok (.bipush 20, 2) := by decide +kernel
theorem dX12_odds_53 : decode cX12_odds 53 = .ok (.iload_n 3, 1) := by decide +kernel
theorem dX12_odds_54 : decode cX12_odds 54 = .ok (.iload 5, 2) := by decide +kernel
theorem dX12_odds_56 : decode cX12_odds 56 = .ok (.iadd, 1) := by decide +kernel
theorem dX12_odds_57 : decode cX12_odds 57 = .ok (.invokevirtual 361, 3) := by decide +kernel
theorem dX12_odds_60 : decode cX12_odds 60 = .ok (.pop, 1) := by decide +kernel
theorem dX12_odds_61 : decode cX12_odds 61 = .ok (.aload_n 0, 1) := by decide +kernel
theorem dX12_odds_62 : decode cX12_odds 62 = .ok (.iload_n 1, 1) := by decide +kernel
theorem dX12_odds_63 : decode cX12_odds 63 = .ok (.invokevirtual 255, 3) := by decide +kernel
theorem dX12_odds_66 : decode cX12_odds 66 = .ok (.ifCond .ne 6, 3) := by decide +kernel
theorem dX12_odds_72 : decode cX12_odds 72 = .ok (.aload_n 0, 1) := by decide +kernel
theorem dX12_odds_73 : decode cX12_odds 73 = .ok (.invokevirtual 367, 3) := by decide +kernel
theorem G1978 : Cond.code ⟨"HookedCityModel", "takeBack", "()V"⟩ prog_14_method_101_code 2 none ∈ GW := gw_i 1978 (by decide +kernel) rfl
theorem G1975 : Cond.methodLink "HookedCityModel" 367 ⟨"HookedCityModel", "takeBack", "()V"⟩ ∈ GW := gw_i 1975 (by decide +kernel) rfl
theorem V_HookedCityModel_367 : VL "HookedCityModel" 367 yX12_takeBack cX12_takeBack 2 none 0 := ⟨G1978, G1975, G131, by decide +kernel, by decide +kernel, by decide +kernel⟩
theorem G1977 : Cond.instanceMethod ⟨"HookedCityModel", "takeBack", "()V"⟩ ∈ GW := gw_i 1977 (by decide +kernel) rfl
theorem G102 : Cond.selects "HookedCityModel" ⟨"HookedCityModel", "takeBack", "()V"⟩ ⟨"HookedCityModel", "takeBack", "()V"⟩ ∈ GW := gw_i 102 (by decide +kernel) rfl
theorem dX12_odds_76 : decode cX12_odds 76 = .ok (.iinc 5 1, 3) := by decide +kernel
theorem dX12_odds_79 : decode cX12_odds 79 = .ok (.goto (-35), 3) := by decide +kernel
theorem dX12_odds_69 : decode cX12_odds 69 = .ok (.iinc 4 1, 3) := by decide +kernel
theorem dX12_image_0 : decode cX12_image 0 = .ok (.aload_n 0, 1) := by decide +kernel
theorem dX12_image_1 : decode cX12_image 1 = .ok (.iconst 0, 1) := by decide +kernel
theorem dX12_image_2 : decode cX12_image 2 = .ok (.putfield 1, 3) := by decide +kernel
theorem dX12_image_5 : decode cX12_image 5 = .ok (.iload_n 1, 1) := by decide +kernel
theorem dX12_image_6 : decode cX12_image 6 = .ok (.iconst 0, 1) := by decide +kernel
theorem dX12_image_7 : decode cX12_image 7 = .ok (.iconst 1, 1) := by decide +kernel
theorem dX12_image_8 : decode cX12_image 8 = .ok (.invokestatic 75, 3) := by decide +kernel
theorem dX12_image_11 : decode cX12_image 11 = .ok (.ifCond .ne 5, 3) := by decide +kernel
theorem dX12_image_14 : decode cX12_image 14 = .ok (.iconst 0, 1) := by decide +kernel
theorem dX12_image_15 : decode cX12_image 15 = .ok (.ireturn, 1) := by decide +kernel
theorem dX12_image_16 : decode cX12_image 16 = .ok (.iconst 0, 1) := by decide +kernel
theorem dX12_image_17 : decode cX12_image 17 = .ok (.istore_n 2, 1) := by decide +kernel
theorem dX12_image_18 : decode cX12_image 18 = .ok (.iload_n 2, 1) := by decide +kernel
theorem dX12_image_19 : decode cX12_image 19 = .ok (.sipush 329, 3) := by decide +kernel
theorem dX12_image_22 : decode cX12_image 22 = .ok (.if_icmp .ge 27, 3) := by decide +kernel
theorem dX12_image_49 : decode cX12_image 49 = .ok (.iconst 0, 1) := by decide +kernel
theorem dX12_image_50 : decode cX12_image 50 = .ok (.istore_n 2, 1) := by decide +kernel
theorem dX12_image_51 : decode cX12_image 51 = .ok (.iload_n 2, 1) := by decide +kernel
theorem dX12_image_52 : decode cX12_image 52 = .ok (.bipush 12, 2) := by decide +kernel
theorem dX12_image_54 : decode cX12_image 54 = .ok (.if_icmp .ge 26, 3) := by decide +kernel
theorem dX12_image_80 : decode cX12_image 80 = .ok (.aload_n 0, 1) := by decide +kernel
theorem dX12_image_81 : decode cX12_image 81 = .ok (.getfield 123, 3) := by decide +kernel
theorem G1485 : Cond.fieldLink "HookedCityModel" 123 "HookedCityModel" "isKept" "[Z" ∈ GW := gw_i 1485 (by decide +kernel) rfl
theorem dX12_image_84 : decode cX12_image 84 = .ok (.iload_n 1, 1) := by decide +kernel
theorem dX12_image_85 : decode cX12_image 85 = .ok (.iconst 1, 1) := by decide +kernel
theorem dX12_image_86 : decode cX12_image 86 = .ok (.bastore, 1) := by decide +kernel
theorem dX12_image_87 : decode cX12_image 87 = .ok (.iconst 1, 1) := by decide +kernel
theorem dX12_image_88 : decode cX12_image 88 = .ok (.ireturn, 1) := by decide +kernel
theorem dX12_image_57 : decode cX12_image 57 = .ok (.aload_n 0, 1) := by decide +kernel
theorem dX12_image_58 : decode cX12_image 58 = .ok (.getfield 120, 3) := by decide +kernel
theorem G1484 : Cond.fieldLink "HookedCityModel" 120 "HookedCityModel" "keptName" "[J" ∈ GW := gw_i 1484 (by decide +kernel) rfl
theorem dX12_image_61 : decode cX12_image 61 = .ok (.bipush 12, 2) := by decide +kernel
theorem dX12_image_63 : decode cX12_image 63 = .ok (.iload_n 1, 1) := by decide +kernel
theorem dX12_image_64 : decode cX12_image 64 = .ok (.imul, 1) := by decide +kernel
theorem dX12_image_65 : decode cX12_image 65 = .ok (.iload_n 2, 1) := by decide +kernel
theorem dX12_image_66 : decode cX12_image 66 = .ok (.iadd, 1) := by decide +kernel
theorem dX12_image_67 : decode cX12_image 67 = .ok (.aload_n 0, 1) := by decide +kernel
theorem dX12_image_68 : decode cX12_image 68 = .ok (.getfield 113, 3) := by decide +kernel
theorem dX12_image_71 : decode cX12_image 71 = .ok (.iload_n 2, 1) := by decide +kernel
theorem dX12_image_72 : decode cX12_image 72 = .ok (.laload, 1) := by decide +kernel
theorem dX12_image_73 : decode cX12_image 73 = .ok (.lastore, 1) := by decide +kernel
theorem dX12_image_74 : decode cX12_image 74 = .ok (.iinc 2 1, 3) := by decide +kernel
theorem dX12_image_77 : decode cX12_image 77 = .ok (.goto (-26), 3) := by decide +kernel
theorem dX12_image_25 : decode cX12_image 25 = .ok (.aload_n 0, 1) := by decide +kernel
theorem dX12_image_26 : decode cX12_image 26 = .ok (.getfield 104, 3) := by decide +kernel
theorem G1479 : Cond.fieldLink "HookedCityModel" 104 "HookedCityModel" "kept" "[I" ∈ GW := gw_i 1479 (by decide +kernel) rfl
theorem dX12_image_29 : decode cX12_image 29 = .ok (.sipush 329, 3) := by decide +kernel
theorem dX12_image_32 : decode cX12_image 32 = .ok (.iload_n 1, 1) := by decide +kernel
theorem dX12_image_33 : decode cX12_image 33 = .ok (.imul, 1) := by decide +kernel
theorem dX12_image_34 : decode cX12_image 34 = .ok (.iload_n 2, 1) := by decide +kernel
theorem dX12_image_35 : decode cX12_image 35 = .ok (.iadd, 1) := by decide +kernel
theorem dX12_image_36 : decode cX12_image 36 = .ok (.aload_n 0, 1) := by decide +kernel
theorem dX12_image_37 : decode cX12_image 37 = .ok (.getfield 98, 3) := by decide +kernel
theorem dX12_image_40 : decode cX12_image 40 = .ok (.iload_n 2, 1) := by decide +kernel
theorem dX12_image_41 : decode cX12_image 41 = .ok (.iaload, 1) := by decide +kernel
theorem dX12_image_42 : decode cX12_image 42 = .ok (.iastore, 1) := by decide +kernel
theorem dX12_image_43 : decode cX12_image 43 = .ok (.iinc 2 1, 3) := by decide +kernel
theorem dX12_image_46 : decode cX12_image 46 = .ok (.goto (-28), 3) := by decide +kernel
theorem dX12_restore_0 : decode cX12_restore 0 = .ok (.aload_n 0, 1) := by decide +kernel
theorem dX12_restore_1 : decode cX12_restore 1 = .ok (.iconst 0, 1) := by decide +kernel
theorem dX12_restore_2 : decode cX12_restore 2 = .ok (.putfield 1, 3) := by decide +kernel
theorem dX12_restore_5 : decode cX12_restore 5 = .ok (.iload_n 1, 1) := by decide +kernel
theorem dX12_restore_6 : decode cX12_restore 6 = .ok (.iconst 0, 1) := by decide +kernel
theorem dX12_restore_7 : decode cX12_restore 7 = .ok (.iconst 1, 1) := by decide +kernel
theorem dX12_restore_8 : decode cX12_restore 8 = .ok (.invokestatic 75, 3) := by decide +kernel
theorem dX12_restore_11 : decode cX12_restore 11 = .ok (.ifCond .eq 12, 3) := by decide +kernel
theorem dX12_restore_23 : decode cX12_restore 23 = .ok (.iconst 0, 1) := by decide +kernel
theorem dX12_restore_24 : decode cX12_restore 24 = .ok (.ireturn, 1) := by decide +kernel
theorem dX12_restore_14 : decode cX12_restore 14 = .ok (.aload_n 0, 1) := by decide +kernel
theorem dX12_restore_15 : decode cX12_restore 15 = .ok (.getfield 123, 3) := by decide +kernel
theorem dX12_restore_18 : decode cX12_restore 18 = .ok (.iload_n 1, 1) := by decide +kernel
theorem dX12_restore_19 : decode cX12_restore 19 = .ok (.baload, 1) := by decide +kernel
theorem dX12_restore_20 : decode cX12_restore 20 = .ok (.ifCond .ne 5, 3) := by decide +kernel
theorem dX12_restore_25 : decode cX12_restore 25 = .ok (.iconst 0, 1) := by decide +kernel
theorem dX12_restore_26 : decode cX12_restore 26 = .ok (.istore_n 2, 1) := by decide +kernel
theorem dX12_restore_27 : decode cX12_restore 27 = .ok (.iload_n 2, 1) := by decide +kernel
theorem dX12_restore_28 : decode cX12_restore 28 = .ok (.sipush 329, 3) := by decide +kernel
theorem dX12_restore_31 : decode cX12_restore 31 = .ok (.if_icmp .ge 27, 3) := by decide +kernel
theorem dX12_restore_58 : decode cX12_restore 58 = .ok (.iconst 0, 1) := by decide +kernel
theorem dX12_restore_59 : decode cX12_restore 59 = .ok (.istore_n 2, 1) := by decide +kernel
theorem dX12_restore_60 : decode cX12_restore 60 = .ok (.iload_n 2, 1) := by decide +kernel
theorem dX12_restore_61 : decode cX12_restore 61 = .ok (.bipush 12, 2) := by decide +kernel
theorem dX12_restore_63 : decode cX12_restore 63 = .ok (.if_icmp .ge 26, 3) := by decide +kernel
theorem dX12_restore_89 : decode cX12_restore 89 = .ok (.aload_n 0, 1) := by decide +kernel
theorem dX12_restore_90 : decode cX12_restore 90 = .ok (.iconst 0, 1) := by decide +kernel
theorem dX12_restore_91 : decode cX12_restore 91 = .ok (.putfield 233, 3) := by decide +kernel
theorem dX12_restore_94 : decode cX12_restore 94 = .ok (.aload_n 0, 1) := by decide +kernel
theorem dX12_restore_95 : decode cX12_restore 95 = .ok (.iconst 0, 1) := by decide +kernel
theorem dX12_restore_96 : decode cX12_restore 96 = .ok (.putfield 236, 3) := by decide +kernel
theorem dX12_restore_99 : decode cX12_restore 99 = .ok (.iconst 1, 1) := by decide +kernel
theorem dX12_restore_100 : decode cX12_restore 100 = .ok (.ireturn, 1) := by decide +kernel
theorem dX12_restore_66 : decode cX12_restore 66 = .ok (.aload_n 0, 1) := by decide +kernel
theorem dX12_restore_67 : decode cX12_restore 67 = .ok (.getfield 113, 3) := by decide +kernel
theorem dX12_restore_70 : decode cX12_restore 70 = .ok (.iload_n 2, 1) := by decide +kernel
theorem dX12_restore_71 : decode cX12_restore 71 = .ok (.aload_n 0, 1) := by decide +kernel
theorem dX12_restore_72 : decode cX12_restore 72 = .ok (.getfield 120, 3) := by decide +kernel
theorem dX12_restore_75 : decode cX12_restore 75 = .ok (.bipush 12, 2) := by decide +kernel
theorem dX12_restore_77 : decode cX12_restore 77 = .ok (.iload_n 1, 1) := by decide +kernel
theorem dX12_restore_78 : decode cX12_restore 78 = .ok (.imul, 1) := by decide +kernel
theorem dX12_restore_79 : decode cX12_restore 79 = .ok (.iload_n 2, 1) := by decide +kernel
theorem dX12_restore_80 : decode cX12_restore 80 = .ok (.iadd, 1) := by decide +kernel
theorem dX12_restore_81 : decode cX12_restore 81 = .ok (.laload, 1) := by decide +kernel
theorem dX12_restore_82 : decode cX12_restore 82 = .ok (.lastore, 1) := by decide +kernel
theorem dX12_restore_83 : decode cX12_restore 83 = .ok (.iinc 2 1, 3) := by decide +kernel
theorem dX12_restore_86 : decode cX12_restore 86 = .ok (.goto (-26), 3) := by decide +kernel
theorem dX12_restore_34 : decode cX12_restore 34 = .ok (.aload_n 0, 1) := by decide +kernel
theorem dX12_restore_35 : decode cX12_restore 35 = .ok (.getfield 98, 3) := by decide +kernel
theorem dX12_restore_38 : decode cX12_restore 38 = .ok (.iload_n 2, 1) := by decide +kernel
theorem dX12_restore_39 : decode cX12_restore 39 = .ok (.aload_n 0, 1) := by decide +kernel
theorem dX12_restore_40 : decode cX12_restore 40 = .ok (.getfield 104, 3) := by decide +kernel
theorem dX12_restore_43 : decode cX12_restore 43 = .ok (.sipush 329, 3) := by decide +kernel
theorem dX12_restore_46 : decode cX12_restore 46 = .ok (.iload_n 1, 1) := by decide +kernel
theorem dX12_restore_47 : decode cX12_restore 47 = .ok (.imul, 1) := by decide +kernel
theorem dX12_restore_48 : decode cX12_restore 48 = .ok (.iload_n 2, 1) := by decide +kernel
theorem dX12_restore_49 : decode cX12_restore 49 = .ok (.iadd, 1) := by decide +kernel
theorem dX12_restore_50 : decode cX12_restore 50 = .ok (.iaload, 1) := by decide +kernel
theorem dX12_restore_51 : decode cX12_restore 51 = .ok (.iastore, 1) := by decide +kernel
theorem dX12_restore_52 : decode cX12_restore 52 = .ok (.iinc 2 1, 3) := by decide +kernel
theorem dX12_restore_55 : decode cX12_restore 55 = .ok (.goto (-28), 3) := by decide +kernel
set_option maxRecDepth 100000 in
set_option maxHeartbeats 4000000 in
theorem c102_X12_inBy (l : Launch) (D : va_G) (T : Nat → ClassId) (sz : Nat) (a0 : Nat) (x0 : Int) (x1 : Int) (r0 : Int32) (a1 : Nat) (x2 : Int) (x3 : Int) (x4 : Int) (x5 : Int) (x6 : Int) (x7 : Int) (r1 : Int32) (x8 : Int) (x9 : Int) (x10 : Int) (y0 : Int64) (x11 : Int) (a2 : Nat) (a3 : Nat) (a4 : Nat) (a5 : Nat) (a6 : Nat) (a7 : Nat) (a8 : Nat) (a9 : Nat) (a10 : Nat) (a11 : Nat) (x12 : Int) (a12 : Nat) (a13 : Nat) (a14 : Nat) (a15 : Nat) (x13 : Int) (r2 : Int32) (r3 : Int32) (a16 : Nat) (x14 : Int) (x15 : Int) (a17 : Nat) (a18 : Nat) (x16 : Int) (a19 : Nat) (x17 : Int) (r4 : Int32) (a20 : Nat) (a21 : Nat) (x18 : Int) (r5 : Int32) (a22 : Nat) (x19 : Int) (x20 : Int) (x21 : Int) (x22 : Int) (f0 : Int → Int) (x0_a : 0 ≤ x0) (x0_b : x0 ≤ 255) (x1_a : 0 ≤ x1) (x1_b : x1 ≤ 10) (x2_a : 0 ≤ x2) (x2_b : x2 ≤ 940) (x3_a : 0 ≤ x3) (x3_b : x3 ≤ 940) (x4_a : 0 ≤ x4) (x4_b : x4 ≤ 940) (x5_a : 0 ≤ x5) (x5_b : x5 ≤ 940) (x6_a : 0 ≤ x6) (x6_b : x6 ≤ 940) (x7_a : 0 ≤ x7) (x7_b : x7 ≤ 4) (x8_a : (-2147483648) ≤ x8) (x8_b : x8 ≤ 2147483647) (x9_a : (-2147483648) ≤ x9) (x9_b : x9 ≤ 2147483647) (x10_a : 0 ≤ x10) (x10_b : x10 ≤ 940) (x11_a : (-2147483648) ≤ x11) (x11_b : x11 ≤ 2147483647) (x12_a : 0 ≤ x12) (x12_b : x12 ≤ 8) (x13_a : 0 ≤ x13) (x13_b : x13 ≤ 9) (x14_a : (-1) ≤ x14) (x14_b : x14 ≤ 9) (x15_a : (-1) ≤ x15) (x15_b : x15 ≤ 8) (x16_a : 0 ≤ x16) (x16_b : x16 ≤ 9) (x17_a : 0 ≤ x17) (x17_b : x17 ≤ 64) (x18_a : 0 ≤ x18) (x18_b : x18 ≤ 40) (x19_a : 0 ≤ x19) (x19_b : x19 ≤ 40) (x20_a : 0 ≤ x20) (x20_b : x20 ≤ 20) (x21_a : 0 ≤ x21) (x21_b : x21 ≤ 8) (x22_a : 0 ≤ x22) (x22_b : x22 ≤ 39) (f0_h : nowI f0) : Met l yX12_inBy (Cond.code yX12_inBy cX12_inBy 4 (some .int) :: GW) (Rm 0 0 0) (cPre [.ref a0, .int (iI x0), .int (iI x1)] D T [(a0, .inr (11, [.int r0, .ref a1, .int (iI x2), .int (iI x3), .int (iI x4), .int (iI x5), .int (iI x6), .int (iI x7), .int r1, .int (iI x8), .int (iI x9), .int (iI x10), .long y0, .int (iI x11), .ref a2, .ref a3, .ref a4, .ref a5, .ref a6, .ref a7, .ref a8, .ref a9, .ref a10, .ref a11, .int (iI x12), .ref a12, .ref a13, .ref a14, .ref a15, .int (iI x13), .int r2, .int r3, .ref a16, .int (iI x14), .int (iI x15), .ref a17, .ref a18, .int (iI x16), .ref a19, .int (iI x17), .int r4, .ref a20, .ref a21, .int (iI x18), .int r5, .ref a22, .int (iI x19), .int (iI x20), .int (iI x21), .int (iI x22)])), (a2, .inl (T 0, 329, .inl (cI f0)))] sz) (qI D [(a0, .inr (11, [.int r0, .ref a1, .int (iI x2), .int (iI x3), .int (iI x4), .int (iI x5), .int (iI x6), .int (iI x7), .int r1, .int (iI x8), .int (iI x9), .int (iI x10), .long y0, .int (iI x11), .ref a2, .ref a3, .ref a4, .ref a5, .ref a6, .ref a7, .ref a8, .ref a9, .ref a10, .ref a11, .int (iI x12), .ref a12, .ref a13, .ref a14, .ref a15, .int (iI x13), .int r2, .int r3, .ref a16, .int (iI x14), .int (iI x15), .ref a17, .ref a18, .int (iI x16), .ref a19, .int (iI x17), .int r4, .ref a20, .ref a21, .int (iI x18), .int r5, .ref a22, .int (iI x19), .int (iI x20), .int (iI x21), .int (iI x22)])), (a2, .inl (T 0, 329, .inl (cI f0)))] sz (fun (v : Int32) (u : Int) => iI u = v ∧ (-2147483648) ≤ u ∧ u ≤ 2147483647 ∧ (u = inB (f0 0) x0 x1)) (fun u => [(a0, .inr (11, [.int r0, .ref a1, .int (iI x2), .int (iI x3), .int (iI x4), .int (iI x5), .int (iI x6), .int (iI x7), .int r1, .int (iI x8), .int (iI x9), .int (iI x10), .long y0, .int (iI x11), .ref a2, .ref a3, .ref a4, .ref a5, .ref a6, .ref a7, .ref a8, .ref a9, .ref a10, .ref a11, .int (iI x12), .ref a12, .ref a13, .ref a14, .ref a15, .int (iI x13), .int r2, .int r3, .ref a16, .int (iI x14), .int (iI x15), .ref a17, .ref a18, .int (iI x16), .ref a19, .int (iI x17), .int r4, .ref a20, .ref a21, .int (iI x18), .int r5, .ref a22, .int (iI x19), .int (iI x20), .int (iI x21), .int (iI x22)])), (a2, .inl (T 0, 329, .inl (cI f0)))])) 0 0 (va_A [(a0, .inr (11, [.int r0, .ref a1, .int (iI x2), .int (iI x3), .int (iI x4), .int (iI x5), .int (iI x6), .int (iI x7), .int r1, .int (iI x8), .int (iI x9), .int (iI x10), .long y0, .int (iI x11), .ref a2, .ref a3, .ref a4, .ref a5, .ref a6, .ref a7, .ref a8, .ref a9, .ref a10, .ref a11, .int (iI x12), .ref a12, .ref a13, .ref a14, .ref a15, .int (iI x13), .int r2, .int r3, .ref a16, .int (iI x14), .int (iI x15), .ref a17, .ref a18, .int (iI x16), .ref a19, .int (iI x17), .int r4, .ref a20, .ref a21, .int (iI x18), .int r5, .ref a22, .int (iI x19), .int (iI x20), .int (iI x21), .int (iI x22)])), (a2, .inl (T 0, 329, .inl (cI f0)))] sz) := by
  refine e_I (by decide) (Nat.le_of_ble_eq_true rfl) ?_
  intro p e s m args below meth c A Q ls M hin w ret hl
  have hx := M.1.1
  have hb := M.1.2.1
  have hl : lv_has ls 4 [(0, .ref a0), (1, .int (iI x0)), (2, .int (iI x1))] := hl
  refine lv_iload_n hx hb dX12_inBy_0 rfl (lv_at hl 1 rfl) ?_
  refine lv_iload_n hx hb dX12_inBy_1 rfl (lv_at hl 2 rfl) ?_
  refine lv_icmp_ge (tgt := 11) hx hb dX12_inBy_2 (by decide) (fun c_1 => ?_) (fun c_1 => ?_)
  · replace c_1 := (iI_le (Int.le_trans (by decide) x1_a) (Int.le_trans x1_b (by decide)) (Int.le_trans (by decide) x0_a) (Int.le_trans x0_b (by decide))).mp c_1
    refine lv_iload_n hx hb dX12_inBy_11 rfl (lv_at hl 1 rfl) ?_
    refine lv_iconst (v := iI 2) hx hb dX12_inBy_12 (by decide +kernel) ?_
    refine r_iadd (v := iI (x0 + 2)) M (iI_add _ _) dX12_inBy_13 ?_
    refine lv_istore_n (lv' := [(3, .int (iI (x0 + 2))), (0, .ref a0), (1, .int (iI x0)), (2, .int (iI x1))]) hx hb dX12_inBy_14 rfl hl (by decide) rfl (fun ls hl => ?_)
    refine lv_iload_n hx hb dX12_inBy_15 rfl (lv_at hl 0 rfl) ?_
    refine lv_aload_n hx hb dX12_inBy_16 rfl (lv_at hl 1 rfl) ?_
    refine r_get (v := .ref a2) M w 0 14 clX12 rfl (by decide) G1477 rfl rfl dX12_inBy_17 ?_
    refine lv_iconst (v := iI 0) hx hb dX12_inBy_20 (by decide +kernel) ?_
    refine r_iald (v := iI (f0 0)) M w 1 rfl (iI_in (by decide) (by decide) (by decide)) (cI_at (by omega) (by omega)) dX12_inBy_21 ?_
    have hh2 : (-2147483648) ≤ (f0 0) ∧ (f0 0) ≤ 2147483647 := f0_h.1 0
    have hh3 : 0 ≤ (f0 0) ∧ (f0 0) ≤ 9 := (f0_h.2.1 0).1 (by omega)
    refine lv_icmp_ge (tgt := 29) hx hb dX12_inBy_22 (by decide) (fun c_4 => ?_) (fun c_4 => ?_)
    · replace c_4 := (iI_le (by omega) (by omega) (by omega) (by omega)).mp c_4
      refine lv_sipush (v := iI 255) hx hb dX12_inBy_29 (by decide +kernel) ?_
      exact ret _ 255 _ _ _ _ _ [0, 1] dX12_inBy_32 ⟨rfl, (show (-2147483648) ≤ 255 from by decide), (show (255 : Int) ≤ 2147483647 from by decide), (show 255 = inB (f0 0) x0 x1 from (by unfold inB; split <;> first | omega | (split <;> omega)))⟩ w (by decide) rfl
    · replace c_4 : (x0 + 2) < (f0 0) := Int.not_le.mp (fun h => c_4 ((iI_le (by omega) (by omega) (by omega) (by omega)).mpr h))
      refine lv_iload_n hx hb dX12_inBy_25 rfl (lv_at hl 0 rfl) ?_
      refine lv_goto (tgt := 32) hx hb dX12_inBy_26 (by decide) ?_
      exact ret _ (x0 + 2) _ _ _ _ _ [0, 1] dX12_inBy_32 ⟨rfl, (show (-2147483648) ≤ (x0 + 2) from by omega), (show (x0 + 2) ≤ 2147483647 from by omega), (show (x0 + 2) = inB (f0 0) x0 x1 from (by unfold inB; split <;> first | omega | (split <;> omega)))⟩ w (by decide) rfl
  · replace c_1 : x0 < x1 := Int.not_le.mp (fun h => c_1 ((iI_le (Int.le_trans (by decide) x1_a) (Int.le_trans x1_b (by decide)) (Int.le_trans (by decide) x0_a) (Int.le_trans x0_b (by decide))).mpr h))
    refine lv_iload_n hx hb dX12_inBy_5 rfl (lv_at hl 1 rfl) ?_
    refine lv_iconst (v := iI 1) hx hb dX12_inBy_6 (by decide +kernel) ?_
    refine r_iadd (v := iI (x0 + 1)) M (iI_add _ _) dX12_inBy_7 ?_
    refine lv_goto (tgt := 14) hx hb dX12_inBy_8 (by decide) ?_
    refine lv_istore_n (lv' := [(3, .int (iI (x0 + 1))), (0, .ref a0), (1, .int (iI x0)), (2, .int (iI x1))]) hx hb dX12_inBy_14 rfl hl (by decide) rfl (fun ls hl => ?_)
    refine lv_iload_n hx hb dX12_inBy_15 rfl (lv_at hl 0 rfl) ?_
    refine lv_aload_n hx hb dX12_inBy_16 rfl (lv_at hl 1 rfl) ?_
    refine r_get (v := .ref a2) M w 0 14 clX12 rfl (by decide) G1477 rfl rfl dX12_inBy_17 ?_
    refine lv_iconst (v := iI 0) hx hb dX12_inBy_20 (by decide +kernel) ?_
    refine r_iald (v := iI (f0 0)) M w 1 rfl (iI_in (by decide) (by decide) (by decide)) (cI_at (by omega) (by omega)) dX12_inBy_21 ?_
    have hh5 : (-2147483648) ≤ (f0 0) ∧ (f0 0) ≤ 2147483647 := f0_h.1 0
    have hh6 : 0 ≤ (f0 0) ∧ (f0 0) ≤ 9 := (f0_h.2.1 0).1 (by omega)
    refine lv_icmp_ge (tgt := 29) hx hb dX12_inBy_22 (by decide) (fun c_7 => ?_) (fun c_7 => ?_)
    · replace c_7 := (iI_le (by omega) (by omega) (by omega) (by omega)).mp c_7
      refine lv_sipush (v := iI 255) hx hb dX12_inBy_29 (by decide +kernel) ?_
      exact ret _ 255 _ _ _ _ _ [0, 1] dX12_inBy_32 ⟨rfl, (show (-2147483648) ≤ 255 from by decide), (show (255 : Int) ≤ 2147483647 from by decide), (show 255 = inB (f0 0) x0 x1 from (by unfold inB; split <;> first | omega | (split <;> omega)))⟩ w (by decide) rfl
    · replace c_7 : (x0 + 1) < (f0 0) := Int.not_le.mp (fun h => c_7 ((iI_le (by omega) (by omega) (by omega) (by omega)).mpr h))
      refine lv_iload_n hx hb dX12_inBy_25 rfl (lv_at hl 0 rfl) ?_
      refine lv_goto (tgt := 32) hx hb dX12_inBy_26 (by decide) ?_
      exact ret _ (x0 + 1) _ _ _ _ _ [0, 1] dX12_inBy_32 ⟨rfl, (show (-2147483648) ≤ (x0 + 1) from by omega), (show (x0 + 1) ≤ 2147483647 from by omega), (show (x0 + 1) = inB (f0 0) x0 x1 from (by unfold inB; split <;> first | omega | (split <;> omega)))⟩ w (by decide) rfl
set_option maxRecDepth 100000 in
set_option maxHeartbeats 4000000 in
theorem c103_X12_leftBy (l : Launch) (D : va_G) (T : Nat → ClassId) (sz : Nat) (a0 : Nat) (x0 : Int) (x1 : Int) (r0 : Int32) (a1 : Nat) (x2 : Int) (x3 : Int) (x4 : Int) (x5 : Int) (x6 : Int) (x7 : Int) (r1 : Int32) (x8 : Int) (x9 : Int) (x10 : Int) (y0 : Int64) (x11 : Int) (a2 : Nat) (a3 : Nat) (a4 : Nat) (a5 : Nat) (a6 : Nat) (a7 : Nat) (a8 : Nat) (a9 : Nat) (a10 : Nat) (a11 : Nat) (x12 : Int) (a12 : Nat) (a13 : Nat) (a14 : Nat) (a15 : Nat) (x13 : Int) (r2 : Int32) (r3 : Int32) (a16 : Nat) (x14 : Int) (x15 : Int) (a17 : Nat) (a18 : Nat) (x16 : Int) (a19 : Nat) (x17 : Int) (r4 : Int32) (a20 : Nat) (a21 : Nat) (x18 : Int) (r5 : Int32) (a22 : Nat) (x19 : Int) (x20 : Int) (x21 : Int) (x22 : Int) (f0 : Int → Int) (f1 : Int → Int) (x0_a : 0 ≤ x0) (x0_b : x0 ≤ 8) (x1_a : 0 ≤ x1) (x1_b : x1 ≤ 10) (x2_a : 0 ≤ x2) (x2_b : x2 ≤ 940) (x3_a : 0 ≤ x3) (x3_b : x3 ≤ 940) (x4_a : 0 ≤ x4) (x4_b : x4 ≤ 940) (x5_a : 0 ≤ x5) (x5_b : x5 ≤ 940) (x6_a : 0 ≤ x6) (x6_b : x6 ≤ 940) (x7_a : 0 ≤ x7) (x7_b : x7 ≤ 4) (x8_a : (-2147483648) ≤ x8) (x8_b : x8 ≤ 2147483647) (x9_a : (-2147483648) ≤ x9) (x9_b : x9 ≤ 2147483647) (x10_a : 0 ≤ x10) (x10_b : x10 ≤ 940) (x11_a : (-2147483648) ≤ x11) (x11_b : x11 ≤ 2147483647) (x12_a : 0 ≤ x12) (x12_b : x12 ≤ 8) (x13_a : 0 ≤ x13) (x13_b : x13 ≤ 9) (x14_a : (-1) ≤ x14) (x14_b : x14 ≤ 9) (x15_a : (-1) ≤ x15) (x15_b : x15 ≤ 8) (x16_a : 0 ≤ x16) (x16_b : x16 ≤ 9) (x17_a : 0 ≤ x17) (x17_b : x17 ≤ 64) (x18_a : 0 ≤ x18) (x18_b : x18 ≤ 40) (x19_a : 0 ≤ x19) (x19_b : x19 ≤ 40) (x20_a : 0 ≤ x20) (x20_b : x20 ≤ 20) (x21_a : 0 ≤ x21) (x21_b : x21 ≤ 8) (x22_a : 0 ≤ x22) (x22_b : x22 ≤ 39) (f0_h : nowI f0) (f1_h : rng 0 9 f1) : Met l yX12_leftBy (Cond.code yX12_leftBy cX12_leftBy 7 (some .int) :: GW) (Rm 1 0 0) (cPre [.ref a0, .int (iI x0), .int (iI x1)] D T [(a0, .inr (11, [.int r0, .ref a1, .int (iI x2), .int (iI x3), .int (iI x4), .int (iI x5), .int (iI x6), .int (iI x7), .int r1, .int (iI x8), .int (iI x9), .int (iI x10), .long y0, .int (iI x11), .ref a2, .ref a3, .ref a4, .ref a5, .ref a6, .ref a7, .ref a8, .ref a9, .ref a10, .ref a11, .int (iI x12), .ref a12, .ref a13, .ref a14, .ref a15, .int (iI x13), .int r2, .int r3, .ref a16, .int (iI x14), .int (iI x15), .ref a17, .ref a18, .int (iI x16), .ref a19, .int (iI x17), .int r4, .ref a20, .ref a21, .int (iI x18), .int r5, .ref a22, .int (iI x19), .int (iI x20), .int (iI x21), .int (iI x22)])), (a2, .inl (T 0, 329, .inl (cI f0))), (a16, .inl (T 0, 10, .inl (cI f1)))] sz) (qI D [(a0, .inr (11, [.int r0, .ref a1, .int (iI x2), .int (iI x3), .int (iI x4), .int (iI x5), .int (iI x6), .int (iI x7), .int r1, .int (iI x8), .int (iI x9), .int (iI x10), .long y0, .int (iI x11), .ref a2, .ref a3, .ref a4, .ref a5, .ref a6, .ref a7, .ref a8, .ref a9, .ref a10, .ref a11, .int (iI x12), .ref a12, .ref a13, .ref a14, .ref a15, .int (iI x13), .int r2, .int r3, .ref a16, .int (iI x14), .int (iI x15), .ref a17, .ref a18, .int (iI x16), .ref a19, .int (iI x17), .int r4, .ref a20, .ref a21, .int (iI x18), .int r5, .ref a22, .int (iI x19), .int (iI x20), .int (iI x21), .int (iI x22)])), (a2, .inl (T 0, 329, .inl (cI f0))), (a16, .inl (T 0, 10, .inl (cI f1)))] sz (fun (v : Int32) (u : Int) => iI u = v ∧ (-2147483648) ≤ u ∧ u ≤ 2147483647 ∧ (lfQ (f0 0) x0 (slC f1 x0 (Int.toNat x1)) x1 u)) (fun u => [(a0, .inr (11, [.int r0, .ref a1, .int (iI x2), .int (iI x3), .int (iI x4), .int (iI x5), .int (iI x6), .int (iI x7), .int r1, .int (iI x8), .int (iI x9), .int (iI x10), .long y0, .int (iI x11), .ref a2, .ref a3, .ref a4, .ref a5, .ref a6, .ref a7, .ref a8, .ref a9, .ref a10, .ref a11, .int (iI x12), .ref a12, .ref a13, .ref a14, .ref a15, .int (iI x13), .int r2, .int r3, .ref a16, .int (iI x14), .int (iI x15), .ref a17, .ref a18, .int (iI x16), .ref a19, .int (iI x17), .int r4, .ref a20, .ref a21, .int (iI x18), .int r5, .ref a22, .int (iI x19), .int (iI x20), .int (iI x21), .int (iI x22)])), (a2, .inl (T 0, 329, .inl (cI f0))), (a16, .inl (T 0, 10, .inl (cI f1)))])) 0 0 (va_A [(a0, .inr (11, [.int r0, .ref a1, .int (iI x2), .int (iI x3), .int (iI x4), .int (iI x5), .int (iI x6), .int (iI x7), .int r1, .int (iI x8), .int (iI x9), .int (iI x10), .long y0, .int (iI x11), .ref a2, .ref a3, .ref a4, .ref a5, .ref a6, .ref a7, .ref a8, .ref a9, .ref a10, .ref a11, .int (iI x12), .ref a12, .ref a13, .ref a14, .ref a15, .int (iI x13), .int r2, .int r3, .ref a16, .int (iI x14), .int (iI x15), .ref a17, .ref a18, .int (iI x16), .ref a19, .int (iI x17), .int r4, .ref a20, .ref a21, .int (iI x18), .int r5, .ref a22, .int (iI x19), .int (iI x20), .int (iI x21), .int (iI x22)])), (a2, .inl (T 0, 329, .inl (cI f0))), (a16, .inl (T 0, 10, .inl (cI f1)))] sz) := by
  refine e_I (by decide) (Nat.le_of_ble_eq_true rfl) ?_
  intro p e s m args below meth c A Q ls M hin w ret hl
  have hx := M.1.1
  have hb := M.1.2.1
  have hl : lv_has ls 7 [(0, .ref a0), (1, .int (iI x0)), (2, .int (iI x1))] := hl
  refine lv_iconst (v := iI 0) hx hb dX12_leftBy_0 (by decide +kernel) ?_
  refine lv_istore_n (lv' := [(3, .int (iI 0)), (0, .ref a0), (1, .int (iI x0)), (2, .int (iI x1))]) hx hb dX12_leftBy_1 rfl hl (by decide) rfl (fun ls hl => ?_)
  refine lv_iconst (v := iI 0) hx hb dX12_leftBy_2 (by decide +kernel) ?_
  refine lv_istore (lv' := [(4, .int (iI 0)), (3, .int (iI 0)), (0, .ref a0), (1, .int (iI x0)), (2, .int (iI x1))]) hx hb dX12_leftBy_3 hl (by decide) rfl (fun ls hl => ?_)
  have loop1 : ∀ (k1 : Nat) (z1 : Int) (z2 : Int) (H : Heap) (locs : List Loc) (ls : Array Slot), 0 ≤ z1 → z1 ≤ 10 → (-2147483648) ≤ z2 → z2 ≤ 2147483647 → 0 ≤ (x1 - z1) → mxP (f0 0) x0 (slC f1 x0 (Int.toNat z1)) (slC f1 x0 (Int.toNat x1)) z1 x1 z2 → ((x1 - z1) : Int).toNat < k1 → WD D A s.heap [(a0, .inr (11, [.int r0, .ref a1, .int (iI x2), .int (iI x3), .int (iI x4), .int (iI x5), .int (iI x6), .int (iI x7), .int r1, .int (iI x8), .int (iI x9), .int (iI x10), .long y0, .int (iI x11), .ref a2, .ref a3, .ref a4, .ref a5, .ref a6, .ref a7, .ref a8, .ref a9, .ref a10, .ref a11, .int (iI x12), .ref a12, .ref a13, .ref a14, .ref a15, .int (iI x13), .int r2, .int r3, .ref a16, .int (iI x14), .int (iI x15), .ref a17, .ref a18, .int (iI x16), .ref a19, .int (iI x17), .int r4, .ref a20, .ref a21, .int (iI x18), .int r5, .ref a22, .int (iI x19), .int (iI x20), .int (iI x21), .int (iI x22)])), (a2, .inl (T 0, 329, .inl (cI f0))), (a16, .inl (T 0, 10, .inl (cI f1)))] H locs → lv_has ls 7 [(4, .int (iI z1)), (3, .int (iI z2)), (0, .ref a0), (1, .int (iI x0)), (2, .int (iI x1))] → W p l e (Rm 1 0 0) s m args below meth c H locs 0 0 Q (F0 m 5 ls []) := by
    intro k1
    induction k1 with
    | zero => intro z1 z2 H locs ls z1_a z1_b z2_a z2_b q1_0 lq1_m hm; exact absurd hm (Nat.not_lt_zero _)
    | succ k1 ih1 =>
      intro z1 z2 H locs ls z1_a z1_b z2_a z2_b q1_0 lq1_m hm1 w hl
      refine lv_iload hx hb dX12_leftBy_5 (lv_at hl 0 rfl) ?_
      refine lv_iload_n hx hb dX12_leftBy_7 rfl (lv_at hl 4 rfl) ?_
      refine lv_icmp_ge (tgt := 74) hx hb dX12_leftBy_8 (by decide) (fun c_3 => ?_) (fun c_3 => ?_)
      · replace c_3 := (iI_le (Int.le_trans (by decide) x1_a) (Int.le_trans x1_b (by decide)) (Int.le_trans (by decide) z1_a) (Int.le_trans z1_b (by decide))).mp c_3
        refine lv_iload_n hx hb dX12_leftBy_74 rfl (lv_at hl 1 rfl) ?_
        exact ret _ z2 _ _ _ _ _ [0, 1, 2] dX12_leftBy_75 ⟨rfl, z2_a, z2_b, (show lfQ (f0 0) x0 (slC f1 x0 (Int.toNat x1)) x1 z2 from (mxP_f lq1_m (by omega) (by omega)))⟩ w (by decide) rfl
      · replace c_3 : z1 < x1 := Int.not_le.mp (fun h => c_3 ((iI_le (Int.le_trans (by decide) x1_a) (Int.le_trans x1_b (by decide)) (Int.le_trans (by decide) z1_a) (Int.le_trans z1_b (by decide))).mpr h))
        refine lv_iconst (v := iI 0) hx hb dX12_leftBy_11 (by decide +kernel) ?_
        refine lv_istore (lv' := [(5, .int (iI 0)), (4, .int (iI z1)), (3, .int (iI z2)), (0, .ref a0), (1, .int (iI x0)), (2, .int (iI x1))]) hx hb dX12_leftBy_12 hl (by decide) rfl (fun ls hl => ?_)
        refine lv_iconst (v := iI 0) hx hb dX12_leftBy_14 (by decide +kernel) ?_
        refine lv_istore (lv' := [(6, .int (iI 0)), (5, .int (iI 0)), (4, .int (iI z1)), (3, .int (iI z2)), (0, .ref a0), (1, .int (iI x0)), (2, .int (iI x1))]) hx hb dX12_leftBy_15 hl (by decide) rfl (fun ls hl => ?_)
        have loop2 : ∀ (k2 : Nat) (z4 : Int) (z5 : Int) (H : Heap) (locs : List Loc) (ls : Array Slot), 0 ≤ z4 → z4 ≤ 10 → 0 ≤ z5 → z5 ≤ 10 → 0 ≤ (z4 - z5) → 0 ≤ (x1 - z4) → alJ (f0 0) x0 (f1 z1) (slC f1 x0 (Int.toNat z4)) z4 z5 → ((x1 - z4) : Int).toNat < k2 → WD D A s.heap [(a0, .inr (11, [.int r0, .ref a1, .int (iI x2), .int (iI x3), .int (iI x4), .int (iI x5), .int (iI x6), .int (iI x7), .int r1, .int (iI x8), .int (iI x9), .int (iI x10), .long y0, .int (iI x11), .ref a2, .ref a3, .ref a4, .ref a5, .ref a6, .ref a7, .ref a8, .ref a9, .ref a10, .ref a11, .int (iI x12), .ref a12, .ref a13, .ref a14, .ref a15, .int (iI x13), .int r2, .int r3, .ref a16, .int (iI x14), .int (iI x15), .ref a17, .ref a18, .int (iI x16), .ref a19, .int (iI x17), .int r4, .ref a20, .ref a21, .int (iI x18), .int r5, .ref a22, .int (iI x19), .int (iI x20), .int (iI x21), .int (iI x22)])), (a2, .inl (T 0, 329, .inl (cI f0))), (a16, .inl (T 0, 10, .inl (cI f1)))] H locs → lv_has ls 7 [(6, .int (iI z4)), (5, .int (iI z5)), (4, .int (iI z1)), (3, .int (iI z2)), (0, .ref a0), (1, .int (iI x0)), (2, .int (iI x1))] → W p l e (Rm 1 0 0) s m args below meth c H locs 0 0 Q (F0 m 17 ls []) := by
          intro k2
          induction k2 with
          | zero => intro z4 z5 H locs ls z4_a z4_b z5_a z5_b q2_0 q2_1 lq2_a hm; exact absurd hm (Nat.not_lt_zero _)
          | succ k2 ih2 =>
            intro z4 z5 H locs ls z4_a z4_b z5_a z5_b q2_0 q2_1 lq2_a hm2 w hl
            refine lv_iload hx hb dX12_leftBy_17 (lv_at hl 0 rfl) ?_
            refine lv_iload_n hx hb dX12_leftBy_19 rfl (lv_at hl 6 rfl) ?_
            refine lv_icmp_ge (tgt := 59) hx hb dX12_leftBy_20 (by decide) (fun c_6 => ?_) (fun c_6 => ?_)
            · replace c_6 := (iI_le (Int.le_trans (by decide) x1_a) (Int.le_trans x1_b (by decide)) (Int.le_trans (by decide) z4_a) (Int.le_trans z4_b (by decide))).mp c_6
              refine lv_iload hx hb dX12_leftBy_59 (lv_at hl 1 rfl) ?_
              refine lv_iload_n hx hb dX12_leftBy_61 rfl (lv_at hl 3 rfl) ?_
              refine lv_icmp_le (tgt := 68) hx hb dX12_leftBy_62 (by decide) (fun c_7 => ?_) (fun c_7 => ?_)
              · replace c_7 := (iI_le (Int.le_trans (by decide) z5_a) (Int.le_trans z5_b (by decide)) (Int.le_trans (by decide) z2_a) (Int.le_trans z2_b (by decide))).mp c_7
                refine lv_iinc (v := iI (z1 + 1)) (lv' := [(4, .int (iI (z1 + 1))), (6, .int (iI z4)), (5, .int (iI z5)), (3, .int (iI z2)), (0, .ref a0), (1, .int (iI x0)), (2, .int (iI x1))]) hx hb dX12_leftBy_68 hl (k := 2) rfl (ii_inc (by decide +kernel)) (by decide) rfl (fun ls hl => ?_)
                refine lv_goto (tgt := 5) hx hb dX12_leftBy_71 (by decide) ?_
                exact ih1 (z1 + 1) z2 _ _ _ (by omega) (by omega) z2_a z2_b (by omega) (mxP_t lq1_m lq2_a (by omega) (by omega) (by omega) (by omega)) (by omega) w (lv_sub hl [0, 3, 4, 5, 6] rfl)
              · replace c_7 : z2 < z5 := Int.not_le.mp (fun h => c_7 ((iI_le (Int.le_trans (by decide) z5_a) (Int.le_trans z5_b (by decide)) (Int.le_trans (by decide) z2_a) (Int.le_trans z2_b (by decide))).mpr h))
                refine lv_iload hx hb dX12_leftBy_65 (lv_at hl 1 rfl) ?_
                refine lv_istore_n (lv' := [(3, .int (iI z5)), (6, .int (iI z4)), (5, .int (iI z5)), (4, .int (iI z1)), (0, .ref a0), (1, .int (iI x0)), (2, .int (iI x1))]) hx hb dX12_leftBy_67 rfl hl (by decide) rfl (fun ls hl => ?_)
                refine lv_iinc (v := iI (z1 + 1)) (lv' := [(4, .int (iI (z1 + 1))), (3, .int (iI z5)), (6, .int (iI z4)), (5, .int (iI z5)), (0, .ref a0), (1, .int (iI x0)), (2, .int (iI x1))]) hx hb dX12_leftBy_68 hl (k := 3) rfl (ii_inc (by decide +kernel)) (by decide) rfl (fun ls hl => ?_)
                refine lv_goto (tgt := 5) hx hb dX12_leftBy_71 (by decide) ?_
                exact ih1 (z1 + 1) z5 _ _ _ (by omega) (by omega) (by omega) (by omega) (by omega) (mxP_t lq1_m lq2_a (by omega) (by omega) (by omega) (by omega)) (by omega) w (lv_sub hl [0, 1, 4, 5, 6] rfl)
            · replace c_6 : z4 < x1 := Int.not_le.mp (fun h => c_6 ((iI_le (Int.le_trans (by decide) x1_a) (Int.le_trans x1_b (by decide)) (Int.le_trans (by decide) z4_a) (Int.le_trans z4_b (by decide))).mpr h))
              refine lv_aload_n hx hb dX12_leftBy_23 rfl (lv_at hl 4 rfl) ?_
              refine lv_iload_n hx hb dX12_leftBy_24 rfl (lv_at hl 5 rfl) ?_
              refine lv_aload_n hx hb dX12_leftBy_25 rfl (lv_at hl 4 rfl) ?_
              refine r_get (v := .ref a16) M w 0 32 clX12 rfl (by decide) G1495 rfl rfl dX12_leftBy_26 ?_
              refine lv_iload hx hb dX12_leftBy_29 (lv_at hl 0 rfl) ?_
              refine r_iald (v := iI (f1 z4)) M w 2 rfl (iI_in (by omega) (by omega) (by decide)) (cI_at (by omega) (by omega)) dX12_leftBy_31 ?_
              have hh8 : 0 ≤ (f1 z4) ∧ (f1 z4) ≤ 9 := f1_h z4
              refine k_I (ce := 0) (sl := 0) (rest := []) (wr := [(a16, .inl (T 0, 10, .inl (cI f1)))]) (r_V (f := 0) [0, 1] M w V_HookedCityModel_328 G1895 G93 (c102_X12_inBy l D T _ a0 x0 (f1 z4) r0 a1 x2 x3 x4 x5 x6 x7 r1 x8 x9 x10 y0 x11 a2 a3 a4 a5 a6 a7 a8 a9 a10 a11 x12 a12 a13 a14 a15 x13 r2 r3 a16 x14 x15 a17 a18 x16 a19 x17 r4 a20 a21 x18 r5 a22 x19 x20 x21 x22 f0 (by omega) (by omega) (by omega) (by omega) x2_a x2_b x3_a x3_b x4_a x4_b x5_a x5_b x6_a x6_b x7_a x7_b x8_a x8_b x9_a x9_b x10_a x10_b x11_a x11_b x12_a x12_b x13_a x13_b x14_a x14_b x15_a x15_b x16_a x16_b x17_a x17_b x18_a x18_b x19_a x19_b x20_a x20_b x21_a x21_b x22_a x22_b f0_h) 0 clX12 rfl rfl (by decide) rfl hl.1 rfl (Nat.le_of_ble_eq_true rfl) dX12_leftBy_32 (by decide) (by decide) (by decide) (by decide)) w [0, 1] [2] rfl rfl (by decide) (by decide) rfl rfl (fun v z9 H locs hp w => ?_)
              have hv : iI z9 = v := hp.1
              subst hv
              have z9_a : (-2147483648) ≤ z9 := hp.2.1
              have z9_b : z9 ≤ 2147483647 := hp.2.2.1
              have pq10 : z9 = inB (f0 0) x0 (f1 z4) := hp.2.2.2
              have w : WD D A s.heap [(a16, .inl (T 0, 10, .inl (cI f1))), (a0, .inr (11, [.int r0, .ref a1, .int (iI x2), .int (iI x3), .int (iI x4), .int (iI x5), .int (iI x6), .int (iI x7), .int r1, .int (iI x8), .int (iI x9), .int (iI x10), .long y0, .int (iI x11), .ref a2, .ref a3, .ref a4, .ref a5, .ref a6, .ref a7, .ref a8, .ref a9, .ref a10, .ref a11, .int (iI x12), .ref a12, .ref a13, .ref a14, .ref a15, .int (iI x13), .int r2, .int r3, .ref a16, .int (iI x14), .int (iI x15), .ref a17, .ref a18, .int (iI x16), .ref a19, .int (iI x17), .int r4, .ref a20, .ref a21, .int (iI x18), .int r5, .ref a22, .int (iI x19), .int (iI x20), .int (iI x21), .int (iI x22)])), (a2, .inl (T 0, 329, .inl (cI f0)))] H locs := w
              refine lv_aload_n hx hb dX12_leftBy_35 rfl (lv_at hl 4 rfl) ?_
              refine lv_iload_n hx hb dX12_leftBy_36 rfl (lv_at hl 5 rfl) ?_
              refine lv_aload_n hx hb dX12_leftBy_37 rfl (lv_at hl 4 rfl) ?_
              refine r_get (v := .ref a16) M w 1 32 clX12 rfl (by decide) G1495 rfl rfl dX12_leftBy_38 ?_
              refine lv_iload hx hb dX12_leftBy_41 (lv_at hl 2 rfl) ?_
              refine r_iald (v := iI (f1 z1)) M w 0 rfl (iI_in (by omega) (by omega) (by decide)) (cI_at (by omega) (by omega)) dX12_leftBy_43 ?_
              have hh11 : 0 ≤ (f1 z1) ∧ (f1 z1) ≤ 9 := f1_h z1
              refine k_I (ce := 0) (sl := 0) (rest := [.int (iI z9)]) (wr := [(a16, .inl (T 0, 10, .inl (cI f1)))]) (r_V (f := 0) [1, 2] M w V_HookedCityModel_328 G1895 G93 (c102_X12_inBy l D T _ a0 x0 (f1 z1) r0 a1 x2 x3 x4 x5 x6 x7 r1 x8 x9 x10 y0 x11 a2 a3 a4 a5 a6 a7 a8 a9 a10 a11 x12 a12 a13 a14 a15 x13 r2 r3 a16 x14 x15 a17 a18 x16 a19 x17 r4 a20 a21 x18 r5 a22 x19 x20 x21 x22 f0 (by omega) (by omega) (by omega) (by omega) x2_a x2_b x3_a x3_b x4_a x4_b x5_a x5_b x6_a x6_b x7_a x7_b x8_a x8_b x9_a x9_b x10_a x10_b x11_a x11_b x12_a x12_b x13_a x13_b x14_a x14_b x15_a x15_b x16_a x16_b x17_a x17_b x18_a x18_b x19_a x19_b x20_a x20_b x21_a x21_b x22_a x22_b f0_h) 1 clX12 rfl rfl (by decide) rfl hl.1 rfl (Nat.le_of_ble_eq_true rfl) dX12_leftBy_44 (by decide) (by decide) (by decide) (by decide)) w [1, 2] [0] rfl rfl (by decide) (by decide) rfl rfl (fun v z12 H locs hp w => ?_)
              have hv : iI z12 = v := hp.1
              subst hv
              have z12_a : (-2147483648) ≤ z12 := hp.2.1
              have z12_b : z12 ≤ 2147483647 := hp.2.2.1
              have pq13 : z12 = inB (f0 0) x0 (f1 z1) := hp.2.2.2
              have w : WD D A s.heap [(a16, .inl (T 0, 10, .inl (cI f1))), (a0, .inr (11, [.int r0, .ref a1, .int (iI x2), .int (iI x3), .int (iI x4), .int (iI x5), .int (iI x6), .int (iI x7), .int r1, .int (iI x8), .int (iI x9), .int (iI x10), .long y0, .int (iI x11), .ref a2, .ref a3, .ref a4, .ref a5, .ref a6, .ref a7, .ref a8, .ref a9, .ref a10, .ref a11, .int (iI x12), .ref a12, .ref a13, .ref a14, .ref a15, .int (iI x13), .int r2, .int r3, .ref a16, .int (iI x14), .int (iI x15), .ref a17, .ref a18, .int (iI x16), .ref a19, .int (iI x17), .int r4, .ref a20, .ref a21, .int (iI x18), .int r5, .ref a22, .int (iI x19), .int (iI x20), .int (iI x21), .int (iI x22)])), (a2, .inl (T 0, 329, .inl (cI f0)))] H locs := w
              refine lv_icmp_ne (tgt := 53) hx hb dX12_leftBy_47 (by decide) (fun c_14 => ?_) (fun c_14 => ?_)
              · replace c_14 : ¬ z9 = z12 := fun h => c_14 ((iI_eq (Int.le_trans (by decide) z9_a) (Int.le_trans z9_b (by decide)) (Int.le_trans (by decide) z12_a) (Int.le_trans z12_b (by decide))).mpr h)
                refine lv_iinc (v := iI (z4 + 1)) (lv' := [(6, .int (iI (z4 + 1))), (5, .int (iI z5)), (4, .int (iI z1)), (3, .int (iI z2)), (0, .ref a0), (1, .int (iI x0)), (2, .int (iI x1))]) hx hb dX12_leftBy_53 hl (k := 0) rfl (ii_inc (by decide +kernel)) (by decide) rfl (fun ls hl => ?_)
                refine lv_goto (tgt := 17) hx hb dX12_leftBy_56 (by decide) ?_
                exact ih2 (z4 + 1) z5 _ _ _ (by omega) (by omega) z5_a z5_b (by omega) (by omega) (alJ_t lq2_a (by omega) (by omega) (by have e1 := pq10; have e2 := pq13; omega)) (by omega) (w.sub [1, 2, 0] (by decide) rfl) (lv_sub hl [0, 1, 2, 3, 4, 5, 6] rfl)
              · replace c_14 := (iI_eq (Int.le_trans (by decide) z9_a) (Int.le_trans z9_b (by decide)) (Int.le_trans (by decide) z12_a) (Int.le_trans z12_b (by decide))).mp c_14
                refine lv_iinc (v := iI (z5 + 1)) (lv' := [(5, .int (iI (z5 + 1))), (6, .int (iI z4)), (4, .int (iI z1)), (3, .int (iI z2)), (0, .ref a0), (1, .int (iI x0)), (2, .int (iI x1))]) hx hb dX12_leftBy_50 hl (k := 1) rfl (ii_inc (by decide +kernel)) (by decide) rfl (fun ls hl => ?_)
                refine lv_iinc (v := iI (z4 + 1)) (lv' := [(6, .int (iI (z4 + 1))), (5, .int (iI (z5 + 1))), (4, .int (iI z1)), (3, .int (iI z2)), (0, .ref a0), (1, .int (iI x0)), (2, .int (iI x1))]) hx hb dX12_leftBy_53 hl (k := 1) rfl (ii_inc (by decide +kernel)) (by decide) rfl (fun ls hl => ?_)
                refine lv_goto (tgt := 17) hx hb dX12_leftBy_56 (by decide) ?_
                exact ih2 (z4 + 1) (z5 + 1) _ _ _ (by omega) (by omega) (by omega) (by omega) (by omega) (by omega) (alJ_t lq2_a (by omega) (by omega) (by have e1 := pq10; have e2 := pq13; omega)) (by omega) (w.sub [1, 2, 0] (by decide) rfl) (lv_sub hl [0, 1, 2, 3, 4, 5, 6] rfl)
        exact loop2 (((x1 - 0) : Int).toNat + 1) 0 0 _ _ _ (by decide) (by decide) (by decide) (by decide) (by omega) (by omega) (alJ_0 rfl) (Nat.lt_succ_self _) w (lv_sub hl [0, 1, 2, 3, 4, 5, 6] rfl)
  exact loop1 (((x1 - 0) : Int).toNat + 1) 0 0 _ _ _ (by decide) (by decide) (by decide) (by decide) (by omega) (mxP_0 rfl) (Nat.lt_succ_self _) w (lv_sub hl [0, 1, 2, 3, 4] rfl)
set_option maxRecDepth 100000 in
set_option maxHeartbeats 4000000 in
theorem c104_X12_slips (l : Launch) (D : va_G) (T : Nat → ClassId) (sz : Nat) (a0 : Nat) (r0 : Int32) (a1 : Nat) (x0 : Int) (x1 : Int) (x2 : Int) (x3 : Int) (x4 : Int) (x5 : Int) (r1 : Int32) (x6 : Int) (x7 : Int) (x8 : Int) (y0 : Int64) (x9 : Int) (a2 : Nat) (a3 : Nat) (a4 : Nat) (a5 : Nat) (a6 : Nat) (a7 : Nat) (a8 : Nat) (a9 : Nat) (a10 : Nat) (a11 : Nat) (x10 : Int) (a12 : Nat) (a13 : Nat) (a14 : Nat) (a15 : Nat) (x11 : Int) (r2 : Int32) (r3 : Int32) (a16 : Nat) (x12 : Int) (x13 : Int) (a17 : Nat) (a18 : Nat) (x14 : Int) (a19 : Nat) (x15 : Int) (r4 : Int32) (a20 : Nat) (a21 : Nat) (x16 : Int) (r5 : Int32) (a22 : Nat) (x17 : Int) (x18 : Int) (x19 : Int) (x20 : Int) (f0 : Int → Int) (f1 : Int → Int) (f2 : Int → Int) (x0_a : 0 ≤ x0) (x0_b : x0 ≤ 940) (x1_a : 0 ≤ x1) (x1_b : x1 ≤ 940) (x2_a : 0 ≤ x2) (x2_b : x2 ≤ 940) (x3_a : 0 ≤ x3) (x3_b : x3 ≤ 940) (x4_a : 0 ≤ x4) (x4_b : x4 ≤ 940) (x5_a : 0 ≤ x5) (x5_b : x5 ≤ 4) (x6_a : (-2147483648) ≤ x6) (x6_b : x6 ≤ 2147483647) (x7_a : (-2147483648) ≤ x7) (x7_b : x7 ≤ 2147483647) (x8_a : 0 ≤ x8) (x8_b : x8 ≤ 940) (x9_a : (-2147483648) ≤ x9) (x9_b : x9 ≤ 2147483647) (x10_a : 0 ≤ x10) (x10_b : x10 ≤ 8) (x11_a : 0 ≤ x11) (x11_b : x11 ≤ 9) (x12_a : (-1) ≤ x12) (x12_b : x12 ≤ 9) (x13_a : (-1) ≤ x13) (x13_b : x13 ≤ 8) (x14_a : 0 ≤ x14) (x14_b : x14 ≤ 9) (x15_a : 0 ≤ x15) (x15_b : x15 ≤ 64) (x16_a : 0 ≤ x16) (x16_b : x16 ≤ 40) (x17_a : 0 ≤ x17) (x17_b : x17 ≤ 40) (x18_a : 0 ≤ x18) (x18_b : x18 ≤ 20) (x19_a : 0 ≤ x19) (x19_b : x19 ≤ 8) (x20_a : 0 ≤ x20) (x20_b : x20 ≤ 39) (f0_h : rng 0 255 f0) (f1_h : nowI f1) (f2_h : rng 0 9 f2) : Met l yX12_slips (Cond.code yX12_slips cX12_slips 6 (some .int) :: GW) (Rm 2 0 0) (cPre [.ref a0] D T [(a0, .inr (11, [.int r0, .ref a1, .int (iI x0), .int (iI x1), .int (iI x2), .int (iI x3), .int (iI x4), .int (iI x5), .int r1, .int (iI x6), .int (iI x7), .int (iI x8), .long y0, .int (iI x9), .ref a2, .ref a3, .ref a4, .ref a5, .ref a6, .ref a7, .ref a8, .ref a9, .ref a10, .ref a11, .int (iI x10), .ref a12, .ref a13, .ref a14, .ref a15, .int (iI x11), .int r2, .int r3, .ref a16, .int (iI x12), .int (iI x13), .ref a17, .ref a18, .int (iI x14), .ref a19, .int (iI x15), .int r4, .ref a20, .ref a21, .int (iI x16), .int r5, .ref a22, .int (iI x17), .int (iI x18), .int (iI x19), .int (iI x20)])), (a1, .inl (T 0, 940, .inl (cI f0))), (a2, .inl (T 0, 329, .inl (cI f1))), (a16, .inl (T 0, 10, .inl (cI f2)))] sz) (qI D [(a0, .inr (11, [.int r0, .ref a1, .int (iI x0), .int (iI x1), .int (iI x2), .int (iI x3), .int (iI x4), .int (iI x5), .int r1, .int (iI x6), .int (iI x7), .int (iI x8), .long y0, .int (iI x9), .ref a2, .ref a3, .ref a4, .ref a5, .ref a6, .ref a7, .ref a8, .ref a9, .ref a10, .ref a11, .int (iI x10), .ref a12, .ref a13, .ref a14, .ref a15, .int (iI x11), .int r2, .int r3, .ref a16, .int (iI x12), .int (iI x13), .ref a17, .ref a18, .int (iI x14), .ref a19, .int (iI x15), .int r4, .ref a20, .ref a21, .int (iI x16), .int r5, .ref a22, .int (iI x17), .int (iI x18), .int (iI x19), .int (iI x20)])), (a1, .inl (T 0, 940, .inl (cI f0))), (a2, .inl (T 0, 329, .inl (cI f1))), (a16, .inl (T 0, 10, .inl (cI f2)))] sz (fun (v : Int32) (u : Int × Int32 × Int × Int × Int × (Int → Int)) => iI u.1 = v ∧ (-2147483648) ≤ u.1 ∧ u.1 ≤ 2147483647 ∧ 0 ≤ u.2.2.1 ∧ u.2.2.1 ≤ 940 ∧ (-1) ≤ u.2.2.2.1 ∧ u.2.2.2.1 ≤ 9 ∧ (-1) ≤ u.2.2.2.2.1 ∧ u.2.2.2.2.1 ≤ 8 ∧ rng 0 9 u.2.2.2.2.2 ∧ 0 ≤ (0 - u.2.2.1) ∧ (slQ f0 (f1 0) x0 u.1 x12 u.2.2.2.1 x13 u.2.2.2.2.1)) (fun u => [(a0, .inr (11, [.int u.2.1, .ref a1, .int (iI u.2.2.1), .int (iI x1), .int (iI x2), .int (iI x3), .int (iI x4), .int (iI x5), .int r1, .int (iI x6), .int (iI x7), .int (iI x8), .long y0, .int (iI x9), .ref a2, .ref a3, .ref a4, .ref a5, .ref a6, .ref a7, .ref a8, .ref a9, .ref a10, .ref a11, .int (iI x10), .ref a12, .ref a13, .ref a14, .ref a15, .int (iI x11), .int r2, .int r3, .ref a16, .int (iI u.2.2.2.1), .int (iI u.2.2.2.2.1), .ref a17, .ref a18, .int (iI x14), .ref a19, .int (iI x15), .int r4, .ref a20, .ref a21, .int (iI x16), .int r5, .ref a22, .int (iI x17), .int (iI x18), .int (iI x19), .int (iI x20)])), (a1, .inl (T 0, 940, .inl (cI f0))), (a2, .inl (T 0, 329, .inl (cI f1))), (a16, .inl (T 0, 10, .inl (cI u.2.2.2.2.2)))])) 0 0 (va_A [(a0, .inr (11, [.int r0, .ref a1, .int (iI x0), .int (iI x1), .int (iI x2), .int (iI x3), .int (iI x4), .int (iI x5), .int r1, .int (iI x6), .int (iI x7), .int (iI x8), .long y0, .int (iI x9), .ref a2, .ref a3, .ref a4, .ref a5, .ref a6, .ref a7, .ref a8, .ref a9, .ref a10, .ref a11, .int (iI x10), .ref a12, .ref a13, .ref a14, .ref a15, .int (iI x11), .int r2, .int r3, .ref a16, .int (iI x12), .int (iI x13), .ref a17, .ref a18, .int (iI x14), .ref a19, .int (iI x15), .int r4, .ref a20, .ref a21, .int (iI x16), .int r5, .ref a22, .int (iI x17), .int (iI x18), .int (iI x19), .int (iI x20)])), (a1, .inl (T 0, 940, .inl (cI f0))), (a2, .inl (T 0, 329, .inl (cI f1))), (a16, .inl (T 0, 10, .inl (cI f2)))] sz) := by
  refine e_I (by decide) (Nat.le_of_ble_eq_true rfl) ?_
  intro p e s m args below meth c A Q ls M hin w ret hl
  have hx := M.1.1
  have hb := M.1.2.1
  have hl : lv_has ls 6 [(0, .ref a0)] := hl
  refine lv_aload_n hx hb dX12_slips_0 rfl (lv_at hl 0 rfl) ?_
  refine lv_iconst (v := iI 0) hx hb dX12_slips_1 (by decide +kernel) ?_
  refine r_put (ws' := [(a0, .inr (11, [.int (iI 0), .ref a1, .int (iI x0), .int (iI x1), .int (iI x2), .int (iI x3), .int (iI x4), .int (iI x5), .int r1, .int (iI x6), .int (iI x7), .int (iI x8), .long y0, .int (iI x9), .ref a2, .ref a3, .ref a4, .ref a5, .ref a6, .ref a7, .ref a8, .ref a9, .ref a10, .ref a11, .int (iI x10), .ref a12, .ref a13, .ref a14, .ref a15, .int (iI x11), .int r2, .int r3, .ref a16, .int (iI x12), .int (iI x13), .ref a17, .ref a18, .int (iI x14), .ref a19, .int (iI x15), .int r4, .ref a20, .ref a21, .int (iI x16), .int r5, .ref a22, .int (iI x17), .int (iI x18), .int (iI x19), .int (iI x20)])), (a1, .inl (T 0, 940, .inl (cI f0))), (a2, .inl (T 0, 329, .inl (cI f1))), (a16, .inl (T 0, 10, .inl (cI f2)))]) M w 0 0 clX12 rfl (by decide) G1463 rfl rfl rfl rfl (Nat.le_of_ble_eq_true rfl) rfl dX12_slips_2 (fun H locs w => ?_)
  refine lv_aload_n hx hb dX12_slips_5 rfl (lv_at hl 0 rfl) ?_
  refine k_I (ce := 0) (sl := 0) (rest := []) (wr := [(a1, .inl (T 0, 940, .inl (cI f0))), (a2, .inl (T 0, 329, .inl (cI f1))), (a16, .inl (T 0, 10, .inl (cI f2)))]) (r_V (f := 0) [0] M w V_HookedCityModel_89 G1625 G48 (c5_X12_take l D T _ a0 (iI 0) a1 x0 x1 x2 x3 x4 x5 r1 x6 x7 x8 y0 x9 a2 a3 a4 a5 a6 a7 a8 a9 a10 a11 x10 a12 a13 a14 a15 x11 r2 r3 a16 x12 x13 a17 a18 x14 a19 x15 r4 a20 a21 x16 r5 a22 x17 x18 x19 x20 x0_a x0_b x1_a x1_b x2_a x2_b x3_a x3_b x4_a x4_b x5_a x5_b x6_a x6_b x7_a x7_b x8_a x8_b x9_a x9_b x10_a x10_b x11_a x11_b x12_a x12_b x13_a x13_b x14_a x14_b x15_a x15_b x16_a x16_b x17_a x17_b x18_a x18_b x19_a x19_b x20_a x20_b) 0 clX12 rfl rfl (by decide) rfl hl.1 rfl (Nat.le_of_ble_eq_true rfl) dX12_slips_6 (by decide) (by decide) (by decide) (by decide)) w [0] [1, 2, 3] rfl rfl (by decide) (by decide) rfl rfl (fun v u H locs hp w => ?_)
  obtain ⟨z1, z2⟩ := u
  have hv : iI z1 = v := hp.1
  subst hv
  have z1_a : 0 ≤ z1 := hp.2.1
  have z1_b : z1 ≤ 940 := hp.2.2.1
  have z2_a : 0 ≤ z2 := hp.2.2.2.1
  have z2_b : z2 ≤ 940 := hp.2.2.2.2.1
  have ee3 : 0 ≤ (0 - z2) := hp.2.2.2.2.2.1
  have ee4 : 0 ≤ (z1 - x0) := hp.2.2.2.2.2.2.1
  have ee5 : 0 ≤ (x0 - z1) := hp.2.2.2.2.2.2.2
  have w : WD D A s.heap [(a1, .inl (T 0, 940, .inl (cI f0))), (a2, .inl (T 0, 329, .inl (cI f1))), (a16, .inl (T 0, 10, .inl (cI f2))), (a0, .inr (11, [.int (iI 0), .ref a1, .int (iI z2), .int (iI x1), .int (iI x2), .int (iI x3), .int (iI x4), .int (iI x5), .int r1, .int (iI x6), .int (iI x7), .int (iI x8), .long y0, .int (iI x9), .ref a2, .ref a3, .ref a4, .ref a5, .ref a6, .ref a7, .ref a8, .ref a9, .ref a10, .ref a11, .int (iI x10), .ref a12, .ref a13, .ref a14, .ref a15, .int (iI x11), .int r2, .int r3, .ref a16, .int (iI x12), .int (iI x13), .ref a17, .ref a18, .int (iI x14), .ref a19, .int (iI x15), .int r4, .ref a20, .ref a21, .int (iI x16), .int r5, .ref a22, .int (iI x17), .int (iI x18), .int (iI x19), .int (iI x20)]))] H locs := w
  refine lv_istore_n (lv' := [(1, .int (iI z1)), (0, .ref a0)]) hx hb dX12_slips_9 rfl hl (by decide) rfl (fun ls hl => ?_)
  refine lv_iload_n hx hb dX12_slips_10 rfl (lv_at hl 0 rfl) ?_
  refine lv_iconst (v := iI 2) hx hb dX12_slips_11 (by decide +kernel) ?_
  refine r_irem (v := _) M rfl (iz_ne (by decide) (by decide) (Or.inr (by omega))) dX12_slips_12 ?_
  refine b_rngx (lo := 0) (hi := 1) (irem_r (by omega) (by omega) (by omega) (by omega)) (fun z6 z6_a z6_b hz7 => ?_)
  refine lv_if_ne (tgt := 28) hx hb dX12_slips_13 (by decide) (fun c_8 => ?_) (fun c_8 => ?_)
  · replace c_8 : ¬ z6 = 0 := fun h => c_8 ((iz_eq (Int.le_trans (by decide) z6_a) (Int.le_trans z6_b (by decide))).mpr h)
    refine lv_iconst (v := iI (-1)) hx hb dX12_slips_28 (by decide +kernel) ?_
    exact ret _ ((-1), (iI 0), z2, x12, x13, f2) _ _ _ _ _ [3, 0, 1, 2] dX12_slips_29 ⟨rfl, (show (-2147483648) ≤ (-1) from by decide), (show ((-1) : Int) ≤ 2147483647 from by decide), z2_a, z2_b, x12_a, x12_b, x13_a, x13_b, f2_h, (show 0 ≤ (0 - z2) from by omega), (show slQ f0 (f1 0) x0 (-1) x12 x12 x13 x13 from (slQ_b (by have e9 := irem2 (n := z1) (by omega) (by omega); omega)))⟩ w (by decide) rfl
  · replace c_8 := (iz_eq (Int.le_trans (by decide) z6_a) (Int.le_trans z6_b (by decide))).mp c_8
    refine lv_iload_n hx hb dX12_slips_16 rfl (lv_at hl 0 rfl) ?_
    refine lv_iconst (v := iI 2) hx hb dX12_slips_17 (by decide +kernel) ?_
    refine r_idiv (v := _) M rfl (iz_ne (by decide) (by decide) (Or.inr (by omega))) dX12_slips_18 ?_
    refine b_rng (lo := z1 / 2) (hi := z1 / 2) (idiv_d (by omega) (by omega) (by decide) (by decide)) (fun z9 z9_a z9_b => ?_)
    refine lv_iconst (v := iI 1) hx hb dX12_slips_19 (by decide +kernel) ?_
    refine lv_bipush (v := iI 8) hx hb dX12_slips_20 (by decide +kernel) ?_
    refine k_I (ce := 0) (sl := 0) (rest := []) (wr := [(a1, .inl (T 0, 940, .inl (cI f0))), (a2, .inl (T 0, 329, .inl (cI f1))), (a16, .inl (T 0, 10, .inl (cI f2))), (a0, .inr (11, [.int (iI 0), .ref a1, .int (iI z2), .int (iI x1), .int (iI x2), .int (iI x3), .int (iI x4), .int (iI x5), .int r1, .int (iI x6), .int (iI x7), .int (iI x8), .long y0, .int (iI x9), .ref a2, .ref a3, .ref a4, .ref a5, .ref a6, .ref a7, .ref a8, .ref a9, .ref a10, .ref a11, .int (iI x10), .ref a12, .ref a13, .ref a14, .ref a15, .int (iI x11), .int r2, .int r3, .ref a16, .int (iI x12), .int (iI x13), .ref a17, .ref a18, .int (iI x14), .ref a19, .int (iI x15), .int r4, .ref a20, .ref a21, .int (iI x16), .int r5, .ref a22, .int (iI x17), .int (iI x18), .int (iI x19), .int (iI x20)]))]) (r_S (f := 0) [] M w V_HookedCityModel_75 G1693 (c6_X12_isIn l D T _ z9 1 8 (by omega) (by omega) (by decide) (by decide) (by decide) (by decide)) rfl (by decide) rfl hl.1 rfl (Nat.le_of_ble_eq_true rfl) dX12_slips_22 (by decide) (by decide) (by decide) (by decide)) w [] [0, 1, 2, 3] rfl rfl (by decide) (by decide) rfl rfl (fun v z10 H locs hp w => ?_)
    have hv : iI z10 = v := hp.1
    subst hv
    have z10_a : 0 ≤ z10 := hp.2.1
    have z10_b : z10 ≤ 1 := hp.2.2.1
    have w : WD D A s.heap [(a1, .inl (T 0, 940, .inl (cI f0))), (a2, .inl (T 0, 329, .inl (cI f1))), (a16, .inl (T 0, 10, .inl (cI f2))), (a0, .inr (11, [.int (iI 0), .ref a1, .int (iI z2), .int (iI x1), .int (iI x2), .int (iI x3), .int (iI x4), .int (iI x5), .int r1, .int (iI x6), .int (iI x7), .int (iI x8), .long y0, .int (iI x9), .ref a2, .ref a3, .ref a4, .ref a5, .ref a6, .ref a7, .ref a8, .ref a9, .ref a10, .ref a11, .int (iI x10), .ref a12, .ref a13, .ref a14, .ref a15, .int (iI x11), .int r2, .int r3, .ref a16, .int (iI x12), .int (iI x13), .ref a17, .ref a18, .int (iI x14), .ref a19, .int (iI x15), .int r4, .ref a20, .ref a21, .int (iI x16), .int r5, .ref a22, .int (iI x17), .int (iI x18), .int (iI x19), .int (iI x20)]))] H locs := w
    rcases hp.2.2.2 with ⟨c_11, hr⟩ | ⟨c_12, c_13, hr⟩ | ⟨c_14, c_15, hr⟩
    · subst hr
      refine lv_if_ne (tgt := 30) hx hb dX12_slips_25 (by decide) (fun c => absurd (by decide +kernel) c) (fun _ => ?_)
      refine lv_iconst (v := iI (-1)) hx hb dX12_slips_28 (by decide +kernel) ?_
      exact ret _ ((-1), (iI 0), z2, x12, x13, f2) _ _ _ _ _ [3, 0, 1, 2] dX12_slips_29 ⟨rfl, (show (-2147483648) ≤ (-1) from by decide), (show ((-1) : Int) ≤ 2147483647 from by decide), z2_a, z2_b, x12_a, x12_b, x13_a, x13_b, f2_h, (show 0 ≤ (0 - z2) from by omega), (show slQ f0 (f1 0) x0 (-1) x12 x12 x13 x13 from (slQ_b (by have e9 := irem2 (n := z1) (by omega) (by omega); omega)))⟩ w (by decide) rfl
    · subst hr
      refine lv_if_ne (tgt := 30) hx hb dX12_slips_25 (by decide) (fun c => absurd (by decide +kernel) c) (fun _ => ?_)
      refine lv_iconst (v := iI (-1)) hx hb dX12_slips_28 (by decide +kernel) ?_
      exact ret _ ((-1), (iI 0), z2, x12, x13, f2) _ _ _ _ _ [3, 0, 1, 2] dX12_slips_29 ⟨rfl, (show (-2147483648) ≤ (-1) from by decide), (show ((-1) : Int) ≤ 2147483647 from by decide), z2_a, z2_b, x12_a, x12_b, x13_a, x13_b, f2_h, (show 0 ≤ (0 - z2) from by omega), (show slQ f0 (f1 0) x0 (-1) x12 x12 x13 x13 from (slQ_b (by have e9 := irem2 (n := z1) (by omega) (by omega); omega)))⟩ w (by decide) rfl
    · subst hr
      refine lv_if_ne (tgt := 30) hx hb dX12_slips_25 (by decide) (fun _ => ?_) (fun c => absurd c (by decide +kernel))
      refine lv_iconst (v := iI 0) hx hb dX12_slips_30 (by decide +kernel) ?_
      refine lv_istore_n (lv' := [(2, .int (iI 0)), (1, .int (iI z1)), (0, .ref a0)]) hx hb dX12_slips_31 rfl hl (by decide) rfl (fun ls hl => ?_)
      have loop1 : ∀ (k1 : Nat) (z16 : Int) (H : Heap) (locs : List Loc) (ls : Array Slot), 0 ≤ z16 → z16 ≤ 18 → 0 ≤ ((z1 + 1) - z16) → z16 % 2 = 0 → slA f0 (f1 0) z16 → ((18 - z16) : Int).toNat < k1 → WD D A s.heap [(a1, .inl (T 0, 940, .inl (cI f0))), (a2, .inl (T 0, 329, .inl (cI f1))), (a16, .inl (T 0, 10, .inl (cI f2))), (a0, .inr (11, [.int (iI 0), .ref a1, .int (iI z2), .int (iI x1), .int (iI x2), .int (iI x3), .int (iI x4), .int (iI x5), .int r1, .int (iI x6), .int (iI x7), .int (iI x8), .long y0, .int (iI x9), .ref a2, .ref a3, .ref a4, .ref a5, .ref a6, .ref a7, .ref a8, .ref a9, .ref a10, .ref a11, .int (iI x10), .ref a12, .ref a13, .ref a14, .ref a15, .int (iI x11), .int r2, .int r3, .ref a16, .int (iI x12), .int (iI x13), .ref a17, .ref a18, .int (iI x14), .ref a19, .int (iI x15), .int r4, .ref a20, .ref a21, .int (iI x16), .int r5, .ref a22, .int (iI x17), .int (iI x18), .int (iI x19), .int (iI x20)]))] H locs → lv_has ls 6 [(2, .int (iI z16)), (1, .int (iI z1)), (0, .ref a0)] → W p l e (Rm 2 0 0) s m args below meth c H locs 0 0 Q (F0 m 32 ls []) := by
        intro k1
        induction k1 with
        | zero => intro z16 H locs ls z16_a z16_b q1_0 lq1_e lq1_o hm; exact absurd hm (Nat.not_lt_zero _)
        | succ k1 ih1 =>
          intro z16 H locs ls z16_a z16_b q1_0 lq1_e lq1_o hm1 w hl
          refine lv_iload_n hx hb dX12_slips_32 rfl (lv_at hl 0 rfl) ?_
          refine lv_iload_n hx hb dX12_slips_33 rfl (lv_at hl 1 rfl) ?_
          refine lv_icmp_ge (tgt := 87) hx hb dX12_slips_34 (by decide) (fun c_17 => ?_) (fun c_17 => ?_)
          · replace c_17 := (iI_le (Int.le_trans (by decide) z1_a) (Int.le_trans z1_b (by decide)) (Int.le_trans (by decide) z16_a) (Int.le_trans z16_b (by decide))).mp c_17
            refine lv_iconst (v := iI 0) hx hb dX12_slips_87 (by decide +kernel) ?_
            refine lv_istore_n (lv' := [(2, .int (iI 0)), (1, .int (iI z1)), (0, .ref a0)]) hx hb dX12_slips_88 rfl hl (by decide) rfl (fun ls hl => ?_)
            refine lv_iconst (v := iI 0) hx hb dX12_slips_89 (by decide +kernel) ?_
            refine lv_istore_n (lv' := [(3, .int (iI 0)), (2, .int (iI 0)), (1, .int (iI z1)), (0, .ref a0)]) hx hb dX12_slips_90 rfl hl (by decide) rfl (fun ls hl => ?_)
            have loop2 : ∀ (k2 : Nat) (ff18 : Int → Int) (z19 : Int) (z20 : Int) (H : Heap) (locs : List Loc) (ls : Array Slot), rng 0 9 ff18 → 0 ≤ z19 → z19 ≤ 10 → 0 ≤ z20 → z20 ≤ 10 → 0 ≤ (z19 - z20) → z19 ≤ (f1 0) + 1 → slI f0 (f1 0) x0 z19 z20 ff18 → ((10 - z19) : Int).toNat < k2 → WD D A s.heap [(a1, .inl (T 0, 940, .inl (cI f0))), (a2, .inl (T 0, 329, .inl (cI f1))), (a16, .inl (T 0, 10, .inl (cI ff18))), (a0, .inr (11, [.int (iI 0), .ref a1, .int (iI z2), .int (iI x1), .int (iI x2), .int (iI x3), .int (iI x4), .int (iI x5), .int r1, .int (iI x6), .int (iI x7), .int (iI x8), .long y0, .int (iI x9), .ref a2, .ref a3, .ref a4, .ref a5, .ref a6, .ref a7, .ref a8, .ref a9, .ref a10, .ref a11, .int (iI x10), .ref a12, .ref a13, .ref a14, .ref a15, .int (iI x11), .int r2, .int r3, .ref a16, .int (iI x12), .int (iI x13), .ref a17, .ref a18, .int (iI x14), .ref a19, .int (iI x15), .int r4, .ref a20, .ref a21, .int (iI x16), .int r5, .ref a22, .int (iI x17), .int (iI x18), .int (iI x19), .int (iI x20)]))] H locs → lv_has ls 6 [(3, .int (iI z19)), (2, .int (iI z20)), (1, .int (iI z1)), (0, .ref a0)] → W p l e (Rm 2 0 0) s m args below meth c H locs 0 0 Q (F0 m 91 ls []) := by
              intro k2
              induction k2 with
              | zero => intro ff18 z19 z20 H locs ls ff18_h z19_a z19_b z20_a z20_b q2_0 lq2_p lq2_I hm; exact absurd hm (Nat.not_lt_zero _)
              | succ k2 ih2 =>
                intro ff18 z19 z20 H locs ls ff18_h z19_a z19_b z20_a z20_b q2_0 lq2_p lq2_I hm2 w hl
                refine lv_iload_n hx hb dX12_slips_91 rfl (lv_at hl 0 rfl) ?_
                refine lv_aload_n hx hb dX12_slips_92 rfl (lv_at hl 3 rfl) ?_
                refine r_get (v := .ref a2) M w 3 14 clX12 rfl (by decide) G1477 rfl rfl dX12_slips_93 ?_
                refine lv_iconst (v := iI 0) hx hb dX12_slips_96 (by decide +kernel) ?_
                refine r_iald (v := iI (f1 0)) M w 1 rfl (iI_in (by decide) (by decide) (by decide)) (cI_at (by omega) (by omega)) dX12_slips_97 ?_
                have hh21 : (-2147483648) ≤ (f1 0) ∧ (f1 0) ≤ 2147483647 := f1_h.1 0
                have hh22 : 0 ≤ (f1 0) ∧ (f1 0) ≤ 9 := (f1_h.2.1 0).1 (by omega)
                refine lv_icmp_gt (tgt := 179) hx hb dX12_slips_98 (by decide) (fun c_23 => ?_) (fun c_23 => ?_)
                · replace c_23 := (iI_lt (by omega) (by omega) (Int.le_trans (by decide) z19_a) (Int.le_trans z19_b (by decide))).mp c_23
                  refine lv_iload_n hx hb dX12_slips_179 rfl (lv_at hl 1 rfl) ?_
                  refine lv_if_ne (tgt := 185) hx hb dX12_slips_180 (by decide) (fun c_24 => ?_) (fun c_24 => ?_)
                  · replace c_24 : ¬ z20 = 0 := fun h => c_24 ((iz_eq (Int.le_trans (by decide) z20_a) (Int.le_trans z20_b (by decide))).mpr h)
                    refine lv_aload_n hx hb dX12_slips_185 rfl (lv_at hl 3 rfl) ?_
                    refine lv_aload_n hx hb dX12_slips_186 rfl (lv_at hl 3 rfl) ?_
                    refine r_get (v := .ref a16) M w 3 32 clX12 rfl (by decide) G1495 rfl rfl dX12_slips_187 ?_
                    refine lv_iconst (v := iI 0) hx hb dX12_slips_190 (by decide +kernel) ?_
                    refine r_iald (v := iI (ff18 0)) M w 2 rfl (iI_in (by decide) (by decide) (by decide)) (cI_at (by omega) (by omega)) dX12_slips_191 ?_
                    have hh25 : 0 ≤ (ff18 0) ∧ (ff18 0) ≤ 9 := ff18_h 0
                    refine r_put (ws' := [(a1, .inl (T 0, 940, .inl (cI f0))), (a2, .inl (T 0, 329, .inl (cI f1))), (a16, .inl (T 0, 10, .inl (cI ff18))), (a0, .inr (11, [.int (iI 0), .ref a1, .int (iI z2), .int (iI x1), .int (iI x2), .int (iI x3), .int (iI x4), .int (iI x5), .int r1, .int (iI x6), .int (iI x7), .int (iI x8), .long y0, .int (iI x9), .ref a2, .ref a3, .ref a4, .ref a5, .ref a6, .ref a7, .ref a8, .ref a9, .ref a10, .ref a11, .int (iI x10), .ref a12, .ref a13, .ref a14, .ref a15, .int (iI x11), .int r2, .int r3, .ref a16, .int (iI (ff18 0)), .int (iI x13), .ref a17, .ref a18, .int (iI x14), .ref a19, .int (iI x15), .int r4, .ref a20, .ref a21, .int (iI x16), .int r5, .ref a22, .int (iI x17), .int (iI x18), .int (iI x19), .int (iI x20)]))]) M w 3 33 clX12 rfl (by decide) G1496 rfl rfl rfl rfl (Nat.le_of_ble_eq_true rfl) rfl dX12_slips_192 (fun H locs w => ?_)
                    refine lv_aload_n hx hb dX12_slips_195 rfl (lv_at hl 3 rfl) ?_
                    refine lv_iconst (v := iI 0) hx hb dX12_slips_196 (by decide +kernel) ?_
                    refine r_put (ws' := [(a1, .inl (T 0, 940, .inl (cI f0))), (a2, .inl (T 0, 329, .inl (cI f1))), (a16, .inl (T 0, 10, .inl (cI ff18))), (a0, .inr (11, [.int (iI 0), .ref a1, .int (iI z2), .int (iI x1), .int (iI x2), .int (iI x3), .int (iI x4), .int (iI x5), .int r1, .int (iI x6), .int (iI x7), .int (iI x8), .long y0, .int (iI x9), .ref a2, .ref a3, .ref a4, .ref a5, .ref a6, .ref a7, .ref a8, .ref a9, .ref a10, .ref a11, .int (iI x10), .ref a12, .ref a13, .ref a14, .ref a15, .int (iI x11), .int r2, .int r3, .ref a16, .int (iI (ff18 0)), .int (iI 0), .ref a17, .ref a18, .int (iI x14), .ref a19, .int (iI x15), .int r4, .ref a20, .ref a21, .int (iI x16), .int r5, .ref a22, .int (iI x17), .int (iI x18), .int (iI x19), .int (iI x20)]))]) M w 3 34 clX12 rfl (by decide) G1497 rfl rfl rfl rfl (Nat.le_of_ble_eq_true rfl) rfl dX12_slips_197 (fun H locs w => ?_)
                    refine lv_iconst (v := iI 1) hx hb dX12_slips_200 (by decide +kernel) ?_
                    refine lv_istore_n (lv' := [(3, .int (iI 1)), (2, .int (iI z20)), (1, .int (iI z1)), (0, .ref a0)]) hx hb dX12_slips_201 rfl hl (by decide) rfl (fun ls hl => ?_)
                    have loop3 : ∀ (k3 : Nat) (z26 : Int) (z27 : Int) (H : Heap) (locs : List Loc) (ls : Array Slot), 0 ≤ z26 → z26 ≤ 8 → 1 ≤ z27 → z27 ≤ 9 → z27 ≤ (f1 0) → bsJ (LL f0 (f1 0) x0) z27 z26 → ((9 - z27) : Int).toNat < k3 → WD D A s.heap [(a1, .inl (T 0, 940, .inl (cI f0))), (a2, .inl (T 0, 329, .inl (cI f1))), (a16, .inl (T 0, 10, .inl (cI ff18))), (a0, .inr (11, [.int (iI 0), .ref a1, .int (iI z2), .int (iI x1), .int (iI x2), .int (iI x3), .int (iI x4), .int (iI x5), .int r1, .int (iI x6), .int (iI x7), .int (iI x8), .long y0, .int (iI x9), .ref a2, .ref a3, .ref a4, .ref a5, .ref a6, .ref a7, .ref a8, .ref a9, .ref a10, .ref a11, .int (iI x10), .ref a12, .ref a13, .ref a14, .ref a15, .int (iI x11), .int r2, .int r3, .ref a16, .int (iI (ff18 0)), .int (iI z26), .ref a17, .ref a18, .int (iI x14), .ref a19, .int (iI x15), .int r4, .ref a20, .ref a21, .int (iI x16), .int r5, .ref a22, .int (iI x17), .int (iI x18), .int (iI x19), .int (iI x20)]))] H locs → lv_has ls 6 [(3, .int (iI z27)), (2, .int (iI z20)), (1, .int (iI z1)), (0, .ref a0)] → W p l e (Rm 2 0 0) s m args below meth c H locs 0 0 Q (F0 m 202 ls []) := by
                      intro k3
                      induction k3 with
                      | zero => intro z26 z27 H locs ls z26_a z26_b z27_a z27_b lq3_q lq3_t hm; exact absurd hm (Nat.not_lt_zero _)
                      | succ k3 ih3 =>
                        intro z26 z27 H locs ls z26_a z26_b z27_a z27_b lq3_q lq3_t hm3 w hl
                        refine lv_iload_n hx hb dX12_slips_202 rfl (lv_at hl 0 rfl) ?_
                        refine lv_aload_n hx hb dX12_slips_203 rfl (lv_at hl 3 rfl) ?_
                        refine r_get (v := .ref a2) M w 3 14 clX12 rfl (by decide) G1477 rfl rfl dX12_slips_204 ?_
                        refine lv_iconst (v := iI 0) hx hb dX12_slips_207 (by decide +kernel) ?_
                        refine r_iald (v := iI (f1 0)) M w 1 rfl (iI_in (by decide) (by decide) (by decide)) (cI_at (by omega) (by omega)) dX12_slips_208 ?_
                        have hh28 : (-2147483648) ≤ (f1 0) ∧ (f1 0) ≤ 2147483647 := f1_h.1 0
                        have hh29 : 0 ≤ (f1 0) ∧ (f1 0) ≤ 9 := (f1_h.2.1 0).1 (by omega)
                        refine lv_icmp_ge (tgt := 241) hx hb dX12_slips_209 (by decide) (fun c_30 => ?_) (fun c_30 => ?_)
                        · replace c_30 := (iI_le (by omega) (by omega) (Int.le_trans (by decide) z27_a) (Int.le_trans z27_b (by decide))).mp c_30
                          refine lv_iload_n hx hb dX12_slips_241 rfl (lv_at hl 1 rfl) ?_
                          exact ret _ (z20, (iI 0), z2, (ff18 0), z26, ff18) _ _ _ _ _ [3, 0, 1, 2] dX12_slips_242 ⟨rfl, (show (-2147483648) ≤ z20 from by omega), (show z20 ≤ 2147483647 from by omega), z2_a, z2_b, (show (-1) ≤ (ff18 0) from by omega), (show (ff18 0) ≤ 9 from by omega), (show (-1) ≤ z26 from by omega), (show z26 ≤ 8 from by omega), ff18_h, (show 0 ≤ (0 - z2) from by omega), (show slQ f0 (f1 0) x0 z20 x12 (ff18 0) x13 z26 from (slQ_1 (by have e9 := irem2 (n := z1) (by omega) (by omega); omega) (slA_le lq1_o (by omega)) lq2_I (by omega) (by omega) rfl (bsJ_e lq3_t (by omega))))⟩ w (by decide) rfl
                        · replace c_30 : z27 < (f1 0) := Int.not_le.mp (fun h => c_30 ((iI_le (by omega) (by omega) (Int.le_trans (by decide) z27_a) (Int.le_trans z27_b (by decide))).mpr h))
                          refine lv_aload_n hx hb dX12_slips_212 rfl (lv_at hl 3 rfl) ?_
                          refine lv_iload_n hx hb dX12_slips_213 rfl (lv_at hl 0 rfl) ?_
                          refine lv_iload_n hx hb dX12_slips_214 rfl (lv_at hl 1 rfl) ?_
                          refine k_I (ce := 0) (sl := 0) (rest := []) (wr := [(a1, .inl (T 0, 940, .inl (cI f0)))]) (r_V (f := 1) [3, 1, 2] M w V_HookedCityModel_331 G1899 G94 (c103_X12_leftBy l D T _ a0 z27 z20 (iI 0) a1 z2 x1 x2 x3 x4 x5 r1 x6 x7 x8 y0 x9 a2 a3 a4 a5 a6 a7 a8 a9 a10 a11 x10 a12 a13 a14 a15 x11 r2 r3 a16 (ff18 0) z26 a17 a18 x14 a19 x15 r4 a20 a21 x16 r5 a22 x17 x18 x19 x20 f1 ff18 (by omega) (by omega) z20_a z20_b z2_a z2_b x1_a x1_b x2_a x2_b x3_a x3_b x4_a x4_b x5_a x5_b x6_a x6_b x7_a x7_b x8_a x8_b x9_a x9_b x10_a x10_b x11_a x11_b (by omega) (by omega) (by omega) (by omega) x14_a x14_b x15_a x15_b x16_a x16_b x17_a x17_b x18_a x18_b x19_a x19_b x20_a x20_b f1_h ff18_h) 3 clX12 rfl rfl (by decide) rfl hl.1 rfl (Nat.le_of_ble_eq_true rfl) dX12_slips_215 (by decide) (by decide) (by decide) (by decide)) w [3, 1, 2] [0] rfl rfl (by decide) (by decide) rfl rfl (fun v z31 H locs hp w => ?_)
                          have hv : iI z31 = v := hp.1
                          subst hv
                          have z31_a : (-2147483648) ≤ z31 := hp.2.1
                          have z31_b : z31 ≤ 2147483647 := hp.2.2.1
                          have pq32 : lfQ (f1 0) z27 (slC ff18 z27 (Int.toNat z20)) z20 z31 := hp.2.2.2
                          have w : WD D A s.heap [(a1, .inl (T 0, 940, .inl (cI f0))), (a0, .inr (11, [.int (iI 0), .ref a1, .int (iI z2), .int (iI x1), .int (iI x2), .int (iI x3), .int (iI x4), .int (iI x5), .int r1, .int (iI x6), .int (iI x7), .int (iI x8), .long y0, .int (iI x9), .ref a2, .ref a3, .ref a4, .ref a5, .ref a6, .ref a7, .ref a8, .ref a9, .ref a10, .ref a11, .int (iI x10), .ref a12, .ref a13, .ref a14, .ref a15, .int (iI x11), .int r2, .int r3, .ref a16, .int (iI (ff18 0)), .int (iI z26), .ref a17, .ref a18, .int (iI x14), .ref a19, .int (iI x15), .int r4, .ref a20, .ref a21, .int (iI x16), .int r5, .ref a22, .int (iI x17), .int (iI x18), .int (iI x19), .int (iI x20)])), (a2, .inl (T 0, 329, .inl (cI f1))), (a16, .inl (T 0, 10, .inl (cI ff18)))] H locs := w
                          refine lv_aload_n hx hb dX12_slips_218 rfl (lv_at hl 3 rfl) ?_
                          refine lv_aload_n hx hb dX12_slips_219 rfl (lv_at hl 3 rfl) ?_
                          refine r_get (v := .int (iI z26)) M w 1 34 clX12 rfl (by decide) G1497 rfl rfl dX12_slips_220 ?_
                          refine lv_iload_n hx hb dX12_slips_223 rfl (lv_at hl 1 rfl) ?_
                          refine k_I (ce := 0) (sl := 0) (rest := [.int (iI z31)]) (wr := [(a1, .inl (T 0, 940, .inl (cI f0)))]) (r_V (f := 1) [1, 2, 3] M w V_HookedCityModel_331 G1899 G94 (c103_X12_leftBy l D T _ a0 z26 z20 (iI 0) a1 z2 x1 x2 x3 x4 x5 r1 x6 x7 x8 y0 x9 a2 a3 a4 a5 a6 a7 a8 a9 a10 a11 x10 a12 a13 a14 a15 x11 r2 r3 a16 (ff18 0) z26 a17 a18 x14 a19 x15 r4 a20 a21 x16 r5 a22 x17 x18 x19 x20 f1 ff18 z26_a z26_b z20_a z20_b z2_a z2_b x1_a x1_b x2_a x2_b x3_a x3_b x4_a x4_b x5_a x5_b x6_a x6_b x7_a x7_b x8_a x8_b x9_a x9_b x10_a x10_b x11_a x11_b (by omega) (by omega) (by omega) (by omega) x14_a x14_b x15_a x15_b x16_a x16_b x17_a x17_b x18_a x18_b x19_a x19_b x20_a x20_b f1_h ff18_h) 1 clX12 rfl rfl (by decide) rfl hl.1 rfl (Nat.le_of_ble_eq_true rfl) dX12_slips_224 (by decide) (by decide) (by decide) (by decide)) w [1, 2, 3] [0] rfl rfl (by decide) (by decide) rfl rfl (fun v z33 H locs hp w => ?_)
                          have hv : iI z33 = v := hp.1
                          subst hv
                          have z33_a : (-2147483648) ≤ z33 := hp.2.1
                          have z33_b : z33 ≤ 2147483647 := hp.2.2.1
                          have pq34 : lfQ (f1 0) z26 (slC ff18 z26 (Int.toNat z20)) z20 z33 := hp.2.2.2
                          have w : WD D A s.heap [(a1, .inl (T 0, 940, .inl (cI f0))), (a0, .inr (11, [.int (iI 0), .ref a1, .int (iI z2), .int (iI x1), .int (iI x2), .int (iI x3), .int (iI x4), .int (iI x5), .int r1, .int (iI x6), .int (iI x7), .int (iI x8), .long y0, .int (iI x9), .ref a2, .ref a3, .ref a4, .ref a5, .ref a6, .ref a7, .ref a8, .ref a9, .ref a10, .ref a11, .int (iI x10), .ref a12, .ref a13, .ref a14, .ref a15, .int (iI x11), .int r2, .int r3, .ref a16, .int (iI (ff18 0)), .int (iI z26), .ref a17, .ref a18, .int (iI x14), .ref a19, .int (iI x15), .int r4, .ref a20, .ref a21, .int (iI x16), .int r5, .ref a22, .int (iI x17), .int (iI x18), .int (iI x19), .int (iI x20)])), (a2, .inl (T 0, 329, .inl (cI f1))), (a16, .inl (T 0, 10, .inl (cI ff18)))] H locs := w
                          refine lv_icmp_ge (tgt := 235) hx hb dX12_slips_227 (by decide) (fun c_35 => ?_) (fun c_35 => ?_)
                          · replace c_35 := (iI_le (Int.le_trans (by decide) z33_a) (Int.le_trans z33_b (by decide)) (Int.le_trans (by decide) z31_a) (Int.le_trans z31_b (by decide))).mp c_35
                            refine lv_iinc (v := iI (z27 + 1)) (lv' := [(3, .int (iI (z27 + 1))), (2, .int (iI z20)), (1, .int (iI z1)), (0, .ref a0)]) hx hb dX12_slips_235 hl (k := 0) rfl (ii_inc (by decide +kernel)) (by decide) rfl (fun ls hl => ?_)
                            refine lv_goto (tgt := 202) hx hb dX12_slips_238 (by decide) ?_
                            exact ih3 z26 (z27 + 1) _ _ _ z26_a z26_b (by omega) (by omega) (by omega) (bsJ_t lq3_t (by have e1 := LL_r lq2_I (by omega) (by omega) (by omega) pq32; have e2 := LL_r lq2_I (by omega) (by omega) (by have w9 := lq3_t.2.1; omega) pq34; omega)) (by omega) (w.sub [0, 2, 3, 1] (by decide) rfl) (lv_sub hl [0, 1, 2, 3] rfl)
                          · replace c_35 : z31 < z33 := Int.not_le.mp (fun h => c_35 ((iI_le (Int.le_trans (by decide) z33_a) (Int.le_trans z33_b (by decide)) (Int.le_trans (by decide) z31_a) (Int.le_trans z31_b (by decide))).mpr h))
                            refine lv_aload_n hx hb dX12_slips_230 rfl (lv_at hl 3 rfl) ?_
                            refine lv_iload_n hx hb dX12_slips_231 rfl (lv_at hl 0 rfl) ?_
                            refine r_put (ws' := [(a1, .inl (T 0, 940, .inl (cI f0))), (a0, .inr (11, [.int (iI 0), .ref a1, .int (iI z2), .int (iI x1), .int (iI x2), .int (iI x3), .int (iI x4), .int (iI x5), .int r1, .int (iI x6), .int (iI x7), .int (iI x8), .long y0, .int (iI x9), .ref a2, .ref a3, .ref a4, .ref a5, .ref a6, .ref a7, .ref a8, .ref a9, .ref a10, .ref a11, .int (iI x10), .ref a12, .ref a13, .ref a14, .ref a15, .int (iI x11), .int r2, .int r3, .ref a16, .int (iI (ff18 0)), .int (iI z27), .ref a17, .ref a18, .int (iI x14), .ref a19, .int (iI x15), .int r4, .ref a20, .ref a21, .int (iI x16), .int r5, .ref a22, .int (iI x17), .int (iI x18), .int (iI x19), .int (iI x20)])), (a2, .inl (T 0, 329, .inl (cI f1))), (a16, .inl (T 0, 10, .inl (cI ff18)))]) M w 1 34 clX12 rfl (by decide) G1497 rfl rfl rfl rfl (Nat.le_of_ble_eq_true rfl) rfl dX12_slips_232 (fun H locs w => ?_)
                            refine lv_iinc (v := iI (z27 + 1)) (lv' := [(3, .int (iI (z27 + 1))), (2, .int (iI z20)), (1, .int (iI z1)), (0, .ref a0)]) hx hb dX12_slips_235 hl (k := 0) rfl (ii_inc (by decide +kernel)) (by decide) rfl (fun ls hl => ?_)
                            refine lv_goto (tgt := 202) hx hb dX12_slips_238 (by decide) ?_
                            exact ih3 z27 (z27 + 1) _ _ _ (by omega) (by omega) (by omega) (by omega) (by omega) (bsJ_t lq3_t (by have e1 := LL_r lq2_I (by omega) (by omega) (by omega) pq32; have e2 := LL_r lq2_I (by omega) (by omega) (by have w9 := lq3_t.2.1; omega) pq34; omega)) (by omega) (w.sub [0, 2, 3, 1] (by decide) rfl) (lv_sub hl [0, 1, 2, 3] rfl)
                    exact loop3 ((8 : Int).toNat + 1) 0 1 _ _ _ (by decide) (by decide) (by decide) (by decide) (slA_p lq1_o (by omega) (f0_h 0).1) bsJ_0 (Nat.lt_succ_self _) w (lv_sub hl [0, 1, 2, 3] rfl)
                  · replace c_24 := (iz_eq (Int.le_trans (by decide) z20_a) (Int.le_trans z20_b (by decide))).mp c_24
                    refine lv_iconst (v := iI 0) hx hb dX12_slips_183 (by decide +kernel) ?_
                    exact ret _ (0, (iI 0), z2, x12, x13, ff18) _ _ _ _ _ [3, 0, 1, 2] dX12_slips_184 ⟨rfl, (show (-2147483648) ≤ 0 from by decide), (show (0 : Int) ≤ 2147483647 from by decide), z2_a, z2_b, x12_a, x12_b, x13_a, x13_b, ff18_h, (show 0 ≤ (0 - z2) from by omega), (show slQ f0 (f1 0) x0 0 x12 x12 x13 x13 from (slQ_0 (by have e9 := irem2 (n := z1) (by omega) (by omega); omega) (slA_le lq1_o (by omega)) lq2_I (by omega) (by omega)))⟩ w (by decide) rfl
                · replace c_23 : z19 ≤ (f1 0) := Int.not_lt.mp (fun h => c_23 ((iI_lt (by omega) (by omega) (Int.le_trans (by decide) z19_a) (Int.le_trans z19_b (by decide))).mpr h))
                  refine lv_iconst (v := iI 1) hx hb dX12_slips_101 (by decide +kernel) ?_
                  refine lv_istore (lv' := [(4, .int (iI 1)), (3, .int (iI z19)), (2, .int (iI z20)), (1, .int (iI z1)), (0, .ref a0)]) hx hb dX12_slips_102 hl (by decide) rfl (fun ls hl => ?_)
                  refine lv_iconst (v := iI 0) hx hb dX12_slips_104 (by decide +kernel) ?_
                  refine lv_istore (lv' := [(5, .int (iI 0)), (4, .int (iI 1)), (3, .int (iI z19)), (2, .int (iI z20)), (1, .int (iI z1)), (0, .ref a0)]) hx hb dX12_slips_105 hl (by decide) rfl (fun ls hl => ?_)
                  have loop3 : ∀ (k3 : Nat) (z36 : Int) (z37 : Int) (H : Heap) (locs : List Loc) (ls : Array Slot), 0 ≤ z36 → z36 ≤ 18 → 0 ≤ z37 → z37 ≤ 1 → 0 ≤ ((z1 + 1) - z36) → z36 % 2 = 0 → sgJ f0 (f1 0) z19 z37 z36 → ((18 - z36) : Int).toNat < k3 → WD D A s.heap [(a1, .inl (T 0, 940, .inl (cI f0))), (a2, .inl (T 0, 329, .inl (cI f1))), (a16, .inl (T 0, 10, .inl (cI ff18))), (a0, .inr (11, [.int (iI 0), .ref a1, .int (iI z2), .int (iI x1), .int (iI x2), .int (iI x3), .int (iI x4), .int (iI x5), .int r1, .int (iI x6), .int (iI x7), .int (iI x8), .long y0, .int (iI x9), .ref a2, .ref a3, .ref a4, .ref a5, .ref a6, .ref a7, .ref a8, .ref a9, .ref a10, .ref a11, .int (iI x10), .ref a12, .ref a13, .ref a14, .ref a15, .int (iI x11), .int r2, .int r3, .ref a16, .int (iI x12), .int (iI x13), .ref a17, .ref a18, .int (iI x14), .ref a19, .int (iI x15), .int r4, .ref a20, .ref a21, .int (iI x16), .int r5, .ref a22, .int (iI x17), .int (iI x18), .int (iI x19), .int (iI x20)]))] H locs → lv_has ls 6 [(5, .int (iI z36)), (4, .int (iI z37)), (3, .int (iI z19)), (2, .int (iI z20)), (1, .int (iI z1)), (0, .ref a0)] → W p l e (Rm 2 0 0) s m args below meth c H locs 0 0 Q (F0 m 107 ls []) := by
                    intro k3
                    induction k3 with
                    | zero => intro z36 z37 H locs ls z36_a z36_b z37_a z37_b q3_0 lq3_e lq3_s hm; exact absurd hm (Nat.not_lt_zero _)
                    | succ k3 ih3 =>
                      intro z36 z37 H locs ls z36_a z36_b z37_a z37_b q3_0 lq3_e lq3_s hm3 w hl
                      refine lv_iload hx hb dX12_slips_107 (lv_at hl 0 rfl) ?_
                      refine lv_iload_n hx hb dX12_slips_109 rfl (lv_at hl 4 rfl) ?_
                      refine lv_icmp_ge (tgt := 155) hx hb dX12_slips_110 (by decide) (fun c_38 => ?_) (fun c_38 => ?_)
                      · replace c_38 := (iI_le (Int.le_trans (by decide) z1_a) (Int.le_trans z1_b (by decide)) (Int.le_trans (by decide) z36_a) (Int.le_trans z36_b (by decide))).mp c_38
                        refine lv_iload hx hb dX12_slips_155 (lv_at hl 1 rfl) ?_
                        refine lv_if_ne (tgt := 163) hx hb dX12_slips_157 (by decide) (fun c_39 => ?_) (fun c_39 => ?_)
                        · replace c_39 : ¬ z37 = 0 := fun h => c_39 ((iz_eq (Int.le_trans (by decide) z37_a) (Int.le_trans z37_b (by decide))).mpr h)
                          refine lv_aload_n hx hb dX12_slips_163 rfl (lv_at hl 5 rfl) ?_
                          refine r_get (v := .ref a16) M w 3 32 clX12 rfl (by decide) G1495 rfl rfl dX12_slips_164 ?_
                          refine lv_iload_n hx hb dX12_slips_167 rfl (lv_at hl 3 rfl) ?_
                          refine lv_iload_n hx hb dX12_slips_168 rfl (lv_at hl 2 rfl) ?_
                          refine r_iast (ws' := [(a1, .inl (T 0, 940, .inl (cI f0))), (a2, .inl (T 0, 329, .inl (cI f1))), (a16, .inl (T 0, 10, .inl (cI (upz ff18 z20 z19)))), (a0, .inr (11, [.int (iI 0), .ref a1, .int (iI z2), .int (iI x1), .int (iI x2), .int (iI x3), .int (iI x4), .int (iI x5), .int r1, .int (iI x6), .int (iI x7), .int (iI x8), .long y0, .int (iI x9), .ref a2, .ref a3, .ref a4, .ref a5, .ref a6, .ref a7, .ref a8, .ref a9, .ref a10, .ref a11, .int (iI x10), .ref a12, .ref a13, .ref a14, .ref a15, .int (iI x11), .int r2, .int r3, .ref a16, .int (iI x12), .int (iI x13), .ref a17, .ref a18, .int (iI x14), .ref a19, .int (iI x15), .int r4, .ref a20, .ref a21, .int (iI x16), .int r5, .ref a22, .int (iI x17), .int (iI x18), .int (iI x19), .int (iI x20)]))]) M w 2 rfl (iI_in (by omega) (by omega) (by decide)) (by rw [cI_up (by omega) (by omega)]; rfl) dX12_slips_169 (fun H locs w => ?_)
                          refine lv_iinc (v := iI (z20 + 1)) (lv' := [(2, .int (iI (z20 + 1))), (5, .int (iI z36)), (4, .int (iI z37)), (3, .int (iI z19)), (1, .int (iI z1)), (0, .ref a0)]) hx hb dX12_slips_170 hl (k := 3) rfl (ii_inc (by decide +kernel)) (by decide) rfl (fun ls hl => ?_)
                          refine lv_iinc (v := iI (z19 + 1)) (lv' := [(3, .int (iI (z19 + 1))), (2, .int (iI (z20 + 1))), (5, .int (iI z36)), (4, .int (iI z37)), (1, .int (iI z1)), (0, .ref a0)]) hx hb dX12_slips_173 hl (k := 3) rfl (ii_inc (by decide +kernel)) (by decide) rfl (fun ls hl => ?_)
                          refine lv_goto (tgt := 91) hx hb dX12_slips_176 (by decide) ?_
                          exact ih2 (upz ff18 z20 z19) (z19 + 1) (z20 + 1) _ _ _ (rng_up ff18_h (by omega) (by omega)) (by omega) (by omega) (by omega) (by omega) (by omega) (by omega) (slI_y lq2_I (by omega) (by omega) (sgJ_y lq3_s (by have e9 := irem2 (n := z1) (by omega) (by omega); omega) (by omega))) (by omega) w (lv_sub hl [0, 1, 4, 5] rfl)
                        · replace c_39 := (iz_eq (Int.le_trans (by decide) z37_a) (Int.le_trans z37_b (by decide))).mp c_39
                          refine lv_goto (tgt := 173) hx hb dX12_slips_160 (by decide) ?_
                          refine lv_iinc (v := iI (z19 + 1)) (lv' := [(3, .int (iI (z19 + 1))), (5, .int (iI z36)), (4, .int (iI z37)), (2, .int (iI z20)), (1, .int (iI z1)), (0, .ref a0)]) hx hb dX12_slips_173 hl (k := 2) rfl (ii_inc (by decide +kernel)) (by decide) rfl (fun ls hl => ?_)
                          refine lv_goto (tgt := 91) hx hb dX12_slips_176 (by decide) ?_
                          exact ih2 ff18 (z19 + 1) z20 _ _ _ ff18_h (by omega) (by omega) z20_a z20_b (by omega) (by omega) (slI_n lq2_I (by omega) (sgJ_n lq3_s (by have e9 := irem2 (n := z1) (by omega) (by omega); omega) (by omega))) (by omega) w (lv_sub hl [0, 3, 4, 5] rfl)
                      · replace c_38 : z36 < z1 := Int.not_le.mp (fun h => c_38 ((iI_le (Int.le_trans (by decide) z1_a) (Int.le_trans z1_b (by decide)) (Int.le_trans (by decide) z36_a) (Int.le_trans z36_b (by decide))).mpr h))
                        refine lv_iload hx hb dX12_slips_113 (lv_at hl 1 rfl) ?_
                        refine lv_if_eq (tgt := 146) hx hb dX12_slips_115 (by decide) (fun c_40 => ?_) (fun c_40 => ?_)
                        · replace c_40 := (iz_eq (Int.le_trans (by decide) z37_a) (Int.le_trans z37_b (by decide))).mp c_40
                          refine lv_iconst (v := iI 0) hx hb dX12_slips_146 (by decide +kernel) ?_
                          refine lv_istore (lv' := [(4, .int (iI 0)), (5, .int (iI z36)), (3, .int (iI z19)), (2, .int (iI z20)), (1, .int (iI z1)), (0, .ref a0)]) hx hb dX12_slips_147 hl (by decide) rfl (fun ls hl => ?_)
                          refine lv_iinc (v := iI (z36 + 2)) (lv' := [(5, .int (iI (z36 + 2))), (4, .int (iI 0)), (3, .int (iI z19)), (2, .int (iI z20)), (1, .int (iI z1)), (0, .ref a0)]) hx hb dX12_slips_149 hl (k := 1) rfl (ii_inc (by decide +kernel)) (by decide) rfl (fun ls hl => ?_)
                          refine lv_goto (tgt := 107) hx hb dX12_slips_152 (by decide) ?_
                          exact ih3 (z36 + 2) 0 _ _ _ (by omega) (by omega) (by decide) (by decide) (by omega) (by omega) (sgJ_t lq3_s (by omega) lq3_e (by omega)) (by omega) w (lv_sub hl [0, 1, 2, 3, 4, 5] rfl)
                        · replace c_40 : ¬ z37 = 0 := fun h => c_40 ((iz_eq (Int.le_trans (by decide) z37_a) (Int.le_trans z37_b (by decide))).mpr h)
                          refine lv_aload_n hx hb dX12_slips_118 rfl (lv_at hl 5 rfl) ?_
                          refine lv_aload_n hx hb dX12_slips_119 rfl (lv_at hl 5 rfl) ?_
                          refine r_get (v := .ref a1) M w 3 1 clX12 rfl (by decide) G1464 rfl rfl dX12_slips_120 ?_
                          refine lv_iload hx hb dX12_slips_123 (lv_at hl 0 rfl) ?_
                          refine r_iald (v := iI (f0 z36)) M w 0 rfl (iI_in (by omega) (by omega) (by decide)) (cI_at (by omega) (by omega)) dX12_slips_125 ?_
                          have hh41 : 0 ≤ (f0 z36) ∧ (f0 z36) ≤ 255 := f0_h z36
                          refine lv_iload_n hx hb dX12_slips_126 rfl (lv_at hl 2 rfl) ?_
                          refine k_I (ce := 0) (sl := 0) (rest := []) (wr := [(a1, .inl (T 0, 940, .inl (cI f0))), (a16, .inl (T 0, 10, .inl (cI ff18)))]) (r_V (f := 0) [3, 1] M w V_HookedCityModel_328 G1895 G93 (c102_X12_inBy l D T _ a0 (f0 z36) z19 (iI 0) a1 z2 x1 x2 x3 x4 x5 r1 x6 x7 x8 y0 x9 a2 a3 a4 a5 a6 a7 a8 a9 a10 a11 x10 a12 a13 a14 a15 x11 r2 r3 a16 x12 x13 a17 a18 x14 a19 x15 r4 a20 a21 x16 r5 a22 x17 x18 x19 x20 f1 (by omega) (by omega) z19_a z19_b z2_a z2_b x1_a x1_b x2_a x2_b x3_a x3_b x4_a x4_b x5_a x5_b x6_a x6_b x7_a x7_b x8_a x8_b x9_a x9_b x10_a x10_b x11_a x11_b x12_a x12_b x13_a x13_b x14_a x14_b x15_a x15_b x16_a x16_b x17_a x17_b x18_a x18_b x19_a x19_b x20_a x20_b f1_h) 3 clX12 rfl rfl (by decide) rfl hl.1 rfl (Nat.le_of_ble_eq_true rfl) dX12_slips_127 (by decide) (by decide) (by decide) (by decide)) w [3, 1] [0, 2] rfl rfl (by decide) (by decide) rfl rfl (fun v z42 H locs hp w => ?_)
                          have hv : iI z42 = v := hp.1
                          subst hv
                          have z42_a : (-2147483648) ≤ z42 := hp.2.1
                          have z42_b : z42 ≤ 2147483647 := hp.2.2.1
                          have pq43 : z42 = inB (f1 0) (f0 z36) z19 := hp.2.2.2
                          have w : WD D A s.heap [(a1, .inl (T 0, 940, .inl (cI f0))), (a16, .inl (T 0, 10, .inl (cI ff18))), (a0, .inr (11, [.int (iI 0), .ref a1, .int (iI z2), .int (iI x1), .int (iI x2), .int (iI x3), .int (iI x4), .int (iI x5), .int r1, .int (iI x6), .int (iI x7), .int (iI x8), .long y0, .int (iI x9), .ref a2, .ref a3, .ref a4, .ref a5, .ref a6, .ref a7, .ref a8, .ref a9, .ref a10, .ref a11, .int (iI x10), .ref a12, .ref a13, .ref a14, .ref a15, .int (iI x11), .int r2, .int r3, .ref a16, .int (iI x12), .int (iI x13), .ref a17, .ref a18, .int (iI x14), .ref a19, .int (iI x15), .int r4, .ref a20, .ref a21, .int (iI x16), .int r5, .ref a22, .int (iI x17), .int (iI x18), .int (iI x19), .int (iI x20)])), (a2, .inl (T 0, 329, .inl (cI f1)))] H locs := w
                          refine lv_aload_n hx hb dX12_slips_130 rfl (lv_at hl 5 rfl) ?_
                          refine r_get (v := .ref a1) M w 2 1 clX12 rfl (by decide) G1464 rfl rfl dX12_slips_131 ?_
                          refine lv_iload hx hb dX12_slips_134 (lv_at hl 0 rfl) ?_
                          refine lv_iconst (v := iI 1) hx hb dX12_slips_136 (by decide +kernel) ?_
                          refine r_iadd (v := iI (z36 + 1)) M (iI_add _ _) dX12_slips_137 ?_
                          refine r_iald (v := iI (f0 (z36 + 1))) M w 0 rfl (iI_in (by omega) (by omega) (by decide)) (cI_at (by omega) (by omega)) dX12_slips_138 ?_
                          have hh44 : 0 ≤ (f0 (z36 + 1)) ∧ (f0 (z36 + 1)) ≤ 255 := f0_h (z36 + 1)
                          refine lv_icmp_ne (tgt := 146) hx hb dX12_slips_139 (by decide) (fun c_45 => ?_) (fun c_45 => ?_)
                          · replace c_45 : ¬ z42 = (f0 (z36 + 1)) := fun h => c_45 ((iI_eq (Int.le_trans (by decide) z42_a) (Int.le_trans z42_b (by decide)) (by omega) (by omega)).mpr h)
                            refine lv_iconst (v := iI 0) hx hb dX12_slips_146 (by decide +kernel) ?_
                            refine lv_istore (lv' := [(4, .int (iI 0)), (5, .int (iI z36)), (3, .int (iI z19)), (2, .int (iI z20)), (1, .int (iI z1)), (0, .ref a0)]) hx hb dX12_slips_147 hl (by decide) rfl (fun ls hl => ?_)
                            refine lv_iinc (v := iI (z36 + 2)) (lv' := [(5, .int (iI (z36 + 2))), (4, .int (iI 0)), (3, .int (iI z19)), (2, .int (iI z20)), (1, .int (iI z1)), (0, .ref a0)]) hx hb dX12_slips_149 hl (k := 1) rfl (ii_inc (by decide +kernel)) (by decide) rfl (fun ls hl => ?_)
                            refine lv_goto (tgt := 107) hx hb dX12_slips_152 (by decide) ?_
                            exact ih3 (z36 + 2) 0 _ _ _ (by omega) (by omega) (by decide) (by decide) (by omega) (by omega) (sgJ_t lq3_s (by omega) lq3_e (by have e9 := pq43; omega)) (by omega) (w.sub [0, 3, 1, 2] (by decide) rfl) (lv_sub hl [0, 1, 2, 3, 4, 5] rfl)
                          · replace c_45 := (iI_eq (Int.le_trans (by decide) z42_a) (Int.le_trans z42_b (by decide)) (by omega) (by omega)).mp c_45
                            refine lv_iconst (v := iI 1) hx hb dX12_slips_142 (by decide +kernel) ?_
                            refine lv_goto (tgt := 147) hx hb dX12_slips_143 (by decide) ?_
                            refine lv_istore (lv' := [(4, .int (iI 1)), (5, .int (iI z36)), (3, .int (iI z19)), (2, .int (iI z20)), (1, .int (iI z1)), (0, .ref a0)]) hx hb dX12_slips_147 hl (by decide) rfl (fun ls hl => ?_)
                            refine lv_iinc (v := iI (z36 + 2)) (lv' := [(5, .int (iI (z36 + 2))), (4, .int (iI 1)), (3, .int (iI z19)), (2, .int (iI z20)), (1, .int (iI z1)), (0, .ref a0)]) hx hb dX12_slips_149 hl (k := 1) rfl (ii_inc (by decide +kernel)) (by decide) rfl (fun ls hl => ?_)
                            refine lv_goto (tgt := 107) hx hb dX12_slips_152 (by decide) ?_
                            exact ih3 (z36 + 2) 1 _ _ _ (by omega) (by omega) (by decide) (by decide) (by omega) (by omega) (sgJ_t lq3_s (by omega) lq3_e (by have e9 := pq43; omega)) (by omega) (w.sub [0, 3, 1, 2] (by decide) rfl) (lv_sub hl [0, 1, 2, 3, 4, 5] rfl)
                  exact loop3 ((18 : Int).toNat + 1) 0 1 _ _ _ (by decide) (by decide) (by decide) (by decide) (by omega) (by decide) sgJ_0 (Nat.lt_succ_self _) w (lv_sub hl [0, 1, 2, 3, 4, 5] rfl)
            exact loop2 ((10 : Int).toNat + 1) f2 0 0 _ _ _ f2_h (by decide) (by decide) (by decide) (by decide) (by omega) (by have h9 := (f1_h.2.1 0).1 (by omega); omega) slI_0 (Nat.lt_succ_self _) w (lv_sub hl [0, 1, 2, 3] rfl)
          · replace c_17 : z16 < z1 := Int.not_le.mp (fun h => c_17 ((iI_le (Int.le_trans (by decide) z1_a) (Int.le_trans z1_b (by decide)) (Int.le_trans (by decide) z16_a) (Int.le_trans z16_b (by decide))).mpr h))
            refine lv_aload_n hx hb dX12_slips_37 rfl (lv_at hl 2 rfl) ?_
            refine lv_aload_n hx hb dX12_slips_38 rfl (lv_at hl 2 rfl) ?_
            refine r_get (v := .ref a1) M w 3 1 clX12 rfl (by decide) G1464 rfl rfl dX12_slips_39 ?_
            refine lv_iload_n hx hb dX12_slips_42 rfl (lv_at hl 0 rfl) ?_
            refine r_iald (v := iI (f0 z16)) M w 0 rfl (iI_in (by omega) (by omega) (by decide)) (cI_at (by omega) (by omega)) dX12_slips_43 ?_
            have hh46 : 0 ≤ (f0 z16) ∧ (f0 z16) ≤ 255 := f0_h z16
            refine k_I (ce := 0) (sl := 0) (rest := []) (wr := [(a1, .inl (T 0, 940, .inl (cI f0))), (a16, .inl (T 0, 10, .inl (cI f2)))]) (r_V (f := 1) [3, 1] M w V_HookedCityModel_240 G1736 G68 (c68_X12_isPerson l D T _ a0 (f0 z16) (iI 0) a1 z2 x1 x2 x3 x4 x5 r1 x6 x7 x8 y0 x9 a2 a3 a4 a5 a6 a7 a8 a9 a10 a11 x10 a12 a13 a14 a15 x11 r2 r3 a16 x12 x13 a17 a18 x14 a19 x15 r4 a20 a21 x16 r5 a22 x17 x18 x19 x20 f1 (by omega) (by omega) z2_a z2_b x1_a x1_b x2_a x2_b x3_a x3_b x4_a x4_b x5_a x5_b x6_a x6_b x7_a x7_b x8_a x8_b x9_a x9_b x10_a x10_b x11_a x11_b x12_a x12_b x13_a x13_b x14_a x14_b x15_a x15_b x16_a x16_b x17_a x17_b x18_a x18_b x19_a x19_b x20_a x20_b f1_h) 3 clX12 rfl rfl (by decide) rfl hl.1 rfl (Nat.le_of_ble_eq_true rfl) dX12_slips_44 (by decide) (by decide) (by decide) (by decide)) w [3, 1] [0, 2] rfl rfl (by decide) (by decide) rfl rfl (fun v z47 H locs hp w => ?_)
            have hv : iI z47 = v := hp.1
            subst hv
            have z47_a : 0 ≤ z47 := hp.2.1
            have z47_b : z47 ≤ 1 := hp.2.2.1
            have ee48 : 0 ≤ (((f0 z16) + 4294967296) - (z47 * 4294967296)) := hp.2.2.2.1
            have ee49 : 0 ≤ (((8 - (f0 z16)) + 4294967296) - (z47 * 4294967296)) := hp.2.2.2.2.1
            have pq50 : ipQ z47 (f0 z16) (f1 0) := hp.2.2.2.2.2
            have w : WD D A s.heap [(a1, .inl (T 0, 940, .inl (cI f0))), (a16, .inl (T 0, 10, .inl (cI f2))), (a0, .inr (11, [.int (iI 0), .ref a1, .int (iI z2), .int (iI x1), .int (iI x2), .int (iI x3), .int (iI x4), .int (iI x5), .int r1, .int (iI x6), .int (iI x7), .int (iI x8), .long y0, .int (iI x9), .ref a2, .ref a3, .ref a4, .ref a5, .ref a6, .ref a7, .ref a8, .ref a9, .ref a10, .ref a11, .int (iI x10), .ref a12, .ref a13, .ref a14, .ref a15, .int (iI x11), .int r2, .int r3, .ref a16, .int (iI x12), .int (iI x13), .ref a17, .ref a18, .int (iI x14), .ref a19, .int (iI x15), .int r4, .ref a20, .ref a21, .int (iI x16), .int r5, .ref a22, .int (iI x17), .int (iI x18), .int (iI x19), .int (iI x20)])), (a2, .inl (T 0, 329, .inl (cI f1)))] H locs := w
            refine lv_if_eq (tgt := 79) hx hb dX12_slips_47 (by decide) (fun c_51 => ?_) (fun c_51 => ?_)
            · replace c_51 := (iz_eq (Int.le_trans (by decide) z47_a) (Int.le_trans z47_b (by decide))).mp c_51
              refine lv_iconst (v := iI (-1)) hx hb dX12_slips_79 (by decide +kernel) ?_
              exact ret _ ((-1), (iI 0), z2, x12, x13, f2) _ _ _ _ _ [2, 0, 3, 1] dX12_slips_80 ⟨rfl, (show (-2147483648) ≤ (-1) from by decide), (show ((-1) : Int) ≤ 2147483647 from by decide), z2_a, z2_b, x12_a, x12_b, x13_a, x13_b, f2_h, (show 0 ≤ (0 - z2) from by omega), (show slQ f0 (f1 0) x0 (-1) x12 x12 x13 x13 from (slQ_a (by omega) lq1_e (by omega) (by have i0 := pq50; unfold ipQ at i0; unfold slO; omega)))⟩ w (by decide) rfl
            · replace c_51 : ¬ z47 = 0 := fun h => c_51 ((iz_eq (Int.le_trans (by decide) z47_a) (Int.le_trans z47_b (by decide))).mpr h)
              refine lv_aload_n hx hb dX12_slips_50 rfl (lv_at hl 2 rfl) ?_
              refine r_get (v := .ref a1) M w 2 1 clX12 rfl (by decide) G1464 rfl rfl dX12_slips_51 ?_
              refine lv_iload_n hx hb dX12_slips_54 rfl (lv_at hl 0 rfl) ?_
              refine lv_iconst (v := iI 1) hx hb dX12_slips_55 (by decide +kernel) ?_
              refine r_iadd (v := iI (z16 + 1)) M (iI_add _ _) dX12_slips_56 ?_
              refine r_iald (v := iI (f0 (z16 + 1))) M w 0 rfl (iI_in (by omega) (by omega) (by decide)) (cI_at (by omega) (by omega)) dX12_slips_57 ?_
              have hh52 : 0 ≤ (f0 (z16 + 1)) ∧ (f0 (z16 + 1)) ≤ 255 := f0_h (z16 + 1)
              refine lv_sipush (v := iI 255) hx hb dX12_slips_58 (by decide +kernel) ?_
              refine lv_icmp_eq (tgt := 81) hx hb dX12_slips_61 (by decide) (fun c_53 => ?_) (fun c_53 => ?_)
              · replace c_53 := (iI_eq (by omega) (by omega) (by decide) (by decide)).mp c_53
                refine lv_iinc (v := iI (z16 + 2)) (lv' := [(2, .int (iI (z16 + 2))), (1, .int (iI z1)), (0, .ref a0)]) hx hb dX12_slips_81 hl (k := 0) rfl (ii_inc (by decide +kernel)) (by decide) rfl (fun ls hl => ?_)
                refine lv_goto (tgt := 32) hx hb dX12_slips_84 (by decide) ?_
                exact ih1 (z16 + 2) _ _ _ (by omega) (by omega) (by omega) (by omega) (slA_t lq1_o lq1_e (by have i0 := pq50; unfold ipQ at i0; unfold slO; omega)) (by omega) (w.sub [0, 3, 1, 2] (by decide) rfl) (lv_sub hl [0, 1, 2] rfl)
              · replace c_53 : ¬ (f0 (z16 + 1)) = 255 := fun h => c_53 ((iI_eq (by omega) (by omega) (by decide) (by decide)).mpr h)
                refine lv_aload_n hx hb dX12_slips_64 rfl (lv_at hl 2 rfl) ?_
                refine lv_aload_n hx hb dX12_slips_65 rfl (lv_at hl 2 rfl) ?_
                refine r_get (v := .ref a1) M w 2 1 clX12 rfl (by decide) G1464 rfl rfl dX12_slips_66 ?_
                refine lv_iload_n hx hb dX12_slips_69 rfl (lv_at hl 0 rfl) ?_
                refine lv_iconst (v := iI 1) hx hb dX12_slips_70 (by decide +kernel) ?_
                refine r_iadd (v := iI (z16 + 1)) M (iI_add _ _) dX12_slips_71 ?_
                refine r_iald (v := iI (f0 (z16 + 1))) M w 0 rfl (iI_in (by omega) (by omega) (by decide)) (cI_at (by omega) (by omega)) dX12_slips_72 ?_
                have hh54 : 0 ≤ (f0 (z16 + 1)) ∧ (f0 (z16 + 1)) ≤ 255 := f0_h (z16 + 1)
                refine k_I (ce := 0) (sl := 0) (rest := []) (wr := [(a1, .inl (T 0, 940, .inl (cI f0))), (a16, .inl (T 0, 10, .inl (cI f2)))]) (r_V (f := 1) [2, 3] M w V_HookedCityModel_240 G1736 G68 (c68_X12_isPerson l D T _ a0 (f0 (z16 + 1)) (iI 0) a1 z2 x1 x2 x3 x4 x5 r1 x6 x7 x8 y0 x9 a2 a3 a4 a5 a6 a7 a8 a9 a10 a11 x10 a12 a13 a14 a15 x11 r2 r3 a16 x12 x13 a17 a18 x14 a19 x15 r4 a20 a21 x16 r5 a22 x17 x18 x19 x20 f1 (by omega) (by omega) z2_a z2_b x1_a x1_b x2_a x2_b x3_a x3_b x4_a x4_b x5_a x5_b x6_a x6_b x7_a x7_b x8_a x8_b x9_a x9_b x10_a x10_b x11_a x11_b x12_a x12_b x13_a x13_b x14_a x14_b x15_a x15_b x16_a x16_b x17_a x17_b x18_a x18_b x19_a x19_b x20_a x20_b f1_h) 2 clX12 rfl rfl (by decide) rfl hl.1 rfl (Nat.le_of_ble_eq_true rfl) dX12_slips_73 (by decide) (by decide) (by decide) (by decide)) w [2, 3] [0, 1] rfl rfl (by decide) (by decide) rfl rfl (fun v z55 H locs hp w => ?_)
                have hv : iI z55 = v := hp.1
                subst hv
                have z55_a : 0 ≤ z55 := hp.2.1
                have z55_b : z55 ≤ 1 := hp.2.2.1
                have ee56 : 0 ≤ (((f0 (z16 + 1)) + 4294967296) - (z55 * 4294967296)) := hp.2.2.2.1
                have ee57 : 0 ≤ (((8 - (f0 (z16 + 1))) + 4294967296) - (z55 * 4294967296)) := hp.2.2.2.2.1
                have pq58 : ipQ z55 (f0 (z16 + 1)) (f1 0) := hp.2.2.2.2.2
                have w : WD D A s.heap [(a1, .inl (T 0, 940, .inl (cI f0))), (a16, .inl (T 0, 10, .inl (cI f2))), (a0, .inr (11, [.int (iI 0), .ref a1, .int (iI z2), .int (iI x1), .int (iI x2), .int (iI x3), .int (iI x4), .int (iI x5), .int r1, .int (iI x6), .int (iI x7), .int (iI x8), .long y0, .int (iI x9), .ref a2, .ref a3, .ref a4, .ref a5, .ref a6, .ref a7, .ref a8, .ref a9, .ref a10, .ref a11, .int (iI x10), .ref a12, .ref a13, .ref a14, .ref a15, .int (iI x11), .int r2, .int r3, .ref a16, .int (iI x12), .int (iI x13), .ref a17, .ref a18, .int (iI x14), .ref a19, .int (iI x15), .int r4, .ref a20, .ref a21, .int (iI x16), .int r5, .ref a22, .int (iI x17), .int (iI x18), .int (iI x19), .int (iI x20)])), (a2, .inl (T 0, 329, .inl (cI f1)))] H locs := w
                refine lv_if_ne (tgt := 81) hx hb dX12_slips_76 (by decide) (fun c_59 => ?_) (fun c_59 => ?_)
                · replace c_59 : ¬ z55 = 0 := fun h => c_59 ((iz_eq (Int.le_trans (by decide) z55_a) (Int.le_trans z55_b (by decide))).mpr h)
                  refine lv_iinc (v := iI (z16 + 2)) (lv' := [(2, .int (iI (z16 + 2))), (1, .int (iI z1)), (0, .ref a0)]) hx hb dX12_slips_81 hl (k := 0) rfl (ii_inc (by decide +kernel)) (by decide) rfl (fun ls hl => ?_)
                  refine lv_goto (tgt := 32) hx hb dX12_slips_84 (by decide) ?_
                  exact ih1 (z16 + 2) _ _ _ (by omega) (by omega) (by omega) (by omega) (slA_t lq1_o lq1_e (by have i0 := pq50; unfold ipQ at i0; have i1 := pq58; unfold ipQ at i1; unfold slO; omega)) (by omega) (w.sub [0, 3, 1, 2] (by decide) rfl) (lv_sub hl [0, 1, 2] rfl)
                · replace c_59 := (iz_eq (Int.le_trans (by decide) z55_a) (Int.le_trans z55_b (by decide))).mp c_59
                  refine lv_iconst (v := iI (-1)) hx hb dX12_slips_79 (by decide +kernel) ?_
                  exact ret _ ((-1), (iI 0), z2, x12, x13, f2) _ _ _ _ _ [2, 0, 3, 1] dX12_slips_80 ⟨rfl, (show (-2147483648) ≤ (-1) from by decide), (show ((-1) : Int) ≤ 2147483647 from by decide), z2_a, z2_b, x12_a, x12_b, x13_a, x13_b, f2_h, (show 0 ≤ (0 - z2) from by omega), (show slQ f0 (f1 0) x0 (-1) x12 x12 x13 x13 from (slQ_a (by omega) lq1_e (by omega) (by have i0 := pq50; unfold ipQ at i0; have i1 := pq58; unfold ipQ at i1; unfold slO; omega)))⟩ w (by decide) rfl
      exact loop1 ((18 : Int).toNat + 1) 0 _ _ _ (by decide) (by decide) (by omega) (by decide) slA_0 (Nat.lt_succ_self _) w (lv_sub hl [0, 1, 2] rfl)
set_option maxRecDepth 100000 in
set_option maxHeartbeats 4000000 in
theorem c105_X12_slipLeast (l : Launch) (D : va_G) (T : Nat → ClassId) (sz : Nat) (a0 : Nat) (r0 : Int32) (a1 : Nat) (x0 : Int) (x1 : Int) (x2 : Int) (x3 : Int) (x4 : Int) (x5 : Int) (r1 : Int32) (x6 : Int) (x7 : Int) (x8 : Int) (y0 : Int64) (x9 : Int) (a2 : Nat) (a3 : Nat) (a4 : Nat) (a5 : Nat) (a6 : Nat) (a7 : Nat) (a8 : Nat) (a9 : Nat) (a10 : Nat) (a11 : Nat) (x10 : Int) (a12 : Nat) (a13 : Nat) (a14 : Nat) (a15 : Nat) (x11 : Int) (r2 : Int32) (r3 : Int32) (a16 : Nat) (x12 : Int) (x13 : Int) (a17 : Nat) (a18 : Nat) (x14 : Int) (a19 : Nat) (x15 : Int) (r4 : Int32) (a20 : Nat) (a21 : Nat) (x16 : Int) (r5 : Int32) (a22 : Nat) (x17 : Int) (x18 : Int) (x19 : Int) (x20 : Int) (x0_a : 0 ≤ x0) (x0_b : x0 ≤ 940) (x1_a : 0 ≤ x1) (x1_b : x1 ≤ 940) (x2_a : 0 ≤ x2) (x2_b : x2 ≤ 940) (x3_a : 0 ≤ x3) (x3_b : x3 ≤ 940) (x4_a : 0 ≤ x4) (x4_b : x4 ≤ 940) (x5_a : 0 ≤ x5) (x5_b : x5 ≤ 4) (x6_a : (-2147483648) ≤ x6) (x6_b : x6 ≤ 2147483647) (x7_a : (-2147483648) ≤ x7) (x7_b : x7 ≤ 2147483647) (x8_a : 0 ≤ x8) (x8_b : x8 ≤ 940) (x9_a : (-2147483648) ≤ x9) (x9_b : x9 ≤ 2147483647) (x10_a : 0 ≤ x10) (x10_b : x10 ≤ 8) (x11_a : 0 ≤ x11) (x11_b : x11 ≤ 9) (x12_a : (-1) ≤ x12) (x12_b : x12 ≤ 9) (x13_a : (-1) ≤ x13) (x13_b : x13 ≤ 8) (x14_a : 0 ≤ x14) (x14_b : x14 ≤ 9) (x15_a : 0 ≤ x15) (x15_b : x15 ≤ 64) (x16_a : 0 ≤ x16) (x16_b : x16 ≤ 40) (x17_a : 0 ≤ x17) (x17_b : x17 ≤ 40) (x18_a : 0 ≤ x18) (x18_b : x18 ≤ 20) (x19_a : 0 ≤ x19) (x19_b : x19 ≤ 8) (x20_a : 0 ≤ x20) (x20_b : x20 ≤ 39) : Met l yX12_slipLeast (Cond.code yX12_slipLeast cX12_slipLeast 1 (some .int) :: GW) (Rm 0 0 0) (cPre [.ref a0] D T [(a0, .inr (11, [.int r0, .ref a1, .int (iI x0), .int (iI x1), .int (iI x2), .int (iI x3), .int (iI x4), .int (iI x5), .int r1, .int (iI x6), .int (iI x7), .int (iI x8), .long y0, .int (iI x9), .ref a2, .ref a3, .ref a4, .ref a5, .ref a6, .ref a7, .ref a8, .ref a9, .ref a10, .ref a11, .int (iI x10), .ref a12, .ref a13, .ref a14, .ref a15, .int (iI x11), .int r2, .int r3, .ref a16, .int (iI x12), .int (iI x13), .ref a17, .ref a18, .int (iI x14), .ref a19, .int (iI x15), .int r4, .ref a20, .ref a21, .int (iI x16), .int r5, .ref a22, .int (iI x17), .int (iI x18), .int (iI x19), .int (iI x20)]))] sz) (qI D [(a0, .inr (11, [.int r0, .ref a1, .int (iI x0), .int (iI x1), .int (iI x2), .int (iI x3), .int (iI x4), .int (iI x5), .int r1, .int (iI x6), .int (iI x7), .int (iI x8), .long y0, .int (iI x9), .ref a2, .ref a3, .ref a4, .ref a5, .ref a6, .ref a7, .ref a8, .ref a9, .ref a10, .ref a11, .int (iI x10), .ref a12, .ref a13, .ref a14, .ref a15, .int (iI x11), .int r2, .int r3, .ref a16, .int (iI x12), .int (iI x13), .ref a17, .ref a18, .int (iI x14), .ref a19, .int (iI x15), .int r4, .ref a20, .ref a21, .int (iI x16), .int r5, .ref a22, .int (iI x17), .int (iI x18), .int (iI x19), .int (iI x20)]))] sz (fun (v : Int32) (u : Int × Int32) => iI u.1 = v ∧ (-2147483648) ≤ u.1 ∧ u.1 ≤ 2147483647 ∧ (u.1 = x12)) (fun u => [(a0, .inr (11, [.int u.2, .ref a1, .int (iI x0), .int (iI x1), .int (iI x2), .int (iI x3), .int (iI x4), .int (iI x5), .int r1, .int (iI x6), .int (iI x7), .int (iI x8), .long y0, .int (iI x9), .ref a2, .ref a3, .ref a4, .ref a5, .ref a6, .ref a7, .ref a8, .ref a9, .ref a10, .ref a11, .int (iI x10), .ref a12, .ref a13, .ref a14, .ref a15, .int (iI x11), .int r2, .int r3, .ref a16, .int (iI x12), .int (iI x13), .ref a17, .ref a18, .int (iI x14), .ref a19, .int (iI x15), .int r4, .ref a20, .ref a21, .int (iI x16), .int r5, .ref a22, .int (iI x17), .int (iI x18), .int (iI x19), .int (iI x20)]))])) 0 0 (va_A [(a0, .inr (11, [.int r0, .ref a1, .int (iI x0), .int (iI x1), .int (iI x2), .int (iI x3), .int (iI x4), .int (iI x5), .int r1, .int (iI x6), .int (iI x7), .int (iI x8), .long y0, .int (iI x9), .ref a2, .ref a3, .ref a4, .ref a5, .ref a6, .ref a7, .ref a8, .ref a9, .ref a10, .ref a11, .int (iI x10), .ref a12, .ref a13, .ref a14, .ref a15, .int (iI x11), .int r2, .int r3, .ref a16, .int (iI x12), .int (iI x13), .ref a17, .ref a18, .int (iI x14), .ref a19, .int (iI x15), .int r4, .ref a20, .ref a21, .int (iI x16), .int r5, .ref a22, .int (iI x17), .int (iI x18), .int (iI x19), .int (iI x20)]))] sz) := by
  refine e_I (by decide) (Nat.le_of_ble_eq_true rfl) ?_
  intro p e s m args below meth c A Q ls M hin w ret hl
  have hx := M.1.1
  have hb := M.1.2.1
  have hl : lv_has ls 1 [(0, .ref a0)] := hl
  refine lv_aload_n hx hb dX12_slipLeast_0 rfl (lv_at hl 0 rfl) ?_
  refine lv_iconst (v := iI 0) hx hb dX12_slipLeast_1 (by decide +kernel) ?_
  refine r_put (ws' := [(a0, .inr (11, [.int (iI 0), .ref a1, .int (iI x0), .int (iI x1), .int (iI x2), .int (iI x3), .int (iI x4), .int (iI x5), .int r1, .int (iI x6), .int (iI x7), .int (iI x8), .long y0, .int (iI x9), .ref a2, .ref a3, .ref a4, .ref a5, .ref a6, .ref a7, .ref a8, .ref a9, .ref a10, .ref a11, .int (iI x10), .ref a12, .ref a13, .ref a14, .ref a15, .int (iI x11), .int r2, .int r3, .ref a16, .int (iI x12), .int (iI x13), .ref a17, .ref a18, .int (iI x14), .ref a19, .int (iI x15), .int r4, .ref a20, .ref a21, .int (iI x16), .int r5, .ref a22, .int (iI x17), .int (iI x18), .int (iI x19), .int (iI x20)]))]) M w 0 0 clX12 rfl (by decide) G1463 rfl rfl rfl rfl (Nat.le_of_ble_eq_true rfl) rfl dX12_slipLeast_2 (fun H locs w => ?_)
  refine lv_aload_n hx hb dX12_slipLeast_5 rfl (lv_at hl 0 rfl) ?_
  refine r_get (v := .int (iI x12)) M w 0 33 clX12 rfl (by decide) G1496 rfl rfl dX12_slipLeast_6 ?_
  exact ret _ (x12, (iI 0)) _ _ _ _ _ [0] dX12_slipLeast_9 ⟨rfl, (show (-2147483648) ≤ x12 from by omega), (show x12 ≤ 2147483647 from by omega), (show x12 = x12 from rfl)⟩ w (by decide) rfl
set_option maxRecDepth 100000 in
set_option maxHeartbeats 4000000 in
theorem c106_X12_turn (l : Launch) (D : va_G) (T : Nat → ClassId) (sz : Nat) (a0 : Nat) (r0 : Int32) (a1 : Nat) (x0 : Int) (x1 : Int) (x2 : Int) (x3 : Int) (x4 : Int) (x5 : Int) (r1 : Int32) (x6 : Int) (x7 : Int) (x8 : Int) (y0 : Int64) (x9 : Int) (a2 : Nat) (a3 : Nat) (a4 : Nat) (a5 : Nat) (a6 : Nat) (a7 : Nat) (a8 : Nat) (a9 : Nat) (a10 : Nat) (a11 : Nat) (x10 : Int) (a12 : Nat) (a13 : Nat) (a14 : Nat) (a15 : Nat) (x11 : Int) (r2 : Int32) (r3 : Int32) (a16 : Nat) (x12 : Int) (x13 : Int) (a17 : Nat) (a18 : Nat) (x14 : Int) (a19 : Nat) (x15 : Int) (r4 : Int32) (a20 : Nat) (a21 : Nat) (x16 : Int) (r5 : Int32) (a22 : Nat) (x17 : Int) (x18 : Int) (x19 : Int) (x20 : Int) (x0_a : 0 ≤ x0) (x0_b : x0 ≤ 940) (x1_a : 0 ≤ x1) (x1_b : x1 ≤ 940) (x2_a : 0 ≤ x2) (x2_b : x2 ≤ 940) (x3_a : 0 ≤ x3) (x3_b : x3 ≤ 940) (x4_a : 0 ≤ x4) (x4_b : x4 ≤ 940) (x5_a : 0 ≤ x5) (x5_b : x5 ≤ 4) (x6_a : (-2147483648) ≤ x6) (x6_b : x6 ≤ 2147483647) (x7_a : (-2147483648) ≤ x7) (x7_b : x7 ≤ 2147483647) (x8_a : 0 ≤ x8) (x8_b : x8 ≤ 940) (x9_a : (-2147483648) ≤ x9) (x9_b : x9 ≤ 2147483647) (x10_a : 0 ≤ x10) (x10_b : x10 ≤ 8) (x11_a : 0 ≤ x11) (x11_b : x11 ≤ 9) (x12_a : (-1) ≤ x12) (x12_b : x12 ≤ 9) (x13_a : (-1) ≤ x13) (x13_b : x13 ≤ 8) (x14_a : 0 ≤ x14) (x14_b : x14 ≤ 9) (x15_a : 0 ≤ x15) (x15_b : x15 ≤ 64) (x16_a : 0 ≤ x16) (x16_b : x16 ≤ 40) (x17_a : 0 ≤ x17) (x17_b : x17 ≤ 40) (x18_a : 0 ≤ x18) (x18_b : x18 ≤ 20) (x19_a : 0 ≤ x19) (x19_b : x19 ≤ 8) (x20_a : 0 ≤ x20) (x20_b : x20 ≤ 39) : Met l yX12_turn (Cond.code yX12_turn cX12_turn 1 (some .int) :: GW) (Rm 0 0 0) (cPre [.ref a0] D T [(a0, .inr (11, [.int r0, .ref a1, .int (iI x0), .int (iI x1), .int (iI x2), .int (iI x3), .int (iI x4), .int (iI x5), .int r1, .int (iI x6), .int (iI x7), .int (iI x8), .long y0, .int (iI x9), .ref a2, .ref a3, .ref a4, .ref a5, .ref a6, .ref a7, .ref a8, .ref a9, .ref a10, .ref a11, .int (iI x10), .ref a12, .ref a13, .ref a14, .ref a15, .int (iI x11), .int r2, .int r3, .ref a16, .int (iI x12), .int (iI x13), .ref a17, .ref a18, .int (iI x14), .ref a19, .int (iI x15), .int r4, .ref a20, .ref a21, .int (iI x16), .int r5, .ref a22, .int (iI x17), .int (iI x18), .int (iI x19), .int (iI x20)]))] sz) (qI D [(a0, .inr (11, [.int r0, .ref a1, .int (iI x0), .int (iI x1), .int (iI x2), .int (iI x3), .int (iI x4), .int (iI x5), .int r1, .int (iI x6), .int (iI x7), .int (iI x8), .long y0, .int (iI x9), .ref a2, .ref a3, .ref a4, .ref a5, .ref a6, .ref a7, .ref a8, .ref a9, .ref a10, .ref a11, .int (iI x10), .ref a12, .ref a13, .ref a14, .ref a15, .int (iI x11), .int r2, .int r3, .ref a16, .int (iI x12), .int (iI x13), .ref a17, .ref a18, .int (iI x14), .ref a19, .int (iI x15), .int r4, .ref a20, .ref a21, .int (iI x16), .int r5, .ref a22, .int (iI x17), .int (iI x18), .int (iI x19), .int (iI x20)]))] sz (fun (v : Int32) (u : Int × Int32) => iI u.1 = v ∧ (-2147483648) ≤ u.1 ∧ u.1 ≤ 2147483647 ∧ (u.1 = x13)) (fun u => [(a0, .inr (11, [.int u.2, .ref a1, .int (iI x0), .int (iI x1), .int (iI x2), .int (iI x3), .int (iI x4), .int (iI x5), .int r1, .int (iI x6), .int (iI x7), .int (iI x8), .long y0, .int (iI x9), .ref a2, .ref a3, .ref a4, .ref a5, .ref a6, .ref a7, .ref a8, .ref a9, .ref a10, .ref a11, .int (iI x10), .ref a12, .ref a13, .ref a14, .ref a15, .int (iI x11), .int r2, .int r3, .ref a16, .int (iI x12), .int (iI x13), .ref a17, .ref a18, .int (iI x14), .ref a19, .int (iI x15), .int r4, .ref a20, .ref a21, .int (iI x16), .int r5, .ref a22, .int (iI x17), .int (iI x18), .int (iI x19), .int (iI x20)]))])) 0 0 (va_A [(a0, .inr (11, [.int r0, .ref a1, .int (iI x0), .int (iI x1), .int (iI x2), .int (iI x3), .int (iI x4), .int (iI x5), .int r1, .int (iI x6), .int (iI x7), .int (iI x8), .long y0, .int (iI x9), .ref a2, .ref a3, .ref a4, .ref a5, .ref a6, .ref a7, .ref a8, .ref a9, .ref a10, .ref a11, .int (iI x10), .ref a12, .ref a13, .ref a14, .ref a15, .int (iI x11), .int r2, .int r3, .ref a16, .int (iI x12), .int (iI x13), .ref a17, .ref a18, .int (iI x14), .ref a19, .int (iI x15), .int r4, .ref a20, .ref a21, .int (iI x16), .int r5, .ref a22, .int (iI x17), .int (iI x18), .int (iI x19), .int (iI x20)]))] sz) := by
  refine e_I (by decide) (Nat.le_of_ble_eq_true rfl) ?_
  intro p e s m args below meth c A Q ls M hin w ret hl
  have hx := M.1.1
  have hb := M.1.2.1
  have hl : lv_has ls 1 [(0, .ref a0)] := hl
  refine lv_aload_n hx hb dX12_turn_0 rfl (lv_at hl 0 rfl) ?_
  refine lv_iconst (v := iI 0) hx hb dX12_turn_1 (by decide +kernel) ?_
  refine r_put (ws' := [(a0, .inr (11, [.int (iI 0), .ref a1, .int (iI x0), .int (iI x1), .int (iI x2), .int (iI x3), .int (iI x4), .int (iI x5), .int r1, .int (iI x6), .int (iI x7), .int (iI x8), .long y0, .int (iI x9), .ref a2, .ref a3, .ref a4, .ref a5, .ref a6, .ref a7, .ref a8, .ref a9, .ref a10, .ref a11, .int (iI x10), .ref a12, .ref a13, .ref a14, .ref a15, .int (iI x11), .int r2, .int r3, .ref a16, .int (iI x12), .int (iI x13), .ref a17, .ref a18, .int (iI x14), .ref a19, .int (iI x15), .int r4, .ref a20, .ref a21, .int (iI x16), .int r5, .ref a22, .int (iI x17), .int (iI x18), .int (iI x19), .int (iI x20)]))]) M w 0 0 clX12 rfl (by decide) G1463 rfl rfl rfl rfl (Nat.le_of_ble_eq_true rfl) rfl dX12_turn_2 (fun H locs w => ?_)
  refine lv_aload_n hx hb dX12_turn_5 rfl (lv_at hl 0 rfl) ?_
  refine r_get (v := .int (iI x13)) M w 0 34 clX12 rfl (by decide) G1497 rfl rfl dX12_turn_6 ?_
  exact ret _ (x13, (iI 0)) _ _ _ _ _ [0] dX12_turn_9 ⟨rfl, (show (-2147483648) ≤ x13 from by omega), (show x13 ≤ 2147483647 from by omega), (show x13 = x13 from rfl)⟩ w (by decide) rfl
set_option maxRecDepth 100000 in
set_option maxHeartbeats 4000000 in
theorem c107_X12_lasts (l : Launch) (D : va_G) (T : Nat → ClassId) (sz : Nat) (a0 : Nat) (x0 : Int) (r0 : Int32) (a1 : Nat) (x1 : Int) (x2 : Int) (x3 : Int) (x4 : Int) (x5 : Int) (x6 : Int) (r1 : Int32) (x7 : Int) (x8 : Int) (x9 : Int) (y0 : Int64) (x10 : Int) (a2 : Nat) (a3 : Nat) (a4 : Nat) (a5 : Nat) (a6 : Nat) (a7 : Nat) (a8 : Nat) (a9 : Nat) (a10 : Nat) (a11 : Nat) (x11 : Int) (a12 : Nat) (a13 : Nat) (a14 : Nat) (a15 : Nat) (x12 : Int) (r2 : Int32) (r3 : Int32) (a16 : Nat) (x13 : Int) (x14 : Int) (a17 : Nat) (a18 : Nat) (x15 : Int) (a19 : Nat) (x16 : Int) (r4 : Int32) (a20 : Nat) (a21 : Nat) (x17 : Int) (r5 : Int32) (a22 : Nat) (x18 : Int) (x19 : Int) (x20 : Int) (x21 : Int) (f0 : Int → Int) (x0_a : (-2147483648) ≤ x0) (x0_b : x0 ≤ 2147483647) (x1_a : 0 ≤ x1) (x1_b : x1 ≤ 940) (x2_a : 0 ≤ x2) (x2_b : x2 ≤ 940) (x3_a : 0 ≤ x3) (x3_b : x3 ≤ 940) (x4_a : 0 ≤ x4) (x4_b : x4 ≤ 940) (x5_a : 0 ≤ x5) (x5_b : x5 ≤ 940) (x6_a : 0 ≤ x6) (x6_b : x6 ≤ 4) (x7_a : (-2147483648) ≤ x7) (x7_b : x7 ≤ 2147483647) (x8_a : (-2147483648) ≤ x8) (x8_b : x8 ≤ 2147483647) (x9_a : 0 ≤ x9) (x9_b : x9 ≤ 940) (x10_a : (-2147483648) ≤ x10) (x10_b : x10 ≤ 2147483647) (x11_a : 0 ≤ x11) (x11_b : x11 ≤ 8) (x12_a : 0 ≤ x12) (x12_b : x12 ≤ 9) (x13_a : (-1) ≤ x13) (x13_b : x13 ≤ 9) (x14_a : (-1) ≤ x14) (x14_b : x14 ≤ 8) (x15_a : 0 ≤ x15) (x15_b : x15 ≤ 9) (x16_a : 0 ≤ x16) (x16_b : x16 ≤ 64) (x17_a : 0 ≤ x17) (x17_b : x17 ≤ 40) (x18_a : 0 ≤ x18) (x18_b : x18 ≤ 40) (x19_a : 0 ≤ x19) (x19_b : x19 ≤ 20) (x20_a : 0 ≤ x20) (x20_b : x20 ≤ 8) (x21_a : 0 ≤ x21) (x21_b : x21 ≤ 39) (f0_h : nowI f0) : Met l yX12_lasts (Cond.code yX12_lasts cX12_lasts 4 (some .int) :: GW) (Rm 2 0 0) (cPre [.ref a0, .int (iI x0)] D T [(a0, .inr (11, [.int r0, .ref a1, .int (iI x1), .int (iI x2), .int (iI x3), .int (iI x4), .int (iI x5), .int (iI x6), .int r1, .int (iI x7), .int (iI x8), .int (iI x9), .long y0, .int (iI x10), .ref a2, .ref a3, .ref a4, .ref a5, .ref a6, .ref a7, .ref a8, .ref a9, .ref a10, .ref a11, .int (iI x11), .ref a12, .ref a13, .ref a14, .ref a15, .int (iI x12), .int r2, .int r3, .ref a16, .int (iI x13), .int (iI x14), .ref a17, .ref a18, .int (iI x15), .ref a19, .int (iI x16), .int r4, .ref a20, .ref a21, .int (iI x17), .int r5, .ref a22, .int (iI x18), .int (iI x19), .int (iI x20), .int (iI x21)])), (a2, .inl (T 0, 329, .inl (cI f0)))] sz) (qI D [(a0, .inr (11, [.int r0, .ref a1, .int (iI x1), .int (iI x2), .int (iI x3), .int (iI x4), .int (iI x5), .int (iI x6), .int r1, .int (iI x7), .int (iI x8), .int (iI x9), .long y0, .int (iI x10), .ref a2, .ref a3, .ref a4, .ref a5, .ref a6, .ref a7, .ref a8, .ref a9, .ref a10, .ref a11, .int (iI x11), .ref a12, .ref a13, .ref a14, .ref a15, .int (iI x12), .int r2, .int r3, .ref a16, .int (iI x13), .int (iI x14), .ref a17, .ref a18, .int (iI x15), .ref a19, .int (iI x16), .int r4, .ref a20, .ref a21, .int (iI x17), .int r5, .ref a22, .int (iI x18), .int (iI x19), .int (iI x20), .int (iI x21)])), (a2, .inl (T 0, 329, .inl (cI f0)))] sz (fun (v : Int32) (u : Int × Int32) => iI u.1 = v ∧ (-2147483648) ≤ u.1 ∧ u.1 ≤ 2147483647) (fun u => [(a0, .inr (11, [.int u.2, .ref a1, .int (iI x1), .int (iI x2), .int (iI x3), .int (iI x4), .int (iI x5), .int (iI x6), .int r1, .int (iI x7), .int (iI x8), .int (iI x9), .long y0, .int (iI x10), .ref a2, .ref a3, .ref a4, .ref a5, .ref a6, .ref a7, .ref a8, .ref a9, .ref a10, .ref a11, .int (iI x11), .ref a12, .ref a13, .ref a14, .ref a15, .int (iI x12), .int r2, .int r3, .ref a16, .int (iI x13), .int (iI x14), .ref a17, .ref a18, .int (iI x15), .ref a19, .int (iI x16), .int r4, .ref a20, .ref a21, .int (iI x17), .int r5, .ref a22, .int (iI x18), .int (iI x19), .int (iI x20), .int (iI x21)])), (a2, .inl (T 0, 329, .inl (cI f0)))])) 0 0 (va_A [(a0, .inr (11, [.int r0, .ref a1, .int (iI x1), .int (iI x2), .int (iI x3), .int (iI x4), .int (iI x5), .int (iI x6), .int r1, .int (iI x7), .int (iI x8), .int (iI x9), .long y0, .int (iI x10), .ref a2, .ref a3, .ref a4, .ref a5, .ref a6, .ref a7, .ref a8, .ref a9, .ref a10, .ref a11, .int (iI x11), .ref a12, .ref a13, .ref a14, .ref a15, .int (iI x12), .int r2, .int r3, .ref a16, .int (iI x13), .int (iI x14), .ref a17, .ref a18, .int (iI x15), .ref a19, .int (iI x16), .int r4, .ref a20, .ref a21, .int (iI x17), .int r5, .ref a22, .int (iI x18), .int (iI x19), .int (iI x20), .int (iI x21)])), (a2, .inl (T 0, 329, .inl (cI f0)))] sz) := by
  refine e_I (by decide) (Nat.le_of_ble_eq_true rfl) ?_
  intro p e s m args below meth c A Q ls M hin w ret hl
  have hx := M.1.1
  have hb := M.1.2.1
  have hl : lv_has ls 4 [(0, .ref a0), (1, .int (iI x0))] := hl
  refine lv_aload_n hx hb dX12_lasts_0 rfl (lv_at hl 0 rfl) ?_
  refine lv_iconst (v := iI 0) hx hb dX12_lasts_1 (by decide +kernel) ?_
  refine r_put (ws' := [(a0, .inr (11, [.int (iI 0), .ref a1, .int (iI x1), .int (iI x2), .int (iI x3), .int (iI x4), .int (iI x5), .int (iI x6), .int r1, .int (iI x7), .int (iI x8), .int (iI x9), .long y0, .int (iI x10), .ref a2, .ref a3, .ref a4, .ref a5, .ref a6, .ref a7, .ref a8, .ref a9, .ref a10, .ref a11, .int (iI x11), .ref a12, .ref a13, .ref a14, .ref a15, .int (iI x12), .int r2, .int r3, .ref a16, .int (iI x13), .int (iI x14), .ref a17, .ref a18, .int (iI x15), .ref a19, .int (iI x16), .int r4, .ref a20, .ref a21, .int (iI x17), .int r5, .ref a22, .int (iI x18), .int (iI x19), .int (iI x20), .int (iI x21)])), (a2, .inl (T 0, 329, .inl (cI f0)))]) M w 0 0 clX12 rfl (by decide) G1463 rfl rfl rfl rfl (Nat.le_of_ble_eq_true rfl) rfl dX12_lasts_2 (fun H locs w => ?_)
  refine lv_aload_n hx hb dX12_lasts_5 rfl (lv_at hl 0 rfl) ?_
  refine lv_iload_n hx hb dX12_lasts_6 rfl (lv_at hl 1 rfl) ?_
  refine k_I (ce := 0) (sl := 0) (rest := []) (wr := []) (r_V (f := 1) [0, 1] M w V_HookedCityModel_240 G1736 G68 (c68_X12_isPerson l D T _ a0 x0 (iI 0) a1 x1 x2 x3 x4 x5 x6 r1 x7 x8 x9 y0 x10 a2 a3 a4 a5 a6 a7 a8 a9 a10 a11 x11 a12 a13 a14 a15 x12 r2 r3 a16 x13 x14 a17 a18 x15 a19 x16 r4 a20 a21 x17 r5 a22 x18 x19 x20 x21 f0 x0_a x0_b x1_a x1_b x2_a x2_b x3_a x3_b x4_a x4_b x5_a x5_b x6_a x6_b x7_a x7_b x8_a x8_b x9_a x9_b x10_a x10_b x11_a x11_b x12_a x12_b x13_a x13_b x14_a x14_b x15_a x15_b x16_a x16_b x17_a x17_b x18_a x18_b x19_a x19_b x20_a x20_b x21_a x21_b f0_h) 0 clX12 rfl rfl (by decide) rfl hl.1 rfl (Nat.le_of_ble_eq_true rfl) dX12_lasts_7 (by decide) (by decide) (by decide) (by decide)) w [0, 1] [] rfl rfl (by decide) (by decide) rfl rfl (fun v z1 H locs hp w => ?_)
  have hv : iI z1 = v := hp.1
  subst hv
  have z1_a : 0 ≤ z1 := hp.2.1
  have z1_b : z1 ≤ 1 := hp.2.2.1
  have ee2 : 0 ≤ ((x0 + 4294967296) - (z1 * 4294967296)) := hp.2.2.2.1
  have ee3 : 0 ≤ (((8 - x0) + 4294967296) - (z1 * 4294967296)) := hp.2.2.2.2.1
  have pq4 : ipQ z1 x0 (f0 0) := hp.2.2.2.2.2
  have w : WD D A s.heap [(a0, .inr (11, [.int (iI 0), .ref a1, .int (iI x1), .int (iI x2), .int (iI x3), .int (iI x4), .int (iI x5), .int (iI x6), .int r1, .int (iI x7), .int (iI x8), .int (iI x9), .long y0, .int (iI x10), .ref a2, .ref a3, .ref a4, .ref a5, .ref a6, .ref a7, .ref a8, .ref a9, .ref a10, .ref a11, .int (iI x11), .ref a12, .ref a13, .ref a14, .ref a15, .int (iI x12), .int r2, .int r3, .ref a16, .int (iI x13), .int (iI x14), .ref a17, .ref a18, .int (iI x15), .ref a19, .int (iI x16), .int r4, .ref a20, .ref a21, .int (iI x17), .int r5, .ref a22, .int (iI x18), .int (iI x19), .int (iI x20), .int (iI x21)])), (a2, .inl (T 0, 329, .inl (cI f0)))] H locs := w
  refine lv_if_eq (tgt := 21) hx hb dX12_lasts_10 (by decide) (fun c_5 => ?_) (fun c_5 => ?_)
  · replace c_5 := (iz_eq (Int.le_trans (by decide) z1_a) (Int.le_trans z1_b (by decide))).mp c_5
    refine lv_iconst (v := iI (-1)) hx hb dX12_lasts_21 (by decide +kernel) ?_
    exact ret _ ((-1), (iI 0)) _ _ _ _ _ [0, 1] dX12_lasts_22 ⟨rfl, (show (-2147483648) ≤ (-1) from by decide), (show ((-1) : Int) ≤ 2147483647 from by decide)⟩ w (by decide) rfl
  · replace c_5 : ¬ z1 = 0 := fun h => c_5 ((iz_eq (Int.le_trans (by decide) z1_a) (Int.le_trans z1_b (by decide))).mpr h)
    refine lv_aload_n hx hb dX12_lasts_13 rfl (lv_at hl 0 rfl) ?_
    refine lv_iload_n hx hb dX12_lasts_14 rfl (lv_at hl 1 rfl) ?_
    refine k_I (ce := 0) (sl := 0) (rest := []) (wr := []) (r_V (f := 0) [0, 1] M w V_HookedCityModel_261 G1772 G75 (c71_X12_isBare l D T _ a0 x0 (iI 0) a1 x1 x2 x3 x4 x5 x6 r1 x7 x8 x9 y0 x10 a2 a3 a4 a5 a6 a7 a8 a9 a10 a11 x11 a12 a13 a14 a15 x12 r2 r3 a16 x13 x14 a17 a18 x15 a19 x16 r4 a20 a21 x17 r5 a22 x18 x19 x20 x21 f0 (by omega) (by omega) x1_a x1_b x2_a x2_b x3_a x3_b x4_a x4_b x5_a x5_b x6_a x6_b x7_a x7_b x8_a x8_b x9_a x9_b x10_a x10_b x11_a x11_b x12_a x12_b x13_a x13_b x14_a x14_b x15_a x15_b x16_a x16_b x17_a x17_b x18_a x18_b x19_a x19_b x20_a x20_b x21_a x21_b f0_h) 0 clX12 rfl rfl (by decide) rfl hl.1 rfl (Nat.le_of_ble_eq_true rfl) dX12_lasts_15 (by decide) (by decide) (by decide) (by decide)) w [0, 1] [] rfl rfl (by decide) (by decide) rfl rfl (fun v z6 H locs hp w => ?_)
    have hv : iI z6 = v := hp.1
    subst hv
    have z6_a : 0 ≤ z6 := hp.2.1
    have z6_b : z6 ≤ 1 := hp.2.2.1
    have pq7 : z6 = 1 → f0 (66 + x0) = -1 := hp.2.2.2.1
    have pq8 : z6 = 0 → 0 ≤ f0 (66 + x0) := hp.2.2.2.2
    have w : WD D A s.heap [(a0, .inr (11, [.int (iI 0), .ref a1, .int (iI x1), .int (iI x2), .int (iI x3), .int (iI x4), .int (iI x5), .int (iI x6), .int r1, .int (iI x7), .int (iI x8), .int (iI x9), .long y0, .int (iI x10), .ref a2, .ref a3, .ref a4, .ref a5, .ref a6, .ref a7, .ref a8, .ref a9, .ref a10, .ref a11, .int (iI x11), .ref a12, .ref a13, .ref a14, .ref a15, .int (iI x12), .int r2, .int r3, .ref a16, .int (iI x13), .int (iI x14), .ref a17, .ref a18, .int (iI x15), .ref a19, .int (iI x16), .int r4, .ref a20, .ref a21, .int (iI x17), .int r5, .ref a22, .int (iI x18), .int (iI x19), .int (iI x20), .int (iI x21)])), (a2, .inl (T 0, 329, .inl (cI f0)))] H locs := w
    refine lv_if_eq (tgt := 23) hx hb dX12_lasts_18 (by decide) (fun c_9 => ?_) (fun c_9 => ?_)
    · replace c_9 := (iz_eq (Int.le_trans (by decide) z6_a) (Int.le_trans z6_b (by decide))).mp c_9
      refine lv_aload_n hx hb dX12_lasts_23 rfl (lv_at hl 0 rfl) ?_
      refine r_get (v := .ref a2) M w 0 14 clX12 rfl (by decide) G1477 rfl rfl dX12_lasts_24 ?_
      refine lv_bipush (v := iI 75) hx hb dX12_lasts_27 (by decide +kernel) ?_
      refine lv_iload_n hx hb dX12_lasts_29 rfl (lv_at hl 1 rfl) ?_
      refine r_iadd (v := iI (75 + x0)) M (iI_add _ _) dX12_lasts_30 ?_
      refine r_iald (v := iI (f0 (75 + x0))) M w 1 rfl (iI_in (by omega) (by omega) (by decide)) (cI_at (by omega) (by omega)) dX12_lasts_31 ?_
      have hh10 : (-2147483648) ≤ (f0 (75 + x0)) ∧ (f0 (75 + x0)) ≤ 2147483647 := f0_h.1 (75 + x0)
      refine lv_istore_n (lv' := [(2, .int (iI (f0 (75 + x0)))), (0, .ref a0), (1, .int (iI x0))]) hx hb dX12_lasts_32 rfl hl (by decide) rfl (fun ls hl => ?_)
      refine lv_aload_n hx hb dX12_lasts_33 rfl (lv_at hl 1 rfl) ?_
      refine r_get (v := .ref a2) M w 0 14 clX12 rfl (by decide) G1477 rfl rfl dX12_lasts_34 ?_
      refine lv_bipush (v := iI 53) hx hb dX12_lasts_37 (by decide +kernel) ?_
      refine r_iald (v := iI (f0 53)) M w 1 rfl (iI_in (by decide) (by decide) (by decide)) (cI_at (by omega) (by omega)) dX12_lasts_39 ?_
      have hh11 : (-2147483648) ≤ (f0 53) ∧ (f0 53) ≤ 2147483647 := f0_h.1 53
      refine lv_istore_n (lv' := [(3, .int (iI (f0 53))), (2, .int (iI (f0 (75 + x0)))), (0, .ref a0), (1, .int (iI x0))]) hx hb dX12_lasts_40 rfl hl (by decide) rfl (fun ls hl => ?_)
      have loop1 : ∀ (k1 : Nat) (z12 : Int) (z13 : Int) (H : Heap) (locs : List Loc) (ls : Array Slot), (-2147483648) ≤ z12 → z12 ≤ 2147483647 → (-2147483648) ≤ z13 → z13 ≤ 2147483647 → ((400 - z12) : Int).toNat < k1 → WD D A s.heap [(a0, .inr (11, [.int (iI 0), .ref a1, .int (iI x1), .int (iI x2), .int (iI x3), .int (iI x4), .int (iI x5), .int (iI x6), .int r1, .int (iI x7), .int (iI x8), .int (iI x9), .long y0, .int (iI x10), .ref a2, .ref a3, .ref a4, .ref a5, .ref a6, .ref a7, .ref a8, .ref a9, .ref a10, .ref a11, .int (iI x11), .ref a12, .ref a13, .ref a14, .ref a15, .int (iI x12), .int r2, .int r3, .ref a16, .int (iI x13), .int (iI x14), .ref a17, .ref a18, .int (iI x15), .ref a19, .int (iI x16), .int r4, .ref a20, .ref a21, .int (iI x17), .int r5, .ref a22, .int (iI x18), .int (iI x19), .int (iI x20), .int (iI x21)])), (a2, .inl (T 0, 329, .inl (cI f0)))] H locs → lv_has ls 4 [(3, .int (iI z12)), (2, .int (iI z13)), (0, .ref a0), (1, .int (iI x0))] → W p l e (Rm 2 0 0) s m args below meth c H locs 0 0 Q (F0 m 41 ls []) := by
        intro k1
        induction k1 with
        | zero => intro z12 z13 H locs ls z12_a z12_b z13_a z13_b hm; exact absurd hm (Nat.not_lt_zero _)
        | succ k1 ih1 =>
          intro z12 z13 H locs ls z12_a z12_b z13_a z13_b hm1 w hl
          refine lv_iload_n hx hb dX12_lasts_41 rfl (lv_at hl 0 rfl) ?_
          refine lv_sipush (v := iI 400) hx hb dX12_lasts_42 (by decide +kernel) ?_
          refine lv_icmp_ge (tgt := 90) hx hb dX12_lasts_45 (by decide) (fun c_14 => ?_) (fun c_14 => ?_)
          · replace c_14 := (iI_le (by decide) (by decide) (Int.le_trans (by decide) z12_a) (Int.le_trans z12_b (by decide))).mp c_14
            refine lv_iconst (v := iI (-1)) hx hb dX12_lasts_90 (by decide +kernel) ?_
            exact ret _ ((-1), (iI 0)) _ _ _ _ _ [0, 1] dX12_lasts_91 ⟨rfl, (show (-2147483648) ≤ (-1) from by decide), (show ((-1) : Int) ≤ 2147483647 from by decide)⟩ w (by decide) rfl
          · replace c_14 : z12 < 400 := Int.not_le.mp (fun h => c_14 ((iI_le (by decide) (by decide) (Int.le_trans (by decide) z12_a) (Int.le_trans z12_b (by decide))).mpr h))
            refine lv_iload_n hx hb dX12_lasts_48 rfl (lv_at hl 0 rfl) ?_
            refine lv_aload_n hx hb dX12_lasts_49 rfl (lv_at hl 2 rfl) ?_
            refine r_get (v := .ref a2) M w 0 14 clX12 rfl (by decide) G1477 rfl rfl dX12_lasts_50 ?_
            refine lv_iconst (v := iI 3) hx hb dX12_lasts_53 (by decide +kernel) ?_
            refine r_iald (v := iI (f0 3)) M w 1 rfl (iI_in (by decide) (by decide) (by decide)) (cI_at (by omega) (by omega)) dX12_lasts_54 ?_
            have hh15 : (-2147483648) ≤ (f0 3) ∧ (f0 3) ≤ 2147483647 := f0_h.1 3
            have hh16 : 2 ≤ (f0 3) ∧ (f0 3) ≤ 60 := (f0_h.2.1 3).2.2.1 (by omega)
            refine r_irem (v := _) M rfl (iz_ne (by omega) (by omega) (Or.inr (by omega))) dX12_lasts_55 ?_
            refine b_any (fun z17 z17_a z17_b => ?_)
            refine lv_aload_n hx hb dX12_lasts_56 rfl (lv_at hl 2 rfl) ?_
            refine r_get (v := .ref a2) M w 0 14 clX12 rfl (by decide) G1477 rfl rfl dX12_lasts_57 ?_
            refine lv_iconst (v := iI 4) hx hb dX12_lasts_60 (by decide +kernel) ?_
            refine r_iald (v := iI (f0 4)) M w 1 rfl (iI_in (by decide) (by decide) (by decide)) (cI_at (by omega) (by omega)) dX12_lasts_61 ?_
            have hh18 : (-2147483648) ≤ (f0 4) ∧ (f0 4) ≤ 2147483647 := f0_h.1 4
            refine lv_icmp_ge (tgt := 68) hx hb dX12_lasts_62 (by decide) (fun c_19 => ?_) (fun c_19 => ?_)
            · replace c_19 := (iI_le (by omega) (by omega) (Int.le_trans (by decide) z17_a) (Int.le_trans z17_b (by decide))).mp c_19
              refine lv_iload_n hx hb dX12_lasts_68 rfl (lv_at hl 1 rfl) ?_
              refine lv_if_ne (tgt := 84) hx hb dX12_lasts_69 (by decide) (fun c_20 => ?_) (fun c_20 => ?_)
              · replace c_20 : ¬ z13 = 0 := fun h => c_20 ((iz_eq (Int.le_trans (by decide) z13_a) (Int.le_trans z13_b (by decide))).mpr h)
                refine lv_iinc (v := iI (z12 + 1)) (lv' := [(3, .int (iI (z12 + 1))), (2, .int (iI z13)), (0, .ref a0), (1, .int (iI x0))]) hx hb dX12_lasts_84 hl (k := 0) rfl (ii_inc (by decide +kernel)) (by decide) rfl (fun ls hl => ?_)
                refine lv_goto (tgt := 41) hx hb dX12_lasts_87 (by decide) ?_
                exact ih1 (z12 + 1) z13 _ _ _ (by omega) (by omega) z13_a z13_b (by omega) w (lv_sub hl [0, 1, 2, 3] rfl)
              · replace c_20 := (iz_eq (Int.le_trans (by decide) z13_a) (Int.le_trans z13_b (by decide))).mp c_20
                refine lv_iload_n hx hb dX12_lasts_72 rfl (lv_at hl 0 rfl) ?_
                refine lv_iconst (v := iI 1) hx hb dX12_lasts_73 (by decide +kernel) ?_
                refine r_iadd (v := iI (z12 + 1)) M (iI_add _ _) dX12_lasts_74 ?_
                refine lv_aload_n hx hb dX12_lasts_75 rfl (lv_at hl 2 rfl) ?_
                refine r_get (v := .ref a2) M w 0 14 clX12 rfl (by decide) G1477 rfl rfl dX12_lasts_76 ?_
                refine lv_bipush (v := iI 53) hx hb dX12_lasts_79 (by decide +kernel) ?_
                refine r_iald (v := iI (f0 53)) M w 1 rfl (iI_in (by decide) (by decide) (by decide)) (cI_at (by omega) (by omega)) dX12_lasts_81 ?_
                have hh21 : (-2147483648) ≤ (f0 53) ∧ (f0 53) ≤ 2147483647 := f0_h.1 53
                refine r_isub (v := _) M rfl dX12_lasts_82 ?_
                refine b_any (fun z22 z22_a z22_b => ?_)
                exact ret _ (z22, (iI 0)) _ _ _ _ _ [0, 1] dX12_lasts_83 ⟨rfl, z22_a, z22_b⟩ w (by decide) rfl
            · replace c_19 : z17 < (f0 4) := Int.not_le.mp (fun h => c_19 ((iI_le (by omega) (by omega) (Int.le_trans (by decide) z17_a) (Int.le_trans z17_b (by decide))).mpr h))
              obtain ⟨z23, z23_a, z23_b, ee24⟩ : ∃ z : Int, -2147483648 ≤ z ∧ z ≤ 2147483647 ∧ iI z13 + (-1) = iI z := ⟨_, ib0 _, ib1 _, (iI_x _).symm⟩
              refine lv_iinc (v := iI z23) (lv' := [(2, .int (iI z23)), (3, .int (iI z12)), (0, .ref a0), (1, .int (iI x0))]) hx hb dX12_lasts_65 hl (k := 1) rfl ee24 (by decide) rfl (fun ls hl => ?_)
              refine lv_iload_n hx hb dX12_lasts_68 rfl (lv_at hl 0 rfl) ?_
              refine lv_if_ne (tgt := 84) hx hb dX12_lasts_69 (by decide) (fun c_25 => ?_) (fun c_25 => ?_)
              · replace c_25 : ¬ z23 = 0 := fun h => c_25 ((iz_eq (Int.le_trans (by decide) z23_a) (Int.le_trans z23_b (by decide))).mpr h)
                refine lv_iinc (v := iI (z12 + 1)) (lv' := [(3, .int (iI (z12 + 1))), (2, .int (iI z23)), (0, .ref a0), (1, .int (iI x0))]) hx hb dX12_lasts_84 hl (k := 1) rfl (ii_inc (by decide +kernel)) (by decide) rfl (fun ls hl => ?_)
                refine lv_goto (tgt := 41) hx hb dX12_lasts_87 (by decide) ?_
                exact ih1 (z12 + 1) z23 _ _ _ (by omega) (by omega) z23_a z23_b (by omega) w (lv_sub hl [0, 1, 2, 3] rfl)
              · replace c_25 := (iz_eq (Int.le_trans (by decide) z23_a) (Int.le_trans z23_b (by decide))).mp c_25
                refine lv_iload_n hx hb dX12_lasts_72 rfl (lv_at hl 1 rfl) ?_
                refine lv_iconst (v := iI 1) hx hb dX12_lasts_73 (by decide +kernel) ?_
                refine r_iadd (v := iI (z12 + 1)) M (iI_add _ _) dX12_lasts_74 ?_
                refine lv_aload_n hx hb dX12_lasts_75 rfl (lv_at hl 2 rfl) ?_
                refine r_get (v := .ref a2) M w 0 14 clX12 rfl (by decide) G1477 rfl rfl dX12_lasts_76 ?_
                refine lv_bipush (v := iI 53) hx hb dX12_lasts_79 (by decide +kernel) ?_
                refine r_iald (v := iI (f0 53)) M w 1 rfl (iI_in (by decide) (by decide) (by decide)) (cI_at (by omega) (by omega)) dX12_lasts_81 ?_
                have hh26 : (-2147483648) ≤ (f0 53) ∧ (f0 53) ≤ 2147483647 := f0_h.1 53
                refine r_isub (v := _) M rfl dX12_lasts_82 ?_
                refine b_any (fun z27 z27_a z27_b => ?_)
                exact ret _ (z27, (iI 0)) _ _ _ _ _ [0, 1] dX12_lasts_83 ⟨rfl, z27_a, z27_b⟩ w (by decide) rfl
      exact loop1 (((400 - (f0 53)) : Int).toNat + 1) (f0 53) (f0 (75 + x0)) _ _ _ (by omega) (by omega) (by omega) (by omega) (Nat.lt_succ_self _) w (lv_sub hl [0, 1, 2, 3] rfl)
    · replace c_9 : ¬ z6 = 0 := fun h => c_9 ((iz_eq (Int.le_trans (by decide) z6_a) (Int.le_trans z6_b (by decide))).mpr h)
      refine lv_iconst (v := iI (-1)) hx hb dX12_lasts_21 (by decide +kernel) ?_
      exact ret _ ((-1), (iI 0)) _ _ _ _ _ [0, 1] dX12_lasts_22 ⟨rfl, (show (-2147483648) ≤ (-1) from by decide), (show ((-1) : Int) ≤ 2147483647 from by decide)⟩ w (by decide) rfl
set_option maxRecDepth 100000 in
set_option maxHeartbeats 4000000 in
theorem c108_X12_near (l : Launch) (D : va_G) (T : Nat → ClassId) (sz : Nat) (a0 : Nat) (x0 : Int) (r0 : Int32) (a1 : Nat) (x1 : Int) (x2 : Int) (x3 : Int) (x4 : Int) (x5 : Int) (x6 : Int) (r1 : Int32) (x7 : Int) (x8 : Int) (x9 : Int) (y0 : Int64) (x10 : Int) (a2 : Nat) (a3 : Nat) (a4 : Nat) (a5 : Nat) (a6 : Nat) (a7 : Nat) (a8 : Nat) (a9 : Nat) (a10 : Nat) (a11 : Nat) (x11 : Int) (a12 : Nat) (a13 : Nat) (a14 : Nat) (a15 : Nat) (x12 : Int) (r2 : Int32) (r3 : Int32) (a16 : Nat) (x13 : Int) (x14 : Int) (a17 : Nat) (a18 : Nat) (x15 : Int) (a19 : Nat) (x16 : Int) (r4 : Int32) (a20 : Nat) (a21 : Nat) (x17 : Int) (r5 : Int32) (a22 : Nat) (x18 : Int) (x19 : Int) (x20 : Int) (x21 : Int) (f0 : Int → Int) (x0_a : (-2147483648) ≤ x0) (x0_b : x0 ≤ 2147483647) (x1_a : 0 ≤ x1) (x1_b : x1 ≤ 940) (x2_a : 0 ≤ x2) (x2_b : x2 ≤ 940) (x3_a : 0 ≤ x3) (x3_b : x3 ≤ 940) (x4_a : 0 ≤ x4) (x4_b : x4 ≤ 940) (x5_a : 0 ≤ x5) (x5_b : x5 ≤ 940) (x6_a : 0 ≤ x6) (x6_b : x6 ≤ 4) (x7_a : (-2147483648) ≤ x7) (x7_b : x7 ≤ 2147483647) (x8_a : (-2147483648) ≤ x8) (x8_b : x8 ≤ 2147483647) (x9_a : 0 ≤ x9) (x9_b : x9 ≤ 940) (x10_a : (-2147483648) ≤ x10) (x10_b : x10 ≤ 2147483647) (x11_a : 0 ≤ x11) (x11_b : x11 ≤ 8) (x12_a : 0 ≤ x12) (x12_b : x12 ≤ 9) (x13_a : (-1) ≤ x13) (x13_b : x13 ≤ 9) (x14_a : (-1) ≤ x14) (x14_b : x14 ≤ 8) (x15_a : 0 ≤ x15) (x15_b : x15 ≤ 9) (x16_a : 0 ≤ x16) (x16_b : x16 ≤ 64) (x17_a : 0 ≤ x17) (x17_b : x17 ≤ 40) (x18_a : 0 ≤ x18) (x18_b : x18 ≤ 40) (x19_a : 0 ≤ x19) (x19_b : x19 ≤ 20) (x20_a : 0 ≤ x20) (x20_b : x20 ≤ 8) (x21_a : 0 ≤ x21) (x21_b : x21 ≤ 39) (f0_h : nowI f0) : Met l yX12_near (Cond.code yX12_near cX12_near 2 (some .int) :: GW) (Rm 2 0 0) (cPre [.ref a0, .int (iI x0)] D T [(a0, .inr (11, [.int r0, .ref a1, .int (iI x1), .int (iI x2), .int (iI x3), .int (iI x4), .int (iI x5), .int (iI x6), .int r1, .int (iI x7), .int (iI x8), .int (iI x9), .long y0, .int (iI x10), .ref a2, .ref a3, .ref a4, .ref a5, .ref a6, .ref a7, .ref a8, .ref a9, .ref a10, .ref a11, .int (iI x11), .ref a12, .ref a13, .ref a14, .ref a15, .int (iI x12), .int r2, .int r3, .ref a16, .int (iI x13), .int (iI x14), .ref a17, .ref a18, .int (iI x15), .ref a19, .int (iI x16), .int r4, .ref a20, .ref a21, .int (iI x17), .int r5, .ref a22, .int (iI x18), .int (iI x19), .int (iI x20), .int (iI x21)])), (a2, .inl (T 0, 329, .inl (cI f0)))] sz) (qI D [(a0, .inr (11, [.int r0, .ref a1, .int (iI x1), .int (iI x2), .int (iI x3), .int (iI x4), .int (iI x5), .int (iI x6), .int r1, .int (iI x7), .int (iI x8), .int (iI x9), .long y0, .int (iI x10), .ref a2, .ref a3, .ref a4, .ref a5, .ref a6, .ref a7, .ref a8, .ref a9, .ref a10, .ref a11, .int (iI x11), .ref a12, .ref a13, .ref a14, .ref a15, .int (iI x12), .int r2, .int r3, .ref a16, .int (iI x13), .int (iI x14), .ref a17, .ref a18, .int (iI x15), .ref a19, .int (iI x16), .int r4, .ref a20, .ref a21, .int (iI x17), .int r5, .ref a22, .int (iI x18), .int (iI x19), .int (iI x20), .int (iI x21)])), (a2, .inl (T 0, 329, .inl (cI f0)))] sz (fun (v : Int32) (u : Int × Int32) => iI u.1 = v ∧ (-2147483648) ≤ u.1 ∧ u.1 ≤ 2147483647 ∧ (neQ u.1 x0 (f0 0) (f0 (44 + x0)))) (fun u => [(a0, .inr (11, [.int u.2, .ref a1, .int (iI x1), .int (iI x2), .int (iI x3), .int (iI x4), .int (iI x5), .int (iI x6), .int r1, .int (iI x7), .int (iI x8), .int (iI x9), .long y0, .int (iI x10), .ref a2, .ref a3, .ref a4, .ref a5, .ref a6, .ref a7, .ref a8, .ref a9, .ref a10, .ref a11, .int (iI x11), .ref a12, .ref a13, .ref a14, .ref a15, .int (iI x12), .int r2, .int r3, .ref a16, .int (iI x13), .int (iI x14), .ref a17, .ref a18, .int (iI x15), .ref a19, .int (iI x16), .int r4, .ref a20, .ref a21, .int (iI x17), .int r5, .ref a22, .int (iI x18), .int (iI x19), .int (iI x20), .int (iI x21)])), (a2, .inl (T 0, 329, .inl (cI f0)))])) 0 0 (va_A [(a0, .inr (11, [.int r0, .ref a1, .int (iI x1), .int (iI x2), .int (iI x3), .int (iI x4), .int (iI x5), .int (iI x6), .int r1, .int (iI x7), .int (iI x8), .int (iI x9), .long y0, .int (iI x10), .ref a2, .ref a3, .ref a4, .ref a5, .ref a6, .ref a7, .ref a8, .ref a9, .ref a10, .ref a11, .int (iI x11), .ref a12, .ref a13, .ref a14, .ref a15, .int (iI x12), .int r2, .int r3, .ref a16, .int (iI x13), .int (iI x14), .ref a17, .ref a18, .int (iI x15), .ref a19, .int (iI x16), .int r4, .ref a20, .ref a21, .int (iI x17), .int r5, .ref a22, .int (iI x18), .int (iI x19), .int (iI x20), .int (iI x21)])), (a2, .inl (T 0, 329, .inl (cI f0)))] sz) := by
  refine e_I (by decide) (Nat.le_of_ble_eq_true rfl) ?_
  intro p e s m args below meth c A Q ls M hin w ret hl
  have hx := M.1.1
  have hb := M.1.2.1
  have hl : lv_has ls 2 [(0, .ref a0), (1, .int (iI x0))] := hl
  refine lv_aload_n hx hb dX12_near_0 rfl (lv_at hl 0 rfl) ?_
  refine lv_iconst (v := iI 0) hx hb dX12_near_1 (by decide +kernel) ?_
  refine r_put (ws' := [(a0, .inr (11, [.int (iI 0), .ref a1, .int (iI x1), .int (iI x2), .int (iI x3), .int (iI x4), .int (iI x5), .int (iI x6), .int r1, .int (iI x7), .int (iI x8), .int (iI x9), .long y0, .int (iI x10), .ref a2, .ref a3, .ref a4, .ref a5, .ref a6, .ref a7, .ref a8, .ref a9, .ref a10, .ref a11, .int (iI x11), .ref a12, .ref a13, .ref a14, .ref a15, .int (iI x12), .int r2, .int r3, .ref a16, .int (iI x13), .int (iI x14), .ref a17, .ref a18, .int (iI x15), .ref a19, .int (iI x16), .int r4, .ref a20, .ref a21, .int (iI x17), .int r5, .ref a22, .int (iI x18), .int (iI x19), .int (iI x20), .int (iI x21)])), (a2, .inl (T 0, 329, .inl (cI f0)))]) M w 0 0 clX12 rfl (by decide) G1463 rfl rfl rfl rfl (Nat.le_of_ble_eq_true rfl) rfl dX12_near_2 (fun H locs w => ?_)
  refine lv_aload_n hx hb dX12_near_5 rfl (lv_at hl 0 rfl) ?_
  refine lv_iload_n hx hb dX12_near_6 rfl (lv_at hl 1 rfl) ?_
  refine k_I (ce := 0) (sl := 0) (rest := []) (wr := []) (r_V (f := 1) [0, 1] M w V_HookedCityModel_240 G1736 G68 (c68_X12_isPerson l D T _ a0 x0 (iI 0) a1 x1 x2 x3 x4 x5 x6 r1 x7 x8 x9 y0 x10 a2 a3 a4 a5 a6 a7 a8 a9 a10 a11 x11 a12 a13 a14 a15 x12 r2 r3 a16 x13 x14 a17 a18 x15 a19 x16 r4 a20 a21 x17 r5 a22 x18 x19 x20 x21 f0 x0_a x0_b x1_a x1_b x2_a x2_b x3_a x3_b x4_a x4_b x5_a x5_b x6_a x6_b x7_a x7_b x8_a x8_b x9_a x9_b x10_a x10_b x11_a x11_b x12_a x12_b x13_a x13_b x14_a x14_b x15_a x15_b x16_a x16_b x17_a x17_b x18_a x18_b x19_a x19_b x20_a x20_b x21_a x21_b f0_h) 0 clX12 rfl rfl (by decide) rfl hl.1 rfl (Nat.le_of_ble_eq_true rfl) dX12_near_7 (by decide) (by decide) (by decide) (by decide)) w [0, 1] [] rfl rfl (by decide) (by decide) rfl rfl (fun v z1 H locs hp w => ?_)
  have hv : iI z1 = v := hp.1
  subst hv
  have z1_a : 0 ≤ z1 := hp.2.1
  have z1_b : z1 ≤ 1 := hp.2.2.1
  have ee2 : 0 ≤ ((x0 + 4294967296) - (z1 * 4294967296)) := hp.2.2.2.1
  have ee3 : 0 ≤ (((8 - x0) + 4294967296) - (z1 * 4294967296)) := hp.2.2.2.2.1
  have pq4 : ipQ z1 x0 (f0 0) := hp.2.2.2.2.2
  have w : WD D A s.heap [(a0, .inr (11, [.int (iI 0), .ref a1, .int (iI x1), .int (iI x2), .int (iI x3), .int (iI x4), .int (iI x5), .int (iI x6), .int r1, .int (iI x7), .int (iI x8), .int (iI x9), .long y0, .int (iI x10), .ref a2, .ref a3, .ref a4, .ref a5, .ref a6, .ref a7, .ref a8, .ref a9, .ref a10, .ref a11, .int (iI x11), .ref a12, .ref a13, .ref a14, .ref a15, .int (iI x12), .int r2, .int r3, .ref a16, .int (iI x13), .int (iI x14), .ref a17, .ref a18, .int (iI x15), .ref a19, .int (iI x16), .int r4, .ref a20, .ref a21, .int (iI x17), .int r5, .ref a22, .int (iI x18), .int (iI x19), .int (iI x20), .int (iI x21)])), (a2, .inl (T 0, 329, .inl (cI f0)))] H locs := w
  refine lv_if_eq (tgt := 25) hx hb dX12_near_10 (by decide) (fun c_5 => ?_) (fun c_5 => ?_)
  · replace c_5 := (iz_eq (Int.le_trans (by decide) z1_a) (Int.le_trans z1_b (by decide))).mp c_5
    refine lv_iconst (v := iI (-1)) hx hb dX12_near_25 (by decide +kernel) ?_
    exact ret _ ((-1), (iI 0)) _ _ _ _ _ [0, 1] dX12_near_26 ⟨rfl, (show (-2147483648) ≤ (-1) from by decide), (show ((-1) : Int) ≤ 2147483647 from by decide), (show neQ (-1) x0 (f0 0) (f0 (44 + x0)) from (by have q9 := pq4; unfold ipQ at q9; unfold neQ; omega))⟩ w (by decide) rfl
  · replace c_5 : ¬ z1 = 0 := fun h => c_5 ((iz_eq (Int.le_trans (by decide) z1_a) (Int.le_trans z1_b (by decide))).mpr h)
    refine lv_aload_n hx hb dX12_near_13 rfl (lv_at hl 0 rfl) ?_
    refine r_get (v := .ref a2) M w 0 14 clX12 rfl (by decide) G1477 rfl rfl dX12_near_14 ?_
    refine lv_bipush (v := iI 44) hx hb dX12_near_17 (by decide +kernel) ?_
    refine lv_iload_n hx hb dX12_near_19 rfl (lv_at hl 1 rfl) ?_
    refine r_iadd (v := iI (44 + x0)) M (iI_add _ _) dX12_near_20 ?_
    refine r_iald (v := iI (f0 (44 + x0))) M w 1 rfl (iI_in (by omega) (by omega) (by decide)) (cI_at (by omega) (by omega)) dX12_near_21 ?_
    have hh6 : (-2147483648) ≤ (f0 (44 + x0)) ∧ (f0 (44 + x0)) ≤ 2147483647 := f0_h.1 (44 + x0)
    refine lv_goto (tgt := 26) hx hb dX12_near_22 (by decide) ?_
    exact ret _ ((f0 (44 + x0)), (iI 0)) _ _ _ _ _ [0, 1] dX12_near_26 ⟨rfl, (show (-2147483648) ≤ (f0 (44 + x0)) from by omega), (show (f0 (44 + x0)) ≤ 2147483647 from by omega), (show neQ (f0 (44 + x0)) x0 (f0 0) (f0 (44 + x0)) from (by have q9 := pq4; unfold ipQ at q9; unfold neQ; omega))⟩ w (by decide) rfl
set_option maxRecDepth 100000 in
set_option maxHeartbeats 4000000 in
theorem c109_X12_could (l : Launch) (D : va_G) (T : Nat → ClassId) (sz : Nat) (a0 : Nat) (x0 : Int) (r0 : Int32) (a1 : Nat) (x1 : Int) (x2 : Int) (x3 : Int) (x4 : Int) (x5 : Int) (x6 : Int) (r1 : Int32) (x7 : Int) (x8 : Int) (x9 : Int) (y0 : Int64) (x10 : Int) (a2 : Nat) (a3 : Nat) (a4 : Nat) (a5 : Nat) (a6 : Nat) (a7 : Nat) (a8 : Nat) (a9 : Nat) (a10 : Nat) (a11 : Nat) (x11 : Int) (a12 : Nat) (a13 : Nat) (a14 : Nat) (a15 : Nat) (x12 : Int) (r2 : Int32) (r3 : Int32) (a16 : Nat) (x13 : Int) (x14 : Int) (a17 : Nat) (a18 : Nat) (x15 : Int) (a19 : Nat) (x16 : Int) (r4 : Int32) (a20 : Nat) (a21 : Nat) (x17 : Int) (r5 : Int32) (a22 : Nat) (x18 : Int) (x19 : Int) (x20 : Int) (x21 : Int) (f0 : Int → Int) (x0_a : (-2147483648) ≤ x0) (x0_b : x0 ≤ 2147483647) (x1_a : 0 ≤ x1) (x1_b : x1 ≤ 940) (x2_a : 0 ≤ x2) (x2_b : x2 ≤ 940) (x3_a : 0 ≤ x3) (x3_b : x3 ≤ 940) (x4_a : 0 ≤ x4) (x4_b : x4 ≤ 940) (x5_a : 0 ≤ x5) (x5_b : x5 ≤ 940) (x6_a : 0 ≤ x6) (x6_b : x6 ≤ 4) (x7_a : (-2147483648) ≤ x7) (x7_b : x7 ≤ 2147483647) (x8_a : (-2147483648) ≤ x8) (x8_b : x8 ≤ 2147483647) (x9_a : 0 ≤ x9) (x9_b : x9 ≤ 940) (x10_a : (-2147483648) ≤ x10) (x10_b : x10 ≤ 2147483647) (x11_a : 0 ≤ x11) (x11_b : x11 ≤ 8) (x12_a : 0 ≤ x12) (x12_b : x12 ≤ 9) (x13_a : (-1) ≤ x13) (x13_b : x13 ≤ 9) (x14_a : (-1) ≤ x14) (x14_b : x14 ≤ 8) (x15_a : 0 ≤ x15) (x15_b : x15 ≤ 9) (x16_a : 0 ≤ x16) (x16_b : x16 ≤ 64) (x17_a : 0 ≤ x17) (x17_b : x17 ≤ 40) (x18_a : 0 ≤ x18) (x18_b : x18 ≤ 40) (x19_a : 0 ≤ x19) (x19_b : x19 ≤ 20) (x20_a : 0 ≤ x20) (x20_b : x20 ≤ 8) (x21_a : 0 ≤ x21) (x21_b : x21 ≤ 39) (f0_h : nowI f0) : Met l yX12_could (Cond.code yX12_could cX12_could 4 (some .int) :: GW) (Rm 2 0 0) (cPre [.ref a0, .int (iI x0)] D T [(a0, .inr (11, [.int r0, .ref a1, .int (iI x1), .int (iI x2), .int (iI x3), .int (iI x4), .int (iI x5), .int (iI x6), .int r1, .int (iI x7), .int (iI x8), .int (iI x9), .long y0, .int (iI x10), .ref a2, .ref a3, .ref a4, .ref a5, .ref a6, .ref a7, .ref a8, .ref a9, .ref a10, .ref a11, .int (iI x11), .ref a12, .ref a13, .ref a14, .ref a15, .int (iI x12), .int r2, .int r3, .ref a16, .int (iI x13), .int (iI x14), .ref a17, .ref a18, .int (iI x15), .ref a19, .int (iI x16), .int r4, .ref a20, .ref a21, .int (iI x17), .int r5, .ref a22, .int (iI x18), .int (iI x19), .int (iI x20), .int (iI x21)])), (a2, .inl (T 0, 329, .inl (cI f0)))] sz) (qI D [(a0, .inr (11, [.int r0, .ref a1, .int (iI x1), .int (iI x2), .int (iI x3), .int (iI x4), .int (iI x5), .int (iI x6), .int r1, .int (iI x7), .int (iI x8), .int (iI x9), .long y0, .int (iI x10), .ref a2, .ref a3, .ref a4, .ref a5, .ref a6, .ref a7, .ref a8, .ref a9, .ref a10, .ref a11, .int (iI x11), .ref a12, .ref a13, .ref a14, .ref a15, .int (iI x12), .int r2, .int r3, .ref a16, .int (iI x13), .int (iI x14), .ref a17, .ref a18, .int (iI x15), .ref a19, .int (iI x16), .int r4, .ref a20, .ref a21, .int (iI x17), .int r5, .ref a22, .int (iI x18), .int (iI x19), .int (iI x20), .int (iI x21)])), (a2, .inl (T 0, 329, .inl (cI f0)))] sz (fun (v : Int32) (u : Int × Int32) => iI u.1 = v ∧ (-2147483648) ≤ u.1 ∧ u.1 ≤ 2147483647) (fun u => [(a0, .inr (11, [.int u.2, .ref a1, .int (iI x1), .int (iI x2), .int (iI x3), .int (iI x4), .int (iI x5), .int (iI x6), .int r1, .int (iI x7), .int (iI x8), .int (iI x9), .long y0, .int (iI x10), .ref a2, .ref a3, .ref a4, .ref a5, .ref a6, .ref a7, .ref a8, .ref a9, .ref a10, .ref a11, .int (iI x11), .ref a12, .ref a13, .ref a14, .ref a15, .int (iI x12), .int r2, .int r3, .ref a16, .int (iI x13), .int (iI x14), .ref a17, .ref a18, .int (iI x15), .ref a19, .int (iI x16), .int r4, .ref a20, .ref a21, .int (iI x17), .int r5, .ref a22, .int (iI x18), .int (iI x19), .int (iI x20), .int (iI x21)])), (a2, .inl (T 0, 329, .inl (cI f0)))])) 0 0 (va_A [(a0, .inr (11, [.int r0, .ref a1, .int (iI x1), .int (iI x2), .int (iI x3), .int (iI x4), .int (iI x5), .int (iI x6), .int r1, .int (iI x7), .int (iI x8), .int (iI x9), .long y0, .int (iI x10), .ref a2, .ref a3, .ref a4, .ref a5, .ref a6, .ref a7, .ref a8, .ref a9, .ref a10, .ref a11, .int (iI x11), .ref a12, .ref a13, .ref a14, .ref a15, .int (iI x12), .int r2, .int r3, .ref a16, .int (iI x13), .int (iI x14), .ref a17, .ref a18, .int (iI x15), .ref a19, .int (iI x16), .int r4, .ref a20, .ref a21, .int (iI x17), .int r5, .ref a22, .int (iI x18), .int (iI x19), .int (iI x20), .int (iI x21)])), (a2, .inl (T 0, 329, .inl (cI f0)))] sz) := by
  refine e_I (by decide) (Nat.le_of_ble_eq_true rfl) ?_
  intro p e s m args below meth c A Q ls M hin w ret hl
  have hx := M.1.1
  have hb := M.1.2.1
  have hl : lv_has ls 4 [(0, .ref a0), (1, .int (iI x0))] := hl
  refine lv_aload_n hx hb dX12_could_0 rfl (lv_at hl 0 rfl) ?_
  refine lv_iconst (v := iI 0) hx hb dX12_could_1 (by decide +kernel) ?_
  refine r_put (ws' := [(a0, .inr (11, [.int (iI 0), .ref a1, .int (iI x1), .int (iI x2), .int (iI x3), .int (iI x4), .int (iI x5), .int (iI x6), .int r1, .int (iI x7), .int (iI x8), .int (iI x9), .long y0, .int (iI x10), .ref a2, .ref a3, .ref a4, .ref a5, .ref a6, .ref a7, .ref a8, .ref a9, .ref a10, .ref a11, .int (iI x11), .ref a12, .ref a13, .ref a14, .ref a15, .int (iI x12), .int r2, .int r3, .ref a16, .int (iI x13), .int (iI x14), .ref a17, .ref a18, .int (iI x15), .ref a19, .int (iI x16), .int r4, .ref a20, .ref a21, .int (iI x17), .int r5, .ref a22, .int (iI x18), .int (iI x19), .int (iI x20), .int (iI x21)])), (a2, .inl (T 0, 329, .inl (cI f0)))]) M w 0 0 clX12 rfl (by decide) G1463 rfl rfl rfl rfl (Nat.le_of_ble_eq_true rfl) rfl dX12_could_2 (fun H locs w => ?_)
  refine lv_aload_n hx hb dX12_could_5 rfl (lv_at hl 0 rfl) ?_
  refine lv_iload_n hx hb dX12_could_6 rfl (lv_at hl 1 rfl) ?_
  refine k_I (ce := 0) (sl := 0) (rest := []) (wr := []) (r_V (f := 1) [0, 1] M w V_HookedCityModel_240 G1736 G68 (c68_X12_isPerson l D T _ a0 x0 (iI 0) a1 x1 x2 x3 x4 x5 x6 r1 x7 x8 x9 y0 x10 a2 a3 a4 a5 a6 a7 a8 a9 a10 a11 x11 a12 a13 a14 a15 x12 r2 r3 a16 x13 x14 a17 a18 x15 a19 x16 r4 a20 a21 x17 r5 a22 x18 x19 x20 x21 f0 x0_a x0_b x1_a x1_b x2_a x2_b x3_a x3_b x4_a x4_b x5_a x5_b x6_a x6_b x7_a x7_b x8_a x8_b x9_a x9_b x10_a x10_b x11_a x11_b x12_a x12_b x13_a x13_b x14_a x14_b x15_a x15_b x16_a x16_b x17_a x17_b x18_a x18_b x19_a x19_b x20_a x20_b x21_a x21_b f0_h) 0 clX12 rfl rfl (by decide) rfl hl.1 rfl (Nat.le_of_ble_eq_true rfl) dX12_could_7 (by decide) (by decide) (by decide) (by decide)) w [0, 1] [] rfl rfl (by decide) (by decide) rfl rfl (fun v z1 H locs hp w => ?_)
  have hv : iI z1 = v := hp.1
  subst hv
  have z1_a : 0 ≤ z1 := hp.2.1
  have z1_b : z1 ≤ 1 := hp.2.2.1
  have ee2 : 0 ≤ ((x0 + 4294967296) - (z1 * 4294967296)) := hp.2.2.2.1
  have ee3 : 0 ≤ (((8 - x0) + 4294967296) - (z1 * 4294967296)) := hp.2.2.2.2.1
  have pq4 : ipQ z1 x0 (f0 0) := hp.2.2.2.2.2
  have w : WD D A s.heap [(a0, .inr (11, [.int (iI 0), .ref a1, .int (iI x1), .int (iI x2), .int (iI x3), .int (iI x4), .int (iI x5), .int (iI x6), .int r1, .int (iI x7), .int (iI x8), .int (iI x9), .long y0, .int (iI x10), .ref a2, .ref a3, .ref a4, .ref a5, .ref a6, .ref a7, .ref a8, .ref a9, .ref a10, .ref a11, .int (iI x11), .ref a12, .ref a13, .ref a14, .ref a15, .int (iI x12), .int r2, .int r3, .ref a16, .int (iI x13), .int (iI x14), .ref a17, .ref a18, .int (iI x15), .ref a19, .int (iI x16), .int r4, .ref a20, .ref a21, .int (iI x17), .int r5, .ref a22, .int (iI x18), .int (iI x19), .int (iI x20), .int (iI x21)])), (a2, .inl (T 0, 329, .inl (cI f0)))] H locs := w
  refine lv_if_ne (tgt := 15) hx hb dX12_could_10 (by decide) (fun c_5 => ?_) (fun c_5 => ?_)
  · replace c_5 : ¬ z1 = 0 := fun h => c_5 ((iz_eq (Int.le_trans (by decide) z1_a) (Int.le_trans z1_b (by decide))).mpr h)
    refine lv_iconst (v := iI 0) hx hb dX12_could_15 (by decide +kernel) ?_
    refine lv_istore_n (lv' := [(2, .int (iI 0)), (0, .ref a0), (1, .int (iI x0))]) hx hb dX12_could_16 rfl hl (by decide) rfl (fun ls hl => ?_)
    refine lv_iconst (v := iI 0) hx hb dX12_could_17 (by decide +kernel) ?_
    refine lv_istore_n (lv' := [(3, .int (iI 0)), (2, .int (iI 0)), (0, .ref a0), (1, .int (iI x0))]) hx hb dX12_could_18 rfl hl (by decide) rfl (fun ls hl => ?_)
    have loop1 : ∀ (k1 : Nat) (z6 : Int) (z7 : Int) (H : Heap) (locs : List Loc) (ls : Array Slot), 0 ≤ z6 → z6 ≤ 9 → (-2147483648) ≤ z7 → z7 ≤ 2147483647 → ((9 - z6) : Int).toNat < k1 → WD D A s.heap [(a0, .inr (11, [.int (iI 0), .ref a1, .int (iI x1), .int (iI x2), .int (iI x3), .int (iI x4), .int (iI x5), .int (iI x6), .int r1, .int (iI x7), .int (iI x8), .int (iI x9), .long y0, .int (iI x10), .ref a2, .ref a3, .ref a4, .ref a5, .ref a6, .ref a7, .ref a8, .ref a9, .ref a10, .ref a11, .int (iI x11), .ref a12, .ref a13, .ref a14, .ref a15, .int (iI x12), .int r2, .int r3, .ref a16, .int (iI x13), .int (iI x14), .ref a17, .ref a18, .int (iI x15), .ref a19, .int (iI x16), .int r4, .ref a20, .ref a21, .int (iI x17), .int r5, .ref a22, .int (iI x18), .int (iI x19), .int (iI x20), .int (iI x21)])), (a2, .inl (T 0, 329, .inl (cI f0)))] H locs → lv_has ls 4 [(3, .int (iI z6)), (2, .int (iI z7)), (0, .ref a0), (1, .int (iI x0))] → W p l e (Rm 2 0 0) s m args below meth c H locs 0 0 Q (F0 m 19 ls []) := by
      intro k1
      induction k1 with
      | zero => intro z6 z7 H locs ls z6_a z6_b z7_a z7_b hm; exact absurd hm (Nat.not_lt_zero _)
      | succ k1 ih1 =>
        intro z6 z7 H locs ls z6_a z6_b z7_a z7_b hm1 w hl
        refine lv_iload_n hx hb dX12_could_19 rfl (lv_at hl 0 rfl) ?_
        refine lv_aload_n hx hb dX12_could_20 rfl (lv_at hl 2 rfl) ?_
        refine r_get (v := .ref a2) M w 0 14 clX12 rfl (by decide) G1477 rfl rfl dX12_could_21 ?_
        refine lv_iconst (v := iI 0) hx hb dX12_could_24 (by decide +kernel) ?_
        refine r_iald (v := iI (f0 0)) M w 1 rfl (iI_in (by decide) (by decide) (by decide)) (cI_at (by omega) (by omega)) dX12_could_25 ?_
        have hh8 : (-2147483648) ≤ (f0 0) ∧ (f0 0) ≤ 2147483647 := f0_h.1 0
        have hh9 : 0 ≤ (f0 0) ∧ (f0 0) ≤ 9 := (f0_h.2.1 0).1 (by omega)
        refine lv_icmp_ge (tgt := 50) hx hb dX12_could_26 (by decide) (fun c_10 => ?_) (fun c_10 => ?_)
        · replace c_10 := (iI_le (by omega) (by omega) (Int.le_trans (by decide) z6_a) (Int.le_trans z6_b (by decide))).mp c_10
          refine lv_iload_n hx hb dX12_could_50 rfl (lv_at hl 1 rfl) ?_
          exact ret _ (z7, (iI 0)) _ _ _ _ _ [0, 1] dX12_could_51 ⟨rfl, z7_a, z7_b⟩ w (by decide) rfl
        · replace c_10 : z6 < (f0 0) := Int.not_le.mp (fun h => c_10 ((iI_le (by omega) (by omega) (Int.le_trans (by decide) z6_a) (Int.le_trans z6_b (by decide))).mpr h))
          refine lv_aload_n hx hb dX12_could_29 rfl (lv_at hl 2 rfl) ?_
          refine lv_iload_n hx hb dX12_could_30 rfl (lv_at hl 3 rfl) ?_
          refine lv_iload_n hx hb dX12_could_31 rfl (lv_at hl 0 rfl) ?_
          refine k_I (ce := 0) (sl := 0) (rest := []) (wr := []) (r_V (f := 1) [0, 1] M w V_HookedCityModel_273 G1800 G81 (c77_X12_whyButton l D T _ a0 x0 z6 (iI 0) a1 x1 x2 x3 x4 x5 x6 r1 x7 x8 x9 y0 x10 a2 a3 a4 a5 a6 a7 a8 a9 a10 a11 x11 a12 a13 a14 a15 x12 r2 r3 a16 x13 x14 a17 a18 x15 a19 x16 r4 a20 a21 x17 r5 a22 x18 x19 x20 x21 f0 (by omega) (by omega) (by omega) (by omega) x1_a x1_b x2_a x2_b x3_a x3_b x4_a x4_b x5_a x5_b x6_a x6_b x7_a x7_b x8_a x8_b x9_a x9_b x10_a x10_b x11_a x11_b x12_a x12_b x13_a x13_b x14_a x14_b x15_a x15_b x16_a x16_b x17_a x17_b x18_a x18_b x19_a x19_b x20_a x20_b x21_a x21_b f0_h) 0 clX12 rfl rfl (by decide) rfl hl.1 rfl (Nat.le_of_ble_eq_true rfl) dX12_could_32 (by decide) (by decide) (by decide) (by decide)) w [0, 1] [] rfl rfl (by decide) (by decide) rfl rfl (fun v z11 H locs hp w => ?_)
          have hv : iI z11 = v := hp.1
          subst hv
          have z11_a : 0 ≤ z11 := hp.2.1
          have z11_b : z11 ≤ 7 := hp.2.2.1
          have pq12 : z11 = 0 → f0 (66 + z6) = -1 := hp.2.2.2
          have w : WD D A s.heap [(a0, .inr (11, [.int (iI 0), .ref a1, .int (iI x1), .int (iI x2), .int (iI x3), .int (iI x4), .int (iI x5), .int (iI x6), .int r1, .int (iI x7), .int (iI x8), .int (iI x9), .long y0, .int (iI x10), .ref a2, .ref a3, .ref a4, .ref a5, .ref a6, .ref a7, .ref a8, .ref a9, .ref a10, .ref a11, .int (iI x11), .ref a12, .ref a13, .ref a14, .ref a15, .int (iI x12), .int r2, .int r3, .ref a16, .int (iI x13), .int (iI x14), .ref a17, .ref a18, .int (iI x15), .ref a19, .int (iI x16), .int r4, .ref a20, .ref a21, .int (iI x17), .int r5, .ref a22, .int (iI x18), .int (iI x19), .int (iI x20), .int (iI x21)])), (a2, .inl (T 0, 329, .inl (cI f0)))] H locs := w
          refine lv_if_ne (tgt := 44) hx hb dX12_could_35 (by decide) (fun c_13 => ?_) (fun c_13 => ?_)
          · replace c_13 : ¬ z11 = 0 := fun h => c_13 ((iz_eq (Int.le_trans (by decide) z11_a) (Int.le_trans z11_b (by decide))).mpr h)
            refine lv_iinc (v := iI (z6 + 1)) (lv' := [(3, .int (iI (z6 + 1))), (2, .int (iI z7)), (0, .ref a0), (1, .int (iI x0))]) hx hb dX12_could_44 hl (k := 0) rfl (ii_inc (by decide +kernel)) (by decide) rfl (fun ls hl => ?_)
            refine lv_goto (tgt := 19) hx hb dX12_could_47 (by decide) ?_
            exact ih1 (z6 + 1) z7 _ _ _ (by omega) (by omega) z7_a z7_b (by omega) w (lv_sub hl [0, 1, 2, 3] rfl)
          · replace c_13 := (iz_eq (Int.le_trans (by decide) z11_a) (Int.le_trans z11_b (by decide))).mp c_13
            refine lv_iload_n hx hb dX12_could_38 rfl (lv_at hl 1 rfl) ?_
            refine lv_iconst (v := iI 1) hx hb dX12_could_39 (by decide +kernel) ?_
            refine lv_iload_n hx hb dX12_could_40 rfl (lv_at hl 0 rfl) ?_
            refine r_ishl (v := _) M rfl dX12_could_41 ?_
            refine b_rng (lo := 1) (hi := 256) (ishl_9 (by omega) (by omega)) (fun z14 z14_a z14_b => ?_)
            refine r_ior (v := _) M rfl dX12_could_42 ?_
            refine b_any (fun z15 z15_a z15_b => ?_)
            refine lv_istore_n (lv' := [(2, .int (iI z15)), (3, .int (iI z6)), (0, .ref a0), (1, .int (iI x0))]) hx hb dX12_could_43 rfl hl (by decide) rfl (fun ls hl => ?_)
            refine lv_iinc (v := iI (z6 + 1)) (lv' := [(3, .int (iI (z6 + 1))), (2, .int (iI z15)), (0, .ref a0), (1, .int (iI x0))]) hx hb dX12_could_44 hl (k := 1) rfl (ii_inc (by decide +kernel)) (by decide) rfl (fun ls hl => ?_)
            refine lv_goto (tgt := 19) hx hb dX12_could_47 (by decide) ?_
            exact ih1 (z6 + 1) z15 _ _ _ (by omega) (by omega) z15_a z15_b (by omega) w (lv_sub hl [0, 1, 2, 3] rfl)
    exact loop1 ((9 : Int).toNat + 1) 0 0 _ _ _ (by decide) (by decide) (by decide) (by decide) (Nat.lt_succ_self _) w (lv_sub hl [0, 1, 2, 3] rfl)
  · replace c_5 := (iz_eq (Int.le_trans (by decide) z1_a) (Int.le_trans z1_b (by decide))).mp c_5
    refine lv_iconst (v := iI (-1)) hx hb dX12_could_13 (by decide +kernel) ?_
    exact ret _ ((-1), (iI 0)) _ _ _ _ _ [0, 1] dX12_could_14 ⟨rfl, (show (-2147483648) ≤ (-1) from by decide), (show ((-1) : Int) ≤ 2147483647 from by decide)⟩ w (by decide) rfl
set_option maxRecDepth 100000 in
set_option maxHeartbeats 4000000 in
theorem c110_X12_byteAt (l : Launch) (D : va_G) (T : Nat → ClassId) (sz : Nat) (a0 : Nat) (x0 : Int) (r0 : Int32) (a1 : Nat) (x1 : Int) (x2 : Int) (x3 : Int) (x4 : Int) (x5 : Int) (x6 : Int) (r1 : Int32) (x7 : Int) (x8 : Int) (x9 : Int) (y0 : Int64) (x10 : Int) (a2 : Nat) (a3 : Nat) (a4 : Nat) (a5 : Nat) (a6 : Nat) (a7 : Nat) (a8 : Nat) (a9 : Nat) (a10 : Nat) (a11 : Nat) (x11 : Int) (a12 : Nat) (a13 : Nat) (a14 : Nat) (a15 : Nat) (x12 : Int) (r2 : Int32) (r3 : Int32) (a16 : Nat) (x13 : Int) (x14 : Int) (a17 : Nat) (a18 : Nat) (x15 : Int) (a19 : Nat) (x16 : Int) (r4 : Int32) (a20 : Nat) (a21 : Nat) (x17 : Int) (r5 : Int32) (a22 : Nat) (x18 : Int) (x19 : Int) (x20 : Int) (x21 : Int) (f0 : Nat → Int32) (x0_a : (-2147483648) ≤ x0) (x0_b : x0 ≤ 2147483647) (x1_a : 0 ≤ x1) (x1_b : x1 ≤ 940) (x2_a : 0 ≤ x2) (x2_b : x2 ≤ 940) (x3_a : 0 ≤ x3) (x3_b : x3 ≤ 940) (x4_a : 0 ≤ x4) (x4_b : x4 ≤ 940) (x5_a : 0 ≤ x5) (x5_b : x5 ≤ 940) (x6_a : 0 ≤ x6) (x6_b : x6 ≤ 4) (x7_a : (-2147483648) ≤ x7) (x7_b : x7 ≤ 2147483647) (x8_a : (-2147483648) ≤ x8) (x8_b : x8 ≤ 2147483647) (x9_a : 0 ≤ x9) (x9_b : x9 ≤ 940) (x10_a : (-2147483648) ≤ x10) (x10_b : x10 ≤ 2147483647) (x11_a : 0 ≤ x11) (x11_b : x11 ≤ 8) (x12_a : 0 ≤ x12) (x12_b : x12 ≤ 9) (x13_a : (-1) ≤ x13) (x13_b : x13 ≤ 9) (x14_a : (-1) ≤ x14) (x14_b : x14 ≤ 8) (x15_a : 0 ≤ x15) (x15_b : x15 ≤ 9) (x16_a : 0 ≤ x16) (x16_b : x16 ≤ 64) (x17_a : 0 ≤ x17) (x17_b : x17 ≤ 40) (x18_a : 0 ≤ x18) (x18_b : x18 ≤ 40) (x19_a : 0 ≤ x19) (x19_b : x19 ≤ 20) (x20_a : 0 ≤ x20) (x20_b : x20 ≤ 8) (x21_a : 0 ≤ x21) (x21_b : x21 ≤ 39) : Met l yX12_byteAt (Cond.code yX12_byteAt cX12_byteAt 2 (some .int) :: GW) (Rm 1 0 0) (cPre [.ref a0, .int (iI x0)] D T [(a0, .inr (11, [.int r0, .ref a1, .int (iI x1), .int (iI x2), .int (iI x3), .int (iI x4), .int (iI x5), .int (iI x6), .int r1, .int (iI x7), .int (iI x8), .int (iI x9), .long y0, .int (iI x10), .ref a2, .ref a3, .ref a4, .ref a5, .ref a6, .ref a7, .ref a8, .ref a9, .ref a10, .ref a11, .int (iI x11), .ref a12, .ref a13, .ref a14, .ref a15, .int (iI x12), .int r2, .int r3, .ref a16, .int (iI x13), .int (iI x14), .ref a17, .ref a18, .int (iI x15), .ref a19, .int (iI x16), .int r4, .ref a20, .ref a21, .int (iI x17), .int r5, .ref a22, .int (iI x18), .int (iI x19), .int (iI x20), .int (iI x21)])), (a19, .inl (T 0, 64, .inl f0))] sz) (qI D [(a0, .inr (11, [.int r0, .ref a1, .int (iI x1), .int (iI x2), .int (iI x3), .int (iI x4), .int (iI x5), .int (iI x6), .int r1, .int (iI x7), .int (iI x8), .int (iI x9), .long y0, .int (iI x10), .ref a2, .ref a3, .ref a4, .ref a5, .ref a6, .ref a7, .ref a8, .ref a9, .ref a10, .ref a11, .int (iI x11), .ref a12, .ref a13, .ref a14, .ref a15, .int (iI x12), .int r2, .int r3, .ref a16, .int (iI x13), .int (iI x14), .ref a17, .ref a18, .int (iI x15), .ref a19, .int (iI x16), .int r4, .ref a20, .ref a21, .int (iI x17), .int r5, .ref a22, .int (iI x18), .int (iI x19), .int (iI x20), .int (iI x21)])), (a19, .inl (T 0, 64, .inl f0))] sz (fun (v : Int32) (u : Int × Int32) => iI u.1 = v ∧ (-2147483648) ≤ u.1 ∧ u.1 ≤ 2147483647 ∧ ((x0 < 0 ∧ u.1 = (-1)) ∨ (0 ≤ x0 ∧ (x16 - 1) < x0 ∧ u.1 = (-1)) ∨ (0 ≤ x0 ∧ x0 ≤ (x16 - 1)))) (fun u => [(a0, .inr (11, [.int u.2, .ref a1, .int (iI x1), .int (iI x2), .int (iI x3), .int (iI x4), .int (iI x5), .int (iI x6), .int r1, .int (iI x7), .int (iI x8), .int (iI x9), .long y0, .int (iI x10), .ref a2, .ref a3, .ref a4, .ref a5, .ref a6, .ref a7, .ref a8, .ref a9, .ref a10, .ref a11, .int (iI x11), .ref a12, .ref a13, .ref a14, .ref a15, .int (iI x12), .int r2, .int r3, .ref a16, .int (iI x13), .int (iI x14), .ref a17, .ref a18, .int (iI x15), .ref a19, .int (iI x16), .int r4, .ref a20, .ref a21, .int (iI x17), .int r5, .ref a22, .int (iI x18), .int (iI x19), .int (iI x20), .int (iI x21)])), (a19, .inl (T 0, 64, .inl f0))])) 0 0 (va_A [(a0, .inr (11, [.int r0, .ref a1, .int (iI x1), .int (iI x2), .int (iI x3), .int (iI x4), .int (iI x5), .int (iI x6), .int r1, .int (iI x7), .int (iI x8), .int (iI x9), .long y0, .int (iI x10), .ref a2, .ref a3, .ref a4, .ref a5, .ref a6, .ref a7, .ref a8, .ref a9, .ref a10, .ref a11, .int (iI x11), .ref a12, .ref a13, .ref a14, .ref a15, .int (iI x12), .int r2, .int r3, .ref a16, .int (iI x13), .int (iI x14), .ref a17, .ref a18, .int (iI x15), .ref a19, .int (iI x16), .int r4, .ref a20, .ref a21, .int (iI x17), .int r5, .ref a22, .int (iI x18), .int (iI x19), .int (iI x20), .int (iI x21)])), (a19, .inl (T 0, 64, .inl f0))] sz) := by
  refine e_I (by decide) (Nat.le_of_ble_eq_true rfl) ?_
  intro p e s m args below meth c A Q ls M hin w ret hl
  have hx := M.1.1
  have hb := M.1.2.1
  have hl : lv_has ls 2 [(0, .ref a0), (1, .int (iI x0))] := hl
  refine lv_aload_n hx hb dX12_byteAt_0 rfl (lv_at hl 0 rfl) ?_
  refine lv_iconst (v := iI 0) hx hb dX12_byteAt_1 (by decide +kernel) ?_
  refine r_put (ws' := [(a0, .inr (11, [.int (iI 0), .ref a1, .int (iI x1), .int (iI x2), .int (iI x3), .int (iI x4), .int (iI x5), .int (iI x6), .int r1, .int (iI x7), .int (iI x8), .int (iI x9), .long y0, .int (iI x10), .ref a2, .ref a3, .ref a4, .ref a5, .ref a6, .ref a7, .ref a8, .ref a9, .ref a10, .ref a11, .int (iI x11), .ref a12, .ref a13, .ref a14, .ref a15, .int (iI x12), .int r2, .int r3, .ref a16, .int (iI x13), .int (iI x14), .ref a17, .ref a18, .int (iI x15), .ref a19, .int (iI x16), .int r4, .ref a20, .ref a21, .int (iI x17), .int r5, .ref a22, .int (iI x18), .int (iI x19), .int (iI x20), .int (iI x21)])), (a19, .inl (T 0, 64, .inl f0))]) M w 0 0 clX12 rfl (by decide) G1463 rfl rfl rfl rfl (Nat.le_of_ble_eq_true rfl) rfl dX12_byteAt_2 (fun H locs w => ?_)
  refine lv_iload_n hx hb dX12_byteAt_5 rfl (lv_at hl 1 rfl) ?_
  refine lv_iconst (v := iI 0) hx hb dX12_byteAt_6 (by decide +kernel) ?_
  refine lv_aload_n hx hb dX12_byteAt_7 rfl (lv_at hl 0 rfl) ?_
  refine r_get (v := .int (iI x16)) M w 0 39 clX12 rfl (by decide) G1502 rfl rfl dX12_byteAt_8 ?_
  refine lv_iconst (v := iI 1) hx hb dX12_byteAt_11 (by decide +kernel) ?_
  refine r_isub (v := iI (x16 - 1)) M (iI_sub _ _) dX12_byteAt_12 ?_
  refine k_I (ce := 0) (sl := 0) (rest := []) (wr := [(a0, .inr (11, [.int (iI 0), .ref a1, .int (iI x1), .int (iI x2), .int (iI x3), .int (iI x4), .int (iI x5), .int (iI x6), .int r1, .int (iI x7), .int (iI x8), .int (iI x9), .long y0, .int (iI x10), .ref a2, .ref a3, .ref a4, .ref a5, .ref a6, .ref a7, .ref a8, .ref a9, .ref a10, .ref a11, .int (iI x11), .ref a12, .ref a13, .ref a14, .ref a15, .int (iI x12), .int r2, .int r3, .ref a16, .int (iI x13), .int (iI x14), .ref a17, .ref a18, .int (iI x15), .ref a19, .int (iI x16), .int r4, .ref a20, .ref a21, .int (iI x17), .int r5, .ref a22, .int (iI x18), .int (iI x19), .int (iI x20), .int (iI x21)])), (a19, .inl (T 0, 64, .inl f0))]) (r_S (f := 0) [] M w V_HookedCityModel_75 G1693 (c6_X12_isIn l D T _ x0 0 (x16 - 1) x0_a x0_b (by decide) (by decide) (by omega) (by omega)) rfl (by decide) rfl hl.1 rfl (Nat.le_of_ble_eq_true rfl) dX12_byteAt_13 (by decide) (by decide) (by decide) (by decide)) w [] [0, 1] rfl rfl (by decide) (by decide) rfl rfl (fun v z1 H locs hp w => ?_)
  have hv : iI z1 = v := hp.1
  subst hv
  have z1_a : 0 ≤ z1 := hp.2.1
  have z1_b : z1 ≤ 1 := hp.2.2.1
  have w : WD D A s.heap [(a0, .inr (11, [.int (iI 0), .ref a1, .int (iI x1), .int (iI x2), .int (iI x3), .int (iI x4), .int (iI x5), .int (iI x6), .int r1, .int (iI x7), .int (iI x8), .int (iI x9), .long y0, .int (iI x10), .ref a2, .ref a3, .ref a4, .ref a5, .ref a6, .ref a7, .ref a8, .ref a9, .ref a10, .ref a11, .int (iI x11), .ref a12, .ref a13, .ref a14, .ref a15, .int (iI x12), .int r2, .int r3, .ref a16, .int (iI x13), .int (iI x14), .ref a17, .ref a18, .int (iI x15), .ref a19, .int (iI x16), .int r4, .ref a20, .ref a21, .int (iI x17), .int r5, .ref a22, .int (iI x18), .int (iI x19), .int (iI x20), .int (iI x21)])), (a19, .inl (T 0, 64, .inl f0))] H locs := w
  rcases hp.2.2.2 with ⟨c_2, hr⟩ | ⟨c_3, c_4, hr⟩ | ⟨c_5, c_6, hr⟩
  · subst hr
    refine lv_if_eq (tgt := 28) hx hb dX12_byteAt_16 (by decide) (fun _ => ?_) (fun c => absurd (by decide +kernel) c)
    refine lv_iconst (v := iI (-1)) hx hb dX12_byteAt_28 (by decide +kernel) ?_
    exact ret _ ((-1), (iI 0)) _ _ _ _ _ [0, 1] dX12_byteAt_29 ⟨rfl, (show (-2147483648) ≤ (-1) from by decide), (show ((-1) : Int) ≤ 2147483647 from by decide), (Or.inl ⟨c_2, rfl⟩)⟩ w (by decide) rfl
  · subst hr
    refine lv_if_eq (tgt := 28) hx hb dX12_byteAt_16 (by decide) (fun _ => ?_) (fun c => absurd (by decide +kernel) c)
    refine lv_iconst (v := iI (-1)) hx hb dX12_byteAt_28 (by decide +kernel) ?_
    exact ret _ ((-1), (iI 0)) _ _ _ _ _ [0, 1] dX12_byteAt_29 ⟨rfl, (show (-2147483648) ≤ (-1) from by decide), (show ((-1) : Int) ≤ 2147483647 from by decide), (Or.inr (Or.inl ⟨c_3, c_4, rfl⟩))⟩ w (by decide) rfl
  · subst hr
    refine lv_if_eq (tgt := 28) hx hb dX12_byteAt_16 (by decide) (fun c => absurd c (by decide +kernel)) (fun _ => ?_)
    refine lv_aload_n hx hb dX12_byteAt_19 rfl (lv_at hl 0 rfl) ?_
    refine r_get (v := .ref a19) M w 0 38 clX12 rfl (by decide) G1501 rfl rfl dX12_byteAt_20 ?_
    refine lv_iload_n hx hb dX12_byteAt_23 rfl (lv_at hl 1 rfl) ?_
    refine r_iald (v := _) M w 1 rfl (iI_in (by omega) (by omega) (by decide)) rfl dX12_byteAt_24 ?_
    refine b_any (fun z7 z7_a z7_b => ?_)
    refine lv_goto (tgt := 29) hx hb dX12_byteAt_25 (by decide) ?_
    exact ret _ (z7, (iI 0)) _ _ _ _ _ [0, 1] dX12_byteAt_29 ⟨rfl, z7_a, z7_b, (Or.inr (Or.inr (⟨c_5, c_6⟩)))⟩ w (by decide) rfl
set_option maxRecDepth 100000 in
set_option maxHeartbeats 4000000 in
theorem c111_X12_told (l : Launch) (D : va_G) (T : Nat → ClassId) (sz : Nat) (a0 : Nat) (x0 : Int) (r0 : Int32) (a1 : Nat) (x1 : Int) (x2 : Int) (x3 : Int) (x4 : Int) (x5 : Int) (x6 : Int) (r1 : Int32) (x7 : Int) (x8 : Int) (x9 : Int) (y0 : Int64) (x10 : Int) (a2 : Nat) (a3 : Nat) (a4 : Nat) (a5 : Nat) (a6 : Nat) (a7 : Nat) (a8 : Nat) (a9 : Nat) (a10 : Nat) (a11 : Nat) (x11 : Int) (a12 : Nat) (a13 : Nat) (a14 : Nat) (a15 : Nat) (x12 : Int) (r2 : Int32) (r3 : Int32) (a16 : Nat) (x13 : Int) (x14 : Int) (a17 : Nat) (a18 : Nat) (x15 : Int) (a19 : Nat) (x16 : Int) (r4 : Int32) (a20 : Nat) (a21 : Nat) (x17 : Int) (r5 : Int32) (a22 : Nat) (x18 : Int) (x19 : Int) (x20 : Int) (x21 : Int) (f0 : Nat → Int32) (x0_a : (-2147483648) ≤ x0) (x0_b : x0 ≤ 2147483647) (x1_a : 0 ≤ x1) (x1_b : x1 ≤ 940) (x2_a : 0 ≤ x2) (x2_b : x2 ≤ 940) (x3_a : 0 ≤ x3) (x3_b : x3 ≤ 940) (x4_a : 0 ≤ x4) (x4_b : x4 ≤ 940) (x5_a : 0 ≤ x5) (x5_b : x5 ≤ 940) (x6_a : 0 ≤ x6) (x6_b : x6 ≤ 4) (x7_a : (-2147483648) ≤ x7) (x7_b : x7 ≤ 2147483647) (x8_a : (-2147483648) ≤ x8) (x8_b : x8 ≤ 2147483647) (x9_a : 0 ≤ x9) (x9_b : x9 ≤ 940) (x10_a : (-2147483648) ≤ x10) (x10_b : x10 ≤ 2147483647) (x11_a : 0 ≤ x11) (x11_b : x11 ≤ 8) (x12_a : 0 ≤ x12) (x12_b : x12 ≤ 9) (x13_a : (-1) ≤ x13) (x13_b : x13 ≤ 9) (x14_a : (-1) ≤ x14) (x14_b : x14 ≤ 8) (x15_a : 0 ≤ x15) (x15_b : x15 ≤ 9) (x16_a : 0 ≤ x16) (x16_b : x16 ≤ 64) (x17_a : 0 ≤ x17) (x17_b : x17 ≤ 40) (x18_a : 0 ≤ x18) (x18_b : x18 ≤ 40) (x19_a : 0 ≤ x19) (x19_b : x19 ≤ 20) (x20_a : 0 ≤ x20) (x20_b : x20 ≤ 8) (x21_a : 0 ≤ x21) (x21_b : x21 ≤ 39) : Met l yX12_told (Cond.code yX12_told cX12_told 2 (some .int) :: GW) (Rm 1 0 0) (cPre [.ref a0, .int (iI x0)] D T [(a0, .inr (11, [.int r0, .ref a1, .int (iI x1), .int (iI x2), .int (iI x3), .int (iI x4), .int (iI x5), .int (iI x6), .int r1, .int (iI x7), .int (iI x8), .int (iI x9), .long y0, .int (iI x10), .ref a2, .ref a3, .ref a4, .ref a5, .ref a6, .ref a7, .ref a8, .ref a9, .ref a10, .ref a11, .int (iI x11), .ref a12, .ref a13, .ref a14, .ref a15, .int (iI x12), .int r2, .int r3, .ref a16, .int (iI x13), .int (iI x14), .ref a17, .ref a18, .int (iI x15), .ref a19, .int (iI x16), .int r4, .ref a20, .ref a21, .int (iI x17), .int r5, .ref a22, .int (iI x18), .int (iI x19), .int (iI x20), .int (iI x21)])), (a21, .inl (T 0, 4, .inl f0))] sz) (qI D [(a0, .inr (11, [.int r0, .ref a1, .int (iI x1), .int (iI x2), .int (iI x3), .int (iI x4), .int (iI x5), .int (iI x6), .int r1, .int (iI x7), .int (iI x8), .int (iI x9), .long y0, .int (iI x10), .ref a2, .ref a3, .ref a4, .ref a5, .ref a6, .ref a7, .ref a8, .ref a9, .ref a10, .ref a11, .int (iI x11), .ref a12, .ref a13, .ref a14, .ref a15, .int (iI x12), .int r2, .int r3, .ref a16, .int (iI x13), .int (iI x14), .ref a17, .ref a18, .int (iI x15), .ref a19, .int (iI x16), .int r4, .ref a20, .ref a21, .int (iI x17), .int r5, .ref a22, .int (iI x18), .int (iI x19), .int (iI x20), .int (iI x21)])), (a21, .inl (T 0, 4, .inl f0))] sz (fun (v : Int32) (u : Int × Int32) => iI u.1 = v ∧ (-2147483648) ≤ u.1 ∧ u.1 ≤ 2147483647) (fun u => [(a0, .inr (11, [.int u.2, .ref a1, .int (iI x1), .int (iI x2), .int (iI x3), .int (iI x4), .int (iI x5), .int (iI x6), .int r1, .int (iI x7), .int (iI x8), .int (iI x9), .long y0, .int (iI x10), .ref a2, .ref a3, .ref a4, .ref a5, .ref a6, .ref a7, .ref a8, .ref a9, .ref a10, .ref a11, .int (iI x11), .ref a12, .ref a13, .ref a14, .ref a15, .int (iI x12), .int r2, .int r3, .ref a16, .int (iI x13), .int (iI x14), .ref a17, .ref a18, .int (iI x15), .ref a19, .int (iI x16), .int r4, .ref a20, .ref a21, .int (iI x17), .int r5, .ref a22, .int (iI x18), .int (iI x19), .int (iI x20), .int (iI x21)])), (a21, .inl (T 0, 4, .inl f0))])) 0 0 (va_A [(a0, .inr (11, [.int r0, .ref a1, .int (iI x1), .int (iI x2), .int (iI x3), .int (iI x4), .int (iI x5), .int (iI x6), .int r1, .int (iI x7), .int (iI x8), .int (iI x9), .long y0, .int (iI x10), .ref a2, .ref a3, .ref a4, .ref a5, .ref a6, .ref a7, .ref a8, .ref a9, .ref a10, .ref a11, .int (iI x11), .ref a12, .ref a13, .ref a14, .ref a15, .int (iI x12), .int r2, .int r3, .ref a16, .int (iI x13), .int (iI x14), .ref a17, .ref a18, .int (iI x15), .ref a19, .int (iI x16), .int r4, .ref a20, .ref a21, .int (iI x17), .int r5, .ref a22, .int (iI x18), .int (iI x19), .int (iI x20), .int (iI x21)])), (a21, .inl (T 0, 4, .inl f0))] sz) := by
  refine e_I (by decide) (Nat.le_of_ble_eq_true rfl) ?_
  intro p e s m args below meth c A Q ls M hin w ret hl
  have hx := M.1.1
  have hb := M.1.2.1
  have hl : lv_has ls 2 [(0, .ref a0), (1, .int (iI x0))] := hl
  refine lv_aload_n hx hb dX12_told_0 rfl (lv_at hl 0 rfl) ?_
  refine lv_iconst (v := iI 0) hx hb dX12_told_1 (by decide +kernel) ?_
  refine r_put (ws' := [(a0, .inr (11, [.int (iI 0), .ref a1, .int (iI x1), .int (iI x2), .int (iI x3), .int (iI x4), .int (iI x5), .int (iI x6), .int r1, .int (iI x7), .int (iI x8), .int (iI x9), .long y0, .int (iI x10), .ref a2, .ref a3, .ref a4, .ref a5, .ref a6, .ref a7, .ref a8, .ref a9, .ref a10, .ref a11, .int (iI x11), .ref a12, .ref a13, .ref a14, .ref a15, .int (iI x12), .int r2, .int r3, .ref a16, .int (iI x13), .int (iI x14), .ref a17, .ref a18, .int (iI x15), .ref a19, .int (iI x16), .int r4, .ref a20, .ref a21, .int (iI x17), .int r5, .ref a22, .int (iI x18), .int (iI x19), .int (iI x20), .int (iI x21)])), (a21, .inl (T 0, 4, .inl f0))]) M w 0 0 clX12 rfl (by decide) G1463 rfl rfl rfl rfl (Nat.le_of_ble_eq_true rfl) rfl dX12_told_2 (fun H locs w => ?_)
  refine lv_aload_n hx hb dX12_told_5 rfl (lv_at hl 0 rfl) ?_
  refine r_get (v := .int r5) M w 0 44 clX12 rfl (by decide) G1507 rfl rfl dX12_told_6 ?_
  refine b_any (fun z1 z1_a z1_b => ?_)
  refine lv_if_eq (tgt := 30) hx hb dX12_told_9 (by decide) (fun c_2 => ?_) (fun c_2 => ?_)
  · replace c_2 := (iz_eq (Int.le_trans (by decide) z1_a) (Int.le_trans z1_b (by decide))).mp c_2
    refine lv_iconst (v := iI (-1)) hx hb dX12_told_30 (by decide +kernel) ?_
    exact ret _ ((-1), (iI 0)) _ _ _ _ _ [0, 1] dX12_told_31 ⟨rfl, (show (-2147483648) ≤ (-1) from by decide), (show ((-1) : Int) ≤ 2147483647 from by decide)⟩ w (by decide) rfl
  · replace c_2 : ¬ z1 = 0 := fun h => c_2 ((iz_eq (Int.le_trans (by decide) z1_a) (Int.le_trans z1_b (by decide))).mpr h)
    refine lv_iload_n hx hb dX12_told_12 rfl (lv_at hl 1 rfl) ?_
    refine lv_iconst (v := iI 0) hx hb dX12_told_13 (by decide +kernel) ?_
    refine lv_iconst (v := iI 3) hx hb dX12_told_14 (by decide +kernel) ?_
    refine k_I (ce := 0) (sl := 0) (rest := []) (wr := [(a0, .inr (11, [.int (iI 0), .ref a1, .int (iI x1), .int (iI x2), .int (iI x3), .int (iI x4), .int (iI x5), .int (iI x6), .int r1, .int (iI x7), .int (iI x8), .int (iI x9), .long y0, .int (iI x10), .ref a2, .ref a3, .ref a4, .ref a5, .ref a6, .ref a7, .ref a8, .ref a9, .ref a10, .ref a11, .int (iI x11), .ref a12, .ref a13, .ref a14, .ref a15, .int (iI x12), .int r2, .int r3, .ref a16, .int (iI x13), .int (iI x14), .ref a17, .ref a18, .int (iI x15), .ref a19, .int (iI x16), .int r4, .ref a20, .ref a21, .int (iI x17), .int r5, .ref a22, .int (iI x18), .int (iI x19), .int (iI x20), .int (iI x21)])), (a21, .inl (T 0, 4, .inl f0))]) (r_S (f := 0) [] M w V_HookedCityModel_75 G1693 (c6_X12_isIn l D T _ x0 0 3 x0_a x0_b (by decide) (by decide) (by decide) (by decide)) rfl (by decide) rfl hl.1 rfl (Nat.le_of_ble_eq_true rfl) dX12_told_15 (by decide) (by decide) (by decide) (by decide)) w [] [0, 1] rfl rfl (by decide) (by decide) rfl rfl (fun v z3 H locs hp w => ?_)
    have hv : iI z3 = v := hp.1
    subst hv
    have z3_a : 0 ≤ z3 := hp.2.1
    have z3_b : z3 ≤ 1 := hp.2.2.1
    have w : WD D A s.heap [(a0, .inr (11, [.int (iI 0), .ref a1, .int (iI x1), .int (iI x2), .int (iI x3), .int (iI x4), .int (iI x5), .int (iI x6), .int r1, .int (iI x7), .int (iI x8), .int (iI x9), .long y0, .int (iI x10), .ref a2, .ref a3, .ref a4, .ref a5, .ref a6, .ref a7, .ref a8, .ref a9, .ref a10, .ref a11, .int (iI x11), .ref a12, .ref a13, .ref a14, .ref a15, .int (iI x12), .int r2, .int r3, .ref a16, .int (iI x13), .int (iI x14), .ref a17, .ref a18, .int (iI x15), .ref a19, .int (iI x16), .int r4, .ref a20, .ref a21, .int (iI x17), .int r5, .ref a22, .int (iI x18), .int (iI x19), .int (iI x20), .int (iI x21)])), (a21, .inl (T 0, 4, .inl f0))] H locs := w
    rcases hp.2.2.2 with ⟨c_4, hr⟩ | ⟨c_5, c_6, hr⟩ | ⟨c_7, c_8, hr⟩
    · subst hr
      refine lv_if_eq (tgt := 30) hx hb dX12_told_18 (by decide) (fun _ => ?_) (fun c => absurd (by decide +kernel) c)
      refine lv_iconst (v := iI (-1)) hx hb dX12_told_30 (by decide +kernel) ?_
      exact ret _ ((-1), (iI 0)) _ _ _ _ _ [0, 1] dX12_told_31 ⟨rfl, (show (-2147483648) ≤ (-1) from by decide), (show ((-1) : Int) ≤ 2147483647 from by decide)⟩ w (by decide) rfl
    · subst hr
      refine lv_if_eq (tgt := 30) hx hb dX12_told_18 (by decide) (fun _ => ?_) (fun c => absurd (by decide +kernel) c)
      refine lv_iconst (v := iI (-1)) hx hb dX12_told_30 (by decide +kernel) ?_
      exact ret _ ((-1), (iI 0)) _ _ _ _ _ [0, 1] dX12_told_31 ⟨rfl, (show (-2147483648) ≤ (-1) from by decide), (show ((-1) : Int) ≤ 2147483647 from by decide)⟩ w (by decide) rfl
    · subst hr
      refine lv_if_eq (tgt := 30) hx hb dX12_told_18 (by decide) (fun c => absurd c (by decide +kernel)) (fun _ => ?_)
      refine lv_aload_n hx hb dX12_told_21 rfl (lv_at hl 0 rfl) ?_
      refine r_get (v := .ref a21) M w 0 42 clX12 rfl (by decide) G1505 rfl rfl dX12_told_22 ?_
      refine lv_iload_n hx hb dX12_told_25 rfl (lv_at hl 1 rfl) ?_
      refine r_iald (v := _) M w 1 rfl (iI_in (by omega) (by omega) (by decide)) rfl dX12_told_26 ?_
      refine b_any (fun z9 z9_a z9_b => ?_)
      refine lv_goto (tgt := 31) hx hb dX12_told_27 (by decide) ?_
      exact ret _ (z9, (iI 0)) _ _ _ _ _ [0, 1] dX12_told_31 ⟨rfl, z9_a, z9_b⟩ w (by decide) rfl
set_option maxRecDepth 100000 in
set_option maxHeartbeats 4000000 in
theorem c112_X12_wayAt (l : Launch) (D : va_G) (T : Nat → ClassId) (sz : Nat) (a0 : Nat) (x0 : Int) (r0 : Int32) (a1 : Nat) (x1 : Int) (x2 : Int) (x3 : Int) (x4 : Int) (x5 : Int) (x6 : Int) (r1 : Int32) (x7 : Int) (x8 : Int) (x9 : Int) (y0 : Int64) (x10 : Int) (a2 : Nat) (a3 : Nat) (a4 : Nat) (a5 : Nat) (a6 : Nat) (a7 : Nat) (a8 : Nat) (a9 : Nat) (a10 : Nat) (a11 : Nat) (x11 : Int) (a12 : Nat) (a13 : Nat) (a14 : Nat) (a15 : Nat) (x12 : Int) (r2 : Int32) (r3 : Int32) (a16 : Nat) (x13 : Int) (x14 : Int) (a17 : Nat) (a18 : Nat) (x15 : Int) (a19 : Nat) (x16 : Int) (r4 : Int32) (a20 : Nat) (a21 : Nat) (x17 : Int) (r5 : Int32) (a22 : Nat) (x18 : Int) (x19 : Int) (x20 : Int) (x21 : Int) (f0 : Nat → Int32) (x0_a : (-2147483648) ≤ x0) (x0_b : x0 ≤ 2147483647) (x1_a : 0 ≤ x1) (x1_b : x1 ≤ 940) (x2_a : 0 ≤ x2) (x2_b : x2 ≤ 940) (x3_a : 0 ≤ x3) (x3_b : x3 ≤ 940) (x4_a : 0 ≤ x4) (x4_b : x4 ≤ 940) (x5_a : 0 ≤ x5) (x5_b : x5 ≤ 940) (x6_a : 0 ≤ x6) (x6_b : x6 ≤ 4) (x7_a : (-2147483648) ≤ x7) (x7_b : x7 ≤ 2147483647) (x8_a : (-2147483648) ≤ x8) (x8_b : x8 ≤ 2147483647) (x9_a : 0 ≤ x9) (x9_b : x9 ≤ 940) (x10_a : (-2147483648) ≤ x10) (x10_b : x10 ≤ 2147483647) (x11_a : 0 ≤ x11) (x11_b : x11 ≤ 8) (x12_a : 0 ≤ x12) (x12_b : x12 ≤ 9) (x13_a : (-1) ≤ x13) (x13_b : x13 ≤ 9) (x14_a : (-1) ≤ x14) (x14_b : x14 ≤ 8) (x15_a : 0 ≤ x15) (x15_b : x15 ≤ 9) (x16_a : 0 ≤ x16) (x16_b : x16 ≤ 64) (x17_a : 0 ≤ x17) (x17_b : x17 ≤ 40) (x18_a : 0 ≤ x18) (x18_b : x18 ≤ 40) (x19_a : 0 ≤ x19) (x19_b : x19 ≤ 20) (x20_a : 0 ≤ x20) (x20_b : x20 ≤ 8) (x21_a : 0 ≤ x21) (x21_b : x21 ≤ 39) : Met l yX12_wayAt (Cond.code yX12_wayAt cX12_wayAt 2 (some .int) :: GW) (Rm 1 0 0) (cPre [.ref a0, .int (iI x0)] D T [(a0, .inr (11, [.int r0, .ref a1, .int (iI x1), .int (iI x2), .int (iI x3), .int (iI x4), .int (iI x5), .int (iI x6), .int r1, .int (iI x7), .int (iI x8), .int (iI x9), .long y0, .int (iI x10), .ref a2, .ref a3, .ref a4, .ref a5, .ref a6, .ref a7, .ref a8, .ref a9, .ref a10, .ref a11, .int (iI x11), .ref a12, .ref a13, .ref a14, .ref a15, .int (iI x12), .int r2, .int r3, .ref a16, .int (iI x13), .int (iI x14), .ref a17, .ref a18, .int (iI x15), .ref a19, .int (iI x16), .int r4, .ref a20, .ref a21, .int (iI x17), .int r5, .ref a22, .int (iI x18), .int (iI x19), .int (iI x20), .int (iI x21)])), (a18, .inl (T 0, 9, .inl f0))] sz) (qI D [(a0, .inr (11, [.int r0, .ref a1, .int (iI x1), .int (iI x2), .int (iI x3), .int (iI x4), .int (iI x5), .int (iI x6), .int r1, .int (iI x7), .int (iI x8), .int (iI x9), .long y0, .int (iI x10), .ref a2, .ref a3, .ref a4, .ref a5, .ref a6, .ref a7, .ref a8, .ref a9, .ref a10, .ref a11, .int (iI x11), .ref a12, .ref a13, .ref a14, .ref a15, .int (iI x12), .int r2, .int r3, .ref a16, .int (iI x13), .int (iI x14), .ref a17, .ref a18, .int (iI x15), .ref a19, .int (iI x16), .int r4, .ref a20, .ref a21, .int (iI x17), .int r5, .ref a22, .int (iI x18), .int (iI x19), .int (iI x20), .int (iI x21)])), (a18, .inl (T 0, 9, .inl f0))] sz (fun (v : Int32) (u : Int × Int32) => iI u.1 = v ∧ (-2147483648) ≤ u.1 ∧ u.1 ≤ 2147483647 ∧ ((x0 < 0 ∧ u.1 = (-1)) ∨ (0 ≤ x0 ∧ (x15 - 1) < x0 ∧ u.1 = (-1)) ∨ (0 ≤ x0 ∧ x0 ≤ (x15 - 1)))) (fun u => [(a0, .inr (11, [.int u.2, .ref a1, .int (iI x1), .int (iI x2), .int (iI x3), .int (iI x4), .int (iI x5), .int (iI x6), .int r1, .int (iI x7), .int (iI x8), .int (iI x9), .long y0, .int (iI x10), .ref a2, .ref a3, .ref a4, .ref a5, .ref a6, .ref a7, .ref a8, .ref a9, .ref a10, .ref a11, .int (iI x11), .ref a12, .ref a13, .ref a14, .ref a15, .int (iI x12), .int r2, .int r3, .ref a16, .int (iI x13), .int (iI x14), .ref a17, .ref a18, .int (iI x15), .ref a19, .int (iI x16), .int r4, .ref a20, .ref a21, .int (iI x17), .int r5, .ref a22, .int (iI x18), .int (iI x19), .int (iI x20), .int (iI x21)])), (a18, .inl (T 0, 9, .inl f0))])) 0 0 (va_A [(a0, .inr (11, [.int r0, .ref a1, .int (iI x1), .int (iI x2), .int (iI x3), .int (iI x4), .int (iI x5), .int (iI x6), .int r1, .int (iI x7), .int (iI x8), .int (iI x9), .long y0, .int (iI x10), .ref a2, .ref a3, .ref a4, .ref a5, .ref a6, .ref a7, .ref a8, .ref a9, .ref a10, .ref a11, .int (iI x11), .ref a12, .ref a13, .ref a14, .ref a15, .int (iI x12), .int r2, .int r3, .ref a16, .int (iI x13), .int (iI x14), .ref a17, .ref a18, .int (iI x15), .ref a19, .int (iI x16), .int r4, .ref a20, .ref a21, .int (iI x17), .int r5, .ref a22, .int (iI x18), .int (iI x19), .int (iI x20), .int (iI x21)])), (a18, .inl (T 0, 9, .inl f0))] sz) := by
  refine e_I (by decide) (Nat.le_of_ble_eq_true rfl) ?_
  intro p e s m args below meth c A Q ls M hin w ret hl
  have hx := M.1.1
  have hb := M.1.2.1
  have hl : lv_has ls 2 [(0, .ref a0), (1, .int (iI x0))] := hl
  refine lv_aload_n hx hb dX12_wayAt_0 rfl (lv_at hl 0 rfl) ?_
  refine lv_iconst (v := iI 0) hx hb dX12_wayAt_1 (by decide +kernel) ?_
  refine r_put (ws' := [(a0, .inr (11, [.int (iI 0), .ref a1, .int (iI x1), .int (iI x2), .int (iI x3), .int (iI x4), .int (iI x5), .int (iI x6), .int r1, .int (iI x7), .int (iI x8), .int (iI x9), .long y0, .int (iI x10), .ref a2, .ref a3, .ref a4, .ref a5, .ref a6, .ref a7, .ref a8, .ref a9, .ref a10, .ref a11, .int (iI x11), .ref a12, .ref a13, .ref a14, .ref a15, .int (iI x12), .int r2, .int r3, .ref a16, .int (iI x13), .int (iI x14), .ref a17, .ref a18, .int (iI x15), .ref a19, .int (iI x16), .int r4, .ref a20, .ref a21, .int (iI x17), .int r5, .ref a22, .int (iI x18), .int (iI x19), .int (iI x20), .int (iI x21)])), (a18, .inl (T 0, 9, .inl f0))]) M w 0 0 clX12 rfl (by decide) G1463 rfl rfl rfl rfl (Nat.le_of_ble_eq_true rfl) rfl dX12_wayAt_2 (fun H locs w => ?_)
  refine lv_iload_n hx hb dX12_wayAt_5 rfl (lv_at hl 1 rfl) ?_
  refine lv_iconst (v := iI 0) hx hb dX12_wayAt_6 (by decide +kernel) ?_
  refine lv_aload_n hx hb dX12_wayAt_7 rfl (lv_at hl 0 rfl) ?_
  refine r_get (v := .int (iI x15)) M w 0 37 clX12 rfl (by decide) G1500 rfl rfl dX12_wayAt_8 ?_
  refine lv_iconst (v := iI 1) hx hb dX12_wayAt_11 (by decide +kernel) ?_
  refine r_isub (v := iI (x15 - 1)) M (iI_sub _ _) dX12_wayAt_12 ?_
  refine k_I (ce := 0) (sl := 0) (rest := []) (wr := [(a0, .inr (11, [.int (iI 0), .ref a1, .int (iI x1), .int (iI x2), .int (iI x3), .int (iI x4), .int (iI x5), .int (iI x6), .int r1, .int (iI x7), .int (iI x8), .int (iI x9), .long y0, .int (iI x10), .ref a2, .ref a3, .ref a4, .ref a5, .ref a6, .ref a7, .ref a8, .ref a9, .ref a10, .ref a11, .int (iI x11), .ref a12, .ref a13, .ref a14, .ref a15, .int (iI x12), .int r2, .int r3, .ref a16, .int (iI x13), .int (iI x14), .ref a17, .ref a18, .int (iI x15), .ref a19, .int (iI x16), .int r4, .ref a20, .ref a21, .int (iI x17), .int r5, .ref a22, .int (iI x18), .int (iI x19), .int (iI x20), .int (iI x21)])), (a18, .inl (T 0, 9, .inl f0))]) (r_S (f := 0) [] M w V_HookedCityModel_75 G1693 (c6_X12_isIn l D T _ x0 0 (x15 - 1) x0_a x0_b (by decide) (by decide) (by omega) (by omega)) rfl (by decide) rfl hl.1 rfl (Nat.le_of_ble_eq_true rfl) dX12_wayAt_13 (by decide) (by decide) (by decide) (by decide)) w [] [0, 1] rfl rfl (by decide) (by decide) rfl rfl (fun v z1 H locs hp w => ?_)
  have hv : iI z1 = v := hp.1
  subst hv
  have z1_a : 0 ≤ z1 := hp.2.1
  have z1_b : z1 ≤ 1 := hp.2.2.1
  have w : WD D A s.heap [(a0, .inr (11, [.int (iI 0), .ref a1, .int (iI x1), .int (iI x2), .int (iI x3), .int (iI x4), .int (iI x5), .int (iI x6), .int r1, .int (iI x7), .int (iI x8), .int (iI x9), .long y0, .int (iI x10), .ref a2, .ref a3, .ref a4, .ref a5, .ref a6, .ref a7, .ref a8, .ref a9, .ref a10, .ref a11, .int (iI x11), .ref a12, .ref a13, .ref a14, .ref a15, .int (iI x12), .int r2, .int r3, .ref a16, .int (iI x13), .int (iI x14), .ref a17, .ref a18, .int (iI x15), .ref a19, .int (iI x16), .int r4, .ref a20, .ref a21, .int (iI x17), .int r5, .ref a22, .int (iI x18), .int (iI x19), .int (iI x20), .int (iI x21)])), (a18, .inl (T 0, 9, .inl f0))] H locs := w
  rcases hp.2.2.2 with ⟨c_2, hr⟩ | ⟨c_3, c_4, hr⟩ | ⟨c_5, c_6, hr⟩
  · subst hr
    refine lv_if_eq (tgt := 28) hx hb dX12_wayAt_16 (by decide) (fun _ => ?_) (fun c => absurd (by decide +kernel) c)
    refine lv_iconst (v := iI (-1)) hx hb dX12_wayAt_28 (by decide +kernel) ?_
    exact ret _ ((-1), (iI 0)) _ _ _ _ _ [0, 1] dX12_wayAt_29 ⟨rfl, (show (-2147483648) ≤ (-1) from by decide), (show ((-1) : Int) ≤ 2147483647 from by decide), (Or.inl ⟨c_2, rfl⟩)⟩ w (by decide) rfl
  · subst hr
    refine lv_if_eq (tgt := 28) hx hb dX12_wayAt_16 (by decide) (fun _ => ?_) (fun c => absurd (by decide +kernel) c)
    refine lv_iconst (v := iI (-1)) hx hb dX12_wayAt_28 (by decide +kernel) ?_
    exact ret _ ((-1), (iI 0)) _ _ _ _ _ [0, 1] dX12_wayAt_29 ⟨rfl, (show (-2147483648) ≤ (-1) from by decide), (show ((-1) : Int) ≤ 2147483647 from by decide), (Or.inr (Or.inl ⟨c_3, c_4, rfl⟩))⟩ w (by decide) rfl
  · subst hr
    refine lv_if_eq (tgt := 28) hx hb dX12_wayAt_16 (by decide) (fun c => absurd c (by decide +kernel)) (fun _ => ?_)
    refine lv_aload_n hx hb dX12_wayAt_19 rfl (lv_at hl 0 rfl) ?_
    refine r_get (v := .ref a18) M w 0 36 clX12 rfl (by decide) G1499 rfl rfl dX12_wayAt_20 ?_
    refine lv_iload_n hx hb dX12_wayAt_23 rfl (lv_at hl 1 rfl) ?_
    refine r_iald (v := _) M w 1 rfl (iI_in (by omega) (by omega) (by decide)) rfl dX12_wayAt_24 ?_
    refine b_any (fun z7 z7_a z7_b => ?_)
    refine lv_goto (tgt := 29) hx hb dX12_wayAt_25 (by decide) ?_
    exact ret _ (z7, (iI 0)) _ _ _ _ _ [0, 1] dX12_wayAt_29 ⟨rfl, z7_a, z7_b, (Or.inr (Or.inr (⟨c_5, c_6⟩)))⟩ w (by decide) rfl
set_option maxRecDepth 100000 in
set_option maxHeartbeats 4000000 in
theorem c113_X12_matched (l : Launch) (D : va_G) (T : Nat → ClassId) (sz : Nat) (a0 : Nat) (x0 : Int) (r0 : Int32) (a1 : Nat) (x1 : Int) (x2 : Int) (x3 : Int) (x4 : Int) (x5 : Int) (x6 : Int) (r1 : Int32) (x7 : Int) (x8 : Int) (x9 : Int) (y0 : Int64) (x10 : Int) (a2 : Nat) (a3 : Nat) (a4 : Nat) (a5 : Nat) (a6 : Nat) (a7 : Nat) (a8 : Nat) (a9 : Nat) (a10 : Nat) (a11 : Nat) (x11 : Int) (a12 : Nat) (a13 : Nat) (a14 : Nat) (a15 : Nat) (x12 : Int) (r2 : Int32) (r3 : Int32) (a16 : Nat) (x13 : Int) (x14 : Int) (a17 : Nat) (a18 : Nat) (x15 : Int) (a19 : Nat) (x16 : Int) (r4 : Int32) (a20 : Nat) (a21 : Nat) (x17 : Int) (r5 : Int32) (a22 : Nat) (x18 : Int) (x19 : Int) (x20 : Int) (x21 : Int) (f0 : Nat → Int32) (x0_a : (-2147483648) ≤ x0) (x0_b : x0 ≤ 2147483647) (x1_a : 0 ≤ x1) (x1_b : x1 ≤ 940) (x2_a : 0 ≤ x2) (x2_b : x2 ≤ 940) (x3_a : 0 ≤ x3) (x3_b : x3 ≤ 940) (x4_a : 0 ≤ x4) (x4_b : x4 ≤ 940) (x5_a : 0 ≤ x5) (x5_b : x5 ≤ 940) (x6_a : 0 ≤ x6) (x6_b : x6 ≤ 4) (x7_a : (-2147483648) ≤ x7) (x7_b : x7 ≤ 2147483647) (x8_a : (-2147483648) ≤ x8) (x8_b : x8 ≤ 2147483647) (x9_a : 0 ≤ x9) (x9_b : x9 ≤ 940) (x10_a : (-2147483648) ≤ x10) (x10_b : x10 ≤ 2147483647) (x11_a : 0 ≤ x11) (x11_b : x11 ≤ 8) (x12_a : 0 ≤ x12) (x12_b : x12 ≤ 9) (x13_a : (-1) ≤ x13) (x13_b : x13 ≤ 9) (x14_a : (-1) ≤ x14) (x14_b : x14 ≤ 8) (x15_a : 0 ≤ x15) (x15_b : x15 ≤ 9) (x16_a : 0 ≤ x16) (x16_b : x16 ≤ 64) (x17_a : 0 ≤ x17) (x17_b : x17 ≤ 40) (x18_a : 0 ≤ x18) (x18_b : x18 ≤ 40) (x19_a : 0 ≤ x19) (x19_b : x19 ≤ 20) (x20_a : 0 ≤ x20) (x20_b : x20 ≤ 8) (x21_a : 0 ≤ x21) (x21_b : x21 ≤ 39) : Met l yX12_matched (Cond.code yX12_matched cX12_matched 2 (some .int) :: GW) (Rm 1 0 0) (cPre [.ref a0, .int (iI x0)] D T [(a0, .inr (11, [.int r0, .ref a1, .int (iI x1), .int (iI x2), .int (iI x3), .int (iI x4), .int (iI x5), .int (iI x6), .int r1, .int (iI x7), .int (iI x8), .int (iI x9), .long y0, .int (iI x10), .ref a2, .ref a3, .ref a4, .ref a5, .ref a6, .ref a7, .ref a8, .ref a9, .ref a10, .ref a11, .int (iI x11), .ref a12, .ref a13, .ref a14, .ref a15, .int (iI x12), .int r2, .int r3, .ref a16, .int (iI x13), .int (iI x14), .ref a17, .ref a18, .int (iI x15), .ref a19, .int (iI x16), .int r4, .ref a20, .ref a21, .int (iI x17), .int r5, .ref a22, .int (iI x18), .int (iI x19), .int (iI x20), .int (iI x21)])), (a13, .inl (T 0, 9, .inl f0))] sz) (qI D [(a0, .inr (11, [.int r0, .ref a1, .int (iI x1), .int (iI x2), .int (iI x3), .int (iI x4), .int (iI x5), .int (iI x6), .int r1, .int (iI x7), .int (iI x8), .int (iI x9), .long y0, .int (iI x10), .ref a2, .ref a3, .ref a4, .ref a5, .ref a6, .ref a7, .ref a8, .ref a9, .ref a10, .ref a11, .int (iI x11), .ref a12, .ref a13, .ref a14, .ref a15, .int (iI x12), .int r2, .int r3, .ref a16, .int (iI x13), .int (iI x14), .ref a17, .ref a18, .int (iI x15), .ref a19, .int (iI x16), .int r4, .ref a20, .ref a21, .int (iI x17), .int r5, .ref a22, .int (iI x18), .int (iI x19), .int (iI x20), .int (iI x21)])), (a13, .inl (T 0, 9, .inl f0))] sz (fun (v : Int32) (u : Int × Int32) => iI u.1 = v ∧ (-2147483648) ≤ u.1 ∧ u.1 ≤ 2147483647) (fun u => [(a0, .inr (11, [.int u.2, .ref a1, .int (iI x1), .int (iI x2), .int (iI x3), .int (iI x4), .int (iI x5), .int (iI x6), .int r1, .int (iI x7), .int (iI x8), .int (iI x9), .long y0, .int (iI x10), .ref a2, .ref a3, .ref a4, .ref a5, .ref a6, .ref a7, .ref a8, .ref a9, .ref a10, .ref a11, .int (iI x11), .ref a12, .ref a13, .ref a14, .ref a15, .int (iI x12), .int r2, .int r3, .ref a16, .int (iI x13), .int (iI x14), .ref a17, .ref a18, .int (iI x15), .ref a19, .int (iI x16), .int r4, .ref a20, .ref a21, .int (iI x17), .int r5, .ref a22, .int (iI x18), .int (iI x19), .int (iI x20), .int (iI x21)])), (a13, .inl (T 0, 9, .inl f0))])) 0 0 (va_A [(a0, .inr (11, [.int r0, .ref a1, .int (iI x1), .int (iI x2), .int (iI x3), .int (iI x4), .int (iI x5), .int (iI x6), .int r1, .int (iI x7), .int (iI x8), .int (iI x9), .long y0, .int (iI x10), .ref a2, .ref a3, .ref a4, .ref a5, .ref a6, .ref a7, .ref a8, .ref a9, .ref a10, .ref a11, .int (iI x11), .ref a12, .ref a13, .ref a14, .ref a15, .int (iI x12), .int r2, .int r3, .ref a16, .int (iI x13), .int (iI x14), .ref a17, .ref a18, .int (iI x15), .ref a19, .int (iI x16), .int r4, .ref a20, .ref a21, .int (iI x17), .int r5, .ref a22, .int (iI x18), .int (iI x19), .int (iI x20), .int (iI x21)])), (a13, .inl (T 0, 9, .inl f0))] sz) := by
  refine e_I (by decide) (Nat.le_of_ble_eq_true rfl) ?_
  intro p e s m args below meth c A Q ls M hin w ret hl
  have hx := M.1.1
  have hb := M.1.2.1
  have hl : lv_has ls 2 [(0, .ref a0), (1, .int (iI x0))] := hl
  refine lv_aload_n hx hb dX12_matched_0 rfl (lv_at hl 0 rfl) ?_
  refine lv_iconst (v := iI 0) hx hb dX12_matched_1 (by decide +kernel) ?_
  refine r_put (ws' := [(a0, .inr (11, [.int (iI 0), .ref a1, .int (iI x1), .int (iI x2), .int (iI x3), .int (iI x4), .int (iI x5), .int (iI x6), .int r1, .int (iI x7), .int (iI x8), .int (iI x9), .long y0, .int (iI x10), .ref a2, .ref a3, .ref a4, .ref a5, .ref a6, .ref a7, .ref a8, .ref a9, .ref a10, .ref a11, .int (iI x11), .ref a12, .ref a13, .ref a14, .ref a15, .int (iI x12), .int r2, .int r3, .ref a16, .int (iI x13), .int (iI x14), .ref a17, .ref a18, .int (iI x15), .ref a19, .int (iI x16), .int r4, .ref a20, .ref a21, .int (iI x17), .int r5, .ref a22, .int (iI x18), .int (iI x19), .int (iI x20), .int (iI x21)])), (a13, .inl (T 0, 9, .inl f0))]) M w 0 0 clX12 rfl (by decide) G1463 rfl rfl rfl rfl (Nat.le_of_ble_eq_true rfl) rfl dX12_matched_2 (fun H locs w => ?_)
  refine lv_aload_n hx hb dX12_matched_5 rfl (lv_at hl 0 rfl) ?_
  refine r_get (v := .int r2) M w 0 30 clX12 rfl (by decide) G1493 rfl rfl dX12_matched_6 ?_
  refine b_any (fun z1 z1_a z1_b => ?_)
  refine lv_if_eq (tgt := 35) hx hb dX12_matched_9 (by decide) (fun c_2 => ?_) (fun c_2 => ?_)
  · replace c_2 := (iz_eq (Int.le_trans (by decide) z1_a) (Int.le_trans z1_b (by decide))).mp c_2
    refine lv_iconst (v := iI (-1)) hx hb dX12_matched_35 (by decide +kernel) ?_
    exact ret _ ((-1), (iI 0)) _ _ _ _ _ [0, 1] dX12_matched_36 ⟨rfl, (show (-2147483648) ≤ (-1) from by decide), (show ((-1) : Int) ≤ 2147483647 from by decide)⟩ w (by decide) rfl
  · replace c_2 : ¬ z1 = 0 := fun h => c_2 ((iz_eq (Int.le_trans (by decide) z1_a) (Int.le_trans z1_b (by decide))).mpr h)
    refine lv_iload_n hx hb dX12_matched_12 rfl (lv_at hl 1 rfl) ?_
    refine lv_iconst (v := iI 0) hx hb dX12_matched_13 (by decide +kernel) ?_
    refine lv_aload_n hx hb dX12_matched_14 rfl (lv_at hl 0 rfl) ?_
    refine r_get (v := .int (iI x12)) M w 0 29 clX12 rfl (by decide) G1492 rfl rfl dX12_matched_15 ?_
    refine lv_iconst (v := iI 1) hx hb dX12_matched_18 (by decide +kernel) ?_
    refine r_isub (v := iI (x12 - 1)) M (iI_sub _ _) dX12_matched_19 ?_
    refine k_I (ce := 0) (sl := 0) (rest := []) (wr := [(a0, .inr (11, [.int (iI 0), .ref a1, .int (iI x1), .int (iI x2), .int (iI x3), .int (iI x4), .int (iI x5), .int (iI x6), .int r1, .int (iI x7), .int (iI x8), .int (iI x9), .long y0, .int (iI x10), .ref a2, .ref a3, .ref a4, .ref a5, .ref a6, .ref a7, .ref a8, .ref a9, .ref a10, .ref a11, .int (iI x11), .ref a12, .ref a13, .ref a14, .ref a15, .int (iI x12), .int r2, .int r3, .ref a16, .int (iI x13), .int (iI x14), .ref a17, .ref a18, .int (iI x15), .ref a19, .int (iI x16), .int r4, .ref a20, .ref a21, .int (iI x17), .int r5, .ref a22, .int (iI x18), .int (iI x19), .int (iI x20), .int (iI x21)])), (a13, .inl (T 0, 9, .inl f0))]) (r_S (f := 0) [] M w V_HookedCityModel_75 G1693 (c6_X12_isIn l D T _ x0 0 (x12 - 1) x0_a x0_b (by decide) (by decide) (by omega) (by omega)) rfl (by decide) rfl hl.1 rfl (Nat.le_of_ble_eq_true rfl) dX12_matched_20 (by decide) (by decide) (by decide) (by decide)) w [] [0, 1] rfl rfl (by decide) (by decide) rfl rfl (fun v z3 H locs hp w => ?_)
    have hv : iI z3 = v := hp.1
    subst hv
    have z3_a : 0 ≤ z3 := hp.2.1
    have z3_b : z3 ≤ 1 := hp.2.2.1
    have w : WD D A s.heap [(a0, .inr (11, [.int (iI 0), .ref a1, .int (iI x1), .int (iI x2), .int (iI x3), .int (iI x4), .int (iI x5), .int (iI x6), .int r1, .int (iI x7), .int (iI x8), .int (iI x9), .long y0, .int (iI x10), .ref a2, .ref a3, .ref a4, .ref a5, .ref a6, .ref a7, .ref a8, .ref a9, .ref a10, .ref a11, .int (iI x11), .ref a12, .ref a13, .ref a14, .ref a15, .int (iI x12), .int r2, .int r3, .ref a16, .int (iI x13), .int (iI x14), .ref a17, .ref a18, .int (iI x15), .ref a19, .int (iI x16), .int r4, .ref a20, .ref a21, .int (iI x17), .int r5, .ref a22, .int (iI x18), .int (iI x19), .int (iI x20), .int (iI x21)])), (a13, .inl (T 0, 9, .inl f0))] H locs := w
    rcases hp.2.2.2 with ⟨c_4, hr⟩ | ⟨c_5, c_6, hr⟩ | ⟨c_7, c_8, hr⟩
    · subst hr
      refine lv_if_eq (tgt := 35) hx hb dX12_matched_23 (by decide) (fun _ => ?_) (fun c => absurd (by decide +kernel) c)
      refine lv_iconst (v := iI (-1)) hx hb dX12_matched_35 (by decide +kernel) ?_
      exact ret _ ((-1), (iI 0)) _ _ _ _ _ [0, 1] dX12_matched_36 ⟨rfl, (show (-2147483648) ≤ (-1) from by decide), (show ((-1) : Int) ≤ 2147483647 from by decide)⟩ w (by decide) rfl
    · subst hr
      refine lv_if_eq (tgt := 35) hx hb dX12_matched_23 (by decide) (fun _ => ?_) (fun c => absurd (by decide +kernel) c)
      refine lv_iconst (v := iI (-1)) hx hb dX12_matched_35 (by decide +kernel) ?_
      exact ret _ ((-1), (iI 0)) _ _ _ _ _ [0, 1] dX12_matched_36 ⟨rfl, (show (-2147483648) ≤ (-1) from by decide), (show ((-1) : Int) ≤ 2147483647 from by decide)⟩ w (by decide) rfl
    · subst hr
      refine lv_if_eq (tgt := 35) hx hb dX12_matched_23 (by decide) (fun c => absurd c (by decide +kernel)) (fun _ => ?_)
      refine lv_aload_n hx hb dX12_matched_26 rfl (lv_at hl 0 rfl) ?_
      refine r_get (v := .ref a13) M w 0 26 clX12 rfl (by decide) G1489 rfl rfl dX12_matched_27 ?_
      refine lv_iload_n hx hb dX12_matched_30 rfl (lv_at hl 1 rfl) ?_
      refine r_iald (v := _) M w 1 rfl (iI_in (by omega) (by omega) (by decide)) rfl dX12_matched_31 ?_
      refine b_any (fun z9 z9_a z9_b => ?_)
      refine lv_goto (tgt := 36) hx hb dX12_matched_32 (by decide) ?_
      exact ret _ (z9, (iI 0)) _ _ _ _ _ [0, 1] dX12_matched_36 ⟨rfl, z9_a, z9_b⟩ w (by decide) rfl
set_option maxRecDepth 100000 in
set_option maxHeartbeats 4000000 in
theorem c114_X12_count (l : Launch) (D : va_G) (T : Nat → ClassId) (sz : Nat) (a0 : Nat) (x0 : Int) (r0 : Int32) (a1 : Nat) (x1 : Int) (x2 : Int) (x3 : Int) (x4 : Int) (x5 : Int) (x6 : Int) (r1 : Int32) (x7 : Int) (x8 : Int) (x9 : Int) (y0 : Int64) (x10 : Int) (a2 : Nat) (a3 : Nat) (a4 : Nat) (a5 : Nat) (a6 : Nat) (a7 : Nat) (a8 : Nat) (a9 : Nat) (a10 : Nat) (a11 : Nat) (x11 : Int) (a12 : Nat) (a13 : Nat) (a14 : Nat) (a15 : Nat) (x12 : Int) (r2 : Int32) (r3 : Int32) (a16 : Nat) (x13 : Int) (x14 : Int) (a17 : Nat) (a18 : Nat) (x15 : Int) (a19 : Nat) (x16 : Int) (r4 : Int32) (a20 : Nat) (a21 : Nat) (x17 : Int) (r5 : Int32) (a22 : Nat) (x18 : Int) (x19 : Int) (x20 : Int) (x21 : Int) (f0 : Int → Int) (x0_a : (-2147483648) ≤ x0) (x0_b : x0 ≤ 2147483647) (x1_a : 0 ≤ x1) (x1_b : x1 ≤ 940) (x2_a : 0 ≤ x2) (x2_b : x2 ≤ 940) (x3_a : 0 ≤ x3) (x3_b : x3 ≤ 940) (x4_a : 0 ≤ x4) (x4_b : x4 ≤ 940) (x5_a : 0 ≤ x5) (x5_b : x5 ≤ 940) (x6_a : 0 ≤ x6) (x6_b : x6 ≤ 4) (x7_a : (-2147483648) ≤ x7) (x7_b : x7 ≤ 2147483647) (x8_a : (-2147483648) ≤ x8) (x8_b : x8 ≤ 2147483647) (x9_a : 0 ≤ x9) (x9_b : x9 ≤ 940) (x10_a : (-2147483648) ≤ x10) (x10_b : x10 ≤ 2147483647) (x11_a : 0 ≤ x11) (x11_b : x11 ≤ 8) (x12_a : 0 ≤ x12) (x12_b : x12 ≤ 9) (x13_a : (-1) ≤ x13) (x13_b : x13 ≤ 9) (x14_a : (-1) ≤ x14) (x14_b : x14 ≤ 8) (x15_a : 0 ≤ x15) (x15_b : x15 ≤ 9) (x16_a : 0 ≤ x16) (x16_b : x16 ≤ 64) (x17_a : 0 ≤ x17) (x17_b : x17 ≤ 40) (x18_a : 0 ≤ x18) (x18_b : x18 ≤ 40) (x19_a : 0 ≤ x19) (x19_b : x19 ≤ 20) (x20_a : 0 ≤ x20) (x20_b : x20 ≤ 8) (x21_a : 0 ≤ x21) (x21_b : x21 ≤ 39) (f0_h : nowI f0) : Met l yX12_count (Cond.code yX12_count cX12_count 2 (some .int) :: GW) (Rm 0 0 0) (cPre [.ref a0, .int (iI x0)] D T [(a0, .inr (11, [.int r0, .ref a1, .int (iI x1), .int (iI x2), .int (iI x3), .int (iI x4), .int (iI x5), .int (iI x6), .int r1, .int (iI x7), .int (iI x8), .int (iI x9), .long y0, .int (iI x10), .ref a2, .ref a3, .ref a4, .ref a5, .ref a6, .ref a7, .ref a8, .ref a9, .ref a10, .ref a11, .int (iI x11), .ref a12, .ref a13, .ref a14, .ref a15, .int (iI x12), .int r2, .int r3, .ref a16, .int (iI x13), .int (iI x14), .ref a17, .ref a18, .int (iI x15), .ref a19, .int (iI x16), .int r4, .ref a20, .ref a21, .int (iI x17), .int r5, .ref a22, .int (iI x18), .int (iI x19), .int (iI x20), .int (iI x21)])), (a2, .inl (T 0, 329, .inl (cI f0)))] sz) (qI D [(a0, .inr (11, [.int r0, .ref a1, .int (iI x1), .int (iI x2), .int (iI x3), .int (iI x4), .int (iI x5), .int (iI x6), .int r1, .int (iI x7), .int (iI x8), .int (iI x9), .long y0, .int (iI x10), .ref a2, .ref a3, .ref a4, .ref a5, .ref a6, .ref a7, .ref a8, .ref a9, .ref a10, .ref a11, .int (iI x11), .ref a12, .ref a13, .ref a14, .ref a15, .int (iI x12), .int r2, .int r3, .ref a16, .int (iI x13), .int (iI x14), .ref a17, .ref a18, .int (iI x15), .ref a19, .int (iI x16), .int r4, .ref a20, .ref a21, .int (iI x17), .int r5, .ref a22, .int (iI x18), .int (iI x19), .int (iI x20), .int (iI x21)])), (a2, .inl (T 0, 329, .inl (cI f0)))] sz (fun (v : Int32) (u : Int × Int32) => iI u.1 = v ∧ (-2147483648) ≤ u.1 ∧ u.1 ≤ 2147483647 ∧ (coQ u.1 x0 (f0 0) (f0 1) (f0 3) (f0 4) x1)) (fun u => [(a0, .inr (11, [.int u.2, .ref a1, .int (iI x1), .int (iI x2), .int (iI x3), .int (iI x4), .int (iI x5), .int (iI x6), .int r1, .int (iI x7), .int (iI x8), .int (iI x9), .long y0, .int (iI x10), .ref a2, .ref a3, .ref a4, .ref a5, .ref a6, .ref a7, .ref a8, .ref a9, .ref a10, .ref a11, .int (iI x11), .ref a12, .ref a13, .ref a14, .ref a15, .int (iI x12), .int r2, .int r3, .ref a16, .int (iI x13), .int (iI x14), .ref a17, .ref a18, .int (iI x15), .ref a19, .int (iI x16), .int r4, .ref a20, .ref a21, .int (iI x17), .int r5, .ref a22, .int (iI x18), .int (iI x19), .int (iI x20), .int (iI x21)])), (a2, .inl (T 0, 329, .inl (cI f0)))])) 0 0 (va_A [(a0, .inr (11, [.int r0, .ref a1, .int (iI x1), .int (iI x2), .int (iI x3), .int (iI x4), .int (iI x5), .int (iI x6), .int r1, .int (iI x7), .int (iI x8), .int (iI x9), .long y0, .int (iI x10), .ref a2, .ref a3, .ref a4, .ref a5, .ref a6, .ref a7, .ref a8, .ref a9, .ref a10, .ref a11, .int (iI x11), .ref a12, .ref a13, .ref a14, .ref a15, .int (iI x12), .int r2, .int r3, .ref a16, .int (iI x13), .int (iI x14), .ref a17, .ref a18, .int (iI x15), .ref a19, .int (iI x16), .int r4, .ref a20, .ref a21, .int (iI x17), .int r5, .ref a22, .int (iI x18), .int (iI x19), .int (iI x20), .int (iI x21)])), (a2, .inl (T 0, 329, .inl (cI f0)))] sz) := by
  refine e_I (by decide) (Nat.le_of_ble_eq_true rfl) ?_
  intro p e s m args below meth c A Q ls M hin w ret hl
  have hx := M.1.1
  have hb := M.1.2.1
  have hl : lv_has ls 2 [(0, .ref a0), (1, .int (iI x0))] := hl
  refine lv_aload_n hx hb dX12_count_0 rfl (lv_at hl 0 rfl) ?_
  refine lv_iconst (v := iI 0) hx hb dX12_count_1 (by decide +kernel) ?_
  refine r_put (ws' := [(a0, .inr (11, [.int (iI 0), .ref a1, .int (iI x1), .int (iI x2), .int (iI x3), .int (iI x4), .int (iI x5), .int (iI x6), .int r1, .int (iI x7), .int (iI x8), .int (iI x9), .long y0, .int (iI x10), .ref a2, .ref a3, .ref a4, .ref a5, .ref a6, .ref a7, .ref a8, .ref a9, .ref a10, .ref a11, .int (iI x11), .ref a12, .ref a13, .ref a14, .ref a15, .int (iI x12), .int r2, .int r3, .ref a16, .int (iI x13), .int (iI x14), .ref a17, .ref a18, .int (iI x15), .ref a19, .int (iI x16), .int r4, .ref a20, .ref a21, .int (iI x17), .int r5, .ref a22, .int (iI x18), .int (iI x19), .int (iI x20), .int (iI x21)])), (a2, .inl (T 0, 329, .inl (cI f0)))]) M w 0 0 clX12 rfl (by decide) G1463 rfl rfl rfl rfl (Nat.le_of_ble_eq_true rfl) rfl dX12_count_2 (fun H locs w => ?_)
  refine lv_iload_n hx hb dX12_count_5 rfl (lv_at hl 1 rfl) ?_
  by_cases c_1 : x0 = 0
  · refine lv_tableIn (off := 34) (tgt := 40) hx hb dX12_count_6 (by rw [c_1]; decide +kernel) (by rw [c_1]; decide +kernel) (by rw [c_1]; decide +kernel) (by decide) ?_
    refine lv_aload_n hx hb dX12_count_40 rfl (lv_at hl 0 rfl) ?_
    refine r_get (v := .ref a2) M w 0 14 clX12 rfl (by decide) G1477 rfl rfl dX12_count_41 ?_
    refine lv_iconst (v := iI 0) hx hb dX12_count_44 (by decide +kernel) ?_
    refine r_iald (v := iI (f0 0)) M w 1 rfl (iI_in (by decide) (by decide) (by decide)) (cI_at (by omega) (by omega)) dX12_count_45 ?_
    have hh2 : (-2147483648) ≤ (f0 0) ∧ (f0 0) ≤ 2147483647 := f0_h.1 0
    have hh3 : 0 ≤ (f0 0) ∧ (f0 0) ≤ 9 := (f0_h.2.1 0).1 (by omega)
    exact ret _ ((f0 0), (iI 0)) _ _ _ _ _ [0, 1] dX12_count_46 ⟨rfl, (show (-2147483648) ≤ (f0 0) from by omega), (show (f0 0) ≤ 2147483647 from by omega), (show coQ (f0 0) x0 (f0 0) (f0 1) (f0 3) (f0 4) x1 from (by unfold coQ; omega))⟩ w (by decide) rfl
  by_cases c_4 : x0 = 1
  · refine lv_tableIn (off := 41) (tgt := 47) hx hb dX12_count_6 (by rw [c_4]; decide +kernel) (by rw [c_4]; decide +kernel) (by rw [c_4]; decide +kernel) (by decide) ?_
    refine lv_aload_n hx hb dX12_count_47 rfl (lv_at hl 0 rfl) ?_
    refine r_get (v := .ref a2) M w 0 14 clX12 rfl (by decide) G1477 rfl rfl dX12_count_48 ?_
    refine lv_iconst (v := iI 1) hx hb dX12_count_51 (by decide +kernel) ?_
    refine r_iald (v := iI (f0 1)) M w 1 rfl (iI_in (by decide) (by decide) (by decide)) (cI_at (by omega) (by omega)) dX12_count_52 ?_
    have hh5 : (-2147483648) ≤ (f0 1) ∧ (f0 1) ≤ 2147483647 := f0_h.1 1
    have hh6 : 0 ≤ (f0 1) ∧ (f0 1) ≤ 3 := (f0_h.2.1 1).2.1 (by omega)
    exact ret _ ((f0 1), (iI 0)) _ _ _ _ _ [0, 1] dX12_count_53 ⟨rfl, (show (-2147483648) ≤ (f0 1) from by omega), (show (f0 1) ≤ 2147483647 from by omega), (show coQ (f0 1) x0 (f0 0) (f0 1) (f0 3) (f0 4) x1 from (by unfold coQ; omega))⟩ w (by decide) rfl
  by_cases c_7 : x0 = 2
  · refine lv_tableIn (off := 48) (tgt := 54) hx hb dX12_count_6 (by rw [c_7]; decide +kernel) (by rw [c_7]; decide +kernel) (by rw [c_7]; decide +kernel) (by decide) ?_
    refine lv_aload_n hx hb dX12_count_54 rfl (lv_at hl 0 rfl) ?_
    refine r_get (v := .ref a2) M w 0 14 clX12 rfl (by decide) G1477 rfl rfl dX12_count_55 ?_
    refine lv_iconst (v := iI 3) hx hb dX12_count_58 (by decide +kernel) ?_
    refine r_iald (v := iI (f0 3)) M w 1 rfl (iI_in (by decide) (by decide) (by decide)) (cI_at (by omega) (by omega)) dX12_count_59 ?_
    have hh8 : (-2147483648) ≤ (f0 3) ∧ (f0 3) ≤ 2147483647 := f0_h.1 3
    have hh9 : 2 ≤ (f0 3) ∧ (f0 3) ≤ 60 := (f0_h.2.1 3).2.2.1 (by omega)
    exact ret _ ((f0 3), (iI 0)) _ _ _ _ _ [0, 1] dX12_count_60 ⟨rfl, (show (-2147483648) ≤ (f0 3) from by omega), (show (f0 3) ≤ 2147483647 from by omega), (show coQ (f0 3) x0 (f0 0) (f0 1) (f0 3) (f0 4) x1 from (by unfold coQ; omega))⟩ w (by decide) rfl
  by_cases c_10 : x0 = 3
  · refine lv_tableIn (off := 55) (tgt := 61) hx hb dX12_count_6 (by rw [c_10]; decide +kernel) (by rw [c_10]; decide +kernel) (by rw [c_10]; decide +kernel) (by decide) ?_
    refine lv_aload_n hx hb dX12_count_61 rfl (lv_at hl 0 rfl) ?_
    refine r_get (v := .ref a2) M w 0 14 clX12 rfl (by decide) G1477 rfl rfl dX12_count_62 ?_
    refine lv_iconst (v := iI 4) hx hb dX12_count_65 (by decide +kernel) ?_
    refine r_iald (v := iI (f0 4)) M w 1 rfl (iI_in (by decide) (by decide) (by decide)) (cI_at (by omega) (by omega)) dX12_count_66 ?_
    have hh11 : (-2147483648) ≤ (f0 4) ∧ (f0 4) ≤ 2147483647 := f0_h.1 4
    exact ret _ ((f0 4), (iI 0)) _ _ _ _ _ [0, 1] dX12_count_67 ⟨rfl, (show (-2147483648) ≤ (f0 4) from by omega), (show (f0 4) ≤ 2147483647 from by omega), (show coQ (f0 4) x0 (f0 0) (f0 1) (f0 3) (f0 4) x1 from (by unfold coQ; omega))⟩ w (by decide) rfl
  by_cases c_12 : x0 = 4
  · refine lv_tableIn (off := 62) (tgt := 68) hx hb dX12_count_6 (by rw [c_12]; decide +kernel) (by rw [c_12]; decide +kernel) (by rw [c_12]; decide +kernel) (by decide) ?_
    refine lv_aload_n hx hb dX12_count_68 rfl (lv_at hl 0 rfl) ?_
    refine r_get (v := .int (iI x1)) M w 0 2 clX12 rfl (by decide) G1465 rfl rfl dX12_count_69 ?_
    exact ret _ (x1, (iI 0)) _ _ _ _ _ [0, 1] dX12_count_72 ⟨rfl, (show (-2147483648) ≤ x1 from by omega), (show x1 ≤ 2147483647 from by omega), (show coQ x1 x0 (f0 0) (f0 1) (f0 3) (f0 4) x1 from (by unfold coQ; omega))⟩ w (by decide) rfl
  refine lv_tableOut (tgt := 73) hx hb dX12_count_6 (by rw [iI_i (Int.le_trans (by decide) x0_a) (Int.le_trans x0_b (by decide))]; omega) (by decide) ?_
  refine lv_iconst (v := iI (-1)) hx hb dX12_count_73 (by decide +kernel) ?_
  exact ret _ ((-1), (iI 0)) _ _ _ _ _ [0, 1] dX12_count_74 ⟨rfl, (show (-2147483648) ≤ (-1) from by decide), (show ((-1) : Int) ≤ 2147483647 from by decide), (show coQ (-1) x0 (f0 0) (f0 1) (f0 3) (f0 4) x1 from (by unfold coQ; omega))⟩ w (by decide) rfl
set_option maxRecDepth 100000 in
set_option maxHeartbeats 4000000 in
theorem c115_X12_fault (l : Launch) (D : va_G) (T : Nat → ClassId) (sz : Nat) (a0 : Nat) (r0 : Int32) (a1 : Nat) (x0 : Int) (x1 : Int) (x2 : Int) (x3 : Int) (x4 : Int) (x5 : Int) (r1 : Int32) (x6 : Int) (x7 : Int) (x8 : Int) (y0 : Int64) (x9 : Int) (a2 : Nat) (a3 : Nat) (a4 : Nat) (a5 : Nat) (a6 : Nat) (a7 : Nat) (a8 : Nat) (a9 : Nat) (a10 : Nat) (a11 : Nat) (x10 : Int) (a12 : Nat) (a13 : Nat) (a14 : Nat) (a15 : Nat) (x11 : Int) (r2 : Int32) (r3 : Int32) (a16 : Nat) (x12 : Int) (x13 : Int) (a17 : Nat) (a18 : Nat) (x14 : Int) (a19 : Nat) (x15 : Int) (r4 : Int32) (a20 : Nat) (a21 : Nat) (x16 : Int) (r5 : Int32) (a22 : Nat) (x17 : Int) (x18 : Int) (x19 : Int) (x20 : Int) (x0_a : 0 ≤ x0) (x0_b : x0 ≤ 940) (x1_a : 0 ≤ x1) (x1_b : x1 ≤ 940) (x2_a : 0 ≤ x2) (x2_b : x2 ≤ 940) (x3_a : 0 ≤ x3) (x3_b : x3 ≤ 940) (x4_a : 0 ≤ x4) (x4_b : x4 ≤ 940) (x5_a : 0 ≤ x5) (x5_b : x5 ≤ 4) (x6_a : (-2147483648) ≤ x6) (x6_b : x6 ≤ 2147483647) (x7_a : (-2147483648) ≤ x7) (x7_b : x7 ≤ 2147483647) (x8_a : 0 ≤ x8) (x8_b : x8 ≤ 940) (x9_a : (-2147483648) ≤ x9) (x9_b : x9 ≤ 2147483647) (x10_a : 0 ≤ x10) (x10_b : x10 ≤ 8) (x11_a : 0 ≤ x11) (x11_b : x11 ≤ 9) (x12_a : (-1) ≤ x12) (x12_b : x12 ≤ 9) (x13_a : (-1) ≤ x13) (x13_b : x13 ≤ 8) (x14_a : 0 ≤ x14) (x14_b : x14 ≤ 9) (x15_a : 0 ≤ x15) (x15_b : x15 ≤ 64) (x16_a : 0 ≤ x16) (x16_b : x16 ≤ 40) (x17_a : 0 ≤ x17) (x17_b : x17 ≤ 40) (x18_a : 0 ≤ x18) (x18_b : x18 ≤ 20) (x19_a : 0 ≤ x19) (x19_b : x19 ≤ 8) (x20_a : 0 ≤ x20) (x20_b : x20 ≤ 39) : Met l yX12_fault (Cond.code yX12_fault cX12_fault 1 (some .int) :: GW) (Rm 0 0 0) (cPre [.ref a0] D T [(a0, .inr (11, [.int r0, .ref a1, .int (iI x0), .int (iI x1), .int (iI x2), .int (iI x3), .int (iI x4), .int (iI x5), .int r1, .int (iI x6), .int (iI x7), .int (iI x8), .long y0, .int (iI x9), .ref a2, .ref a3, .ref a4, .ref a5, .ref a6, .ref a7, .ref a8, .ref a9, .ref a10, .ref a11, .int (iI x10), .ref a12, .ref a13, .ref a14, .ref a15, .int (iI x11), .int r2, .int r3, .ref a16, .int (iI x12), .int (iI x13), .ref a17, .ref a18, .int (iI x14), .ref a19, .int (iI x15), .int r4, .ref a20, .ref a21, .int (iI x16), .int r5, .ref a22, .int (iI x17), .int (iI x18), .int (iI x19), .int (iI x20)]))] sz) (qI D [(a0, .inr (11, [.int r0, .ref a1, .int (iI x0), .int (iI x1), .int (iI x2), .int (iI x3), .int (iI x4), .int (iI x5), .int r1, .int (iI x6), .int (iI x7), .int (iI x8), .long y0, .int (iI x9), .ref a2, .ref a3, .ref a4, .ref a5, .ref a6, .ref a7, .ref a8, .ref a9, .ref a10, .ref a11, .int (iI x10), .ref a12, .ref a13, .ref a14, .ref a15, .int (iI x11), .int r2, .int r3, .ref a16, .int (iI x12), .int (iI x13), .ref a17, .ref a18, .int (iI x14), .ref a19, .int (iI x15), .int r4, .ref a20, .ref a21, .int (iI x16), .int r5, .ref a22, .int (iI x17), .int (iI x18), .int (iI x19), .int (iI x20)]))] sz (fun (v : Int32) (u : Int × Int32) => iI u.1 = v ∧ (-2147483648) ≤ u.1 ∧ u.1 ≤ 2147483647 ∧ (u.1 = x7)) (fun u => [(a0, .inr (11, [.int u.2, .ref a1, .int (iI x0), .int (iI x1), .int (iI x2), .int (iI x3), .int (iI x4), .int (iI x5), .int r1, .int (iI x6), .int (iI x7), .int (iI x8), .long y0, .int (iI x9), .ref a2, .ref a3, .ref a4, .ref a5, .ref a6, .ref a7, .ref a8, .ref a9, .ref a10, .ref a11, .int (iI x10), .ref a12, .ref a13, .ref a14, .ref a15, .int (iI x11), .int r2, .int r3, .ref a16, .int (iI x12), .int (iI x13), .ref a17, .ref a18, .int (iI x14), .ref a19, .int (iI x15), .int r4, .ref a20, .ref a21, .int (iI x16), .int r5, .ref a22, .int (iI x17), .int (iI x18), .int (iI x19), .int (iI x20)]))])) 0 0 (va_A [(a0, .inr (11, [.int r0, .ref a1, .int (iI x0), .int (iI x1), .int (iI x2), .int (iI x3), .int (iI x4), .int (iI x5), .int r1, .int (iI x6), .int (iI x7), .int (iI x8), .long y0, .int (iI x9), .ref a2, .ref a3, .ref a4, .ref a5, .ref a6, .ref a7, .ref a8, .ref a9, .ref a10, .ref a11, .int (iI x10), .ref a12, .ref a13, .ref a14, .ref a15, .int (iI x11), .int r2, .int r3, .ref a16, .int (iI x12), .int (iI x13), .ref a17, .ref a18, .int (iI x14), .ref a19, .int (iI x15), .int r4, .ref a20, .ref a21, .int (iI x16), .int r5, .ref a22, .int (iI x17), .int (iI x18), .int (iI x19), .int (iI x20)]))] sz) := by
  refine e_I (by decide) (Nat.le_of_ble_eq_true rfl) ?_
  intro p e s m args below meth c A Q ls M hin w ret hl
  have hx := M.1.1
  have hb := M.1.2.1
  have hl : lv_has ls 1 [(0, .ref a0)] := hl
  refine lv_aload_n hx hb dX12_fault_0 rfl (lv_at hl 0 rfl) ?_
  refine lv_iconst (v := iI 0) hx hb dX12_fault_1 (by decide +kernel) ?_
  refine r_put (ws' := [(a0, .inr (11, [.int (iI 0), .ref a1, .int (iI x0), .int (iI x1), .int (iI x2), .int (iI x3), .int (iI x4), .int (iI x5), .int r1, .int (iI x6), .int (iI x7), .int (iI x8), .long y0, .int (iI x9), .ref a2, .ref a3, .ref a4, .ref a5, .ref a6, .ref a7, .ref a8, .ref a9, .ref a10, .ref a11, .int (iI x10), .ref a12, .ref a13, .ref a14, .ref a15, .int (iI x11), .int r2, .int r3, .ref a16, .int (iI x12), .int (iI x13), .ref a17, .ref a18, .int (iI x14), .ref a19, .int (iI x15), .int r4, .ref a20, .ref a21, .int (iI x16), .int r5, .ref a22, .int (iI x17), .int (iI x18), .int (iI x19), .int (iI x20)]))]) M w 0 0 clX12 rfl (by decide) G1463 rfl rfl rfl rfl (Nat.le_of_ble_eq_true rfl) rfl dX12_fault_2 (fun H locs w => ?_)
  refine lv_aload_n hx hb dX12_fault_5 rfl (lv_at hl 0 rfl) ?_
  refine r_get (v := .int (iI x7)) M w 0 10 clX12 rfl (by decide) G1473 rfl rfl dX12_fault_6 ?_
  exact ret _ (x7, (iI 0)) _ _ _ _ _ [0] dX12_fault_9 ⟨rfl, x7_a, x7_b, (show x7 = x7 from rfl)⟩ w (by decide) rfl
set_option maxRecDepth 100000 in
set_option maxHeartbeats 4000000 in
theorem c116_X12_takes (l : Launch) (D : va_G) (T : Nat → ClassId) (sz : Nat) (a0 : Nat) (r0 : Int32) (a1 : Nat) (x0 : Int) (x1 : Int) (x2 : Int) (x3 : Int) (x4 : Int) (x5 : Int) (r1 : Int32) (x6 : Int) (x7 : Int) (x8 : Int) (y0 : Int64) (x9 : Int) (a2 : Nat) (a3 : Nat) (a4 : Nat) (a5 : Nat) (a6 : Nat) (a7 : Nat) (a8 : Nat) (a9 : Nat) (a10 : Nat) (a11 : Nat) (x10 : Int) (a12 : Nat) (a13 : Nat) (a14 : Nat) (a15 : Nat) (x11 : Int) (r2 : Int32) (r3 : Int32) (a16 : Nat) (x12 : Int) (x13 : Int) (a17 : Nat) (a18 : Nat) (x14 : Int) (a19 : Nat) (x15 : Int) (r4 : Int32) (a20 : Nat) (a21 : Nat) (x16 : Int) (r5 : Int32) (a22 : Nat) (x17 : Int) (x18 : Int) (x19 : Int) (x20 : Int) (f0 : Int → Int) (f1 : Nat → Int32) (x0_a : 0 ≤ x0) (x0_b : x0 ≤ 940) (x1_a : 0 ≤ x1) (x1_b : x1 ≤ 940) (x2_a : 0 ≤ x2) (x2_b : x2 ≤ 940) (x3_a : 0 ≤ x3) (x3_b : x3 ≤ 940) (x4_a : 0 ≤ x4) (x4_b : x4 ≤ 940) (x5_a : 0 ≤ x5) (x5_b : x5 ≤ 4) (x6_a : (-2147483648) ≤ x6) (x6_b : x6 ≤ 2147483647) (x7_a : (-2147483648) ≤ x7) (x7_b : x7 ≤ 2147483647) (x8_a : 0 ≤ x8) (x8_b : x8 ≤ 940) (x9_a : (-2147483648) ≤ x9) (x9_b : x9 ≤ 2147483647) (x10_a : 0 ≤ x10) (x10_b : x10 ≤ 8) (x11_a : 0 ≤ x11) (x11_b : x11 ≤ 9) (x12_a : (-1) ≤ x12) (x12_b : x12 ≤ 9) (x13_a : (-1) ≤ x13) (x13_b : x13 ≤ 8) (x14_a : 0 ≤ x14) (x14_b : x14 ≤ 9) (x15_a : 0 ≤ x15) (x15_b : x15 ≤ 64) (x16_a : 0 ≤ x16) (x16_b : x16 ≤ 40) (x17_a : 0 ≤ x17) (x17_b : x17 ≤ 40) (x18_a : 0 ≤ x18) (x18_b : x18 ≤ 20) (x19_a : 0 ≤ x19) (x19_b : x19 ≤ 8) (x20_a : 0 ≤ x20) (x20_b : x20 ≤ 39) (f0_h : nowI f0) : Met l yX12_takes (Cond.code yX12_takes cX12_takes 4 (some .int) :: GW) (Rm 1 0 0) (cPre [.ref a0] D T [(a0, .inr (11, [.int r0, .ref a1, .int (iI x0), .int (iI x1), .int (iI x2), .int (iI x3), .int (iI x4), .int (iI x5), .int r1, .int (iI x6), .int (iI x7), .int (iI x8), .long y0, .int (iI x9), .ref a2, .ref a3, .ref a4, .ref a5, .ref a6, .ref a7, .ref a8, .ref a9, .ref a10, .ref a11, .int (iI x10), .ref a12, .ref a13, .ref a14, .ref a15, .int (iI x11), .int r2, .int r3, .ref a16, .int (iI x12), .int (iI x13), .ref a17, .ref a18, .int (iI x14), .ref a19, .int (iI x15), .int r4, .ref a20, .ref a21, .int (iI x16), .int r5, .ref a22, .int (iI x17), .int (iI x18), .int (iI x19), .int (iI x20)])), (a2, .inl (T 0, 329, .inl (cI f0))), (a13, .inl (T 0, 9, .inl f1))] sz) (qI D [(a0, .inr (11, [.int r0, .ref a1, .int (iI x0), .int (iI x1), .int (iI x2), .int (iI x3), .int (iI x4), .int (iI x5), .int r1, .int (iI x6), .int (iI x7), .int (iI x8), .long y0, .int (iI x9), .ref a2, .ref a3, .ref a4, .ref a5, .ref a6, .ref a7, .ref a8, .ref a9, .ref a10, .ref a11, .int (iI x10), .ref a12, .ref a13, .ref a14, .ref a15, .int (iI x11), .int r2, .int r3, .ref a16, .int (iI x12), .int (iI x13), .ref a17, .ref a18, .int (iI x14), .ref a19, .int (iI x15), .int r4, .ref a20, .ref a21, .int (iI x16), .int r5, .ref a22, .int (iI x17), .int (iI x18), .int (iI x19), .int (iI x20)])), (a2, .inl (T 0, 329, .inl (cI f0))), (a13, .inl (T 0, 9, .inl f1))] sz (fun (v : Int32) (u : Int × Int32) => iI u.1 = v ∧ (-2147483648) ≤ u.1 ∧ u.1 ≤ 2147483647) (fun u => [(a0, .inr (11, [.int u.2, .ref a1, .int (iI x0), .int (iI x1), .int (iI x2), .int (iI x3), .int (iI x4), .int (iI x5), .int r1, .int (iI x6), .int (iI x7), .int (iI x8), .long y0, .int (iI x9), .ref a2, .ref a3, .ref a4, .ref a5, .ref a6, .ref a7, .ref a8, .ref a9, .ref a10, .ref a11, .int (iI x10), .ref a12, .ref a13, .ref a14, .ref a15, .int (iI x11), .int r2, .int r3, .ref a16, .int (iI x12), .int (iI x13), .ref a17, .ref a18, .int (iI x14), .ref a19, .int (iI x15), .int r4, .ref a20, .ref a21, .int (iI x16), .int r5, .ref a22, .int (iI x17), .int (iI x18), .int (iI x19), .int (iI x20)])), (a2, .inl (T 0, 329, .inl (cI f0))), (a13, .inl (T 0, 9, .inl f1))])) 0 0 (va_A [(a0, .inr (11, [.int r0, .ref a1, .int (iI x0), .int (iI x1), .int (iI x2), .int (iI x3), .int (iI x4), .int (iI x5), .int r1, .int (iI x6), .int (iI x7), .int (iI x8), .long y0, .int (iI x9), .ref a2, .ref a3, .ref a4, .ref a5, .ref a6, .ref a7, .ref a8, .ref a9, .ref a10, .ref a11, .int (iI x10), .ref a12, .ref a13, .ref a14, .ref a15, .int (iI x11), .int r2, .int r3, .ref a16, .int (iI x12), .int (iI x13), .ref a17, .ref a18, .int (iI x14), .ref a19, .int (iI x15), .int r4, .ref a20, .ref a21, .int (iI x16), .int r5, .ref a22, .int (iI x17), .int (iI x18), .int (iI x19), .int (iI x20)])), (a2, .inl (T 0, 329, .inl (cI f0))), (a13, .inl (T 0, 9, .inl f1))] sz) := by
  refine e_I (by decide) (Nat.le_of_ble_eq_true rfl) ?_
  intro p e s m args below meth c A Q ls M hin w ret hl
  have hx := M.1.1
  have hb := M.1.2.1
  have hl : lv_has ls 4 [(0, .ref a0)] := hl
  refine lv_aload_n hx hb dX12_takes_0 rfl (lv_at hl 0 rfl) ?_
  refine lv_iconst (v := iI 0) hx hb dX12_takes_1 (by decide +kernel) ?_
  refine r_put (ws' := [(a0, .inr (11, [.int (iI 0), .ref a1, .int (iI x0), .int (iI x1), .int (iI x2), .int (iI x3), .int (iI x4), .int (iI x5), .int r1, .int (iI x6), .int (iI x7), .int (iI x8), .long y0, .int (iI x9), .ref a2, .ref a3, .ref a4, .ref a5, .ref a6, .ref a7, .ref a8, .ref a9, .ref a10, .ref a11, .int (iI x10), .ref a12, .ref a13, .ref a14, .ref a15, .int (iI x11), .int r2, .int r3, .ref a16, .int (iI x12), .int (iI x13), .ref a17, .ref a18, .int (iI x14), .ref a19, .int (iI x15), .int r4, .ref a20, .ref a21, .int (iI x16), .int r5, .ref a22, .int (iI x17), .int (iI x18), .int (iI x19), .int (iI x20)])), (a2, .inl (T 0, 329, .inl (cI f0))), (a13, .inl (T 0, 9, .inl f1))]) M w 0 0 clX12 rfl (by decide) G1463 rfl rfl rfl rfl (Nat.le_of_ble_eq_true rfl) rfl dX12_takes_2 (fun H locs w => ?_)
  refine lv_aload_n hx hb dX12_takes_5 rfl (lv_at hl 0 rfl) ?_
  refine r_get (v := .int r3) M w 0 31 clX12 rfl (by decide) G1494 rfl rfl dX12_takes_6 ?_
  refine b_any (fun z1 z1_a z1_b => ?_)
  refine lv_if_ne (tgt := 14) hx hb dX12_takes_9 (by decide) (fun c_2 => ?_) (fun c_2 => ?_)
  · replace c_2 : ¬ z1 = 0 := fun h => c_2 ((iz_eq (Int.le_trans (by decide) z1_a) (Int.le_trans z1_b (by decide))).mpr h)
    refine lv_iconst (v := iI 0) hx hb dX12_takes_14 (by decide +kernel) ?_
    refine lv_istore_n (lv' := [(1, .int (iI 0)), (0, .ref a0)]) hx hb dX12_takes_15 rfl hl (by decide) rfl (fun ls hl => ?_)
    refine lv_iconst (v := iI 0) hx hb dX12_takes_16 (by decide +kernel) ?_
    refine lv_istore_n (lv' := [(2, .int (iI 0)), (1, .int (iI 0)), (0, .ref a0)]) hx hb dX12_takes_17 rfl hl (by decide) rfl (fun ls hl => ?_)
    have loop1 : ∀ (k1 : Nat) (z3 : Int) (z4 : Int) (H : Heap) (locs : List Loc) (ls : Array Slot), 0 ≤ z3 → z3 ≤ 9 → 0 ≤ z4 → z4 ≤ 18 → 0 ≤ ((z3 + z3) - z4) → ((9 - z3) : Int).toNat < k1 → WD D A s.heap [(a0, .inr (11, [.int (iI 0), .ref a1, .int (iI x0), .int (iI x1), .int (iI x2), .int (iI x3), .int (iI x4), .int (iI x5), .int r1, .int (iI x6), .int (iI x7), .int (iI x8), .long y0, .int (iI x9), .ref a2, .ref a3, .ref a4, .ref a5, .ref a6, .ref a7, .ref a8, .ref a9, .ref a10, .ref a11, .int (iI x10), .ref a12, .ref a13, .ref a14, .ref a15, .int (iI x11), .int r2, .int r3, .ref a16, .int (iI x12), .int (iI x13), .ref a17, .ref a18, .int (iI x14), .ref a19, .int (iI x15), .int r4, .ref a20, .ref a21, .int (iI x16), .int r5, .ref a22, .int (iI x17), .int (iI x18), .int (iI x19), .int (iI x20)])), (a2, .inl (T 0, 329, .inl (cI f0))), (a13, .inl (T 0, 9, .inl f1))] H locs → lv_has ls 4 [(2, .int (iI z3)), (1, .int (iI z4)), (0, .ref a0)] → W p l e (Rm 1 0 0) s m args below meth c H locs 0 0 Q (F0 m 18 ls []) := by
      intro k1
      induction k1 with
      | zero => intro z3 z4 H locs ls z3_a z3_b z4_a z4_b q1_0 hm; exact absurd hm (Nat.not_lt_zero _)
      | succ k1 ih1 =>
        intro z3 z4 H locs ls z3_a z3_b z4_a z4_b q1_0 hm1 w hl
        refine lv_iload_n hx hb dX12_takes_18 rfl (lv_at hl 0 rfl) ?_
        refine lv_aload_n hx hb dX12_takes_19 rfl (lv_at hl 2 rfl) ?_
        refine r_get (v := .ref a2) M w 0 14 clX12 rfl (by decide) G1477 rfl rfl dX12_takes_20 ?_
        refine lv_iconst (v := iI 0) hx hb dX12_takes_23 (by decide +kernel) ?_
        refine r_iald (v := iI (f0 0)) M w 1 rfl (iI_in (by decide) (by decide) (by decide)) (cI_at (by omega) (by omega)) dX12_takes_24 ?_
        have hh5 : (-2147483648) ≤ (f0 0) ∧ (f0 0) ≤ 2147483647 := f0_h.1 0
        have hh6 : 0 ≤ (f0 0) ∧ (f0 0) ≤ 9 := (f0_h.2.1 0).1 (by omega)
        refine lv_icmp_ge (tgt := 79) hx hb dX12_takes_25 (by decide) (fun c_7 => ?_) (fun c_7 => ?_)
        · replace c_7 := (iI_le (by omega) (by omega) (Int.le_trans (by decide) z3_a) (Int.le_trans z3_b (by decide))).mp c_7
          refine lv_iconst (v := iI 0) hx hb dX12_takes_79 (by decide +kernel) ?_
          refine lv_istore_n (lv' := [(2, .int (iI 0)), (1, .int (iI z4)), (0, .ref a0)]) hx hb dX12_takes_80 rfl hl (by decide) rfl (fun ls hl => ?_)
          refine lv_iconst (v := iI 0) hx hb dX12_takes_81 (by decide +kernel) ?_
          refine lv_istore_n (lv' := [(3, .int (iI 0)), (2, .int (iI 0)), (1, .int (iI z4)), (0, .ref a0)]) hx hb dX12_takes_82 rfl hl (by decide) rfl (fun ls hl => ?_)
          have loop2 : ∀ (k2 : Nat) (z8 : Int) (z9 : Int) (H : Heap) (locs : List Loc) (ls : Array Slot), 0 ≤ z8 → z8 ≤ 3 → (-2147483648) ≤ z9 → z9 ≤ 2147483647 → ((3 - z8) : Int).toNat < k2 → WD D A s.heap [(a0, .inr (11, [.int (iI 0), .ref a1, .int (iI x0), .int (iI x1), .int (iI x2), .int (iI x3), .int (iI x4), .int (iI x5), .int r1, .int (iI x6), .int (iI x7), .int (iI x8), .long y0, .int (iI x9), .ref a2, .ref a3, .ref a4, .ref a5, .ref a6, .ref a7, .ref a8, .ref a9, .ref a10, .ref a11, .int (iI x10), .ref a12, .ref a13, .ref a14, .ref a15, .int (iI x11), .int r2, .int r3, .ref a16, .int (iI x12), .int (iI x13), .ref a17, .ref a18, .int (iI x14), .ref a19, .int (iI x15), .int r4, .ref a20, .ref a21, .int (iI x16), .int r5, .ref a22, .int (iI x17), .int (iI x18), .int (iI x19), .int (iI x20)])), (a2, .inl (T 0, 329, .inl (cI f0))), (a13, .inl (T 0, 9, .inl f1))] H locs → lv_has ls 4 [(3, .int (iI z8)), (2, .int (iI z9)), (1, .int (iI z4)), (0, .ref a0)] → W p l e (Rm 1 0 0) s m args below meth c H locs 0 0 Q (F0 m 83 ls []) := by
            intro k2
            induction k2 with
            | zero => intro z8 z9 H locs ls z8_a z8_b z9_a z9_b hm; exact absurd hm (Nat.not_lt_zero _)
            | succ k2 ih2 =>
              intro z8 z9 H locs ls z8_a z8_b z9_a z9_b hm2 w hl
              refine lv_iload_n hx hb dX12_takes_83 rfl (lv_at hl 0 rfl) ?_
              refine lv_aload_n hx hb dX12_takes_84 rfl (lv_at hl 3 rfl) ?_
              refine r_get (v := .ref a2) M w 0 14 clX12 rfl (by decide) G1477 rfl rfl dX12_takes_85 ?_
              refine lv_iconst (v := iI 1) hx hb dX12_takes_88 (by decide +kernel) ?_
              refine r_iald (v := iI (f0 1)) M w 1 rfl (iI_in (by decide) (by decide) (by decide)) (cI_at (by omega) (by omega)) dX12_takes_89 ?_
              have hh10 : (-2147483648) ≤ (f0 1) ∧ (f0 1) ≤ 2147483647 := f0_h.1 1
              have hh11 : 0 ≤ (f0 1) ∧ (f0 1) ≤ 3 := (f0_h.2.1 1).2.1 (by omega)
              refine lv_icmp_ge (tgt := 111) hx hb dX12_takes_90 (by decide) (fun c_12 => ?_) (fun c_12 => ?_)
              · replace c_12 := (iI_le (by omega) (by omega) (Int.le_trans (by decide) z8_a) (Int.le_trans z8_b (by decide))).mp c_12
                refine lv_iload_n hx hb dX12_takes_111 rfl (lv_at hl 2 rfl) ?_
                refine lv_if_ne (tgt := 117) hx hb dX12_takes_112 (by decide) (fun c_13 => ?_) (fun c_13 => ?_)
                · replace c_13 : ¬ z4 = 0 := fun h => c_13 ((iz_eq (Int.le_trans (by decide) z4_a) (Int.le_trans z4_b (by decide))).mpr h)
                  refine lv_iload_n hx hb dX12_takes_117 rfl (lv_at hl 1 rfl) ?_
                  refine lv_if_ne (tgt := 125) hx hb dX12_takes_118 (by decide) (fun c_14 => ?_) (fun c_14 => ?_)
                  · replace c_14 : ¬ z9 = 0 := fun h => c_14 ((iz_eq (Int.le_trans (by decide) z9_a) (Int.le_trans z9_b (by decide))).mpr h)
                    refine lv_iload_n hx hb dX12_takes_125 rfl (lv_at hl 2 rfl) ?_
                    refine lv_iload_n hx hb dX12_takes_126 rfl (lv_at hl 1 rfl) ?_
                    refine r_iadd (v := _) M rfl dX12_takes_127 ?_
                    refine b_any (fun z15 z15_a z15_b => ?_)
                    refine lv_iconst (v := iI 1) hx hb dX12_takes_128 (by decide +kernel) ?_
                    refine r_isub (v := _) M rfl dX12_takes_129 ?_
                    refine b_any (fun z16 z16_a z16_b => ?_)
                    refine lv_iload_n hx hb dX12_takes_130 rfl (lv_at hl 1 rfl) ?_
                    refine r_idiv (v := _) M rfl (iz_ne (Int.le_trans (by decide) z9_a) (Int.le_trans z9_b (by decide)) (by omega)) dX12_takes_131 ?_
                    refine b_any (fun z17 z17_a z17_b => ?_)
                    exact ret _ (z17, (iI 0)) _ _ _ _ _ [0, 1, 2] dX12_takes_132 ⟨rfl, z17_a, z17_b⟩ w (by decide) rfl
                  · replace c_14 := (iz_eq (Int.le_trans (by decide) z9_a) (Int.le_trans z9_b (by decide))).mp c_14
                    refine lv_iconst (v := iI (-1)) hx hb dX12_takes_121 (by decide +kernel) ?_
                    refine lv_goto (tgt := 132) hx hb dX12_takes_122 (by decide) ?_
                    exact ret _ ((-1), (iI 0)) _ _ _ _ _ [0, 1, 2] dX12_takes_132 ⟨rfl, (show (-2147483648) ≤ (-1) from by decide), (show ((-1) : Int) ≤ 2147483647 from by decide)⟩ w (by decide) rfl
                · replace c_13 := (iz_eq (Int.le_trans (by decide) z4_a) (Int.le_trans z4_b (by decide))).mp c_13
                  refine lv_iconst (v := iI 0) hx hb dX12_takes_115 (by decide +kernel) ?_
                  exact ret _ (0, (iI 0)) _ _ _ _ _ [0, 1, 2] dX12_takes_116 ⟨rfl, (show (-2147483648) ≤ 0 from by decide), (show (0 : Int) ≤ 2147483647 from by decide)⟩ w (by decide) rfl
              · replace c_12 : z8 < (f0 1) := Int.not_le.mp (fun h => c_12 ((iI_le (by omega) (by omega) (Int.le_trans (by decide) z8_a) (Int.le_trans z8_b (by decide))).mpr h))
                refine lv_iload_n hx hb dX12_takes_93 rfl (lv_at hl 1 rfl) ?_
                refine lv_aload_n hx hb dX12_takes_94 rfl (lv_at hl 3 rfl) ?_
                refine r_get (v := .ref a2) M w 0 14 clX12 rfl (by decide) G1477 rfl rfl dX12_takes_95 ?_
                refine lv_bipush (v := iI 41) hx hb dX12_takes_98 (by decide +kernel) ?_
                refine lv_iload_n hx hb dX12_takes_100 rfl (lv_at hl 0 rfl) ?_
                refine r_iadd (v := iI (41 + z8)) M (iI_add _ _) dX12_takes_101 ?_
                refine r_iald (v := iI (f0 (41 + z8))) M w 1 rfl (iI_in (by omega) (by omega) (by decide)) (cI_at (by omega) (by omega)) dX12_takes_102 ?_
                have hh18 : (-2147483648) ≤ (f0 (41 + z8)) ∧ (f0 (41 + z8)) ≤ 2147483647 := f0_h.1 (41 + z8)
                refine r_iadd (v := _) M rfl dX12_takes_103 ?_
                refine b_any (fun z19 z19_a z19_b => ?_)
                refine lv_istore_n (lv' := [(2, .int (iI z19)), (3, .int (iI z8)), (1, .int (iI z4)), (0, .ref a0)]) hx hb dX12_takes_104 rfl hl (by decide) rfl (fun ls hl => ?_)
                refine lv_iinc (v := iI (z8 + 1)) (lv' := [(3, .int (iI (z8 + 1))), (2, .int (iI z19)), (1, .int (iI z4)), (0, .ref a0)]) hx hb dX12_takes_105 hl (k := 1) rfl (ii_inc (by decide +kernel)) (by decide) rfl (fun ls hl => ?_)
                refine lv_goto (tgt := 83) hx hb dX12_takes_108 (by decide) ?_
                exact ih2 (z8 + 1) z19 _ _ _ (by omega) (by omega) z19_a z19_b (by omega) w (lv_sub hl [0, 1, 2, 3] rfl)
          exact loop2 ((3 : Int).toNat + 1) 0 0 _ _ _ (by decide) (by decide) (by decide) (by decide) (Nat.lt_succ_self _) w (lv_sub hl [0, 1, 2, 3] rfl)
        · replace c_7 : z3 < (f0 0) := Int.not_le.mp (fun h => c_7 ((iI_le (by omega) (by omega) (Int.le_trans (by decide) z3_a) (Int.le_trans z3_b (by decide))).mpr h))
          refine lv_aload_n hx hb dX12_takes_28 rfl (lv_at hl 2 rfl) ?_
          refine r_get (v := .ref a2) M w 0 14 clX12 rfl (by decide) G1477 rfl rfl dX12_takes_29 ?_
          refine lv_bipush (v := iI 57) hx hb dX12_takes_32 (by decide +kernel) ?_
          refine lv_iload_n hx hb dX12_takes_34 rfl (lv_at hl 0 rfl) ?_
          refine r_iadd (v := iI (57 + z3)) M (iI_add _ _) dX12_takes_35 ?_
          refine r_iald (v := iI (f0 (57 + z3))) M w 1 rfl (iI_in (by omega) (by omega) (by decide)) (cI_at (by omega) (by omega)) dX12_takes_36 ?_
          have hh20 : (-2147483648) ≤ (f0 (57 + z3)) ∧ (f0 (57 + z3)) ≤ 2147483647 := f0_h.1 (57 + z3)
          have hh21 : (-1) ≤ (f0 (57 + z3)) ∧ (f0 (57 + z3)) ≤ 8 := (f0_h.2.1 (57 + z3)).2.2.2.1 (by omega) (by omega)
          refine lv_aload_n hx hb dX12_takes_37 rfl (lv_at hl 2 rfl) ?_
          refine r_get (v := .ref a13) M w 0 26 clX12 rfl (by decide) G1489 rfl rfl dX12_takes_38 ?_
          refine lv_iload_n hx hb dX12_takes_41 rfl (lv_at hl 0 rfl) ?_
          refine r_iald (v := _) M w 2 rfl (iI_in (by omega) (by omega) (by decide)) rfl dX12_takes_42 ?_
          refine b_any (fun z22 z22_a z22_b => ?_)
          refine lv_icmp_ne (tgt := 49) hx hb dX12_takes_43 (by decide) (fun c_23 => ?_) (fun c_23 => ?_)
          · replace c_23 : ¬ (f0 (57 + z3)) = z22 := fun h => c_23 ((iI_eq (by omega) (by omega) (Int.le_trans (by decide) z22_a) (Int.le_trans z22_b (by decide))).mpr h)
            refine lv_aload_n hx hb dX12_takes_49 rfl (lv_at hl 2 rfl) ?_
            refine lv_iload_n hx hb dX12_takes_50 rfl (lv_at hl 0 rfl) ?_
            refine k_I (ce := 0) (sl := 0) (rest := []) (wr := [(a13, .inl (T 0, 9, .inl f1))]) (r_V (f := 0) [0, 1] M w V_HookedCityModel_255 G1768 G74 (c70_X12_isOpen l D T _ a0 z3 (iI 0) a1 x0 x1 x2 x3 x4 x5 r1 x6 x7 x8 y0 x9 a2 a3 a4 a5 a6 a7 a8 a9 a10 a11 x10 a12 a13 a14 a15 x11 r2 r3 a16 x12 x13 a17 a18 x14 a19 x15 r4 a20 a21 x16 r5 a22 x17 x18 x19 x20 f0 (by omega) (by omega) x0_a x0_b x1_a x1_b x2_a x2_b x3_a x3_b x4_a x4_b x5_a x5_b x6_a x6_b x7_a x7_b x8_a x8_b x9_a x9_b x10_a x10_b x11_a x11_b x12_a x12_b x13_a x13_b x14_a x14_b x15_a x15_b x16_a x16_b x17_a x17_b x18_a x18_b x19_a x19_b x20_a x20_b f0_h) 0 clX12 rfl rfl (by decide) rfl hl.1 rfl (Nat.le_of_ble_eq_true rfl) dX12_takes_51 (by decide) (by decide) (by decide) (by decide)) w [0, 1] [2] rfl rfl (by decide) (by decide) rfl rfl (fun v z24 H locs hp w => ?_)
            have hv : iI z24 = v := hp.1
            subst hv
            have z24_a : 0 ≤ z24 := hp.2.1
            have z24_b : z24 ≤ 1 := hp.2.2.1
            have pq25 : z24 = 0 → 0 ≤ f0 (57 + z3) := hp.2.2.2
            have w : WD D A s.heap [(a13, .inl (T 0, 9, .inl f1)), (a0, .inr (11, [.int (iI 0), .ref a1, .int (iI x0), .int (iI x1), .int (iI x2), .int (iI x3), .int (iI x4), .int (iI x5), .int r1, .int (iI x6), .int (iI x7), .int (iI x8), .long y0, .int (iI x9), .ref a2, .ref a3, .ref a4, .ref a5, .ref a6, .ref a7, .ref a8, .ref a9, .ref a10, .ref a11, .int (iI x10), .ref a12, .ref a13, .ref a14, .ref a15, .int (iI x11), .int r2, .int r3, .ref a16, .int (iI x12), .int (iI x13), .ref a17, .ref a18, .int (iI x14), .ref a19, .int (iI x15), .int r4, .ref a20, .ref a21, .int (iI x16), .int r5, .ref a22, .int (iI x17), .int (iI x18), .int (iI x19), .int (iI x20)])), (a2, .inl (T 0, 329, .inl (cI f0)))] H locs := w
            refine lv_if_ne (tgt := 60) hx hb dX12_takes_54 (by decide) (fun c_26 => ?_) (fun c_26 => ?_)
            · replace c_26 : ¬ z24 = 0 := fun h => c_26 ((iz_eq (Int.le_trans (by decide) z24_a) (Int.le_trans z24_b (by decide))).mpr h)
              refine lv_aload_n hx hb dX12_takes_60 rfl (lv_at hl 2 rfl) ?_
              refine r_get (v := .ref a13) M w 1 26 clX12 rfl (by decide) G1489 rfl rfl dX12_takes_61 ?_
              refine lv_iload_n hx hb dX12_takes_64 rfl (lv_at hl 0 rfl) ?_
              refine r_iald (v := _) M w 0 rfl (iI_in (by omega) (by omega) (by decide)) rfl dX12_takes_65 ?_
              refine b_any (fun z27 z27_a z27_b => ?_)
              refine lv_iconst (v := iI (-1)) hx hb dX12_takes_66 (by decide +kernel) ?_
              refine lv_icmp_eq (tgt := 73) hx hb dX12_takes_67 (by decide) (fun c_28 => ?_) (fun c_28 => ?_)
              · replace c_28 := (iI_eq (Int.le_trans (by decide) z27_a) (Int.le_trans z27_b (by decide)) (by decide) (by decide)).mp c_28
                refine lv_iinc (v := iI (z3 + 1)) (lv' := [(2, .int (iI (z3 + 1))), (1, .int (iI z4)), (0, .ref a0)]) hx hb dX12_takes_73 hl (k := 0) rfl (ii_inc (by decide +kernel)) (by decide) rfl (fun ls hl => ?_)
                refine lv_goto (tgt := 18) hx hb dX12_takes_76 (by decide) ?_
                exact ih1 (z3 + 1) z4 _ _ _ (by omega) (by omega) z4_a z4_b (by omega) (by omega) (w.sub [1, 2, 0] (by decide) rfl) (lv_sub hl [0, 1, 2] rfl)
              · replace c_28 : ¬ z27 = (-1) := fun h => c_28 ((iI_eq (Int.le_trans (by decide) z27_a) (Int.le_trans z27_b (by decide)) (by decide) (by decide)).mpr h)
                refine lv_iinc (v := iI (z4 + 1)) (lv' := [(1, .int (iI (z4 + 1))), (2, .int (iI z3)), (0, .ref a0)]) hx hb dX12_takes_70 hl (k := 1) rfl (ii_inc (by decide +kernel)) (by decide) rfl (fun ls hl => ?_)
                refine lv_iinc (v := iI (z3 + 1)) (lv' := [(2, .int (iI (z3 + 1))), (1, .int (iI (z4 + 1))), (0, .ref a0)]) hx hb dX12_takes_73 hl (k := 1) rfl (ii_inc (by decide +kernel)) (by decide) rfl (fun ls hl => ?_)
                refine lv_goto (tgt := 18) hx hb dX12_takes_76 (by decide) ?_
                exact ih1 (z3 + 1) (z4 + 1) _ _ _ (by omega) (by omega) (by omega) (by omega) (by omega) (by omega) (w.sub [1, 2, 0] (by decide) rfl) (lv_sub hl [0, 1, 2] rfl)
            · replace c_26 := (iz_eq (Int.le_trans (by decide) z24_a) (Int.le_trans z24_b (by decide))).mp c_26
              refine lv_iinc (v := iI (z4 + 1)) (lv' := [(1, .int (iI (z4 + 1))), (2, .int (iI z3)), (0, .ref a0)]) hx hb dX12_takes_57 hl (k := 1) rfl (ii_inc (by decide +kernel)) (by decide) rfl (fun ls hl => ?_)
              refine lv_aload_n hx hb dX12_takes_60 rfl (lv_at hl 2 rfl) ?_
              refine r_get (v := .ref a13) M w 1 26 clX12 rfl (by decide) G1489 rfl rfl dX12_takes_61 ?_
              refine lv_iload_n hx hb dX12_takes_64 rfl (lv_at hl 1 rfl) ?_
              refine r_iald (v := _) M w 0 rfl (iI_in (by omega) (by omega) (by decide)) rfl dX12_takes_65 ?_
              refine b_any (fun z29 z29_a z29_b => ?_)
              refine lv_iconst (v := iI (-1)) hx hb dX12_takes_66 (by decide +kernel) ?_
              refine lv_icmp_eq (tgt := 73) hx hb dX12_takes_67 (by decide) (fun c_30 => ?_) (fun c_30 => ?_)
              · replace c_30 := (iI_eq (Int.le_trans (by decide) z29_a) (Int.le_trans z29_b (by decide)) (by decide) (by decide)).mp c_30
                refine lv_iinc (v := iI (z3 + 1)) (lv' := [(2, .int (iI (z3 + 1))), (1, .int (iI (z4 + 1))), (0, .ref a0)]) hx hb dX12_takes_73 hl (k := 1) rfl (ii_inc (by decide +kernel)) (by decide) rfl (fun ls hl => ?_)
                refine lv_goto (tgt := 18) hx hb dX12_takes_76 (by decide) ?_
                exact ih1 (z3 + 1) (z4 + 1) _ _ _ (by omega) (by omega) (by omega) (by omega) (by omega) (by omega) (w.sub [1, 2, 0] (by decide) rfl) (lv_sub hl [0, 1, 2] rfl)
              · replace c_30 : ¬ z29 = (-1) := fun h => c_30 ((iI_eq (Int.le_trans (by decide) z29_a) (Int.le_trans z29_b (by decide)) (by decide) (by decide)).mpr h)
                refine lv_iinc (v := iI ((z4 + 1) + 1)) (lv' := [(1, .int (iI ((z4 + 1) + 1))), (2, .int (iI z3)), (0, .ref a0)]) hx hb dX12_takes_70 hl (k := 0) rfl (ii_inc (by decide +kernel)) (by decide) rfl (fun ls hl => ?_)
                refine lv_iinc (v := iI (z3 + 1)) (lv' := [(2, .int (iI (z3 + 1))), (1, .int (iI ((z4 + 1) + 1))), (0, .ref a0)]) hx hb dX12_takes_73 hl (k := 1) rfl (ii_inc (by decide +kernel)) (by decide) rfl (fun ls hl => ?_)
                refine lv_goto (tgt := 18) hx hb dX12_takes_76 (by decide) ?_
                exact ih1 (z3 + 1) ((z4 + 1) + 1) _ _ _ (by omega) (by omega) (by omega) (by omega) (by omega) (by omega) (w.sub [1, 2, 0] (by decide) rfl) (lv_sub hl [0, 1, 2] rfl)
          · replace c_23 := (iI_eq (by omega) (by omega) (Int.le_trans (by decide) z22_a) (Int.le_trans z22_b (by decide))).mp c_23
            refine lv_goto (tgt := 73) hx hb dX12_takes_46 (by decide) ?_
            refine lv_iinc (v := iI (z3 + 1)) (lv' := [(2, .int (iI (z3 + 1))), (1, .int (iI z4)), (0, .ref a0)]) hx hb dX12_takes_73 hl (k := 0) rfl (ii_inc (by decide +kernel)) (by decide) rfl (fun ls hl => ?_)
            refine lv_goto (tgt := 18) hx hb dX12_takes_76 (by decide) ?_
            exact ih1 (z3 + 1) z4 _ _ _ (by omega) (by omega) z4_a z4_b (by omega) (by omega) w (lv_sub hl [0, 1, 2] rfl)
    exact loop1 ((9 : Int).toNat + 1) 0 0 _ _ _ (by decide) (by decide) (by decide) (by decide) (by omega) (Nat.lt_succ_self _) w (lv_sub hl [0, 1, 2] rfl)
  · replace c_2 := (iz_eq (Int.le_trans (by decide) z1_a) (Int.le_trans z1_b (by decide))).mp c_2
    refine lv_iconst (v := iI (-1)) hx hb dX12_takes_12 (by decide +kernel) ?_
    exact ret _ ((-1), (iI 0)) _ _ _ _ _ [0, 1, 2] dX12_takes_13 ⟨rfl, (show (-2147483648) ≤ (-1) from by decide), (show ((-1) : Int) ≤ 2147483647 from by decide)⟩ w (by decide) rfl
set_option maxRecDepth 100000 in
set_option maxHeartbeats 4000000 in
theorem c117_X12_layAside (l : Launch) (D : va_G) (T : Nat → ClassId) (sz : Nat) (a0 : Nat) (r0 : Int32) (a1 : Nat) (x0 : Int) (x1 : Int) (x2 : Int) (x3 : Int) (x4 : Int) (x5 : Int) (r1 : Int32) (x6 : Int) (x7 : Int) (x8 : Int) (y0 : Int64) (x9 : Int) (a2 : Nat) (a3 : Nat) (a4 : Nat) (a5 : Nat) (a6 : Nat) (a7 : Nat) (a8 : Nat) (a9 : Nat) (a10 : Nat) (a11 : Nat) (x10 : Int) (a12 : Nat) (a13 : Nat) (a14 : Nat) (a15 : Nat) (x11 : Int) (r2 : Int32) (r3 : Int32) (a16 : Nat) (x12 : Int) (x13 : Int) (a17 : Nat) (a18 : Nat) (x14 : Int) (a19 : Nat) (x15 : Int) (r4 : Int32) (a20 : Nat) (a21 : Nat) (x16 : Int) (r5 : Int32) (a22 : Nat) (x17 : Int) (x18 : Int) (x19 : Int) (x20 : Int) (f0 : Int → Int) (f1 : Int → Int) (x0_a : 0 ≤ x0) (x0_b : x0 ≤ 940) (x1_a : 0 ≤ x1) (x1_b : x1 ≤ 940) (x2_a : 0 ≤ x2) (x2_b : x2 ≤ 940) (x3_a : 0 ≤ x3) (x3_b : x3 ≤ 940) (x4_a : 0 ≤ x4) (x4_b : x4 ≤ 940) (x5_a : 0 ≤ x5) (x5_b : x5 ≤ 4) (x6_a : (-2147483648) ≤ x6) (x6_b : x6 ≤ 2147483647) (x7_a : (-2147483648) ≤ x7) (x7_b : x7 ≤ 2147483647) (x8_a : 0 ≤ x8) (x8_b : x8 ≤ 940) (x9_a : (-2147483648) ≤ x9) (x9_b : x9 ≤ 2147483647) (x10_a : 0 ≤ x10) (x10_b : x10 ≤ 8) (x11_a : 0 ≤ x11) (x11_b : x11 ≤ 9) (x12_a : (-1) ≤ x12) (x12_b : x12 ≤ 9) (x13_a : (-1) ≤ x13) (x13_b : x13 ≤ 8) (x14_a : 0 ≤ x14) (x14_b : x14 ≤ 9) (x15_a : 0 ≤ x15) (x15_b : x15 ≤ 64) (x16_a : 0 ≤ x16) (x16_b : x16 ≤ 40) (x17_a : 0 ≤ x17) (x17_b : x17 ≤ 40) (x18_a : 0 ≤ x18) (x18_b : x18 ≤ 20) (x19_a : 0 ≤ x19) (x19_b : x19 ≤ 8) (x20_a : 0 ≤ x20) (x20_b : x20 ≤ 39) (f0_h : nowI f0) (f1_h : FL f1) : Met l yX12_layAside (Cond.code yX12_layAside cX12_layAside 2 none :: GW) (Rm 0 0 0) (cPre [.ref a0] D T [(a0, .inr (11, [.int r0, .ref a1, .int (iI x0), .int (iI x1), .int (iI x2), .int (iI x3), .int (iI x4), .int (iI x5), .int r1, .int (iI x6), .int (iI x7), .int (iI x8), .long y0, .int (iI x9), .ref a2, .ref a3, .ref a4, .ref a5, .ref a6, .ref a7, .ref a8, .ref a9, .ref a10, .ref a11, .int (iI x10), .ref a12, .ref a13, .ref a14, .ref a15, .int (iI x11), .int r2, .int r3, .ref a16, .int (iI x12), .int (iI x13), .ref a17, .ref a18, .int (iI x14), .ref a19, .int (iI x15), .int r4, .ref a20, .ref a21, .int (iI x16), .int r5, .ref a22, .int (iI x17), .int (iI x18), .int (iI x19), .int (iI x20)])), (a2, .inl (T 0, 329, .inl (cI f0))), (a6, .inl (T 0, 34, .inl (cI f1)))] sz) (qV D [(a0, .inr (11, [.int r0, .ref a1, .int (iI x0), .int (iI x1), .int (iI x2), .int (iI x3), .int (iI x4), .int (iI x5), .int r1, .int (iI x6), .int (iI x7), .int (iI x8), .long y0, .int (iI x9), .ref a2, .ref a3, .ref a4, .ref a5, .ref a6, .ref a7, .ref a8, .ref a9, .ref a10, .ref a11, .int (iI x10), .ref a12, .ref a13, .ref a14, .ref a15, .int (iI x11), .int r2, .int r3, .ref a16, .int (iI x12), .int (iI x13), .ref a17, .ref a18, .int (iI x14), .ref a19, .int (iI x15), .int r4, .ref a20, .ref a21, .int (iI x16), .int r5, .ref a22, .int (iI x17), .int (iI x18), .int (iI x19), .int (iI x20)])), (a2, .inl (T 0, 329, .inl (cI f0))), (a6, .inl (T 0, 34, .inl (cI f1)))] sz (fun (u : (Int → Int)) => FL u ∧ (soI u 0)) (fun u => [(a0, .inr (11, [.int r0, .ref a1, .int (iI x0), .int (iI x1), .int (iI x2), .int (iI x3), .int (iI x4), .int (iI x5), .int r1, .int (iI x6), .int (iI x7), .int (iI x8), .long y0, .int (iI x9), .ref a2, .ref a3, .ref a4, .ref a5, .ref a6, .ref a7, .ref a8, .ref a9, .ref a10, .ref a11, .int (iI x10), .ref a12, .ref a13, .ref a14, .ref a15, .int (iI x11), .int r2, .int r3, .ref a16, .int (iI x12), .int (iI x13), .ref a17, .ref a18, .int (iI x14), .ref a19, .int (iI x15), .int r4, .ref a20, .ref a21, .int (iI x16), .int r5, .ref a22, .int (iI x17), .int (iI x18), .int (iI x19), .int (iI x20)])), (a2, .inl (T 0, 329, .inl (cI f0))), (a6, .inl (T 0, 34, .inl (cI u)))])) 0 0 (va_A [(a0, .inr (11, [.int r0, .ref a1, .int (iI x0), .int (iI x1), .int (iI x2), .int (iI x3), .int (iI x4), .int (iI x5), .int r1, .int (iI x6), .int (iI x7), .int (iI x8), .long y0, .int (iI x9), .ref a2, .ref a3, .ref a4, .ref a5, .ref a6, .ref a7, .ref a8, .ref a9, .ref a10, .ref a11, .int (iI x10), .ref a12, .ref a13, .ref a14, .ref a15, .int (iI x11), .int r2, .int r3, .ref a16, .int (iI x12), .int (iI x13), .ref a17, .ref a18, .int (iI x14), .ref a19, .int (iI x15), .int r4, .ref a20, .ref a21, .int (iI x16), .int r5, .ref a22, .int (iI x17), .int (iI x18), .int (iI x19), .int (iI x20)])), (a2, .inl (T 0, 329, .inl (cI f0))), (a6, .inl (T 0, 34, .inl (cI f1)))] sz) := by
  refine e_V (by decide) (Nat.le_of_ble_eq_true rfl) ?_
  intro p e s m args below meth c A Q ls M hin w ret hl
  have hx := M.1.1
  have hb := M.1.2.1
  have hl : lv_has ls 2 [(0, .ref a0)] := hl
  refine lv_iconst (v := iI 0) hx hb dX12_layAside_0 (by decide +kernel) ?_
  refine lv_istore_n (lv' := [(1, .int (iI 0)), (0, .ref a0)]) hx hb dX12_layAside_1 rfl hl (by decide) rfl (fun ls hl => ?_)
  have w := WD.eq (ws' := [(a0, .inr (11, [.int r0, .ref a1, .int (iI x0), .int (iI x1), .int (iI x2), .int (iI x3), .int (iI x4), .int (iI x5), .int r1, .int (iI x6), .int (iI x7), .int (iI x8), .long y0, .int (iI x9), .ref a2, .ref a3, .ref a4, .ref a5, .ref a6, .ref a7, .ref a8, .ref a9, .ref a10, .ref a11, .int (iI x10), .ref a12, .ref a13, .ref a14, .ref a15, .int (iI x11), .int r2, .int r3, .ref a16, .int (iI x12), .int (iI x13), .ref a17, .ref a18, .int (iI x14), .ref a19, .int (iI x15), .int r4, .ref a20, .ref a21, .int (iI x16), .int r5, .ref a22, .int (iI x17), .int (iI x18), .int (iI x19), .int (iI x20)])), (a2, .inl (T 0, 329, .inl (cI f0))), (a6, .inl (T 0, 34, .inl (cI (cpz f0 f1 53 0 0))))]) (by rw [cpz_0 (c := f0) (d := f1) (sp := 53) (dp := 0) (n := 0) (by decide)]) w
  have loop1 : ∀ (k1 : Nat) (z1 : Int) (H : Heap) (locs : List Loc) (ls : Array Slot), 0 ≤ z1 → z1 ≤ 34 → ((34 - z1) : Int).toNat < k1 → WD D A s.heap [(a0, .inr (11, [.int r0, .ref a1, .int (iI x0), .int (iI x1), .int (iI x2), .int (iI x3), .int (iI x4), .int (iI x5), .int r1, .int (iI x6), .int (iI x7), .int (iI x8), .long y0, .int (iI x9), .ref a2, .ref a3, .ref a4, .ref a5, .ref a6, .ref a7, .ref a8, .ref a9, .ref a10, .ref a11, .int (iI x10), .ref a12, .ref a13, .ref a14, .ref a15, .int (iI x11), .int r2, .int r3, .ref a16, .int (iI x12), .int (iI x13), .ref a17, .ref a18, .int (iI x14), .ref a19, .int (iI x15), .int r4, .ref a20, .ref a21, .int (iI x16), .int r5, .ref a22, .int (iI x17), .int (iI x18), .int (iI x19), .int (iI x20)])), (a2, .inl (T 0, 329, .inl (cI f0))), (a6, .inl (T 0, 34, .inl (cI (cpz f0 f1 53 0 z1))))] H locs → lv_has ls 2 [(1, .int (iI z1)), (0, .ref a0)] → W p l e (Rm 0 0 0) s m args below meth c H locs 0 0 Q (F0 m 2 ls []) := by
    intro k1
    induction k1 with
    | zero => intro z1 H locs ls z1_a z1_b hm; exact absurd hm (Nat.not_lt_zero _)
    | succ k1 ih1 =>
      intro z1 H locs ls z1_a z1_b hm1 w hl
      refine lv_iload_n hx hb dX12_layAside_2 rfl (lv_at hl 0 rfl) ?_
      refine lv_bipush (v := iI 34) hx hb dX12_layAside_3 (by decide +kernel) ?_
      refine lv_icmp_ge (tgt := 29) hx hb dX12_layAside_5 (by decide) (fun c_2 => ?_) (fun c_2 => ?_)
      · replace c_2 := (iI_le (by decide) (by decide) (Int.le_trans (by decide) z1_a) (Int.le_trans z1_b (by decide))).mp c_2
        obtain rfl : z1 = 34 := by omega
        exact ret (cpz f0 f1 53 0 34) _ _ _ _ _ [0, 1, 2] dX12_layAside_29 ⟨(FL_cp f0_h.1 f1_h), (show soI (cpz f0 f1 53 0 34) 0 from (so_cp (now_so f0_h)))⟩ w (by decide) rfl
      · replace c_2 : z1 < 34 := Int.not_le.mp (fun h => c_2 ((iI_le (by decide) (by decide) (Int.le_trans (by decide) z1_a) (Int.le_trans z1_b (by decide))).mpr h))
        refine lv_aload_n hx hb dX12_layAside_8 rfl (lv_at hl 1 rfl) ?_
        refine r_get (v := .ref a6) M w 0 18 clX12 rfl (by decide) G1481 rfl rfl dX12_layAside_9 ?_
        refine lv_iload_n hx hb dX12_layAside_12 rfl (lv_at hl 0 rfl) ?_
        refine lv_aload_n hx hb dX12_layAside_13 rfl (lv_at hl 1 rfl) ?_
        refine r_get (v := .ref a2) M w 0 14 clX12 rfl (by decide) G1477 rfl rfl dX12_layAside_14 ?_
        refine lv_bipush (v := iI 53) hx hb dX12_layAside_17 (by decide +kernel) ?_
        refine lv_iload_n hx hb dX12_layAside_19 rfl (lv_at hl 0 rfl) ?_
        refine r_iadd (v := iI (53 + z1)) M (iI_add _ _) dX12_layAside_20 ?_
        refine r_iald (v := iI (f0 (53 + z1))) M w 1 rfl (iI_in (by omega) (by omega) (by decide)) (cI_at (by omega) (by omega)) dX12_layAside_21 ?_
        have hh3 : (-2147483648) ≤ (f0 (53 + z1)) ∧ (f0 (53 + z1)) ≤ 2147483647 := f0_h.1 (53 + z1)
        refine r_iast (ws' := [(a0, .inr (11, [.int r0, .ref a1, .int (iI x0), .int (iI x1), .int (iI x2), .int (iI x3), .int (iI x4), .int (iI x5), .int r1, .int (iI x6), .int (iI x7), .int (iI x8), .long y0, .int (iI x9), .ref a2, .ref a3, .ref a4, .ref a5, .ref a6, .ref a7, .ref a8, .ref a9, .ref a10, .ref a11, .int (iI x10), .ref a12, .ref a13, .ref a14, .ref a15, .int (iI x11), .int r2, .int r3, .ref a16, .int (iI x12), .int (iI x13), .ref a17, .ref a18, .int (iI x14), .ref a19, .int (iI x15), .int r4, .ref a20, .ref a21, .int (iI x16), .int r5, .ref a22, .int (iI x17), .int (iI x18), .int (iI x19), .int (iI x20)])), (a2, .inl (T 0, 329, .inl (cI f0))), (a6, .inl (T 0, 34, .inl (cI (upz (cpz f0 f1 53 0 z1) z1 (f0 (53 + z1))))))]) M w 2 rfl (iI_in (by omega) (by omega) (by decide)) (by rw [cI_up (by omega) (by omega)]; rfl) dX12_layAside_22 (fun H locs w => ?_)
        refine lv_iinc (v := iI (z1 + 1)) (lv' := [(1, .int (iI (z1 + 1))), (0, .ref a0)]) hx hb dX12_layAside_23 hl (k := 0) rfl (ii_inc (by decide +kernel)) (by decide) rfl (fun ls hl => ?_)
        refine lv_goto (tgt := 2) hx hb dX12_layAside_26 (by decide) ?_
        have w := WD.eq (ws' := [(a0, .inr (11, [.int r0, .ref a1, .int (iI x0), .int (iI x1), .int (iI x2), .int (iI x3), .int (iI x4), .int (iI x5), .int r1, .int (iI x6), .int (iI x7), .int (iI x8), .long y0, .int (iI x9), .ref a2, .ref a3, .ref a4, .ref a5, .ref a6, .ref a7, .ref a8, .ref a9, .ref a10, .ref a11, .int (iI x10), .ref a12, .ref a13, .ref a14, .ref a15, .int (iI x11), .int r2, .int r3, .ref a16, .int (iI x12), .int (iI x13), .ref a17, .ref a18, .int (iI x14), .ref a19, .int (iI x15), .int r4, .ref a20, .ref a21, .int (iI x16), .int r5, .ref a22, .int (iI x17), .int (iI x18), .int (iI x19), .int (iI x20)])), (a2, .inl (T 0, 329, .inl (cI f0))), (a6, .inl (T 0, 34, .inl (cI (cpz f0 f1 53 0 (z1 + 1)))))]) (by rw [← cpz_t (c := f0) (d := f1) (sp := 53) (dp := 0) (k := z1) (k' := (z1 + 1)) (i := z1) (x := (f0 (53 + z1))) (by omega) (by omega) (by omega) (congrArg f0 (by omega))]) w
        exact ih1 (z1 + 1) _ _ _ (by omega) (by omega) (by omega) w (lv_sub hl [0, 1] rfl)
  exact loop1 ((34 : Int).toNat + 1) 0 _ _ _ (by decide) (by decide) (Nat.lt_succ_self _) w (lv_sub hl [0, 1] rfl)
set_option maxRecDepth 100000 in
set_option maxHeartbeats 4000000 in
theorem c118_X12_takeBack (l : Launch) (D : va_G) (T : Nat → ClassId) (sz : Nat) (a0 : Nat) (r0 : Int32) (a1 : Nat) (x0 : Int) (x1 : Int) (x2 : Int) (x3 : Int) (x4 : Int) (x5 : Int) (r1 : Int32) (x6 : Int) (x7 : Int) (x8 : Int) (y0 : Int64) (x9 : Int) (a2 : Nat) (a3 : Nat) (a4 : Nat) (a5 : Nat) (a6 : Nat) (a7 : Nat) (a8 : Nat) (a9 : Nat) (a10 : Nat) (a11 : Nat) (x10 : Int) (a12 : Nat) (a13 : Nat) (a14 : Nat) (a15 : Nat) (x11 : Int) (r2 : Int32) (r3 : Int32) (a16 : Nat) (x12 : Int) (x13 : Int) (a17 : Nat) (a18 : Nat) (x14 : Int) (a19 : Nat) (x15 : Int) (r4 : Int32) (a20 : Nat) (a21 : Nat) (x16 : Int) (r5 : Int32) (a22 : Nat) (x17 : Int) (x18 : Int) (x19 : Int) (x20 : Int) (f0 : Int → Int) (f1 : Int → Int) (x0_a : 0 ≤ x0) (x0_b : x0 ≤ 940) (x1_a : 0 ≤ x1) (x1_b : x1 ≤ 940) (x2_a : 0 ≤ x2) (x2_b : x2 ≤ 940) (x3_a : 0 ≤ x3) (x3_b : x3 ≤ 940) (x4_a : 0 ≤ x4) (x4_b : x4 ≤ 940) (x5_a : 0 ≤ x5) (x5_b : x5 ≤ 4) (x6_a : (-2147483648) ≤ x6) (x6_b : x6 ≤ 2147483647) (x7_a : (-2147483648) ≤ x7) (x7_b : x7 ≤ 2147483647) (x8_a : 0 ≤ x8) (x8_b : x8 ≤ 940) (x9_a : (-2147483648) ≤ x9) (x9_b : x9 ≤ 2147483647) (x10_a : 0 ≤ x10) (x10_b : x10 ≤ 8) (x11_a : 0 ≤ x11) (x11_b : x11 ≤ 9) (x12_a : (-1) ≤ x12) (x12_b : x12 ≤ 9) (x13_a : (-1) ≤ x13) (x13_b : x13 ≤ 8) (x14_a : 0 ≤ x14) (x14_b : x14 ≤ 9) (x15_a : 0 ≤ x15) (x15_b : x15 ≤ 64) (x16_a : 0 ≤ x16) (x16_b : x16 ≤ 40) (x17_a : 0 ≤ x17) (x17_b : x17 ≤ 40) (x18_a : 0 ≤ x18) (x18_b : x18 ≤ 20) (x19_a : 0 ≤ x19) (x19_b : x19 ≤ 8) (x20_a : 0 ≤ x20) (x20_b : x20 ≤ 39) (f0_h : nowI f0) (f1_h : FL f1) (pp_a : soI f1 0) : Met l yX12_takeBack (Cond.code yX12_takeBack cX12_takeBack 2 none :: GW) (Rm 0 0 0) (cPre [.ref a0] D T [(a0, .inr (11, [.int r0, .ref a1, .int (iI x0), .int (iI x1), .int (iI x2), .int (iI x3), .int (iI x4), .int (iI x5), .int r1, .int (iI x6), .int (iI x7), .int (iI x8), .long y0, .int (iI x9), .ref a2, .ref a3, .ref a4, .ref a5, .ref a6, .ref a7, .ref a8, .ref a9, .ref a10, .ref a11, .int (iI x10), .ref a12, .ref a13, .ref a14, .ref a15, .int (iI x11), .int r2, .int r3, .ref a16, .int (iI x12), .int (iI x13), .ref a17, .ref a18, .int (iI x14), .ref a19, .int (iI x15), .int r4, .ref a20, .ref a21, .int (iI x16), .int r5, .ref a22, .int (iI x17), .int (iI x18), .int (iI x19), .int (iI x20)])), (a2, .inl (T 0, 329, .inl (cI f0))), (a6, .inl (T 0, 34, .inl (cI f1)))] sz) (qV D [(a0, .inr (11, [.int r0, .ref a1, .int (iI x0), .int (iI x1), .int (iI x2), .int (iI x3), .int (iI x4), .int (iI x5), .int r1, .int (iI x6), .int (iI x7), .int (iI x8), .long y0, .int (iI x9), .ref a2, .ref a3, .ref a4, .ref a5, .ref a6, .ref a7, .ref a8, .ref a9, .ref a10, .ref a11, .int (iI x10), .ref a12, .ref a13, .ref a14, .ref a15, .int (iI x11), .int r2, .int r3, .ref a16, .int (iI x12), .int (iI x13), .ref a17, .ref a18, .int (iI x14), .ref a19, .int (iI x15), .int r4, .ref a20, .ref a21, .int (iI x16), .int r5, .ref a22, .int (iI x17), .int (iI x18), .int (iI x19), .int (iI x20)])), (a2, .inl (T 0, 329, .inl (cI f0))), (a6, .inl (T 0, 34, .inl (cI f1)))] sz (fun (u : (Int → Int)) => nowI u ∧ (kp 53 f0 u)) (fun u => [(a0, .inr (11, [.int r0, .ref a1, .int (iI x0), .int (iI x1), .int (iI x2), .int (iI x3), .int (iI x4), .int (iI x5), .int r1, .int (iI x6), .int (iI x7), .int (iI x8), .long y0, .int (iI x9), .ref a2, .ref a3, .ref a4, .ref a5, .ref a6, .ref a7, .ref a8, .ref a9, .ref a10, .ref a11, .int (iI x10), .ref a12, .ref a13, .ref a14, .ref a15, .int (iI x11), .int r2, .int r3, .ref a16, .int (iI x12), .int (iI x13), .ref a17, .ref a18, .int (iI x14), .ref a19, .int (iI x15), .int r4, .ref a20, .ref a21, .int (iI x16), .int r5, .ref a22, .int (iI x17), .int (iI x18), .int (iI x19), .int (iI x20)])), (a2, .inl (T 0, 329, .inl (cI u))), (a6, .inl (T 0, 34, .inl (cI f1)))])) 0 0 (va_A [(a0, .inr (11, [.int r0, .ref a1, .int (iI x0), .int (iI x1), .int (iI x2), .int (iI x3), .int (iI x4), .int (iI x5), .int r1, .int (iI x6), .int (iI x7), .int (iI x8), .long y0, .int (iI x9), .ref a2, .ref a3, .ref a4, .ref a5, .ref a6, .ref a7, .ref a8, .ref a9, .ref a10, .ref a11, .int (iI x10), .ref a12, .ref a13, .ref a14, .ref a15, .int (iI x11), .int r2, .int r3, .ref a16, .int (iI x12), .int (iI x13), .ref a17, .ref a18, .int (iI x14), .ref a19, .int (iI x15), .int r4, .ref a20, .ref a21, .int (iI x16), .int r5, .ref a22, .int (iI x17), .int (iI x18), .int (iI x19), .int (iI x20)])), (a2, .inl (T 0, 329, .inl (cI f0))), (a6, .inl (T 0, 34, .inl (cI f1)))] sz) := by
  refine e_V (by decide) (Nat.le_of_ble_eq_true rfl) ?_
  intro p e s m args below meth c A Q ls M hin w ret hl
  have hx := M.1.1
  have hb := M.1.2.1
  have hl : lv_has ls 2 [(0, .ref a0)] := hl
  refine lv_iconst (v := iI 0) hx hb dX12_takeBack_0 (by decide +kernel) ?_
  refine lv_istore_n (lv' := [(1, .int (iI 0)), (0, .ref a0)]) hx hb dX12_takeBack_1 rfl hl (by decide) rfl (fun ls hl => ?_)
  have w := WD.eq (ws' := [(a0, .inr (11, [.int r0, .ref a1, .int (iI x0), .int (iI x1), .int (iI x2), .int (iI x3), .int (iI x4), .int (iI x5), .int r1, .int (iI x6), .int (iI x7), .int (iI x8), .long y0, .int (iI x9), .ref a2, .ref a3, .ref a4, .ref a5, .ref a6, .ref a7, .ref a8, .ref a9, .ref a10, .ref a11, .int (iI x10), .ref a12, .ref a13, .ref a14, .ref a15, .int (iI x11), .int r2, .int r3, .ref a16, .int (iI x12), .int (iI x13), .ref a17, .ref a18, .int (iI x14), .ref a19, .int (iI x15), .int r4, .ref a20, .ref a21, .int (iI x16), .int r5, .ref a22, .int (iI x17), .int (iI x18), .int (iI x19), .int (iI x20)])), (a2, .inl (T 0, 329, .inl (cI (cpz f1 f0 0 53 0)))), (a6, .inl (T 0, 34, .inl (cI f1)))]) (by rw [cpz_0 (c := f1) (d := f0) (sp := 0) (dp := 53) (n := 0) (by decide)]) w
  have loop1 : ∀ (k1 : Nat) (z1 : Int) (H : Heap) (locs : List Loc) (ls : Array Slot), 0 ≤ z1 → z1 ≤ 34 → ((34 - z1) : Int).toNat < k1 → WD D A s.heap [(a0, .inr (11, [.int r0, .ref a1, .int (iI x0), .int (iI x1), .int (iI x2), .int (iI x3), .int (iI x4), .int (iI x5), .int r1, .int (iI x6), .int (iI x7), .int (iI x8), .long y0, .int (iI x9), .ref a2, .ref a3, .ref a4, .ref a5, .ref a6, .ref a7, .ref a8, .ref a9, .ref a10, .ref a11, .int (iI x10), .ref a12, .ref a13, .ref a14, .ref a15, .int (iI x11), .int r2, .int r3, .ref a16, .int (iI x12), .int (iI x13), .ref a17, .ref a18, .int (iI x14), .ref a19, .int (iI x15), .int r4, .ref a20, .ref a21, .int (iI x16), .int r5, .ref a22, .int (iI x17), .int (iI x18), .int (iI x19), .int (iI x20)])), (a2, .inl (T 0, 329, .inl (cI (cpz f1 f0 0 53 z1)))), (a6, .inl (T 0, 34, .inl (cI f1)))] H locs → lv_has ls 2 [(1, .int (iI z1)), (0, .ref a0)] → W p l e (Rm 0 0 0) s m args below meth c H locs 0 0 Q (F0 m 2 ls []) := by
    intro k1
    induction k1 with
    | zero => intro z1 H locs ls z1_a z1_b hm; exact absurd hm (Nat.not_lt_zero _)
    | succ k1 ih1 =>
      intro z1 H locs ls z1_a z1_b hm1 w hl
      refine lv_iload_n hx hb dX12_takeBack_2 rfl (lv_at hl 0 rfl) ?_
      refine lv_bipush (v := iI 34) hx hb dX12_takeBack_3 (by decide +kernel) ?_
      refine lv_icmp_ge (tgt := 29) hx hb dX12_takeBack_5 (by decide) (fun c_2 => ?_) (fun c_2 => ?_)
      · replace c_2 := (iI_le (by decide) (by decide) (Int.le_trans (by decide) z1_a) (Int.le_trans z1_b (by decide))).mp c_2
        obtain rfl : z1 = 34 := by omega
        exact ret (cpz f1 f0 0 53 34) _ _ _ _ _ [0, 1, 2] dX12_takeBack_29 ⟨(now_cpu (n := 0) f0_h pp_a f1_h (by omega)), (show kp 53 f0 (cpz f1 f0 0 53 34) from (kp_cp kp_rfl (by omega)))⟩ w (by decide) rfl
      · replace c_2 : z1 < 34 := Int.not_le.mp (fun h => c_2 ((iI_le (by decide) (by decide) (Int.le_trans (by decide) z1_a) (Int.le_trans z1_b (by decide))).mpr h))
        refine lv_aload_n hx hb dX12_takeBack_8 rfl (lv_at hl 1 rfl) ?_
        refine r_get (v := .ref a2) M w 0 14 clX12 rfl (by decide) G1477 rfl rfl dX12_takeBack_9 ?_
        refine lv_bipush (v := iI 53) hx hb dX12_takeBack_12 (by decide +kernel) ?_
        refine lv_iload_n hx hb dX12_takeBack_14 rfl (lv_at hl 0 rfl) ?_
        refine r_iadd (v := iI (53 + z1)) M (iI_add _ _) dX12_takeBack_15 ?_
        refine lv_aload_n hx hb dX12_takeBack_16 rfl (lv_at hl 1 rfl) ?_
        refine r_get (v := .ref a6) M w 0 18 clX12 rfl (by decide) G1481 rfl rfl dX12_takeBack_17 ?_
        refine lv_iload_n hx hb dX12_takeBack_20 rfl (lv_at hl 0 rfl) ?_
        refine r_iald (v := iI (f1 z1)) M w 2 rfl (iI_in (by omega) (by omega) (by decide)) (cI_at (by omega) (by omega)) dX12_takeBack_21 ?_
        have hh3 : (-2147483648) ≤ (f1 z1) ∧ (f1 z1) ≤ 2147483647 := f1_h z1
        refine r_iast (ws' := [(a0, .inr (11, [.int r0, .ref a1, .int (iI x0), .int (iI x1), .int (iI x2), .int (iI x3), .int (iI x4), .int (iI x5), .int r1, .int (iI x6), .int (iI x7), .int (iI x8), .long y0, .int (iI x9), .ref a2, .ref a3, .ref a4, .ref a5, .ref a6, .ref a7, .ref a8, .ref a9, .ref a10, .ref a11, .int (iI x10), .ref a12, .ref a13, .ref a14, .ref a15, .int (iI x11), .int r2, .int r3, .ref a16, .int (iI x12), .int (iI x13), .ref a17, .ref a18, .int (iI x14), .ref a19, .int (iI x15), .int r4, .ref a20, .ref a21, .int (iI x16), .int r5, .ref a22, .int (iI x17), .int (iI x18), .int (iI x19), .int (iI x20)])), (a2, .inl (T 0, 329, .inl (cI (upz (cpz f1 f0 0 53 z1) (53 + z1) (f1 z1))))), (a6, .inl (T 0, 34, .inl (cI f1)))]) M w 1 rfl (iI_in (by omega) (by omega) (by decide)) (by rw [cI_up (by omega) (by omega)]; rfl) dX12_takeBack_22 (fun H locs w => ?_)
        refine lv_iinc (v := iI (z1 + 1)) (lv' := [(1, .int (iI (z1 + 1))), (0, .ref a0)]) hx hb dX12_takeBack_23 hl (k := 0) rfl (ii_inc (by decide +kernel)) (by decide) rfl (fun ls hl => ?_)
        refine lv_goto (tgt := 2) hx hb dX12_takeBack_26 (by decide) ?_
        have w := WD.eq (ws' := [(a0, .inr (11, [.int r0, .ref a1, .int (iI x0), .int (iI x1), .int (iI x2), .int (iI x3), .int (iI x4), .int (iI x5), .int r1, .int (iI x6), .int (iI x7), .int (iI x8), .long y0, .int (iI x9), .ref a2, .ref a3, .ref a4, .ref a5, .ref a6, .ref a7, .ref a8, .ref a9, .ref a10, .ref a11, .int (iI x10), .ref a12, .ref a13, .ref a14, .ref a15, .int (iI x11), .int r2, .int r3, .ref a16, .int (iI x12), .int (iI x13), .ref a17, .ref a18, .int (iI x14), .ref a19, .int (iI x15), .int r4, .ref a20, .ref a21, .int (iI x16), .int r5, .ref a22, .int (iI x17), .int (iI x18), .int (iI x19), .int (iI x20)])), (a2, .inl (T 0, 329, .inl (cI (cpz f1 f0 0 53 (z1 + 1))))), (a6, .inl (T 0, 34, .inl (cI f1)))]) (by rw [← cpz_t (c := f1) (d := f0) (sp := 0) (dp := 53) (k := z1) (k' := (z1 + 1)) (i := (53 + z1)) (x := (f1 z1)) (by omega) (by omega) (by omega) (congrArg f1 (by omega))]) w
        exact ih1 (z1 + 1) _ _ _ (by omega) (by omega) (by omega) w (lv_sub hl [0, 1] rfl)
  exact loop1 ((34 : Int).toNat + 1) 0 _ _ _ (by decide) (by decide) (Nat.lt_succ_self _) w (lv_sub hl [0, 1] rfl)
set_option maxRecDepth 100000 in
set_option maxHeartbeats 4000000 in
theorem c119_X12_odds (l : Launch) (D : va_G) (T : Nat → ClassId) (sz : Nat) (a0 : Nat) (x0 : Int) (x1 : Int) (x2 : Int) (r0 : Int32) (a1 : Nat) (x3 : Int) (x4 : Int) (x5 : Int) (x6 : Int) (x7 : Int) (x8 : Int) (r1 : Int32) (x9 : Int) (x10 : Int) (x11 : Int) (y0 : Int64) (x12 : Int) (a2 : Nat) (a3 : Nat) (a4 : Nat) (a5 : Nat) (a6 : Nat) (a7 : Nat) (a8 : Nat) (a9 : Nat) (a10 : Nat) (a11 : Nat) (x13 : Int) (a12 : Nat) (a13 : Nat) (a14 : Nat) (a15 : Nat) (x14 : Int) (r2 : Int32) (r3 : Int32) (a16 : Nat) (x15 : Int) (x16 : Int) (a17 : Nat) (a18 : Nat) (x17 : Int) (a19 : Nat) (x18 : Int) (r4 : Int32) (a20 : Nat) (a21 : Nat) (x19 : Int) (r5 : Int32) (a22 : Nat) (x20 : Int) (x21 : Int) (x22 : Int) (x23 : Int) (f0 : Int → Int) (f1 : Int → Int) (x0_a : (-2147483648) ≤ x0) (x0_b : x0 ≤ 2147483647) (x1_a : (-2147483648) ≤ x1) (x1_b : x1 ≤ 2147483647) (x2_a : (-2147483648) ≤ x2) (x2_b : x2 ≤ 2147483647) (x3_a : 0 ≤ x3) (x3_b : x3 ≤ 940) (x4_a : 0 ≤ x4) (x4_b : x4 ≤ 940) (x5_a : 0 ≤ x5) (x5_b : x5 ≤ 940) (x6_a : 0 ≤ x6) (x6_b : x6 ≤ 940) (x7_a : 0 ≤ x7) (x7_b : x7 ≤ 940) (x8_a : 0 ≤ x8) (x8_b : x8 ≤ 4) (x9_a : (-2147483648) ≤ x9) (x9_b : x9 ≤ 2147483647) (x10_a : (-2147483648) ≤ x10) (x10_b : x10 ≤ 2147483647) (x11_a : 0 ≤ x11) (x11_b : x11 ≤ 940) (x12_a : (-2147483648) ≤ x12) (x12_b : x12 ≤ 2147483647) (x13_a : 0 ≤ x13) (x13_b : x13 ≤ 8) (x14_a : 0 ≤ x14) (x14_b : x14 ≤ 9) (x15_a : (-1) ≤ x15) (x15_b : x15 ≤ 9) (x16_a : (-1) ≤ x16) (x16_b : x16 ≤ 8) (x17_a : 0 ≤ x17) (x17_b : x17 ≤ 9) (x18_a : 0 ≤ x18) (x18_b : x18 ≤ 64) (x19_a : 0 ≤ x19) (x19_b : x19 ≤ 40) (x20_a : 0 ≤ x20) (x20_b : x20 ≤ 40) (x21_a : 0 ≤ x21) (x21_b : x21 ≤ 20) (x22_a : 0 ≤ x22) (x22_b : x22 ≤ 8) (x23_a : 0 ≤ x23) (x23_b : x23 ≤ 39) (f0_h : nowI f0) (f1_h : FL f1) : Met l yX12_odds (Cond.code yX12_odds cX12_odds 6 (some .int) :: GW) (Rm 5 0 0) (cPre [.ref a0, .int (iI x0), .int (iI x1), .int (iI x2)] D T [(a0, .inr (11, [.int r0, .ref a1, .int (iI x3), .int (iI x4), .int (iI x5), .int (iI x6), .int (iI x7), .int (iI x8), .int r1, .int (iI x9), .int (iI x10), .int (iI x11), .long y0, .int (iI x12), .ref a2, .ref a3, .ref a4, .ref a5, .ref a6, .ref a7, .ref a8, .ref a9, .ref a10, .ref a11, .int (iI x13), .ref a12, .ref a13, .ref a14, .ref a15, .int (iI x14), .int r2, .int r3, .ref a16, .int (iI x15), .int (iI x16), .ref a17, .ref a18, .int (iI x17), .ref a19, .int (iI x18), .int r4, .ref a20, .ref a21, .int (iI x19), .int r5, .ref a22, .int (iI x20), .int (iI x21), .int (iI x22), .int (iI x23)])), (a2, .inl (T 0, 329, .inl (cI f0))), (a6, .inl (T 0, 34, .inl (cI f1)))] sz) (qI D [(a0, .inr (11, [.int r0, .ref a1, .int (iI x3), .int (iI x4), .int (iI x5), .int (iI x6), .int (iI x7), .int (iI x8), .int r1, .int (iI x9), .int (iI x10), .int (iI x11), .long y0, .int (iI x12), .ref a2, .ref a3, .ref a4, .ref a5, .ref a6, .ref a7, .ref a8, .ref a9, .ref a10, .ref a11, .int (iI x13), .ref a12, .ref a13, .ref a14, .ref a15, .int (iI x14), .int r2, .int r3, .ref a16, .int (iI x15), .int (iI x16), .ref a17, .ref a18, .int (iI x17), .ref a19, .int (iI x18), .int r4, .ref a20, .ref a21, .int (iI x19), .int r5, .ref a22, .int (iI x20), .int (iI x21), .int (iI x22), .int (iI x23)])), (a2, .inl (T 0, 329, .inl (cI f0))), (a6, .inl (T 0, 34, .inl (cI f1)))] sz (fun (v : Int32) (u : Int × Int32 × Int32 × (Int → Int) × (Int → Int)) => iI u.1 = v ∧ (-2147483648) ≤ u.1 ∧ u.1 ≤ 2147483647 ∧ nowI u.2.2.2.1 ∧ FL u.2.2.2.2 ∧ (kp 53 f0 u.2.2.2.1)) (fun u => [(a0, .inr (11, [.int u.2.1, .ref a1, .int (iI x3), .int (iI x4), .int (iI x5), .int (iI x6), .int (iI x7), .int (iI x8), .int r1, .int (iI x9), .int (iI x10), .int (iI x11), .long y0, .int (iI x12), .ref a2, .ref a3, .ref a4, .ref a5, .ref a6, .ref a7, .ref a8, .ref a9, .ref a10, .ref a11, .int (iI x13), .ref a12, .ref a13, .ref a14, .ref a15, .int (iI x14), .int r2, .int r3, .ref a16, .int (iI x15), .int (iI x16), .ref a17, .ref a18, .int (iI x17), .ref a19, .int (iI x18), .int u.2.2.1, .ref a20, .ref a21, .int (iI x19), .int r5, .ref a22, .int (iI x20), .int (iI x21), .int (iI x22), .int (iI x23)])), (a2, .inl (T 0, 329, .inl (cI u.2.2.2.1))), (a6, .inl (T 0, 34, .inl (cI u.2.2.2.2)))])) 0 0 (va_A [(a0, .inr (11, [.int r0, .ref a1, .int (iI x3), .int (iI x4), .int (iI x5), .int (iI x6), .int (iI x7), .int (iI x8), .int r1, .int (iI x9), .int (iI x10), .int (iI x11), .long y0, .int (iI x12), .ref a2, .ref a3, .ref a4, .ref a5, .ref a6, .ref a7, .ref a8, .ref a9, .ref a10, .ref a11, .int (iI x13), .ref a12, .ref a13, .ref a14, .ref a15, .int (iI x14), .int r2, .int r3, .ref a16, .int (iI x15), .int (iI x16), .ref a17, .ref a18, .int (iI x17), .ref a19, .int (iI x18), .int r4, .ref a20, .ref a21, .int (iI x19), .int r5, .ref a22, .int (iI x20), .int (iI x21), .int (iI x22), .int (iI x23)])), (a2, .inl (T 0, 329, .inl (cI f0))), (a6, .inl (T 0, 34, .inl (cI f1)))] sz) := by
  refine e_I (by decide) (Nat.le_of_ble_eq_true rfl) ?_
  intro p e s m args below meth c A Q ls M hin w ret hl
  have hx := M.1.1
  have hb := M.1.2.1
  have hl : lv_has ls 6 [(0, .ref a0), (1, .int (iI x0)), (2, .int (iI x1)), (3, .int (iI x2))] := hl
  refine lv_aload_n hx hb dX12_odds_0 rfl (lv_at hl 0 rfl) ?_
  refine lv_iconst (v := iI 0) hx hb dX12_odds_1 (by decide +kernel) ?_
  refine r_put (ws' := [(a0, .inr (11, [.int (iI 0), .ref a1, .int (iI x3), .int (iI x4), .int (iI x5), .int (iI x6), .int (iI x7), .int (iI x8), .int r1, .int (iI x9), .int (iI x10), .int (iI x11), .long y0, .int (iI x12), .ref a2, .ref a3, .ref a4, .ref a5, .ref a6, .ref a7, .ref a8, .ref a9, .ref a10, .ref a11, .int (iI x13), .ref a12, .ref a13, .ref a14, .ref a15, .int (iI x14), .int r2, .int r3, .ref a16, .int (iI x15), .int (iI x16), .ref a17, .ref a18, .int (iI x17), .ref a19, .int (iI x18), .int r4, .ref a20, .ref a21, .int (iI x19), .int r5, .ref a22, .int (iI x20), .int (iI x21), .int (iI x22), .int (iI x23)])), (a2, .inl (T 0, 329, .inl (cI f0))), (a6, .inl (T 0, 34, .inl (cI f1)))]) M w 0 0 clX12 rfl (by decide) G1463 rfl rfl rfl rfl (Nat.le_of_ble_eq_true rfl) rfl dX12_odds_2 (fun H locs w => ?_)
  refine lv_aload_n hx hb dX12_odds_5 rfl (lv_at hl 0 rfl) ?_
  refine lv_iload_n hx hb dX12_odds_6 rfl (lv_at hl 1 rfl) ?_
  refine k_I (ce := 0) (sl := 0) (rest := []) (wr := [(a6, .inl (T 0, 34, .inl (cI f1)))]) (r_V (f := 1) [0, 1] M w V_HookedCityModel_240 G1736 G68 (c68_X12_isPerson l D T _ a0 x0 (iI 0) a1 x3 x4 x5 x6 x7 x8 r1 x9 x10 x11 y0 x12 a2 a3 a4 a5 a6 a7 a8 a9 a10 a11 x13 a12 a13 a14 a15 x14 r2 r3 a16 x15 x16 a17 a18 x17 a19 x18 r4 a20 a21 x19 r5 a22 x20 x21 x22 x23 f0 x0_a x0_b x3_a x3_b x4_a x4_b x5_a x5_b x6_a x6_b x7_a x7_b x8_a x8_b x9_a x9_b x10_a x10_b x11_a x11_b x12_a x12_b x13_a x13_b x14_a x14_b x15_a x15_b x16_a x16_b x17_a x17_b x18_a x18_b x19_a x19_b x20_a x20_b x21_a x21_b x22_a x22_b x23_a x23_b f0_h) 0 clX12 rfl rfl (by decide) rfl hl.1 rfl (Nat.le_of_ble_eq_true rfl) dX12_odds_7 (by decide) (by decide) (by decide) (by decide)) w [0, 1] [2] rfl rfl (by decide) (by decide) rfl rfl (fun v z1 H locs hp w => ?_)
  have hv : iI z1 = v := hp.1
  subst hv
  have z1_a : 0 ≤ z1 := hp.2.1
  have z1_b : z1 ≤ 1 := hp.2.2.1
  have ee2 : 0 ≤ ((x0 + 4294967296) - (z1 * 4294967296)) := hp.2.2.2.1
  have ee3 : 0 ≤ (((8 - x0) + 4294967296) - (z1 * 4294967296)) := hp.2.2.2.2.1
  have pq4 : ipQ z1 x0 (f0 0) := hp.2.2.2.2.2
  have w : WD D A s.heap [(a6, .inl (T 0, 34, .inl (cI f1))), (a0, .inr (11, [.int (iI 0), .ref a1, .int (iI x3), .int (iI x4), .int (iI x5), .int (iI x6), .int (iI x7), .int (iI x8), .int r1, .int (iI x9), .int (iI x10), .int (iI x11), .long y0, .int (iI x12), .ref a2, .ref a3, .ref a4, .ref a5, .ref a6, .ref a7, .ref a8, .ref a9, .ref a10, .ref a11, .int (iI x13), .ref a12, .ref a13, .ref a14, .ref a15, .int (iI x14), .int r2, .int r3, .ref a16, .int (iI x15), .int (iI x16), .ref a17, .ref a18, .int (iI x17), .ref a19, .int (iI x18), .int r4, .ref a20, .ref a21, .int (iI x19), .int r5, .ref a22, .int (iI x20), .int (iI x21), .int (iI x22), .int (iI x23)])), (a2, .inl (T 0, 329, .inl (cI f0)))] H locs := w
  refine lv_if_eq (tgt := 32) hx hb dX12_odds_10 (by decide) (fun c_5 => ?_) (fun c_5 => ?_)
  · replace c_5 := (iz_eq (Int.le_trans (by decide) z1_a) (Int.le_trans z1_b (by decide))).mp c_5
    refine lv_iconst (v := iI (-1)) hx hb dX12_odds_32 (by decide +kernel) ?_
    exact ret _ ((-1), (iI 0), r4, f0, f1) _ _ _ _ _ [1, 2, 0] dX12_odds_33 ⟨rfl, (show (-2147483648) ≤ (-1) from by decide), (show ((-1) : Int) ≤ 2147483647 from by decide), f0_h, f1_h, (show kp 53 f0 f0 from kp_rfl)⟩ w (by decide) rfl
  · replace c_5 : ¬ z1 = 0 := fun h => c_5 ((iz_eq (Int.le_trans (by decide) z1_a) (Int.le_trans z1_b (by decide))).mpr h)
    refine lv_iload_n hx hb dX12_odds_13 rfl (lv_at hl 2 rfl) ?_
    refine lv_iconst (v := iI 1) hx hb dX12_odds_14 (by decide +kernel) ?_
    refine lv_bipush (v := iI 30) hx hb dX12_odds_15 (by decide +kernel) ?_
    refine k_I (ce := 0) (sl := 0) (rest := []) (wr := [(a6, .inl (T 0, 34, .inl (cI f1))), (a0, .inr (11, [.int (iI 0), .ref a1, .int (iI x3), .int (iI x4), .int (iI x5), .int (iI x6), .int (iI x7), .int (iI x8), .int r1, .int (iI x9), .int (iI x10), .int (iI x11), .long y0, .int (iI x12), .ref a2, .ref a3, .ref a4, .ref a5, .ref a6, .ref a7, .ref a8, .ref a9, .ref a10, .ref a11, .int (iI x13), .ref a12, .ref a13, .ref a14, .ref a15, .int (iI x14), .int r2, .int r3, .ref a16, .int (iI x15), .int (iI x16), .ref a17, .ref a18, .int (iI x17), .ref a19, .int (iI x18), .int r4, .ref a20, .ref a21, .int (iI x19), .int r5, .ref a22, .int (iI x20), .int (iI x21), .int (iI x22), .int (iI x23)])), (a2, .inl (T 0, 329, .inl (cI f0)))]) (r_S (f := 0) [] M w V_HookedCityModel_75 G1693 (c6_X12_isIn l D T _ x1 1 30 x1_a x1_b (by decide) (by decide) (by decide) (by decide)) rfl (by decide) rfl hl.1 rfl (Nat.le_of_ble_eq_true rfl) dX12_odds_17 (by decide) (by decide) (by decide) (by decide)) w [] [0, 1, 2] rfl rfl (by decide) (by decide) rfl rfl (fun v z6 H locs hp w => ?_)
    have hv : iI z6 = v := hp.1
    subst hv
    have z6_a : 0 ≤ z6 := hp.2.1
    have z6_b : z6 ≤ 1 := hp.2.2.1
    have w : WD D A s.heap [(a6, .inl (T 0, 34, .inl (cI f1))), (a0, .inr (11, [.int (iI 0), .ref a1, .int (iI x3), .int (iI x4), .int (iI x5), .int (iI x6), .int (iI x7), .int (iI x8), .int r1, .int (iI x9), .int (iI x10), .int (iI x11), .long y0, .int (iI x12), .ref a2, .ref a3, .ref a4, .ref a5, .ref a6, .ref a7, .ref a8, .ref a9, .ref a10, .ref a11, .int (iI x13), .ref a12, .ref a13, .ref a14, .ref a15, .int (iI x14), .int r2, .int r3, .ref a16, .int (iI x15), .int (iI x16), .ref a17, .ref a18, .int (iI x17), .ref a19, .int (iI x18), .int r4, .ref a20, .ref a21, .int (iI x19), .int r5, .ref a22, .int (iI x20), .int (iI x21), .int (iI x22), .int (iI x23)])), (a2, .inl (T 0, 329, .inl (cI f0)))] H locs := w
    rcases hp.2.2.2 with ⟨c_7, hr⟩ | ⟨c_8, c_9, hr⟩ | ⟨c_10, c_11, hr⟩
    · subst hr
      refine lv_if_eq (tgt := 32) hx hb dX12_odds_20 (by decide) (fun _ => ?_) (fun c => absurd (by decide +kernel) c)
      refine lv_iconst (v := iI (-1)) hx hb dX12_odds_32 (by decide +kernel) ?_
      exact ret _ ((-1), (iI 0), r4, f0, f1) _ _ _ _ _ [1, 2, 0] dX12_odds_33 ⟨rfl, (show (-2147483648) ≤ (-1) from by decide), (show ((-1) : Int) ≤ 2147483647 from by decide), f0_h, f1_h, (show kp 53 f0 f0 from kp_rfl)⟩ w (by decide) rfl
    · subst hr
      refine lv_if_eq (tgt := 32) hx hb dX12_odds_20 (by decide) (fun _ => ?_) (fun c => absurd (by decide +kernel) c)
      refine lv_iconst (v := iI (-1)) hx hb dX12_odds_32 (by decide +kernel) ?_
      exact ret _ ((-1), (iI 0), r4, f0, f1) _ _ _ _ _ [1, 2, 0] dX12_odds_33 ⟨rfl, (show (-2147483648) ≤ (-1) from by decide), (show ((-1) : Int) ≤ 2147483647 from by decide), f0_h, f1_h, (show kp 53 f0 f0 from kp_rfl)⟩ w (by decide) rfl
    · subst hr
      refine lv_if_eq (tgt := 32) hx hb dX12_odds_20 (by decide) (fun c => absurd c (by decide +kernel)) (fun _ => ?_)
      refine lv_aload_n hx hb dX12_odds_23 rfl (lv_at hl 0 rfl) ?_
      refine r_get (v := .ref a2) M w 1 14 clX12 rfl (by decide) G1477 rfl rfl dX12_odds_24 ?_
      refine lv_iconst (v := iI 1) hx hb dX12_odds_27 (by decide +kernel) ?_
      refine r_iald (v := iI (f0 1)) M w 2 rfl (iI_in (by decide) (by decide) (by decide)) (cI_at (by omega) (by omega)) dX12_odds_28 ?_
      have hh12 : (-2147483648) ≤ (f0 1) ∧ (f0 1) ≤ 2147483647 := f0_h.1 1
      have hh13 : 0 ≤ (f0 1) ∧ (f0 1) ≤ 3 := (f0_h.2.1 1).2.1 (by omega)
      refine lv_if_ne (tgt := 34) hx hb dX12_odds_29 (by decide) (fun c_14 => ?_) (fun c_14 => ?_)
      · replace c_14 : ¬ (f0 1) = 0 := fun h => c_14 ((iz_eq (by omega) (by omega)).mpr h)
        refine lv_aload_n hx hb dX12_odds_34 rfl (lv_at hl 0 rfl) ?_
        refine k_V (ce := 0) (sl := 0) (rest := []) (wr := []) (r_V (f := 0) [1, 2, 0] M w V_HookedCityModel_364 G1973 G101 (c117_X12_layAside l D T _ a0 (iI 0) a1 x3 x4 x5 x6 x7 x8 r1 x9 x10 x11 y0 x12 a2 a3 a4 a5 a6 a7 a8 a9 a10 a11 x13 a12 a13 a14 a15 x14 r2 r3 a16 x15 x16 a17 a18 x17 a19 x18 r4 a20 a21 x19 r5 a22 x20 x21 x22 x23 f0 f1 x3_a x3_b x4_a x4_b x5_a x5_b x6_a x6_b x7_a x7_b x8_a x8_b x9_a x9_b x10_a x10_b x11_a x11_b x12_a x12_b x13_a x13_b x14_a x14_b x15_a x15_b x16_a x16_b x17_a x17_b x18_a x18_b x19_a x19_b x20_a x20_b x21_a x21_b x22_a x22_b x23_a x23_b f0_h f1_h) 1 clX12 rfl rfl (by decide) rfl hl.1 rfl (Nat.le_of_ble_eq_true rfl) dX12_odds_35 (by decide) (by decide) (by decide) (by decide)) w [1, 2, 0] [] rfl rfl (by decide) (by decide) rfl rfl (fun ff15 H locs hp w => ?_)
        have ff15_h : FL ff15 := hp.1
        have pq16 : soI ff15 0 := hp.2
        have w : WD D A s.heap [(a0, .inr (11, [.int (iI 0), .ref a1, .int (iI x3), .int (iI x4), .int (iI x5), .int (iI x6), .int (iI x7), .int (iI x8), .int r1, .int (iI x9), .int (iI x10), .int (iI x11), .long y0, .int (iI x12), .ref a2, .ref a3, .ref a4, .ref a5, .ref a6, .ref a7, .ref a8, .ref a9, .ref a10, .ref a11, .int (iI x13), .ref a12, .ref a13, .ref a14, .ref a15, .int (iI x14), .int r2, .int r3, .ref a16, .int (iI x15), .int (iI x16), .ref a17, .ref a18, .int (iI x17), .ref a19, .int (iI x18), .int r4, .ref a20, .ref a21, .int (iI x19), .int r5, .ref a22, .int (iI x20), .int (iI x21), .int (iI x22), .int (iI x23)])), (a2, .inl (T 0, 329, .inl (cI f0))), (a6, .inl (T 0, 34, .inl (cI ff15)))] H locs := w
        refine lv_iconst (v := iI 0) hx hb dX12_odds_38 (by decide +kernel) ?_
        refine lv_istore (lv' := [(4, .int (iI 0)), (0, .ref a0), (1, .int (iI x0)), (2, .int (iI x1)), (3, .int (iI x2))]) hx hb dX12_odds_39 hl (by decide) rfl (fun ls hl => ?_)
        refine lv_iconst (v := iI 0) hx hb dX12_odds_41 (by decide +kernel) ?_
        refine lv_istore (lv' := [(5, .int (iI 0)), (4, .int (iI 0)), (0, .ref a0), (1, .int (iI x0)), (2, .int (iI x1)), (3, .int (iI x2))]) hx hb dX12_odds_42 hl (by decide) rfl (fun ls hl => ?_)
        have loop1 : ∀ (k1 : Nat) (fr17 : Int32) (ff18 : Int → Int) (z19 : Int) (z20 : Int) (H : Heap) (locs : List Loc) (ls : Array Slot), nowI ff18 → 0 ≤ z19 → z19 ≤ 30 → 0 ≤ z20 → z20 ≤ 30 → 0 ≤ (z19 - z20) → soI ff15 0 → kp 53 f0 ff18 → ((30 - z19) : Int).toNat < k1 → WD D A s.heap [(a0, .inr (11, [.int (iI 0), .ref a1, .int (iI x3), .int (iI x4), .int (iI x5), .int (iI x6), .int (iI x7), .int (iI x8), .int r1, .int (iI x9), .int (iI x10), .int (iI x11), .long y0, .int (iI x12), .ref a2, .ref a3, .ref a4, .ref a5, .ref a6, .ref a7, .ref a8, .ref a9, .ref a10, .ref a11, .int (iI x13), .ref a12, .ref a13, .ref a14, .ref a15, .int (iI x14), .int r2, .int r3, .ref a16, .int (iI x15), .int (iI x16), .ref a17, .ref a18, .int (iI x17), .ref a19, .int (iI x18), .int fr17, .ref a20, .ref a21, .int (iI x19), .int r5, .ref a22, .int (iI x20), .int (iI x21), .int (iI x22), .int (iI x23)])), (a2, .inl (T 0, 329, .inl (cI ff18))), (a6, .inl (T 0, 34, .inl (cI ff15)))] H locs → lv_has ls 6 [(5, .int (iI z19)), (4, .int (iI z20)), (0, .ref a0), (1, .int (iI x0)), (2, .int (iI x1)), (3, .int (iI x2))] → W p l e (Rm 5 0 0) s m args below meth c H locs 0 0 Q (F0 m 44 ls []) := by
          intro k1
          induction k1 with
          | zero => intro fr17 ff18 z19 z20 H locs ls ff18_h z19_a z19_b z20_a z20_b q1_0 lq1_a lq1_hd hm; exact absurd hm (Nat.not_lt_zero _)
          | succ k1 ih1 =>
            intro fr17 ff18 z19 z20 H locs ls ff18_h z19_a z19_b z20_a z20_b q1_0 lq1_a lq1_hd hm1 w hl
            refine lv_iload hx hb dX12_odds_44 (lv_at hl 0 rfl) ?_
            refine lv_iload_n hx hb dX12_odds_46 rfl (lv_at hl 4 rfl) ?_
            refine lv_icmp_ge (tgt := 82) hx hb dX12_odds_47 (by decide) (fun c_21 => ?_) (fun c_21 => ?_)
            · replace c_21 := (iI_le (Int.le_trans (by decide) x1_a) (Int.le_trans x1_b (by decide)) (Int.le_trans (by decide) z19_a) (Int.le_trans z19_b (by decide))).mp c_21
              refine lv_iload hx hb dX12_odds_82 (lv_at hl 1 rfl) ?_
              exact ret _ (z20, (iI 0), fr17, ff18, ff15) _ _ _ _ _ [0, 1, 2] dX12_odds_84 ⟨rfl, (show (-2147483648) ≤ z20 from by omega), (show z20 ≤ 2147483647 from by omega), ff18_h, ff15_h, (show kp 53 f0 ff18 from lq1_hd)⟩ w (by decide) rfl
            · replace c_21 : z19 < x1 := Int.not_le.mp (fun h => c_21 ((iI_le (Int.le_trans (by decide) x1_a) (Int.le_trans x1_b (by decide)) (Int.le_trans (by decide) z19_a) (Int.le_trans z19_b (by decide))).mpr h))
              refine lv_aload_n hx hb dX12_odds_50 rfl (lv_at hl 2 rfl) ?_
              refine lv_bipush (v := iI 20) hx hb dX12_odds_51 (by decide +kernel) ?_
              refine lv_iload_n hx hb dX12_odds_53 rfl (lv_at hl 5 rfl) ?_
              refine lv_iload hx hb dX12_odds_54 (lv_at hl 0 rfl) ?_
              refine r_iadd (v := _) M rfl dX12_odds_56 ?_
              refine b_any (fun z22 z22_a z22_b => ?_)
              refine k_I (ce := 0) (sl := 0) (rest := []) (wr := [(a6, .inl (T 0, 34, .inl (cI ff15)))]) (r_V (f := 4) [0, 1] M w V_HookedCityModel_361 G1956 G98 (c100_X12_drawDays l D T _ a0 20 z22 (iI 0) a1 x3 x4 x5 x6 x7 x8 r1 x9 x10 x11 y0 x12 a2 a3 a4 a5 a6 a7 a8 a9 a10 a11 x13 a12 a13 a14 a15 x14 r2 r3 a16 x15 x16 a17 a18 x17 a19 x18 fr17 a20 a21 x19 r5 a22 x20 x21 x22 x23 ff18 (by decide) (by decide) z22_a z22_b x3_a x3_b x4_a x4_b x5_a x5_b x6_a x6_b x7_a x7_b x8_a x8_b x9_a x9_b x10_a x10_b x11_a x11_b x12_a x12_b x13_a x13_b x14_a x14_b x15_a x15_b x16_a x16_b x17_a x17_b x18_a x18_b x19_a x19_b x20_a x20_b x21_a x21_b x22_a x22_b x23_a x23_b ff18_h) 0 clX12 rfl rfl (by decide) rfl hl.1 rfl (Nat.le_of_ble_eq_true rfl) dX12_odds_57 (by decide) (by decide) (by decide) (by decide)) w [0, 1] [2] rfl rfl (by decide) (by decide) rfl rfl (fun v u H locs hp w => ?_)
              obtain ⟨z23, fr24, ff25⟩ := u
              have hv : iI z23 = v := hp.1
              subst hv
              have z23_a : (-2147483648) ≤ z23 := hp.2.1
              have z23_b : z23 ≤ 2147483647 := hp.2.2.1
              have ff25_h : nowI ff25 := hp.2.2.2.1
              have pq26 : kp 53 ff18 ff25 := hp.2.2.2.2
              have w : WD D A s.heap [(a6, .inl (T 0, 34, .inl (cI ff15))), (a0, .inr (11, [.int (iI 0), .ref a1, .int (iI x3), .int (iI x4), .int (iI x5), .int (iI x6), .int (iI x7), .int (iI x8), .int r1, .int (iI x9), .int (iI x10), .int (iI x11), .long y0, .int (iI x12), .ref a2, .ref a3, .ref a4, .ref a5, .ref a6, .ref a7, .ref a8, .ref a9, .ref a10, .ref a11, .int (iI x13), .ref a12, .ref a13, .ref a14, .ref a15, .int (iI x14), .int r2, .int r3, .ref a16, .int (iI x15), .int (iI x16), .ref a17, .ref a18, .int (iI x17), .ref a19, .int (iI x18), .int fr24, .ref a20, .ref a21, .int (iI x19), .int r5, .ref a22, .int (iI x20), .int (iI x21), .int (iI x22), .int (iI x23)])), (a2, .inl (T 0, 329, .inl (cI ff25)))] H locs := w
              refine lv_pop hx hb dX12_odds_60 rfl ?_
              refine lv_aload_n hx hb dX12_odds_61 rfl (lv_at hl 2 rfl) ?_
              refine lv_iload_n hx hb dX12_odds_62 rfl (lv_at hl 3 rfl) ?_
              refine k_I (ce := 0) (sl := 0) (rest := []) (wr := [(a6, .inl (T 0, 34, .inl (cI ff15)))]) (r_V (f := 0) [1, 2] M w V_HookedCityModel_255 G1768 G74 (c70_X12_isOpen l D T _ a0 x0 (iI 0) a1 x3 x4 x5 x6 x7 x8 r1 x9 x10 x11 y0 x12 a2 a3 a4 a5 a6 a7 a8 a9 a10 a11 x13 a12 a13 a14 a15 x14 r2 r3 a16 x15 x16 a17 a18 x17 a19 x18 fr24 a20 a21 x19 r5 a22 x20 x21 x22 x23 ff25 (by omega) (by omega) x3_a x3_b x4_a x4_b x5_a x5_b x6_a x6_b x7_a x7_b x8_a x8_b x9_a x9_b x10_a x10_b x11_a x11_b x12_a x12_b x13_a x13_b x14_a x14_b x15_a x15_b x16_a x16_b x17_a x17_b x18_a x18_b x19_a x19_b x20_a x20_b x21_a x21_b x22_a x22_b x23_a x23_b ff25_h) 1 clX12 rfl rfl (by decide) rfl hl.1 rfl (Nat.le_of_ble_eq_true rfl) dX12_odds_63 (by decide) (by decide) (by decide) (by decide)) w [1, 2] [0] rfl rfl (by decide) (by decide) rfl rfl (fun v z27 H locs hp w => ?_)
              have hv : iI z27 = v := hp.1
              subst hv
              have z27_a : 0 ≤ z27 := hp.2.1
              have z27_b : z27 ≤ 1 := hp.2.2.1
              have pq28 : z27 = 0 → 0 ≤ ff25 (57 + x0) := hp.2.2.2
              have w : WD D A s.heap [(a6, .inl (T 0, 34, .inl (cI ff15))), (a0, .inr (11, [.int (iI 0), .ref a1, .int (iI x3), .int (iI x4), .int (iI x5), .int (iI x6), .int (iI x7), .int (iI x8), .int r1, .int (iI x9), .int (iI x10), .int (iI x11), .long y0, .int (iI x12), .ref a2, .ref a3, .ref a4, .ref a5, .ref a6, .ref a7, .ref a8, .ref a9, .ref a10, .ref a11, .int (iI x13), .ref a12, .ref a13, .ref a14, .ref a15, .int (iI x14), .int r2, .int r3, .ref a16, .int (iI x15), .int (iI x16), .ref a17, .ref a18, .int (iI x17), .ref a19, .int (iI x18), .int fr24, .ref a20, .ref a21, .int (iI x19), .int r5, .ref a22, .int (iI x20), .int (iI x21), .int (iI x22), .int (iI x23)])), (a2, .inl (T 0, 329, .inl (cI ff25)))] H locs := w
              refine lv_if_ne (tgt := 72) hx hb dX12_odds_66 (by decide) (fun c_29 => ?_) (fun c_29 => ?_)
              · replace c_29 : ¬ z27 = 0 := fun h => c_29 ((iz_eq (Int.le_trans (by decide) z27_a) (Int.le_trans z27_b (by decide))).mpr h)
                refine lv_aload_n hx hb dX12_odds_72 rfl (lv_at hl 2 rfl) ?_
                refine k_V (ce := 0) (sl := 0) (rest := []) (wr := []) (r_V (f := 0) [1, 2, 0] M w V_HookedCityModel_367 G1977 G102 (c118_X12_takeBack l D T _ a0 (iI 0) a1 x3 x4 x5 x6 x7 x8 r1 x9 x10 x11 y0 x12 a2 a3 a4 a5 a6 a7 a8 a9 a10 a11 x13 a12 a13 a14 a15 x14 r2 r3 a16 x15 x16 a17 a18 x17 a19 x18 fr24 a20 a21 x19 r5 a22 x20 x21 x22 x23 ff25 ff15 x3_a x3_b x4_a x4_b x5_a x5_b x6_a x6_b x7_a x7_b x8_a x8_b x9_a x9_b x10_a x10_b x11_a x11_b x12_a x12_b x13_a x13_b x14_a x14_b x15_a x15_b x16_a x16_b x17_a x17_b x18_a x18_b x19_a x19_b x20_a x20_b x21_a x21_b x22_a x22_b x23_a x23_b ff25_h ff15_h lq1_a) 1 clX12 rfl rfl (by decide) rfl hl.1 rfl (Nat.le_of_ble_eq_true rfl) dX12_odds_73 (by decide) (by decide) (by decide) (by decide)) w [1, 2, 0] [] rfl rfl (by decide) (by decide) rfl rfl (fun ff30 H locs hp w => ?_)
                have ff30_h : nowI ff30 := hp.1
                have pq31 : kp 53 ff25 ff30 := hp.2
                have w : WD D A s.heap [(a0, .inr (11, [.int (iI 0), .ref a1, .int (iI x3), .int (iI x4), .int (iI x5), .int (iI x6), .int (iI x7), .int (iI x8), .int r1, .int (iI x9), .int (iI x10), .int (iI x11), .long y0, .int (iI x12), .ref a2, .ref a3, .ref a4, .ref a5, .ref a6, .ref a7, .ref a8, .ref a9, .ref a10, .ref a11, .int (iI x13), .ref a12, .ref a13, .ref a14, .ref a15, .int (iI x14), .int r2, .int r3, .ref a16, .int (iI x15), .int (iI x16), .ref a17, .ref a18, .int (iI x17), .ref a19, .int (iI x18), .int fr24, .ref a20, .ref a21, .int (iI x19), .int r5, .ref a22, .int (iI x20), .int (iI x21), .int (iI x22), .int (iI x23)])), (a2, .inl (T 0, 329, .inl (cI ff30))), (a6, .inl (T 0, 34, .inl (cI ff15)))] H locs := w
                refine lv_iinc (v := iI (z19 + 1)) (lv' := [(5, .int (iI (z19 + 1))), (4, .int (iI z20)), (0, .ref a0), (1, .int (iI x0)), (2, .int (iI x1)), (3, .int (iI x2))]) hx hb dX12_odds_76 hl (k := 0) rfl (ii_inc (by decide +kernel)) (by decide) rfl (fun ls hl => ?_)
                refine lv_goto (tgt := 44) hx hb dX12_odds_79 (by decide) ?_
                exact ih1 fr24 ff30 (z19 + 1) z20 _ _ _ ff30_h (by omega) (by omega) z20_a z20_b (by omega) lq1_a (kp_tr (kp_tr (kp_tr kp_rfl lq1_hd) pq26) pq31) (by omega) w (lv_sub hl [0, 1, 2, 3, 4, 5] rfl)
              · replace c_29 := (iz_eq (Int.le_trans (by decide) z27_a) (Int.le_trans z27_b (by decide))).mp c_29
                refine lv_iinc (v := iI (z20 + 1)) (lv' := [(4, .int (iI (z20 + 1))), (5, .int (iI z19)), (0, .ref a0), (1, .int (iI x0)), (2, .int (iI x1)), (3, .int (iI x2))]) hx hb dX12_odds_69 hl (k := 1) rfl (ii_inc (by decide +kernel)) (by decide) rfl (fun ls hl => ?_)
                refine lv_aload_n hx hb dX12_odds_72 rfl (lv_at hl 2 rfl) ?_
                refine k_V (ce := 0) (sl := 0) (rest := []) (wr := []) (r_V (f := 0) [1, 2, 0] M w V_HookedCityModel_367 G1977 G102 (c118_X12_takeBack l D T _ a0 (iI 0) a1 x3 x4 x5 x6 x7 x8 r1 x9 x10 x11 y0 x12 a2 a3 a4 a5 a6 a7 a8 a9 a10 a11 x13 a12 a13 a14 a15 x14 r2 r3 a16 x15 x16 a17 a18 x17 a19 x18 fr24 a20 a21 x19 r5 a22 x20 x21 x22 x23 ff25 ff15 x3_a x3_b x4_a x4_b x5_a x5_b x6_a x6_b x7_a x7_b x8_a x8_b x9_a x9_b x10_a x10_b x11_a x11_b x12_a x12_b x13_a x13_b x14_a x14_b x15_a x15_b x16_a x16_b x17_a x17_b x18_a x18_b x19_a x19_b x20_a x20_b x21_a x21_b x22_a x22_b x23_a x23_b ff25_h ff15_h lq1_a) 1 clX12 rfl rfl (by decide) rfl hl.1 rfl (Nat.le_of_ble_eq_true rfl) dX12_odds_73 (by decide) (by decide) (by decide) (by decide)) w [1, 2, 0] [] rfl rfl (by decide) (by decide) rfl rfl (fun ff32 H locs hp w => ?_)
                have ff32_h : nowI ff32 := hp.1
                have pq33 : kp 53 ff25 ff32 := hp.2
                have w : WD D A s.heap [(a0, .inr (11, [.int (iI 0), .ref a1, .int (iI x3), .int (iI x4), .int (iI x5), .int (iI x6), .int (iI x7), .int (iI x8), .int r1, .int (iI x9), .int (iI x10), .int (iI x11), .long y0, .int (iI x12), .ref a2, .ref a3, .ref a4, .ref a5, .ref a6, .ref a7, .ref a8, .ref a9, .ref a10, .ref a11, .int (iI x13), .ref a12, .ref a13, .ref a14, .ref a15, .int (iI x14), .int r2, .int r3, .ref a16, .int (iI x15), .int (iI x16), .ref a17, .ref a18, .int (iI x17), .ref a19, .int (iI x18), .int fr24, .ref a20, .ref a21, .int (iI x19), .int r5, .ref a22, .int (iI x20), .int (iI x21), .int (iI x22), .int (iI x23)])), (a2, .inl (T 0, 329, .inl (cI ff32))), (a6, .inl (T 0, 34, .inl (cI ff15)))] H locs := w
                refine lv_iinc (v := iI (z19 + 1)) (lv' := [(5, .int (iI (z19 + 1))), (4, .int (iI (z20 + 1))), (0, .ref a0), (1, .int (iI x0)), (2, .int (iI x1)), (3, .int (iI x2))]) hx hb dX12_odds_76 hl (k := 1) rfl (ii_inc (by decide +kernel)) (by decide) rfl (fun ls hl => ?_)
                refine lv_goto (tgt := 44) hx hb dX12_odds_79 (by decide) ?_
                exact ih1 fr24 ff32 (z19 + 1) (z20 + 1) _ _ _ ff32_h (by omega) (by omega) (by omega) (by omega) (by omega) lq1_a (kp_tr (kp_tr (kp_tr kp_rfl lq1_hd) pq26) pq33) (by omega) w (lv_sub hl [0, 1, 2, 3, 4, 5] rfl)
        exact loop1 ((30 : Int).toNat + 1) r4 f0 0 0 _ _ _ f0_h (by decide) (by decide) (by decide) (by decide) (by omega) pq16 kp_rfl (Nat.lt_succ_self _) w (lv_sub hl [0, 1, 2, 3, 4, 5] rfl)
      · replace c_14 := (iz_eq (by omega) (by omega)).mp c_14
        refine lv_iconst (v := iI (-1)) hx hb dX12_odds_32 (by decide +kernel) ?_
        exact ret _ ((-1), (iI 0), r4, f0, f1) _ _ _ _ _ [1, 2, 0] dX12_odds_33 ⟨rfl, (show (-2147483648) ≤ (-1) from by decide), (show ((-1) : Int) ≤ 2147483647 from by decide), f0_h, f1_h, (show kp 53 f0 f0 from kp_rfl)⟩ w (by decide) rfl
set_option maxRecDepth 100000 in
set_option maxHeartbeats 4000000 in
theorem c120_X12_image (l : Launch) (D : va_G) (T : Nat → ClassId) (sz : Nat) (a0 : Nat) (x0 : Int) (r0 : Int32) (a1 : Nat) (x1 : Int) (x2 : Int) (x3 : Int) (x4 : Int) (x5 : Int) (x6 : Int) (r1 : Int32) (x7 : Int) (x8 : Int) (x9 : Int) (y0 : Int64) (x10 : Int) (a2 : Nat) (a3 : Nat) (a4 : Nat) (a5 : Nat) (a6 : Nat) (a7 : Nat) (a8 : Nat) (a9 : Nat) (a10 : Nat) (a11 : Nat) (x11 : Int) (a12 : Nat) (a13 : Nat) (a14 : Nat) (a15 : Nat) (x12 : Int) (r2 : Int32) (r3 : Int32) (a16 : Nat) (x13 : Int) (x14 : Int) (a17 : Nat) (a18 : Nat) (x15 : Int) (a19 : Nat) (x16 : Int) (r4 : Int32) (a20 : Nat) (a21 : Nat) (x17 : Int) (r5 : Int32) (a22 : Nat) (x18 : Int) (x19 : Int) (x20 : Int) (x21 : Int) (f0 : Int → Int) (f1 : Int → Int) (h0 : Nat → Int64) (h1 : Nat → Int64) (f2 : Int → Int) (x0_a : (-2147483648) ≤ x0) (x0_b : x0 ≤ 2147483647) (x1_a : 0 ≤ x1) (x1_b : x1 ≤ 940) (x2_a : 0 ≤ x2) (x2_b : x2 ≤ 940) (x3_a : 0 ≤ x3) (x3_b : x3 ≤ 940) (x4_a : 0 ≤ x4) (x4_b : x4 ≤ 940) (x5_a : 0 ≤ x5) (x5_b : x5 ≤ 940) (x6_a : 0 ≤ x6) (x6_b : x6 ≤ 4) (x7_a : (-2147483648) ≤ x7) (x7_b : x7 ≤ 2147483647) (x8_a : (-2147483648) ≤ x8) (x8_b : x8 ≤ 2147483647) (x9_a : 0 ≤ x9) (x9_b : x9 ≤ 940) (x10_a : (-2147483648) ≤ x10) (x10_b : x10 ≤ 2147483647) (x11_a : 0 ≤ x11) (x11_b : x11 ≤ 8) (x12_a : 0 ≤ x12) (x12_b : x12 ≤ 9) (x13_a : (-1) ≤ x13) (x13_b : x13 ≤ 9) (x14_a : (-1) ≤ x14) (x14_b : x14 ≤ 8) (x15_a : 0 ≤ x15) (x15_b : x15 ≤ 9) (x16_a : 0 ≤ x16) (x16_b : x16 ≤ 64) (x17_a : 0 ≤ x17) (x17_b : x17 ≤ 40) (x18_a : 0 ≤ x18) (x18_b : x18 ≤ 40) (x19_a : 0 ≤ x19) (x19_b : x19 ≤ 20) (x20_a : 0 ≤ x20) (x20_b : x20 ≤ 8) (x21_a : 0 ≤ x21) (x21_b : x21 ≤ 39) (f0_h : nowI f0) (f1_h : FL f1) (f2_h : rng 0 1 f2) (pp_k : kpI f1 f2) : Met l yX12_image (Cond.code yX12_image cX12_image 3 (some .boolean) :: GW) (Rm 1 0 0) (cPre [.ref a0, .int (iI x0)] D T [(a0, .inr (11, [.int r0, .ref a1, .int (iI x1), .int (iI x2), .int (iI x3), .int (iI x4), .int (iI x5), .int (iI x6), .int r1, .int (iI x7), .int (iI x8), .int (iI x9), .long y0, .int (iI x10), .ref a2, .ref a3, .ref a4, .ref a5, .ref a6, .ref a7, .ref a8, .ref a9, .ref a10, .ref a11, .int (iI x11), .ref a12, .ref a13, .ref a14, .ref a15, .int (iI x12), .int r2, .int r3, .ref a16, .int (iI x13), .int (iI x14), .ref a17, .ref a18, .int (iI x15), .ref a19, .int (iI x16), .int r4, .ref a20, .ref a21, .int (iI x17), .int r5, .ref a22, .int (iI x18), .int (iI x19), .int (iI x20), .int (iI x21)])), (a2, .inl (T 0, 329, .inl (cI f0))), (a4, .inl (T 0, 658, .inl (cI f1))), (a7, .inl (T 1, 12, .inr (.inl h0))), (a9, .inl (T 1, 24, .inr (.inl h1))), (a10, .inl (T 2, 2, .inl (cI f2)))] sz) (qI D [(a0, .inr (11, [.int r0, .ref a1, .int (iI x1), .int (iI x2), .int (iI x3), .int (iI x4), .int (iI x5), .int (iI x6), .int r1, .int (iI x7), .int (iI x8), .int (iI x9), .long y0, .int (iI x10), .ref a2, .ref a3, .ref a4, .ref a5, .ref a6, .ref a7, .ref a8, .ref a9, .ref a10, .ref a11, .int (iI x11), .ref a12, .ref a13, .ref a14, .ref a15, .int (iI x12), .int r2, .int r3, .ref a16, .int (iI x13), .int (iI x14), .ref a17, .ref a18, .int (iI x15), .ref a19, .int (iI x16), .int r4, .ref a20, .ref a21, .int (iI x17), .int r5, .ref a22, .int (iI x18), .int (iI x19), .int (iI x20), .int (iI x21)])), (a2, .inl (T 0, 329, .inl (cI f0))), (a4, .inl (T 0, 658, .inl (cI f1))), (a7, .inl (T 1, 12, .inr (.inl h0))), (a9, .inl (T 1, 24, .inr (.inl h1))), (a10, .inl (T 2, 2, .inl (cI f2)))] sz (fun (v : Int32) (u : Int × Int32 × (Int → Int) × (Nat → Int64) × (Int → Int)) => iI u.1 = v ∧ 0 ≤ u.1 ∧ u.1 ≤ 1 ∧ FL u.2.2.1 ∧ rng 0 1 u.2.2.2.2 ∧ (kpI u.2.2.1 u.2.2.2.2) ∧ (imT u.1 x0 f2 u.2.2.2.2) ∧ (imH x0 f1 u.2.2.1 f0 h1 u.2.2.2.1 h0)) (fun u => [(a0, .inr (11, [.int u.2.1, .ref a1, .int (iI x1), .int (iI x2), .int (iI x3), .int (iI x4), .int (iI x5), .int (iI x6), .int r1, .int (iI x7), .int (iI x8), .int (iI x9), .long y0, .int (iI x10), .ref a2, .ref a3, .ref a4, .ref a5, .ref a6, .ref a7, .ref a8, .ref a9, .ref a10, .ref a11, .int (iI x11), .ref a12, .ref a13, .ref a14, .ref a15, .int (iI x12), .int r2, .int r3, .ref a16, .int (iI x13), .int (iI x14), .ref a17, .ref a18, .int (iI x15), .ref a19, .int (iI x16), .int r4, .ref a20, .ref a21, .int (iI x17), .int r5, .ref a22, .int (iI x18), .int (iI x19), .int (iI x20), .int (iI x21)])), (a2, .inl (T 0, 329, .inl (cI f0))), (a4, .inl (T 0, 658, .inl (cI u.2.2.1))), (a7, .inl (T 1, 12, .inr (.inl h0))), (a9, .inl (T 1, 24, .inr (.inl u.2.2.2.1))), (a10, .inl (T 2, 2, .inl (cI u.2.2.2.2)))])) 0 0 (va_A [(a0, .inr (11, [.int r0, .ref a1, .int (iI x1), .int (iI x2), .int (iI x3), .int (iI x4), .int (iI x5), .int (iI x6), .int r1, .int (iI x7), .int (iI x8), .int (iI x9), .long y0, .int (iI x10), .ref a2, .ref a3, .ref a4, .ref a5, .ref a6, .ref a7, .ref a8, .ref a9, .ref a10, .ref a11, .int (iI x11), .ref a12, .ref a13, .ref a14, .ref a15, .int (iI x12), .int r2, .int r3, .ref a16, .int (iI x13), .int (iI x14), .ref a17, .ref a18, .int (iI x15), .ref a19, .int (iI x16), .int r4, .ref a20, .ref a21, .int (iI x17), .int r5, .ref a22, .int (iI x18), .int (iI x19), .int (iI x20), .int (iI x21)])), (a2, .inl (T 0, 329, .inl (cI f0))), (a4, .inl (T 0, 658, .inl (cI f1))), (a7, .inl (T 1, 12, .inr (.inl h0))), (a9, .inl (T 1, 24, .inr (.inl h1))), (a10, .inl (T 2, 2, .inl (cI f2)))] sz) := by
  refine e_Z (by decide) (Nat.le_of_ble_eq_true rfl) ?_
  intro p e s m args below meth c A Q ls M hin w ret hl
  have hx := M.1.1
  have hb := M.1.2.1
  have hl : lv_has ls 3 [(0, .ref a0), (1, .int (iI x0))] := hl
  refine lv_aload_n hx hb dX12_image_0 rfl (lv_at hl 0 rfl) ?_
  refine lv_iconst (v := iI 0) hx hb dX12_image_1 (by decide +kernel) ?_
  refine r_put (ws' := [(a0, .inr (11, [.int (iI 0), .ref a1, .int (iI x1), .int (iI x2), .int (iI x3), .int (iI x4), .int (iI x5), .int (iI x6), .int r1, .int (iI x7), .int (iI x8), .int (iI x9), .long y0, .int (iI x10), .ref a2, .ref a3, .ref a4, .ref a5, .ref a6, .ref a7, .ref a8, .ref a9, .ref a10, .ref a11, .int (iI x11), .ref a12, .ref a13, .ref a14, .ref a15, .int (iI x12), .int r2, .int r3, .ref a16, .int (iI x13), .int (iI x14), .ref a17, .ref a18, .int (iI x15), .ref a19, .int (iI x16), .int r4, .ref a20, .ref a21, .int (iI x17), .int r5, .ref a22, .int (iI x18), .int (iI x19), .int (iI x20), .int (iI x21)])), (a2, .inl (T 0, 329, .inl (cI f0))), (a4, .inl (T 0, 658, .inl (cI f1))), (a7, .inl (T 1, 12, .inr (.inl h0))), (a9, .inl (T 1, 24, .inr (.inl h1))), (a10, .inl (T 2, 2, .inl (cI f2)))]) M w 0 0 clX12 rfl (by decide) G1463 rfl rfl rfl rfl (Nat.le_of_ble_eq_true rfl) rfl dX12_image_2 (fun H locs w => ?_)
  refine lv_iload_n hx hb dX12_image_5 rfl (lv_at hl 1 rfl) ?_
  refine lv_iconst (v := iI 0) hx hb dX12_image_6 (by decide +kernel) ?_
  refine lv_iconst (v := iI 1) hx hb dX12_image_7 (by decide +kernel) ?_
  refine k_I (ce := 0) (sl := 0) (rest := []) (wr := [(a0, .inr (11, [.int (iI 0), .ref a1, .int (iI x1), .int (iI x2), .int (iI x3), .int (iI x4), .int (iI x5), .int (iI x6), .int r1, .int (iI x7), .int (iI x8), .int (iI x9), .long y0, .int (iI x10), .ref a2, .ref a3, .ref a4, .ref a5, .ref a6, .ref a7, .ref a8, .ref a9, .ref a10, .ref a11, .int (iI x11), .ref a12, .ref a13, .ref a14, .ref a15, .int (iI x12), .int r2, .int r3, .ref a16, .int (iI x13), .int (iI x14), .ref a17, .ref a18, .int (iI x15), .ref a19, .int (iI x16), .int r4, .ref a20, .ref a21, .int (iI x17), .int r5, .ref a22, .int (iI x18), .int (iI x19), .int (iI x20), .int (iI x21)])), (a2, .inl (T 0, 329, .inl (cI f0))), (a4, .inl (T 0, 658, .inl (cI f1))), (a7, .inl (T 1, 12, .inr (.inl h0))), (a9, .inl (T 1, 24, .inr (.inl h1))), (a10, .inl (T 2, 2, .inl (cI f2)))]) (r_S (f := 0) [] M w V_HookedCityModel_75 G1693 (c6_X12_isIn l D T _ x0 0 1 x0_a x0_b (by decide) (by decide) (by decide) (by decide)) rfl (by decide) rfl hl.1 rfl (Nat.le_of_ble_eq_true rfl) dX12_image_8 (by decide) (by decide) (by decide) (by decide)) w [] [0, 1, 2, 3, 4, 5] rfl rfl (by decide) (by decide) rfl rfl (fun v z1 H locs hp w => ?_)
  have hv : iI z1 = v := hp.1
  subst hv
  have z1_a : 0 ≤ z1 := hp.2.1
  have z1_b : z1 ≤ 1 := hp.2.2.1
  have w : WD D A s.heap [(a0, .inr (11, [.int (iI 0), .ref a1, .int (iI x1), .int (iI x2), .int (iI x3), .int (iI x4), .int (iI x5), .int (iI x6), .int r1, .int (iI x7), .int (iI x8), .int (iI x9), .long y0, .int (iI x10), .ref a2, .ref a3, .ref a4, .ref a5, .ref a6, .ref a7, .ref a8, .ref a9, .ref a10, .ref a11, .int (iI x11), .ref a12, .ref a13, .ref a14, .ref a15, .int (iI x12), .int r2, .int r3, .ref a16, .int (iI x13), .int (iI x14), .ref a17, .ref a18, .int (iI x15), .ref a19, .int (iI x16), .int r4, .ref a20, .ref a21, .int (iI x17), .int r5, .ref a22, .int (iI x18), .int (iI x19), .int (iI x20), .int (iI x21)])), (a2, .inl (T 0, 329, .inl (cI f0))), (a4, .inl (T 0, 658, .inl (cI f1))), (a7, .inl (T 1, 12, .inr (.inl h0))), (a9, .inl (T 1, 24, .inr (.inl h1))), (a10, .inl (T 2, 2, .inl (cI f2)))] H locs := w
  rcases hp.2.2.2 with ⟨c_2, hr⟩ | ⟨c_3, c_4, hr⟩ | ⟨c_5, c_6, hr⟩
  · subst hr
    refine lv_if_ne (tgt := 16) hx hb dX12_image_11 (by decide) (fun c => absurd (by decide +kernel) c) (fun _ => ?_)
    refine lv_iconst (v := iI 0) hx hb dX12_image_14 (by decide +kernel) ?_
    exact ret _ (0, (iI 0), f1, h1, f2) _ _ _ _ _ [0, 1, 2, 3, 4, 5] dX12_image_15 (by decide +kernel) ⟨rfl, (show (0 : Int) ≤ 0 from by decide), (show (0 : Int) ≤ 1 from by decide), f1_h, f2_h, (show kpI f1 f2 from pp_k), (show imT 0 x0 f2 f2 from (Or.inr ⟨by omega, rfl, rfl⟩)), (show imH x0 f1 f1 f0 h1 h1 h0 from (Or.inr ⟨by omega, rfl, rfl⟩))⟩ w (by decide) rfl
  · subst hr
    refine lv_if_ne (tgt := 16) hx hb dX12_image_11 (by decide) (fun c => absurd (by decide +kernel) c) (fun _ => ?_)
    refine lv_iconst (v := iI 0) hx hb dX12_image_14 (by decide +kernel) ?_
    exact ret _ (0, (iI 0), f1, h1, f2) _ _ _ _ _ [0, 1, 2, 3, 4, 5] dX12_image_15 (by decide +kernel) ⟨rfl, (show (0 : Int) ≤ 0 from by decide), (show (0 : Int) ≤ 1 from by decide), f1_h, f2_h, (show kpI f1 f2 from pp_k), (show imT 0 x0 f2 f2 from (Or.inr ⟨by omega, rfl, rfl⟩)), (show imH x0 f1 f1 f0 h1 h1 h0 from (Or.inr ⟨by omega, rfl, rfl⟩))⟩ w (by decide) rfl
  · subst hr
    refine lv_if_ne (tgt := 16) hx hb dX12_image_11 (by decide) (fun _ => ?_) (fun c => absurd c (by decide +kernel))
    refine lv_iconst (v := iI 0) hx hb dX12_image_16 (by decide +kernel) ?_
    refine lv_istore_n (lv' := [(2, .int (iI 0)), (0, .ref a0), (1, .int (iI x0))]) hx hb dX12_image_17 rfl hl (by decide) rfl (fun ls hl => ?_)
    have w := WD.eq (ws' := [(a0, .inr (11, [.int (iI 0), .ref a1, .int (iI x1), .int (iI x2), .int (iI x3), .int (iI x4), .int (iI x5), .int (iI x6), .int r1, .int (iI x7), .int (iI x8), .int (iI x9), .long y0, .int (iI x10), .ref a2, .ref a3, .ref a4, .ref a5, .ref a6, .ref a7, .ref a8, .ref a9, .ref a10, .ref a11, .int (iI x11), .ref a12, .ref a13, .ref a14, .ref a15, .int (iI x12), .int r2, .int r3, .ref a16, .int (iI x13), .int (iI x14), .ref a17, .ref a18, .int (iI x15), .ref a19, .int (iI x16), .int r4, .ref a20, .ref a21, .int (iI x17), .int r5, .ref a22, .int (iI x18), .int (iI x19), .int (iI x20), .int (iI x21)])), (a2, .inl (T 0, 329, .inl (cI f0))), (a4, .inl (T 0, 658, .inl (cI (cpz f0 f1 0 (329 * x0) 0)))), (a7, .inl (T 1, 12, .inr (.inl h0))), (a9, .inl (T 1, 24, .inr (.inl h1))), (a10, .inl (T 2, 2, .inl (cI f2)))]) (by rw [cpz_0 (c := f0) (d := f1) (sp := 0) (dp := (329 * x0)) (n := 0) (by decide)]) w
    have loop1 : ∀ (k1 : Nat) (z7 : Int) (H : Heap) (locs : List Loc) (ls : Array Slot), 0 ≤ z7 → z7 ≤ 329 → ((329 - z7) : Int).toNat < k1 → WD D A s.heap [(a0, .inr (11, [.int (iI 0), .ref a1, .int (iI x1), .int (iI x2), .int (iI x3), .int (iI x4), .int (iI x5), .int (iI x6), .int r1, .int (iI x7), .int (iI x8), .int (iI x9), .long y0, .int (iI x10), .ref a2, .ref a3, .ref a4, .ref a5, .ref a6, .ref a7, .ref a8, .ref a9, .ref a10, .ref a11, .int (iI x11), .ref a12, .ref a13, .ref a14, .ref a15, .int (iI x12), .int r2, .int r3, .ref a16, .int (iI x13), .int (iI x14), .ref a17, .ref a18, .int (iI x15), .ref a19, .int (iI x16), .int r4, .ref a20, .ref a21, .int (iI x17), .int r5, .ref a22, .int (iI x18), .int (iI x19), .int (iI x20), .int (iI x21)])), (a2, .inl (T 0, 329, .inl (cI f0))), (a4, .inl (T 0, 658, .inl (cI (cpz f0 f1 0 (329 * x0) z7)))), (a7, .inl (T 1, 12, .inr (.inl h0))), (a9, .inl (T 1, 24, .inr (.inl h1))), (a10, .inl (T 2, 2, .inl (cI f2)))] H locs → lv_has ls 3 [(2, .int (iI z7)), (0, .ref a0), (1, .int (iI x0))] → W p l e (Rm 1 0 0) s m args below meth c H locs 0 0 Q (F0 m 18 ls []) := by
      intro k1
      induction k1 with
      | zero => intro z7 H locs ls z7_a z7_b hm; exact absurd hm (Nat.not_lt_zero _)
      | succ k1 ih1 =>
        intro z7 H locs ls z7_a z7_b hm1 w hl
        refine lv_iload_n hx hb dX12_image_18 rfl (lv_at hl 0 rfl) ?_
        refine lv_sipush (v := iI 329) hx hb dX12_image_19 (by decide +kernel) ?_
        refine lv_icmp_ge (tgt := 49) hx hb dX12_image_22 (by decide) (fun c_8 => ?_) (fun c_8 => ?_)
        · replace c_8 := (iI_le (by decide) (by decide) (Int.le_trans (by decide) z7_a) (Int.le_trans z7_b (by decide))).mp c_8
          obtain rfl : z7 = 329 := by omega
          refine lv_iconst (v := iI 0) hx hb dX12_image_49 (by decide +kernel) ?_
          refine lv_istore_n (lv' := [(2, .int (iI 0)), (0, .ref a0), (1, .int (iI x0))]) hx hb dX12_image_50 rfl hl (by decide) rfl (fun ls hl => ?_)
          have loop2 : ∀ (k2 : Nat) (fh9 : Nat → Int64) (z10 : Int) (H : Heap) (locs : List Loc) (ls : Array Slot), 0 ≤ z10 → z10 ≤ 12 → ((∀ j : Int, 0 ≤ j → j < z10 → fh9 (ix (12 * x0 + j)) = h0 (ix j)) ∧ ∀ j : Int, 0 ≤ j → j < 12 → fh9 (ix (12 * (1 - x0) + j)) = h1 (ix (12 * (1 - x0) + j))) → ((12 - z10) : Int).toNat < k2 → WD D A s.heap [(a0, .inr (11, [.int (iI 0), .ref a1, .int (iI x1), .int (iI x2), .int (iI x3), .int (iI x4), .int (iI x5), .int (iI x6), .int r1, .int (iI x7), .int (iI x8), .int (iI x9), .long y0, .int (iI x10), .ref a2, .ref a3, .ref a4, .ref a5, .ref a6, .ref a7, .ref a8, .ref a9, .ref a10, .ref a11, .int (iI x11), .ref a12, .ref a13, .ref a14, .ref a15, .int (iI x12), .int r2, .int r3, .ref a16, .int (iI x13), .int (iI x14), .ref a17, .ref a18, .int (iI x15), .ref a19, .int (iI x16), .int r4, .ref a20, .ref a21, .int (iI x17), .int r5, .ref a22, .int (iI x18), .int (iI x19), .int (iI x20), .int (iI x21)])), (a2, .inl (T 0, 329, .inl (cI f0))), (a4, .inl (T 0, 658, .inl (cI (cpz f0 f1 0 (329 * x0) 329)))), (a7, .inl (T 1, 12, .inr (.inl h0))), (a9, .inl (T 1, 24, .inr (.inl fh9))), (a10, .inl (T 2, 2, .inl (cI f2)))] H locs → lv_has ls 3 [(2, .int (iI z10)), (0, .ref a0), (1, .int (iI x0))] → W p l e (Rm 1 0 0) s m args below meth c H locs 0 0 Q (F0 m 51 ls []) := by
            intro k2
            induction k2 with
            | zero => intro fh9 z10 H locs ls z10_a z10_b lq2_j hm; exact absurd hm (Nat.not_lt_zero _)
            | succ k2 ih2 =>
              intro fh9 z10 H locs ls z10_a z10_b lq2_j hm2 w hl
              refine lv_iload_n hx hb dX12_image_51 rfl (lv_at hl 0 rfl) ?_
              refine lv_bipush (v := iI 12) hx hb dX12_image_52 (by decide +kernel) ?_
              refine lv_icmp_ge (tgt := 80) hx hb dX12_image_54 (by decide) (fun c_11 => ?_) (fun c_11 => ?_)
              · replace c_11 := (iI_le (by decide) (by decide) (Int.le_trans (by decide) z10_a) (Int.le_trans z10_b (by decide))).mp c_11
                refine lv_aload_n hx hb dX12_image_80 rfl (lv_at hl 1 rfl) ?_
                refine r_get (v := .ref a10) M w 0 22 clX12 rfl (by decide) G1485 rfl rfl dX12_image_81 ?_
                refine lv_iload_n hx hb dX12_image_84 rfl (lv_at hl 2 rfl) ?_
                refine lv_iconst (v := iI 1) hx hb dX12_image_85 (by decide +kernel) ?_
                refine r_zast (x2 := iI 1) (ws' := [(a0, .inr (11, [.int (iI 0), .ref a1, .int (iI x1), .int (iI x2), .int (iI x3), .int (iI x4), .int (iI x5), .int (iI x6), .int r1, .int (iI x7), .int (iI x8), .int (iI x9), .long y0, .int (iI x10), .ref a2, .ref a3, .ref a4, .ref a5, .ref a6, .ref a7, .ref a8, .ref a9, .ref a10, .ref a11, .int (iI x11), .ref a12, .ref a13, .ref a14, .ref a15, .int (iI x12), .int r2, .int r3, .ref a16, .int (iI x13), .int (iI x14), .ref a17, .ref a18, .int (iI x15), .ref a19, .int (iI x16), .int r4, .ref a20, .ref a21, .int (iI x17), .int r5, .ref a22, .int (iI x18), .int (iI x19), .int (iI x20), .int (iI x21)])), (a2, .inl (T 0, 329, .inl (cI f0))), (a4, .inl (T 0, 658, .inl (cI (cpz f0 f1 0 (329 * x0) 329)))), (a7, .inl (T 1, 12, .inr (.inl h0))), (a9, .inl (T 1, 24, .inr (.inl fh9))), (a10, .inl (T 2, 2, .inl (cI (upz f2 x0 1))))]) M w 5 rfl (iI_in (by omega) (by omega) (by decide)) (nb_z (by omega) (by omega)) (by rw [cI_up (by omega) (by omega)]; rfl) dX12_image_86 (fun H locs w => ?_)
                refine lv_iconst (v := iI 1) hx hb dX12_image_87 (by decide +kernel) ?_
                exact ret _ (1, (iI 0), (cpz f0 f1 0 (329 * x0) 329), fh9, (upz f2 x0 1)) _ _ _ _ _ [0, 1, 2, 3, 4, 5] dX12_image_88 (by decide +kernel) ⟨rfl, (show (0 : Int) ≤ 1 from by decide), (show (1 : Int) ≤ 1 from by decide), (FL_cp f0_h.1 f1_h), (rng_up f2_h (by omega) (by omega)), (show kpI (cpz f0 f1 0 (329 * x0) 329) (upz f2 x0 1) from (kp_img pp_k f0_h f1_h (by omega) (by omega) (by omega))), (show imT 1 x0 f2 (upz f2 x0 1) from (Or.inl ⟨by omega, by omega, rfl, rfl⟩)), (show imH x0 f1 (cpz f0 f1 0 (329 * x0) 329) f0 h1 fh9 h0 from (Or.inl ⟨by omega, by omega, fun i i0 i1 => cpz_in i0 (by omega), fun i i0 i1 => cpz_off (by omega) (by omega), fun j j0 j1 => lq2_j.1 j j0 (by omega), lq2_j.2⟩))⟩ w (by decide) rfl
              · replace c_11 : z10 < 12 := Int.not_le.mp (fun h => c_11 ((iI_le (by decide) (by decide) (Int.le_trans (by decide) z10_a) (Int.le_trans z10_b (by decide))).mpr h))
                refine lv_aload_n hx hb dX12_image_57 rfl (lv_at hl 1 rfl) ?_
                refine r_get (v := .ref a9) M w 0 21 clX12 rfl (by decide) G1484 rfl rfl dX12_image_58 ?_
                refine lv_bipush (v := iI 12) hx hb dX12_image_61 (by decide +kernel) ?_
                refine lv_iload_n hx hb dX12_image_63 rfl (lv_at hl 2 rfl) ?_
                refine r_imul (v := iI (12 * x0)) M (iI_mul _ _) dX12_image_64 ?_
                refine lv_iload_n hx hb dX12_image_65 rfl (lv_at hl 0 rfl) ?_
                refine r_iadd (v := iI ((12 * x0) + z10)) M (iI_add _ _) dX12_image_66 ?_
                refine lv_aload_n hx hb dX12_image_67 rfl (lv_at hl 1 rfl) ?_
                refine r_get (v := .ref a7) M w 0 19 clX12 rfl (by decide) G1482 rfl rfl dX12_image_68 ?_
                refine lv_iload_n hx hb dX12_image_71 rfl (lv_at hl 0 rfl) ?_
                refine r_lald (v := (h0 (Int32.toNatClampNeg (iI z10)))) M w 3 rfl (iI_in (by omega) (by omega) (by decide)) rfl dX12_image_72 ?_
                refine r_last (ws' := [(a0, .inr (11, [.int (iI 0), .ref a1, .int (iI x1), .int (iI x2), .int (iI x3), .int (iI x4), .int (iI x5), .int (iI x6), .int r1, .int (iI x7), .int (iI x8), .int (iI x9), .long y0, .int (iI x10), .ref a2, .ref a3, .ref a4, .ref a5, .ref a6, .ref a7, .ref a8, .ref a9, .ref a10, .ref a11, .int (iI x11), .ref a12, .ref a13, .ref a14, .ref a15, .int (iI x12), .int r2, .int r3, .ref a16, .int (iI x13), .int (iI x14), .ref a17, .ref a18, .int (iI x15), .ref a19, .int (iI x16), .int r4, .ref a20, .ref a21, .int (iI x17), .int r5, .ref a22, .int (iI x18), .int (iI x19), .int (iI x20), .int (iI x21)])), (a2, .inl (T 0, 329, .inl (cI f0))), (a4, .inl (T 0, 658, .inl (cI (cpz f0 f1 0 (329 * x0) 329)))), (a7, .inl (T 1, 12, .inr (.inl h0))), (a9, .inl (T 1, 24, .inr (.inl (vp_updL fh9 (Int32.toNatClampNeg (iI ((12 * x0) + z10))) (h0 (Int32.toNatClampNeg (iI z10))))))), (a10, .inl (T 2, 2, .inl (cI f2)))]) M w 4 rfl (iI_in (by omega) (by omega) (by decide)) rfl dX12_image_73 (fun H locs w => ?_)
                refine lv_iinc (v := iI (z10 + 1)) (lv' := [(2, .int (iI (z10 + 1))), (0, .ref a0), (1, .int (iI x0))]) hx hb dX12_image_74 hl (k := 0) rfl (ii_inc (by decide +kernel)) (by decide) rfl (fun ls hl => ?_)
                refine lv_goto (tgt := 51) hx hb dX12_image_77 (by decide) ?_
                exact ih2 (vp_updL fh9 (Int32.toNatClampNeg (iI ((12 * x0) + z10))) (h0 (Int32.toNatClampNeg (iI z10)))) (z10 + 1) _ _ _ (by omega) (by omega) (nm_im lq2_j (by omega) (by omega) (by omega) (by omega)) (by omega) w (lv_sub hl [0, 1, 2] rfl)
          exact loop2 ((12 : Int).toNat + 1) h1 0 _ _ _ (by decide) (by decide) ⟨fun j j0 j1 => absurd j1 (by omega), fun _ _ _ => rfl⟩ (Nat.lt_succ_self _) w (lv_sub hl [0, 1, 2] rfl)
        · replace c_8 : z7 < 329 := Int.not_le.mp (fun h => c_8 ((iI_le (by decide) (by decide) (Int.le_trans (by decide) z7_a) (Int.le_trans z7_b (by decide))).mpr h))
          refine lv_aload_n hx hb dX12_image_25 rfl (lv_at hl 1 rfl) ?_
          refine r_get (v := .ref a4) M w 0 16 clX12 rfl (by decide) G1479 rfl rfl dX12_image_26 ?_
          refine lv_sipush (v := iI 329) hx hb dX12_image_29 (by decide +kernel) ?_
          refine lv_iload_n hx hb dX12_image_32 rfl (lv_at hl 2 rfl) ?_
          refine r_imul (v := iI (329 * x0)) M (iI_mul _ _) dX12_image_33 ?_
          refine lv_iload_n hx hb dX12_image_34 rfl (lv_at hl 0 rfl) ?_
          refine r_iadd (v := iI ((329 * x0) + z7)) M (iI_add _ _) dX12_image_35 ?_
          refine lv_aload_n hx hb dX12_image_36 rfl (lv_at hl 1 rfl) ?_
          refine r_get (v := .ref a2) M w 0 14 clX12 rfl (by decide) G1477 rfl rfl dX12_image_37 ?_
          refine lv_iload_n hx hb dX12_image_40 rfl (lv_at hl 0 rfl) ?_
          refine r_iald (v := iI (f0 z7)) M w 1 rfl (iI_in (by omega) (by omega) (by decide)) (cI_at (by omega) (by omega)) dX12_image_41 ?_
          have hh12 : (-2147483648) ≤ (f0 z7) ∧ (f0 z7) ≤ 2147483647 := f0_h.1 z7
          refine r_iast (ws' := [(a0, .inr (11, [.int (iI 0), .ref a1, .int (iI x1), .int (iI x2), .int (iI x3), .int (iI x4), .int (iI x5), .int (iI x6), .int r1, .int (iI x7), .int (iI x8), .int (iI x9), .long y0, .int (iI x10), .ref a2, .ref a3, .ref a4, .ref a5, .ref a6, .ref a7, .ref a8, .ref a9, .ref a10, .ref a11, .int (iI x11), .ref a12, .ref a13, .ref a14, .ref a15, .int (iI x12), .int r2, .int r3, .ref a16, .int (iI x13), .int (iI x14), .ref a17, .ref a18, .int (iI x15), .ref a19, .int (iI x16), .int r4, .ref a20, .ref a21, .int (iI x17), .int r5, .ref a22, .int (iI x18), .int (iI x19), .int (iI x20), .int (iI x21)])), (a2, .inl (T 0, 329, .inl (cI f0))), (a4, .inl (T 0, 658, .inl (cI (upz (cpz f0 f1 0 (329 * x0) z7) ((329 * x0) + z7) (f0 z7))))), (a7, .inl (T 1, 12, .inr (.inl h0))), (a9, .inl (T 1, 24, .inr (.inl h1))), (a10, .inl (T 2, 2, .inl (cI f2)))]) M w 2 rfl (iI_in (by omega) (by omega) (by decide)) (by rw [cI_up (by omega) (by omega)]; rfl) dX12_image_42 (fun H locs w => ?_)
          refine lv_iinc (v := iI (z7 + 1)) (lv' := [(2, .int (iI (z7 + 1))), (0, .ref a0), (1, .int (iI x0))]) hx hb dX12_image_43 hl (k := 0) rfl (ii_inc (by decide +kernel)) (by decide) rfl (fun ls hl => ?_)
          refine lv_goto (tgt := 18) hx hb dX12_image_46 (by decide) ?_
          have w := WD.eq (ws' := [(a0, .inr (11, [.int (iI 0), .ref a1, .int (iI x1), .int (iI x2), .int (iI x3), .int (iI x4), .int (iI x5), .int (iI x6), .int r1, .int (iI x7), .int (iI x8), .int (iI x9), .long y0, .int (iI x10), .ref a2, .ref a3, .ref a4, .ref a5, .ref a6, .ref a7, .ref a8, .ref a9, .ref a10, .ref a11, .int (iI x11), .ref a12, .ref a13, .ref a14, .ref a15, .int (iI x12), .int r2, .int r3, .ref a16, .int (iI x13), .int (iI x14), .ref a17, .ref a18, .int (iI x15), .ref a19, .int (iI x16), .int r4, .ref a20, .ref a21, .int (iI x17), .int r5, .ref a22, .int (iI x18), .int (iI x19), .int (iI x20), .int (iI x21)])), (a2, .inl (T 0, 329, .inl (cI f0))), (a4, .inl (T 0, 658, .inl (cI (cpz f0 f1 0 (329 * x0) (z7 + 1))))), (a7, .inl (T 1, 12, .inr (.inl h0))), (a9, .inl (T 1, 24, .inr (.inl h1))), (a10, .inl (T 2, 2, .inl (cI f2)))]) (by rw [← cpz_t (c := f0) (d := f1) (sp := 0) (dp := (329 * x0)) (k := z7) (k' := (z7 + 1)) (i := ((329 * x0) + z7)) (x := (f0 z7)) (by omega) (by omega) (by omega) (congrArg f0 (by omega))]) w
          exact ih1 (z7 + 1) _ _ _ (by omega) (by omega) (by omega) w (lv_sub hl [0, 1, 2] rfl)
    exact loop1 ((329 : Int).toNat + 1) 0 _ _ _ (by decide) (by decide) (Nat.lt_succ_self _) w (lv_sub hl [0, 1, 2] rfl)
set_option maxRecDepth 100000 in
set_option maxHeartbeats 4000000 in
theorem c121_X12_restore (l : Launch) (D : va_G) (T : Nat → ClassId) (sz : Nat) (a0 : Nat) (x0 : Int) (r0 : Int32) (a1 : Nat) (x1 : Int) (x2 : Int) (x3 : Int) (x4 : Int) (x5 : Int) (x6 : Int) (r1 : Int32) (x7 : Int) (x8 : Int) (x9 : Int) (y0 : Int64) (x10 : Int) (a2 : Nat) (a3 : Nat) (a4 : Nat) (a5 : Nat) (a6 : Nat) (a7 : Nat) (a8 : Nat) (a9 : Nat) (a10 : Nat) (a11 : Nat) (x11 : Int) (a12 : Nat) (a13 : Nat) (a14 : Nat) (a15 : Nat) (x12 : Int) (r2 : Int32) (r3 : Int32) (a16 : Nat) (x13 : Int) (x14 : Int) (a17 : Nat) (a18 : Nat) (x15 : Int) (a19 : Nat) (x16 : Int) (r4 : Int32) (a20 : Nat) (a21 : Nat) (x17 : Int) (r5 : Int32) (a22 : Nat) (x18 : Int) (x19 : Int) (x20 : Int) (x21 : Int) (f0 : Int → Int) (f1 : Int → Int) (f2 : Int → Int) (h0 : Nat → Int64) (h1 : Nat → Int64) (f3 : Int → Int) (x0_a : (-2147483648) ≤ x0) (x0_b : x0 ≤ 2147483647) (x1_a : 0 ≤ x1) (x1_b : x1 ≤ 940) (x2_a : 0 ≤ x2) (x2_b : x2 ≤ 940) (x3_a : 0 ≤ x3) (x3_b : x3 ≤ 940) (x4_a : 0 ≤ x4) (x4_b : x4 ≤ 940) (x5_a : 0 ≤ x5) (x5_b : x5 ≤ 940) (x6_a : 0 ≤ x6) (x6_b : x6 ≤ 4) (x7_a : (-2147483648) ≤ x7) (x7_b : x7 ≤ 2147483647) (x8_a : (-2147483648) ≤ x8) (x8_b : x8 ≤ 2147483647) (x9_a : 0 ≤ x9) (x9_b : x9 ≤ 940) (x10_a : (-2147483648) ≤ x10) (x10_b : x10 ≤ 2147483647) (x11_a : 0 ≤ x11) (x11_b : x11 ≤ 8) (x12_a : 0 ≤ x12) (x12_b : x12 ≤ 9) (x13_a : (-1) ≤ x13) (x13_b : x13 ≤ 9) (x14_a : (-1) ≤ x14) (x14_b : x14 ≤ 8) (x15_a : 0 ≤ x15) (x15_b : x15 ≤ 9) (x16_a : 0 ≤ x16) (x16_b : x16 ≤ 64) (x17_a : 0 ≤ x17) (x17_b : x17 ≤ 40) (x18_a : 0 ≤ x18) (x18_b : x18 ≤ 40) (x19_a : 0 ≤ x19) (x19_b : x19 ≤ 20) (x20_a : 0 ≤ x20) (x20_b : x20 ≤ 8) (x21_a : 0 ≤ x21) (x21_b : x21 ≤ 39) (f0_h : nowI f0) (f1_h : FL f1) (f2_h : FL f2) (f3_h : rng 0 1 f3) (pp_k : kpI f1 f3) (pp_s : snI f2 x11) : Met l yX12_restore (Cond.code yX12_restore cX12_restore 3 (some .boolean) :: GW) (Rm 1 0 0) (cPre [.ref a0, .int (iI x0)] D T [(a0, .inr (11, [.int r0, .ref a1, .int (iI x1), .int (iI x2), .int (iI x3), .int (iI x4), .int (iI x5), .int (iI x6), .int r1, .int (iI x7), .int (iI x8), .int (iI x9), .long y0, .int (iI x10), .ref a2, .ref a3, .ref a4, .ref a5, .ref a6, .ref a7, .ref a8, .ref a9, .ref a10, .ref a11, .int (iI x11), .ref a12, .ref a13, .ref a14, .ref a15, .int (iI x12), .int r2, .int r3, .ref a16, .int (iI x13), .int (iI x14), .ref a17, .ref a18, .int (iI x15), .ref a19, .int (iI x16), .int r4, .ref a20, .ref a21, .int (iI x17), .int r5, .ref a22, .int (iI x18), .int (iI x19), .int (iI x20), .int (iI x21)])), (a2, .inl (T 0, 329, .inl (cI f0))), (a4, .inl (T 0, 658, .inl (cI f1))), (a5, .inl (T 0, 272, .inl (cI f2))), (a7, .inl (T 1, 12, .inr (.inl h0))), (a9, .inl (T 1, 24, .inr (.inl h1))), (a10, .inl (T 2, 2, .inl (cI f3)))] sz) (qI D [(a0, .inr (11, [.int r0, .ref a1, .int (iI x1), .int (iI x2), .int (iI x3), .int (iI x4), .int (iI x5), .int (iI x6), .int r1, .int (iI x7), .int (iI x8), .int (iI x9), .long y0, .int (iI x10), .ref a2, .ref a3, .ref a4, .ref a5, .ref a6, .ref a7, .ref a8, .ref a9, .ref a10, .ref a11, .int (iI x11), .ref a12, .ref a13, .ref a14, .ref a15, .int (iI x12), .int r2, .int r3, .ref a16, .int (iI x13), .int (iI x14), .ref a17, .ref a18, .int (iI x15), .ref a19, .int (iI x16), .int r4, .ref a20, .ref a21, .int (iI x17), .int r5, .ref a22, .int (iI x18), .int (iI x19), .int (iI x20), .int (iI x21)])), (a2, .inl (T 0, 329, .inl (cI f0))), (a4, .inl (T 0, 658, .inl (cI f1))), (a5, .inl (T 0, 272, .inl (cI f2))), (a7, .inl (T 1, 12, .inr (.inl h0))), (a9, .inl (T 1, 24, .inr (.inl h1))), (a10, .inl (T 2, 2, .inl (cI f3)))] sz (fun (v : Int32) (u : Int × Int32 × Int × Int32 × (Int → Int) × (Nat → Int64)) => iI u.1 = v ∧ 0 ≤ u.1 ∧ u.1 ≤ 1 ∧ 0 ≤ u.2.2.1 ∧ u.2.2.1 ≤ 8 ∧ nowI u.2.2.2.2.1 ∧ (rsT u.1 x0 f3) ∧ (snI f2 u.2.2.1) ∧ (rsH x0 f3 f0 u.2.2.2.2.1 f1 h0 u.2.2.2.2.2 h1)) (fun u => [(a0, .inr (11, [.int u.2.1, .ref a1, .int (iI x1), .int (iI x2), .int (iI x3), .int (iI x4), .int (iI x5), .int (iI x6), .int r1, .int (iI x7), .int (iI x8), .int (iI x9), .long y0, .int (iI x10), .ref a2, .ref a3, .ref a4, .ref a5, .ref a6, .ref a7, .ref a8, .ref a9, .ref a10, .ref a11, .int (iI u.2.2.1), .ref a12, .ref a13, .ref a14, .ref a15, .int (iI x12), .int r2, .int u.2.2.2.1, .ref a16, .int (iI x13), .int (iI x14), .ref a17, .ref a18, .int (iI x15), .ref a19, .int (iI x16), .int r4, .ref a20, .ref a21, .int (iI x17), .int r5, .ref a22, .int (iI x18), .int (iI x19), .int (iI x20), .int (iI x21)])), (a2, .inl (T 0, 329, .inl (cI u.2.2.2.2.1))), (a4, .inl (T 0, 658, .inl (cI f1))), (a5, .inl (T 0, 272, .inl (cI f2))), (a7, .inl (T 1, 12, .inr (.inl u.2.2.2.2.2))), (a9, .inl (T 1, 24, .inr (.inl h1))), (a10, .inl (T 2, 2, .inl (cI f3)))])) 0 0 (va_A [(a0, .inr (11, [.int r0, .ref a1, .int (iI x1), .int (iI x2), .int (iI x3), .int (iI x4), .int (iI x5), .int (iI x6), .int r1, .int (iI x7), .int (iI x8), .int (iI x9), .long y0, .int (iI x10), .ref a2, .ref a3, .ref a4, .ref a5, .ref a6, .ref a7, .ref a8, .ref a9, .ref a10, .ref a11, .int (iI x11), .ref a12, .ref a13, .ref a14, .ref a15, .int (iI x12), .int r2, .int r3, .ref a16, .int (iI x13), .int (iI x14), .ref a17, .ref a18, .int (iI x15), .ref a19, .int (iI x16), .int r4, .ref a20, .ref a21, .int (iI x17), .int r5, .ref a22, .int (iI x18), .int (iI x19), .int (iI x20), .int (iI x21)])), (a2, .inl (T 0, 329, .inl (cI f0))), (a4, .inl (T 0, 658, .inl (cI f1))), (a5, .inl (T 0, 272, .inl (cI f2))), (a7, .inl (T 1, 12, .inr (.inl h0))), (a9, .inl (T 1, 24, .inr (.inl h1))), (a10, .inl (T 2, 2, .inl (cI f3)))] sz) := by
  refine e_Z (by decide) (Nat.le_of_ble_eq_true rfl) ?_
  intro p e s m args below meth c A Q ls M hin w ret hl
  have hx := M.1.1
  have hb := M.1.2.1
  have hl : lv_has ls 3 [(0, .ref a0), (1, .int (iI x0))] := hl
  refine lv_aload_n hx hb dX12_restore_0 rfl (lv_at hl 0 rfl) ?_
  refine lv_iconst (v := iI 0) hx hb dX12_restore_1 (by decide +kernel) ?_
  refine r_put (ws' := [(a0, .inr (11, [.int (iI 0), .ref a1, .int (iI x1), .int (iI x2), .int (iI x3), .int (iI x4), .int (iI x5), .int (iI x6), .int r1, .int (iI x7), .int (iI x8), .int (iI x9), .long y0, .int (iI x10), .ref a2, .ref a3, .ref a4, .ref a5, .ref a6, .ref a7, .ref a8, .ref a9, .ref a10, .ref a11, .int (iI x11), .ref a12, .ref a13, .ref a14, .ref a15, .int (iI x12), .int r2, .int r3, .ref a16, .int (iI x13), .int (iI x14), .ref a17, .ref a18, .int (iI x15), .ref a19, .int (iI x16), .int r4, .ref a20, .ref a21, .int (iI x17), .int r5, .ref a22, .int (iI x18), .int (iI x19), .int (iI x20), .int (iI x21)])), (a2, .inl (T 0, 329, .inl (cI f0))), (a4, .inl (T 0, 658, .inl (cI f1))), (a5, .inl (T 0, 272, .inl (cI f2))), (a7, .inl (T 1, 12, .inr (.inl h0))), (a9, .inl (T 1, 24, .inr (.inl h1))), (a10, .inl (T 2, 2, .inl (cI f3)))]) M w 0 0 clX12 rfl (by decide) G1463 rfl rfl rfl rfl (Nat.le_of_ble_eq_true rfl) rfl dX12_restore_2 (fun H locs w => ?_)
  refine lv_iload_n hx hb dX12_restore_5 rfl (lv_at hl 1 rfl) ?_
  refine lv_iconst (v := iI 0) hx hb dX12_restore_6 (by decide +kernel) ?_
  refine lv_iconst (v := iI 1) hx hb dX12_restore_7 (by decide +kernel) ?_
  refine k_I (ce := 0) (sl := 0) (rest := []) (wr := [(a0, .inr (11, [.int (iI 0), .ref a1, .int (iI x1), .int (iI x2), .int (iI x3), .int (iI x4), .int (iI x5), .int (iI x6), .int r1, .int (iI x7), .int (iI x8), .int (iI x9), .long y0, .int (iI x10), .ref a2, .ref a3, .ref a4, .ref a5, .ref a6, .ref a7, .ref a8, .ref a9, .ref a10, .ref a11, .int (iI x11), .ref a12, .ref a13, .ref a14, .ref a15, .int (iI x12), .int r2, .int r3, .ref a16, .int (iI x13), .int (iI x14), .ref a17, .ref a18, .int (iI x15), .ref a19, .int (iI x16), .int r4, .ref a20, .ref a21, .int (iI x17), .int r5, .ref a22, .int (iI x18), .int (iI x19), .int (iI x20), .int (iI x21)])), (a2, .inl (T 0, 329, .inl (cI f0))), (a4, .inl (T 0, 658, .inl (cI f1))), (a5, .inl (T 0, 272, .inl (cI f2))), (a7, .inl (T 1, 12, .inr (.inl h0))), (a9, .inl (T 1, 24, .inr (.inl h1))), (a10, .inl (T 2, 2, .inl (cI f3)))]) (r_S (f := 0) [] M w V_HookedCityModel_75 G1693 (c6_X12_isIn l D T _ x0 0 1 x0_a x0_b (by decide) (by decide) (by decide) (by decide)) rfl (by decide) rfl hl.1 rfl (Nat.le_of_ble_eq_true rfl) dX12_restore_8 (by decide) (by decide) (by decide) (by decide)) w [] [0, 1, 2, 3, 4, 5, 6] rfl rfl (by decide) (by decide) rfl rfl (fun v z1 H locs hp w => ?_)
  have hv : iI z1 = v := hp.1
  subst hv
  have z1_a : 0 ≤ z1 := hp.2.1
  have z1_b : z1 ≤ 1 := hp.2.2.1
  have w : WD D A s.heap [(a0, .inr (11, [.int (iI 0), .ref a1, .int (iI x1), .int (iI x2), .int (iI x3), .int (iI x4), .int (iI x5), .int (iI x6), .int r1, .int (iI x7), .int (iI x8), .int (iI x9), .long y0, .int (iI x10), .ref a2, .ref a3, .ref a4, .ref a5, .ref a6, .ref a7, .ref a8, .ref a9, .ref a10, .ref a11, .int (iI x11), .ref a12, .ref a13, .ref a14, .ref a15, .int (iI x12), .int r2, .int r3, .ref a16, .int (iI x13), .int (iI x14), .ref a17, .ref a18, .int (iI x15), .ref a19, .int (iI x16), .int r4, .ref a20, .ref a21, .int (iI x17), .int r5, .ref a22, .int (iI x18), .int (iI x19), .int (iI x20), .int (iI x21)])), (a2, .inl (T 0, 329, .inl (cI f0))), (a4, .inl (T 0, 658, .inl (cI f1))), (a5, .inl (T 0, 272, .inl (cI f2))), (a7, .inl (T 1, 12, .inr (.inl h0))), (a9, .inl (T 1, 24, .inr (.inl h1))), (a10, .inl (T 2, 2, .inl (cI f3)))] H locs := w
  rcases hp.2.2.2 with ⟨c_2, hr⟩ | ⟨c_3, c_4, hr⟩ | ⟨c_5, c_6, hr⟩
  · subst hr
    refine lv_if_eq (tgt := 23) hx hb dX12_restore_11 (by decide) (fun _ => ?_) (fun c => absurd (by decide +kernel) c)
    refine lv_iconst (v := iI 0) hx hb dX12_restore_23 (by decide +kernel) ?_
    exact ret _ (0, (iI 0), x11, r3, f0, h0) _ _ _ _ _ [0, 1, 2, 3, 4, 5, 6] dX12_restore_24 (by decide +kernel) ⟨rfl, (show (0 : Int) ≤ 0 from by decide), (show (0 : Int) ≤ 1 from by decide), x11_a, x11_b, f0_h, (show rsT 0 x0 f3 from (by unfold rsT; omega)), (show snI f2 x11 from pp_s), (show rsH x0 f3 f0 f0 f1 h0 h0 h1 from (Or.inr ⟨by omega, rfl, rfl⟩))⟩ w (by decide) rfl
  · subst hr
    refine lv_if_eq (tgt := 23) hx hb dX12_restore_11 (by decide) (fun _ => ?_) (fun c => absurd (by decide +kernel) c)
    refine lv_iconst (v := iI 0) hx hb dX12_restore_23 (by decide +kernel) ?_
    exact ret _ (0, (iI 0), x11, r3, f0, h0) _ _ _ _ _ [0, 1, 2, 3, 4, 5, 6] dX12_restore_24 (by decide +kernel) ⟨rfl, (show (0 : Int) ≤ 0 from by decide), (show (0 : Int) ≤ 1 from by decide), x11_a, x11_b, f0_h, (show rsT 0 x0 f3 from (by unfold rsT; omega)), (show snI f2 x11 from pp_s), (show rsH x0 f3 f0 f0 f1 h0 h0 h1 from (Or.inr ⟨by omega, rfl, rfl⟩))⟩ w (by decide) rfl
  · subst hr
    refine lv_if_eq (tgt := 23) hx hb dX12_restore_11 (by decide) (fun c => absurd c (by decide +kernel)) (fun _ => ?_)
    refine lv_aload_n hx hb dX12_restore_14 rfl (lv_at hl 0 rfl) ?_
    refine r_get (v := .ref a10) M w 0 22 clX12 rfl (by decide) G1485 rfl rfl dX12_restore_15 ?_
    refine lv_iload_n hx hb dX12_restore_18 rfl (lv_at hl 1 rfl) ?_
    refine r_zald (v := iI (f3 x0)) M w 6 rfl (iI_in (by omega) (by omega) (by decide)) (cI_at (by omega) (by omega)) dX12_restore_19 ?_
    have hh7 : 0 ≤ (f3 x0) ∧ (f3 x0) ≤ 1 := f3_h x0
    refine lv_if_ne (tgt := 25) hx hb dX12_restore_20 (by decide) (fun c_8 => ?_) (fun c_8 => ?_)
    · replace c_8 : ¬ (f3 x0) = 0 := fun h => c_8 ((iz_eq (by omega) (by omega)).mpr h)
      refine lv_iconst (v := iI 0) hx hb dX12_restore_25 (by decide +kernel) ?_
      refine lv_istore_n (lv' := [(2, .int (iI 0)), (0, .ref a0), (1, .int (iI x0))]) hx hb dX12_restore_26 rfl hl (by decide) rfl (fun ls hl => ?_)
      have w := WD.eq (ws' := [(a0, .inr (11, [.int (iI 0), .ref a1, .int (iI x1), .int (iI x2), .int (iI x3), .int (iI x4), .int (iI x5), .int (iI x6), .int r1, .int (iI x7), .int (iI x8), .int (iI x9), .long y0, .int (iI x10), .ref a2, .ref a3, .ref a4, .ref a5, .ref a6, .ref a7, .ref a8, .ref a9, .ref a10, .ref a11, .int (iI x11), .ref a12, .ref a13, .ref a14, .ref a15, .int (iI x12), .int r2, .int r3, .ref a16, .int (iI x13), .int (iI x14), .ref a17, .ref a18, .int (iI x15), .ref a19, .int (iI x16), .int r4, .ref a20, .ref a21, .int (iI x17), .int r5, .ref a22, .int (iI x18), .int (iI x19), .int (iI x20), .int (iI x21)])), (a2, .inl (T 0, 329, .inl (cI (cpz f1 f0 (329 * x0) 0 0)))), (a4, .inl (T 0, 658, .inl (cI f1))), (a5, .inl (T 0, 272, .inl (cI f2))), (a7, .inl (T 1, 12, .inr (.inl h0))), (a9, .inl (T 1, 24, .inr (.inl h1))), (a10, .inl (T 2, 2, .inl (cI f3)))]) (by rw [cpz_0 (c := f1) (d := f0) (sp := (329 * x0)) (dp := 0) (n := 0) (by decide)]) w
      have loop1 : ∀ (k1 : Nat) (z9 : Int) (H : Heap) (locs : List Loc) (ls : Array Slot), 0 ≤ z9 → z9 ≤ 329 → ((329 - z9) : Int).toNat < k1 → WD D A s.heap [(a0, .inr (11, [.int (iI 0), .ref a1, .int (iI x1), .int (iI x2), .int (iI x3), .int (iI x4), .int (iI x5), .int (iI x6), .int r1, .int (iI x7), .int (iI x8), .int (iI x9), .long y0, .int (iI x10), .ref a2, .ref a3, .ref a4, .ref a5, .ref a6, .ref a7, .ref a8, .ref a9, .ref a10, .ref a11, .int (iI x11), .ref a12, .ref a13, .ref a14, .ref a15, .int (iI x12), .int r2, .int r3, .ref a16, .int (iI x13), .int (iI x14), .ref a17, .ref a18, .int (iI x15), .ref a19, .int (iI x16), .int r4, .ref a20, .ref a21, .int (iI x17), .int r5, .ref a22, .int (iI x18), .int (iI x19), .int (iI x20), .int (iI x21)])), (a2, .inl (T 0, 329, .inl (cI (cpz f1 f0 (329 * x0) 0 z9)))), (a4, .inl (T 0, 658, .inl (cI f1))), (a5, .inl (T 0, 272, .inl (cI f2))), (a7, .inl (T 1, 12, .inr (.inl h0))), (a9, .inl (T 1, 24, .inr (.inl h1))), (a10, .inl (T 2, 2, .inl (cI f3)))] H locs → lv_has ls 3 [(2, .int (iI z9)), (0, .ref a0), (1, .int (iI x0))] → W p l e (Rm 1 0 0) s m args below meth c H locs 0 0 Q (F0 m 27 ls []) := by
        intro k1
        induction k1 with
        | zero => intro z9 H locs ls z9_a z9_b hm; exact absurd hm (Nat.not_lt_zero _)
        | succ k1 ih1 =>
          intro z9 H locs ls z9_a z9_b hm1 w hl
          refine lv_iload_n hx hb dX12_restore_27 rfl (lv_at hl 0 rfl) ?_
          refine lv_sipush (v := iI 329) hx hb dX12_restore_28 (by decide +kernel) ?_
          refine lv_icmp_ge (tgt := 58) hx hb dX12_restore_31 (by decide) (fun c_10 => ?_) (fun c_10 => ?_)
          · replace c_10 := (iI_le (by decide) (by decide) (Int.le_trans (by decide) z9_a) (Int.le_trans z9_b (by decide))).mp c_10
            obtain rfl : z9 = 329 := by omega
            refine lv_iconst (v := iI 0) hx hb dX12_restore_58 (by decide +kernel) ?_
            refine lv_istore_n (lv' := [(2, .int (iI 0)), (0, .ref a0), (1, .int (iI x0))]) hx hb dX12_restore_59 rfl hl (by decide) rfl (fun ls hl => ?_)
            have loop2 : ∀ (k2 : Nat) (fh11 : Nat → Int64) (z12 : Int) (H : Heap) (locs : List Loc) (ls : Array Slot), 0 ≤ z12 → z12 ≤ 12 → (∀ j : Int, 0 ≤ j → j < z12 → fh11 (ix j) = h1 (ix (12 * x0 + j))) → ((12 - z12) : Int).toNat < k2 → WD D A s.heap [(a0, .inr (11, [.int (iI 0), .ref a1, .int (iI x1), .int (iI x2), .int (iI x3), .int (iI x4), .int (iI x5), .int (iI x6), .int r1, .int (iI x7), .int (iI x8), .int (iI x9), .long y0, .int (iI x10), .ref a2, .ref a3, .ref a4, .ref a5, .ref a6, .ref a7, .ref a8, .ref a9, .ref a10, .ref a11, .int (iI x11), .ref a12, .ref a13, .ref a14, .ref a15, .int (iI x12), .int r2, .int r3, .ref a16, .int (iI x13), .int (iI x14), .ref a17, .ref a18, .int (iI x15), .ref a19, .int (iI x16), .int r4, .ref a20, .ref a21, .int (iI x17), .int r5, .ref a22, .int (iI x18), .int (iI x19), .int (iI x20), .int (iI x21)])), (a2, .inl (T 0, 329, .inl (cI (cpz f1 f0 (329 * x0) 0 329)))), (a4, .inl (T 0, 658, .inl (cI f1))), (a5, .inl (T 0, 272, .inl (cI f2))), (a7, .inl (T 1, 12, .inr (.inl fh11))), (a9, .inl (T 1, 24, .inr (.inl h1))), (a10, .inl (T 2, 2, .inl (cI f3)))] H locs → lv_has ls 3 [(2, .int (iI z12)), (0, .ref a0), (1, .int (iI x0))] → W p l e (Rm 1 0 0) s m args below meth c H locs 0 0 Q (F0 m 60 ls []) := by
              intro k2
              induction k2 with
              | zero => intro fh11 z12 H locs ls z12_a z12_b lq2_j hm; exact absurd hm (Nat.not_lt_zero _)
              | succ k2 ih2 =>
                intro fh11 z12 H locs ls z12_a z12_b lq2_j hm2 w hl
                refine lv_iload_n hx hb dX12_restore_60 rfl (lv_at hl 0 rfl) ?_
                refine lv_bipush (v := iI 12) hx hb dX12_restore_61 (by decide +kernel) ?_
                refine lv_icmp_ge (tgt := 89) hx hb dX12_restore_63 (by decide) (fun c_13 => ?_) (fun c_13 => ?_)
                · replace c_13 := (iI_le (by decide) (by decide) (Int.le_trans (by decide) z12_a) (Int.le_trans z12_b (by decide))).mp c_13
                  refine lv_aload_n hx hb dX12_restore_89 rfl (lv_at hl 1 rfl) ?_
                  refine lv_iconst (v := iI 0) hx hb dX12_restore_90 (by decide +kernel) ?_
                  refine r_put (ws' := [(a0, .inr (11, [.int (iI 0), .ref a1, .int (iI x1), .int (iI x2), .int (iI x3), .int (iI x4), .int (iI x5), .int (iI x6), .int r1, .int (iI x7), .int (iI x8), .int (iI x9), .long y0, .int (iI x10), .ref a2, .ref a3, .ref a4, .ref a5, .ref a6, .ref a7, .ref a8, .ref a9, .ref a10, .ref a11, .int (iI 0), .ref a12, .ref a13, .ref a14, .ref a15, .int (iI x12), .int r2, .int r3, .ref a16, .int (iI x13), .int (iI x14), .ref a17, .ref a18, .int (iI x15), .ref a19, .int (iI x16), .int r4, .ref a20, .ref a21, .int (iI x17), .int r5, .ref a22, .int (iI x18), .int (iI x19), .int (iI x20), .int (iI x21)])), (a2, .inl (T 0, 329, .inl (cI (cpz f1 f0 (329 * x0) 0 329)))), (a4, .inl (T 0, 658, .inl (cI f1))), (a5, .inl (T 0, 272, .inl (cI f2))), (a7, .inl (T 1, 12, .inr (.inl fh11))), (a9, .inl (T 1, 24, .inr (.inl h1))), (a10, .inl (T 2, 2, .inl (cI f3)))]) M w 0 24 clX12 rfl (by decide) G1487 rfl rfl rfl rfl (Nat.le_of_ble_eq_true rfl) rfl dX12_restore_91 (fun H locs w => ?_)
                  refine lv_aload_n hx hb dX12_restore_94 rfl (lv_at hl 1 rfl) ?_
                  refine lv_iconst (v := iI 0) hx hb dX12_restore_95 (by decide +kernel) ?_
                  refine r_put (ws' := [(a0, .inr (11, [.int (iI 0), .ref a1, .int (iI x1), .int (iI x2), .int (iI x3), .int (iI x4), .int (iI x5), .int (iI x6), .int r1, .int (iI x7), .int (iI x8), .int (iI x9), .long y0, .int (iI x10), .ref a2, .ref a3, .ref a4, .ref a5, .ref a6, .ref a7, .ref a8, .ref a9, .ref a10, .ref a11, .int (iI 0), .ref a12, .ref a13, .ref a14, .ref a15, .int (iI x12), .int r2, .int (iI 0), .ref a16, .int (iI x13), .int (iI x14), .ref a17, .ref a18, .int (iI x15), .ref a19, .int (iI x16), .int r4, .ref a20, .ref a21, .int (iI x17), .int r5, .ref a22, .int (iI x18), .int (iI x19), .int (iI x20), .int (iI x21)])), (a2, .inl (T 0, 329, .inl (cI (cpz f1 f0 (329 * x0) 0 329)))), (a4, .inl (T 0, 658, .inl (cI f1))), (a5, .inl (T 0, 272, .inl (cI f2))), (a7, .inl (T 1, 12, .inr (.inl fh11))), (a9, .inl (T 1, 24, .inr (.inl h1))), (a10, .inl (T 2, 2, .inl (cI f3)))]) M w 0 31 clX12 rfl (by decide) G1494 rfl rfl (by decide +kernel) (by decide +kernel) (Nat.le_of_ble_eq_true rfl) rfl dX12_restore_96 (fun H locs w => ?_)
                  refine lv_iconst (v := iI 1) hx hb dX12_restore_99 (by decide +kernel) ?_
                  exact ret _ (1, (iI 0), 0, (iI 0), (cpz f1 f0 (329 * x0) 0 329), fh11) _ _ _ _ _ [0, 1, 2, 3, 4, 5, 6] dX12_restore_100 (by decide +kernel) ⟨rfl, (show (0 : Int) ≤ 1 from by decide), (show (1 : Int) ≤ 1 from by decide), (show (0 : Int) ≤ 0 from by decide), (show (0 : Int) ≤ 8 from by decide), (res_cp (pp_k _ (by omega) (by omega) (by omega)) f1_h f0_h.1), (show rsT 1 x0 f3 from (by unfold rsT; omega)), (show snI f2 0 from (sn_le pp_s (by omega))), (show rsH x0 f3 f0 (cpz f1 f0 (329 * x0) 0 329) f1 h0 fh11 h1 from (Or.inl ⟨by omega, by omega, by omega, fun i i0 i1 => cpz_in0 i0 (by omega), fun j j0 j1 => lq2_j j j0 (by omega)⟩))⟩ w (by decide) rfl
                · replace c_13 : z12 < 12 := Int.not_le.mp (fun h => c_13 ((iI_le (by decide) (by decide) (Int.le_trans (by decide) z12_a) (Int.le_trans z12_b (by decide))).mpr h))
                  refine lv_aload_n hx hb dX12_restore_66 rfl (lv_at hl 1 rfl) ?_
                  refine r_get (v := .ref a7) M w 0 19 clX12 rfl (by decide) G1482 rfl rfl dX12_restore_67 ?_
                  refine lv_iload_n hx hb dX12_restore_70 rfl (lv_at hl 0 rfl) ?_
                  refine lv_aload_n hx hb dX12_restore_71 rfl (lv_at hl 1 rfl) ?_
                  refine r_get (v := .ref a9) M w 0 21 clX12 rfl (by decide) G1484 rfl rfl dX12_restore_72 ?_
                  refine lv_bipush (v := iI 12) hx hb dX12_restore_75 (by decide +kernel) ?_
                  refine lv_iload_n hx hb dX12_restore_77 rfl (lv_at hl 2 rfl) ?_
                  refine r_imul (v := iI (12 * x0)) M (iI_mul _ _) dX12_restore_78 ?_
                  refine lv_iload_n hx hb dX12_restore_79 rfl (lv_at hl 0 rfl) ?_
                  refine r_iadd (v := iI ((12 * x0) + z12)) M (iI_add _ _) dX12_restore_80 ?_
                  refine r_lald (v := (h1 (Int32.toNatClampNeg (iI ((12 * x0) + z12))))) M w 5 rfl (iI_in (by omega) (by omega) (by decide)) rfl dX12_restore_81 ?_
                  refine r_last (ws' := [(a0, .inr (11, [.int (iI 0), .ref a1, .int (iI x1), .int (iI x2), .int (iI x3), .int (iI x4), .int (iI x5), .int (iI x6), .int r1, .int (iI x7), .int (iI x8), .int (iI x9), .long y0, .int (iI x10), .ref a2, .ref a3, .ref a4, .ref a5, .ref a6, .ref a7, .ref a8, .ref a9, .ref a10, .ref a11, .int (iI x11), .ref a12, .ref a13, .ref a14, .ref a15, .int (iI x12), .int r2, .int r3, .ref a16, .int (iI x13), .int (iI x14), .ref a17, .ref a18, .int (iI x15), .ref a19, .int (iI x16), .int r4, .ref a20, .ref a21, .int (iI x17), .int r5, .ref a22, .int (iI x18), .int (iI x19), .int (iI x20), .int (iI x21)])), (a2, .inl (T 0, 329, .inl (cI (cpz f1 f0 (329 * x0) 0 329)))), (a4, .inl (T 0, 658, .inl (cI f1))), (a5, .inl (T 0, 272, .inl (cI f2))), (a7, .inl (T 1, 12, .inr (.inl (vp_updL fh11 (Int32.toNatClampNeg (iI z12)) (h1 (Int32.toNatClampNeg (iI ((12 * x0) + z12)))))))), (a9, .inl (T 1, 24, .inr (.inl h1))), (a10, .inl (T 2, 2, .inl (cI f3)))]) M w 4 rfl (iI_in (by omega) (by omega) (by decide)) rfl dX12_restore_82 (fun H locs w => ?_)
                  refine lv_iinc (v := iI (z12 + 1)) (lv' := [(2, .int (iI (z12 + 1))), (0, .ref a0), (1, .int (iI x0))]) hx hb dX12_restore_83 hl (k := 0) rfl (ii_inc (by decide +kernel)) (by decide) rfl (fun ls hl => ?_)
                  refine lv_goto (tgt := 60) hx hb dX12_restore_86 (by decide) ?_
                  exact ih2 (vp_updL fh11 (Int32.toNatClampNeg (iI z12)) (h1 (Int32.toNatClampNeg (iI ((12 * x0) + z12))))) (z12 + 1) _ _ _ (by omega) (by omega) (fun j j0 j1 => nm_up2 lq2_j (by omega) (by omega) j0 j1) (by omega) w (lv_sub hl [0, 1, 2] rfl)
            exact loop2 ((12 : Int).toNat + 1) h0 0 _ _ _ (by decide) (by decide) (fun j j0 j1 => absurd j1 (by omega)) (Nat.lt_succ_self _) w (lv_sub hl [0, 1, 2] rfl)
          · replace c_10 : z9 < 329 := Int.not_le.mp (fun h => c_10 ((iI_le (by decide) (by decide) (Int.le_trans (by decide) z9_a) (Int.le_trans z9_b (by decide))).mpr h))
            refine lv_aload_n hx hb dX12_restore_34 rfl (lv_at hl 1 rfl) ?_
            refine r_get (v := .ref a2) M w 0 14 clX12 rfl (by decide) G1477 rfl rfl dX12_restore_35 ?_
            refine lv_iload_n hx hb dX12_restore_38 rfl (lv_at hl 0 rfl) ?_
            refine lv_aload_n hx hb dX12_restore_39 rfl (lv_at hl 1 rfl) ?_
            refine r_get (v := .ref a4) M w 0 16 clX12 rfl (by decide) G1479 rfl rfl dX12_restore_40 ?_
            refine lv_sipush (v := iI 329) hx hb dX12_restore_43 (by decide +kernel) ?_
            refine lv_iload_n hx hb dX12_restore_46 rfl (lv_at hl 2 rfl) ?_
            refine r_imul (v := iI (329 * x0)) M (iI_mul _ _) dX12_restore_47 ?_
            refine lv_iload_n hx hb dX12_restore_48 rfl (lv_at hl 0 rfl) ?_
            refine r_iadd (v := iI ((329 * x0) + z9)) M (iI_add _ _) dX12_restore_49 ?_
            refine r_iald (v := iI (f1 ((329 * x0) + z9))) M w 2 rfl (iI_in (by omega) (by omega) (by decide)) (cI_at (by omega) (by omega)) dX12_restore_50 ?_
            have hh14 : (-2147483648) ≤ (f1 ((329 * x0) + z9)) ∧ (f1 ((329 * x0) + z9)) ≤ 2147483647 := f1_h ((329 * x0) + z9)
            refine r_iast (ws' := [(a0, .inr (11, [.int (iI 0), .ref a1, .int (iI x1), .int (iI x2), .int (iI x3), .int (iI x4), .int (iI x5), .int (iI x6), .int r1, .int (iI x7), .int (iI x8), .int (iI x9), .long y0, .int (iI x10), .ref a2, .ref a3, .ref a4, .ref a5, .ref a6, .ref a7, .ref a8, .ref a9, .ref a10, .ref a11, .int (iI x11), .ref a12, .ref a13, .ref a14, .ref a15, .int (iI x12), .int r2, .int r3, .ref a16, .int (iI x13), .int (iI x14), .ref a17, .ref a18, .int (iI x15), .ref a19, .int (iI x16), .int r4, .ref a20, .ref a21, .int (iI x17), .int r5, .ref a22, .int (iI x18), .int (iI x19), .int (iI x20), .int (iI x21)])), (a2, .inl (T 0, 329, .inl (cI (upz (cpz f1 f0 (329 * x0) 0 z9) z9 (f1 ((329 * x0) + z9)))))), (a4, .inl (T 0, 658, .inl (cI f1))), (a5, .inl (T 0, 272, .inl (cI f2))), (a7, .inl (T 1, 12, .inr (.inl h0))), (a9, .inl (T 1, 24, .inr (.inl h1))), (a10, .inl (T 2, 2, .inl (cI f3)))]) M w 1 rfl (iI_in (by omega) (by omega) (by decide)) (by rw [cI_up (by omega) (by omega)]; rfl) dX12_restore_51 (fun H locs w => ?_)
            refine lv_iinc (v := iI (z9 + 1)) (lv' := [(2, .int (iI (z9 + 1))), (0, .ref a0), (1, .int (iI x0))]) hx hb dX12_restore_52 hl (k := 0) rfl (ii_inc (by decide +kernel)) (by decide) rfl (fun ls hl => ?_)
            refine lv_goto (tgt := 27) hx hb dX12_restore_55 (by decide) ?_
            have w := WD.eq (ws' := [(a0, .inr (11, [.int (iI 0), .ref a1, .int (iI x1), .int (iI x2), .int (iI x3), .int (iI x4), .int (iI x5), .int (iI x6), .int r1, .int (iI x7), .int (iI x8), .int (iI x9), .long y0, .int (iI x10), .ref a2, .ref a3, .ref a4, .ref a5, .ref a6, .ref a7, .ref a8, .ref a9, .ref a10, .ref a11, .int (iI x11), .ref a12, .ref a13, .ref a14, .ref a15, .int (iI x12), .int r2, .int r3, .ref a16, .int (iI x13), .int (iI x14), .ref a17, .ref a18, .int (iI x15), .ref a19, .int (iI x16), .int r4, .ref a20, .ref a21, .int (iI x17), .int r5, .ref a22, .int (iI x18), .int (iI x19), .int (iI x20), .int (iI x21)])), (a2, .inl (T 0, 329, .inl (cI (cpz f1 f0 (329 * x0) 0 (z9 + 1))))), (a4, .inl (T 0, 658, .inl (cI f1))), (a5, .inl (T 0, 272, .inl (cI f2))), (a7, .inl (T 1, 12, .inr (.inl h0))), (a9, .inl (T 1, 24, .inr (.inl h1))), (a10, .inl (T 2, 2, .inl (cI f3)))]) (by rw [← cpz_t (c := f1) (d := f0) (sp := (329 * x0)) (dp := 0) (k := z9) (k' := (z9 + 1)) (i := z9) (x := (f1 ((329 * x0) + z9))) (by omega) (by omega) (by omega) (congrArg f1 (by omega))]) w
            exact ih1 (z9 + 1) _ _ _ (by omega) (by omega) (by omega) w (lv_sub hl [0, 1, 2] rfl)
      exact loop1 ((329 : Int).toNat + 1) 0 _ _ _ (by decide) (by decide) (Nat.lt_succ_self _) w (lv_sub hl [0, 1, 2] rfl)
    · replace c_8 := (iz_eq (by omega) (by omega)).mp c_8
      refine lv_iconst (v := iI 0) hx hb dX12_restore_23 (by decide +kernel) ?_
      exact ret _ (0, (iI 0), x11, r3, f0, h0) _ _ _ _ _ [0, 1, 2, 3, 4, 5, 6] dX12_restore_24 (by decide +kernel) ⟨rfl, (show (0 : Int) ≤ 0 from by decide), (show (0 : Int) ≤ 1 from by decide), x11_a, x11_b, f0_h, (show rsT 0 x0 f3 from (by unfold rsT; omega)), (show snI f2 x11 from pp_s), (show rsH x0 f3 f0 f0 f1 h0 h0 h1 from (Or.inr ⟨by omega, rfl, rfl⟩))⟩ w (by decide) rfl
