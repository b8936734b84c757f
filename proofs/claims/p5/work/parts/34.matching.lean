theorem dX3_finds_0 : decode cX3_finds 0 = .ok (.iload_n 3, 1) := by decide +kernel
theorem dX3_finds_1 : decode cX3_finds 1 = .ok (.bipush 9, 2) := by decide +kernel
theorem dX3_finds_3 : decode cX3_finds 3 = .ok (.if_icmp .le 5, 3) := by decide +kernel
theorem dX3_finds_6 : decode cX3_finds 6 = .ok (.iconst 0, 1) := by decide +kernel
theorem dX3_finds_7 : decode cX3_finds 7 = .ok (.ireturn, 1) := by decide +kernel
theorem dX3_finds_8 : decode cX3_finds 8 = .ok (.iconst 0, 1) := by decide +kernel
theorem dX3_finds_9 : decode cX3_finds 9 = .ok (.istore 4, 2) := by decide +kernel
theorem dX3_finds_11 : decode cX3_finds 11 = .ok (.iload 4, 2) := by decide +kernel
theorem dX3_finds_13 : decode cX3_finds 13 = .ok (.aload_n 0, 1) := by decide +kernel
theorem dX3_finds_14 : decode cX3_finds 14 = .ok (.getfield 21, 3) := by decide +kernel
theorem G296 : Cond.fieldLink "HookedCity$Matching" 21 "HookedCity$Matching" "persons" "I" ∈ GW := gw_i 296 (by decide +kernel) rfl
theorem dX3_finds_17 : decode cX3_finds 17 = .ok (.if_icmp .ge 84, 3) := by decide +kernel
theorem dX3_finds_101 : decode cX3_finds 101 = .ok (.iconst 0, 1) := by decide +kernel
theorem dX3_finds_102 : decode cX3_finds 102 = .ok (.ireturn, 1) := by decide +kernel
theorem dX3_finds_20 : decode cX3_finds 20 = .ok (.aload_n 0, 1) := by decide +kernel
theorem dX3_finds_21 : decode cX3_finds 21 = .ok (.getfield 15, 3) := by decide +kernel
theorem G294 : Cond.fieldLink "HookedCity$Matching" 15 "HookedCity$Matching" "choices" "[I" ∈ GW := gw_i 294 (by decide +kernel) rfl
theorem dX3_finds_24 : decode cX3_finds 24 = .ok (.iload_n 1, 1) := by decide +kernel
theorem dX3_finds_25 : decode cX3_finds 25 = .ok (.iaload, 1) := by decide +kernel
theorem dX3_finds_26 : decode cX3_finds 26 = .ok (.iload_n 2, 1) := by decide +kernel
theorem dX3_finds_27 : decode cX3_finds 27 = .ok (.iand, 1) := by decide +kernel
theorem dX3_finds_28 : decode cX3_finds 28 = .ok (.aload_n 0, 1) := by decide +kernel
theorem dX3_finds_29 : decode cX3_finds 29 = .ok (.getfield 25, 3) := by decide +kernel
theorem G297 : Cond.fieldLink "HookedCity$Matching" 25 "HookedCity$Matching" "tried" "I" ∈ GW := gw_i 297 (by decide +kernel) rfl
theorem dX3_finds_32 : decode cX3_finds 32 = .ok (.iconst (-1), 1) := by decide +kernel
theorem dX3_finds_33 : decode cX3_finds 33 = .ok (.ixor, 1) := by decide +kernel
theorem dX3_finds_34 : decode cX3_finds 34 = .ok (.iand, 1) := by decide +kernel
theorem dX3_finds_35 : decode cX3_finds 35 = .ok (.iconst 1, 1) := by decide +kernel
theorem dX3_finds_36 : decode cX3_finds 36 = .ok (.iload 4, 2) := by decide +kernel
theorem dX3_finds_38 : decode cX3_finds 38 = .ok (.ishl, 1) := by decide +kernel
theorem dX3_finds_39 : decode cX3_finds 39 = .ok (.iand, 1) := by decide +kernel
theorem dX3_finds_40 : decode cX3_finds 40 = .ok (.ifCond .eq 55, 3) := by decide +kernel
theorem dX3_finds_95 : decode cX3_finds 95 = .ok (.iinc 4 1, 3) := by decide +kernel
theorem dX3_finds_98 : decode cX3_finds 98 = .ok (.goto (-87), 3) := by decide +kernel
theorem dX3_finds_43 : decode cX3_finds 43 = .ok (.aload_n 0, 1) := by decide +kernel
theorem dX3_finds_44 : decode cX3_finds 44 = .ok (.dup, 1) := by decide +kernel
theorem dX3_finds_45 : decode cX3_finds 45 = .ok (.getfield 25, 3) := by decide +kernel
theorem dX3_finds_48 : decode cX3_finds 48 = .ok (.iconst 1, 1) := by decide +kernel
theorem dX3_finds_49 : decode cX3_finds 49 = .ok (.iload 4, 2) := by decide +kernel
theorem dX3_finds_51 : decode cX3_finds 51 = .ok (.ishl, 1) := by decide +kernel
theorem dX3_finds_52 : decode cX3_finds 52 = .ok (.ior, 1) := by decide +kernel
theorem dX3_finds_53 : decode cX3_finds 53 = .ok (.putfield 25, 3) := by decide +kernel
theorem dX3_finds_56 : decode cX3_finds 56 = .ok (.aload_n 0, 1) := by decide +kernel
theorem dX3_finds_57 : decode cX3_finds 57 = .ok (.getfield 18, 3) := by decide +kernel
theorem G295 : Cond.fieldLink "HookedCity$Matching" 18 "HookedCity$Matching" "holders" "[I" ∈ GW := gw_i 295 (by decide +kernel) rfl
theorem dX3_finds_60 : decode cX3_finds 60 = .ok (.iload 4, 2) := by decide +kernel
theorem dX3_finds_62 : decode cX3_finds 62 = .ok (.iaload, 1) := by decide +kernel
theorem dX3_finds_63 : decode cX3_finds 63 = .ok (.iconst (-1), 1) := by decide +kernel
theorem dX3_finds_64 : decode cX3_finds 64 = .ok (.if_icmp .eq 21, 3) := by decide +kernel
theorem dX3_finds_85 : decode cX3_finds 85 = .ok (.aload_n 0, 1) := by decide +kernel
theorem dX3_finds_86 : decode cX3_finds 86 = .ok (.getfield 18, 3) := by decide +kernel
theorem dX3_finds_89 : decode cX3_finds 89 = .ok (.iload 4, 2) := by decide +kernel
theorem dX3_finds_91 : decode cX3_finds 91 = .ok (.iload_n 1, 1) := by decide +kernel
theorem dX3_finds_92 : decode cX3_finds 92 = .ok (.iastore, 1) := by decide +kernel
theorem dX3_finds_93 : decode cX3_finds 93 = .ok (.iconst 1, 1) := by decide +kernel
theorem dX3_finds_94 : decode cX3_finds 94 = .ok (.ireturn, 1) := by decide +kernel
theorem dX3_finds_67 : decode cX3_finds 67 = .ok (.aload_n 0, 1) := by decide +kernel
theorem dX3_finds_68 : decode cX3_finds 68 = .ok (.aload_n 0, 1) := by decide +kernel
theorem dX3_finds_69 : decode cX3_finds 69 = .ok (.getfield 18, 3) := by decide +kernel
theorem dX3_finds_72 : decode cX3_finds 72 = .ok (.iload 4, 2) := by decide +kernel
theorem dX3_finds_74 : decode cX3_finds 74 = .ok (.iaload, 1) := by decide +kernel
theorem dX3_finds_75 : decode cX3_finds 75 = .ok (.iload_n 2, 1) := by decide +kernel
theorem dX3_finds_76 : decode cX3_finds 76 = .ok (.iload_n 3, 1) := by decide +kernel
theorem dX3_finds_77 : decode cX3_finds 77 = .ok (.iconst 1, 1) := by decide +kernel
theorem dX3_finds_78 : decode cX3_finds 78 = .ok (.iadd, 1) := by decide +kernel
theorem dX3_finds_79 : decode cX3_finds 79 = .ok (.invokevirtual 65, 3) := by decide +kernel
theorem G974 : Cond.code ⟨"HookedCity$Matching", "finds", "(III)Z"⟩ prog_5_method_6_code 5 (some .boolean) ∈ GW := gw_i 974 (by decide +kernel) rfl
theorem G971 : Cond.methodLink "HookedCity$Matching" 65 ⟨"HookedCity$Matching", "finds", "(III)Z"⟩ ∈ GW := gw_i 971 (by decide +kernel) rfl
theorem G123 : Cond.initialized "HookedCity$Matching" ∈ GW := gw_i 123 (by decide +kernel) rfl
theorem V_HookedCity_Matching_65 : VL "HookedCity$Matching" 65 yX3_finds cX3_finds 5 (some .boolean) 3 := ⟨G974, G971, G123, by decide +kernel, by decide +kernel, by decide +kernel⟩
theorem G973 : Cond.instanceMethod ⟨"HookedCity$Matching", "finds", "(III)Z"⟩ ∈ GW := gw_i 973 (by decide +kernel) rfl
theorem G23 : Cond.selects "HookedCity$Matching" ⟨"HookedCity$Matching", "finds", "(III)Z"⟩ ⟨"HookedCity$Matching", "finds", "(III)Z"⟩ ∈ GW := gw_i 23 (by decide +kernel) rfl
theorem dX3_finds_82 : decode cX3_finds 82 = .ok (.ifCond .eq 13, 3) := by decide +kernel
theorem dX3_mostFrom_0 : decode cX3_mostFrom 0 = .ok (.aload_n 0, 1) := by decide +kernel
theorem dX3_mostFrom_1 : decode cX3_mostFrom 1 = .ok (.getfield 18, 3) := by decide +kernel
theorem dX3_mostFrom_4 : decode cX3_mostFrom 4 = .ok (.iconst (-1), 1) := by decide +kernel
theorem dX3_mostFrom_5 : decode cX3_mostFrom 5 = .ok (.invokestatic 28, 3) := by decide +kernel
theorem G289 : Cond.methodLink "HookedCity$Matching" 28 ⟨"java/util/Arrays", "fill", "([II)V"⟩ ∈ GW := gw_i 289 (by decide +kernel) rfl
theorem V_HookedCity_Matching_28 : VL "HookedCity$Matching" 28 yJ7_fill_53178 cJ7_fill_53178 4 none 2 := ⟨G291, G289, G124, by decide +kernel, by decide +kernel, by decide +kernel⟩
theorem dX3_mostFrom_8 : decode cX3_mostFrom 8 = .ok (.iconst 0, 1) := by decide +kernel
theorem dX3_mostFrom_9 : decode cX3_mostFrom 9 = .ok (.istore_n 3, 1) := by decide +kernel
theorem dX3_mostFrom_10 : decode cX3_mostFrom 10 = .ok (.iload_n 1, 1) := by decide +kernel
theorem dX3_mostFrom_11 : decode cX3_mostFrom 11 = .ok (.istore 4, 2) := by decide +kernel
theorem dX3_mostFrom_13 : decode cX3_mostFrom 13 = .ok (.iload 4, 2) := by decide +kernel
theorem dX3_mostFrom_15 : decode cX3_mostFrom 15 = .ok (.aload_n 0, 1) := by decide +kernel
theorem dX3_mostFrom_16 : decode cX3_mostFrom 16 = .ok (.getfield 21, 3) := by decide +kernel
theorem dX3_mostFrom_19 : decode cX3_mostFrom 19 = .ok (.if_icmp .ge 28, 3) := by decide +kernel
theorem dX3_mostFrom_47 : decode cX3_mostFrom 47 = .ok (.iload_n 3, 1) := by decide +kernel
theorem dX3_mostFrom_48 : decode cX3_mostFrom 48 = .ok (.ireturn, 1) := by decide +kernel
theorem dX3_mostFrom_22 : decode cX3_mostFrom 22 = .ok (.aload_n 0, 1) := by decide +kernel
theorem dX3_mostFrom_23 : decode cX3_mostFrom 23 = .ok (.iconst 0, 1) := by decide +kernel
theorem dX3_mostFrom_24 : decode cX3_mostFrom 24 = .ok (.putfield 25, 3) := by decide +kernel
theorem dX3_mostFrom_27 : decode cX3_mostFrom 27 = .ok (.aload_n 0, 1) := by decide +kernel
theorem dX3_mostFrom_28 : decode cX3_mostFrom 28 = .ok (.iload 4, 2) := by decide +kernel
theorem dX3_mostFrom_30 : decode cX3_mostFrom 30 = .ok (.iload_n 2, 1) := by decide +kernel
theorem dX3_mostFrom_31 : decode cX3_mostFrom 31 = .ok (.iconst 0, 1) := by decide +kernel
theorem dX3_mostFrom_32 : decode cX3_mostFrom 32 = .ok (.invokevirtual 65, 3) := by decide +kernel
theorem dX3_mostFrom_35 : decode cX3_mostFrom 35 = .ok (.ifCond .eq 6, 3) := by decide +kernel
theorem dX3_mostFrom_41 : decode cX3_mostFrom 41 = .ok (.iinc 4 1, 3) := by decide +kernel
theorem dX3_mostFrom_44 : decode cX3_mostFrom 44 = .ok (.goto (-31), 3) := by decide +kernel
theorem dX3_mostFrom_38 : decode cX3_mostFrom 38 = .ok (.iinc 3 1, 3) := by decide +kernel
theorem dX3_firstFor_0 : decode cX3_firstFor 0 = .ok (.aload_n 0, 1) := by decide +kernel
theorem dX3_firstFor_1 : decode cX3_firstFor 1 = .ok (.getfield 15, 3) := by decide +kernel
theorem dX3_firstFor_4 : decode cX3_firstFor 4 = .ok (.iload_n 1, 1) := by decide +kernel
theorem dX3_firstFor_5 : decode cX3_firstFor 5 = .ok (.iaload, 1) := by decide +kernel
theorem dX3_firstFor_6 : decode cX3_firstFor 6 = .ok (.iload_n 2, 1) := by decide +kernel
theorem dX3_firstFor_7 : decode cX3_firstFor 7 = .ok (.iand, 1) := by decide +kernel
theorem dX3_firstFor_8 : decode cX3_firstFor 8 = .ok (.istore 4, 2) := by decide +kernel
theorem dX3_firstFor_10 : decode cX3_firstFor 10 = .ok (.iconst 0, 1) := by decide +kernel
theorem dX3_firstFor_11 : decode cX3_firstFor 11 = .ok (.istore 5, 2) := by decide +kernel
theorem dX3_firstFor_13 : decode cX3_firstFor 13 = .ok (.iload 5, 2) := by decide +kernel
theorem dX3_firstFor_15 : decode cX3_firstFor 15 = .ok (.aload_n 0, 1) := by decide +kernel
theorem dX3_firstFor_16 : decode cX3_firstFor 16 = .ok (.getfield 21, 3) := by decide +kernel
theorem dX3_firstFor_19 : decode cX3_firstFor 19 = .ok (.if_icmp .ge 47, 3) := by decide +kernel
theorem dX3_firstFor_66 : decode cX3_firstFor 66 = .ok (.iconst (-1), 1) := by decide +kernel
theorem dX3_firstFor_67 : decode cX3_firstFor 67 = .ok (.ireturn, 1) := by decide +kernel
theorem dX3_firstFor_22 : decode cX3_firstFor 22 = .ok (.iload_n 3, 1) := by decide +kernel
theorem dX3_firstFor_23 : decode cX3_firstFor 23 = .ok (.ifCond .le 43, 3) := by decide +kernel
theorem dX3_firstFor_26 : decode cX3_firstFor 26 = .ok (.iload 4, 2) := by decide +kernel
theorem dX3_firstFor_28 : decode cX3_firstFor 28 = .ok (.iload 5, 2) := by decide +kernel
theorem dX3_firstFor_30 : decode cX3_firstFor 30 = .ok (.ishr, 1) := by decide +kernel
theorem dX3_firstFor_31 : decode cX3_firstFor 31 = .ok (.iconst 1, 1) := by decide +kernel
theorem dX3_firstFor_32 : decode cX3_firstFor 32 = .ok (.iand, 1) := by decide +kernel
theorem dX3_firstFor_33 : decode cX3_firstFor 33 = .ok (.ifCond .eq 27, 3) := by decide +kernel
theorem dX3_firstFor_60 : decode cX3_firstFor 60 = .ok (.iinc 5 1, 3) := by decide +kernel
theorem dX3_firstFor_63 : decode cX3_firstFor 63 = .ok (.goto (-50), 3) := by decide +kernel
theorem dX3_firstFor_36 : decode cX3_firstFor 36 = .ok (.aload_n 0, 1) := by decide +kernel
theorem dX3_firstFor_37 : decode cX3_firstFor 37 = .ok (.iload_n 1, 1) := by decide +kernel
theorem dX3_firstFor_38 : decode cX3_firstFor 38 = .ok (.iconst 1, 1) := by decide +kernel
theorem dX3_firstFor_39 : decode cX3_firstFor 39 = .ok (.iadd, 1) := by decide +kernel
theorem dX3_firstFor_40 : decode cX3_firstFor 40 = .ok (.iload_n 2, 1) := by decide +kernel
theorem dX3_firstFor_41 : decode cX3_firstFor 41 = .ok (.iconst 1, 1) := by decide +kernel
theorem dX3_firstFor_42 : decode cX3_firstFor 42 = .ok (.iload 5, 2) := by decide +kernel
theorem dX3_firstFor_44 : decode cX3_firstFor 44 = .ok (.ishl, 1) := by decide +kernel
theorem dX3_firstFor_45 : decode cX3_firstFor 45 = .ok (.iconst (-1), 1) := by decide +kernel
theorem dX3_firstFor_46 : decode cX3_firstFor 46 = .ok (.ixor, 1) := by decide +kernel
theorem dX3_firstFor_47 : decode cX3_firstFor 47 = .ok (.iand, 1) := by decide +kernel
theorem dX3_firstFor_48 : decode cX3_firstFor 48 = .ok (.invokevirtual 45, 3) := by decide +kernel
theorem G970 : Cond.code ⟨"HookedCity$Matching", "mostFrom", "(II)I"⟩ prog_5_method_5_code 5 (some .int) ∈ GW := gw_i 970 (by decide +kernel) rfl
theorem G967 : Cond.methodLink "HookedCity$Matching" 45 ⟨"HookedCity$Matching", "mostFrom", "(II)I"⟩ ∈ GW := gw_i 967 (by decide +kernel) rfl
theorem V_HookedCity_Matching_45 : VL "HookedCity$Matching" 45 yX3_mostFrom cX3_mostFrom 5 (some .int) 2 := ⟨G970, G967, G123, by decide +kernel, by decide +kernel, by decide +kernel⟩
theorem G969 : Cond.instanceMethod ⟨"HookedCity$Matching", "mostFrom", "(II)I"⟩ ∈ GW := gw_i 969 (by decide +kernel) rfl
theorem G22 : Cond.selects "HookedCity$Matching" ⟨"HookedCity$Matching", "mostFrom", "(II)I"⟩ ⟨"HookedCity$Matching", "mostFrom", "(II)I"⟩ ∈ GW := gw_i 22 (by decide +kernel) rfl
theorem dX3_firstFor_51 : decode cX3_firstFor 51 = .ok (.iload_n 3, 1) := by decide +kernel
theorem dX3_firstFor_52 : decode cX3_firstFor 52 = .ok (.iconst 1, 1) := by decide +kernel
theorem dX3_firstFor_53 : decode cX3_firstFor 53 = .ok (.isub, 1) := by decide +kernel
theorem dX3_firstFor_54 : decode cX3_firstFor 54 = .ok (.if_icmp .ne 6, 3) := by decide +kernel
theorem dX3_firstFor_57 : decode cX3_firstFor 57 = .ok (.iload 5, 2) := by decide +kernel
theorem dX3_firstFor_59 : decode cX3_firstFor 59 = .ok (.ireturn, 1) := by decide +kernel
theorem dX3_choicesOf_0 : decode cX3_choicesOf 0 = .ok (.iconst 0, 1) := by decide +kernel
theorem dX3_choicesOf_1 : decode cX3_choicesOf 1 = .ok (.istore_n 3, 1) := by decide +kernel
theorem dX3_choicesOf_2 : decode cX3_choicesOf 2 = .ok (.iconst 0, 1) := by decide +kernel
theorem dX3_choicesOf_3 : decode cX3_choicesOf 3 = .ok (.istore 4, 2) := by decide +kernel
theorem dX3_choicesOf_5 : decode cX3_choicesOf 5 = .ok (.iload 4, 2) := by decide +kernel
theorem dX3_choicesOf_7 : decode cX3_choicesOf 7 = .ok (.aload_n 0, 1) := by decide +kernel
theorem dX3_choicesOf_8 : decode cX3_choicesOf 8 = .ok (.getfield 34, 3) := by decide +kernel
theorem N388 : Cond.fieldLinkNest "HookedCity$Matching" 34 "HookedCity$Town" "persons" "I" "HookedCity" ∈ lw_tbl := List.mem_of_getElem? (i := 388) (by decide +kernel)
theorem dX3_choicesOf_11 : decode cX3_choicesOf 11 = .ok (.if_icmp .ge 46, 3) := by decide +kernel
theorem dX3_choicesOf_57 : decode cX3_choicesOf 57 = .ok (.iload_n 3, 1) := by decide +kernel
theorem dX3_choicesOf_58 : decode cX3_choicesOf 58 = .ok (.ireturn, 1) := by decide +kernel
theorem dX3_choicesOf_14 : decode cX3_choicesOf 14 = .ok (.aload_n 0, 1) := by decide +kernel
theorem dX3_choicesOf_15 : decode cX3_choicesOf 15 = .ok (.iload_n 2, 1) := by decide +kernel
theorem dX3_choicesOf_16 : decode cX3_choicesOf 16 = .ok (.iload 4, 2) := by decide +kernel
theorem dX3_choicesOf_18 : decode cX3_choicesOf 18 = .ok (.invokevirtual 53, 3) := by decide +kernel
theorem G961 : Cond.methodLink "HookedCity$Matching" 53 ⟨"HookedCity$Town", "isStreet", "(II)Z"⟩ ∈ GW := gw_i 961 (by decide +kernel) rfl
theorem V_HookedCity_Matching_53 : VL "HookedCity$Matching" 53 yX9_isStreet cX9_isStreet 3 (some .boolean) 2 := ⟨G854, G961, G128, by decide +kernel, by decide +kernel, by decide +kernel⟩
theorem dX3_choicesOf_21 : decode cX3_choicesOf 21 = .ok (.ifCond .eq 30, 3) := by decide +kernel
theorem dX3_choicesOf_51 : decode cX3_choicesOf 51 = .ok (.iinc 4 1, 3) := by decide +kernel
theorem dX3_choicesOf_54 : decode cX3_choicesOf 54 = .ok (.goto (-49), 3) := by decide +kernel
theorem dX3_choicesOf_24 : decode cX3_choicesOf 24 = .ok (.aload_n 0, 1) := by decide +kernel
theorem dX3_choicesOf_25 : decode cX3_choicesOf 25 = .ok (.iload_n 2, 1) := by decide +kernel
theorem dX3_choicesOf_26 : decode cX3_choicesOf 26 = .ok (.iload 4, 2) := by decide +kernel
theorem dX3_choicesOf_28 : decode cX3_choicesOf 28 = .ok (.invokevirtual 57, 3) := by decide +kernel
theorem G962 : Cond.methodLink "HookedCity$Matching" 57 ⟨"HookedCity$Town", "fits", "(II)Z"⟩ ∈ GW := gw_i 962 (by decide +kernel) rfl
theorem V_HookedCity_Matching_57 : VL "HookedCity$Matching" 57 yX9_fits cX9_fits 3 (some .boolean) 2 := ⟨G858, G962, G128, by decide +kernel, by decide +kernel, by decide +kernel⟩
theorem dX3_choicesOf_31 : decode cX3_choicesOf 31 = .ok (.ifCond .eq 20, 3) := by decide +kernel
theorem dX3_choicesOf_34 : decode cX3_choicesOf 34 = .ok (.aload_n 1, 1) := by decide +kernel
theorem dX3_choicesOf_35 : decode cX3_choicesOf 35 = .ok (.getfield 60, 3) := by decide +kernel
theorem N217 : Cond.fieldLinkNest "HookedCity$Matching" 60 "HookedCity$State" "left" "[I" "HookedCity" ∈ lw_tbl := List.mem_of_getElem? (i := 217) (by decide +kernel)
theorem dX3_choicesOf_38 : decode cX3_choicesOf 38 = .ok (.iload 4, 2) := by decide +kernel
theorem dX3_choicesOf_40 : decode cX3_choicesOf 40 = .ok (.iaload, 1) := by decide +kernel
theorem dX3_choicesOf_41 : decode cX3_choicesOf 41 = .ok (.ifCond .le 10, 3) := by decide +kernel
theorem dX3_choicesOf_44 : decode cX3_choicesOf 44 = .ok (.iload_n 3, 1) := by decide +kernel
theorem dX3_choicesOf_45 : decode cX3_choicesOf 45 = .ok (.iconst 1, 1) := by decide +kernel
theorem dX3_choicesOf_46 : decode cX3_choicesOf 46 = .ok (.iload 4, 2) := by decide +kernel
theorem dX3_choicesOf_48 : decode cX3_choicesOf 48 = .ok (.ishl, 1) := by decide +kernel
theorem dX3_choicesOf_49 : decode cX3_choicesOf 49 = .ok (.ior, 1) := by decide +kernel
theorem dX3_choicesOf_50 : decode cX3_choicesOf 50 = .ok (.istore_n 3, 1) := by decide +kernel
theorem dX3_find_0 : decode cX3_find 0 = .ok (.aload_n 0, 1) := by decide +kernel
theorem dX3_find_1 : decode cX3_find 1 = .ok (.aload_n 1, 1) := by decide +kernel
theorem dX3_find_2 : decode cX3_find 2 = .ok (.getfield 34, 3) := by decide +kernel
theorem dX3_find_5 : decode cX3_find 5 = .ok (.putfield 21, 3) := by decide +kernel
theorem dX3_find_8 : decode cX3_find 8 = .ok (.aload_n 0, 1) := by decide +kernel
theorem dX3_find_9 : decode cX3_find 9 = .ok (.getfield 9, 3) := by decide +kernel
theorem G292 : Cond.fieldLink "HookedCity$Matching" 9 "HookedCity$Matching" "mates" "[I" ∈ GW := gw_i 292 (by decide +kernel) rfl
theorem dX3_find_12 : decode cX3_find 12 = .ok (.iconst (-1), 1) := by decide +kernel
theorem dX3_find_13 : decode cX3_find 13 = .ok (.invokestatic 28, 3) := by decide +kernel
theorem dX3_find_16 : decode cX3_find 16 = .ok (.iconst 0, 1) := by decide +kernel
theorem dX3_find_17 : decode cX3_find 17 = .ok (.istore_n 3, 1) := by decide +kernel
theorem dX3_find_18 : decode cX3_find 18 = .ok (.iload_n 3, 1) := by decide +kernel
theorem dX3_find_19 : decode cX3_find 19 = .ok (.aload_n 0, 1) := by decide +kernel
theorem dX3_find_20 : decode cX3_find 20 = .ok (.getfield 21, 3) := by decide +kernel
theorem dX3_find_23 : decode cX3_find 23 = .ok (.if_icmp .ge 21, 3) := by decide +kernel
theorem dX3_find_44 : decode cX3_find 44 = .ok (.aload_n 1, 1) := by decide +kernel
theorem dX3_find_45 : decode cX3_find 45 = .ok (.invokevirtual 41, 3) := by decide +kernel
theorem G966 : Cond.code ⟨"HookedCity$Town", "everybody", "()I"⟩ prog_11_method_20_code 1 (some .int) ∈ GW := gw_i 966 (by decide +kernel) rfl
theorem G963 : Cond.methodLink "HookedCity$Matching" 41 ⟨"HookedCity$Town", "everybody", "()I"⟩ ∈ GW := gw_i 963 (by decide +kernel) rfl
theorem V_HookedCity_Matching_41 : VL "HookedCity$Matching" 41 yX9_everybody cX9_everybody 1 (some .int) 0 := ⟨G966, G963, G128, by decide +kernel, by decide +kernel, by decide +kernel⟩
theorem G964 : Cond.instanceMethod ⟨"HookedCity$Town", "everybody", "()I"⟩ ∈ GW := gw_i 964 (by decide +kernel) rfl
theorem G965 : Cond.selects "HookedCity$Town" ⟨"HookedCity$Town", "everybody", "()I"⟩ ⟨"HookedCity$Town", "everybody", "()I"⟩ ∈ GW := gw_i 965 (by decide +kernel) rfl
theorem dX3_find_48 : decode cX3_find 48 = .ok (.istore_n 3, 1) := by decide +kernel
theorem dX3_find_49 : decode cX3_find 49 = .ok (.aload_n 0, 1) := by decide +kernel
theorem dX3_find_50 : decode cX3_find 50 = .ok (.iconst 0, 1) := by decide +kernel
theorem dX3_find_51 : decode cX3_find 51 = .ok (.iload_n 3, 1) := by decide +kernel
theorem dX3_find_52 : decode cX3_find 52 = .ok (.invokevirtual 45, 3) := by decide +kernel
theorem dX3_find_55 : decode cX3_find 55 = .ok (.istore 4, 2) := by decide +kernel
theorem dX3_find_57 : decode cX3_find 57 = .ok (.iload 4, 2) := by decide +kernel
theorem dX3_find_59 : decode cX3_find 59 = .ok (.istore 5, 2) := by decide +kernel
theorem dX3_find_61 : decode cX3_find 61 = .ok (.iconst 0, 1) := by decide +kernel
theorem dX3_find_62 : decode cX3_find 62 = .ok (.istore 6, 2) := by decide +kernel
theorem dX3_find_64 : decode cX3_find 64 = .ok (.iload 6, 2) := by decide +kernel
theorem dX3_find_66 : decode cX3_find 66 = .ok (.aload_n 0, 1) := by decide +kernel
theorem dX3_find_67 : decode cX3_find 67 = .ok (.getfield 21, 3) := by decide +kernel
theorem dX3_find_70 : decode cX3_find 70 = .ok (.if_icmp .ge 53, 3) := by decide +kernel
theorem dX3_find_123 : decode cX3_find 123 = .ok (.iload 4, 2) := by decide +kernel
theorem dX3_find_125 : decode cX3_find 125 = .ok (.ireturn, 1) := by decide +kernel
theorem dX3_find_73 : decode cX3_find 73 = .ok (.aload_n 0, 1) := by decide +kernel
theorem dX3_find_74 : decode cX3_find 74 = .ok (.getfield 9, 3) := by decide +kernel
theorem dX3_find_77 : decode cX3_find 77 = .ok (.iload 6, 2) := by decide +kernel
theorem dX3_find_79 : decode cX3_find 79 = .ok (.aload_n 0, 1) := by decide +kernel
theorem dX3_find_80 : decode cX3_find 80 = .ok (.iload 6, 2) := by decide +kernel
theorem dX3_find_82 : decode cX3_find 82 = .ok (.iload_n 3, 1) := by decide +kernel
theorem dX3_find_83 : decode cX3_find 83 = .ok (.iload 5, 2) := by decide +kernel
theorem dX3_find_85 : decode cX3_find 85 = .ok (.invokevirtual 49, 3) := by decide +kernel
theorem G978 : Cond.code ⟨"HookedCity$Matching", "firstFor", "(III)I"⟩ prog_5_method_4_code 6 (some .int) ∈ GW := gw_i 978 (by decide +kernel) rfl
theorem G975 : Cond.methodLink "HookedCity$Matching" 49 ⟨"HookedCity$Matching", "firstFor", "(III)I"⟩ ∈ GW := gw_i 975 (by decide +kernel) rfl
theorem V_HookedCity_Matching_49 : VL "HookedCity$Matching" 49 yX3_firstFor cX3_firstFor 6 (some .int) 3 := ⟨G978, G975, G123, by decide +kernel, by decide +kernel, by decide +kernel⟩
theorem G977 : Cond.instanceMethod ⟨"HookedCity$Matching", "firstFor", "(III)I"⟩ ∈ GW := gw_i 977 (by decide +kernel) rfl
theorem G24 : Cond.selects "HookedCity$Matching" ⟨"HookedCity$Matching", "firstFor", "(III)I"⟩ ⟨"HookedCity$Matching", "firstFor", "(III)I"⟩ ∈ GW := gw_i 24 (by decide +kernel) rfl
theorem dX3_find_88 : decode cX3_find 88 = .ok (.iastore, 1) := by decide +kernel
theorem dX3_find_89 : decode cX3_find 89 = .ok (.aload_n 0, 1) := by decide +kernel
theorem dX3_find_90 : decode cX3_find 90 = .ok (.getfield 9, 3) := by decide +kernel
theorem dX3_find_93 : decode cX3_find 93 = .ok (.iload 6, 2) := by decide +kernel
theorem dX3_find_95 : decode cX3_find 95 = .ok (.iaload, 1) := by decide +kernel
theorem dX3_find_96 : decode cX3_find 96 = .ok (.iconst (-1), 1) := by decide +kernel
theorem dX3_find_97 : decode cX3_find 97 = .ok (.if_icmp .eq 20, 3) := by decide +kernel
theorem dX3_find_117 : decode cX3_find 117 = .ok (.iinc 6 1, 3) := by decide +kernel
theorem dX3_find_120 : decode cX3_find 120 = .ok (.goto (-56), 3) := by decide +kernel
theorem dX3_find_100 : decode cX3_find 100 = .ok (.iload_n 3, 1) := by decide +kernel
theorem dX3_find_101 : decode cX3_find 101 = .ok (.iconst 1, 1) := by decide +kernel
theorem dX3_find_102 : decode cX3_find 102 = .ok (.aload_n 0, 1) := by decide +kernel
theorem dX3_find_103 : decode cX3_find 103 = .ok (.getfield 9, 3) := by decide +kernel
theorem dX3_find_106 : decode cX3_find 106 = .ok (.iload 6, 2) := by decide +kernel
theorem dX3_find_108 : decode cX3_find 108 = .ok (.iaload, 1) := by decide +kernel
theorem dX3_find_109 : decode cX3_find 109 = .ok (.ishl, 1) := by decide +kernel
theorem dX3_find_110 : decode cX3_find 110 = .ok (.iconst (-1), 1) := by decide +kernel
theorem dX3_find_111 : decode cX3_find 111 = .ok (.ixor, 1) := by decide +kernel
theorem dX3_find_112 : decode cX3_find 112 = .ok (.iand, 1) := by decide +kernel
theorem dX3_find_113 : decode cX3_find 113 = .ok (.istore_n 3, 1) := by decide +kernel
theorem dX3_find_114 : decode cX3_find 114 = .ok (.iinc 5 (-1), 3) := by decide +kernel
theorem dX3_find_26 : decode cX3_find 26 = .ok (.aload_n 0, 1) := by decide +kernel
theorem dX3_find_27 : decode cX3_find 27 = .ok (.getfield 15, 3) := by decide +kernel
theorem dX3_find_30 : decode cX3_find 30 = .ok (.iload_n 3, 1) := by decide +kernel
theorem dX3_find_31 : decode cX3_find 31 = .ok (.aload_n 1, 1) := by decide +kernel
theorem dX3_find_32 : decode cX3_find 32 = .ok (.aload_n 2, 1) := by decide +kernel
theorem dX3_find_33 : decode cX3_find 33 = .ok (.iload_n 3, 1) := by decide +kernel
theorem dX3_find_34 : decode cX3_find 34 = .ok (.invokestatic 37, 3) := by decide +kernel
theorem G960 : Cond.code ⟨"HookedCity$Matching", "choicesOf", "(LHookedCity$Town;LHookedCity$State;I)I"⟩ prog_5_method_3_code 5 (some .int) ∈ GW := gw_i 960 (by decide +kernel) rfl
theorem G958 : Cond.methodLink "HookedCity$Matching" 37 ⟨"HookedCity$Matching", "choicesOf", "(LHookedCity$Town;LHookedCity$State;I)I"⟩ ∈ GW := gw_i 958 (by decide +kernel) rfl
theorem V_HookedCity_Matching_37 : VL "HookedCity$Matching" 37 yX3_choicesOf cX3_choicesOf 5 (some .int) 3 := ⟨G960, G958, G123, by decide +kernel, by decide +kernel, by decide +kernel⟩
theorem G959 : Cond.static ⟨"HookedCity$Matching", "choicesOf", "(LHookedCity$Town;LHookedCity$State;I)I"⟩ ∈ GW := gw_i 959 (by decide +kernel) rfl
theorem dX3_find_37 : decode cX3_find 37 = .ok (.iastore, 1) := by decide +kernel
theorem dX3_find_38 : decode cX3_find 38 = .ok (.iinc 3 1, 3) := by decide +kernel
theorem dX3_find_41 : decode cX3_find 41 = .ok (.goto (-23), 3) := by decide +kernel
theorem dX3_workLeft_0 : decode cX3_workLeft 0 = .ok (.iconst 0, 1) := by decide +kernel
theorem dX3_workLeft_1 : decode cX3_workLeft 1 = .ok (.istore_n 3, 1) := by decide +kernel
theorem dX3_workLeft_2 : decode cX3_workLeft 2 = .ok (.iconst 0, 1) := by decide +kernel
theorem dX3_workLeft_3 : decode cX3_workLeft 3 = .ok (.istore 4, 2) := by decide +kernel
theorem dX3_workLeft_5 : decode cX3_workLeft 5 = .ok (.iload 4, 2) := by decide +kernel
theorem dX3_workLeft_7 : decode cX3_workLeft 7 = .ok (.aload_n 1, 1) := by decide +kernel
theorem dX3_workLeft_8 : decode cX3_workLeft 8 = .ok (.getfield 34, 3) := by decide +kernel
theorem dX3_workLeft_11 : decode cX3_workLeft 11 = .ok (.if_icmp .ge 64, 3) := by decide +kernel
theorem dX3_workLeft_75 : decode cX3_workLeft 75 = .ok (.iload_n 3, 1) := by decide +kernel
theorem dX3_workLeft_76 : decode cX3_workLeft 76 = .ok (.ireturn, 1) := by decide +kernel
theorem dX3_workLeft_14 : decode cX3_workLeft 14 = .ok (.aload_n 2, 1) := by decide +kernel
theorem dX3_workLeft_15 : decode cX3_workLeft 15 = .ok (.getfield 69, 3) := by decide +kernel
theorem N223 : Cond.fieldLinkNest "HookedCity$Matching" 69 "HookedCity$State" "into" "[I" "HookedCity" ∈ lw_tbl := List.mem_of_getElem? (i := 223) (by decide +kernel)
theorem dX3_workLeft_18 : decode cX3_workLeft 18 = .ok (.iload 4, 2) := by decide +kernel
theorem dX3_workLeft_20 : decode cX3_workLeft 20 = .ok (.iaload, 1) := by decide +kernel
theorem dX3_workLeft_21 : decode cX3_workLeft 21 = .ok (.aload_n 0, 1) := by decide +kernel
theorem dX3_workLeft_22 : decode cX3_workLeft 22 = .ok (.getfield 9, 3) := by decide +kernel
theorem dX3_workLeft_25 : decode cX3_workLeft 25 = .ok (.iload 4, 2) := by decide +kernel
theorem dX3_workLeft_27 : decode cX3_workLeft 27 = .ok (.iaload, 1) := by decide +kernel
theorem dX3_workLeft_28 : decode cX3_workLeft 28 = .ok (.if_icmp .eq 41, 3) := by decide +kernel
theorem dX3_workLeft_69 : decode cX3_workLeft 69 = .ok (.iinc 4 1, 3) := by decide +kernel
theorem dX3_workLeft_72 : decode cX3_workLeft 72 = .ok (.goto (-67), 3) := by decide +kernel
theorem dX3_workLeft_31 : decode cX3_workLeft 31 = .ok (.iload_n 3, 1) := by decide +kernel
theorem dX3_workLeft_32 : decode cX3_workLeft 32 = .ok (.aload_n 2, 1) := by decide +kernel
theorem dX3_workLeft_33 : decode cX3_workLeft 33 = .ok (.getfield 69, 3) := by decide +kernel
theorem dX3_workLeft_36 : decode cX3_workLeft 36 = .ok (.iload 4, 2) := by decide +kernel
theorem dX3_workLeft_38 : decode cX3_workLeft 38 = .ok (.iaload, 1) := by decide +kernel
theorem dX3_workLeft_39 : decode cX3_workLeft 39 = .ok (.iconst (-1), 1) := by decide +kernel
theorem dX3_workLeft_40 : decode cX3_workLeft 40 = .ok (.if_icmp .eq 7, 3) := by decide +kernel
theorem dX3_workLeft_47 : decode cX3_workLeft 47 = .ok (.iconst 0, 1) := by decide +kernel
theorem dX3_workLeft_48 : decode cX3_workLeft 48 = .ok (.iadd, 1) := by decide +kernel
theorem dX3_workLeft_49 : decode cX3_workLeft 49 = .ok (.istore_n 3, 1) := by decide +kernel
theorem dX3_workLeft_50 : decode cX3_workLeft 50 = .ok (.iload_n 3, 1) := by decide +kernel
theorem dX3_workLeft_51 : decode cX3_workLeft 51 = .ok (.aload_n 0, 1) := by decide +kernel
theorem dX3_workLeft_52 : decode cX3_workLeft 52 = .ok (.getfield 9, 3) := by decide +kernel
theorem dX3_workLeft_55 : decode cX3_workLeft 55 = .ok (.iload 4, 2) := by decide +kernel
theorem dX3_workLeft_57 : decode cX3_workLeft 57 = .ok (.iaload, 1) := by decide +kernel
theorem dX3_workLeft_58 : decode cX3_workLeft 58 = .ok (.iconst (-1), 1) := by decide +kernel
theorem dX3_workLeft_59 : decode cX3_workLeft 59 = .ok (.if_icmp .eq 7, 3) := by decide +kernel
theorem dX3_workLeft_66 : decode cX3_workLeft 66 = .ok (.iconst 0, 1) := by decide +kernel
theorem dX3_workLeft_67 : decode cX3_workLeft 67 = .ok (.iadd, 1) := by decide +kernel
theorem dX3_workLeft_68 : decode cX3_workLeft 68 = .ok (.istore_n 3, 1) := by decide +kernel
theorem dX3_workLeft_62 : decode cX3_workLeft 62 = .ok (.iconst 1, 1) := by decide +kernel
theorem dX3_workLeft_63 : decode cX3_workLeft 63 = .ok (.goto 4, 3) := by decide +kernel
theorem dX3_workLeft_43 : decode cX3_workLeft 43 = .ok (.iconst 1, 1) := by decide +kernel
theorem dX3_workLeft_44 : decode cX3_workLeft 44 = .ok (.goto 4, 3) := by decide +kernel
set_option maxRecDepth 100000 in
set_option maxHeartbeats 4000000 in
theorem c344_X3_finds (l : Launch) (D : va_G) (T : Nat → ClassId) (sz : Nat) (a0 : Nat) (x0 : Int) (x1 : Int) (x0_a : 0 ≤ x0) (x0_b : x0 ≤ 8) (x1_a : (-2147483648) ≤ x1) (x1_b : x1 ≤ 2147483647) : Met l yX3_finds (Cond.code yX3_finds cX3_finds 5 (some .boolean) :: GW) (Rm 0 0 0) (cPre [.ref a0, .int (iI x0), .int (iI x1), .int (iI 10)] D T [] sz) (qI D [] sz (fun (v : Int32) (u : Int) => iI u = v ∧ 0 ≤ u ∧ u ≤ 1 ∧ ((u = 0))) (fun u => [])) 0 0 (va_A [] sz) := by
  refine e_Z (by decide) (Nat.le_of_ble_eq_true rfl) ?_
  intro p e s m args below meth c A Q ls M hin w ret hl
  have hx := M.1.1
  have hb := M.1.2.1
  have hl : lv_has ls 5 [(0, .ref a0), (1, .int (iI x0)), (2, .int (iI x1)), (3, .int (iI 10))] := hl
  refine lv_iload_n hx hb dX3_finds_0 rfl (lv_at hl 3 rfl) ?_
  refine lv_bipush (v := iI 9) hx hb dX3_finds_1 (by decide +kernel) ?_
  refine lv_icmp_le (tgt := 8) hx hb dX3_finds_3 (by decide) (fun c => absurd c (by decide +kernel)) (fun _ => ?_)
  refine lv_iconst (v := iI 0) hx hb dX3_finds_6 (by decide +kernel) ?_
  exact ret _ 0 _ _ _ _ _ [] dX3_finds_7 (by decide +kernel) ⟨rfl, (show (0 : Int) ≤ 0 from by decide), (show (0 : Int) ≤ 1 from by decide), rfl⟩ w (by decide) rfl
set_option maxRecDepth 100000 in
set_option maxHeartbeats 4000000 in
theorem c345_X3_finds (l : Launch) (D : va_G) (T : Nat → ClassId) (sz : Nat) (a0 : Nat) (x0 : Int) (x1 : Int) (a1 : Nat) (a2 : Nat) (a3 : Nat) (x2 : Int) (r0 : Int32) (f0 : Nat → Int32) (f1 : Int → Int) (x0_a : 0 ≤ x0) (x0_b : x0 ≤ 8) (x1_a : (-2147483648) ≤ x1) (x1_b : x1 ≤ 2147483647) (x2_a : 0 ≤ x2) (x2_b : x2 ≤ 9) (f1_h : rng (-1) 8 f1) : Met l yX3_finds (Cond.code yX3_finds cX3_finds 5 (some .boolean) :: GW) (Rm 1 0 0) (cPre [.ref a0, .int (iI x0), .int (iI x1), .int (iI 9)] D T [(a0, .inr (3, [.ref a1, .ref a2, .ref a3, .int (iI x2), .int r0])), (a2, .inl (T 0, 9, .inl f0)), (a3, .inl (T 0, 9, .inl (cI f1)))] sz) (qI D [(a0, .inr (3, [.ref a1, .ref a2, .ref a3, .int (iI x2), .int r0])), (a2, .inl (T 0, 9, .inl f0)), (a3, .inl (T 0, 9, .inl (cI f1)))] sz (fun (v : Int32) (u : Int × Int32 × (Int → Int)) => iI u.1 = v ∧ 0 ≤ u.1 ∧ u.1 ≤ 1 ∧ rng (-1) 8 u.2.2) (fun u => [(a0, .inr (3, [.ref a1, .ref a2, .ref a3, .int (iI x2), .int u.2.1])), (a2, .inl (T 0, 9, .inl f0)), (a3, .inl (T 0, 9, .inl (cI u.2.2)))])) 0 0 (va_A [(a0, .inr (3, [.ref a1, .ref a2, .ref a3, .int (iI x2), .int r0])), (a2, .inl (T 0, 9, .inl f0)), (a3, .inl (T 0, 9, .inl (cI f1)))] sz) := by
  refine e_Z (by decide) (Nat.le_of_ble_eq_true rfl) ?_
  intro p e s m args below meth c A Q ls M hin w ret hl
  have hx := M.1.1
  have hb := M.1.2.1
  have hl : lv_has ls 5 [(0, .ref a0), (1, .int (iI x0)), (2, .int (iI x1)), (3, .int (iI 9))] := hl
  refine lv_iload_n hx hb dX3_finds_0 rfl (lv_at hl 3 rfl) ?_
  refine lv_bipush (v := iI 9) hx hb dX3_finds_1 (by decide +kernel) ?_
  refine lv_icmp_le (tgt := 8) hx hb dX3_finds_3 (by decide) (fun _ => ?_) (fun c => absurd (by decide +kernel) c)
  refine lv_iconst (v := iI 0) hx hb dX3_finds_8 (by decide +kernel) ?_
  refine lv_istore (lv' := [(4, .int (iI 0)), (0, .ref a0), (1, .int (iI x0)), (2, .int (iI x1)), (3, .int (iI 9))]) hx hb dX3_finds_9 hl (by decide) rfl (fun ls hl => ?_)
  have loop1 : ∀ (k1 : Nat) (fr1 : Int32) (z2 : Int) (H : Heap) (locs : List Loc) (ls : Array Slot), 0 ≤ z2 → z2 ≤ 9 → ((x2 - z2) : Int).toNat < k1 → WD D A s.heap [(a0, .inr (3, [.ref a1, .ref a2, .ref a3, .int (iI x2), .int fr1])), (a2, .inl (T 0, 9, .inl f0)), (a3, .inl (T 0, 9, .inl (cI f1)))] H locs → lv_has ls 5 [(4, .int (iI z2)), (0, .ref a0), (1, .int (iI x0)), (2, .int (iI x1)), (3, .int (iI 9))] → W p l e (Rm 1 0 0) s m args below meth c H locs 0 0 Q (F0 m 11 ls []) := by
    intro k1
    induction k1 with
    | zero => intro fr1 z2 H locs ls z2_a z2_b hm; exact absurd hm (Nat.not_lt_zero _)
    | succ k1 ih1 =>
      intro fr1 z2 H locs ls z2_a z2_b hm1 w hl
      refine lv_iload hx hb dX3_finds_11 (lv_at hl 0 rfl) ?_
      refine lv_aload_n hx hb dX3_finds_13 rfl (lv_at hl 1 rfl) ?_
      refine r_get (v := .int (iI x2)) M w 0 3 clX3 rfl (by decide) G296 rfl rfl dX3_finds_14 ?_
      refine lv_icmp_ge (tgt := 101) hx hb dX3_finds_17 (by decide) (fun c_3 => ?_) (fun c_3 => ?_)
      · replace c_3 := (iI_le (Int.le_trans (by decide) x2_a) (Int.le_trans x2_b (by decide)) (Int.le_trans (by decide) z2_a) (Int.le_trans z2_b (by decide))).mp c_3
        refine lv_iconst (v := iI 0) hx hb dX3_finds_101 (by decide +kernel) ?_
        exact ret _ (0, fr1, f1) _ _ _ _ _ [0, 1, 2] dX3_finds_102 (by decide +kernel) ⟨rfl, (show (0 : Int) ≤ 0 from by decide), (show (0 : Int) ≤ 1 from by decide), f1_h⟩ w (by decide) rfl
      · replace c_3 : z2 < x2 := Int.not_le.mp (fun h => c_3 ((iI_le (Int.le_trans (by decide) x2_a) (Int.le_trans x2_b (by decide)) (Int.le_trans (by decide) z2_a) (Int.le_trans z2_b (by decide))).mpr h))
        refine lv_aload_n hx hb dX3_finds_20 rfl (lv_at hl 1 rfl) ?_
        refine r_get (v := .ref a2) M w 0 1 clX3 rfl (by decide) G294 rfl rfl dX3_finds_21 ?_
        refine lv_iload_n hx hb dX3_finds_24 rfl (lv_at hl 2 rfl) ?_
        refine r_iald (v := _) M w 1 rfl (iI_in (by omega) (by omega) (by decide)) rfl dX3_finds_25 ?_
        refine b_any (fun z4 z4_a z4_b => ?_)
        refine lv_iload_n hx hb dX3_finds_26 rfl (lv_at hl 3 rfl) ?_
        refine r_iand (v := _) M rfl dX3_finds_27 ?_
        refine b_any (fun z5 z5_a z5_b => ?_)
        refine lv_aload_n hx hb dX3_finds_28 rfl (lv_at hl 1 rfl) ?_
        refine r_get (v := .int fr1) M w 0 4 clX3 rfl (by decide) G297 rfl rfl dX3_finds_29 ?_
        refine b_any (fun z6 z6_a z6_b => ?_)
        refine lv_iconst (v := iI (-1)) hx hb dX3_finds_32 (by decide +kernel) ?_
        refine r_ixor (v := _) M rfl dX3_finds_33 ?_
        refine b_any (fun z7 z7_a z7_b => ?_)
        refine r_iand (v := _) M rfl dX3_finds_34 ?_
        refine b_any (fun z8 z8_a z8_b => ?_)
        refine lv_iconst (v := iI 1) hx hb dX3_finds_35 (by decide +kernel) ?_
        refine lv_iload hx hb dX3_finds_36 (lv_at hl 0 rfl) ?_
        refine r_ishl (v := _) M rfl dX3_finds_38 ?_
        refine b_rng (lo := 1) (hi := 256) (ishl_9 (by omega) (by omega)) (fun z9 z9_a z9_b => ?_)
        refine r_iand (v := _) M rfl dX3_finds_39 ?_
        refine b_rng (lo := 0) (hi := z9) (iand_r (by omega) (by omega)) (fun z10 z10_a z10_b => ?_)
        refine lv_if_eq (tgt := 95) hx hb dX3_finds_40 (by decide) (fun c_11 => ?_) (fun c_11 => ?_)
        · replace c_11 := (iz_eq (by omega) (by omega)).mp c_11
          refine lv_iinc (v := iI (z2 + 1)) (lv' := [(4, .int (iI (z2 + 1))), (0, .ref a0), (1, .int (iI x0)), (2, .int (iI x1)), (3, .int (iI 9))]) hx hb dX3_finds_95 hl (k := 0) rfl (ii_inc (by decide +kernel)) (by decide) rfl (fun ls hl => ?_)
          refine lv_goto (tgt := 11) hx hb dX3_finds_98 (by decide) ?_
          exact ih1 fr1 (z2 + 1) _ _ _ (by omega) (by omega) (by omega) w (lv_sub hl [0, 1, 2, 3, 4] rfl)
        · replace c_11 : ¬ z10 = 0 := fun h => c_11 ((iz_eq (by omega) (by omega)).mpr h)
          refine lv_aload_n hx hb dX3_finds_43 rfl (lv_at hl 1 rfl) ?_
          refine lv_dup hx hb dX3_finds_44 rfl ?_
          refine r_get (v := .int fr1) M w 0 4 clX3 rfl (by decide) G297 rfl rfl dX3_finds_45 ?_
          refine b_any (fun z12 z12_a z12_b => ?_)
          refine lv_iconst (v := iI 1) hx hb dX3_finds_48 (by decide +kernel) ?_
          refine lv_iload hx hb dX3_finds_49 (lv_at hl 0 rfl) ?_
          refine r_ishl (v := _) M rfl dX3_finds_51 ?_
          refine b_rng (lo := 1) (hi := 256) (ishl_9 (by omega) (by omega)) (fun z13 z13_a z13_b => ?_)
          refine r_ior (v := _) M rfl dX3_finds_52 ?_
          refine b_any (fun z14 z14_a z14_b => ?_)
          refine r_put (ws' := [(a0, .inr (3, [.ref a1, .ref a2, .ref a3, .int (iI x2), .int (iI z14)])), (a2, .inl (T 0, 9, .inl f0)), (a3, .inl (T 0, 9, .inl (cI f1)))]) M w 0 4 clX3 rfl (by decide) G297 rfl rfl rfl rfl (Nat.le_of_ble_eq_true rfl) rfl dX3_finds_53 (fun H locs w => ?_)
          refine lv_aload_n hx hb dX3_finds_56 rfl (lv_at hl 1 rfl) ?_
          refine r_get (v := .ref a3) M w 0 2 clX3 rfl (by decide) G295 rfl rfl dX3_finds_57 ?_
          refine lv_iload hx hb dX3_finds_60 (lv_at hl 0 rfl) ?_
          refine r_iald (v := iI (f1 z2)) M w 2 rfl (iI_in (by omega) (by omega) (by decide)) (cI_at (by omega) (by omega)) dX3_finds_62 ?_
          have hh15 : (-1) ≤ (f1 z2) ∧ (f1 z2) ≤ 8 := f1_h z2
          refine lv_iconst (v := iI (-1)) hx hb dX3_finds_63 (by decide +kernel) ?_
          refine lv_icmp_eq (tgt := 85) hx hb dX3_finds_64 (by decide) (fun c_16 => ?_) (fun c_16 => ?_)
          · replace c_16 := (iI_eq (by omega) (by omega) (by decide) (by decide)).mp c_16
            refine lv_aload_n hx hb dX3_finds_85 rfl (lv_at hl 1 rfl) ?_
            refine r_get (v := .ref a3) M w 0 2 clX3 rfl (by decide) G295 rfl rfl dX3_finds_86 ?_
            refine lv_iload hx hb dX3_finds_89 (lv_at hl 0 rfl) ?_
            refine lv_iload_n hx hb dX3_finds_91 rfl (lv_at hl 2 rfl) ?_
            refine r_iast (ws' := [(a0, .inr (3, [.ref a1, .ref a2, .ref a3, .int (iI x2), .int (iI z14)])), (a2, .inl (T 0, 9, .inl f0)), (a3, .inl (T 0, 9, .inl (cI (upz f1 z2 x0))))]) M w 2 rfl (iI_in (by omega) (by omega) (by decide)) (by rw [cI_up (by omega) (by omega)]; rfl) dX3_finds_92 (fun H locs w => ?_)
            refine lv_iconst (v := iI 1) hx hb dX3_finds_93 (by decide +kernel) ?_
            exact ret _ (1, (iI z14), (upz f1 z2 x0)) _ _ _ _ _ [0, 1, 2] dX3_finds_94 (by decide +kernel) ⟨rfl, (show (0 : Int) ≤ 1 from by decide), (show (1 : Int) ≤ 1 from by decide), (rng_up f1_h (by omega) (by omega))⟩ w (by decide) rfl
          · replace c_16 : ¬ (f1 z2) = (-1) := fun h => c_16 ((iI_eq (by omega) (by omega) (by decide) (by decide)).mpr h)
            refine lv_aload_n hx hb dX3_finds_67 rfl (lv_at hl 1 rfl) ?_
            refine lv_aload_n hx hb dX3_finds_68 rfl (lv_at hl 1 rfl) ?_
            refine r_get (v := .ref a3) M w 0 2 clX3 rfl (by decide) G295 rfl rfl dX3_finds_69 ?_
            refine lv_iload hx hb dX3_finds_72 (lv_at hl 0 rfl) ?_
            refine r_iald (v := iI (f1 z2)) M w 2 rfl (iI_in (by omega) (by omega) (by decide)) (cI_at (by omega) (by omega)) dX3_finds_74 ?_
            have hh17 : (-1) ≤ (f1 z2) ∧ (f1 z2) ≤ 8 := f1_h z2
            refine lv_iload_n hx hb dX3_finds_75 rfl (lv_at hl 3 rfl) ?_
            refine lv_iload_n hx hb dX3_finds_76 rfl (lv_at hl 4 rfl) ?_
            refine lv_iconst (v := iI 1) hx hb dX3_finds_77 (by decide +kernel) ?_
            refine r_iadd (v := iI 10) M (by decide +kernel) dX3_finds_78 ?_
            refine k_I (ce := 0) (sl := 0) (rest := []) (wr := [(a0, .inr (3, [.ref a1, .ref a2, .ref a3, .int (iI x2), .int (iI z14)])), (a2, .inl (T 0, 9, .inl f0)), (a3, .inl (T 0, 9, .inl (cI f1)))]) (r_V (f := 0) [] M w V_HookedCity_Matching_65 G973 G23 (c344_X3_finds l D T _ a0 (f1 z2) x1 (by omega) (by omega) x1_a x1_b) 0 clX3 rfl rfl (by decide) rfl hl.1 rfl (Nat.le_of_ble_eq_true rfl) dX3_finds_79 (by decide) (by decide) (by decide) (by decide)) w [] [0, 1, 2] rfl rfl (by decide) (by decide) rfl rfl (fun v z18 H locs hp w => ?_)
            have hv : iI z18 = v := hp.1
            subst hv
            have z18_a : 0 ≤ z18 := hp.2.1
            have z18_b : z18 ≤ 1 := hp.2.2.1
            have w : WD D A s.heap [(a0, .inr (3, [.ref a1, .ref a2, .ref a3, .int (iI x2), .int (iI z14)])), (a2, .inl (T 0, 9, .inl f0)), (a3, .inl (T 0, 9, .inl (cI f1)))] H locs := w
            rcases hp.2.2.2 with hr
            · subst hr
              refine lv_if_eq (tgt := 95) hx hb dX3_finds_82 (by decide) (fun _ => ?_) (fun c => absurd (by decide +kernel) c)
              refine lv_iinc (v := iI (z2 + 1)) (lv' := [(4, .int (iI (z2 + 1))), (0, .ref a0), (1, .int (iI x0)), (2, .int (iI x1)), (3, .int (iI 9))]) hx hb dX3_finds_95 hl (k := 0) rfl (ii_inc (by decide +kernel)) (by decide) rfl (fun ls hl => ?_)
              refine lv_goto (tgt := 11) hx hb dX3_finds_98 (by decide) ?_
              exact ih1 (iI z14) (z2 + 1) _ _ _ (by omega) (by omega) (by omega) w (lv_sub hl [0, 1, 2, 3, 4] rfl)
  exact loop1 (((x2 - 0) : Int).toNat + 1) r0 0 _ _ _ (by decide) (by decide) (Nat.lt_succ_self _) w (lv_sub hl [0, 1, 2, 3, 4] rfl)
set_option maxRecDepth 100000 in
set_option maxHeartbeats 4000000 in
theorem c346_X3_finds (l : Launch) (D : va_G) (T : Nat → ClassId) (sz : Nat) (a0 : Nat) (x0 : Int) (x1 : Int) (a1 : Nat) (a2 : Nat) (a3 : Nat) (x2 : Int) (r0 : Int32) (f0 : Nat → Int32) (f1 : Int → Int) (x0_a : 0 ≤ x0) (x0_b : x0 ≤ 8) (x1_a : (-2147483648) ≤ x1) (x1_b : x1 ≤ 2147483647) (x2_a : 0 ≤ x2) (x2_b : x2 ≤ 9) (f1_h : rng (-1) 8 f1) : Met l yX3_finds (Cond.code yX3_finds cX3_finds 5 (some .boolean) :: GW) (Rm 2 0 0) (cPre [.ref a0, .int (iI x0), .int (iI x1), .int (iI 8)] D T [(a0, .inr (3, [.ref a1, .ref a2, .ref a3, .int (iI x2), .int r0])), (a2, .inl (T 0, 9, .inl f0)), (a3, .inl (T 0, 9, .inl (cI f1)))] sz) (qI D [(a0, .inr (3, [.ref a1, .ref a2, .ref a3, .int (iI x2), .int r0])), (a2, .inl (T 0, 9, .inl f0)), (a3, .inl (T 0, 9, .inl (cI f1)))] sz (fun (v : Int32) (u : Int × Int32 × (Int → Int)) => iI u.1 = v ∧ 0 ≤ u.1 ∧ u.1 ≤ 1 ∧ rng (-1) 8 u.2.2) (fun u => [(a0, .inr (3, [.ref a1, .ref a2, .ref a3, .int (iI x2), .int u.2.1])), (a2, .inl (T 0, 9, .inl f0)), (a3, .inl (T 0, 9, .inl (cI u.2.2)))])) 0 0 (va_A [(a0, .inr (3, [.ref a1, .ref a2, .ref a3, .int (iI x2), .int r0])), (a2, .inl (T 0, 9, .inl f0)), (a3, .inl (T 0, 9, .inl (cI f1)))] sz) := by
  refine e_Z (by decide) (Nat.le_of_ble_eq_true rfl) ?_
  intro p e s m args below meth c A Q ls M hin w ret hl
  have hx := M.1.1
  have hb := M.1.2.1
  have hl : lv_has ls 5 [(0, .ref a0), (1, .int (iI x0)), (2, .int (iI x1)), (3, .int (iI 8))] := hl
  refine lv_iload_n hx hb dX3_finds_0 rfl (lv_at hl 3 rfl) ?_
  refine lv_bipush (v := iI 9) hx hb dX3_finds_1 (by decide +kernel) ?_
  refine lv_icmp_le (tgt := 8) hx hb dX3_finds_3 (by decide) (fun _ => ?_) (fun c => absurd (by decide +kernel) c)
  refine lv_iconst (v := iI 0) hx hb dX3_finds_8 (by decide +kernel) ?_
  refine lv_istore (lv' := [(4, .int (iI 0)), (0, .ref a0), (1, .int (iI x0)), (2, .int (iI x1)), (3, .int (iI 8))]) hx hb dX3_finds_9 hl (by decide) rfl (fun ls hl => ?_)
  have loop1 : ∀ (k1 : Nat) (fr1 : Int32) (ff2 : Int → Int) (z3 : Int) (H : Heap) (locs : List Loc) (ls : Array Slot), rng (-1) 8 ff2 → 0 ≤ z3 → z3 ≤ 9 → ((x2 - z3) : Int).toNat < k1 → WD D A s.heap [(a0, .inr (3, [.ref a1, .ref a2, .ref a3, .int (iI x2), .int fr1])), (a2, .inl (T 0, 9, .inl f0)), (a3, .inl (T 0, 9, .inl (cI ff2)))] H locs → lv_has ls 5 [(4, .int (iI z3)), (0, .ref a0), (1, .int (iI x0)), (2, .int (iI x1)), (3, .int (iI 8))] → W p l e (Rm 2 0 0) s m args below meth c H locs 0 0 Q (F0 m 11 ls []) := by
    intro k1
    induction k1 with
    | zero => intro fr1 ff2 z3 H locs ls ff2_h z3_a z3_b hm; exact absurd hm (Nat.not_lt_zero _)
    | succ k1 ih1 =>
      intro fr1 ff2 z3 H locs ls ff2_h z3_a z3_b hm1 w hl
      refine lv_iload hx hb dX3_finds_11 (lv_at hl 0 rfl) ?_
      refine lv_aload_n hx hb dX3_finds_13 rfl (lv_at hl 1 rfl) ?_
      refine r_get (v := .int (iI x2)) M w 0 3 clX3 rfl (by decide) G296 rfl rfl dX3_finds_14 ?_
      refine lv_icmp_ge (tgt := 101) hx hb dX3_finds_17 (by decide) (fun c_4 => ?_) (fun c_4 => ?_)
      · replace c_4 := (iI_le (Int.le_trans (by decide) x2_a) (Int.le_trans x2_b (by decide)) (Int.le_trans (by decide) z3_a) (Int.le_trans z3_b (by decide))).mp c_4
        refine lv_iconst (v := iI 0) hx hb dX3_finds_101 (by decide +kernel) ?_
        exact ret _ (0, fr1, ff2) _ _ _ _ _ [0, 1, 2] dX3_finds_102 (by decide +kernel) ⟨rfl, (show (0 : Int) ≤ 0 from by decide), (show (0 : Int) ≤ 1 from by decide), ff2_h⟩ w (by decide) rfl
      · replace c_4 : z3 < x2 := Int.not_le.mp (fun h => c_4 ((iI_le (Int.le_trans (by decide) x2_a) (Int.le_trans x2_b (by decide)) (Int.le_trans (by decide) z3_a) (Int.le_trans z3_b (by decide))).mpr h))
        refine lv_aload_n hx hb dX3_finds_20 rfl (lv_at hl 1 rfl) ?_
        refine r_get (v := .ref a2) M w 0 1 clX3 rfl (by decide) G294 rfl rfl dX3_finds_21 ?_
        refine lv_iload_n hx hb dX3_finds_24 rfl (lv_at hl 2 rfl) ?_
        refine r_iald (v := _) M w 1 rfl (iI_in (by omega) (by omega) (by decide)) rfl dX3_finds_25 ?_
        refine b_any (fun z5 z5_a z5_b => ?_)
        refine lv_iload_n hx hb dX3_finds_26 rfl (lv_at hl 3 rfl) ?_
        refine r_iand (v := _) M rfl dX3_finds_27 ?_
        refine b_any (fun z6 z6_a z6_b => ?_)
        refine lv_aload_n hx hb dX3_finds_28 rfl (lv_at hl 1 rfl) ?_
        refine r_get (v := .int fr1) M w 0 4 clX3 rfl (by decide) G297 rfl rfl dX3_finds_29 ?_
        refine b_any (fun z7 z7_a z7_b => ?_)
        refine lv_iconst (v := iI (-1)) hx hb dX3_finds_32 (by decide +kernel) ?_
        refine r_ixor (v := _) M rfl dX3_finds_33 ?_
        refine b_any (fun z8 z8_a z8_b => ?_)
        refine r_iand (v := _) M rfl dX3_finds_34 ?_
        refine b_any (fun z9 z9_a z9_b => ?_)
        refine lv_iconst (v := iI 1) hx hb dX3_finds_35 (by decide +kernel) ?_
        refine lv_iload hx hb dX3_finds_36 (lv_at hl 0 rfl) ?_
        refine r_ishl (v := _) M rfl dX3_finds_38 ?_
        refine b_rng (lo := 1) (hi := 256) (ishl_9 (by omega) (by omega)) (fun z10 z10_a z10_b => ?_)
        refine r_iand (v := _) M rfl dX3_finds_39 ?_
        refine b_rng (lo := 0) (hi := z10) (iand_r (by omega) (by omega)) (fun z11 z11_a z11_b => ?_)
        refine lv_if_eq (tgt := 95) hx hb dX3_finds_40 (by decide) (fun c_12 => ?_) (fun c_12 => ?_)
        · replace c_12 := (iz_eq (by omega) (by omega)).mp c_12
          refine lv_iinc (v := iI (z3 + 1)) (lv' := [(4, .int (iI (z3 + 1))), (0, .ref a0), (1, .int (iI x0)), (2, .int (iI x1)), (3, .int (iI 8))]) hx hb dX3_finds_95 hl (k := 0) rfl (ii_inc (by decide +kernel)) (by decide) rfl (fun ls hl => ?_)
          refine lv_goto (tgt := 11) hx hb dX3_finds_98 (by decide) ?_
          exact ih1 fr1 ff2 (z3 + 1) _ _ _ ff2_h (by omega) (by omega) (by omega) w (lv_sub hl [0, 1, 2, 3, 4] rfl)
        · replace c_12 : ¬ z11 = 0 := fun h => c_12 ((iz_eq (by omega) (by omega)).mpr h)
          refine lv_aload_n hx hb dX3_finds_43 rfl (lv_at hl 1 rfl) ?_
          refine lv_dup hx hb dX3_finds_44 rfl ?_
          refine r_get (v := .int fr1) M w 0 4 clX3 rfl (by decide) G297 rfl rfl dX3_finds_45 ?_
          refine b_any (fun z13 z13_a z13_b => ?_)
          refine lv_iconst (v := iI 1) hx hb dX3_finds_48 (by decide +kernel) ?_
          refine lv_iload hx hb dX3_finds_49 (lv_at hl 0 rfl) ?_
          refine r_ishl (v := _) M rfl dX3_finds_51 ?_
          refine b_rng (lo := 1) (hi := 256) (ishl_9 (by omega) (by omega)) (fun z14 z14_a z14_b => ?_)
          refine r_ior (v := _) M rfl dX3_finds_52 ?_
          refine b_any (fun z15 z15_a z15_b => ?_)
          refine r_put (ws' := [(a0, .inr (3, [.ref a1, .ref a2, .ref a3, .int (iI x2), .int (iI z15)])), (a2, .inl (T 0, 9, .inl f0)), (a3, .inl (T 0, 9, .inl (cI ff2)))]) M w 0 4 clX3 rfl (by decide) G297 rfl rfl rfl rfl (Nat.le_of_ble_eq_true rfl) rfl dX3_finds_53 (fun H locs w => ?_)
          refine lv_aload_n hx hb dX3_finds_56 rfl (lv_at hl 1 rfl) ?_
          refine r_get (v := .ref a3) M w 0 2 clX3 rfl (by decide) G295 rfl rfl dX3_finds_57 ?_
          refine lv_iload hx hb dX3_finds_60 (lv_at hl 0 rfl) ?_
          refine r_iald (v := iI (ff2 z3)) M w 2 rfl (iI_in (by omega) (by omega) (by decide)) (cI_at (by omega) (by omega)) dX3_finds_62 ?_
          have hh16 : (-1) ≤ (ff2 z3) ∧ (ff2 z3) ≤ 8 := ff2_h z3
          refine lv_iconst (v := iI (-1)) hx hb dX3_finds_63 (by decide +kernel) ?_
          refine lv_icmp_eq (tgt := 85) hx hb dX3_finds_64 (by decide) (fun c_17 => ?_) (fun c_17 => ?_)
          · replace c_17 := (iI_eq (by omega) (by omega) (by decide) (by decide)).mp c_17
            refine lv_aload_n hx hb dX3_finds_85 rfl (lv_at hl 1 rfl) ?_
            refine r_get (v := .ref a3) M w 0 2 clX3 rfl (by decide) G295 rfl rfl dX3_finds_86 ?_
            refine lv_iload hx hb dX3_finds_89 (lv_at hl 0 rfl) ?_
            refine lv_iload_n hx hb dX3_finds_91 rfl (lv_at hl 2 rfl) ?_
            refine r_iast (ws' := [(a0, .inr (3, [.ref a1, .ref a2, .ref a3, .int (iI x2), .int (iI z15)])), (a2, .inl (T 0, 9, .inl f0)), (a3, .inl (T 0, 9, .inl (cI (upz ff2 z3 x0))))]) M w 2 rfl (iI_in (by omega) (by omega) (by decide)) (by rw [cI_up (by omega) (by omega)]; rfl) dX3_finds_92 (fun H locs w => ?_)
            refine lv_iconst (v := iI 1) hx hb dX3_finds_93 (by decide +kernel) ?_
            exact ret _ (1, (iI z15), (upz ff2 z3 x0)) _ _ _ _ _ [0, 1, 2] dX3_finds_94 (by decide +kernel) ⟨rfl, (show (0 : Int) ≤ 1 from by decide), (show (1 : Int) ≤ 1 from by decide), (rng_up ff2_h (by omega) (by omega))⟩ w (by decide) rfl
          · replace c_17 : ¬ (ff2 z3) = (-1) := fun h => c_17 ((iI_eq (by omega) (by omega) (by decide) (by decide)).mpr h)
            refine lv_aload_n hx hb dX3_finds_67 rfl (lv_at hl 1 rfl) ?_
            refine lv_aload_n hx hb dX3_finds_68 rfl (lv_at hl 1 rfl) ?_
            refine r_get (v := .ref a3) M w 0 2 clX3 rfl (by decide) G295 rfl rfl dX3_finds_69 ?_
            refine lv_iload hx hb dX3_finds_72 (lv_at hl 0 rfl) ?_
            refine r_iald (v := iI (ff2 z3)) M w 2 rfl (iI_in (by omega) (by omega) (by decide)) (cI_at (by omega) (by omega)) dX3_finds_74 ?_
            have hh18 : (-1) ≤ (ff2 z3) ∧ (ff2 z3) ≤ 8 := ff2_h z3
            refine lv_iload_n hx hb dX3_finds_75 rfl (lv_at hl 3 rfl) ?_
            refine lv_iload_n hx hb dX3_finds_76 rfl (lv_at hl 4 rfl) ?_
            refine lv_iconst (v := iI 1) hx hb dX3_finds_77 (by decide +kernel) ?_
            refine r_iadd (v := iI 9) M (by decide +kernel) dX3_finds_78 ?_
            refine k_I (ce := 0) (sl := 0) (rest := []) (wr := []) (r_V (f := 1) [0, 1, 2] M w V_HookedCity_Matching_65 G973 G23 (c345_X3_finds l D T _ a0 (ff2 z3) x1 a1 a2 a3 x2 (iI z15) f0 ff2 (by omega) (by omega) x1_a x1_b x2_a x2_b ff2_h) 0 clX3 rfl rfl (by decide) rfl hl.1 rfl (Nat.le_of_ble_eq_true rfl) dX3_finds_79 (by decide) (by decide) (by decide) (by decide)) w [0, 1, 2] [] rfl rfl (by decide) (by decide) rfl rfl (fun v u H locs hp w => ?_)
            obtain ⟨z19, fr20, ff21⟩ := u
            have hv : iI z19 = v := hp.1
            subst hv
            have z19_a : 0 ≤ z19 := hp.2.1
            have z19_b : z19 ≤ 1 := hp.2.2.1
            have ff21_h : rng (-1) 8 ff21 := hp.2.2.2
            have w : WD D A s.heap [(a0, .inr (3, [.ref a1, .ref a2, .ref a3, .int (iI x2), .int fr20])), (a2, .inl (T 0, 9, .inl f0)), (a3, .inl (T 0, 9, .inl (cI ff21)))] H locs := w
            refine lv_if_eq (tgt := 95) hx hb dX3_finds_82 (by decide) (fun c_22 => ?_) (fun c_22 => ?_)
            · replace c_22 := (iz_eq (Int.le_trans (by decide) z19_a) (Int.le_trans z19_b (by decide))).mp c_22
              refine lv_iinc (v := iI (z3 + 1)) (lv' := [(4, .int (iI (z3 + 1))), (0, .ref a0), (1, .int (iI x0)), (2, .int (iI x1)), (3, .int (iI 8))]) hx hb dX3_finds_95 hl (k := 0) rfl (ii_inc (by decide +kernel)) (by decide) rfl (fun ls hl => ?_)
              refine lv_goto (tgt := 11) hx hb dX3_finds_98 (by decide) ?_
              exact ih1 fr20 ff21 (z3 + 1) _ _ _ ff21_h (by omega) (by omega) (by omega) w (lv_sub hl [0, 1, 2, 3, 4] rfl)
            · replace c_22 : ¬ z19 = 0 := fun h => c_22 ((iz_eq (Int.le_trans (by decide) z19_a) (Int.le_trans z19_b (by decide))).mpr h)
              refine lv_aload_n hx hb dX3_finds_85 rfl (lv_at hl 1 rfl) ?_
              refine r_get (v := .ref a3) M w 0 2 clX3 rfl (by decide) G295 rfl rfl dX3_finds_86 ?_
              refine lv_iload hx hb dX3_finds_89 (lv_at hl 0 rfl) ?_
              refine lv_iload_n hx hb dX3_finds_91 rfl (lv_at hl 2 rfl) ?_
              refine r_iast (ws' := [(a0, .inr (3, [.ref a1, .ref a2, .ref a3, .int (iI x2), .int fr20])), (a2, .inl (T 0, 9, .inl f0)), (a3, .inl (T 0, 9, .inl (cI (upz ff21 z3 x0))))]) M w 2 rfl (iI_in (by omega) (by omega) (by decide)) (by rw [cI_up (by omega) (by omega)]; rfl) dX3_finds_92 (fun H locs w => ?_)
              refine lv_iconst (v := iI 1) hx hb dX3_finds_93 (by decide +kernel) ?_
              exact ret _ (1, fr20, (upz ff21 z3 x0)) _ _ _ _ _ [0, 1, 2] dX3_finds_94 (by decide +kernel) ⟨rfl, (show (0 : Int) ≤ 1 from by decide), (show (1 : Int) ≤ 1 from by decide), (rng_up ff21_h (by omega) (by omega))⟩ w (by decide) rfl
  exact loop1 (((x2 - 0) : Int).toNat + 1) r0 f1 0 _ _ _ f1_h (by decide) (by decide) (Nat.lt_succ_self _) w (lv_sub hl [0, 1, 2, 3, 4] rfl)
set_option maxRecDepth 100000 in
set_option maxHeartbeats 4000000 in
theorem c347_X3_finds (l : Launch) (D : va_G) (T : Nat → ClassId) (sz : Nat) (a0 : Nat) (x0 : Int) (x1 : Int) (a1 : Nat) (a2 : Nat) (a3 : Nat) (x2 : Int) (r0 : Int32) (f0 : Nat → Int32) (f1 : Int → Int) (x0_a : 0 ≤ x0) (x0_b : x0 ≤ 8) (x1_a : (-2147483648) ≤ x1) (x1_b : x1 ≤ 2147483647) (x2_a : 0 ≤ x2) (x2_b : x2 ≤ 9) (f1_h : rng (-1) 8 f1) : Met l yX3_finds (Cond.code yX3_finds cX3_finds 5 (some .boolean) :: GW) (Rm 3 0 0) (cPre [.ref a0, .int (iI x0), .int (iI x1), .int (iI 7)] D T [(a0, .inr (3, [.ref a1, .ref a2, .ref a3, .int (iI x2), .int r0])), (a2, .inl (T 0, 9, .inl f0)), (a3, .inl (T 0, 9, .inl (cI f1)))] sz) (qI D [(a0, .inr (3, [.ref a1, .ref a2, .ref a3, .int (iI x2), .int r0])), (a2, .inl (T 0, 9, .inl f0)), (a3, .inl (T 0, 9, .inl (cI f1)))] sz (fun (v : Int32) (u : Int × Int32 × (Int → Int)) => iI u.1 = v ∧ 0 ≤ u.1 ∧ u.1 ≤ 1 ∧ rng (-1) 8 u.2.2) (fun u => [(a0, .inr (3, [.ref a1, .ref a2, .ref a3, .int (iI x2), .int u.2.1])), (a2, .inl (T 0, 9, .inl f0)), (a3, .inl (T 0, 9, .inl (cI u.2.2)))])) 0 0 (va_A [(a0, .inr (3, [.ref a1, .ref a2, .ref a3, .int (iI x2), .int r0])), (a2, .inl (T 0, 9, .inl f0)), (a3, .inl (T 0, 9, .inl (cI f1)))] sz) := by
  refine e_Z (by decide) (Nat.le_of_ble_eq_true rfl) ?_
  intro p e s m args below meth c A Q ls M hin w ret hl
  have hx := M.1.1
  have hb := M.1.2.1
  have hl : lv_has ls 5 [(0, .ref a0), (1, .int (iI x0)), (2, .int (iI x1)), (3, .int (iI 7))] := hl
  refine lv_iload_n hx hb dX3_finds_0 rfl (lv_at hl 3 rfl) ?_
  refine lv_bipush (v := iI 9) hx hb dX3_finds_1 (by decide +kernel) ?_
  refine lv_icmp_le (tgt := 8) hx hb dX3_finds_3 (by decide) (fun _ => ?_) (fun c => absurd (by decide +kernel) c)
  refine lv_iconst (v := iI 0) hx hb dX3_finds_8 (by decide +kernel) ?_
  refine lv_istore (lv' := [(4, .int (iI 0)), (0, .ref a0), (1, .int (iI x0)), (2, .int (iI x1)), (3, .int (iI 7))]) hx hb dX3_finds_9 hl (by decide) rfl (fun ls hl => ?_)
  have loop1 : ∀ (k1 : Nat) (fr1 : Int32) (ff2 : Int → Int) (z3 : Int) (H : Heap) (locs : List Loc) (ls : Array Slot), rng (-1) 8 ff2 → 0 ≤ z3 → z3 ≤ 9 → ((x2 - z3) : Int).toNat < k1 → WD D A s.heap [(a0, .inr (3, [.ref a1, .ref a2, .ref a3, .int (iI x2), .int fr1])), (a2, .inl (T 0, 9, .inl f0)), (a3, .inl (T 0, 9, .inl (cI ff2)))] H locs → lv_has ls 5 [(4, .int (iI z3)), (0, .ref a0), (1, .int (iI x0)), (2, .int (iI x1)), (3, .int (iI 7))] → W p l e (Rm 3 0 0) s m args below meth c H locs 0 0 Q (F0 m 11 ls []) := by
    intro k1
    induction k1 with
    | zero => intro fr1 ff2 z3 H locs ls ff2_h z3_a z3_b hm; exact absurd hm (Nat.not_lt_zero _)
    | succ k1 ih1 =>
      intro fr1 ff2 z3 H locs ls ff2_h z3_a z3_b hm1 w hl
      refine lv_iload hx hb dX3_finds_11 (lv_at hl 0 rfl) ?_
      refine lv_aload_n hx hb dX3_finds_13 rfl (lv_at hl 1 rfl) ?_
      refine r_get (v := .int (iI x2)) M w 0 3 clX3 rfl (by decide) G296 rfl rfl dX3_finds_14 ?_
      refine lv_icmp_ge (tgt := 101) hx hb dX3_finds_17 (by decide) (fun c_4 => ?_) (fun c_4 => ?_)
      · replace c_4 := (iI_le (Int.le_trans (by decide) x2_a) (Int.le_trans x2_b (by decide)) (Int.le_trans (by decide) z3_a) (Int.le_trans z3_b (by decide))).mp c_4
        refine lv_iconst (v := iI 0) hx hb dX3_finds_101 (by decide +kernel) ?_
        exact ret _ (0, fr1, ff2) _ _ _ _ _ [0, 1, 2] dX3_finds_102 (by decide +kernel) ⟨rfl, (show (0 : Int) ≤ 0 from by decide), (show (0 : Int) ≤ 1 from by decide), ff2_h⟩ w (by decide) rfl
      · replace c_4 : z3 < x2 := Int.not_le.mp (fun h => c_4 ((iI_le (Int.le_trans (by decide) x2_a) (Int.le_trans x2_b (by decide)) (Int.le_trans (by decide) z3_a) (Int.le_trans z3_b (by decide))).mpr h))
        refine lv_aload_n hx hb dX3_finds_20 rfl (lv_at hl 1 rfl) ?_
        refine r_get (v := .ref a2) M w 0 1 clX3 rfl (by decide) G294 rfl rfl dX3_finds_21 ?_
        refine lv_iload_n hx hb dX3_finds_24 rfl (lv_at hl 2 rfl) ?_
        refine r_iald (v := _) M w 1 rfl (iI_in (by omega) (by omega) (by decide)) rfl dX3_finds_25 ?_
        refine b_any (fun z5 z5_a z5_b => ?_)
        refine lv_iload_n hx hb dX3_finds_26 rfl (lv_at hl 3 rfl) ?_
        refine r_iand (v := _) M rfl dX3_finds_27 ?_
        refine b_any (fun z6 z6_a z6_b => ?_)
        refine lv_aload_n hx hb dX3_finds_28 rfl (lv_at hl 1 rfl) ?_
        refine r_get (v := .int fr1) M w 0 4 clX3 rfl (by decide) G297 rfl rfl dX3_finds_29 ?_
        refine b_any (fun z7 z7_a z7_b => ?_)
        refine lv_iconst (v := iI (-1)) hx hb dX3_finds_32 (by decide +kernel) ?_
        refine r_ixor (v := _) M rfl dX3_finds_33 ?_
        refine b_any (fun z8 z8_a z8_b => ?_)
        refine r_iand (v := _) M rfl dX3_finds_34 ?_
        refine b_any (fun z9 z9_a z9_b => ?_)
        refine lv_iconst (v := iI 1) hx hb dX3_finds_35 (by decide +kernel) ?_
        refine lv_iload hx hb dX3_finds_36 (lv_at hl 0 rfl) ?_
        refine r_ishl (v := _) M rfl dX3_finds_38 ?_
        refine b_rng (lo := 1) (hi := 256) (ishl_9 (by omega) (by omega)) (fun z10 z10_a z10_b => ?_)
        refine r_iand (v := _) M rfl dX3_finds_39 ?_
        refine b_rng (lo := 0) (hi := z10) (iand_r (by omega) (by omega)) (fun z11 z11_a z11_b => ?_)
        refine lv_if_eq (tgt := 95) hx hb dX3_finds_40 (by decide) (fun c_12 => ?_) (fun c_12 => ?_)
        · replace c_12 := (iz_eq (by omega) (by omega)).mp c_12
          refine lv_iinc (v := iI (z3 + 1)) (lv' := [(4, .int (iI (z3 + 1))), (0, .ref a0), (1, .int (iI x0)), (2, .int (iI x1)), (3, .int (iI 7))]) hx hb dX3_finds_95 hl (k := 0) rfl (ii_inc (by decide +kernel)) (by decide) rfl (fun ls hl => ?_)
          refine lv_goto (tgt := 11) hx hb dX3_finds_98 (by decide) ?_
          exact ih1 fr1 ff2 (z3 + 1) _ _ _ ff2_h (by omega) (by omega) (by omega) w (lv_sub hl [0, 1, 2, 3, 4] rfl)
        · replace c_12 : ¬ z11 = 0 := fun h => c_12 ((iz_eq (by omega) (by omega)).mpr h)
          refine lv_aload_n hx hb dX3_finds_43 rfl (lv_at hl 1 rfl) ?_
          refine lv_dup hx hb dX3_finds_44 rfl ?_
          refine r_get (v := .int fr1) M w 0 4 clX3 rfl (by decide) G297 rfl rfl dX3_finds_45 ?_
          refine b_any (fun z13 z13_a z13_b => ?_)
          refine lv_iconst (v := iI 1) hx hb dX3_finds_48 (by decide +kernel) ?_
          refine lv_iload hx hb dX3_finds_49 (lv_at hl 0 rfl) ?_
          refine r_ishl (v := _) M rfl dX3_finds_51 ?_
          refine b_rng (lo := 1) (hi := 256) (ishl_9 (by omega) (by omega)) (fun z14 z14_a z14_b => ?_)
          refine r_ior (v := _) M rfl dX3_finds_52 ?_
          refine b_any (fun z15 z15_a z15_b => ?_)
          refine r_put (ws' := [(a0, .inr (3, [.ref a1, .ref a2, .ref a3, .int (iI x2), .int (iI z15)])), (a2, .inl (T 0, 9, .inl f0)), (a3, .inl (T 0, 9, .inl (cI ff2)))]) M w 0 4 clX3 rfl (by decide) G297 rfl rfl rfl rfl (Nat.le_of_ble_eq_true rfl) rfl dX3_finds_53 (fun H locs w => ?_)
          refine lv_aload_n hx hb dX3_finds_56 rfl (lv_at hl 1 rfl) ?_
          refine r_get (v := .ref a3) M w 0 2 clX3 rfl (by decide) G295 rfl rfl dX3_finds_57 ?_
          refine lv_iload hx hb dX3_finds_60 (lv_at hl 0 rfl) ?_
          refine r_iald (v := iI (ff2 z3)) M w 2 rfl (iI_in (by omega) (by omega) (by decide)) (cI_at (by omega) (by omega)) dX3_finds_62 ?_
          have hh16 : (-1) ≤ (ff2 z3) ∧ (ff2 z3) ≤ 8 := ff2_h z3
          refine lv_iconst (v := iI (-1)) hx hb dX3_finds_63 (by decide +kernel) ?_
          refine lv_icmp_eq (tgt := 85) hx hb dX3_finds_64 (by decide) (fun c_17 => ?_) (fun c_17 => ?_)
          · replace c_17 := (iI_eq (by omega) (by omega) (by decide) (by decide)).mp c_17
            refine lv_aload_n hx hb dX3_finds_85 rfl (lv_at hl 1 rfl) ?_
            refine r_get (v := .ref a3) M w 0 2 clX3 rfl (by decide) G295 rfl rfl dX3_finds_86 ?_
            refine lv_iload hx hb dX3_finds_89 (lv_at hl 0 rfl) ?_
            refine lv_iload_n hx hb dX3_finds_91 rfl (lv_at hl 2 rfl) ?_
            refine r_iast (ws' := [(a0, .inr (3, [.ref a1, .ref a2, .ref a3, .int (iI x2), .int (iI z15)])), (a2, .inl (T 0, 9, .inl f0)), (a3, .inl (T 0, 9, .inl (cI (upz ff2 z3 x0))))]) M w 2 rfl (iI_in (by omega) (by omega) (by decide)) (by rw [cI_up (by omega) (by omega)]; rfl) dX3_finds_92 (fun H locs w => ?_)
            refine lv_iconst (v := iI 1) hx hb dX3_finds_93 (by decide +kernel) ?_
            exact ret _ (1, (iI z15), (upz ff2 z3 x0)) _ _ _ _ _ [0, 1, 2] dX3_finds_94 (by decide +kernel) ⟨rfl, (show (0 : Int) ≤ 1 from by decide), (show (1 : Int) ≤ 1 from by decide), (rng_up ff2_h (by omega) (by omega))⟩ w (by decide) rfl
          · replace c_17 : ¬ (ff2 z3) = (-1) := fun h => c_17 ((iI_eq (by omega) (by omega) (by decide) (by decide)).mpr h)
            refine lv_aload_n hx hb dX3_finds_67 rfl (lv_at hl 1 rfl) ?_
            refine lv_aload_n hx hb dX3_finds_68 rfl (lv_at hl 1 rfl) ?_
            refine r_get (v := .ref a3) M w 0 2 clX3 rfl (by decide) G295 rfl rfl dX3_finds_69 ?_
            refine lv_iload hx hb dX3_finds_72 (lv_at hl 0 rfl) ?_
            refine r_iald (v := iI (ff2 z3)) M w 2 rfl (iI_in (by omega) (by omega) (by decide)) (cI_at (by omega) (by omega)) dX3_finds_74 ?_
            have hh18 : (-1) ≤ (ff2 z3) ∧ (ff2 z3) ≤ 8 := ff2_h z3
            refine lv_iload_n hx hb dX3_finds_75 rfl (lv_at hl 3 rfl) ?_
            refine lv_iload_n hx hb dX3_finds_76 rfl (lv_at hl 4 rfl) ?_
            refine lv_iconst (v := iI 1) hx hb dX3_finds_77 (by decide +kernel) ?_
            refine r_iadd (v := iI 8) M (by decide +kernel) dX3_finds_78 ?_
            refine k_I (ce := 0) (sl := 0) (rest := []) (wr := []) (r_V (f := 2) [0, 1, 2] M w V_HookedCity_Matching_65 G973 G23 (c346_X3_finds l D T _ a0 (ff2 z3) x1 a1 a2 a3 x2 (iI z15) f0 ff2 (by omega) (by omega) x1_a x1_b x2_a x2_b ff2_h) 0 clX3 rfl rfl (by decide) rfl hl.1 rfl (Nat.le_of_ble_eq_true rfl) dX3_finds_79 (by decide) (by decide) (by decide) (by decide)) w [0, 1, 2] [] rfl rfl (by decide) (by decide) rfl rfl (fun v u H locs hp w => ?_)
            obtain ⟨z19, fr20, ff21⟩ := u
            have hv : iI z19 = v := hp.1
            subst hv
            have z19_a : 0 ≤ z19 := hp.2.1
            have z19_b : z19 ≤ 1 := hp.2.2.1
            have ff21_h : rng (-1) 8 ff21 := hp.2.2.2
            have w : WD D A s.heap [(a0, .inr (3, [.ref a1, .ref a2, .ref a3, .int (iI x2), .int fr20])), (a2, .inl (T 0, 9, .inl f0)), (a3, .inl (T 0, 9, .inl (cI ff21)))] H locs := w
            refine lv_if_eq (tgt := 95) hx hb dX3_finds_82 (by decide) (fun c_22 => ?_) (fun c_22 => ?_)
            · replace c_22 := (iz_eq (Int.le_trans (by decide) z19_a) (Int.le_trans z19_b (by decide))).mp c_22
              refine lv_iinc (v := iI (z3 + 1)) (lv' := [(4, .int (iI (z3 + 1))), (0, .ref a0), (1, .int (iI x0)), (2, .int (iI x1)), (3, .int (iI 7))]) hx hb dX3_finds_95 hl (k := 0) rfl (ii_inc (by decide +kernel)) (by decide) rfl (fun ls hl => ?_)
              refine lv_goto (tgt := 11) hx hb dX3_finds_98 (by decide) ?_
              exact ih1 fr20 ff21 (z3 + 1) _ _ _ ff21_h (by omega) (by omega) (by omega) w (lv_sub hl [0, 1, 2, 3, 4] rfl)
            · replace c_22 : ¬ z19 = 0 := fun h => c_22 ((iz_eq (Int.le_trans (by decide) z19_a) (Int.le_trans z19_b (by decide))).mpr h)
              refine lv_aload_n hx hb dX3_finds_85 rfl (lv_at hl 1 rfl) ?_
              refine r_get (v := .ref a3) M w 0 2 clX3 rfl (by decide) G295 rfl rfl dX3_finds_86 ?_
              refine lv_iload hx hb dX3_finds_89 (lv_at hl 0 rfl) ?_
              refine lv_iload_n hx hb dX3_finds_91 rfl (lv_at hl 2 rfl) ?_
              refine r_iast (ws' := [(a0, .inr (3, [.ref a1, .ref a2, .ref a3, .int (iI x2), .int fr20])), (a2, .inl (T 0, 9, .inl f0)), (a3, .inl (T 0, 9, .inl (cI (upz ff21 z3 x0))))]) M w 2 rfl (iI_in (by omega) (by omega) (by decide)) (by rw [cI_up (by omega) (by omega)]; rfl) dX3_finds_92 (fun H locs w => ?_)
              refine lv_iconst (v := iI 1) hx hb dX3_finds_93 (by decide +kernel) ?_
              exact ret _ (1, fr20, (upz ff21 z3 x0)) _ _ _ _ _ [0, 1, 2] dX3_finds_94 (by decide +kernel) ⟨rfl, (show (0 : Int) ≤ 1 from by decide), (show (1 : Int) ≤ 1 from by decide), (rng_up ff21_h (by omega) (by omega))⟩ w (by decide) rfl
  exact loop1 (((x2 - 0) : Int).toNat + 1) r0 f1 0 _ _ _ f1_h (by decide) (by decide) (Nat.lt_succ_self _) w (lv_sub hl [0, 1, 2, 3, 4] rfl)
set_option maxRecDepth 100000 in
set_option maxHeartbeats 4000000 in
theorem c348_X3_finds (l : Launch) (D : va_G) (T : Nat → ClassId) (sz : Nat) (a0 : Nat) (x0 : Int) (x1 : Int) (a1 : Nat) (a2 : Nat) (a3 : Nat) (x2 : Int) (r0 : Int32) (f0 : Nat → Int32) (f1 : Int → Int) (x0_a : 0 ≤ x0) (x0_b : x0 ≤ 8) (x1_a : (-2147483648) ≤ x1) (x1_b : x1 ≤ 2147483647) (x2_a : 0 ≤ x2) (x2_b : x2 ≤ 9) (f1_h : rng (-1) 8 f1) : Met l yX3_finds (Cond.code yX3_finds cX3_finds 5 (some .boolean) :: GW) (Rm 4 0 0) (cPre [.ref a0, .int (iI x0), .int (iI x1), .int (iI 6)] D T [(a0, .inr (3, [.ref a1, .ref a2, .ref a3, .int (iI x2), .int r0])), (a2, .inl (T 0, 9, .inl f0)), (a3, .inl (T 0, 9, .inl (cI f1)))] sz) (qI D [(a0, .inr (3, [.ref a1, .ref a2, .ref a3, .int (iI x2), .int r0])), (a2, .inl (T 0, 9, .inl f0)), (a3, .inl (T 0, 9, .inl (cI f1)))] sz (fun (v : Int32) (u : Int × Int32 × (Int → Int)) => iI u.1 = v ∧ 0 ≤ u.1 ∧ u.1 ≤ 1 ∧ rng (-1) 8 u.2.2) (fun u => [(a0, .inr (3, [.ref a1, .ref a2, .ref a3, .int (iI x2), .int u.2.1])), (a2, .inl (T 0, 9, .inl f0)), (a3, .inl (T 0, 9, .inl (cI u.2.2)))])) 0 0 (va_A [(a0, .inr (3, [.ref a1, .ref a2, .ref a3, .int (iI x2), .int r0])), (a2, .inl (T 0, 9, .inl f0)), (a3, .inl (T 0, 9, .inl (cI f1)))] sz) := by
  refine e_Z (by decide) (Nat.le_of_ble_eq_true rfl) ?_
  intro p e s m args below meth c A Q ls M hin w ret hl
  have hx := M.1.1
  have hb := M.1.2.1
  have hl : lv_has ls 5 [(0, .ref a0), (1, .int (iI x0)), (2, .int (iI x1)), (3, .int (iI 6))] := hl
  refine lv_iload_n hx hb dX3_finds_0 rfl (lv_at hl 3 rfl) ?_
  refine lv_bipush (v := iI 9) hx hb dX3_finds_1 (by decide +kernel) ?_
  refine lv_icmp_le (tgt := 8) hx hb dX3_finds_3 (by decide) (fun _ => ?_) (fun c => absurd (by decide +kernel) c)
  refine lv_iconst (v := iI 0) hx hb dX3_finds_8 (by decide +kernel) ?_
  refine lv_istore (lv' := [(4, .int (iI 0)), (0, .ref a0), (1, .int (iI x0)), (2, .int (iI x1)), (3, .int (iI 6))]) hx hb dX3_finds_9 hl (by decide) rfl (fun ls hl => ?_)
  have loop1 : ∀ (k1 : Nat) (fr1 : Int32) (ff2 : Int → Int) (z3 : Int) (H : Heap) (locs : List Loc) (ls : Array Slot), rng (-1) 8 ff2 → 0 ≤ z3 → z3 ≤ 9 → ((x2 - z3) : Int).toNat < k1 → WD D A s.heap [(a0, .inr (3, [.ref a1, .ref a2, .ref a3, .int (iI x2), .int fr1])), (a2, .inl (T 0, 9, .inl f0)), (a3, .inl (T 0, 9, .inl (cI ff2)))] H locs → lv_has ls 5 [(4, .int (iI z3)), (0, .ref a0), (1, .int (iI x0)), (2, .int (iI x1)), (3, .int (iI 6))] → W p l e (Rm 4 0 0) s m args below meth c H locs 0 0 Q (F0 m 11 ls []) := by
    intro k1
    induction k1 with
    | zero => intro fr1 ff2 z3 H locs ls ff2_h z3_a z3_b hm; exact absurd hm (Nat.not_lt_zero _)
    | succ k1 ih1 =>
      intro fr1 ff2 z3 H locs ls ff2_h z3_a z3_b hm1 w hl
      refine lv_iload hx hb dX3_finds_11 (lv_at hl 0 rfl) ?_
      refine lv_aload_n hx hb dX3_finds_13 rfl (lv_at hl 1 rfl) ?_
      refine r_get (v := .int (iI x2)) M w 0 3 clX3 rfl (by decide) G296 rfl rfl dX3_finds_14 ?_
      refine lv_icmp_ge (tgt := 101) hx hb dX3_finds_17 (by decide) (fun c_4 => ?_) (fun c_4 => ?_)
      · replace c_4 := (iI_le (Int.le_trans (by decide) x2_a) (Int.le_trans x2_b (by decide)) (Int.le_trans (by decide) z3_a) (Int.le_trans z3_b (by decide))).mp c_4
        refine lv_iconst (v := iI 0) hx hb dX3_finds_101 (by decide +kernel) ?_
        exact ret _ (0, fr1, ff2) _ _ _ _ _ [0, 1, 2] dX3_finds_102 (by decide +kernel) ⟨rfl, (show (0 : Int) ≤ 0 from by decide), (show (0 : Int) ≤ 1 from by decide), ff2_h⟩ w (by decide) rfl
      · replace c_4 : z3 < x2 := Int.not_le.mp (fun h => c_4 ((iI_le (Int.le_trans (by decide) x2_a) (Int.le_trans x2_b (by decide)) (Int.le_trans (by decide) z3_a) (Int.le_trans z3_b (by decide))).mpr h))
        refine lv_aload_n hx hb dX3_finds_20 rfl (lv_at hl 1 rfl) ?_
        refine r_get (v := .ref a2) M w 0 1 clX3 rfl (by decide) G294 rfl rfl dX3_finds_21 ?_
        refine lv_iload_n hx hb dX3_finds_24 rfl (lv_at hl 2 rfl) ?_
        refine r_iald (v := _) M w 1 rfl (iI_in (by omega) (by omega) (by decide)) rfl dX3_finds_25 ?_
        refine b_any (fun z5 z5_a z5_b => ?_)
        refine lv_iload_n hx hb dX3_finds_26 rfl (lv_at hl 3 rfl) ?_
        refine r_iand (v := _) M rfl dX3_finds_27 ?_
        refine b_any (fun z6 z6_a z6_b => ?_)
        refine lv_aload_n hx hb dX3_finds_28 rfl (lv_at hl 1 rfl) ?_
        refine r_get (v := .int fr1) M w 0 4 clX3 rfl (by decide) G297 rfl rfl dX3_finds_29 ?_
        refine b_any (fun z7 z7_a z7_b => ?_)
        refine lv_iconst (v := iI (-1)) hx hb dX3_finds_32 (by decide +kernel) ?_
        refine r_ixor (v := _) M rfl dX3_finds_33 ?_
        refine b_any (fun z8 z8_a z8_b => ?_)
        refine r_iand (v := _) M rfl dX3_finds_34 ?_
        refine b_any (fun z9 z9_a z9_b => ?_)
        refine lv_iconst (v := iI 1) hx hb dX3_finds_35 (by decide +kernel) ?_
        refine lv_iload hx hb dX3_finds_36 (lv_at hl 0 rfl) ?_
        refine r_ishl (v := _) M rfl dX3_finds_38 ?_
        refine b_rng (lo := 1) (hi := 256) (ishl_9 (by omega) (by omega)) (fun z10 z10_a z10_b => ?_)
        refine r_iand (v := _) M rfl dX3_finds_39 ?_
        refine b_rng (lo := 0) (hi := z10) (iand_r (by omega) (by omega)) (fun z11 z11_a z11_b => ?_)
        refine lv_if_eq (tgt := 95) hx hb dX3_finds_40 (by decide) (fun c_12 => ?_) (fun c_12 => ?_)
        · replace c_12 := (iz_eq (by omega) (by omega)).mp c_12
          refine lv_iinc (v := iI (z3 + 1)) (lv' := [(4, .int (iI (z3 + 1))), (0, .ref a0), (1, .int (iI x0)), (2, .int (iI x1)), (3, .int (iI 6))]) hx hb dX3_finds_95 hl (k := 0) rfl (ii_inc (by decide +kernel)) (by decide) rfl (fun ls hl => ?_)
          refine lv_goto (tgt := 11) hx hb dX3_finds_98 (by decide) ?_
          exact ih1 fr1 ff2 (z3 + 1) _ _ _ ff2_h (by omega) (by omega) (by omega) w (lv_sub hl [0, 1, 2, 3, 4] rfl)
        · replace c_12 : ¬ z11 = 0 := fun h => c_12 ((iz_eq (by omega) (by omega)).mpr h)
          refine lv_aload_n hx hb dX3_finds_43 rfl (lv_at hl 1 rfl) ?_
          refine lv_dup hx hb dX3_finds_44 rfl ?_
          refine r_get (v := .int fr1) M w 0 4 clX3 rfl (by decide) G297 rfl rfl dX3_finds_45 ?_
          refine b_any (fun z13 z13_a z13_b => ?_)
          refine lv_iconst (v := iI 1) hx hb dX3_finds_48 (by decide +kernel) ?_
          refine lv_iload hx hb dX3_finds_49 (lv_at hl 0 rfl) ?_
          refine r_ishl (v := _) M rfl dX3_finds_51 ?_
          refine b_rng (lo := 1) (hi := 256) (ishl_9 (by omega) (by omega)) (fun z14 z14_a z14_b => ?_)
          refine r_ior (v := _) M rfl dX3_finds_52 ?_
          refine b_any (fun z15 z15_a z15_b => ?_)
          refine r_put (ws' := [(a0, .inr (3, [.ref a1, .ref a2, .ref a3, .int (iI x2), .int (iI z15)])), (a2, .inl (T 0, 9, .inl f0)), (a3, .inl (T 0, 9, .inl (cI ff2)))]) M w 0 4 clX3 rfl (by decide) G297 rfl rfl rfl rfl (Nat.le_of_ble_eq_true rfl) rfl dX3_finds_53 (fun H locs w => ?_)
          refine lv_aload_n hx hb dX3_finds_56 rfl (lv_at hl 1 rfl) ?_
          refine r_get (v := .ref a3) M w 0 2 clX3 rfl (by decide) G295 rfl rfl dX3_finds_57 ?_
          refine lv_iload hx hb dX3_finds_60 (lv_at hl 0 rfl) ?_
          refine r_iald (v := iI (ff2 z3)) M w 2 rfl (iI_in (by omega) (by omega) (by decide)) (cI_at (by omega) (by omega)) dX3_finds_62 ?_
          have hh16 : (-1) ≤ (ff2 z3) ∧ (ff2 z3) ≤ 8 := ff2_h z3
          refine lv_iconst (v := iI (-1)) hx hb dX3_finds_63 (by decide +kernel) ?_
          refine lv_icmp_eq (tgt := 85) hx hb dX3_finds_64 (by decide) (fun c_17 => ?_) (fun c_17 => ?_)
          · replace c_17 := (iI_eq (by omega) (by omega) (by decide) (by decide)).mp c_17
            refine lv_aload_n hx hb dX3_finds_85 rfl (lv_at hl 1 rfl) ?_
            refine r_get (v := .ref a3) M w 0 2 clX3 rfl (by decide) G295 rfl rfl dX3_finds_86 ?_
            refine lv_iload hx hb dX3_finds_89 (lv_at hl 0 rfl) ?_
            refine lv_iload_n hx hb dX3_finds_91 rfl (lv_at hl 2 rfl) ?_
            refine r_iast (ws' := [(a0, .inr (3, [.ref a1, .ref a2, .ref a3, .int (iI x2), .int (iI z15)])), (a2, .inl (T 0, 9, .inl f0)), (a3, .inl (T 0, 9, .inl (cI (upz ff2 z3 x0))))]) M w 2 rfl (iI_in (by omega) (by omega) (by decide)) (by rw [cI_up (by omega) (by omega)]; rfl) dX3_finds_92 (fun H locs w => ?_)
            refine lv_iconst (v := iI 1) hx hb dX3_finds_93 (by decide +kernel) ?_
            exact ret _ (1, (iI z15), (upz ff2 z3 x0)) _ _ _ _ _ [0, 1, 2] dX3_finds_94 (by decide +kernel) ⟨rfl, (show (0 : Int) ≤ 1 from by decide), (show (1 : Int) ≤ 1 from by decide), (rng_up ff2_h (by omega) (by omega))⟩ w (by decide) rfl
          · replace c_17 : ¬ (ff2 z3) = (-1) := fun h => c_17 ((iI_eq (by omega) (by omega) (by decide) (by decide)).mpr h)
            refine lv_aload_n hx hb dX3_finds_67 rfl (lv_at hl 1 rfl) ?_
            refine lv_aload_n hx hb dX3_finds_68 rfl (lv_at hl 1 rfl) ?_
            refine r_get (v := .ref a3) M w 0 2 clX3 rfl (by decide) G295 rfl rfl dX3_finds_69 ?_
            refine lv_iload hx hb dX3_finds_72 (lv_at hl 0 rfl) ?_
            refine r_iald (v := iI (ff2 z3)) M w 2 rfl (iI_in (by omega) (by omega) (by decide)) (cI_at (by omega) (by omega)) dX3_finds_74 ?_
            have hh18 : (-1) ≤ (ff2 z3) ∧ (ff2 z3) ≤ 8 := ff2_h z3
            refine lv_iload_n hx hb dX3_finds_75 rfl (lv_at hl 3 rfl) ?_
            refine lv_iload_n hx hb dX3_finds_76 rfl (lv_at hl 4 rfl) ?_
            refine lv_iconst (v := iI 1) hx hb dX3_finds_77 (by decide +kernel) ?_
            refine r_iadd (v := iI 7) M (by decide +kernel) dX3_finds_78 ?_
            refine k_I (ce := 0) (sl := 0) (rest := []) (wr := []) (r_V (f := 3) [0, 1, 2] M w V_HookedCity_Matching_65 G973 G23 (c347_X3_finds l D T _ a0 (ff2 z3) x1 a1 a2 a3 x2 (iI z15) f0 ff2 (by omega) (by omega) x1_a x1_b x2_a x2_b ff2_h) 0 clX3 rfl rfl (by decide) rfl hl.1 rfl (Nat.le_of_ble_eq_true rfl) dX3_finds_79 (by decide) (by decide) (by decide) (by decide)) w [0, 1, 2] [] rfl rfl (by decide) (by decide) rfl rfl (fun v u H locs hp w => ?_)
            obtain ⟨z19, fr20, ff21⟩ := u
            have hv : iI z19 = v := hp.1
            subst hv
            have z19_a : 0 ≤ z19 := hp.2.1
            have z19_b : z19 ≤ 1 := hp.2.2.1
            have ff21_h : rng (-1) 8 ff21 := hp.2.2.2
            have w : WD D A s.heap [(a0, .inr (3, [.ref a1, .ref a2, .ref a3, .int (iI x2), .int fr20])), (a2, .inl (T 0, 9, .inl f0)), (a3, .inl (T 0, 9, .inl (cI ff21)))] H locs := w
            refine lv_if_eq (tgt := 95) hx hb dX3_finds_82 (by decide) (fun c_22 => ?_) (fun c_22 => ?_)
            · replace c_22 := (iz_eq (Int.le_trans (by decide) z19_a) (Int.le_trans z19_b (by decide))).mp c_22
              refine lv_iinc (v := iI (z3 + 1)) (lv' := [(4, .int (iI (z3 + 1))), (0, .ref a0), (1, .int (iI x0)), (2, .int (iI x1)), (3, .int (iI 6))]) hx hb dX3_finds_95 hl (k := 0) rfl (ii_inc (by decide +kernel)) (by decide) rfl (fun ls hl => ?_)
              refine lv_goto (tgt := 11) hx hb dX3_finds_98 (by decide) ?_
              exact ih1 fr20 ff21 (z3 + 1) _ _ _ ff21_h (by omega) (by omega) (by omega) w (lv_sub hl [0, 1, 2, 3, 4] rfl)
            · replace c_22 : ¬ z19 = 0 := fun h => c_22 ((iz_eq (Int.le_trans (by decide) z19_a) (Int.le_trans z19_b (by decide))).mpr h)
              refine lv_aload_n hx hb dX3_finds_85 rfl (lv_at hl 1 rfl) ?_
              refine r_get (v := .ref a3) M w 0 2 clX3 rfl (by decide) G295 rfl rfl dX3_finds_86 ?_
              refine lv_iload hx hb dX3_finds_89 (lv_at hl 0 rfl) ?_
              refine lv_iload_n hx hb dX3_finds_91 rfl (lv_at hl 2 rfl) ?_
              refine r_iast (ws' := [(a0, .inr (3, [.ref a1, .ref a2, .ref a3, .int (iI x2), .int fr20])), (a2, .inl (T 0, 9, .inl f0)), (a3, .inl (T 0, 9, .inl (cI (upz ff21 z3 x0))))]) M w 2 rfl (iI_in (by omega) (by omega) (by decide)) (by rw [cI_up (by omega) (by omega)]; rfl) dX3_finds_92 (fun H locs w => ?_)
              refine lv_iconst (v := iI 1) hx hb dX3_finds_93 (by decide +kernel) ?_
              exact ret _ (1, fr20, (upz ff21 z3 x0)) _ _ _ _ _ [0, 1, 2] dX3_finds_94 (by decide +kernel) ⟨rfl, (show (0 : Int) ≤ 1 from by decide), (show (1 : Int) ≤ 1 from by decide), (rng_up ff21_h (by omega) (by omega))⟩ w (by decide) rfl
  exact loop1 (((x2 - 0) : Int).toNat + 1) r0 f1 0 _ _ _ f1_h (by decide) (by decide) (Nat.lt_succ_self _) w (lv_sub hl [0, 1, 2, 3, 4] rfl)
set_option maxRecDepth 100000 in
set_option maxHeartbeats 4000000 in
theorem c349_X3_finds (l : Launch) (D : va_G) (T : Nat → ClassId) (sz : Nat) (a0 : Nat) (x0 : Int) (x1 : Int) (a1 : Nat) (a2 : Nat) (a3 : Nat) (x2 : Int) (r0 : Int32) (f0 : Nat → Int32) (f1 : Int → Int) (x0_a : 0 ≤ x0) (x0_b : x0 ≤ 8) (x1_a : (-2147483648) ≤ x1) (x1_b : x1 ≤ 2147483647) (x2_a : 0 ≤ x2) (x2_b : x2 ≤ 9) (f1_h : rng (-1) 8 f1) : Met l yX3_finds (Cond.code yX3_finds cX3_finds 5 (some .boolean) :: GW) (Rm 5 0 0) (cPre [.ref a0, .int (iI x0), .int (iI x1), .int (iI 5)] D T [(a0, .inr (3, [.ref a1, .ref a2, .ref a3, .int (iI x2), .int r0])), (a2, .inl (T 0, 9, .inl f0)), (a3, .inl (T 0, 9, .inl (cI f1)))] sz) (qI D [(a0, .inr (3, [.ref a1, .ref a2, .ref a3, .int (iI x2), .int r0])), (a2, .inl (T 0, 9, .inl f0)), (a3, .inl (T 0, 9, .inl (cI f1)))] sz (fun (v : Int32) (u : Int × Int32 × (Int → Int)) => iI u.1 = v ∧ 0 ≤ u.1 ∧ u.1 ≤ 1 ∧ rng (-1) 8 u.2.2) (fun u => [(a0, .inr (3, [.ref a1, .ref a2, .ref a3, .int (iI x2), .int u.2.1])), (a2, .inl (T 0, 9, .inl f0)), (a3, .inl (T 0, 9, .inl (cI u.2.2)))])) 0 0 (va_A [(a0, .inr (3, [.ref a1, .ref a2, .ref a3, .int (iI x2), .int r0])), (a2, .inl (T 0, 9, .inl f0)), (a3, .inl (T 0, 9, .inl (cI f1)))] sz) := by
  refine e_Z (by decide) (Nat.le_of_ble_eq_true rfl) ?_
  intro p e s m args below meth c A Q ls M hin w ret hl
  have hx := M.1.1
  have hb := M.1.2.1
  have hl : lv_has ls 5 [(0, .ref a0), (1, .int (iI x0)), (2, .int (iI x1)), (3, .int (iI 5))] := hl
  refine lv_iload_n hx hb dX3_finds_0 rfl (lv_at hl 3 rfl) ?_
  refine lv_bipush (v := iI 9) hx hb dX3_finds_1 (by decide +kernel) ?_
  refine lv_icmp_le (tgt := 8) hx hb dX3_finds_3 (by decide) (fun _ => ?_) (fun c => absurd (by decide +kernel) c)
  refine lv_iconst (v := iI 0) hx hb dX3_finds_8 (by decide +kernel) ?_
  refine lv_istore (lv' := [(4, .int (iI 0)), (0, .ref a0), (1, .int (iI x0)), (2, .int (iI x1)), (3, .int (iI 5))]) hx hb dX3_finds_9 hl (by decide) rfl (fun ls hl => ?_)
  have loop1 : ∀ (k1 : Nat) (fr1 : Int32) (ff2 : Int → Int) (z3 : Int) (H : Heap) (locs : List Loc) (ls : Array Slot), rng (-1) 8 ff2 → 0 ≤ z3 → z3 ≤ 9 → ((x2 - z3) : Int).toNat < k1 → WD D A s.heap [(a0, .inr (3, [.ref a1, .ref a2, .ref a3, .int (iI x2), .int fr1])), (a2, .inl (T 0, 9, .inl f0)), (a3, .inl (T 0, 9, .inl (cI ff2)))] H locs → lv_has ls 5 [(4, .int (iI z3)), (0, .ref a0), (1, .int (iI x0)), (2, .int (iI x1)), (3, .int (iI 5))] → W p l e (Rm 5 0 0) s m args below meth c H locs 0 0 Q (F0 m 11 ls []) := by
    intro k1
    induction k1 with
    | zero => intro fr1 ff2 z3 H locs ls ff2_h z3_a z3_b hm; exact absurd hm (Nat.not_lt_zero _)
    | succ k1 ih1 =>
      intro fr1 ff2 z3 H locs ls ff2_h z3_a z3_b hm1 w hl
      refine lv_iload hx hb dX3_finds_11 (lv_at hl 0 rfl) ?_
      refine lv_aload_n hx hb dX3_finds_13 rfl (lv_at hl 1 rfl) ?_
      refine r_get (v := .int (iI x2)) M w 0 3 clX3 rfl (by decide) G296 rfl rfl dX3_finds_14 ?_
      refine lv_icmp_ge (tgt := 101) hx hb dX3_finds_17 (by decide) (fun c_4 => ?_) (fun c_4 => ?_)
      · replace c_4 := (iI_le (Int.le_trans (by decide) x2_a) (Int.le_trans x2_b (by decide)) (Int.le_trans (by decide) z3_a) (Int.le_trans z3_b (by decide))).mp c_4
        refine lv_iconst (v := iI 0) hx hb dX3_finds_101 (by decide +kernel) ?_
        exact ret _ (0, fr1, ff2) _ _ _ _ _ [0, 1, 2] dX3_finds_102 (by decide +kernel) ⟨rfl, (show (0 : Int) ≤ 0 from by decide), (show (0 : Int) ≤ 1 from by decide), ff2_h⟩ w (by decide) rfl
      · replace c_4 : z3 < x2 := Int.not_le.mp (fun h => c_4 ((iI_le (Int.le_trans (by decide) x2_a) (Int.le_trans x2_b (by decide)) (Int.le_trans (by decide) z3_a) (Int.le_trans z3_b (by decide))).mpr h))
        refine lv_aload_n hx hb dX3_finds_20 rfl (lv_at hl 1 rfl) ?_
        refine r_get (v := .ref a2) M w 0 1 clX3 rfl (by decide) G294 rfl rfl dX3_finds_21 ?_
        refine lv_iload_n hx hb dX3_finds_24 rfl (lv_at hl 2 rfl) ?_
        refine r_iald (v := _) M w 1 rfl (iI_in (by omega) (by omega) (by decide)) rfl dX3_finds_25 ?_
        refine b_any (fun z5 z5_a z5_b => ?_)
        refine lv_iload_n hx hb dX3_finds_26 rfl (lv_at hl 3 rfl) ?_
        refine r_iand (v := _) M rfl dX3_finds_27 ?_
        refine b_any (fun z6 z6_a z6_b => ?_)
        refine lv_aload_n hx hb dX3_finds_28 rfl (lv_at hl 1 rfl) ?_
        refine r_get (v := .int fr1) M w 0 4 clX3 rfl (by decide) G297 rfl rfl dX3_finds_29 ?_
        refine b_any (fun z7 z7_a z7_b => ?_)
        refine lv_iconst (v := iI (-1)) hx hb dX3_finds_32 (by decide +kernel) ?_
        refine r_ixor (v := _) M rfl dX3_finds_33 ?_
        refine b_any (fun z8 z8_a z8_b => ?_)
        refine r_iand (v := _) M rfl dX3_finds_34 ?_
        refine b_any (fun z9 z9_a z9_b => ?_)
        refine lv_iconst (v := iI 1) hx hb dX3_finds_35 (by decide +kernel) ?_
        refine lv_iload hx hb dX3_finds_36 (lv_at hl 0 rfl) ?_
        refine r_ishl (v := _) M rfl dX3_finds_38 ?_
        refine b_rng (lo := 1) (hi := 256) (ishl_9 (by omega) (by omega)) (fun z10 z10_a z10_b => ?_)
        refine r_iand (v := _) M rfl dX3_finds_39 ?_
        refine b_rng (lo := 0) (hi := z10) (iand_r (by omega) (by omega)) (fun z11 z11_a z11_b => ?_)
        refine lv_if_eq (tgt := 95) hx hb dX3_finds_40 (by decide) (fun c_12 => ?_) (fun c_12 => ?_)
        · replace c_12 := (iz_eq (by omega) (by omega)).mp c_12
          refine lv_iinc (v := iI (z3 + 1)) (lv' := [(4, .int (iI (z3 + 1))), (0, .ref a0), (1, .int (iI x0)), (2, .int (iI x1)), (3, .int (iI 5))]) hx hb dX3_finds_95 hl (k := 0) rfl (ii_inc (by decide +kernel)) (by decide) rfl (fun ls hl => ?_)
          refine lv_goto (tgt := 11) hx hb dX3_finds_98 (by decide) ?_
          exact ih1 fr1 ff2 (z3 + 1) _ _ _ ff2_h (by omega) (by omega) (by omega) w (lv_sub hl [0, 1, 2, 3, 4] rfl)
        · replace c_12 : ¬ z11 = 0 := fun h => c_12 ((iz_eq (by omega) (by omega)).mpr h)
          refine lv_aload_n hx hb dX3_finds_43 rfl (lv_at hl 1 rfl) ?_
          refine lv_dup hx hb dX3_finds_44 rfl ?_
          refine r_get (v := .int fr1) M w 0 4 clX3 rfl (by decide) G297 rfl rfl dX3_finds_45 ?_
          refine b_any (fun z13 z13_a z13_b => ?_)
          refine lv_iconst (v := iI 1) hx hb dX3_finds_48 (by decide +kernel) ?_
          refine lv_iload hx hb dX3_finds_49 (lv_at hl 0 rfl) ?_
          refine r_ishl (v := _) M rfl dX3_finds_51 ?_
          refine b_rng (lo := 1) (hi := 256) (ishl_9 (by omega) (by omega)) (fun z14 z14_a z14_b => ?_)
          refine r_ior (v := _) M rfl dX3_finds_52 ?_
          refine b_any (fun z15 z15_a z15_b => ?_)
          refine r_put (ws' := [(a0, .inr (3, [.ref a1, .ref a2, .ref a3, .int (iI x2), .int (iI z15)])), (a2, .inl (T 0, 9, .inl f0)), (a3, .inl (T 0, 9, .inl (cI ff2)))]) M w 0 4 clX3 rfl (by decide) G297 rfl rfl rfl rfl (Nat.le_of_ble_eq_true rfl) rfl dX3_finds_53 (fun H locs w => ?_)
          refine lv_aload_n hx hb dX3_finds_56 rfl (lv_at hl 1 rfl) ?_
          refine r_get (v := .ref a3) M w 0 2 clX3 rfl (by decide) G295 rfl rfl dX3_finds_57 ?_
          refine lv_iload hx hb dX3_finds_60 (lv_at hl 0 rfl) ?_
          refine r_iald (v := iI (ff2 z3)) M w 2 rfl (iI_in (by omega) (by omega) (by decide)) (cI_at (by omega) (by omega)) dX3_finds_62 ?_
          have hh16 : (-1) ≤ (ff2 z3) ∧ (ff2 z3) ≤ 8 := ff2_h z3
          refine lv_iconst (v := iI (-1)) hx hb dX3_finds_63 (by decide +kernel) ?_
          refine lv_icmp_eq (tgt := 85) hx hb dX3_finds_64 (by decide) (fun c_17 => ?_) (fun c_17 => ?_)
          · replace c_17 := (iI_eq (by omega) (by omega) (by decide) (by decide)).mp c_17
            refine lv_aload_n hx hb dX3_finds_85 rfl (lv_at hl 1 rfl) ?_
            refine r_get (v := .ref a3) M w 0 2 clX3 rfl (by decide) G295 rfl rfl dX3_finds_86 ?_
            refine lv_iload hx hb dX3_finds_89 (lv_at hl 0 rfl) ?_
            refine lv_iload_n hx hb dX3_finds_91 rfl (lv_at hl 2 rfl) ?_
            refine r_iast (ws' := [(a0, .inr (3, [.ref a1, .ref a2, .ref a3, .int (iI x2), .int (iI z15)])), (a2, .inl (T 0, 9, .inl f0)), (a3, .inl (T 0, 9, .inl (cI (upz ff2 z3 x0))))]) M w 2 rfl (iI_in (by omega) (by omega) (by decide)) (by rw [cI_up (by omega) (by omega)]; rfl) dX3_finds_92 (fun H locs w => ?_)
            refine lv_iconst (v := iI 1) hx hb dX3_finds_93 (by decide +kernel) ?_
            exact ret _ (1, (iI z15), (upz ff2 z3 x0)) _ _ _ _ _ [0, 1, 2] dX3_finds_94 (by decide +kernel) ⟨rfl, (show (0 : Int) ≤ 1 from by decide), (show (1 : Int) ≤ 1 from by decide), (rng_up ff2_h (by omega) (by omega))⟩ w (by decide) rfl
          · replace c_17 : ¬ (ff2 z3) = (-1) := fun h => c_17 ((iI_eq (by omega) (by omega) (by decide) (by decide)).mpr h)
            refine lv_aload_n hx hb dX3_finds_67 rfl (lv_at hl 1 rfl) ?_
            refine lv_aload_n hx hb dX3_finds_68 rfl (lv_at hl 1 rfl) ?_
            refine r_get (v := .ref a3) M w 0 2 clX3 rfl (by decide) G295 rfl rfl dX3_finds_69 ?_
            refine lv_iload hx hb dX3_finds_72 (lv_at hl 0 rfl) ?_
            refine r_iald (v := iI (ff2 z3)) M w 2 rfl (iI_in (by omega) (by omega) (by decide)) (cI_at (by omega) (by omega)) dX3_finds_74 ?_
            have hh18 : (-1) ≤ (ff2 z3) ∧ (ff2 z3) ≤ 8 := ff2_h z3
            refine lv_iload_n hx hb dX3_finds_75 rfl (lv_at hl 3 rfl) ?_
            refine lv_iload_n hx hb dX3_finds_76 rfl (lv_at hl 4 rfl) ?_
            refine lv_iconst (v := iI 1) hx hb dX3_finds_77 (by decide +kernel) ?_
            refine r_iadd (v := iI 6) M (by decide +kernel) dX3_finds_78 ?_
            refine k_I (ce := 0) (sl := 0) (rest := []) (wr := []) (r_V (f := 4) [0, 1, 2] M w V_HookedCity_Matching_65 G973 G23 (c348_X3_finds l D T _ a0 (ff2 z3) x1 a1 a2 a3 x2 (iI z15) f0 ff2 (by omega) (by omega) x1_a x1_b x2_a x2_b ff2_h) 0 clX3 rfl rfl (by decide) rfl hl.1 rfl (Nat.le_of_ble_eq_true rfl) dX3_finds_79 (by decide) (by decide) (by decide) (by decide)) w [0, 1, 2] [] rfl rfl (by decide) (by decide) rfl rfl (fun v u H locs hp w => ?_)
            obtain ⟨z19, fr20, ff21⟩ := u
            have hv : iI z19 = v := hp.1
            subst hv
            have z19_a : 0 ≤ z19 := hp.2.1
            have z19_b : z19 ≤ 1 := hp.2.2.1
            have ff21_h : rng (-1) 8 ff21 := hp.2.2.2
            have w : WD D A s.heap [(a0, .inr (3, [.ref a1, .ref a2, .ref a3, .int (iI x2), .int fr20])), (a2, .inl (T 0, 9, .inl f0)), (a3, .inl (T 0, 9, .inl (cI ff21)))] H locs := w
            refine lv_if_eq (tgt := 95) hx hb dX3_finds_82 (by decide) (fun c_22 => ?_) (fun c_22 => ?_)
            · replace c_22 := (iz_eq (Int.le_trans (by decide) z19_a) (Int.le_trans z19_b (by decide))).mp c_22
              refine lv_iinc (v := iI (z3 + 1)) (lv' := [(4, .int (iI (z3 + 1))), (0, .ref a0), (1, .int (iI x0)), (2, .int (iI x1)), (3, .int (iI 5))]) hx hb dX3_finds_95 hl (k := 0) rfl (ii_inc (by decide +kernel)) (by decide) rfl (fun ls hl => ?_)
              refine lv_goto (tgt := 11) hx hb dX3_finds_98 (by decide) ?_
              exact ih1 fr20 ff21 (z3 + 1) _ _ _ ff21_h (by omega) (by omega) (by omega) w (lv_sub hl [0, 1, 2, 3, 4] rfl)
            · replace c_22 : ¬ z19 = 0 := fun h => c_22 ((iz_eq (Int.le_trans (by decide) z19_a) (Int.le_trans z19_b (by decide))).mpr h)
              refine lv_aload_n hx hb dX3_finds_85 rfl (lv_at hl 1 rfl) ?_
              refine r_get (v := .ref a3) M w 0 2 clX3 rfl (by decide) G295 rfl rfl dX3_finds_86 ?_
              refine lv_iload hx hb dX3_finds_89 (lv_at hl 0 rfl) ?_
              refine lv_iload_n hx hb dX3_finds_91 rfl (lv_at hl 2 rfl) ?_
              refine r_iast (ws' := [(a0, .inr (3, [.ref a1, .ref a2, .ref a3, .int (iI x2), .int fr20])), (a2, .inl (T 0, 9, .inl f0)), (a3, .inl (T 0, 9, .inl (cI (upz ff21 z3 x0))))]) M w 2 rfl (iI_in (by omega) (by omega) (by decide)) (by rw [cI_up (by omega) (by omega)]; rfl) dX3_finds_92 (fun H locs w => ?_)
              refine lv_iconst (v := iI 1) hx hb dX3_finds_93 (by decide +kernel) ?_
              exact ret _ (1, fr20, (upz ff21 z3 x0)) _ _ _ _ _ [0, 1, 2] dX3_finds_94 (by decide +kernel) ⟨rfl, (show (0 : Int) ≤ 1 from by decide), (show (1 : Int) ≤ 1 from by decide), (rng_up ff21_h (by omega) (by omega))⟩ w (by decide) rfl
  exact loop1 (((x2 - 0) : Int).toNat + 1) r0 f1 0 _ _ _ f1_h (by decide) (by decide) (Nat.lt_succ_self _) w (lv_sub hl [0, 1, 2, 3, 4] rfl)
set_option maxRecDepth 100000 in
set_option maxHeartbeats 4000000 in
theorem c350_X3_finds (l : Launch) (D : va_G) (T : Nat → ClassId) (sz : Nat) (a0 : Nat) (x0 : Int) (x1 : Int) (a1 : Nat) (a2 : Nat) (a3 : Nat) (x2 : Int) (r0 : Int32) (f0 : Nat → Int32) (f1 : Int → Int) (x0_a : 0 ≤ x0) (x0_b : x0 ≤ 8) (x1_a : (-2147483648) ≤ x1) (x1_b : x1 ≤ 2147483647) (x2_a : 0 ≤ x2) (x2_b : x2 ≤ 9) (f1_h : rng (-1) 8 f1) : Met l yX3_finds (Cond.code yX3_finds cX3_finds 5 (some .boolean) :: GW) (Rm 6 0 0) (cPre [.ref a0, .int (iI x0), .int (iI x1), .int (iI 4)] D T [(a0, .inr (3, [.ref a1, .ref a2, .ref a3, .int (iI x2), .int r0])), (a2, .inl (T 0, 9, .inl f0)), (a3, .inl (T 0, 9, .inl (cI f1)))] sz) (qI D [(a0, .inr (3, [.ref a1, .ref a2, .ref a3, .int (iI x2), .int r0])), (a2, .inl (T 0, 9, .inl f0)), (a3, .inl (T 0, 9, .inl (cI f1)))] sz (fun (v : Int32) (u : Int × Int32 × (Int → Int)) => iI u.1 = v ∧ 0 ≤ u.1 ∧ u.1 ≤ 1 ∧ rng (-1) 8 u.2.2) (fun u => [(a0, .inr (3, [.ref a1, .ref a2, .ref a3, .int (iI x2), .int u.2.1])), (a2, .inl (T 0, 9, .inl f0)), (a3, .inl (T 0, 9, .inl (cI u.2.2)))])) 0 0 (va_A [(a0, .inr (3, [.ref a1, .ref a2, .ref a3, .int (iI x2), .int r0])), (a2, .inl (T 0, 9, .inl f0)), (a3, .inl (T 0, 9, .inl (cI f1)))] sz) := by
  refine e_Z (by decide) (Nat.le_of_ble_eq_true rfl) ?_
  intro p e s m args below meth c A Q ls M hin w ret hl
  have hx := M.1.1
  have hb := M.1.2.1
  have hl : lv_has ls 5 [(0, .ref a0), (1, .int (iI x0)), (2, .int (iI x1)), (3, .int (iI 4))] := hl
  refine lv_iload_n hx hb dX3_finds_0 rfl (lv_at hl 3 rfl) ?_
  refine lv_bipush (v := iI 9) hx hb dX3_finds_1 (by decide +kernel) ?_
  refine lv_icmp_le (tgt := 8) hx hb dX3_finds_3 (by decide) (fun _ => ?_) (fun c => absurd (by decide +kernel) c)
  refine lv_iconst (v := iI 0) hx hb dX3_finds_8 (by decide +kernel) ?_
  refine lv_istore (lv' := [(4, .int (iI 0)), (0, .ref a0), (1, .int (iI x0)), (2, .int (iI x1)), (3, .int (iI 4))]) hx hb dX3_finds_9 hl (by decide) rfl (fun ls hl => ?_)
  have loop1 : ∀ (k1 : Nat) (fr1 : Int32) (ff2 : Int → Int) (z3 : Int) (H : Heap) (locs : List Loc) (ls : Array Slot), rng (-1) 8 ff2 → 0 ≤ z3 → z3 ≤ 9 → ((x2 - z3) : Int).toNat < k1 → WD D A s.heap [(a0, .inr (3, [.ref a1, .ref a2, .ref a3, .int (iI x2), .int fr1])), (a2, .inl (T 0, 9, .inl f0)), (a3, .inl (T 0, 9, .inl (cI ff2)))] H locs → lv_has ls 5 [(4, .int (iI z3)), (0, .ref a0), (1, .int (iI x0)), (2, .int (iI x1)), (3, .int (iI 4))] → W p l e (Rm 6 0 0) s m args below meth c H locs 0 0 Q (F0 m 11 ls []) := by
    intro k1
    induction k1 with
    | zero => intro fr1 ff2 z3 H locs ls ff2_h z3_a z3_b hm; exact absurd hm (Nat.not_lt_zero _)
    | succ k1 ih1 =>
      intro fr1 ff2 z3 H locs ls ff2_h z3_a z3_b hm1 w hl
      refine lv_iload hx hb dX3_finds_11 (lv_at hl 0 rfl) ?_
      refine lv_aload_n hx hb dX3_finds_13 rfl (lv_at hl 1 rfl) ?_
      refine r_get (v := .int (iI x2)) M w 0 3 clX3 rfl (by decide) G296 rfl rfl dX3_finds_14 ?_
      refine lv_icmp_ge (tgt := 101) hx hb dX3_finds_17 (by decide) (fun c_4 => ?_) (fun c_4 => ?_)
      · replace c_4 := (iI_le (Int.le_trans (by decide) x2_a) (Int.le_trans x2_b (by decide)) (Int.le_trans (by decide) z3_a) (Int.le_trans z3_b (by decide))).mp c_4
        refine lv_iconst (v := iI 0) hx hb dX3_finds_101 (by decide +kernel) ?_
        exact ret _ (0, fr1, ff2) _ _ _ _ _ [0, 1, 2] dX3_finds_102 (by decide +kernel) ⟨rfl, (show (0 : Int) ≤ 0 from by decide), (show (0 : Int) ≤ 1 from by decide), ff2_h⟩ w (by decide) rfl
      · replace c_4 : z3 < x2 := Int.not_le.mp (fun h => c_4 ((iI_le (Int.le_trans (by decide) x2_a) (Int.le_trans x2_b (by decide)) (Int.le_trans (by decide) z3_a) (Int.le_trans z3_b (by decide))).mpr h))
        refine lv_aload_n hx hb dX3_finds_20 rfl (lv_at hl 1 rfl) ?_
        refine r_get (v := .ref a2) M w 0 1 clX3 rfl (by decide) G294 rfl rfl dX3_finds_21 ?_
        refine lv_iload_n hx hb dX3_finds_24 rfl (lv_at hl 2 rfl) ?_
        refine r_iald (v := _) M w 1 rfl (iI_in (by omega) (by omega) (by decide)) rfl dX3_finds_25 ?_
        refine b_any (fun z5 z5_a z5_b => ?_)
        refine lv_iload_n hx hb dX3_finds_26 rfl (lv_at hl 3 rfl) ?_
        refine r_iand (v := _) M rfl dX3_finds_27 ?_
        refine b_any (fun z6 z6_a z6_b => ?_)
        refine lv_aload_n hx hb dX3_finds_28 rfl (lv_at hl 1 rfl) ?_
        refine r_get (v := .int fr1) M w 0 4 clX3 rfl (by decide) G297 rfl rfl dX3_finds_29 ?_
        refine b_any (fun z7 z7_a z7_b => ?_)
        refine lv_iconst (v := iI (-1)) hx hb dX3_finds_32 (by decide +kernel) ?_
        refine r_ixor (v := _) M rfl dX3_finds_33 ?_
        refine b_any (fun z8 z8_a z8_b => ?_)
        refine r_iand (v := _) M rfl dX3_finds_34 ?_
        refine b_any (fun z9 z9_a z9_b => ?_)
        refine lv_iconst (v := iI 1) hx hb dX3_finds_35 (by decide +kernel) ?_
        refine lv_iload hx hb dX3_finds_36 (lv_at hl 0 rfl) ?_
        refine r_ishl (v := _) M rfl dX3_finds_38 ?_
        refine b_rng (lo := 1) (hi := 256) (ishl_9 (by omega) (by omega)) (fun z10 z10_a z10_b => ?_)
        refine r_iand (v := _) M rfl dX3_finds_39 ?_
        refine b_rng (lo := 0) (hi := z10) (iand_r (by omega) (by omega)) (fun z11 z11_a z11_b => ?_)
        refine lv_if_eq (tgt := 95) hx hb dX3_finds_40 (by decide) (fun c_12 => ?_) (fun c_12 => ?_)
        · replace c_12 := (iz_eq (by omega) (by omega)).mp c_12
          refine lv_iinc (v := iI (z3 + 1)) (lv' := [(4, .int (iI (z3 + 1))), (0, .ref a0), (1, .int (iI x0)), (2, .int (iI x1)), (3, .int (iI 4))]) hx hb dX3_finds_95 hl (k := 0) rfl (ii_inc (by decide +kernel)) (by decide) rfl (fun ls hl => ?_)
          refine lv_goto (tgt := 11) hx hb dX3_finds_98 (by decide) ?_
          exact ih1 fr1 ff2 (z3 + 1) _ _ _ ff2_h (by omega) (by omega) (by omega) w (lv_sub hl [0, 1, 2, 3, 4] rfl)
        · replace c_12 : ¬ z11 = 0 := fun h => c_12 ((iz_eq (by omega) (by omega)).mpr h)
          refine lv_aload_n hx hb dX3_finds_43 rfl (lv_at hl 1 rfl) ?_
          refine lv_dup hx hb dX3_finds_44 rfl ?_
          refine r_get (v := .int fr1) M w 0 4 clX3 rfl (by decide) G297 rfl rfl dX3_finds_45 ?_
          refine b_any (fun z13 z13_a z13_b => ?_)
          refine lv_iconst (v := iI 1) hx hb dX3_finds_48 (by decide +kernel) ?_
          refine lv_iload hx hb dX3_finds_49 (lv_at hl 0 rfl) ?_
          refine r_ishl (v := _) M rfl dX3_finds_51 ?_
          refine b_rng (lo := 1) (hi := 256) (ishl_9 (by omega) (by omega)) (fun z14 z14_a z14_b => ?_)
          refine r_ior (v := _) M rfl dX3_finds_52 ?_
          refine b_any (fun z15 z15_a z15_b => ?_)
          refine r_put (ws' := [(a0, .inr (3, [.ref a1, .ref a2, .ref a3, .int (iI x2), .int (iI z15)])), (a2, .inl (T 0, 9, .inl f0)), (a3, .inl (T 0, 9, .inl (cI ff2)))]) M w 0 4 clX3 rfl (by decide) G297 rfl rfl rfl rfl (Nat.le_of_ble_eq_true rfl) rfl dX3_finds_53 (fun H locs w => ?_)
          refine lv_aload_n hx hb dX3_finds_56 rfl (lv_at hl 1 rfl) ?_
          refine r_get (v := .ref a3) M w 0 2 clX3 rfl (by decide) G295 rfl rfl dX3_finds_57 ?_
          refine lv_iload hx hb dX3_finds_60 (lv_at hl 0 rfl) ?_
          refine r_iald (v := iI (ff2 z3)) M w 2 rfl (iI_in (by omega) (by omega) (by decide)) (cI_at (by omega) (by omega)) dX3_finds_62 ?_
          have hh16 : (-1) ≤ (ff2 z3) ∧ (ff2 z3) ≤ 8 := ff2_h z3
          refine lv_iconst (v := iI (-1)) hx hb dX3_finds_63 (by decide +kernel) ?_
          refine lv_icmp_eq (tgt := 85) hx hb dX3_finds_64 (by decide) (fun c_17 => ?_) (fun c_17 => ?_)
          · replace c_17 := (iI_eq (by omega) (by omega) (by decide) (by decide)).mp c_17
            refine lv_aload_n hx hb dX3_finds_85 rfl (lv_at hl 1 rfl) ?_
            refine r_get (v := .ref a3) M w 0 2 clX3 rfl (by decide) G295 rfl rfl dX3_finds_86 ?_
            refine lv_iload hx hb dX3_finds_89 (lv_at hl 0 rfl) ?_
            refine lv_iload_n hx hb dX3_finds_91 rfl (lv_at hl 2 rfl) ?_
            refine r_iast (ws' := [(a0, .inr (3, [.ref a1, .ref a2, .ref a3, .int (iI x2), .int (iI z15)])), (a2, .inl (T 0, 9, .inl f0)), (a3, .inl (T 0, 9, .inl (cI (upz ff2 z3 x0))))]) M w 2 rfl (iI_in (by omega) (by omega) (by decide)) (by rw [cI_up (by omega) (by omega)]; rfl) dX3_finds_92 (fun H locs w => ?_)
            refine lv_iconst (v := iI 1) hx hb dX3_finds_93 (by decide +kernel) ?_
            exact ret _ (1, (iI z15), (upz ff2 z3 x0)) _ _ _ _ _ [0, 1, 2] dX3_finds_94 (by decide +kernel) ⟨rfl, (show (0 : Int) ≤ 1 from by decide), (show (1 : Int) ≤ 1 from by decide), (rng_up ff2_h (by omega) (by omega))⟩ w (by decide) rfl
          · replace c_17 : ¬ (ff2 z3) = (-1) := fun h => c_17 ((iI_eq (by omega) (by omega) (by decide) (by decide)).mpr h)
            refine lv_aload_n hx hb dX3_finds_67 rfl (lv_at hl 1 rfl) ?_
            refine lv_aload_n hx hb dX3_finds_68 rfl (lv_at hl 1 rfl) ?_
            refine r_get (v := .ref a3) M w 0 2 clX3 rfl (by decide) G295 rfl rfl dX3_finds_69 ?_
            refine lv_iload hx hb dX3_finds_72 (lv_at hl 0 rfl) ?_
            refine r_iald (v := iI (ff2 z3)) M w 2 rfl (iI_in (by omega) (by omega) (by decide)) (cI_at (by omega) (by omega)) dX3_finds_74 ?_
            have hh18 : (-1) ≤ (ff2 z3) ∧ (ff2 z3) ≤ 8 := ff2_h z3
            refine lv_iload_n hx hb dX3_finds_75 rfl (lv_at hl 3 rfl) ?_
            refine lv_iload_n hx hb dX3_finds_76 rfl (lv_at hl 4 rfl) ?_
            refine lv_iconst (v := iI 1) hx hb dX3_finds_77 (by decide +kernel) ?_
            refine r_iadd (v := iI 5) M (by decide +kernel) dX3_finds_78 ?_
            refine k_I (ce := 0) (sl := 0) (rest := []) (wr := []) (r_V (f := 5) [0, 1, 2] M w V_HookedCity_Matching_65 G973 G23 (c349_X3_finds l D T _ a0 (ff2 z3) x1 a1 a2 a3 x2 (iI z15) f0 ff2 (by omega) (by omega) x1_a x1_b x2_a x2_b ff2_h) 0 clX3 rfl rfl (by decide) rfl hl.1 rfl (Nat.le_of_ble_eq_true rfl) dX3_finds_79 (by decide) (by decide) (by decide) (by decide)) w [0, 1, 2] [] rfl rfl (by decide) (by decide) rfl rfl (fun v u H locs hp w => ?_)
            obtain ⟨z19, fr20, ff21⟩ := u
            have hv : iI z19 = v := hp.1
            subst hv
            have z19_a : 0 ≤ z19 := hp.2.1
            have z19_b : z19 ≤ 1 := hp.2.2.1
            have ff21_h : rng (-1) 8 ff21 := hp.2.2.2
            have w : WD D A s.heap [(a0, .inr (3, [.ref a1, .ref a2, .ref a3, .int (iI x2), .int fr20])), (a2, .inl (T 0, 9, .inl f0)), (a3, .inl (T 0, 9, .inl (cI ff21)))] H locs := w
            refine lv_if_eq (tgt := 95) hx hb dX3_finds_82 (by decide) (fun c_22 => ?_) (fun c_22 => ?_)
            · replace c_22 := (iz_eq (Int.le_trans (by decide) z19_a) (Int.le_trans z19_b (by decide))).mp c_22
              refine lv_iinc (v := iI (z3 + 1)) (lv' := [(4, .int (iI (z3 + 1))), (0, .ref a0), (1, .int (iI x0)), (2, .int (iI x1)), (3, .int (iI 4))]) hx hb dX3_finds_95 hl (k := 0) rfl (ii_inc (by decide +kernel)) (by decide) rfl (fun ls hl => ?_)
              refine lv_goto (tgt := 11) hx hb dX3_finds_98 (by decide) ?_
              exact ih1 fr20 ff21 (z3 + 1) _ _ _ ff21_h (by omega) (by omega) (by omega) w (lv_sub hl [0, 1, 2, 3, 4] rfl)
            · replace c_22 : ¬ z19 = 0 := fun h => c_22 ((iz_eq (Int.le_trans (by decide) z19_a) (Int.le_trans z19_b (by decide))).mpr h)
              refine lv_aload_n hx hb dX3_finds_85 rfl (lv_at hl 1 rfl) ?_
              refine r_get (v := .ref a3) M w 0 2 clX3 rfl (by decide) G295 rfl rfl dX3_finds_86 ?_
              refine lv_iload hx hb dX3_finds_89 (lv_at hl 0 rfl) ?_
              refine lv_iload_n hx hb dX3_finds_91 rfl (lv_at hl 2 rfl) ?_
              refine r_iast (ws' := [(a0, .inr (3, [.ref a1, .ref a2, .ref a3, .int (iI x2), .int fr20])), (a2, .inl (T 0, 9, .inl f0)), (a3, .inl (T 0, 9, .inl (cI (upz ff21 z3 x0))))]) M w 2 rfl (iI_in (by omega) (by omega) (by decide)) (by rw [cI_up (by omega) (by omega)]; rfl) dX3_finds_92 (fun H locs w => ?_)
              refine lv_iconst (v := iI 1) hx hb dX3_finds_93 (by decide +kernel) ?_
              exact ret _ (1, fr20, (upz ff21 z3 x0)) _ _ _ _ _ [0, 1, 2] dX3_finds_94 (by decide +kernel) ⟨rfl, (show (0 : Int) ≤ 1 from by decide), (show (1 : Int) ≤ 1 from by decide), (rng_up ff21_h (by omega) (by omega))⟩ w (by decide) rfl
  exact loop1 (((x2 - 0) : Int).toNat + 1) r0 f1 0 _ _ _ f1_h (by decide) (by decide) (Nat.lt_succ_self _) w (lv_sub hl [0, 1, 2, 3, 4] rfl)
set_option maxRecDepth 100000 in
set_option maxHeartbeats 4000000 in
theorem c351_X3_finds (l : Launch) (D : va_G) (T : Nat → ClassId) (sz : Nat) (a0 : Nat) (x0 : Int) (x1 : Int) (a1 : Nat) (a2 : Nat) (a3 : Nat) (x2 : Int) (r0 : Int32) (f0 : Nat → Int32) (f1 : Int → Int) (x0_a : 0 ≤ x0) (x0_b : x0 ≤ 8) (x1_a : (-2147483648) ≤ x1) (x1_b : x1 ≤ 2147483647) (x2_a : 0 ≤ x2) (x2_b : x2 ≤ 9) (f1_h : rng (-1) 8 f1) : Met l yX3_finds (Cond.code yX3_finds cX3_finds 5 (some .boolean) :: GW) (Rm 7 0 0) (cPre [.ref a0, .int (iI x0), .int (iI x1), .int (iI 3)] D T [(a0, .inr (3, [.ref a1, .ref a2, .ref a3, .int (iI x2), .int r0])), (a2, .inl (T 0, 9, .inl f0)), (a3, .inl (T 0, 9, .inl (cI f1)))] sz) (qI D [(a0, .inr (3, [.ref a1, .ref a2, .ref a3, .int (iI x2), .int r0])), (a2, .inl (T 0, 9, .inl f0)), (a3, .inl (T 0, 9, .inl (cI f1)))] sz (fun (v : Int32) (u : Int × Int32 × (Int → Int)) => iI u.1 = v ∧ 0 ≤ u.1 ∧ u.1 ≤ 1 ∧ rng (-1) 8 u.2.2) (fun u => [(a0, .inr (3, [.ref a1, .ref a2, .ref a3, .int (iI x2), .int u.2.1])), (a2, .inl (T 0, 9, .inl f0)), (a3, .inl (T 0, 9, .inl (cI u.2.2)))])) 0 0 (va_A [(a0, .inr (3, [.ref a1, .ref a2, .ref a3, .int (iI x2), .int r0])), (a2, .inl (T 0, 9, .inl f0)), (a3, .inl (T 0, 9, .inl (cI f1)))] sz) := by
  refine e_Z (by decide) (Nat.le_of_ble_eq_true rfl) ?_
  intro p e s m args below meth c A Q ls M hin w ret hl
  have hx := M.1.1
  have hb := M.1.2.1
  have hl : lv_has ls 5 [(0, .ref a0), (1, .int (iI x0)), (2, .int (iI x1)), (3, .int (iI 3))] := hl
  refine lv_iload_n hx hb dX3_finds_0 rfl (lv_at hl 3 rfl) ?_
  refine lv_bipush (v := iI 9) hx hb dX3_finds_1 (by decide +kernel) ?_
  refine lv_icmp_le (tgt := 8) hx hb dX3_finds_3 (by decide) (fun _ => ?_) (fun c => absurd (by decide +kernel) c)
  refine lv_iconst (v := iI 0) hx hb dX3_finds_8 (by decide +kernel) ?_
  refine lv_istore (lv' := [(4, .int (iI 0)), (0, .ref a0), (1, .int (iI x0)), (2, .int (iI x1)), (3, .int (iI 3))]) hx hb dX3_finds_9 hl (by decide) rfl (fun ls hl => ?_)
  have loop1 : ∀ (k1 : Nat) (fr1 : Int32) (ff2 : Int → Int) (z3 : Int) (H : Heap) (locs : List Loc) (ls : Array Slot), rng (-1) 8 ff2 → 0 ≤ z3 → z3 ≤ 9 → ((x2 - z3) : Int).toNat < k1 → WD D A s.heap [(a0, .inr (3, [.ref a1, .ref a2, .ref a3, .int (iI x2), .int fr1])), (a2, .inl (T 0, 9, .inl f0)), (a3, .inl (T 0, 9, .inl (cI ff2)))] H locs → lv_has ls 5 [(4, .int (iI z3)), (0, .ref a0), (1, .int (iI x0)), (2, .int (iI x1)), (3, .int (iI 3))] → W p l e (Rm 7 0 0) s m args below meth c H locs 0 0 Q (F0 m 11 ls []) := by
    intro k1
    induction k1 with
    | zero => intro fr1 ff2 z3 H locs ls ff2_h z3_a z3_b hm; exact absurd hm (Nat.not_lt_zero _)
    | succ k1 ih1 =>
      intro fr1 ff2 z3 H locs ls ff2_h z3_a z3_b hm1 w hl
      refine lv_iload hx hb dX3_finds_11 (lv_at hl 0 rfl) ?_
      refine lv_aload_n hx hb dX3_finds_13 rfl (lv_at hl 1 rfl) ?_
      refine r_get (v := .int (iI x2)) M w 0 3 clX3 rfl (by decide) G296 rfl rfl dX3_finds_14 ?_
      refine lv_icmp_ge (tgt := 101) hx hb dX3_finds_17 (by decide) (fun c_4 => ?_) (fun c_4 => ?_)
      · replace c_4 := (iI_le (Int.le_trans (by decide) x2_a) (Int.le_trans x2_b (by decide)) (Int.le_trans (by decide) z3_a) (Int.le_trans z3_b (by decide))).mp c_4
        refine lv_iconst (v := iI 0) hx hb dX3_finds_101 (by decide +kernel) ?_
        exact ret _ (0, fr1, ff2) _ _ _ _ _ [0, 1, 2] dX3_finds_102 (by decide +kernel) ⟨rfl, (show (0 : Int) ≤ 0 from by decide), (show (0 : Int) ≤ 1 from by decide), ff2_h⟩ w (by decide) rfl
      · replace c_4 : z3 < x2 := Int.not_le.mp (fun h => c_4 ((iI_le (Int.le_trans (by decide) x2_a) (Int.le_trans x2_b (by decide)) (Int.le_trans (by decide) z3_a) (Int.le_trans z3_b (by decide))).mpr h))
        refine lv_aload_n hx hb dX3_finds_20 rfl (lv_at hl 1 rfl) ?_
        refine r_get (v := .ref a2) M w 0 1 clX3 rfl (by decide) G294 rfl rfl dX3_finds_21 ?_
        refine lv_iload_n hx hb dX3_finds_24 rfl (lv_at hl 2 rfl) ?_
        refine r_iald (v := _) M w 1 rfl (iI_in (by omega) (by omega) (by decide)) rfl dX3_finds_25 ?_
        refine b_any (fun z5 z5_a z5_b => ?_)
        refine lv_iload_n hx hb dX3_finds_26 rfl (lv_at hl 3 rfl) ?_
        refine r_iand (v := _) M rfl dX3_finds_27 ?_
        refine b_any (fun z6 z6_a z6_b => ?_)
        refine lv_aload_n hx hb dX3_finds_28 rfl (lv_at hl 1 rfl) ?_
        refine r_get (v := .int fr1) M w 0 4 clX3 rfl (by decide) G297 rfl rfl dX3_finds_29 ?_
        refine b_any (fun z7 z7_a z7_b => ?_)
        refine lv_iconst (v := iI (-1)) hx hb dX3_finds_32 (by decide +kernel) ?_
        refine r_ixor (v := _) M rfl dX3_finds_33 ?_
        refine b_any (fun z8 z8_a z8_b => ?_)
        refine r_iand (v := _) M rfl dX3_finds_34 ?_
        refine b_any (fun z9 z9_a z9_b => ?_)
        refine lv_iconst (v := iI 1) hx hb dX3_finds_35 (by decide +kernel) ?_
        refine lv_iload hx hb dX3_finds_36 (lv_at hl 0 rfl) ?_
        refine r_ishl (v := _) M rfl dX3_finds_38 ?_
        refine b_rng (lo := 1) (hi := 256) (ishl_9 (by omega) (by omega)) (fun z10 z10_a z10_b => ?_)
        refine r_iand (v := _) M rfl dX3_finds_39 ?_
        refine b_rng (lo := 0) (hi := z10) (iand_r (by omega) (by omega)) (fun z11 z11_a z11_b => ?_)
        refine lv_if_eq (tgt := 95) hx hb dX3_finds_40 (by decide) (fun c_12 => ?_) (fun c_12 => ?_)
        · replace c_12 := (iz_eq (by omega) (by omega)).mp c_12
          refine lv_iinc (v := iI (z3 + 1)) (lv' := [(4, .int (iI (z3 + 1))), (0, .ref a0), (1, .int (iI x0)), (2, .int (iI x1)), (3, .int (iI 3))]) hx hb dX3_finds_95 hl (k := 0) rfl (ii_inc (by decide +kernel)) (by decide) rfl (fun ls hl => ?_)
          refine lv_goto (tgt := 11) hx hb dX3_finds_98 (by decide) ?_
          exact ih1 fr1 ff2 (z3 + 1) _ _ _ ff2_h (by omega) (by omega) (by omega) w (lv_sub hl [0, 1, 2, 3, 4] rfl)
        · replace c_12 : ¬ z11 = 0 := fun h => c_12 ((iz_eq (by omega) (by omega)).mpr h)
          refine lv_aload_n hx hb dX3_finds_43 rfl (lv_at hl 1 rfl) ?_
          refine lv_dup hx hb dX3_finds_44 rfl ?_
          refine r_get (v := .int fr1) M w 0 4 clX3 rfl (by decide) G297 rfl rfl dX3_finds_45 ?_
          refine b_any (fun z13 z13_a z13_b => ?_)
          refine lv_iconst (v := iI 1) hx hb dX3_finds_48 (by decide +kernel) ?_
          refine lv_iload hx hb dX3_finds_49 (lv_at hl 0 rfl) ?_
          refine r_ishl (v := _) M rfl dX3_finds_51 ?_
          refine b_rng (lo := 1) (hi := 256) (ishl_9 (by omega) (by omega)) (fun z14 z14_a z14_b => ?_)
          refine r_ior (v := _) M rfl dX3_finds_52 ?_
          refine b_any (fun z15 z15_a z15_b => ?_)
          refine r_put (ws' := [(a0, .inr (3, [.ref a1, .ref a2, .ref a3, .int (iI x2), .int (iI z15)])), (a2, .inl (T 0, 9, .inl f0)), (a3, .inl (T 0, 9, .inl (cI ff2)))]) M w 0 4 clX3 rfl (by decide) G297 rfl rfl rfl rfl (Nat.le_of_ble_eq_true rfl) rfl dX3_finds_53 (fun H locs w => ?_)
          refine lv_aload_n hx hb dX3_finds_56 rfl (lv_at hl 1 rfl) ?_
          refine r_get (v := .ref a3) M w 0 2 clX3 rfl (by decide) G295 rfl rfl dX3_finds_57 ?_
          refine lv_iload hx hb dX3_finds_60 (lv_at hl 0 rfl) ?_
          refine r_iald (v := iI (ff2 z3)) M w 2 rfl (iI_in (by omega) (by omega) (by decide)) (cI_at (by omega) (by omega)) dX3_finds_62 ?_
          have hh16 : (-1) ≤ (ff2 z3) ∧ (ff2 z3) ≤ 8 := ff2_h z3
          refine lv_iconst (v := iI (-1)) hx hb dX3_finds_63 (by decide +kernel) ?_
          refine lv_icmp_eq (tgt := 85) hx hb dX3_finds_64 (by decide) (fun c_17 => ?_) (fun c_17 => ?_)
          · replace c_17 := (iI_eq (by omega) (by omega) (by decide) (by decide)).mp c_17
            refine lv_aload_n hx hb dX3_finds_85 rfl (lv_at hl 1 rfl) ?_
            refine r_get (v := .ref a3) M w 0 2 clX3 rfl (by decide) G295 rfl rfl dX3_finds_86 ?_
            refine lv_iload hx hb dX3_finds_89 (lv_at hl 0 rfl) ?_
            refine lv_iload_n hx hb dX3_finds_91 rfl (lv_at hl 2 rfl) ?_
            refine r_iast (ws' := [(a0, .inr (3, [.ref a1, .ref a2, .ref a3, .int (iI x2), .int (iI z15)])), (a2, .inl (T 0, 9, .inl f0)), (a3, .inl (T 0, 9, .inl (cI (upz ff2 z3 x0))))]) M w 2 rfl (iI_in (by omega) (by omega) (by decide)) (by rw [cI_up (by omega) (by omega)]; rfl) dX3_finds_92 (fun H locs w => ?_)
            refine lv_iconst (v := iI 1) hx hb dX3_finds_93 (by decide +kernel) ?_
            exact ret _ (1, (iI z15), (upz ff2 z3 x0)) _ _ _ _ _ [0, 1, 2] dX3_finds_94 (by decide +kernel) ⟨rfl, (show (0 : Int) ≤ 1 from by decide), (show (1 : Int) ≤ 1 from by decide), (rng_up ff2_h (by omega) (by omega))⟩ w (by decide) rfl
          · replace c_17 : ¬ (ff2 z3) = (-1) := fun h => c_17 ((iI_eq (by omega) (by omega) (by decide) (by decide)).mpr h)
            refine lv_aload_n hx hb dX3_finds_67 rfl (lv_at hl 1 rfl) ?_
            refine lv_aload_n hx hb dX3_finds_68 rfl (lv_at hl 1 rfl) ?_
            refine r_get (v := .ref a3) M w 0 2 clX3 rfl (by decide) G295 rfl rfl dX3_finds_69 ?_
            refine lv_iload hx hb dX3_finds_72 (lv_at hl 0 rfl) ?_
            refine r_iald (v := iI (ff2 z3)) M w 2 rfl (iI_in (by omega) (by omega) (by decide)) (cI_at (by omega) (by omega)) dX3_finds_74 ?_
            have hh18 : (-1) ≤ (ff2 z3) ∧ (ff2 z3) ≤ 8 := ff2_h z3
            refine lv_iload_n hx hb dX3_finds_75 rfl (lv_at hl 3 rfl) ?_
            refine lv_iload_n hx hb dX3_finds_76 rfl (lv_at hl 4 rfl) ?_
            refine lv_iconst (v := iI 1) hx hb dX3_finds_77 (by decide +kernel) ?_
            refine r_iadd (v := iI 4) M (by decide +kernel) dX3_finds_78 ?_
            refine k_I (ce := 0) (sl := 0) (rest := []) (wr := []) (r_V (f := 6) [0, 1, 2] M w V_HookedCity_Matching_65 G973 G23 (c350_X3_finds l D T _ a0 (ff2 z3) x1 a1 a2 a3 x2 (iI z15) f0 ff2 (by omega) (by omega) x1_a x1_b x2_a x2_b ff2_h) 0 clX3 rfl rfl (by decide) rfl hl.1 rfl (Nat.le_of_ble_eq_true rfl) dX3_finds_79 (by decide) (by decide) (by decide) (by decide)) w [0, 1, 2] [] rfl rfl (by decide) (by decide) rfl rfl (fun v u H locs hp w => ?_)
            obtain ⟨z19, fr20, ff21⟩ := u
            have hv : iI z19 = v := hp.1
            subst hv
            have z19_a : 0 ≤ z19 := hp.2.1
            have z19_b : z19 ≤ 1 := hp.2.2.1
            have ff21_h : rng (-1) 8 ff21 := hp.2.2.2
            have w : WD D A s.heap [(a0, .inr (3, [.ref a1, .ref a2, .ref a3, .int (iI x2), .int fr20])), (a2, .inl (T 0, 9, .inl f0)), (a3, .inl (T 0, 9, .inl (cI ff21)))] H locs := w
            refine lv_if_eq (tgt := 95) hx hb dX3_finds_82 (by decide) (fun c_22 => ?_) (fun c_22 => ?_)
            · replace c_22 := (iz_eq (Int.le_trans (by decide) z19_a) (Int.le_trans z19_b (by decide))).mp c_22
              refine lv_iinc (v := iI (z3 + 1)) (lv' := [(4, .int (iI (z3 + 1))), (0, .ref a0), (1, .int (iI x0)), (2, .int (iI x1)), (3, .int (iI 3))]) hx hb dX3_finds_95 hl (k := 0) rfl (ii_inc (by decide +kernel)) (by decide) rfl (fun ls hl => ?_)
              refine lv_goto (tgt := 11) hx hb dX3_finds_98 (by decide) ?_
              exact ih1 fr20 ff21 (z3 + 1) _ _ _ ff21_h (by omega) (by omega) (by omega) w (lv_sub hl [0, 1, 2, 3, 4] rfl)
            · replace c_22 : ¬ z19 = 0 := fun h => c_22 ((iz_eq (Int.le_trans (by decide) z19_a) (Int.le_trans z19_b (by decide))).mpr h)
              refine lv_aload_n hx hb dX3_finds_85 rfl (lv_at hl 1 rfl) ?_
              refine r_get (v := .ref a3) M w 0 2 clX3 rfl (by decide) G295 rfl rfl dX3_finds_86 ?_
              refine lv_iload hx hb dX3_finds_89 (lv_at hl 0 rfl) ?_
              refine lv_iload_n hx hb dX3_finds_91 rfl (lv_at hl 2 rfl) ?_
              refine r_iast (ws' := [(a0, .inr (3, [.ref a1, .ref a2, .ref a3, .int (iI x2), .int fr20])), (a2, .inl (T 0, 9, .inl f0)), (a3, .inl (T 0, 9, .inl (cI (upz ff21 z3 x0))))]) M w 2 rfl (iI_in (by omega) (by omega) (by decide)) (by rw [cI_up (by omega) (by omega)]; rfl) dX3_finds_92 (fun H locs w => ?_)
              refine lv_iconst (v := iI 1) hx hb dX3_finds_93 (by decide +kernel) ?_
              exact ret _ (1, fr20, (upz ff21 z3 x0)) _ _ _ _ _ [0, 1, 2] dX3_finds_94 (by decide +kernel) ⟨rfl, (show (0 : Int) ≤ 1 from by decide), (show (1 : Int) ≤ 1 from by decide), (rng_up ff21_h (by omega) (by omega))⟩ w (by decide) rfl
  exact loop1 (((x2 - 0) : Int).toNat + 1) r0 f1 0 _ _ _ f1_h (by decide) (by decide) (Nat.lt_succ_self _) w (lv_sub hl [0, 1, 2, 3, 4] rfl)
set_option maxRecDepth 100000 in
set_option maxHeartbeats 4000000 in
theorem c352_X3_finds (l : Launch) (D : va_G) (T : Nat → ClassId) (sz : Nat) (a0 : Nat) (x0 : Int) (x1 : Int) (a1 : Nat) (a2 : Nat) (a3 : Nat) (x2 : Int) (r0 : Int32) (f0 : Nat → Int32) (f1 : Int → Int) (x0_a : 0 ≤ x0) (x0_b : x0 ≤ 8) (x1_a : (-2147483648) ≤ x1) (x1_b : x1 ≤ 2147483647) (x2_a : 0 ≤ x2) (x2_b : x2 ≤ 9) (f1_h : rng (-1) 8 f1) : Met l yX3_finds (Cond.code yX3_finds cX3_finds 5 (some .boolean) :: GW) (Rm 8 0 0) (cPre [.ref a0, .int (iI x0), .int (iI x1), .int (iI 2)] D T [(a0, .inr (3, [.ref a1, .ref a2, .ref a3, .int (iI x2), .int r0])), (a2, .inl (T 0, 9, .inl f0)), (a3, .inl (T 0, 9, .inl (cI f1)))] sz) (qI D [(a0, .inr (3, [.ref a1, .ref a2, .ref a3, .int (iI x2), .int r0])), (a2, .inl (T 0, 9, .inl f0)), (a3, .inl (T 0, 9, .inl (cI f1)))] sz (fun (v : Int32) (u : Int × Int32 × (Int → Int)) => iI u.1 = v ∧ 0 ≤ u.1 ∧ u.1 ≤ 1 ∧ rng (-1) 8 u.2.2) (fun u => [(a0, .inr (3, [.ref a1, .ref a2, .ref a3, .int (iI x2), .int u.2.1])), (a2, .inl (T 0, 9, .inl f0)), (a3, .inl (T 0, 9, .inl (cI u.2.2)))])) 0 0 (va_A [(a0, .inr (3, [.ref a1, .ref a2, .ref a3, .int (iI x2), .int r0])), (a2, .inl (T 0, 9, .inl f0)), (a3, .inl (T 0, 9, .inl (cI f1)))] sz) := by
  refine e_Z (by decide) (Nat.le_of_ble_eq_true rfl) ?_
  intro p e s m args below meth c A Q ls M hin w ret hl
  have hx := M.1.1
  have hb := M.1.2.1
  have hl : lv_has ls 5 [(0, .ref a0), (1, .int (iI x0)), (2, .int (iI x1)), (3, .int (iI 2))] := hl
  refine lv_iload_n hx hb dX3_finds_0 rfl (lv_at hl 3 rfl) ?_
  refine lv_bipush (v := iI 9) hx hb dX3_finds_1 (by decide +kernel) ?_
  refine lv_icmp_le (tgt := 8) hx hb dX3_finds_3 (by decide) (fun _ => ?_) (fun c => absurd (by decide +kernel) c)
  refine lv_iconst (v := iI 0) hx hb dX3_finds_8 (by decide +kernel) ?_
  refine lv_istore (lv' := [(4, .int (iI 0)), (0, .ref a0), (1, .int (iI x0)), (2, .int (iI x1)), (3, .int (iI 2))]) hx hb dX3_finds_9 hl (by decide) rfl (fun ls hl => ?_)
  have loop1 : ∀ (k1 : Nat) (fr1 : Int32) (ff2 : Int → Int) (z3 : Int) (H : Heap) (locs : List Loc) (ls : Array Slot), rng (-1) 8 ff2 → 0 ≤ z3 → z3 ≤ 9 → ((x2 - z3) : Int).toNat < k1 → WD D A s.heap [(a0, .inr (3, [.ref a1, .ref a2, .ref a3, .int (iI x2), .int fr1])), (a2, .inl (T 0, 9, .inl f0)), (a3, .inl (T 0, 9, .inl (cI ff2)))] H locs → lv_has ls 5 [(4, .int (iI z3)), (0, .ref a0), (1, .int (iI x0)), (2, .int (iI x1)), (3, .int (iI 2))] → W p l e (Rm 8 0 0) s m args below meth c H locs 0 0 Q (F0 m 11 ls []) := by
    intro k1
    induction k1 with
    | zero => intro fr1 ff2 z3 H locs ls ff2_h z3_a z3_b hm; exact absurd hm (Nat.not_lt_zero _)
    | succ k1 ih1 =>
      intro fr1 ff2 z3 H locs ls ff2_h z3_a z3_b hm1 w hl
      refine lv_iload hx hb dX3_finds_11 (lv_at hl 0 rfl) ?_
      refine lv_aload_n hx hb dX3_finds_13 rfl (lv_at hl 1 rfl) ?_
      refine r_get (v := .int (iI x2)) M w 0 3 clX3 rfl (by decide) G296 rfl rfl dX3_finds_14 ?_
      refine lv_icmp_ge (tgt := 101) hx hb dX3_finds_17 (by decide) (fun c_4 => ?_) (fun c_4 => ?_)
      · replace c_4 := (iI_le (Int.le_trans (by decide) x2_a) (Int.le_trans x2_b (by decide)) (Int.le_trans (by decide) z3_a) (Int.le_trans z3_b (by decide))).mp c_4
        refine lv_iconst (v := iI 0) hx hb dX3_finds_101 (by decide +kernel) ?_
        exact ret _ (0, fr1, ff2) _ _ _ _ _ [0, 1, 2] dX3_finds_102 (by decide +kernel) ⟨rfl, (show (0 : Int) ≤ 0 from by decide), (show (0 : Int) ≤ 1 from by decide), ff2_h⟩ w (by decide) rfl
      · replace c_4 : z3 < x2 := Int.not_le.mp (fun h => c_4 ((iI_le (Int.le_trans (by decide) x2_a) (Int.le_trans x2_b (by decide)) (Int.le_trans (by decide) z3_a) (Int.le_trans z3_b (by decide))).mpr h))
        refine lv_aload_n hx hb dX3_finds_20 rfl (lv_at hl 1 rfl) ?_
        refine r_get (v := .ref a2) M w 0 1 clX3 rfl (by decide) G294 rfl rfl dX3_finds_21 ?_
        refine lv_iload_n hx hb dX3_finds_24 rfl (lv_at hl 2 rfl) ?_
        refine r_iald (v := _) M w 1 rfl (iI_in (by omega) (by omega) (by decide)) rfl dX3_finds_25 ?_
        refine b_any (fun z5 z5_a z5_b => ?_)
        refine lv_iload_n hx hb dX3_finds_26 rfl (lv_at hl 3 rfl) ?_
        refine r_iand (v := _) M rfl dX3_finds_27 ?_
        refine b_any (fun z6 z6_a z6_b => ?_)
        refine lv_aload_n hx hb dX3_finds_28 rfl (lv_at hl 1 rfl) ?_
        refine r_get (v := .int fr1) M w 0 4 clX3 rfl (by decide) G297 rfl rfl dX3_finds_29 ?_
        refine b_any (fun z7 z7_a z7_b => ?_)
        refine lv_iconst (v := iI (-1)) hx hb dX3_finds_32 (by decide +kernel) ?_
        refine r_ixor (v := _) M rfl dX3_finds_33 ?_
        refine b_any (fun z8 z8_a z8_b => ?_)
        refine r_iand (v := _) M rfl dX3_finds_34 ?_
        refine b_any (fun z9 z9_a z9_b => ?_)
        refine lv_iconst (v := iI 1) hx hb dX3_finds_35 (by decide +kernel) ?_
        refine lv_iload hx hb dX3_finds_36 (lv_at hl 0 rfl) ?_
        refine r_ishl (v := _) M rfl dX3_finds_38 ?_
        refine b_rng (lo := 1) (hi := 256) (ishl_9 (by omega) (by omega)) (fun z10 z10_a z10_b => ?_)
        refine r_iand (v := _) M rfl dX3_finds_39 ?_
        refine b_rng (lo := 0) (hi := z10) (iand_r (by omega) (by omega)) (fun z11 z11_a z11_b => ?_)
        refine lv_if_eq (tgt := 95) hx hb dX3_finds_40 (by decide) (fun c_12 => ?_) (fun c_12 => ?_)
        · replace c_12 := (iz_eq (by omega) (by omega)).mp c_12
          refine lv_iinc (v := iI (z3 + 1)) (lv' := [(4, .int (iI (z3 + 1))), (0, .ref a0), (1, .int (iI x0)), (2, .int (iI x1)), (3, .int (iI 2))]) hx hb dX3_finds_95 hl (k := 0) rfl (ii_inc (by decide +kernel)) (by decide) rfl (fun ls hl => ?_)
          refine lv_goto (tgt := 11) hx hb dX3_finds_98 (by decide) ?_
          exact ih1 fr1 ff2 (z3 + 1) _ _ _ ff2_h (by omega) (by omega) (by omega) w (lv_sub hl [0, 1, 2, 3, 4] rfl)
        · replace c_12 : ¬ z11 = 0 := fun h => c_12 ((iz_eq (by omega) (by omega)).mpr h)
          refine lv_aload_n hx hb dX3_finds_43 rfl (lv_at hl 1 rfl) ?_
          refine lv_dup hx hb dX3_finds_44 rfl ?_
          refine r_get (v := .int fr1) M w 0 4 clX3 rfl (by decide) G297 rfl rfl dX3_finds_45 ?_
          refine b_any (fun z13 z13_a z13_b => ?_)
          refine lv_iconst (v := iI 1) hx hb dX3_finds_48 (by decide +kernel) ?_
          refine lv_iload hx hb dX3_finds_49 (lv_at hl 0 rfl) ?_
          refine r_ishl (v := _) M rfl dX3_finds_51 ?_
          refine b_rng (lo := 1) (hi := 256) (ishl_9 (by omega) (by omega)) (fun z14 z14_a z14_b => ?_)
          refine r_ior (v := _) M rfl dX3_finds_52 ?_
          refine b_any (fun z15 z15_a z15_b => ?_)
          refine r_put (ws' := [(a0, .inr (3, [.ref a1, .ref a2, .ref a3, .int (iI x2), .int (iI z15)])), (a2, .inl (T 0, 9, .inl f0)), (a3, .inl (T 0, 9, .inl (cI ff2)))]) M w 0 4 clX3 rfl (by decide) G297 rfl rfl rfl rfl (Nat.le_of_ble_eq_true rfl) rfl dX3_finds_53 (fun H locs w => ?_)
          refine lv_aload_n hx hb dX3_finds_56 rfl (lv_at hl 1 rfl) ?_
          refine r_get (v := .ref a3) M w 0 2 clX3 rfl (by decide) G295 rfl rfl dX3_finds_57 ?_
          refine lv_iload hx hb dX3_finds_60 (lv_at hl 0 rfl) ?_
          refine r_iald (v := iI (ff2 z3)) M w 2 rfl (iI_in (by omega) (by omega) (by decide)) (cI_at (by omega) (by omega)) dX3_finds_62 ?_
          have hh16 : (-1) ≤ (ff2 z3) ∧ (ff2 z3) ≤ 8 := ff2_h z3
          refine lv_iconst (v := iI (-1)) hx hb dX3_finds_63 (by decide +kernel) ?_
          refine lv_icmp_eq (tgt := 85) hx hb dX3_finds_64 (by decide) (fun c_17 => ?_) (fun c_17 => ?_)
          · replace c_17 := (iI_eq (by omega) (by omega) (by decide) (by decide)).mp c_17
            refine lv_aload_n hx hb dX3_finds_85 rfl (lv_at hl 1 rfl) ?_
            refine r_get (v := .ref a3) M w 0 2 clX3 rfl (by decide) G295 rfl rfl dX3_finds_86 ?_
            refine lv_iload hx hb dX3_finds_89 (lv_at hl 0 rfl) ?_
            refine lv_iload_n hx hb dX3_finds_91 rfl (lv_at hl 2 rfl) ?_
            refine r_iast (ws' := [(a0, .inr (3, [.ref a1, .ref a2, .ref a3, .int (iI x2), .int (iI z15)])), (a2, .inl (T 0, 9, .inl f0)), (a3, .inl (T 0, 9, .inl (cI (upz ff2 z3 x0))))]) M w 2 rfl (iI_in (by omega) (by omega) (by decide)) (by rw [cI_up (by omega) (by omega)]; rfl) dX3_finds_92 (fun H locs w => ?_)
            refine lv_iconst (v := iI 1) hx hb dX3_finds_93 (by decide +kernel) ?_
            exact ret _ (1, (iI z15), (upz ff2 z3 x0)) _ _ _ _ _ [0, 1, 2] dX3_finds_94 (by decide +kernel) ⟨rfl, (show (0 : Int) ≤ 1 from by decide), (show (1 : Int) ≤ 1 from by decide), (rng_up ff2_h (by omega) (by omega))⟩ w (by decide) rfl
          · replace c_17 : ¬ (ff2 z3) = (-1) := fun h => c_17 ((iI_eq (by omega) (by omega) (by decide) (by decide)).mpr h)
            refine lv_aload_n hx hb dX3_finds_67 rfl (lv_at hl 1 rfl) ?_
            refine lv_aload_n hx hb dX3_finds_68 rfl (lv_at hl 1 rfl) ?_
            refine r_get (v := .ref a3) M w 0 2 clX3 rfl (by decide) G295 rfl rfl dX3_finds_69 ?_
            refine lv_iload hx hb dX3_finds_72 (lv_at hl 0 rfl) ?_
            refine r_iald (v := iI (ff2 z3)) M w 2 rfl (iI_in (by omega) (by omega) (by decide)) (cI_at (by omega) (by omega)) dX3_finds_74 ?_
            have hh18 : (-1) ≤ (ff2 z3) ∧ (ff2 z3) ≤ 8 := ff2_h z3
            refine lv_iload_n hx hb dX3_finds_75 rfl (lv_at hl 3 rfl) ?_
            refine lv_iload_n hx hb dX3_finds_76 rfl (lv_at hl 4 rfl) ?_
            refine lv_iconst (v := iI 1) hx hb dX3_finds_77 (by decide +kernel) ?_
            refine r_iadd (v := iI 3) M (by decide +kernel) dX3_finds_78 ?_
            refine k_I (ce := 0) (sl := 0) (rest := []) (wr := []) (r_V (f := 7) [0, 1, 2] M w V_HookedCity_Matching_65 G973 G23 (c351_X3_finds l D T _ a0 (ff2 z3) x1 a1 a2 a3 x2 (iI z15) f0 ff2 (by omega) (by omega) x1_a x1_b x2_a x2_b ff2_h) 0 clX3 rfl rfl (by decide) rfl hl.1 rfl (Nat.le_of_ble_eq_true rfl) dX3_finds_79 (by decide) (by decide) (by decide) (by decide)) w [0, 1, 2] [] rfl rfl (by decide) (by decide) rfl rfl (fun v u H locs hp w => ?_)
            obtain ⟨z19, fr20, ff21⟩ := u
            have hv : iI z19 = v := hp.1
            subst hv
            have z19_a : 0 ≤ z19 := hp.2.1
            have z19_b : z19 ≤ 1 := hp.2.2.1
            have ff21_h : rng (-1) 8 ff21 := hp.2.2.2
            have w : WD D A s.heap [(a0, .inr (3, [.ref a1, .ref a2, .ref a3, .int (iI x2), .int fr20])), (a2, .inl (T 0, 9, .inl f0)), (a3, .inl (T 0, 9, .inl (cI ff21)))] H locs := w
            refine lv_if_eq (tgt := 95) hx hb dX3_finds_82 (by decide) (fun c_22 => ?_) (fun c_22 => ?_)
            · replace c_22 := (iz_eq (Int.le_trans (by decide) z19_a) (Int.le_trans z19_b (by decide))).mp c_22
              refine lv_iinc (v := iI (z3 + 1)) (lv' := [(4, .int (iI (z3 + 1))), (0, .ref a0), (1, .int (iI x0)), (2, .int (iI x1)), (3, .int (iI 2))]) hx hb dX3_finds_95 hl (k := 0) rfl (ii_inc (by decide +kernel)) (by decide) rfl (fun ls hl => ?_)
              refine lv_goto (tgt := 11) hx hb dX3_finds_98 (by decide) ?_
              exact ih1 fr20 ff21 (z3 + 1) _ _ _ ff21_h (by omega) (by omega) (by omega) w (lv_sub hl [0, 1, 2, 3, 4] rfl)
            · replace c_22 : ¬ z19 = 0 := fun h => c_22 ((iz_eq (Int.le_trans (by decide) z19_a) (Int.le_trans z19_b (by decide))).mpr h)
              refine lv_aload_n hx hb dX3_finds_85 rfl (lv_at hl 1 rfl) ?_
              refine r_get (v := .ref a3) M w 0 2 clX3 rfl (by decide) G295 rfl rfl dX3_finds_86 ?_
              refine lv_iload hx hb dX3_finds_89 (lv_at hl 0 rfl) ?_
              refine lv_iload_n hx hb dX3_finds_91 rfl (lv_at hl 2 rfl) ?_
              refine r_iast (ws' := [(a0, .inr (3, [.ref a1, .ref a2, .ref a3, .int (iI x2), .int fr20])), (a2, .inl (T 0, 9, .inl f0)), (a3, .inl (T 0, 9, .inl (cI (upz ff21 z3 x0))))]) M w 2 rfl (iI_in (by omega) (by omega) (by decide)) (by rw [cI_up (by omega) (by omega)]; rfl) dX3_finds_92 (fun H locs w => ?_)
              refine lv_iconst (v := iI 1) hx hb dX3_finds_93 (by decide +kernel) ?_
              exact ret _ (1, fr20, (upz ff21 z3 x0)) _ _ _ _ _ [0, 1, 2] dX3_finds_94 (by decide +kernel) ⟨rfl, (show (0 : Int) ≤ 1 from by decide), (show (1 : Int) ≤ 1 from by decide), (rng_up ff21_h (by omega) (by omega))⟩ w (by decide) rfl
  exact loop1 (((x2 - 0) : Int).toNat + 1) r0 f1 0 _ _ _ f1_h (by decide) (by decide) (Nat.lt_succ_self _) w (lv_sub hl [0, 1, 2, 3, 4] rfl)
set_option maxRecDepth 100000 in
set_option maxHeartbeats 4000000 in
theorem c353_X3_finds (l : Launch) (D : va_G) (T : Nat → ClassId) (sz : Nat) (a0 : Nat) (x0 : Int) (x1 : Int) (a1 : Nat) (a2 : Nat) (a3 : Nat) (x2 : Int) (r0 : Int32) (f0 : Nat → Int32) (f1 : Int → Int) (x0_a : 0 ≤ x0) (x0_b : x0 ≤ 8) (x1_a : (-2147483648) ≤ x1) (x1_b : x1 ≤ 2147483647) (x2_a : 0 ≤ x2) (x2_b : x2 ≤ 9) (f1_h : rng (-1) 8 f1) : Met l yX3_finds (Cond.code yX3_finds cX3_finds 5 (some .boolean) :: GW) (Rm 9 0 0) (cPre [.ref a0, .int (iI x0), .int (iI x1), .int (iI 1)] D T [(a0, .inr (3, [.ref a1, .ref a2, .ref a3, .int (iI x2), .int r0])), (a2, .inl (T 0, 9, .inl f0)), (a3, .inl (T 0, 9, .inl (cI f1)))] sz) (qI D [(a0, .inr (3, [.ref a1, .ref a2, .ref a3, .int (iI x2), .int r0])), (a2, .inl (T 0, 9, .inl f0)), (a3, .inl (T 0, 9, .inl (cI f1)))] sz (fun (v : Int32) (u : Int × Int32 × (Int → Int)) => iI u.1 = v ∧ 0 ≤ u.1 ∧ u.1 ≤ 1 ∧ rng (-1) 8 u.2.2) (fun u => [(a0, .inr (3, [.ref a1, .ref a2, .ref a3, .int (iI x2), .int u.2.1])), (a2, .inl (T 0, 9, .inl f0)), (a3, .inl (T 0, 9, .inl (cI u.2.2)))])) 0 0 (va_A [(a0, .inr (3, [.ref a1, .ref a2, .ref a3, .int (iI x2), .int r0])), (a2, .inl (T 0, 9, .inl f0)), (a3, .inl (T 0, 9, .inl (cI f1)))] sz) := by
  refine e_Z (by decide) (Nat.le_of_ble_eq_true rfl) ?_
  intro p e s m args below meth c A Q ls M hin w ret hl
  have hx := M.1.1
  have hb := M.1.2.1
  have hl : lv_has ls 5 [(0, .ref a0), (1, .int (iI x0)), (2, .int (iI x1)), (3, .int (iI 1))] := hl
  refine lv_iload_n hx hb dX3_finds_0 rfl (lv_at hl 3 rfl) ?_
  refine lv_bipush (v := iI 9) hx hb dX3_finds_1 (by decide +kernel) ?_
  refine lv_icmp_le (tgt := 8) hx hb dX3_finds_3 (by decide) (fun _ => ?_) (fun c => absurd (by decide +kernel) c)
  refine lv_iconst (v := iI 0) hx hb dX3_finds_8 (by decide +kernel) ?_
  refine lv_istore (lv' := [(4, .int (iI 0)), (0, .ref a0), (1, .int (iI x0)), (2, .int (iI x1)), (3, .int (iI 1))]) hx hb dX3_finds_9 hl (by decide) rfl (fun ls hl => ?_)
  have loop1 : ∀ (k1 : Nat) (fr1 : Int32) (ff2 : Int → Int) (z3 : Int) (H : Heap) (locs : List Loc) (ls : Array Slot), rng (-1) 8 ff2 → 0 ≤ z3 → z3 ≤ 9 → ((x2 - z3) : Int).toNat < k1 → WD D A s.heap [(a0, .inr (3, [.ref a1, .ref a2, .ref a3, .int (iI x2), .int fr1])), (a2, .inl (T 0, 9, .inl f0)), (a3, .inl (T 0, 9, .inl (cI ff2)))] H locs → lv_has ls 5 [(4, .int (iI z3)), (0, .ref a0), (1, .int (iI x0)), (2, .int (iI x1)), (3, .int (iI 1))] → W p l e (Rm 9 0 0) s m args below meth c H locs 0 0 Q (F0 m 11 ls []) := by
    intro k1
    induction k1 with
    | zero => intro fr1 ff2 z3 H locs ls ff2_h z3_a z3_b hm; exact absurd hm (Nat.not_lt_zero _)
    | succ k1 ih1 =>
      intro fr1 ff2 z3 H locs ls ff2_h z3_a z3_b hm1 w hl
      refine lv_iload hx hb dX3_finds_11 (lv_at hl 0 rfl) ?_
      refine lv_aload_n hx hb dX3_finds_13 rfl (lv_at hl 1 rfl) ?_
      refine r_get (v := .int (iI x2)) M w 0 3 clX3 rfl (by decide) G296 rfl rfl dX3_finds_14 ?_
      refine lv_icmp_ge (tgt := 101) hx hb dX3_finds_17 (by decide) (fun c_4 => ?_) (fun c_4 => ?_)
      · replace c_4 := (iI_le (Int.le_trans (by decide) x2_a) (Int.le_trans x2_b (by decide)) (Int.le_trans (by decide) z3_a) (Int.le_trans z3_b (by decide))).mp c_4
        refine lv_iconst (v := iI 0) hx hb dX3_finds_101 (by decide +kernel) ?_
        exact ret _ (0, fr1, ff2) _ _ _ _ _ [0, 1, 2] dX3_finds_102 (by decide +kernel) ⟨rfl, (show (0 : Int) ≤ 0 from by decide), (show (0 : Int) ≤ 1 from by decide), ff2_h⟩ w (by decide) rfl
      · replace c_4 : z3 < x2 := Int.not_le.mp (fun h => c_4 ((iI_le (Int.le_trans (by decide) x2_a) (Int.le_trans x2_b (by decide)) (Int.le_trans (by decide) z3_a) (Int.le_trans z3_b (by decide))).mpr h))
        refine lv_aload_n hx hb dX3_finds_20 rfl (lv_at hl 1 rfl) ?_
        refine r_get (v := .ref a2) M w 0 1 clX3 rfl (by decide) G294 rfl rfl dX3_finds_21 ?_
        refine lv_iload_n hx hb dX3_finds_24 rfl (lv_at hl 2 rfl) ?_
        refine r_iald (v := _) M w 1 rfl (iI_in (by omega) (by omega) (by decide)) rfl dX3_finds_25 ?_
        refine b_any (fun z5 z5_a z5_b => ?_)
        refine lv_iload_n hx hb dX3_finds_26 rfl (lv_at hl 3 rfl) ?_
        refine r_iand (v := _) M rfl dX3_finds_27 ?_
        refine b_any (fun z6 z6_a z6_b => ?_)
        refine lv_aload_n hx hb dX3_finds_28 rfl (lv_at hl 1 rfl) ?_
        refine r_get (v := .int fr1) M w 0 4 clX3 rfl (by decide) G297 rfl rfl dX3_finds_29 ?_
        refine b_any (fun z7 z7_a z7_b => ?_)
        refine lv_iconst (v := iI (-1)) hx hb dX3_finds_32 (by decide +kernel) ?_
        refine r_ixor (v := _) M rfl dX3_finds_33 ?_
        refine b_any (fun z8 z8_a z8_b => ?_)
        refine r_iand (v := _) M rfl dX3_finds_34 ?_
        refine b_any (fun z9 z9_a z9_b => ?_)
        refine lv_iconst (v := iI 1) hx hb dX3_finds_35 (by decide +kernel) ?_
        refine lv_iload hx hb dX3_finds_36 (lv_at hl 0 rfl) ?_
        refine r_ishl (v := _) M rfl dX3_finds_38 ?_
        refine b_rng (lo := 1) (hi := 256) (ishl_9 (by omega) (by omega)) (fun z10 z10_a z10_b => ?_)
        refine r_iand (v := _) M rfl dX3_finds_39 ?_
        refine b_rng (lo := 0) (hi := z10) (iand_r (by omega) (by omega)) (fun z11 z11_a z11_b => ?_)
        refine lv_if_eq (tgt := 95) hx hb dX3_finds_40 (by decide) (fun c_12 => ?_) (fun c_12 => ?_)
        · replace c_12 := (iz_eq (by omega) (by omega)).mp c_12
          refine lv_iinc (v := iI (z3 + 1)) (lv' := [(4, .int (iI (z3 + 1))), (0, .ref a0), (1, .int (iI x0)), (2, .int (iI x1)), (3, .int (iI 1))]) hx hb dX3_finds_95 hl (k := 0) rfl (ii_inc (by decide +kernel)) (by decide) rfl (fun ls hl => ?_)
          refine lv_goto (tgt := 11) hx hb dX3_finds_98 (by decide) ?_
          exact ih1 fr1 ff2 (z3 + 1) _ _ _ ff2_h (by omega) (by omega) (by omega) w (lv_sub hl [0, 1, 2, 3, 4] rfl)
        · replace c_12 : ¬ z11 = 0 := fun h => c_12 ((iz_eq (by omega) (by omega)).mpr h)
          refine lv_aload_n hx hb dX3_finds_43 rfl (lv_at hl 1 rfl) ?_
          refine lv_dup hx hb dX3_finds_44 rfl ?_
          refine r_get (v := .int fr1) M w 0 4 clX3 rfl (by decide) G297 rfl rfl dX3_finds_45 ?_
          refine b_any (fun z13 z13_a z13_b => ?_)
          refine lv_iconst (v := iI 1) hx hb dX3_finds_48 (by decide +kernel) ?_
          refine lv_iload hx hb dX3_finds_49 (lv_at hl 0 rfl) ?_
          refine r_ishl (v := _) M rfl dX3_finds_51 ?_
          refine b_rng (lo := 1) (hi := 256) (ishl_9 (by omega) (by omega)) (fun z14 z14_a z14_b => ?_)
          refine r_ior (v := _) M rfl dX3_finds_52 ?_
          refine b_any (fun z15 z15_a z15_b => ?_)
          refine r_put (ws' := [(a0, .inr (3, [.ref a1, .ref a2, .ref a3, .int (iI x2), .int (iI z15)])), (a2, .inl (T 0, 9, .inl f0)), (a3, .inl (T 0, 9, .inl (cI ff2)))]) M w 0 4 clX3 rfl (by decide) G297 rfl rfl rfl rfl (Nat.le_of_ble_eq_true rfl) rfl dX3_finds_53 (fun H locs w => ?_)
          refine lv_aload_n hx hb dX3_finds_56 rfl (lv_at hl 1 rfl) ?_
          refine r_get (v := .ref a3) M w 0 2 clX3 rfl (by decide) G295 rfl rfl dX3_finds_57 ?_
          refine lv_iload hx hb dX3_finds_60 (lv_at hl 0 rfl) ?_
          refine r_iald (v := iI (ff2 z3)) M w 2 rfl (iI_in (by omega) (by omega) (by decide)) (cI_at (by omega) (by omega)) dX3_finds_62 ?_
          have hh16 : (-1) ≤ (ff2 z3) ∧ (ff2 z3) ≤ 8 := ff2_h z3
          refine lv_iconst (v := iI (-1)) hx hb dX3_finds_63 (by decide +kernel) ?_
          refine lv_icmp_eq (tgt := 85) hx hb dX3_finds_64 (by decide) (fun c_17 => ?_) (fun c_17 => ?_)
          · replace c_17 := (iI_eq (by omega) (by omega) (by decide) (by decide)).mp c_17
            refine lv_aload_n hx hb dX3_finds_85 rfl (lv_at hl 1 rfl) ?_
            refine r_get (v := .ref a3) M w 0 2 clX3 rfl (by decide) G295 rfl rfl dX3_finds_86 ?_
            refine lv_iload hx hb dX3_finds_89 (lv_at hl 0 rfl) ?_
            refine lv_iload_n hx hb dX3_finds_91 rfl (lv_at hl 2 rfl) ?_
            refine r_iast (ws' := [(a0, .inr (3, [.ref a1, .ref a2, .ref a3, .int (iI x2), .int (iI z15)])), (a2, .inl (T 0, 9, .inl f0)), (a3, .inl (T 0, 9, .inl (cI (upz ff2 z3 x0))))]) M w 2 rfl (iI_in (by omega) (by omega) (by decide)) (by rw [cI_up (by omega) (by omega)]; rfl) dX3_finds_92 (fun H locs w => ?_)
            refine lv_iconst (v := iI 1) hx hb dX3_finds_93 (by decide +kernel) ?_
            exact ret _ (1, (iI z15), (upz ff2 z3 x0)) _ _ _ _ _ [0, 1, 2] dX3_finds_94 (by decide +kernel) ⟨rfl, (show (0 : Int) ≤ 1 from by decide), (show (1 : Int) ≤ 1 from by decide), (rng_up ff2_h (by omega) (by omega))⟩ w (by decide) rfl
          · replace c_17 : ¬ (ff2 z3) = (-1) := fun h => c_17 ((iI_eq (by omega) (by omega) (by decide) (by decide)).mpr h)
            refine lv_aload_n hx hb dX3_finds_67 rfl (lv_at hl 1 rfl) ?_
            refine lv_aload_n hx hb dX3_finds_68 rfl (lv_at hl 1 rfl) ?_
            refine r_get (v := .ref a3) M w 0 2 clX3 rfl (by decide) G295 rfl rfl dX3_finds_69 ?_
            refine lv_iload hx hb dX3_finds_72 (lv_at hl 0 rfl) ?_
            refine r_iald (v := iI (ff2 z3)) M w 2 rfl (iI_in (by omega) (by omega) (by decide)) (cI_at (by omega) (by omega)) dX3_finds_74 ?_
            have hh18 : (-1) ≤ (ff2 z3) ∧ (ff2 z3) ≤ 8 := ff2_h z3
            refine lv_iload_n hx hb dX3_finds_75 rfl (lv_at hl 3 rfl) ?_
            refine lv_iload_n hx hb dX3_finds_76 rfl (lv_at hl 4 rfl) ?_
            refine lv_iconst (v := iI 1) hx hb dX3_finds_77 (by decide +kernel) ?_
            refine r_iadd (v := iI 2) M (by decide +kernel) dX3_finds_78 ?_
            refine k_I (ce := 0) (sl := 0) (rest := []) (wr := []) (r_V (f := 8) [0, 1, 2] M w V_HookedCity_Matching_65 G973 G23 (c352_X3_finds l D T _ a0 (ff2 z3) x1 a1 a2 a3 x2 (iI z15) f0 ff2 (by omega) (by omega) x1_a x1_b x2_a x2_b ff2_h) 0 clX3 rfl rfl (by decide) rfl hl.1 rfl (Nat.le_of_ble_eq_true rfl) dX3_finds_79 (by decide) (by decide) (by decide) (by decide)) w [0, 1, 2] [] rfl rfl (by decide) (by decide) rfl rfl (fun v u H locs hp w => ?_)
            obtain ⟨z19, fr20, ff21⟩ := u
            have hv : iI z19 = v := hp.1
            subst hv
            have z19_a : 0 ≤ z19 := hp.2.1
            have z19_b : z19 ≤ 1 := hp.2.2.1
            have ff21_h : rng (-1) 8 ff21 := hp.2.2.2
            have w : WD D A s.heap [(a0, .inr (3, [.ref a1, .ref a2, .ref a3, .int (iI x2), .int fr20])), (a2, .inl (T 0, 9, .inl f0)), (a3, .inl (T 0, 9, .inl (cI ff21)))] H locs := w
            refine lv_if_eq (tgt := 95) hx hb dX3_finds_82 (by decide) (fun c_22 => ?_) (fun c_22 => ?_)
            · replace c_22 := (iz_eq (Int.le_trans (by decide) z19_a) (Int.le_trans z19_b (by decide))).mp c_22
              refine lv_iinc (v := iI (z3 + 1)) (lv' := [(4, .int (iI (z3 + 1))), (0, .ref a0), (1, .int (iI x0)), (2, .int (iI x1)), (3, .int (iI 1))]) hx hb dX3_finds_95 hl (k := 0) rfl (ii_inc (by decide +kernel)) (by decide) rfl (fun ls hl => ?_)
              refine lv_goto (tgt := 11) hx hb dX3_finds_98 (by decide) ?_
              exact ih1 fr20 ff21 (z3 + 1) _ _ _ ff21_h (by omega) (by omega) (by omega) w (lv_sub hl [0, 1, 2, 3, 4] rfl)
            · replace c_22 : ¬ z19 = 0 := fun h => c_22 ((iz_eq (Int.le_trans (by decide) z19_a) (Int.le_trans z19_b (by decide))).mpr h)
              refine lv_aload_n hx hb dX3_finds_85 rfl (lv_at hl 1 rfl) ?_
              refine r_get (v := .ref a3) M w 0 2 clX3 rfl (by decide) G295 rfl rfl dX3_finds_86 ?_
              refine lv_iload hx hb dX3_finds_89 (lv_at hl 0 rfl) ?_
              refine lv_iload_n hx hb dX3_finds_91 rfl (lv_at hl 2 rfl) ?_
              refine r_iast (ws' := [(a0, .inr (3, [.ref a1, .ref a2, .ref a3, .int (iI x2), .int fr20])), (a2, .inl (T 0, 9, .inl f0)), (a3, .inl (T 0, 9, .inl (cI (upz ff21 z3 x0))))]) M w 2 rfl (iI_in (by omega) (by omega) (by decide)) (by rw [cI_up (by omega) (by omega)]; rfl) dX3_finds_92 (fun H locs w => ?_)
              refine lv_iconst (v := iI 1) hx hb dX3_finds_93 (by decide +kernel) ?_
              exact ret _ (1, fr20, (upz ff21 z3 x0)) _ _ _ _ _ [0, 1, 2] dX3_finds_94 (by decide +kernel) ⟨rfl, (show (0 : Int) ≤ 1 from by decide), (show (1 : Int) ≤ 1 from by decide), (rng_up ff21_h (by omega) (by omega))⟩ w (by decide) rfl
  exact loop1 (((x2 - 0) : Int).toNat + 1) r0 f1 0 _ _ _ f1_h (by decide) (by decide) (Nat.lt_succ_self _) w (lv_sub hl [0, 1, 2, 3, 4] rfl)
set_option maxRecDepth 100000 in
set_option maxHeartbeats 4000000 in
theorem c354_X3_finds (l : Launch) (D : va_G) (T : Nat → ClassId) (sz : Nat) (a0 : Nat) (x0 : Int) (x1 : Int) (a1 : Nat) (a2 : Nat) (a3 : Nat) (x2 : Int) (r0 : Int32) (f0 : Nat → Int32) (f1 : Int → Int) (x0_a : 0 ≤ x0) (x0_b : x0 ≤ 8) (x1_a : (-2147483648) ≤ x1) (x1_b : x1 ≤ 2147483647) (x2_a : 0 ≤ x2) (x2_b : x2 ≤ 9) (f1_h : rng (-1) 8 f1) : Met l yX3_finds (Cond.code yX3_finds cX3_finds 5 (some .boolean) :: GW) (Rm 10 0 0) (cPre [.ref a0, .int (iI x0), .int (iI x1), .int (iI 0)] D T [(a0, .inr (3, [.ref a1, .ref a2, .ref a3, .int (iI x2), .int r0])), (a2, .inl (T 0, 9, .inl f0)), (a3, .inl (T 0, 9, .inl (cI f1)))] sz) (qI D [(a0, .inr (3, [.ref a1, .ref a2, .ref a3, .int (iI x2), .int r0])), (a2, .inl (T 0, 9, .inl f0)), (a3, .inl (T 0, 9, .inl (cI f1)))] sz (fun (v : Int32) (u : Int × Int32 × (Int → Int)) => iI u.1 = v ∧ 0 ≤ u.1 ∧ u.1 ≤ 1 ∧ rng (-1) 8 u.2.2) (fun u => [(a0, .inr (3, [.ref a1, .ref a2, .ref a3, .int (iI x2), .int u.2.1])), (a2, .inl (T 0, 9, .inl f0)), (a3, .inl (T 0, 9, .inl (cI u.2.2)))])) 0 0 (va_A [(a0, .inr (3, [.ref a1, .ref a2, .ref a3, .int (iI x2), .int r0])), (a2, .inl (T 0, 9, .inl f0)), (a3, .inl (T 0, 9, .inl (cI f1)))] sz) := by
  refine e_Z (by decide) (Nat.le_of_ble_eq_true rfl) ?_
  intro p e s m args below meth c A Q ls M hin w ret hl
  have hx := M.1.1
  have hb := M.1.2.1
  have hl : lv_has ls 5 [(0, .ref a0), (1, .int (iI x0)), (2, .int (iI x1)), (3, .int (iI 0))] := hl
  refine lv_iload_n hx hb dX3_finds_0 rfl (lv_at hl 3 rfl) ?_
  refine lv_bipush (v := iI 9) hx hb dX3_finds_1 (by decide +kernel) ?_
  refine lv_icmp_le (tgt := 8) hx hb dX3_finds_3 (by decide) (fun _ => ?_) (fun c => absurd (by decide +kernel) c)
  refine lv_iconst (v := iI 0) hx hb dX3_finds_8 (by decide +kernel) ?_
  refine lv_istore (lv' := [(4, .int (iI 0)), (0, .ref a0), (1, .int (iI x0)), (2, .int (iI x1)), (3, .int (iI 0))]) hx hb dX3_finds_9 hl (by decide) rfl (fun ls hl => ?_)
  have loop1 : ∀ (k1 : Nat) (fr1 : Int32) (ff2 : Int → Int) (z3 : Int) (H : Heap) (locs : List Loc) (ls : Array Slot), rng (-1) 8 ff2 → 0 ≤ z3 → z3 ≤ 9 → ((x2 - z3) : Int).toNat < k1 → WD D A s.heap [(a0, .inr (3, [.ref a1, .ref a2, .ref a3, .int (iI x2), .int fr1])), (a2, .inl (T 0, 9, .inl f0)), (a3, .inl (T 0, 9, .inl (cI ff2)))] H locs → lv_has ls 5 [(4, .int (iI z3)), (0, .ref a0), (1, .int (iI x0)), (2, .int (iI x1)), (3, .int (iI 0))] → W p l e (Rm 10 0 0) s m args below meth c H locs 0 0 Q (F0 m 11 ls []) := by
    intro k1
    induction k1 with
    | zero => intro fr1 ff2 z3 H locs ls ff2_h z3_a z3_b hm; exact absurd hm (Nat.not_lt_zero _)
    | succ k1 ih1 =>
      intro fr1 ff2 z3 H locs ls ff2_h z3_a z3_b hm1 w hl
      refine lv_iload hx hb dX3_finds_11 (lv_at hl 0 rfl) ?_
      refine lv_aload_n hx hb dX3_finds_13 rfl (lv_at hl 1 rfl) ?_
      refine r_get (v := .int (iI x2)) M w 0 3 clX3 rfl (by decide) G296 rfl rfl dX3_finds_14 ?_
      refine lv_icmp_ge (tgt := 101) hx hb dX3_finds_17 (by decide) (fun c_4 => ?_) (fun c_4 => ?_)
      · replace c_4 := (iI_le (Int.le_trans (by decide) x2_a) (Int.le_trans x2_b (by decide)) (Int.le_trans (by decide) z3_a) (Int.le_trans z3_b (by decide))).mp c_4
        refine lv_iconst (v := iI 0) hx hb dX3_finds_101 (by decide +kernel) ?_
        exact ret _ (0, fr1, ff2) _ _ _ _ _ [0, 1, 2] dX3_finds_102 (by decide +kernel) ⟨rfl, (show (0 : Int) ≤ 0 from by decide), (show (0 : Int) ≤ 1 from by decide), ff2_h⟩ w (by decide) rfl
      · replace c_4 : z3 < x2 := Int.not_le.mp (fun h => c_4 ((iI_le (Int.le_trans (by decide) x2_a) (Int.le_trans x2_b (by decide)) (Int.le_trans (by decide) z3_a) (Int.le_trans z3_b (by decide))).mpr h))
        refine lv_aload_n hx hb dX3_finds_20 rfl (lv_at hl 1 rfl) ?_
        refine r_get (v := .ref a2) M w 0 1 clX3 rfl (by decide) G294 rfl rfl dX3_finds_21 ?_
        refine lv_iload_n hx hb dX3_finds_24 rfl (lv_at hl 2 rfl) ?_
        refine r_iald (v := _) M w 1 rfl (iI_in (by omega) (by omega) (by decide)) rfl dX3_finds_25 ?_
        refine b_any (fun z5 z5_a z5_b => ?_)
        refine lv_iload_n hx hb dX3_finds_26 rfl (lv_at hl 3 rfl) ?_
        refine r_iand (v := _) M rfl dX3_finds_27 ?_
        refine b_any (fun z6 z6_a z6_b => ?_)
        refine lv_aload_n hx hb dX3_finds_28 rfl (lv_at hl 1 rfl) ?_
        refine r_get (v := .int fr1) M w 0 4 clX3 rfl (by decide) G297 rfl rfl dX3_finds_29 ?_
        refine b_any (fun z7 z7_a z7_b => ?_)
        refine lv_iconst (v := iI (-1)) hx hb dX3_finds_32 (by decide +kernel) ?_
        refine r_ixor (v := _) M rfl dX3_finds_33 ?_
        refine b_any (fun z8 z8_a z8_b => ?_)
        refine r_iand (v := _) M rfl dX3_finds_34 ?_
        refine b_any (fun z9 z9_a z9_b => ?_)
        refine lv_iconst (v := iI 1) hx hb dX3_finds_35 (by decide +kernel) ?_
        refine lv_iload hx hb dX3_finds_36 (lv_at hl 0 rfl) ?_
        refine r_ishl (v := _) M rfl dX3_finds_38 ?_
        refine b_rng (lo := 1) (hi := 256) (ishl_9 (by omega) (by omega)) (fun z10 z10_a z10_b => ?_)
        refine r_iand (v := _) M rfl dX3_finds_39 ?_
        refine b_rng (lo := 0) (hi := z10) (iand_r (by omega) (by omega)) (fun z11 z11_a z11_b => ?_)
        refine lv_if_eq (tgt := 95) hx hb dX3_finds_40 (by decide) (fun c_12 => ?_) (fun c_12 => ?_)
        · replace c_12 := (iz_eq (by omega) (by omega)).mp c_12
          refine lv_iinc (v := iI (z3 + 1)) (lv' := [(4, .int (iI (z3 + 1))), (0, .ref a0), (1, .int (iI x0)), (2, .int (iI x1)), (3, .int (iI 0))]) hx hb dX3_finds_95 hl (k := 0) rfl (ii_inc (by decide +kernel)) (by decide) rfl (fun ls hl => ?_)
          refine lv_goto (tgt := 11) hx hb dX3_finds_98 (by decide) ?_
          exact ih1 fr1 ff2 (z3 + 1) _ _ _ ff2_h (by omega) (by omega) (by omega) w (lv_sub hl [0, 1, 2, 3, 4] rfl)
        · replace c_12 : ¬ z11 = 0 := fun h => c_12 ((iz_eq (by omega) (by omega)).mpr h)
          refine lv_aload_n hx hb dX3_finds_43 rfl (lv_at hl 1 rfl) ?_
          refine lv_dup hx hb dX3_finds_44 rfl ?_
          refine r_get (v := .int fr1) M w 0 4 clX3 rfl (by decide) G297 rfl rfl dX3_finds_45 ?_
          refine b_any (fun z13 z13_a z13_b => ?_)
          refine lv_iconst (v := iI 1) hx hb dX3_finds_48 (by decide +kernel) ?_
          refine lv_iload hx hb dX3_finds_49 (lv_at hl 0 rfl) ?_
          refine r_ishl (v := _) M rfl dX3_finds_51 ?_
          refine b_rng (lo := 1) (hi := 256) (ishl_9 (by omega) (by omega)) (fun z14 z14_a z14_b => ?_)
          refine r_ior (v := _) M rfl dX3_finds_52 ?_
          refine b_any (fun z15 z15_a z15_b => ?_)
          refine r_put (ws' := [(a0, .inr (3, [.ref a1, .ref a2, .ref a3, .int (iI x2), .int (iI z15)])), (a2, .inl (T 0, 9, .inl f0)), (a3, .inl (T 0, 9, .inl (cI ff2)))]) M w 0 4 clX3 rfl (by decide) G297 rfl rfl rfl rfl (Nat.le_of_ble_eq_true rfl) rfl dX3_finds_53 (fun H locs w => ?_)
          refine lv_aload_n hx hb dX3_finds_56 rfl (lv_at hl 1 rfl) ?_
          refine r_get (v := .ref a3) M w 0 2 clX3 rfl (by decide) G295 rfl rfl dX3_finds_57 ?_
          refine lv_iload hx hb dX3_finds_60 (lv_at hl 0 rfl) ?_
          refine r_iald (v := iI (ff2 z3)) M w 2 rfl (iI_in (by omega) (by omega) (by decide)) (cI_at (by omega) (by omega)) dX3_finds_62 ?_
          have hh16 : (-1) ≤ (ff2 z3) ∧ (ff2 z3) ≤ 8 := ff2_h z3
          refine lv_iconst (v := iI (-1)) hx hb dX3_finds_63 (by decide +kernel) ?_
          refine lv_icmp_eq (tgt := 85) hx hb dX3_finds_64 (by decide) (fun c_17 => ?_) (fun c_17 => ?_)
          · replace c_17 := (iI_eq (by omega) (by omega) (by decide) (by decide)).mp c_17
            refine lv_aload_n hx hb dX3_finds_85 rfl (lv_at hl 1 rfl) ?_
            refine r_get (v := .ref a3) M w 0 2 clX3 rfl (by decide) G295 rfl rfl dX3_finds_86 ?_
            refine lv_iload hx hb dX3_finds_89 (lv_at hl 0 rfl) ?_
            refine lv_iload_n hx hb dX3_finds_91 rfl (lv_at hl 2 rfl) ?_
            refine r_iast (ws' := [(a0, .inr (3, [.ref a1, .ref a2, .ref a3, .int (iI x2), .int (iI z15)])), (a2, .inl (T 0, 9, .inl f0)), (a3, .inl (T 0, 9, .inl (cI (upz ff2 z3 x0))))]) M w 2 rfl (iI_in (by omega) (by omega) (by decide)) (by rw [cI_up (by omega) (by omega)]; rfl) dX3_finds_92 (fun H locs w => ?_)
            refine lv_iconst (v := iI 1) hx hb dX3_finds_93 (by decide +kernel) ?_
            exact ret _ (1, (iI z15), (upz ff2 z3 x0)) _ _ _ _ _ [0, 1, 2] dX3_finds_94 (by decide +kernel) ⟨rfl, (show (0 : Int) ≤ 1 from by decide), (show (1 : Int) ≤ 1 from by decide), (rng_up ff2_h (by omega) (by omega))⟩ w (by decide) rfl
          · replace c_17 : ¬ (ff2 z3) = (-1) := fun h => c_17 ((iI_eq (by omega) (by omega) (by decide) (by decide)).mpr h)
            refine lv_aload_n hx hb dX3_finds_67 rfl (lv_at hl 1 rfl) ?_
            refine lv_aload_n hx hb dX3_finds_68 rfl (lv_at hl 1 rfl) ?_
            refine r_get (v := .ref a3) M w 0 2 clX3 rfl (by decide) G295 rfl rfl dX3_finds_69 ?_
            refine lv_iload hx hb dX3_finds_72 (lv_at hl 0 rfl) ?_
            refine r_iald (v := iI (ff2 z3)) M w 2 rfl (iI_in (by omega) (by omega) (by decide)) (cI_at (by omega) (by omega)) dX3_finds_74 ?_
            have hh18 : (-1) ≤ (ff2 z3) ∧ (ff2 z3) ≤ 8 := ff2_h z3
            refine lv_iload_n hx hb dX3_finds_75 rfl (lv_at hl 3 rfl) ?_
            refine lv_iload_n hx hb dX3_finds_76 rfl (lv_at hl 4 rfl) ?_
            refine lv_iconst (v := iI 1) hx hb dX3_finds_77 (by decide +kernel) ?_
            refine r_iadd (v := iI 1) M (by decide +kernel) dX3_finds_78 ?_
            refine k_I (ce := 0) (sl := 0) (rest := []) (wr := []) (r_V (f := 9) [0, 1, 2] M w V_HookedCity_Matching_65 G973 G23 (c353_X3_finds l D T _ a0 (ff2 z3) x1 a1 a2 a3 x2 (iI z15) f0 ff2 (by omega) (by omega) x1_a x1_b x2_a x2_b ff2_h) 0 clX3 rfl rfl (by decide) rfl hl.1 rfl (Nat.le_of_ble_eq_true rfl) dX3_finds_79 (by decide) (by decide) (by decide) (by decide)) w [0, 1, 2] [] rfl rfl (by decide) (by decide) rfl rfl (fun v u H locs hp w => ?_)
            obtain ⟨z19, fr20, ff21⟩ := u
            have hv : iI z19 = v := hp.1
            subst hv
            have z19_a : 0 ≤ z19 := hp.2.1
            have z19_b : z19 ≤ 1 := hp.2.2.1
            have ff21_h : rng (-1) 8 ff21 := hp.2.2.2
            have w : WD D A s.heap [(a0, .inr (3, [.ref a1, .ref a2, .ref a3, .int (iI x2), .int fr20])), (a2, .inl (T 0, 9, .inl f0)), (a3, .inl (T 0, 9, .inl (cI ff21)))] H locs := w
            refine lv_if_eq (tgt := 95) hx hb dX3_finds_82 (by decide) (fun c_22 => ?_) (fun c_22 => ?_)
            · replace c_22 := (iz_eq (Int.le_trans (by decide) z19_a) (Int.le_trans z19_b (by decide))).mp c_22
              refine lv_iinc (v := iI (z3 + 1)) (lv' := [(4, .int (iI (z3 + 1))), (0, .ref a0), (1, .int (iI x0)), (2, .int (iI x1)), (3, .int (iI 0))]) hx hb dX3_finds_95 hl (k := 0) rfl (ii_inc (by decide +kernel)) (by decide) rfl (fun ls hl => ?_)
              refine lv_goto (tgt := 11) hx hb dX3_finds_98 (by decide) ?_
              exact ih1 fr20 ff21 (z3 + 1) _ _ _ ff21_h (by omega) (by omega) (by omega) w (lv_sub hl [0, 1, 2, 3, 4] rfl)
            · replace c_22 : ¬ z19 = 0 := fun h => c_22 ((iz_eq (Int.le_trans (by decide) z19_a) (Int.le_trans z19_b (by decide))).mpr h)
              refine lv_aload_n hx hb dX3_finds_85 rfl (lv_at hl 1 rfl) ?_
              refine r_get (v := .ref a3) M w 0 2 clX3 rfl (by decide) G295 rfl rfl dX3_finds_86 ?_
              refine lv_iload hx hb dX3_finds_89 (lv_at hl 0 rfl) ?_
              refine lv_iload_n hx hb dX3_finds_91 rfl (lv_at hl 2 rfl) ?_
              refine r_iast (ws' := [(a0, .inr (3, [.ref a1, .ref a2, .ref a3, .int (iI x2), .int fr20])), (a2, .inl (T 0, 9, .inl f0)), (a3, .inl (T 0, 9, .inl (cI (upz ff21 z3 x0))))]) M w 2 rfl (iI_in (by omega) (by omega) (by decide)) (by rw [cI_up (by omega) (by omega)]; rfl) dX3_finds_92 (fun H locs w => ?_)
              refine lv_iconst (v := iI 1) hx hb dX3_finds_93 (by decide +kernel) ?_
              exact ret _ (1, fr20, (upz ff21 z3 x0)) _ _ _ _ _ [0, 1, 2] dX3_finds_94 (by decide +kernel) ⟨rfl, (show (0 : Int) ≤ 1 from by decide), (show (1 : Int) ≤ 1 from by decide), (rng_up ff21_h (by omega) (by omega))⟩ w (by decide) rfl
  exact loop1 (((x2 - 0) : Int).toNat + 1) r0 f1 0 _ _ _ f1_h (by decide) (by decide) (Nat.lt_succ_self _) w (lv_sub hl [0, 1, 2, 3, 4] rfl)
set_option maxRecDepth 100000 in
set_option maxHeartbeats 4000000 in
theorem c355_X3_mostFrom (l : Launch) (D : va_G) (T : Nat → ClassId) (sz : Nat) (a0 : Nat) (x0 : Int) (x1 : Int) (a1 : Nat) (a2 : Nat) (a3 : Nat) (x2 : Int) (r0 : Int32) (f0 : Nat → Int32) (f1 : Int → Int) (x0_a : 0 ≤ x0) (x0_b : x0 ≤ 9) (x1_a : (-2147483648) ≤ x1) (x1_b : x1 ≤ 2147483647) (x2_a : 0 ≤ x2) (x2_b : x2 ≤ 9) (f1_h : rng (-1) 8 f1) : Met l yX3_mostFrom (Cond.code yX3_mostFrom cX3_mostFrom 5 (some .int) :: GW) (Rm 11 0 0) (cPre [.ref a0, .int (iI x0), .int (iI x1)] D T [(a0, .inr (3, [.ref a1, .ref a2, .ref a3, .int (iI x2), .int r0])), (a2, .inl (T 0, 9, .inl f0)), (a3, .inl (T 0, 9, .inl (cI f1)))] sz) (qI D [(a0, .inr (3, [.ref a1, .ref a2, .ref a3, .int (iI x2), .int r0])), (a2, .inl (T 0, 9, .inl f0)), (a3, .inl (T 0, 9, .inl (cI f1)))] sz (fun (v : Int32) (u : Int × Int32 × (Int → Int)) => iI u.1 = v ∧ 0 ≤ u.1 ∧ u.1 ≤ 9 ∧ rng (-1) 8 u.2.2) (fun u => [(a0, .inr (3, [.ref a1, .ref a2, .ref a3, .int (iI x2), .int u.2.1])), (a2, .inl (T 0, 9, .inl f0)), (a3, .inl (T 0, 9, .inl (cI u.2.2)))])) 0 0 (va_A [(a0, .inr (3, [.ref a1, .ref a2, .ref a3, .int (iI x2), .int r0])), (a2, .inl (T 0, 9, .inl f0)), (a3, .inl (T 0, 9, .inl (cI f1)))] sz) := by
  refine e_I (by decide) (Nat.le_of_ble_eq_true rfl) ?_
  intro p e s m args below meth c A Q ls M hin w ret hl
  have hx := M.1.1
  have hb := M.1.2.1
  have hl : lv_has ls 5 [(0, .ref a0), (1, .int (iI x0)), (2, .int (iI x1))] := hl
  refine lv_aload_n hx hb dX3_mostFrom_0 rfl (lv_at hl 0 rfl) ?_
  refine r_get (v := .ref a3) M w 0 2 clX3 rfl (by decide) G295 rfl rfl dX3_mostFrom_1 ?_
  refine lv_iconst (v := iI (-1)) hx hb dX3_mostFrom_4 (by decide +kernel) ?_
  refine k_V (ce := 0) (sl := 0) (rest := []) (wr := [(a0, .inr (3, [.ref a1, .ref a2, .ref a3, .int (iI x2), .int r0])), (a2, .inl (T 0, 9, .inl f0))]) (r_S (f := 0) [2] M w V_HookedCity_Matching_28 G290 (c275_J7_fill_53178 l D T _ a3 (-1) f1 (by decide) (by decide) f1_h) rfl (by decide) rfl hl.1 rfl (Nat.le_of_ble_eq_true rfl) dX3_mostFrom_5 (by decide) (by decide) (by decide) (by decide)) w [2] [0, 1] rfl rfl (by decide) (by decide) rfl rfl (fun ff1 H locs hp w => ?_)
  have ff1_h : rng (-1) 8 ff1 := hp.1
  have pq2 : ∀ i : Int, 0 ≤ i → i < 9 → ff1 i = (-1) := hp.2
  have w : WD D A s.heap [(a0, .inr (3, [.ref a1, .ref a2, .ref a3, .int (iI x2), .int r0])), (a2, .inl (T 0, 9, .inl f0)), (a3, .inl (T 0, 9, .inl (cI ff1)))] H locs := w
  refine lv_iconst (v := iI 0) hx hb dX3_mostFrom_8 (by decide +kernel) ?_
  refine lv_istore_n (lv' := [(3, .int (iI 0)), (0, .ref a0), (1, .int (iI x0)), (2, .int (iI x1))]) hx hb dX3_mostFrom_9 rfl hl (by decide) rfl (fun ls hl => ?_)
  refine lv_iload_n hx hb dX3_mostFrom_10 rfl (lv_at hl 2 rfl) ?_
  refine lv_istore (lv' := [(4, .int (iI x0)), (3, .int (iI 0)), (0, .ref a0), (1, .int (iI x0)), (2, .int (iI x1))]) hx hb dX3_mostFrom_11 hl (by decide) rfl (fun ls hl => ?_)
  have loop1 : ∀ (k1 : Nat) (fr3 : Int32) (ff4 : Int → Int) (z5 : Int) (z6 : Int) (H : Heap) (locs : List Loc) (ls : Array Slot), rng (-1) 8 ff4 → 0 ≤ z5 → z5 ≤ 9 → 0 ≤ z6 → z6 ≤ 9 → 0 ≤ (z5 - z6) → ((x2 - z5) : Int).toNat < k1 → WD D A s.heap [(a0, .inr (3, [.ref a1, .ref a2, .ref a3, .int (iI x2), .int fr3])), (a2, .inl (T 0, 9, .inl f0)), (a3, .inl (T 0, 9, .inl (cI ff4)))] H locs → lv_has ls 5 [(4, .int (iI z5)), (3, .int (iI z6)), (0, .ref a0), (1, .int (iI x0)), (2, .int (iI x1))] → W p l e (Rm 11 0 0) s m args below meth c H locs 0 0 Q (F0 m 13 ls []) := by
    intro k1
    induction k1 with
    | zero => intro fr3 ff4 z5 z6 H locs ls ff4_h z5_a z5_b z6_a z6_b q1_0 hm; exact absurd hm (Nat.not_lt_zero _)
    | succ k1 ih1 =>
      intro fr3 ff4 z5 z6 H locs ls ff4_h z5_a z5_b z6_a z6_b q1_0 hm1 w hl
      refine lv_iload hx hb dX3_mostFrom_13 (lv_at hl 0 rfl) ?_
      refine lv_aload_n hx hb dX3_mostFrom_15 rfl (lv_at hl 2 rfl) ?_
      refine r_get (v := .int (iI x2)) M w 0 3 clX3 rfl (by decide) G296 rfl rfl dX3_mostFrom_16 ?_
      refine lv_icmp_ge (tgt := 47) hx hb dX3_mostFrom_19 (by decide) (fun c_7 => ?_) (fun c_7 => ?_)
      · replace c_7 := (iI_le (Int.le_trans (by decide) x2_a) (Int.le_trans x2_b (by decide)) (Int.le_trans (by decide) z5_a) (Int.le_trans z5_b (by decide))).mp c_7
        refine lv_iload_n hx hb dX3_mostFrom_47 rfl (lv_at hl 1 rfl) ?_
        exact ret _ (z6, fr3, ff4) _ _ _ _ _ [0, 1, 2] dX3_mostFrom_48 ⟨rfl, z6_a, z6_b, ff4_h⟩ w (by decide) rfl
      · replace c_7 : z5 < x2 := Int.not_le.mp (fun h => c_7 ((iI_le (Int.le_trans (by decide) x2_a) (Int.le_trans x2_b (by decide)) (Int.le_trans (by decide) z5_a) (Int.le_trans z5_b (by decide))).mpr h))
        refine lv_aload_n hx hb dX3_mostFrom_22 rfl (lv_at hl 2 rfl) ?_
        refine lv_iconst (v := iI 0) hx hb dX3_mostFrom_23 (by decide +kernel) ?_
        refine r_put (ws' := [(a0, .inr (3, [.ref a1, .ref a2, .ref a3, .int (iI x2), .int (iI 0)])), (a2, .inl (T 0, 9, .inl f0)), (a3, .inl (T 0, 9, .inl (cI ff4)))]) M w 0 4 clX3 rfl (by decide) G297 rfl rfl rfl rfl (Nat.le_of_ble_eq_true rfl) rfl dX3_mostFrom_24 (fun H locs w => ?_)
        refine lv_aload_n hx hb dX3_mostFrom_27 rfl (lv_at hl 2 rfl) ?_
        refine lv_iload hx hb dX3_mostFrom_28 (lv_at hl 0 rfl) ?_
        refine lv_iload_n hx hb dX3_mostFrom_30 rfl (lv_at hl 4 rfl) ?_
        refine lv_iconst (v := iI 0) hx hb dX3_mostFrom_31 (by decide +kernel) ?_
        refine k_I (ce := 0) (sl := 0) (rest := []) (wr := []) (r_V (f := 10) [0, 1, 2] M w V_HookedCity_Matching_65 G973 G23 (c354_X3_finds l D T _ a0 z5 x1 a1 a2 a3 x2 (iI 0) f0 ff4 (by omega) (by omega) x1_a x1_b x2_a x2_b ff4_h) 0 clX3 rfl rfl (by decide) rfl hl.1 rfl (Nat.le_of_ble_eq_true rfl) dX3_mostFrom_32 (by decide) (by decide) (by decide) (by decide)) w [0, 1, 2] [] rfl rfl (by decide) (by decide) rfl rfl (fun v u H locs hp w => ?_)
        obtain ⟨z8, fr9, ff10⟩ := u
        have hv : iI z8 = v := hp.1
        subst hv
        have z8_a : 0 ≤ z8 := hp.2.1
        have z8_b : z8 ≤ 1 := hp.2.2.1
        have ff10_h : rng (-1) 8 ff10 := hp.2.2.2
        have w : WD D A s.heap [(a0, .inr (3, [.ref a1, .ref a2, .ref a3, .int (iI x2), .int fr9])), (a2, .inl (T 0, 9, .inl f0)), (a3, .inl (T 0, 9, .inl (cI ff10)))] H locs := w
        refine lv_if_eq (tgt := 41) hx hb dX3_mostFrom_35 (by decide) (fun c_11 => ?_) (fun c_11 => ?_)
        · replace c_11 := (iz_eq (Int.le_trans (by decide) z8_a) (Int.le_trans z8_b (by decide))).mp c_11
          refine lv_iinc (v := iI (z5 + 1)) (lv' := [(4, .int (iI (z5 + 1))), (3, .int (iI z6)), (0, .ref a0), (1, .int (iI x0)), (2, .int (iI x1))]) hx hb dX3_mostFrom_41 hl (k := 0) rfl (ii_inc (by decide +kernel)) (by decide) rfl (fun ls hl => ?_)
          refine lv_goto (tgt := 13) hx hb dX3_mostFrom_44 (by decide) ?_
          exact ih1 fr9 ff10 (z5 + 1) z6 _ _ _ ff10_h (by omega) (by omega) z6_a z6_b (by omega) (by omega) w (lv_sub hl [0, 1, 2, 3, 4] rfl)
        · replace c_11 : ¬ z8 = 0 := fun h => c_11 ((iz_eq (Int.le_trans (by decide) z8_a) (Int.le_trans z8_b (by decide))).mpr h)
          refine lv_iinc (v := iI (z6 + 1)) (lv' := [(3, .int (iI (z6 + 1))), (4, .int (iI z5)), (0, .ref a0), (1, .int (iI x0)), (2, .int (iI x1))]) hx hb dX3_mostFrom_38 hl (k := 1) rfl (ii_inc (by decide +kernel)) (by decide) rfl (fun ls hl => ?_)
          refine lv_iinc (v := iI (z5 + 1)) (lv' := [(4, .int (iI (z5 + 1))), (3, .int (iI (z6 + 1))), (0, .ref a0), (1, .int (iI x0)), (2, .int (iI x1))]) hx hb dX3_mostFrom_41 hl (k := 1) rfl (ii_inc (by decide +kernel)) (by decide) rfl (fun ls hl => ?_)
          refine lv_goto (tgt := 13) hx hb dX3_mostFrom_44 (by decide) ?_
          exact ih1 fr9 ff10 (z5 + 1) (z6 + 1) _ _ _ ff10_h (by omega) (by omega) (by omega) (by omega) (by omega) (by omega) w (lv_sub hl [0, 1, 2, 3, 4] rfl)
  exact loop1 (((x2 - x0) : Int).toNat + 1) r0 ff1 x0 0 _ _ _ ff1_h x0_a x0_b (by decide) (by decide) (by omega) (Nat.lt_succ_self _) w (lv_sub hl [0, 1, 2, 3, 4] rfl)
set_option maxRecDepth 100000 in
set_option maxHeartbeats 4000000 in
theorem c356_X3_firstFor (l : Launch) (D : va_G) (T : Nat → ClassId) (sz : Nat) (a0 : Nat) (x0 : Int) (x1 : Int) (x2 : Int) (a1 : Nat) (a2 : Nat) (a3 : Nat) (x3 : Int) (r0 : Int32) (f0 : Nat → Int32) (f1 : Int → Int) (x0_a : 0 ≤ x0) (x0_b : x0 ≤ 8) (x1_a : (-2147483648) ≤ x1) (x1_b : x1 ≤ 2147483647) (x2_a : (-2147483648) ≤ x2) (x2_b : x2 ≤ 2147483647) (x3_a : 0 ≤ x3) (x3_b : x3 ≤ 9) (f1_h : rng (-1) 8 f1) : Met l yX3_firstFor (Cond.code yX3_firstFor cX3_firstFor 6 (some .int) :: GW) (Rm 12 0 0) (cPre [.ref a0, .int (iI x0), .int (iI x1), .int (iI x2)] D T [(a0, .inr (3, [.ref a1, .ref a2, .ref a3, .int (iI x3), .int r0])), (a2, .inl (T 0, 9, .inl f0)), (a3, .inl (T 0, 9, .inl (cI f1)))] sz) (qI D [(a0, .inr (3, [.ref a1, .ref a2, .ref a3, .int (iI x3), .int r0])), (a2, .inl (T 0, 9, .inl f0)), (a3, .inl (T 0, 9, .inl (cI f1)))] sz (fun (v : Int32) (u : Int × Int32 × (Int → Int)) => iI u.1 = v ∧ (-1) ≤ u.1 ∧ u.1 ≤ 8 ∧ rng (-1) 8 u.2.2) (fun u => [(a0, .inr (3, [.ref a1, .ref a2, .ref a3, .int (iI x3), .int u.2.1])), (a2, .inl (T 0, 9, .inl f0)), (a3, .inl (T 0, 9, .inl (cI u.2.2)))])) 0 0 (va_A [(a0, .inr (3, [.ref a1, .ref a2, .ref a3, .int (iI x3), .int r0])), (a2, .inl (T 0, 9, .inl f0)), (a3, .inl (T 0, 9, .inl (cI f1)))] sz) := by
  refine e_I (by decide) (Nat.le_of_ble_eq_true rfl) ?_
  intro p e s m args below meth c A Q ls M hin w ret hl
  have hx := M.1.1
  have hb := M.1.2.1
  have hl : lv_has ls 6 [(0, .ref a0), (1, .int (iI x0)), (2, .int (iI x1)), (3, .int (iI x2))] := hl
  refine lv_aload_n hx hb dX3_firstFor_0 rfl (lv_at hl 0 rfl) ?_
  refine r_get (v := .ref a2) M w 0 1 clX3 rfl (by decide) G294 rfl rfl dX3_firstFor_1 ?_
  refine lv_iload_n hx hb dX3_firstFor_4 rfl (lv_at hl 1 rfl) ?_
  refine r_iald (v := _) M w 1 rfl (iI_in (by omega) (by omega) (by decide)) rfl dX3_firstFor_5 ?_
  refine b_any (fun z1 z1_a z1_b => ?_)
  refine lv_iload_n hx hb dX3_firstFor_6 rfl (lv_at hl 2 rfl) ?_
  refine r_iand (v := _) M rfl dX3_firstFor_7 ?_
  refine b_any (fun z2 z2_a z2_b => ?_)
  refine lv_istore (lv' := [(4, .int (iI z2)), (0, .ref a0), (1, .int (iI x0)), (2, .int (iI x1)), (3, .int (iI x2))]) hx hb dX3_firstFor_8 hl (by decide) rfl (fun ls hl => ?_)
  refine lv_iconst (v := iI 0) hx hb dX3_firstFor_10 (by decide +kernel) ?_
  refine lv_istore (lv' := [(5, .int (iI 0)), (4, .int (iI z2)), (0, .ref a0), (1, .int (iI x0)), (2, .int (iI x1)), (3, .int (iI x2))]) hx hb dX3_firstFor_11 hl (by decide) rfl (fun ls hl => ?_)
  have loop1 : ∀ (k1 : Nat) (fr3 : Int32) (ff4 : Int → Int) (z5 : Int) (H : Heap) (locs : List Loc) (ls : Array Slot), rng (-1) 8 ff4 → 0 ≤ z5 → z5 ≤ 9 → ((x3 - z5) : Int).toNat < k1 → WD D A s.heap [(a0, .inr (3, [.ref a1, .ref a2, .ref a3, .int (iI x3), .int fr3])), (a2, .inl (T 0, 9, .inl f0)), (a3, .inl (T 0, 9, .inl (cI ff4)))] H locs → lv_has ls 6 [(5, .int (iI z5)), (4, .int (iI z2)), (0, .ref a0), (1, .int (iI x0)), (2, .int (iI x1)), (3, .int (iI x2))] → W p l e (Rm 12 0 0) s m args below meth c H locs 0 0 Q (F0 m 13 ls []) := by
    intro k1
    induction k1 with
    | zero => intro fr3 ff4 z5 H locs ls ff4_h z5_a z5_b hm; exact absurd hm (Nat.not_lt_zero _)
    | succ k1 ih1 =>
      intro fr3 ff4 z5 H locs ls ff4_h z5_a z5_b hm1 w hl
      refine lv_iload hx hb dX3_firstFor_13 (lv_at hl 0 rfl) ?_
      refine lv_aload_n hx hb dX3_firstFor_15 rfl (lv_at hl 2 rfl) ?_
      refine r_get (v := .int (iI x3)) M w 0 3 clX3 rfl (by decide) G296 rfl rfl dX3_firstFor_16 ?_
      refine lv_icmp_ge (tgt := 66) hx hb dX3_firstFor_19 (by decide) (fun c_6 => ?_) (fun c_6 => ?_)
      · replace c_6 := (iI_le (Int.le_trans (by decide) x3_a) (Int.le_trans x3_b (by decide)) (Int.le_trans (by decide) z5_a) (Int.le_trans z5_b (by decide))).mp c_6
        refine lv_iconst (v := iI (-1)) hx hb dX3_firstFor_66 (by decide +kernel) ?_
        exact ret _ ((-1), fr3, ff4) _ _ _ _ _ [0, 1, 2] dX3_firstFor_67 ⟨rfl, (show (-1) ≤ (-1) from by decide), (show ((-1) : Int) ≤ 8 from by decide), ff4_h⟩ w (by decide) rfl
      · replace c_6 : z5 < x3 := Int.not_le.mp (fun h => c_6 ((iI_le (Int.le_trans (by decide) x3_a) (Int.le_trans x3_b (by decide)) (Int.le_trans (by decide) z5_a) (Int.le_trans z5_b (by decide))).mpr h))
        refine lv_iload_n hx hb dX3_firstFor_22 rfl (lv_at hl 5 rfl) ?_
        refine lv_if_le (tgt := 66) hx hb dX3_firstFor_23 (by decide) (fun c_7 => ?_) (fun c_7 => ?_)
        · replace c_7 := (iz_le (Int.le_trans (by decide) x2_a) (Int.le_trans x2_b (by decide))).mp c_7
          refine lv_iconst (v := iI (-1)) hx hb dX3_firstFor_66 (by decide +kernel) ?_
          exact ret _ ((-1), fr3, ff4) _ _ _ _ _ [0, 1, 2] dX3_firstFor_67 ⟨rfl, (show (-1) ≤ (-1) from by decide), (show ((-1) : Int) ≤ 8 from by decide), ff4_h⟩ w (by decide) rfl
        · replace c_7 : 0 < x2 := Int.not_le.mp (fun h => c_7 ((iz_le (Int.le_trans (by decide) x2_a) (Int.le_trans x2_b (by decide))).mpr h))
          refine lv_iload hx hb dX3_firstFor_26 (lv_at hl 1 rfl) ?_
          refine lv_iload hx hb dX3_firstFor_28 (lv_at hl 0 rfl) ?_
          refine r_ishr (v := _) M rfl dX3_firstFor_30 ?_
          refine b_any (fun z8 z8_a z8_b => ?_)
          refine lv_iconst (v := iI 1) hx hb dX3_firstFor_31 (by decide +kernel) ?_
          refine r_iand (v := _) M rfl dX3_firstFor_32 ?_
          refine b_rng (lo := 0) (hi := 1) (iand_r (by omega) (by omega)) (fun z9 z9_a z9_b => ?_)
          refine lv_if_eq (tgt := 60) hx hb dX3_firstFor_33 (by decide) (fun c_10 => ?_) (fun c_10 => ?_)
          · replace c_10 := (iz_eq (Int.le_trans (by decide) z9_a) (Int.le_trans z9_b (by decide))).mp c_10
            refine lv_iinc (v := iI (z5 + 1)) (lv' := [(5, .int (iI (z5 + 1))), (4, .int (iI z2)), (0, .ref a0), (1, .int (iI x0)), (2, .int (iI x1)), (3, .int (iI x2))]) hx hb dX3_firstFor_60 hl (k := 0) rfl (ii_inc (by decide +kernel)) (by decide) rfl (fun ls hl => ?_)
            refine lv_goto (tgt := 13) hx hb dX3_firstFor_63 (by decide) ?_
            exact ih1 fr3 ff4 (z5 + 1) _ _ _ ff4_h (by omega) (by omega) (by omega) w (lv_sub hl [0, 1, 2, 3, 4, 5] rfl)
          · replace c_10 : ¬ z9 = 0 := fun h => c_10 ((iz_eq (Int.le_trans (by decide) z9_a) (Int.le_trans z9_b (by decide))).mpr h)
            refine lv_aload_n hx hb dX3_firstFor_36 rfl (lv_at hl 2 rfl) ?_
            refine lv_iload_n hx hb dX3_firstFor_37 rfl (lv_at hl 3 rfl) ?_
            refine lv_iconst (v := iI 1) hx hb dX3_firstFor_38 (by decide +kernel) ?_
            refine r_iadd (v := iI (x0 + 1)) M (iI_add _ _) dX3_firstFor_39 ?_
            refine lv_iload_n hx hb dX3_firstFor_40 rfl (lv_at hl 4 rfl) ?_
            refine lv_iconst (v := iI 1) hx hb dX3_firstFor_41 (by decide +kernel) ?_
            refine lv_iload hx hb dX3_firstFor_42 (lv_at hl 0 rfl) ?_
            refine r_ishl (v := _) M rfl dX3_firstFor_44 ?_
            refine b_rng (lo := 1) (hi := 256) (ishl_9 (by omega) (by omega)) (fun z11 z11_a z11_b => ?_)
            refine lv_iconst (v := iI (-1)) hx hb dX3_firstFor_45 (by decide +kernel) ?_
            refine r_ixor (v := _) M rfl dX3_firstFor_46 ?_
            refine b_any (fun z12 z12_a z12_b => ?_)
            refine r_iand (v := _) M rfl dX3_firstFor_47 ?_
            refine b_any (fun z13 z13_a z13_b => ?_)
            refine k_I (ce := 0) (sl := 0) (rest := []) (wr := []) (r_V (f := 11) [0, 1, 2] M w V_HookedCity_Matching_45 G969 G22 (c355_X3_mostFrom l D T _ a0 (x0 + 1) z13 a1 a2 a3 x3 fr3 f0 ff4 (by omega) (by omega) z13_a z13_b x3_a x3_b ff4_h) 0 clX3 rfl rfl (by decide) rfl hl.1 rfl (Nat.le_of_ble_eq_true rfl) dX3_firstFor_48 (by decide) (by decide) (by decide) (by decide)) w [0, 1, 2] [] rfl rfl (by decide) (by decide) rfl rfl (fun v u H locs hp w => ?_)
            obtain ⟨z14, fr15, ff16⟩ := u
            have hv : iI z14 = v := hp.1
            subst hv
            have z14_a : 0 ≤ z14 := hp.2.1
            have z14_b : z14 ≤ 9 := hp.2.2.1
            have ff16_h : rng (-1) 8 ff16 := hp.2.2.2
            have w : WD D A s.heap [(a0, .inr (3, [.ref a1, .ref a2, .ref a3, .int (iI x3), .int fr15])), (a2, .inl (T 0, 9, .inl f0)), (a3, .inl (T 0, 9, .inl (cI ff16)))] H locs := w
            refine lv_iload_n hx hb dX3_firstFor_51 rfl (lv_at hl 5 rfl) ?_
            refine lv_iconst (v := iI 1) hx hb dX3_firstFor_52 (by decide +kernel) ?_
            refine r_isub (v := iI (x2 - 1)) M (iI_sub _ _) dX3_firstFor_53 ?_
            refine lv_icmp_ne (tgt := 60) hx hb dX3_firstFor_54 (by decide) (fun c_17 => ?_) (fun c_17 => ?_)
            · replace c_17 : ¬ z14 = (x2 - 1) := fun h => c_17 ((iI_eq (Int.le_trans (by decide) z14_a) (Int.le_trans z14_b (by decide)) (by omega) (by omega)).mpr h)
              refine lv_iinc (v := iI (z5 + 1)) (lv' := [(5, .int (iI (z5 + 1))), (4, .int (iI z2)), (0, .ref a0), (1, .int (iI x0)), (2, .int (iI x1)), (3, .int (iI x2))]) hx hb dX3_firstFor_60 hl (k := 0) rfl (ii_inc (by decide +kernel)) (by decide) rfl (fun ls hl => ?_)
              refine lv_goto (tgt := 13) hx hb dX3_firstFor_63 (by decide) ?_
              exact ih1 fr15 ff16 (z5 + 1) _ _ _ ff16_h (by omega) (by omega) (by omega) w (lv_sub hl [0, 1, 2, 3, 4, 5] rfl)
            · replace c_17 := (iI_eq (Int.le_trans (by decide) z14_a) (Int.le_trans z14_b (by decide)) (by omega) (by omega)).mp c_17
              refine lv_iload hx hb dX3_firstFor_57 (lv_at hl 0 rfl) ?_
              exact ret _ (z5, fr15, ff16) _ _ _ _ _ [0, 1, 2] dX3_firstFor_59 ⟨rfl, (show (-1) ≤ z5 from by omega), (show z5 ≤ 8 from by omega), ff16_h⟩ w (by decide) rfl
  exact loop1 (((x3 - 0) : Int).toNat + 1) r0 f1 0 _ _ _ f1_h (by decide) (by decide) (Nat.lt_succ_self _) w (lv_sub hl [0, 1, 2, 3, 4, 5] rfl)
set_option maxRecDepth 100000 in
set_option maxHeartbeats 4000000 in
theorem c357_X3_choicesOf (l : Launch) (D : va_G) (T : Nat → ClassId) (sz : Nat) (a0 : Nat) (a1 : Nat) (x0 : Int) (a2 : Nat) (a3 : Nat) (a4 : Nat) (a5 : Nat) (a6 : Nat) (a7 : Nat) (a8 : Nat) (a9 : Nat) (a10 : Nat) (x1 : Int) (x2 : Int) (x3 : Int) (x4 : Int) (x5 : Int) (x6 : Int) (x7 : Int) (x8 : Int) (x9 : Int) (a11 : Nat) (a12 : Nat) (a13 : Nat) (a14 : Nat) (r0 : Int32) (r1 : Int32) (r2 : Int32) (r3 : Int32) (f0 : Int → Int) (f1 : Int → Int) (f2 : Int → Int) (f3 : Nat → Int32) (x0_a : 0 ≤ x0) (x0_b : x0 ≤ 8) (x1_a : 0 ≤ x1) (x1_b : x1 ≤ 9) (x2_a : 0 ≤ x2) (x2_b : x2 ≤ 3) (x3_a : 0 ≤ x3) (x3_b : x3 ≤ 900) (x4_a : (-2147483648) ≤ x4) (x4_b : x4 ≤ 2147483647) (x5_a : (-2147483648) ≤ x5) (x5_b : x5 ≤ 2147483647) (x6_a : (-2147483648) ≤ x6) (x6_b : x6 ≤ 2147483647) (x7_a : 0 ≤ x7) (x7_b : x7 ≤ 1) (x8_a : 0 ≤ x8) (x8_b : x8 ≤ 1) (x9_a : 0 ≤ x9) (x9_b : x9 ≤ 1) (f0_h : rng (-2147483648) 2147483647 f0) (f1_h : rng (-2147483648) 2147483647 f1) (f2_h : rng 0 511 f2) : Met l yX3_choicesOf (Cond.code yX3_choicesOf cX3_choicesOf 5 (some .int) :: GW) (Rm 1 0 0) (cPre [.ref a0, .ref a1, .int (iI x0)] D T [(a0, .inr (9, [.ref a2, .ref a3, .ref a4, .ref a5, .ref a6, .ref a7, .ref a8, .ref a9, .ref a10, .int (iI x1), .int (iI x2), .int (iI x3), .int (iI x4), .int (iI x5), .int (iI x6), .int (iI x7), .int (iI x8), .int (iI x9)])), (a1, .inr (7, [.ref a11, .ref a12, .ref a13, .ref a14, .int r0, .int r1, .int r2, .int r3])), (a3, .inl (T 0, 9, .inl (cI f0))), (a4, .inl (T 0, 9, .inl (cI f1))), (a6, .inl (T 0, 9, .inl (cI f2))), (a11, .inl (T 0, 9, .inl f3))] sz) (qI D [(a0, .inr (9, [.ref a2, .ref a3, .ref a4, .ref a5, .ref a6, .ref a7, .ref a8, .ref a9, .ref a10, .int (iI x1), .int (iI x2), .int (iI x3), .int (iI x4), .int (iI x5), .int (iI x6), .int (iI x7), .int (iI x8), .int (iI x9)])), (a1, .inr (7, [.ref a11, .ref a12, .ref a13, .ref a14, .int r0, .int r1, .int r2, .int r3])), (a3, .inl (T 0, 9, .inl (cI f0))), (a4, .inl (T 0, 9, .inl (cI f1))), (a6, .inl (T 0, 9, .inl (cI f2))), (a11, .inl (T 0, 9, .inl f3))] sz (fun (v : Int32) (u : Int) => iI u = v ∧ (-2147483648) ≤ u ∧ u ≤ 2147483647) (fun u => [(a0, .inr (9, [.ref a2, .ref a3, .ref a4, .ref a5, .ref a6, .ref a7, .ref a8, .ref a9, .ref a10, .int (iI x1), .int (iI x2), .int (iI x3), .int (iI x4), .int (iI x5), .int (iI x6), .int (iI x7), .int (iI x8), .int (iI x9)])), (a1, .inr (7, [.ref a11, .ref a12, .ref a13, .ref a14, .int r0, .int r1, .int r2, .int r3])), (a3, .inl (T 0, 9, .inl (cI f0))), (a4, .inl (T 0, 9, .inl (cI f1))), (a6, .inl (T 0, 9, .inl (cI f2))), (a11, .inl (T 0, 9, .inl f3))])) 0 0 (va_A [(a0, .inr (9, [.ref a2, .ref a3, .ref a4, .ref a5, .ref a6, .ref a7, .ref a8, .ref a9, .ref a10, .int (iI x1), .int (iI x2), .int (iI x3), .int (iI x4), .int (iI x5), .int (iI x6), .int (iI x7), .int (iI x8), .int (iI x9)])), (a1, .inr (7, [.ref a11, .ref a12, .ref a13, .ref a14, .int r0, .int r1, .int r2, .int r3])), (a3, .inl (T 0, 9, .inl (cI f0))), (a4, .inl (T 0, 9, .inl (cI f1))), (a6, .inl (T 0, 9, .inl (cI f2))), (a11, .inl (T 0, 9, .inl f3))] sz) := by
  refine e_I (by decide) (Nat.le_of_ble_eq_true rfl) ?_
  intro p e s m args below meth c A Q ls M hin w ret hl
  have hx := M.1.1
  have hb := M.1.2.1
  have hl : lv_has ls 5 [(0, .ref a0), (1, .ref a1), (2, .int (iI x0))] := hl
  refine lv_iconst (v := iI 0) hx hb dX3_choicesOf_0 (by decide +kernel) ?_
  refine lv_istore_n (lv' := [(3, .int (iI 0)), (0, .ref a0), (1, .ref a1), (2, .int (iI x0))]) hx hb dX3_choicesOf_1 rfl hl (by decide) rfl (fun ls hl => ?_)
  refine lv_iconst (v := iI 0) hx hb dX3_choicesOf_2 (by decide +kernel) ?_
  refine lv_istore (lv' := [(4, .int (iI 0)), (3, .int (iI 0)), (0, .ref a0), (1, .ref a1), (2, .int (iI x0))]) hx hb dX3_choicesOf_3 hl (by decide) rfl (fun ls hl => ?_)
  have loop1 : ∀ (k1 : Nat) (z1 : Int) (z2 : Int) (H : Heap) (locs : List Loc) (ls : Array Slot), 0 ≤ z1 → z1 ≤ 9 → (-2147483648) ≤ z2 → z2 ≤ 2147483647 → ((x1 - z1) : Int).toNat < k1 → WD D A s.heap [(a0, .inr (9, [.ref a2, .ref a3, .ref a4, .ref a5, .ref a6, .ref a7, .ref a8, .ref a9, .ref a10, .int (iI x1), .int (iI x2), .int (iI x3), .int (iI x4), .int (iI x5), .int (iI x6), .int (iI x7), .int (iI x8), .int (iI x9)])), (a1, .inr (7, [.ref a11, .ref a12, .ref a13, .ref a14, .int r0, .int r1, .int r2, .int r3])), (a3, .inl (T 0, 9, .inl (cI f0))), (a4, .inl (T 0, 9, .inl (cI f1))), (a6, .inl (T 0, 9, .inl (cI f2))), (a11, .inl (T 0, 9, .inl f3))] H locs → lv_has ls 5 [(4, .int (iI z1)), (3, .int (iI z2)), (0, .ref a0), (1, .ref a1), (2, .int (iI x0))] → W p l e (Rm 1 0 0) s m args below meth c H locs 0 0 Q (F0 m 5 ls []) := by
    intro k1
    induction k1 with
    | zero => intro z1 z2 H locs ls z1_a z1_b z2_a z2_b hm; exact absurd hm (Nat.not_lt_zero _)
    | succ k1 ih1 =>
      intro z1 z2 H locs ls z1_a z1_b z2_a z2_b hm1 w hl
      refine lv_iload hx hb dX3_choicesOf_5 (lv_at hl 0 rfl) ?_
      refine lv_aload_n hx hb dX3_choicesOf_7 rfl (lv_at hl 2 rfl) ?_
      refine r_getN (v := .int (iI x1)) M w 0 9 clX9 rfl (by decide) N388 rfl rfl dX3_choicesOf_8 ?_
      refine lv_icmp_ge (tgt := 57) hx hb dX3_choicesOf_11 (by decide) (fun c_3 => ?_) (fun c_3 => ?_)
      · replace c_3 := (iI_le (Int.le_trans (by decide) x1_a) (Int.le_trans x1_b (by decide)) (Int.le_trans (by decide) z1_a) (Int.le_trans z1_b (by decide))).mp c_3
        refine lv_iload_n hx hb dX3_choicesOf_57 rfl (lv_at hl 1 rfl) ?_
        exact ret _ z2 _ _ _ _ _ [0, 1, 2, 3, 4, 5] dX3_choicesOf_58 ⟨rfl, z2_a, z2_b⟩ w (by decide) rfl
      · replace c_3 : z1 < x1 := Int.not_le.mp (fun h => c_3 ((iI_le (Int.le_trans (by decide) x1_a) (Int.le_trans x1_b (by decide)) (Int.le_trans (by decide) z1_a) (Int.le_trans z1_b (by decide))).mpr h))
        refine lv_aload_n hx hb dX3_choicesOf_14 rfl (lv_at hl 2 rfl) ?_
        refine lv_iload_n hx hb dX3_choicesOf_15 rfl (lv_at hl 4 rfl) ?_
        refine lv_iload hx hb dX3_choicesOf_16 (lv_at hl 0 rfl) ?_
        refine k_I (ce := 0) (sl := 0) (rest := []) (wr := [(a1, .inr (7, [.ref a11, .ref a12, .ref a13, .ref a14, .int r0, .int r1, .int r2, .int r3])), (a3, .inl (T 0, 9, .inl (cI f0))), (a4, .inl (T 0, 9, .inl (cI f1))), (a11, .inl (T 0, 9, .inl f3))]) (r_V (f := 0) [0, 4] M w V_HookedCity_Matching_53 G852 G853 (c221_X9_isStreet l D T _ a0 x0 z1 a2 a3 a4 a5 a6 a7 a8 a9 a10 x1 x2 x3 x4 x5 x6 x7 x8 x9 f2 x0_a x0_b (by omega) (by omega) x1_a x1_b x2_a x2_b x3_a x3_b x4_a x4_b x5_a x5_b x6_a x6_b x7_a x7_b x8_a x8_b x9_a x9_b f2_h) 0 clX9 rfl rfl (by decide) rfl hl.1 rfl (Nat.le_of_ble_eq_true rfl) dX3_choicesOf_18 (by decide) (by decide) (by decide) (by decide)) w [0, 4] [1, 2, 3, 5] rfl rfl (by decide) (by decide) rfl rfl (fun v z4 H locs hp w => ?_)
        have hv : iI z4 = v := hp.1
        subst hv
        have z4_a : 0 ≤ z4 := hp.2.1
        have z4_b : z4 ≤ 1 := hp.2.2
        have w : WD D A s.heap [(a1, .inr (7, [.ref a11, .ref a12, .ref a13, .ref a14, .int r0, .int r1, .int r2, .int r3])), (a3, .inl (T 0, 9, .inl (cI f0))), (a4, .inl (T 0, 9, .inl (cI f1))), (a11, .inl (T 0, 9, .inl f3)), (a0, .inr (9, [.ref a2, .ref a3, .ref a4, .ref a5, .ref a6, .ref a7, .ref a8, .ref a9, .ref a10, .int (iI x1), .int (iI x2), .int (iI x3), .int (iI x4), .int (iI x5), .int (iI x6), .int (iI x7), .int (iI x8), .int (iI x9)])), (a6, .inl (T 0, 9, .inl (cI f2)))] H locs := w
        refine lv_if_eq (tgt := 51) hx hb dX3_choicesOf_21 (by decide) (fun c_5 => ?_) (fun c_5 => ?_)
        · replace c_5 := (iz_eq (Int.le_trans (by decide) z4_a) (Int.le_trans z4_b (by decide))).mp c_5
          refine lv_iinc (v := iI (z1 + 1)) (lv' := [(4, .int (iI (z1 + 1))), (3, .int (iI z2)), (0, .ref a0), (1, .ref a1), (2, .int (iI x0))]) hx hb dX3_choicesOf_51 hl (k := 0) rfl (ii_inc (by decide +kernel)) (by decide) rfl (fun ls hl => ?_)
          refine lv_goto (tgt := 5) hx hb dX3_choicesOf_54 (by decide) ?_
          exact ih1 (z1 + 1) z2 _ _ _ (by omega) (by omega) z2_a z2_b (by omega) (w.sub [4, 0, 1, 2, 5, 3] (by decide) rfl) (lv_sub hl [0, 1, 2, 3, 4] rfl)
        · replace c_5 : ¬ z4 = 0 := fun h => c_5 ((iz_eq (Int.le_trans (by decide) z4_a) (Int.le_trans z4_b (by decide))).mpr h)
          refine lv_aload_n hx hb dX3_choicesOf_24 rfl (lv_at hl 2 rfl) ?_
          refine lv_iload_n hx hb dX3_choicesOf_25 rfl (lv_at hl 4 rfl) ?_
          refine lv_iload hx hb dX3_choicesOf_26 (lv_at hl 0 rfl) ?_
          refine k_I (ce := 0) (sl := 0) (rest := []) (wr := [(a1, .inr (7, [.ref a11, .ref a12, .ref a13, .ref a14, .int r0, .int r1, .int r2, .int r3])), (a11, .inl (T 0, 9, .inl f3)), (a6, .inl (T 0, 9, .inl (cI f2)))]) (r_V (f := 0) [4, 1, 2] M w V_HookedCity_Matching_57 G856 G857 (c222_X9_fits l D T _ a0 x0 z1 a2 a3 a4 a5 a6 a7 a8 a9 a10 x1 x2 x3 x4 x5 x6 x7 x8 x9 f0 f1 x0_a x0_b (by omega) (by omega) x1_a x1_b x2_a x2_b x3_a x3_b x4_a x4_b x5_a x5_b x6_a x6_b x7_a x7_b x8_a x8_b x9_a x9_b f0_h f1_h) 4 clX9 rfl rfl (by decide) rfl hl.1 rfl (Nat.le_of_ble_eq_true rfl) dX3_choicesOf_28 (by decide) (by decide) (by decide) (by decide)) w [4, 1, 2] [0, 3, 5] rfl rfl (by decide) (by decide) rfl rfl (fun v z6 H locs hp w => ?_)
          have hv : iI z6 = v := hp.1
          subst hv
          have z6_a : 0 ≤ z6 := hp.2.1
          have z6_b : z6 ≤ 1 := hp.2.2
          have w : WD D A s.heap [(a1, .inr (7, [.ref a11, .ref a12, .ref a13, .ref a14, .int r0, .int r1, .int r2, .int r3])), (a11, .inl (T 0, 9, .inl f3)), (a6, .inl (T 0, 9, .inl (cI f2))), (a0, .inr (9, [.ref a2, .ref a3, .ref a4, .ref a5, .ref a6, .ref a7, .ref a8, .ref a9, .ref a10, .int (iI x1), .int (iI x2), .int (iI x3), .int (iI x4), .int (iI x5), .int (iI x6), .int (iI x7), .int (iI x8), .int (iI x9)])), (a3, .inl (T 0, 9, .inl (cI f0))), (a4, .inl (T 0, 9, .inl (cI f1)))] H locs := w
          refine lv_if_eq (tgt := 51) hx hb dX3_choicesOf_31 (by decide) (fun c_7 => ?_) (fun c_7 => ?_)
          · replace c_7 := (iz_eq (Int.le_trans (by decide) z6_a) (Int.le_trans z6_b (by decide))).mp c_7
            refine lv_iinc (v := iI (z1 + 1)) (lv' := [(4, .int (iI (z1 + 1))), (3, .int (iI z2)), (0, .ref a0), (1, .ref a1), (2, .int (iI x0))]) hx hb dX3_choicesOf_51 hl (k := 0) rfl (ii_inc (by decide +kernel)) (by decide) rfl (fun ls hl => ?_)
            refine lv_goto (tgt := 5) hx hb dX3_choicesOf_54 (by decide) ?_
            exact ih1 (z1 + 1) z2 _ _ _ (by omega) (by omega) z2_a z2_b (by omega) (w.sub [3, 0, 4, 5, 2, 1] (by decide) rfl) (lv_sub hl [0, 1, 2, 3, 4] rfl)
          · replace c_7 : ¬ z6 = 0 := fun h => c_7 ((iz_eq (Int.le_trans (by decide) z6_a) (Int.le_trans z6_b (by decide))).mpr h)
            refine lv_aload_n hx hb dX3_choicesOf_34 rfl (lv_at hl 3 rfl) ?_
            refine r_getN (v := .ref a11) M w 0 0 clX7 rfl (by decide) N217 rfl rfl dX3_choicesOf_35 ?_
            refine lv_iload hx hb dX3_choicesOf_38 (lv_at hl 0 rfl) ?_
            refine r_iald (v := _) M w 1 rfl (iI_in (by omega) (by omega) (by decide)) rfl dX3_choicesOf_40 ?_
            refine b_any (fun z8 z8_a z8_b => ?_)
            refine lv_if_le (tgt := 51) hx hb dX3_choicesOf_41 (by decide) (fun c_9 => ?_) (fun c_9 => ?_)
            · replace c_9 := (iz_le (Int.le_trans (by decide) z8_a) (Int.le_trans z8_b (by decide))).mp c_9
              refine lv_iinc (v := iI (z1 + 1)) (lv' := [(4, .int (iI (z1 + 1))), (3, .int (iI z2)), (0, .ref a0), (1, .ref a1), (2, .int (iI x0))]) hx hb dX3_choicesOf_51 hl (k := 0) rfl (ii_inc (by decide +kernel)) (by decide) rfl (fun ls hl => ?_)
              refine lv_goto (tgt := 5) hx hb dX3_choicesOf_54 (by decide) ?_
              exact ih1 (z1 + 1) z2 _ _ _ (by omega) (by omega) z2_a z2_b (by omega) (w.sub [3, 0, 4, 5, 2, 1] (by decide) rfl) (lv_sub hl [0, 1, 2, 3, 4] rfl)
            · replace c_9 : 0 < z8 := Int.not_le.mp (fun h => c_9 ((iz_le (Int.le_trans (by decide) z8_a) (Int.le_trans z8_b (by decide))).mpr h))
              refine lv_iload_n hx hb dX3_choicesOf_44 rfl (lv_at hl 1 rfl) ?_
              refine lv_iconst (v := iI 1) hx hb dX3_choicesOf_45 (by decide +kernel) ?_
              refine lv_iload hx hb dX3_choicesOf_46 (lv_at hl 0 rfl) ?_
              refine r_ishl (v := _) M rfl dX3_choicesOf_48 ?_
              refine b_rng (lo := 1) (hi := 256) (ishl_9 (by omega) (by omega)) (fun z10 z10_a z10_b => ?_)
              refine r_ior (v := _) M rfl dX3_choicesOf_49 ?_
              refine b_any (fun z11 z11_a z11_b => ?_)
              refine lv_istore_n (lv' := [(3, .int (iI z11)), (4, .int (iI z1)), (0, .ref a0), (1, .ref a1), (2, .int (iI x0))]) hx hb dX3_choicesOf_50 rfl hl (by decide) rfl (fun ls hl => ?_)
              refine lv_iinc (v := iI (z1 + 1)) (lv' := [(4, .int (iI (z1 + 1))), (3, .int (iI z11)), (0, .ref a0), (1, .ref a1), (2, .int (iI x0))]) hx hb dX3_choicesOf_51 hl (k := 1) rfl (ii_inc (by decide +kernel)) (by decide) rfl (fun ls hl => ?_)
              refine lv_goto (tgt := 5) hx hb dX3_choicesOf_54 (by decide) ?_
              exact ih1 (z1 + 1) z11 _ _ _ (by omega) (by omega) z11_a z11_b (by omega) (w.sub [3, 0, 4, 5, 2, 1] (by decide) rfl) (lv_sub hl [0, 1, 2, 3, 4] rfl)
  exact loop1 (((x1 - 0) : Int).toNat + 1) 0 0 _ _ _ (by decide) (by decide) (by decide) (by decide) (Nat.lt_succ_self _) w (lv_sub hl [0, 1, 2, 3, 4] rfl)
set_option maxRecDepth 100000 in
set_option maxHeartbeats 4000000 in
theorem c358_X3_find (l : Launch) (D : va_G) (T : Nat → ClassId) (sz : Nat) (a0 : Nat) (a1 : Nat) (a2 : Nat) (a3 : Nat) (a4 : Nat) (a5 : Nat) (x0 : Int) (r0 : Int32) (a6 : Nat) (a7 : Nat) (a8 : Nat) (a9 : Nat) (a10 : Nat) (a11 : Nat) (a12 : Nat) (a13 : Nat) (a14 : Nat) (x1 : Int) (x2 : Int) (x3 : Int) (x4 : Int) (x5 : Int) (x6 : Int) (x7 : Int) (x8 : Int) (x9 : Int) (a15 : Nat) (a16 : Nat) (a17 : Nat) (a18 : Nat) (r1 : Int32) (r2 : Int32) (r3 : Int32) (r4 : Int32) (f0 : Int → Int) (f1 : Nat → Int32) (f2 : Int → Int) (f3 : Int → Int) (f4 : Int → Int) (f5 : Int → Int) (f6 : Nat → Int32) (x0_a : 0 ≤ x0) (x0_b : x0 ≤ 9) (x1_a : 0 ≤ x1) (x1_b : x1 ≤ 9) (x2_a : 0 ≤ x2) (x2_b : x2 ≤ 3) (x3_a : 0 ≤ x3) (x3_b : x3 ≤ 900) (x4_a : (-2147483648) ≤ x4) (x4_b : x4 ≤ 2147483647) (x5_a : (-2147483648) ≤ x5) (x5_b : x5 ≤ 2147483647) (x6_a : (-2147483648) ≤ x6) (x6_b : x6 ≤ 2147483647) (x7_a : 0 ≤ x7) (x7_b : x7 ≤ 1) (x8_a : 0 ≤ x8) (x8_b : x8 ≤ 1) (x9_a : 0 ≤ x9) (x9_b : x9 ≤ 1) (f0_h : rng (-1) 8 f0) (f2_h : rng (-1) 8 f2) (f3_h : rng (-2147483648) 2147483647 f3) (f4_h : rng (-2147483648) 2147483647 f4) (f5_h : rng 0 511 f5) : Met l yX3_find (Cond.code yX3_find cX3_find 7 (some .int) :: GW) (Rm 13 0 0) (cPre [.ref a0, .ref a1, .ref a2] D T [(a0, .inr (3, [.ref a3, .ref a4, .ref a5, .int (iI x0), .int r0])), (a1, .inr (9, [.ref a6, .ref a7, .ref a8, .ref a9, .ref a10, .ref a11, .ref a12, .ref a13, .ref a14, .int (iI x1), .int (iI x2), .int (iI x3), .int (iI x4), .int (iI x5), .int (iI x6), .int (iI x7), .int (iI x8), .int (iI x9)])), (a2, .inr (7, [.ref a15, .ref a16, .ref a17, .ref a18, .int r1, .int r2, .int r3, .int r4])), (a3, .inl (T 0, 9, .inl (cI f0))), (a4, .inl (T 0, 9, .inl f1)), (a5, .inl (T 0, 9, .inl (cI f2))), (a7, .inl (T 0, 9, .inl (cI f3))), (a8, .inl (T 0, 9, .inl (cI f4))), (a10, .inl (T 0, 9, .inl (cI f5))), (a15, .inl (T 0, 9, .inl f6))] sz) (qI D [(a0, .inr (3, [.ref a3, .ref a4, .ref a5, .int (iI x0), .int r0])), (a1, .inr (9, [.ref a6, .ref a7, .ref a8, .ref a9, .ref a10, .ref a11, .ref a12, .ref a13, .ref a14, .int (iI x1), .int (iI x2), .int (iI x3), .int (iI x4), .int (iI x5), .int (iI x6), .int (iI x7), .int (iI x8), .int (iI x9)])), (a2, .inr (7, [.ref a15, .ref a16, .ref a17, .ref a18, .int r1, .int r2, .int r3, .int r4])), (a3, .inl (T 0, 9, .inl (cI f0))), (a4, .inl (T 0, 9, .inl f1)), (a5, .inl (T 0, 9, .inl (cI f2))), (a7, .inl (T 0, 9, .inl (cI f3))), (a8, .inl (T 0, 9, .inl (cI f4))), (a10, .inl (T 0, 9, .inl (cI f5))), (a15, .inl (T 0, 9, .inl f6))] sz (fun (v : Int32) (u : Int × Int × Int32 × (Int → Int) × (Nat → Int32) × (Int → Int)) => iI u.1 = v ∧ (-2147483648) ≤ u.1 ∧ u.1 ≤ 2147483647 ∧ 0 ≤ u.2.1 ∧ u.2.1 ≤ 9 ∧ rng (-1) 8 u.2.2.2.1 ∧ rng (-1) 8 u.2.2.2.2.2) (fun u => [(a0, .inr (3, [.ref a3, .ref a4, .ref a5, .int (iI u.2.1), .int u.2.2.1])), (a1, .inr (9, [.ref a6, .ref a7, .ref a8, .ref a9, .ref a10, .ref a11, .ref a12, .ref a13, .ref a14, .int (iI x1), .int (iI x2), .int (iI x3), .int (iI x4), .int (iI x5), .int (iI x6), .int (iI x7), .int (iI x8), .int (iI x9)])), (a2, .inr (7, [.ref a15, .ref a16, .ref a17, .ref a18, .int r1, .int r2, .int r3, .int r4])), (a3, .inl (T 0, 9, .inl (cI u.2.2.2.1))), (a4, .inl (T 0, 9, .inl u.2.2.2.2.1)), (a5, .inl (T 0, 9, .inl (cI u.2.2.2.2.2))), (a7, .inl (T 0, 9, .inl (cI f3))), (a8, .inl (T 0, 9, .inl (cI f4))), (a10, .inl (T 0, 9, .inl (cI f5))), (a15, .inl (T 0, 9, .inl f6))])) 0 0 (va_A [(a0, .inr (3, [.ref a3, .ref a4, .ref a5, .int (iI x0), .int r0])), (a1, .inr (9, [.ref a6, .ref a7, .ref a8, .ref a9, .ref a10, .ref a11, .ref a12, .ref a13, .ref a14, .int (iI x1), .int (iI x2), .int (iI x3), .int (iI x4), .int (iI x5), .int (iI x6), .int (iI x7), .int (iI x8), .int (iI x9)])), (a2, .inr (7, [.ref a15, .ref a16, .ref a17, .ref a18, .int r1, .int r2, .int r3, .int r4])), (a3, .inl (T 0, 9, .inl (cI f0))), (a4, .inl (T 0, 9, .inl f1)), (a5, .inl (T 0, 9, .inl (cI f2))), (a7, .inl (T 0, 9, .inl (cI f3))), (a8, .inl (T 0, 9, .inl (cI f4))), (a10, .inl (T 0, 9, .inl (cI f5))), (a15, .inl (T 0, 9, .inl f6))] sz) := by
  refine e_I (by decide) (Nat.le_of_ble_eq_true rfl) ?_
  intro p e s m args below meth c A Q ls M hin w ret hl
  have hx := M.1.1
  have hb := M.1.2.1
  have hl : lv_has ls 7 [(0, .ref a0), (1, .ref a1), (2, .ref a2)] := hl
  refine lv_aload_n hx hb dX3_find_0 rfl (lv_at hl 0 rfl) ?_
  refine lv_aload_n hx hb dX3_find_1 rfl (lv_at hl 1 rfl) ?_
  refine r_getN (v := .int (iI x1)) M w 1 9 clX9 rfl (by decide) N388 rfl rfl dX3_find_2 ?_
  refine r_put (ws' := [(a0, .inr (3, [.ref a3, .ref a4, .ref a5, .int (iI x1), .int r0])), (a1, .inr (9, [.ref a6, .ref a7, .ref a8, .ref a9, .ref a10, .ref a11, .ref a12, .ref a13, .ref a14, .int (iI x1), .int (iI x2), .int (iI x3), .int (iI x4), .int (iI x5), .int (iI x6), .int (iI x7), .int (iI x8), .int (iI x9)])), (a2, .inr (7, [.ref a15, .ref a16, .ref a17, .ref a18, .int r1, .int r2, .int r3, .int r4])), (a3, .inl (T 0, 9, .inl (cI f0))), (a4, .inl (T 0, 9, .inl f1)), (a5, .inl (T 0, 9, .inl (cI f2))), (a7, .inl (T 0, 9, .inl (cI f3))), (a8, .inl (T 0, 9, .inl (cI f4))), (a10, .inl (T 0, 9, .inl (cI f5))), (a15, .inl (T 0, 9, .inl f6))]) M w 0 3 clX3 rfl (by decide) G296 rfl rfl rfl rfl (Nat.le_of_ble_eq_true rfl) rfl dX3_find_5 (fun H locs w => ?_)
  refine lv_aload_n hx hb dX3_find_8 rfl (lv_at hl 0 rfl) ?_
  refine r_get (v := .ref a3) M w 0 0 clX3 rfl (by decide) G292 rfl rfl dX3_find_9 ?_
  refine lv_iconst (v := iI (-1)) hx hb dX3_find_12 (by decide +kernel) ?_
  refine k_V (ce := 0) (sl := 0) (rest := []) (wr := [(a0, .inr (3, [.ref a3, .ref a4, .ref a5, .int (iI x1), .int r0])), (a1, .inr (9, [.ref a6, .ref a7, .ref a8, .ref a9, .ref a10, .ref a11, .ref a12, .ref a13, .ref a14, .int (iI x1), .int (iI x2), .int (iI x3), .int (iI x4), .int (iI x5), .int (iI x6), .int (iI x7), .int (iI x8), .int (iI x9)])), (a2, .inr (7, [.ref a15, .ref a16, .ref a17, .ref a18, .int r1, .int r2, .int r3, .int r4])), (a4, .inl (T 0, 9, .inl f1)), (a5, .inl (T 0, 9, .inl (cI f2))), (a7, .inl (T 0, 9, .inl (cI f3))), (a8, .inl (T 0, 9, .inl (cI f4))), (a10, .inl (T 0, 9, .inl (cI f5))), (a15, .inl (T 0, 9, .inl f6))]) (r_S (f := 0) [3] M w V_HookedCity_Matching_28 G290 (c275_J7_fill_53178 l D T _ a3 (-1) f0 (by decide) (by decide) f0_h) rfl (by decide) rfl hl.1 rfl (Nat.le_of_ble_eq_true rfl) dX3_find_13 (by decide) (by decide) (by decide) (by decide)) w [3] [0, 1, 2, 4, 5, 6, 7, 8, 9] rfl rfl (by decide) (by decide) rfl rfl (fun ff1 H locs hp w => ?_)
  have ff1_h : rng (-1) 8 ff1 := hp.1
  have pq2 : ∀ i : Int, 0 ≤ i → i < 9 → ff1 i = (-1) := hp.2
  have w : WD D A s.heap [(a0, .inr (3, [.ref a3, .ref a4, .ref a5, .int (iI x1), .int r0])), (a1, .inr (9, [.ref a6, .ref a7, .ref a8, .ref a9, .ref a10, .ref a11, .ref a12, .ref a13, .ref a14, .int (iI x1), .int (iI x2), .int (iI x3), .int (iI x4), .int (iI x5), .int (iI x6), .int (iI x7), .int (iI x8), .int (iI x9)])), (a2, .inr (7, [.ref a15, .ref a16, .ref a17, .ref a18, .int r1, .int r2, .int r3, .int r4])), (a4, .inl (T 0, 9, .inl f1)), (a5, .inl (T 0, 9, .inl (cI f2))), (a7, .inl (T 0, 9, .inl (cI f3))), (a8, .inl (T 0, 9, .inl (cI f4))), (a10, .inl (T 0, 9, .inl (cI f5))), (a15, .inl (T 0, 9, .inl f6)), (a3, .inl (T 0, 9, .inl (cI ff1)))] H locs := w
  refine lv_iconst (v := iI 0) hx hb dX3_find_16 (by decide +kernel) ?_
  refine lv_istore_n (lv' := [(3, .int (iI 0)), (0, .ref a0), (1, .ref a1), (2, .ref a2)]) hx hb dX3_find_17 rfl hl (by decide) rfl (fun ls hl => ?_)
  have loop1 : ∀ (k1 : Nat) (ff3 : Nat → Int32) (z4 : Int) (H : Heap) (locs : List Loc) (ls : Array Slot), 0 ≤ z4 → z4 ≤ 9 → ((x1 - z4) : Int).toNat < k1 → WD D A s.heap [(a0, .inr (3, [.ref a3, .ref a4, .ref a5, .int (iI x1), .int r0])), (a1, .inr (9, [.ref a6, .ref a7, .ref a8, .ref a9, .ref a10, .ref a11, .ref a12, .ref a13, .ref a14, .int (iI x1), .int (iI x2), .int (iI x3), .int (iI x4), .int (iI x5), .int (iI x6), .int (iI x7), .int (iI x8), .int (iI x9)])), (a2, .inr (7, [.ref a15, .ref a16, .ref a17, .ref a18, .int r1, .int r2, .int r3, .int r4])), (a4, .inl (T 0, 9, .inl ff3)), (a5, .inl (T 0, 9, .inl (cI f2))), (a7, .inl (T 0, 9, .inl (cI f3))), (a8, .inl (T 0, 9, .inl (cI f4))), (a10, .inl (T 0, 9, .inl (cI f5))), (a15, .inl (T 0, 9, .inl f6)), (a3, .inl (T 0, 9, .inl (cI ff1)))] H locs → lv_has ls 7 [(3, .int (iI z4)), (0, .ref a0), (1, .ref a1), (2, .ref a2)] → W p l e (Rm 13 0 0) s m args below meth c H locs 0 0 Q (F0 m 18 ls []) := by
    intro k1
    induction k1 with
    | zero => intro ff3 z4 H locs ls z4_a z4_b hm; exact absurd hm (Nat.not_lt_zero _)
    | succ k1 ih1 =>
      intro ff3 z4 H locs ls z4_a z4_b hm1 w hl
      refine lv_iload_n hx hb dX3_find_18 rfl (lv_at hl 0 rfl) ?_
      refine lv_aload_n hx hb dX3_find_19 rfl (lv_at hl 1 rfl) ?_
      refine r_get (v := .int (iI x1)) M w 0 3 clX3 rfl (by decide) G296 rfl rfl dX3_find_20 ?_
      refine lv_icmp_ge (tgt := 44) hx hb dX3_find_23 (by decide) (fun c_5 => ?_) (fun c_5 => ?_)
      · replace c_5 := (iI_le (Int.le_trans (by decide) x1_a) (Int.le_trans x1_b (by decide)) (Int.le_trans (by decide) z4_a) (Int.le_trans z4_b (by decide))).mp c_5
        refine lv_aload_n hx hb dX3_find_44 rfl (lv_at hl 2 rfl) ?_
        refine k_I (ce := 0) (sl := 0) (rest := []) (wr := [(a0, .inr (3, [.ref a3, .ref a4, .ref a5, .int (iI x1), .int r0])), (a2, .inr (7, [.ref a15, .ref a16, .ref a17, .ref a18, .int r1, .int r2, .int r3, .int r4])), (a4, .inl (T 0, 9, .inl ff3)), (a5, .inl (T 0, 9, .inl (cI f2))), (a7, .inl (T 0, 9, .inl (cI f3))), (a8, .inl (T 0, 9, .inl (cI f4))), (a10, .inl (T 0, 9, .inl (cI f5))), (a15, .inl (T 0, 9, .inl f6)), (a3, .inl (T 0, 9, .inl (cI ff1)))]) (r_V (f := 0) [1] M w V_HookedCity_Matching_41 G964 G965 (c296_X9_everybody l D T _ a1 a6 a7 a8 a9 a10 a11 a12 a13 a14 x1 x2 x3 x4 x5 x6 x7 x8 x9 x1_a x1_b x2_a x2_b x3_a x3_b x4_a x4_b x5_a x5_b x6_a x6_b x7_a x7_b x8_a x8_b x9_a x9_b) 1 clX9 rfl rfl (by decide) rfl hl.1 rfl (Nat.le_of_ble_eq_true rfl) dX3_find_45 (by decide) (by decide) (by decide) (by decide)) w [1] [0, 2, 3, 4, 5, 6, 7, 8, 9] rfl rfl (by decide) (by decide) rfl rfl (fun v z6 H locs hp w => ?_)
        have hv : iI z6 = v := hp.1
        subst hv
        have z6_a : (-2147483648) ≤ z6 := hp.2.1
        have z6_b : z6 ≤ 2147483647 := hp.2.2
        have w : WD D A s.heap [(a0, .inr (3, [.ref a3, .ref a4, .ref a5, .int (iI x1), .int r0])), (a2, .inr (7, [.ref a15, .ref a16, .ref a17, .ref a18, .int r1, .int r2, .int r3, .int r4])), (a4, .inl (T 0, 9, .inl ff3)), (a5, .inl (T 0, 9, .inl (cI f2))), (a7, .inl (T 0, 9, .inl (cI f3))), (a8, .inl (T 0, 9, .inl (cI f4))), (a10, .inl (T 0, 9, .inl (cI f5))), (a15, .inl (T 0, 9, .inl f6)), (a3, .inl (T 0, 9, .inl (cI ff1))), (a1, .inr (9, [.ref a6, .ref a7, .ref a8, .ref a9, .ref a10, .ref a11, .ref a12, .ref a13, .ref a14, .int (iI x1), .int (iI x2), .int (iI x3), .int (iI x4), .int (iI x5), .int (iI x6), .int (iI x7), .int (iI x8), .int (iI x9)]))] H locs := w
        refine lv_istore_n (lv' := [(3, .int (iI z6)), (0, .ref a0), (1, .ref a1), (2, .ref a2)]) hx hb dX3_find_48 rfl hl (by decide) rfl (fun ls hl => ?_)
        refine lv_aload_n hx hb dX3_find_49 rfl (lv_at hl 1 rfl) ?_
        refine lv_iconst (v := iI 0) hx hb dX3_find_50 (by decide +kernel) ?_
        refine lv_iload_n hx hb dX3_find_51 rfl (lv_at hl 0 rfl) ?_
        refine k_I (ce := 0) (sl := 0) (rest := []) (wr := [(a2, .inr (7, [.ref a15, .ref a16, .ref a17, .ref a18, .int r1, .int r2, .int r3, .int r4])), (a7, .inl (T 0, 9, .inl (cI f3))), (a8, .inl (T 0, 9, .inl (cI f4))), (a10, .inl (T 0, 9, .inl (cI f5))), (a15, .inl (T 0, 9, .inl f6)), (a3, .inl (T 0, 9, .inl (cI ff1))), (a1, .inr (9, [.ref a6, .ref a7, .ref a8, .ref a9, .ref a10, .ref a11, .ref a12, .ref a13, .ref a14, .int (iI x1), .int (iI x2), .int (iI x3), .int (iI x4), .int (iI x5), .int (iI x6), .int (iI x7), .int (iI x8), .int (iI x9)]))]) (r_V (f := 11) [0, 2, 3] M w V_HookedCity_Matching_45 G969 G22 (c355_X3_mostFrom l D T _ a0 0 z6 a3 a4 a5 x1 r0 ff3 f2 (by decide) (by decide) z6_a z6_b x1_a x1_b f2_h) 0 clX3 rfl rfl (by decide) rfl hl.1 rfl (Nat.le_of_ble_eq_true rfl) dX3_find_52 (by decide) (by decide) (by decide) (by decide)) w [0, 2, 3] [1, 4, 5, 6, 7, 8, 9] rfl rfl (by decide) (by decide) rfl rfl (fun v u H locs hp w => ?_)
        obtain ⟨z7, fr8, ff9⟩ := u
        have hv : iI z7 = v := hp.1
        subst hv
        have z7_a : 0 ≤ z7 := hp.2.1
        have z7_b : z7 ≤ 9 := hp.2.2.1
        have ff9_h : rng (-1) 8 ff9 := hp.2.2.2
        have w : WD D A s.heap [(a2, .inr (7, [.ref a15, .ref a16, .ref a17, .ref a18, .int r1, .int r2, .int r3, .int r4])), (a7, .inl (T 0, 9, .inl (cI f3))), (a8, .inl (T 0, 9, .inl (cI f4))), (a10, .inl (T 0, 9, .inl (cI f5))), (a15, .inl (T 0, 9, .inl f6)), (a3, .inl (T 0, 9, .inl (cI ff1))), (a1, .inr (9, [.ref a6, .ref a7, .ref a8, .ref a9, .ref a10, .ref a11, .ref a12, .ref a13, .ref a14, .int (iI x1), .int (iI x2), .int (iI x3), .int (iI x4), .int (iI x5), .int (iI x6), .int (iI x7), .int (iI x8), .int (iI x9)])), (a0, .inr (3, [.ref a3, .ref a4, .ref a5, .int (iI x1), .int fr8])), (a4, .inl (T 0, 9, .inl ff3)), (a5, .inl (T 0, 9, .inl (cI ff9)))] H locs := w
        refine lv_istore (lv' := [(4, .int (iI z7)), (3, .int (iI z6)), (0, .ref a0), (1, .ref a1), (2, .ref a2)]) hx hb dX3_find_55 hl (by decide) rfl (fun ls hl => ?_)
        refine lv_iload hx hb dX3_find_57 (lv_at hl 0 rfl) ?_
        refine lv_istore (lv' := [(5, .int (iI z7)), (4, .int (iI z7)), (3, .int (iI z6)), (0, .ref a0), (1, .ref a1), (2, .ref a2)]) hx hb dX3_find_59 hl (by decide) rfl (fun ls hl => ?_)
        refine lv_iconst (v := iI 0) hx hb dX3_find_61 (by decide +kernel) ?_
        refine lv_istore (lv' := [(6, .int (iI 0)), (5, .int (iI z7)), (4, .int (iI z7)), (3, .int (iI z6)), (0, .ref a0), (1, .ref a1), (2, .ref a2)]) hx hb dX3_find_62 hl (by decide) rfl (fun ls hl => ?_)
        have loop2 : ∀ (k2 : Nat) (fr10 : Int32) (ff11 : Int → Int) (ff12 : Int → Int) (z13 : Int) (z14 : Int) (z15 : Int) (H : Heap) (locs : List Loc) (ls : Array Slot), rng (-1) 8 ff11 → rng (-1) 8 ff12 → 0 ≤ z13 → z13 ≤ 9 → (-9) ≤ z14 → z14 ≤ 9 → (-2147483648) ≤ z15 → z15 ≤ 2147483647 → 0 ≤ (z14 + z13) → ((x1 - z13) : Int).toNat < k2 → WD D A s.heap [(a2, .inr (7, [.ref a15, .ref a16, .ref a17, .ref a18, .int r1, .int r2, .int r3, .int r4])), (a7, .inl (T 0, 9, .inl (cI f3))), (a8, .inl (T 0, 9, .inl (cI f4))), (a10, .inl (T 0, 9, .inl (cI f5))), (a15, .inl (T 0, 9, .inl f6)), (a3, .inl (T 0, 9, .inl (cI ff11))), (a1, .inr (9, [.ref a6, .ref a7, .ref a8, .ref a9, .ref a10, .ref a11, .ref a12, .ref a13, .ref a14, .int (iI x1), .int (iI x2), .int (iI x3), .int (iI x4), .int (iI x5), .int (iI x6), .int (iI x7), .int (iI x8), .int (iI x9)])), (a0, .inr (3, [.ref a3, .ref a4, .ref a5, .int (iI x1), .int fr10])), (a4, .inl (T 0, 9, .inl ff3)), (a5, .inl (T 0, 9, .inl (cI ff12)))] H locs → lv_has ls 7 [(6, .int (iI z13)), (5, .int (iI z14)), (4, .int (iI z7)), (3, .int (iI z15)), (0, .ref a0), (1, .ref a1), (2, .ref a2)] → W p l e (Rm 13 0 0) s m args below meth c H locs 0 0 Q (F0 m 64 ls []) := by
          intro k2
          induction k2 with
          | zero => intro fr10 ff11 ff12 z13 z14 z15 H locs ls ff11_h ff12_h z13_a z13_b z14_a z14_b z15_a z15_b q2_0 hm; exact absurd hm (Nat.not_lt_zero _)
          | succ k2 ih2 =>
            intro fr10 ff11 ff12 z13 z14 z15 H locs ls ff11_h ff12_h z13_a z13_b z14_a z14_b z15_a z15_b q2_0 hm2 w hl
            refine lv_iload hx hb dX3_find_64 (lv_at hl 0 rfl) ?_
            refine lv_aload_n hx hb dX3_find_66 rfl (lv_at hl 4 rfl) ?_
            refine r_get (v := .int (iI x1)) M w 7 3 clX3 rfl (by decide) G296 rfl rfl dX3_find_67 ?_
            refine lv_icmp_ge (tgt := 123) hx hb dX3_find_70 (by decide) (fun c_16 => ?_) (fun c_16 => ?_)
            · replace c_16 := (iI_le (Int.le_trans (by decide) x1_a) (Int.le_trans x1_b (by decide)) (Int.le_trans (by decide) z13_a) (Int.le_trans z13_b (by decide))).mp c_16
              refine lv_iload hx hb dX3_find_123 (lv_at hl 2 rfl) ?_
              exact ret _ (z7, x1, fr10, ff11, ff3, ff12) _ _ _ _ _ [7, 6, 0, 5, 8, 9, 1, 2, 3, 4] dX3_find_125 ⟨rfl, (show (-2147483648) ≤ z7 from by omega), (show z7 ≤ 2147483647 from by omega), x1_a, x1_b, ff11_h, ff12_h⟩ w (by decide) rfl
            · replace c_16 : z13 < x1 := Int.not_le.mp (fun h => c_16 ((iI_le (Int.le_trans (by decide) x1_a) (Int.le_trans x1_b (by decide)) (Int.le_trans (by decide) z13_a) (Int.le_trans z13_b (by decide))).mpr h))
              refine lv_aload_n hx hb dX3_find_73 rfl (lv_at hl 4 rfl) ?_
              refine r_get (v := .ref a3) M w 7 0 clX3 rfl (by decide) G292 rfl rfl dX3_find_74 ?_
              refine lv_iload hx hb dX3_find_77 (lv_at hl 0 rfl) ?_
              refine lv_aload_n hx hb dX3_find_79 rfl (lv_at hl 4 rfl) ?_
              refine lv_iload hx hb dX3_find_80 (lv_at hl 0 rfl) ?_
              refine lv_iload_n hx hb dX3_find_82 rfl (lv_at hl 3 rfl) ?_
              refine lv_iload hx hb dX3_find_83 (lv_at hl 1 rfl) ?_
              refine k_I (ce := 0) (sl := 0) (rest := [.int (iI z13), .ref a3]) (wr := [(a2, .inr (7, [.ref a15, .ref a16, .ref a17, .ref a18, .int r1, .int r2, .int r3, .int r4])), (a7, .inl (T 0, 9, .inl (cI f3))), (a8, .inl (T 0, 9, .inl (cI f4))), (a10, .inl (T 0, 9, .inl (cI f5))), (a15, .inl (T 0, 9, .inl f6)), (a3, .inl (T 0, 9, .inl (cI ff11))), (a1, .inr (9, [.ref a6, .ref a7, .ref a8, .ref a9, .ref a10, .ref a11, .ref a12, .ref a13, .ref a14, .int (iI x1), .int (iI x2), .int (iI x3), .int (iI x4), .int (iI x5), .int (iI x6), .int (iI x7), .int (iI x8), .int (iI x9)]))]) (r_V (f := 12) [7, 8, 9] M w V_HookedCity_Matching_49 G977 G24 (c356_X3_firstFor l D T _ a0 z13 z15 z14 a3 a4 a5 x1 fr10 ff3 ff12 (by omega) (by omega) z15_a z15_b (by omega) (by omega) x1_a x1_b ff12_h) 7 clX3 rfl rfl (by decide) rfl hl.1 rfl (Nat.le_of_ble_eq_true rfl) dX3_find_85 (by decide) (by decide) (by decide) (by decide)) w [7, 8, 9] [0, 1, 2, 3, 4, 5, 6] rfl rfl (by decide) (by decide) rfl rfl (fun v u H locs hp w => ?_)
              obtain ⟨z17, fr18, ff19⟩ := u
              have hv : iI z17 = v := hp.1
              subst hv
              have z17_a : (-1) ≤ z17 := hp.2.1
              have z17_b : z17 ≤ 8 := hp.2.2.1
              have ff19_h : rng (-1) 8 ff19 := hp.2.2.2
              have w : WD D A s.heap [(a2, .inr (7, [.ref a15, .ref a16, .ref a17, .ref a18, .int r1, .int r2, .int r3, .int r4])), (a7, .inl (T 0, 9, .inl (cI f3))), (a8, .inl (T 0, 9, .inl (cI f4))), (a10, .inl (T 0, 9, .inl (cI f5))), (a15, .inl (T 0, 9, .inl f6)), (a3, .inl (T 0, 9, .inl (cI ff11))), (a1, .inr (9, [.ref a6, .ref a7, .ref a8, .ref a9, .ref a10, .ref a11, .ref a12, .ref a13, .ref a14, .int (iI x1), .int (iI x2), .int (iI x3), .int (iI x4), .int (iI x5), .int (iI x6), .int (iI x7), .int (iI x8), .int (iI x9)])), (a0, .inr (3, [.ref a3, .ref a4, .ref a5, .int (iI x1), .int fr18])), (a4, .inl (T 0, 9, .inl ff3)), (a5, .inl (T 0, 9, .inl (cI ff19)))] H locs := w
              refine r_iast (ws' := [(a2, .inr (7, [.ref a15, .ref a16, .ref a17, .ref a18, .int r1, .int r2, .int r3, .int r4])), (a7, .inl (T 0, 9, .inl (cI f3))), (a8, .inl (T 0, 9, .inl (cI f4))), (a10, .inl (T 0, 9, .inl (cI f5))), (a15, .inl (T 0, 9, .inl f6)), (a3, .inl (T 0, 9, .inl (cI (upz ff11 z13 z17)))), (a1, .inr (9, [.ref a6, .ref a7, .ref a8, .ref a9, .ref a10, .ref a11, .ref a12, .ref a13, .ref a14, .int (iI x1), .int (iI x2), .int (iI x3), .int (iI x4), .int (iI x5), .int (iI x6), .int (iI x7), .int (iI x8), .int (iI x9)])), (a0, .inr (3, [.ref a3, .ref a4, .ref a5, .int (iI x1), .int fr18])), (a4, .inl (T 0, 9, .inl ff3)), (a5, .inl (T 0, 9, .inl (cI ff19)))]) M w 5 rfl (iI_in (by omega) (by omega) (by decide)) (by rw [cI_up (by omega) (by omega)]; rfl) dX3_find_88 (fun H locs w => ?_)
              refine lv_aload_n hx hb dX3_find_89 rfl (lv_at hl 4 rfl) ?_
              refine r_get (v := .ref a3) M w 7 0 clX3 rfl (by decide) G292 rfl rfl dX3_find_90 ?_
              refine lv_iload hx hb dX3_find_93 (lv_at hl 0 rfl) ?_
              refine r_iald (v := iI z17) M w 5 rfl (iI_in (by omega) (by omega) (by decide)) ((cI_at (by omega) (by omega)).trans (congrArg iI (by rw [upz_s]))) dX3_find_95 ?_
              refine lv_iconst (v := iI (-1)) hx hb dX3_find_96 (by decide +kernel) ?_
              refine lv_icmp_eq (tgt := 117) hx hb dX3_find_97 (by decide) (fun c_20 => ?_) (fun c_20 => ?_)
              · replace c_20 := (iI_eq (Int.le_trans (by decide) z17_a) (Int.le_trans z17_b (by decide)) (by decide) (by decide)).mp c_20
                refine lv_iinc (v := iI (z13 + 1)) (lv' := [(6, .int (iI (z13 + 1))), (5, .int (iI z14)), (4, .int (iI z7)), (3, .int (iI z15)), (0, .ref a0), (1, .ref a1), (2, .ref a2)]) hx hb dX3_find_117 hl (k := 0) rfl (ii_inc (by decide +kernel)) (by decide) rfl (fun ls hl => ?_)
                refine lv_goto (tgt := 64) hx hb dX3_find_120 (by decide) ?_
                exact ih2 fr18 (upz ff11 z13 z17) ff19 (z13 + 1) z14 z15 _ _ _ (rng_up ff11_h (by omega) (by omega)) ff19_h (by omega) (by omega) z14_a z14_b z15_a z15_b (by omega) (by omega) w (lv_sub hl [0, 1, 2, 3, 4, 5, 6] rfl)
              · replace c_20 : ¬ z17 = (-1) := fun h => c_20 ((iI_eq (Int.le_trans (by decide) z17_a) (Int.le_trans z17_b (by decide)) (by decide) (by decide)).mpr h)
                refine lv_iload_n hx hb dX3_find_100 rfl (lv_at hl 3 rfl) ?_
                refine lv_iconst (v := iI 1) hx hb dX3_find_101 (by decide +kernel) ?_
                refine lv_aload_n hx hb dX3_find_102 rfl (lv_at hl 4 rfl) ?_
                refine r_get (v := .ref a3) M w 7 0 clX3 rfl (by decide) G292 rfl rfl dX3_find_103 ?_
                refine lv_iload hx hb dX3_find_106 (lv_at hl 0 rfl) ?_
                refine r_iald (v := iI z17) M w 5 rfl (iI_in (by omega) (by omega) (by decide)) ((cI_at (by omega) (by omega)).trans (congrArg iI (by rw [upz_s]))) dX3_find_108 ?_
                refine r_ishl (v := _) M rfl dX3_find_109 ?_
                refine b_rng (lo := 1) (hi := 256) (ishl_9 (by omega) (by omega)) (fun z21 z21_a z21_b => ?_)
                refine lv_iconst (v := iI (-1)) hx hb dX3_find_110 (by decide +kernel) ?_
                refine r_ixor (v := _) M rfl dX3_find_111 ?_
                refine b_any (fun z22 z22_a z22_b => ?_)
                refine r_iand (v := _) M rfl dX3_find_112 ?_
                refine b_any (fun z23 z23_a z23_b => ?_)
                refine lv_istore_n (lv' := [(3, .int (iI z23)), (6, .int (iI z13)), (5, .int (iI z14)), (4, .int (iI z7)), (0, .ref a0), (1, .ref a1), (2, .ref a2)]) hx hb dX3_find_113 rfl hl (by decide) rfl (fun ls hl => ?_)
                refine lv_iinc (v := iI (z14 + (-1))) (lv' := [(5, .int (iI (z14 + (-1)))), (3, .int (iI z23)), (6, .int (iI z13)), (4, .int (iI z7)), (0, .ref a0), (1, .ref a1), (2, .ref a2)]) hx hb dX3_find_114 hl (k := 2) rfl (ii_inc (by decide +kernel)) (by decide) rfl (fun ls hl => ?_)
                refine lv_iinc (v := iI (z13 + 1)) (lv' := [(6, .int (iI (z13 + 1))), (5, .int (iI (z14 + (-1)))), (3, .int (iI z23)), (4, .int (iI z7)), (0, .ref a0), (1, .ref a1), (2, .ref a2)]) hx hb dX3_find_117 hl (k := 2) rfl (ii_inc (by decide +kernel)) (by decide) rfl (fun ls hl => ?_)
                refine lv_goto (tgt := 64) hx hb dX3_find_120 (by decide) ?_
                exact ih2 fr18 (upz ff11 z13 z17) ff19 (z13 + 1) (z14 + (-1)) z23 _ _ _ (rng_up ff11_h (by omega) (by omega)) ff19_h (by omega) (by omega) (by omega) (by omega) z23_a z23_b (by omega) (by omega) w (lv_sub hl [0, 1, 3, 2, 4, 5, 6] rfl)
        exact loop2 (((x1 - 0) : Int).toNat + 1) fr8 ff1 ff9 0 z7 z6 _ _ _ ff1_h ff9_h (by decide) (by decide) (by omega) (by omega) z6_a z6_b (by omega) (Nat.lt_succ_self _) w (lv_sub hl [0, 1, 2, 3, 4, 5, 6] rfl)
      · replace c_5 : z4 < x1 := Int.not_le.mp (fun h => c_5 ((iI_le (Int.le_trans (by decide) x1_a) (Int.le_trans x1_b (by decide)) (Int.le_trans (by decide) z4_a) (Int.le_trans z4_b (by decide))).mpr h))
        refine lv_aload_n hx hb dX3_find_26 rfl (lv_at hl 1 rfl) ?_
        refine r_get (v := .ref a4) M w 0 1 clX3 rfl (by decide) G294 rfl rfl dX3_find_27 ?_
        refine lv_iload_n hx hb dX3_find_30 rfl (lv_at hl 0 rfl) ?_
        refine lv_aload_n hx hb dX3_find_31 rfl (lv_at hl 2 rfl) ?_
        refine lv_aload_n hx hb dX3_find_32 rfl (lv_at hl 3 rfl) ?_
        refine lv_iload_n hx hb dX3_find_33 rfl (lv_at hl 0 rfl) ?_
        refine k_I (ce := 0) (sl := 0) (rest := [.int (iI z4), .ref a4]) (wr := [(a0, .inr (3, [.ref a3, .ref a4, .ref a5, .int (iI x1), .int r0])), (a4, .inl (T 0, 9, .inl ff3)), (a5, .inl (T 0, 9, .inl (cI f2))), (a3, .inl (T 0, 9, .inl (cI ff1)))]) (r_S (f := 1) [1, 2, 5, 6, 7, 8] M w V_HookedCity_Matching_37 G959 (c357_X3_choicesOf l D T _ a1 a2 z4 a6 a7 a8 a9 a10 a11 a12 a13 a14 x1 x2 x3 x4 x5 x6 x7 x8 x9 a15 a16 a17 a18 r1 r2 r3 r4 f3 f4 f5 f6 (by omega) (by omega) x1_a x1_b x2_a x2_b x3_a x3_b x4_a x4_b x5_a x5_b x6_a x6_b x7_a x7_b x8_a x8_b x9_a x9_b f3_h f4_h f5_h) rfl (by decide) rfl hl.1 rfl (Nat.le_of_ble_eq_true rfl) dX3_find_34 (by decide) (by decide) (by decide) (by decide)) w [1, 2, 5, 6, 7, 8] [0, 3, 4, 9] rfl rfl (by decide) (by decide) rfl rfl (fun v z24 H locs hp w => ?_)
        have hv : iI z24 = v := hp.1
        subst hv
        have z24_a : (-2147483648) ≤ z24 := hp.2.1
        have z24_b : z24 ≤ 2147483647 := hp.2.2
        have w : WD D A s.heap [(a0, .inr (3, [.ref a3, .ref a4, .ref a5, .int (iI x1), .int r0])), (a4, .inl (T 0, 9, .inl ff3)), (a5, .inl (T 0, 9, .inl (cI f2))), (a3, .inl (T 0, 9, .inl (cI ff1))), (a1, .inr (9, [.ref a6, .ref a7, .ref a8, .ref a9, .ref a10, .ref a11, .ref a12, .ref a13, .ref a14, .int (iI x1), .int (iI x2), .int (iI x3), .int (iI x4), .int (iI x5), .int (iI x6), .int (iI x7), .int (iI x8), .int (iI x9)])), (a2, .inr (7, [.ref a15, .ref a16, .ref a17, .ref a18, .int r1, .int r2, .int r3, .int r4])), (a7, .inl (T 0, 9, .inl (cI f3))), (a8, .inl (T 0, 9, .inl (cI f4))), (a10, .inl (T 0, 9, .inl (cI f5))), (a15, .inl (T 0, 9, .inl f6))] H locs := w
        refine r_iast (ws' := [(a0, .inr (3, [.ref a3, .ref a4, .ref a5, .int (iI x1), .int r0])), (a4, .inl (T 0, 9, .inl (upd ff3 (Int32.toNatClampNeg (iI z4)) (iI z24)))), (a5, .inl (T 0, 9, .inl (cI f2))), (a3, .inl (T 0, 9, .inl (cI ff1))), (a1, .inr (9, [.ref a6, .ref a7, .ref a8, .ref a9, .ref a10, .ref a11, .ref a12, .ref a13, .ref a14, .int (iI x1), .int (iI x2), .int (iI x3), .int (iI x4), .int (iI x5), .int (iI x6), .int (iI x7), .int (iI x8), .int (iI x9)])), (a2, .inr (7, [.ref a15, .ref a16, .ref a17, .ref a18, .int r1, .int r2, .int r3, .int r4])), (a7, .inl (T 0, 9, .inl (cI f3))), (a8, .inl (T 0, 9, .inl (cI f4))), (a10, .inl (T 0, 9, .inl (cI f5))), (a15, .inl (T 0, 9, .inl f6))]) M w 1 rfl (iI_in (by omega) (by omega) (by decide)) rfl dX3_find_37 (fun H locs w => ?_)
        refine lv_iinc (v := iI (z4 + 1)) (lv' := [(3, .int (iI (z4 + 1))), (0, .ref a0), (1, .ref a1), (2, .ref a2)]) hx hb dX3_find_38 hl (k := 0) rfl (ii_inc (by decide +kernel)) (by decide) rfl (fun ls hl => ?_)
        refine lv_goto (tgt := 18) hx hb dX3_find_41 (by decide) ?_
        exact ih1 (upd ff3 (Int32.toNatClampNeg (iI z4)) (iI z24)) (z4 + 1) _ _ _ (by omega) (by omega) (by omega) (w.sub [0, 4, 5, 1, 2, 6, 7, 8, 9, 3] (by decide) rfl) (lv_sub hl [0, 1, 2, 3] rfl)
  exact loop1 (((x1 - 0) : Int).toNat + 1) f1 0 _ _ _ (by decide) (by decide) (Nat.lt_succ_self _) w (lv_sub hl [0, 1, 2, 3] rfl)
set_option maxRecDepth 100000 in
set_option maxHeartbeats 4000000 in
theorem c359_X3_workLeft (l : Launch) (D : va_G) (T : Nat → ClassId) (sz : Nat) (a0 : Nat) (a1 : Nat) (a2 : Nat) (a3 : Nat) (a4 : Nat) (a5 : Nat) (x0 : Int) (r0 : Int32) (a6 : Nat) (a7 : Nat) (a8 : Nat) (a9 : Nat) (a10 : Nat) (a11 : Nat) (a12 : Nat) (a13 : Nat) (a14 : Nat) (x1 : Int) (x2 : Int) (x3 : Int) (x4 : Int) (x5 : Int) (x6 : Int) (x7 : Int) (x8 : Int) (x9 : Int) (a15 : Nat) (a16 : Nat) (a17 : Nat) (a18 : Nat) (r1 : Int32) (r2 : Int32) (r3 : Int32) (r4 : Int32) (f0 : Int → Int) (f1 : Int → Int) (x0_a : 0 ≤ x0) (x0_b : x0 ≤ 9) (x1_a : 0 ≤ x1) (x1_b : x1 ≤ 9) (x2_a : 0 ≤ x2) (x2_b : x2 ≤ 3) (x3_a : 0 ≤ x3) (x3_b : x3 ≤ 900) (x4_a : (-2147483648) ≤ x4) (x4_b : x4 ≤ 2147483647) (x5_a : (-2147483648) ≤ x5) (x5_b : x5 ≤ 2147483647) (x6_a : (-2147483648) ≤ x6) (x6_b : x6 ≤ 2147483647) (x7_a : 0 ≤ x7) (x7_b : x7 ≤ 1) (x8_a : 0 ≤ x8) (x8_b : x8 ≤ 1) (x9_a : 0 ≤ x9) (x9_b : x9 ≤ 1) (f0_h : rng (-1) 8 f0) (f1_h : rng (-1) 8 f1) : Met l yX3_workLeft (Cond.code yX3_workLeft cX3_workLeft 5 (some .int) :: GW) (Rm 0 0 0) (cPre [.ref a0, .ref a1, .ref a2] D T [(a0, .inr (3, [.ref a3, .ref a4, .ref a5, .int (iI x0), .int r0])), (a1, .inr (9, [.ref a6, .ref a7, .ref a8, .ref a9, .ref a10, .ref a11, .ref a12, .ref a13, .ref a14, .int (iI x1), .int (iI x2), .int (iI x3), .int (iI x4), .int (iI x5), .int (iI x6), .int (iI x7), .int (iI x8), .int (iI x9)])), (a2, .inr (7, [.ref a15, .ref a16, .ref a17, .ref a18, .int r1, .int r2, .int r3, .int r4])), (a3, .inl (T 0, 9, .inl (cI f0))), (a16, .inl (T 0, 9, .inl (cI f1)))] sz) (qI D [(a0, .inr (3, [.ref a3, .ref a4, .ref a5, .int (iI x0), .int r0])), (a1, .inr (9, [.ref a6, .ref a7, .ref a8, .ref a9, .ref a10, .ref a11, .ref a12, .ref a13, .ref a14, .int (iI x1), .int (iI x2), .int (iI x3), .int (iI x4), .int (iI x5), .int (iI x6), .int (iI x7), .int (iI x8), .int (iI x9)])), (a2, .inr (7, [.ref a15, .ref a16, .ref a17, .ref a18, .int r1, .int r2, .int r3, .int r4])), (a3, .inl (T 0, 9, .inl (cI f0))), (a16, .inl (T 0, 9, .inl (cI f1)))] sz (fun (v : Int32) (u : Int) => iI u = v ∧ (-2147483648) ≤ u ∧ u ≤ 2147483647) (fun u => [(a0, .inr (3, [.ref a3, .ref a4, .ref a5, .int (iI x0), .int r0])), (a1, .inr (9, [.ref a6, .ref a7, .ref a8, .ref a9, .ref a10, .ref a11, .ref a12, .ref a13, .ref a14, .int (iI x1), .int (iI x2), .int (iI x3), .int (iI x4), .int (iI x5), .int (iI x6), .int (iI x7), .int (iI x8), .int (iI x9)])), (a2, .inr (7, [.ref a15, .ref a16, .ref a17, .ref a18, .int r1, .int r2, .int r3, .int r4])), (a3, .inl (T 0, 9, .inl (cI f0))), (a16, .inl (T 0, 9, .inl (cI f1)))])) 0 0 (va_A [(a0, .inr (3, [.ref a3, .ref a4, .ref a5, .int (iI x0), .int r0])), (a1, .inr (9, [.ref a6, .ref a7, .ref a8, .ref a9, .ref a10, .ref a11, .ref a12, .ref a13, .ref a14, .int (iI x1), .int (iI x2), .int (iI x3), .int (iI x4), .int (iI x5), .int (iI x6), .int (iI x7), .int (iI x8), .int (iI x9)])), (a2, .inr (7, [.ref a15, .ref a16, .ref a17, .ref a18, .int r1, .int r2, .int r3, .int r4])), (a3, .inl (T 0, 9, .inl (cI f0))), (a16, .inl (T 0, 9, .inl (cI f1)))] sz) := by
  refine e_I (by decide) (Nat.le_of_ble_eq_true rfl) ?_
  intro p e s m args below meth c A Q ls M hin w ret hl
  have hx := M.1.1
  have hb := M.1.2.1
  have hl : lv_has ls 5 [(0, .ref a0), (1, .ref a1), (2, .ref a2)] := hl
  refine lv_iconst (v := iI 0) hx hb dX3_workLeft_0 (by decide +kernel) ?_
  refine lv_istore_n (lv' := [(3, .int (iI 0)), (0, .ref a0), (1, .ref a1), (2, .ref a2)]) hx hb dX3_workLeft_1 rfl hl (by decide) rfl (fun ls hl => ?_)
  refine lv_iconst (v := iI 0) hx hb dX3_workLeft_2 (by decide +kernel) ?_
  refine lv_istore (lv' := [(4, .int (iI 0)), (3, .int (iI 0)), (0, .ref a0), (1, .ref a1), (2, .ref a2)]) hx hb dX3_workLeft_3 hl (by decide) rfl (fun ls hl => ?_)
  have loop1 : ∀ (k1 : Nat) (z1 : Int) (z2 : Int) (H : Heap) (locs : List Loc) (ls : Array Slot), 0 ≤ z1 → z1 ≤ 9 → (-2147483648) ≤ z2 → z2 ≤ 2147483647 → ((x1 - z1) : Int).toNat < k1 → WD D A s.heap [(a0, .inr (3, [.ref a3, .ref a4, .ref a5, .int (iI x0), .int r0])), (a1, .inr (9, [.ref a6, .ref a7, .ref a8, .ref a9, .ref a10, .ref a11, .ref a12, .ref a13, .ref a14, .int (iI x1), .int (iI x2), .int (iI x3), .int (iI x4), .int (iI x5), .int (iI x6), .int (iI x7), .int (iI x8), .int (iI x9)])), (a2, .inr (7, [.ref a15, .ref a16, .ref a17, .ref a18, .int r1, .int r2, .int r3, .int r4])), (a3, .inl (T 0, 9, .inl (cI f0))), (a16, .inl (T 0, 9, .inl (cI f1)))] H locs → lv_has ls 5 [(4, .int (iI z1)), (3, .int (iI z2)), (0, .ref a0), (1, .ref a1), (2, .ref a2)] → W p l e (Rm 0 0 0) s m args below meth c H locs 0 0 Q (F0 m 5 ls []) := by
    intro k1
    induction k1 with
    | zero => intro z1 z2 H locs ls z1_a z1_b z2_a z2_b hm; exact absurd hm (Nat.not_lt_zero _)
    | succ k1 ih1 =>
      intro z1 z2 H locs ls z1_a z1_b z2_a z2_b hm1 w hl
      refine lv_iload hx hb dX3_workLeft_5 (lv_at hl 0 rfl) ?_
      refine lv_aload_n hx hb dX3_workLeft_7 rfl (lv_at hl 3 rfl) ?_
      refine r_getN (v := .int (iI x1)) M w 1 9 clX9 rfl (by decide) N388 rfl rfl dX3_workLeft_8 ?_
      refine lv_icmp_ge (tgt := 75) hx hb dX3_workLeft_11 (by decide) (fun c_3 => ?_) (fun c_3 => ?_)
      · replace c_3 := (iI_le (Int.le_trans (by decide) x1_a) (Int.le_trans x1_b (by decide)) (Int.le_trans (by decide) z1_a) (Int.le_trans z1_b (by decide))).mp c_3
        refine lv_iload_n hx hb dX3_workLeft_75 rfl (lv_at hl 1 rfl) ?_
        exact ret _ z2 _ _ _ _ _ [0, 1, 2, 3, 4] dX3_workLeft_76 ⟨rfl, z2_a, z2_b⟩ w (by decide) rfl
      · replace c_3 : z1 < x1 := Int.not_le.mp (fun h => c_3 ((iI_le (Int.le_trans (by decide) x1_a) (Int.le_trans x1_b (by decide)) (Int.le_trans (by decide) z1_a) (Int.le_trans z1_b (by decide))).mpr h))
        refine lv_aload_n hx hb dX3_workLeft_14 rfl (lv_at hl 4 rfl) ?_
        refine r_getN (v := .ref a16) M w 2 1 clX7 rfl (by decide) N223 rfl rfl dX3_workLeft_15 ?_
        refine lv_iload hx hb dX3_workLeft_18 (lv_at hl 0 rfl) ?_
        refine r_iald (v := iI (f1 z1)) M w 4 rfl (iI_in (by omega) (by omega) (by decide)) (cI_at (by omega) (by omega)) dX3_workLeft_20 ?_
        have hh4 : (-1) ≤ (f1 z1) ∧ (f1 z1) ≤ 8 := f1_h z1
        refine lv_aload_n hx hb dX3_workLeft_21 rfl (lv_at hl 2 rfl) ?_
        refine r_get (v := .ref a3) M w 0 0 clX3 rfl (by decide) G292 rfl rfl dX3_workLeft_22 ?_
        refine lv_iload hx hb dX3_workLeft_25 (lv_at hl 0 rfl) ?_
        refine r_iald (v := iI (f0 z1)) M w 3 rfl (iI_in (by omega) (by omega) (by decide)) (cI_at (by omega) (by omega)) dX3_workLeft_27 ?_
        have hh5 : (-1) ≤ (f0 z1) ∧ (f0 z1) ≤ 8 := f0_h z1
        refine lv_icmp_eq (tgt := 69) hx hb dX3_workLeft_28 (by decide) (fun c_6 => ?_) (fun c_6 => ?_)
        · replace c_6 := (iI_eq (by omega) (by omega) (by omega) (by omega)).mp c_6
          refine lv_iinc (v := iI (z1 + 1)) (lv' := [(4, .int (iI (z1 + 1))), (3, .int (iI z2)), (0, .ref a0), (1, .ref a1), (2, .ref a2)]) hx hb dX3_workLeft_69 hl (k := 0) rfl (ii_inc (by decide +kernel)) (by decide) rfl (fun ls hl => ?_)
          refine lv_goto (tgt := 5) hx hb dX3_workLeft_72 (by decide) ?_
          exact ih1 (z1 + 1) z2 _ _ _ (by omega) (by omega) z2_a z2_b (by omega) w (lv_sub hl [0, 1, 2, 3, 4] rfl)
        · replace c_6 : ¬ (f1 z1) = (f0 z1) := fun h => c_6 ((iI_eq (by omega) (by omega) (by omega) (by omega)).mpr h)
          refine lv_iload_n hx hb dX3_workLeft_31 rfl (lv_at hl 1 rfl) ?_
          refine lv_aload_n hx hb dX3_workLeft_32 rfl (lv_at hl 4 rfl) ?_
          refine r_getN (v := .ref a16) M w 2 1 clX7 rfl (by decide) N223 rfl rfl dX3_workLeft_33 ?_
          refine lv_iload hx hb dX3_workLeft_36 (lv_at hl 0 rfl) ?_
          refine r_iald (v := iI (f1 z1)) M w 4 rfl (iI_in (by omega) (by omega) (by decide)) (cI_at (by omega) (by omega)) dX3_workLeft_38 ?_
          have hh7 : (-1) ≤ (f1 z1) ∧ (f1 z1) ≤ 8 := f1_h z1
          refine lv_iconst (v := iI (-1)) hx hb dX3_workLeft_39 (by decide +kernel) ?_
          refine lv_icmp_eq (tgt := 47) hx hb dX3_workLeft_40 (by decide) (fun c_8 => ?_) (fun c_8 => ?_)
          · replace c_8 := (iI_eq (by omega) (by omega) (by decide) (by decide)).mp c_8
            refine lv_iconst (v := iI 0) hx hb dX3_workLeft_47 (by decide +kernel) ?_
            refine r_iadd (v := iI (z2 + 0)) M (iI_add _ _) dX3_workLeft_48 ?_
            refine lv_istore_n (lv' := [(3, .int (iI (z2 + 0))), (4, .int (iI z1)), (0, .ref a0), (1, .ref a1), (2, .ref a2)]) hx hb dX3_workLeft_49 rfl hl (by decide) rfl (fun ls hl => ?_)
            refine lv_iload_n hx hb dX3_workLeft_50 rfl (lv_at hl 0 rfl) ?_
            refine lv_aload_n hx hb dX3_workLeft_51 rfl (lv_at hl 2 rfl) ?_
            refine r_get (v := .ref a3) M w 0 0 clX3 rfl (by decide) G292 rfl rfl dX3_workLeft_52 ?_
            refine lv_iload hx hb dX3_workLeft_55 (lv_at hl 1 rfl) ?_
            refine r_iald (v := iI (f0 z1)) M w 3 rfl (iI_in (by omega) (by omega) (by decide)) (cI_at (by omega) (by omega)) dX3_workLeft_57 ?_
            have hh9 : (-1) ≤ (f0 z1) ∧ (f0 z1) ≤ 8 := f0_h z1
            refine lv_iconst (v := iI (-1)) hx hb dX3_workLeft_58 (by decide +kernel) ?_
            refine lv_icmp_eq (tgt := 66) hx hb dX3_workLeft_59 (by decide) (fun c_10 => ?_) (fun c_10 => ?_)
            · replace c_10 := (iI_eq (by omega) (by omega) (by decide) (by decide)).mp c_10
              refine lv_iconst (v := iI 0) hx hb dX3_workLeft_66 (by decide +kernel) ?_
              refine r_iadd (v := iI ((z2 + 0) + 0)) M (iI_add _ _) dX3_workLeft_67 ?_
              refine lv_istore_n (lv' := [(3, .int (iI ((z2 + 0) + 0))), (4, .int (iI z1)), (0, .ref a0), (1, .ref a1), (2, .ref a2)]) hx hb dX3_workLeft_68 rfl hl (by decide) rfl (fun ls hl => ?_)
              refine lv_iinc (v := iI (z1 + 1)) (lv' := [(4, .int (iI (z1 + 1))), (3, .int (iI ((z2 + 0) + 0))), (0, .ref a0), (1, .ref a1), (2, .ref a2)]) hx hb dX3_workLeft_69 hl (k := 1) rfl (ii_inc (by decide +kernel)) (by decide) rfl (fun ls hl => ?_)
              refine lv_goto (tgt := 5) hx hb dX3_workLeft_72 (by decide) ?_
              exact ih1 (z1 + 1) ((z2 + 0) + 0) _ _ _ (by omega) (by omega) (by omega) (by omega) (by omega) w (lv_sub hl [0, 1, 2, 3, 4] rfl)
            · replace c_10 : ¬ (f0 z1) = (-1) := fun h => c_10 ((iI_eq (by omega) (by omega) (by decide) (by decide)).mpr h)
              refine lv_iconst (v := iI 1) hx hb dX3_workLeft_62 (by decide +kernel) ?_
              refine lv_goto (tgt := 67) hx hb dX3_workLeft_63 (by decide) ?_
              refine r_iadd (v := _) M rfl dX3_workLeft_67 ?_
              refine b_any (fun z11 z11_a z11_b => ?_)
              refine lv_istore_n (lv' := [(3, .int (iI z11)), (4, .int (iI z1)), (0, .ref a0), (1, .ref a1), (2, .ref a2)]) hx hb dX3_workLeft_68 rfl hl (by decide) rfl (fun ls hl => ?_)
              refine lv_iinc (v := iI (z1 + 1)) (lv' := [(4, .int (iI (z1 + 1))), (3, .int (iI z11)), (0, .ref a0), (1, .ref a1), (2, .ref a2)]) hx hb dX3_workLeft_69 hl (k := 1) rfl (ii_inc (by decide +kernel)) (by decide) rfl (fun ls hl => ?_)
              refine lv_goto (tgt := 5) hx hb dX3_workLeft_72 (by decide) ?_
              exact ih1 (z1 + 1) z11 _ _ _ (by omega) (by omega) z11_a z11_b (by omega) w (lv_sub hl [0, 1, 2, 3, 4] rfl)
          · replace c_8 : ¬ (f1 z1) = (-1) := fun h => c_8 ((iI_eq (by omega) (by omega) (by decide) (by decide)).mpr h)
            refine lv_iconst (v := iI 1) hx hb dX3_workLeft_43 (by decide +kernel) ?_
            refine lv_goto (tgt := 48) hx hb dX3_workLeft_44 (by decide) ?_
            refine r_iadd (v := _) M rfl dX3_workLeft_48 ?_
            refine b_any (fun z12 z12_a z12_b => ?_)
            refine lv_istore_n (lv' := [(3, .int (iI z12)), (4, .int (iI z1)), (0, .ref a0), (1, .ref a1), (2, .ref a2)]) hx hb dX3_workLeft_49 rfl hl (by decide) rfl (fun ls hl => ?_)
            refine lv_iload_n hx hb dX3_workLeft_50 rfl (lv_at hl 0 rfl) ?_
            refine lv_aload_n hx hb dX3_workLeft_51 rfl (lv_at hl 2 rfl) ?_
            refine r_get (v := .ref a3) M w 0 0 clX3 rfl (by decide) G292 rfl rfl dX3_workLeft_52 ?_
            refine lv_iload hx hb dX3_workLeft_55 (lv_at hl 1 rfl) ?_
            refine r_iald (v := iI (f0 z1)) M w 3 rfl (iI_in (by omega) (by omega) (by decide)) (cI_at (by omega) (by omega)) dX3_workLeft_57 ?_
            have hh13 : (-1) ≤ (f0 z1) ∧ (f0 z1) ≤ 8 := f0_h z1
            refine lv_iconst (v := iI (-1)) hx hb dX3_workLeft_58 (by decide +kernel) ?_
            refine lv_icmp_eq (tgt := 66) hx hb dX3_workLeft_59 (by decide) (fun c_14 => ?_) (fun c_14 => ?_)
            · replace c_14 := (iI_eq (by omega) (by omega) (by decide) (by decide)).mp c_14
              refine lv_iconst (v := iI 0) hx hb dX3_workLeft_66 (by decide +kernel) ?_
              refine r_iadd (v := iI (z12 + 0)) M (iI_add _ _) dX3_workLeft_67 ?_
              refine lv_istore_n (lv' := [(3, .int (iI (z12 + 0))), (4, .int (iI z1)), (0, .ref a0), (1, .ref a1), (2, .ref a2)]) hx hb dX3_workLeft_68 rfl hl (by decide) rfl (fun ls hl => ?_)
              refine lv_iinc (v := iI (z1 + 1)) (lv' := [(4, .int (iI (z1 + 1))), (3, .int (iI (z12 + 0))), (0, .ref a0), (1, .ref a1), (2, .ref a2)]) hx hb dX3_workLeft_69 hl (k := 1) rfl (ii_inc (by decide +kernel)) (by decide) rfl (fun ls hl => ?_)
              refine lv_goto (tgt := 5) hx hb dX3_workLeft_72 (by decide) ?_
              exact ih1 (z1 + 1) (z12 + 0) _ _ _ (by omega) (by omega) (by omega) (by omega) (by omega) w (lv_sub hl [0, 1, 2, 3, 4] rfl)
            · replace c_14 : ¬ (f0 z1) = (-1) := fun h => c_14 ((iI_eq (by omega) (by omega) (by decide) (by decide)).mpr h)
              refine lv_iconst (v := iI 1) hx hb dX3_workLeft_62 (by decide +kernel) ?_
              refine lv_goto (tgt := 67) hx hb dX3_workLeft_63 (by decide) ?_
              refine r_iadd (v := _) M rfl dX3_workLeft_67 ?_
              refine b_any (fun z15 z15_a z15_b => ?_)
              refine lv_istore_n (lv' := [(3, .int (iI z15)), (4, .int (iI z1)), (0, .ref a0), (1, .ref a1), (2, .ref a2)]) hx hb dX3_workLeft_68 rfl hl (by decide) rfl (fun ls hl => ?_)
              refine lv_iinc (v := iI (z1 + 1)) (lv' := [(4, .int (iI (z1 + 1))), (3, .int (iI z15)), (0, .ref a0), (1, .ref a1), (2, .ref a2)]) hx hb dX3_workLeft_69 hl (k := 1) rfl (ii_inc (by decide +kernel)) (by decide) rfl (fun ls hl => ?_)
              refine lv_goto (tgt := 5) hx hb dX3_workLeft_72 (by decide) ?_
              exact ih1 (z1 + 1) z15 _ _ _ (by omega) (by omega) z15_a z15_b (by omega) w (lv_sub hl [0, 1, 2, 3, 4] rfl)
  exact loop1 (((x1 - 0) : Int).toNat + 1) 0 0 _ _ _ (by decide) (by decide) (by decide) (by decide) (Nat.lt_succ_self _) w (lv_sub hl [0, 1, 2, 3, 4] rfl)
