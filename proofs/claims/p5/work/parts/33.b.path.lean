theorem dX4_besides_0 : decode cX4_besides 0 = .ok (.iconst 0, 1) := by decide +kernel
theorem dX4_besides_1 : decode cX4_besides 1 = .ok (.istore_n 2, 1) := by decide +kernel
theorem dX4_besides_2 : decode cX4_besides 2 = .ok (.iconst 0, 1) := by decide +kernel
theorem dX4_besides_3 : decode cX4_besides 3 = .ok (.istore_n 3, 1) := by decide +kernel
theorem dX4_besides_4 : decode cX4_besides 4 = .ok (.iload_n 3, 1) := by decide +kernel
theorem dX4_besides_5 : decode cX4_besides 5 = .ok (.aload_n 0, 1) := by decide +kernel
theorem dX4_besides_6 : decode cX4_besides 6 = .ok (.getfield 39, 3) := by decide +kernel
theorem N389 : Cond.fieldLinkNest "HookedCity$Path" 39 "HookedCity$Town" "persons" "I" "HookedCity" ∈ lw_tbl := List.mem_of_getElem? (i := 389) (by decide +kernel)
theorem dX4_besides_9 : decode cX4_besides 9 = .ok (.if_icmp .ge 30, 3) := by decide +kernel
theorem dX4_besides_39 : decode cX4_besides 39 = .ok (.iload_n 2, 1) := by decide +kernel
theorem dX4_besides_40 : decode cX4_besides 40 = .ok (.ireturn, 1) := by decide +kernel
theorem dX4_besides_12 : decode cX4_besides 12 = .ok (.iload_n 2, 1) := by decide +kernel
theorem dX4_besides_13 : decode cX4_besides 13 = .ok (.iload_n 1, 1) := by decide +kernel
theorem dX4_besides_14 : decode cX4_besides 14 = .ok (.iload_n 3, 1) := by decide +kernel
theorem dX4_besides_15 : decode cX4_besides 15 = .ok (.ishr, 1) := by decide +kernel
theorem dX4_besides_16 : decode cX4_besides 16 = .ok (.iconst 1, 1) := by decide +kernel
theorem dX4_besides_17 : decode cX4_besides 17 = .ok (.iand, 1) := by decide +kernel
theorem dX4_besides_18 : decode cX4_besides 18 = .ok (.ifCond .eq 12, 3) := by decide +kernel
theorem dX4_besides_30 : decode cX4_besides 30 = .ok (.iconst 0, 1) := by decide +kernel
theorem dX4_besides_31 : decode cX4_besides 31 = .ok (.ior, 1) := by decide +kernel
theorem dX4_besides_32 : decode cX4_besides 32 = .ok (.istore_n 2, 1) := by decide +kernel
theorem dX4_besides_33 : decode cX4_besides 33 = .ok (.iinc 3 1, 3) := by decide +kernel
theorem dX4_besides_36 : decode cX4_besides 36 = .ok (.goto (-32), 3) := by decide +kernel
theorem dX4_besides_21 : decode cX4_besides 21 = .ok (.aload_n 0, 1) := by decide +kernel
theorem dX4_besides_22 : decode cX4_besides 22 = .ok (.getfield 26, 3) := by decide +kernel
theorem N376 : Cond.fieldLinkNest "HookedCity$Path" 26 "HookedCity$Town" "streets" "[I" "HookedCity" ∈ lw_tbl := List.mem_of_getElem? (i := 376) (by decide +kernel)
theorem dX4_besides_25 : decode cX4_besides 25 = .ok (.iload_n 3, 1) := by decide +kernel
theorem dX4_besides_26 : decode cX4_besides 26 = .ok (.iaload, 1) := by decide +kernel
theorem dX4_besides_27 : decode cX4_besides 27 = .ok (.goto 4, 3) := by decide +kernel
theorem dX4_layersUpTo_0 : decode cX4_layersUpTo 0 = .ok (.iconst 0, 1) := by decide +kernel
theorem dX4_layersUpTo_1 : decode cX4_layersUpTo 1 = .ok (.istore 4, 2) := by decide +kernel
theorem dX4_layersUpTo_3 : decode cX4_layersUpTo 3 = .ok (.iconst 1, 1) := by decide +kernel
theorem dX4_layersUpTo_4 : decode cX4_layersUpTo 4 = .ok (.iload_n 3, 1) := by decide +kernel
theorem dX4_layersUpTo_5 : decode cX4_layersUpTo 5 = .ok (.ishl, 1) := by decide +kernel
theorem dX4_layersUpTo_6 : decode cX4_layersUpTo 6 = .ok (.istore 5, 2) := by decide +kernel
theorem dX4_layersUpTo_8 : decode cX4_layersUpTo 8 = .ok (.iconst 0, 1) := by decide +kernel
theorem dX4_layersUpTo_9 : decode cX4_layersUpTo 9 = .ok (.istore 6, 2) := by decide +kernel
theorem dX4_layersUpTo_11 : decode cX4_layersUpTo 11 = .ok (.iload 6, 2) := by decide +kernel
theorem dX4_layersUpTo_13 : decode cX4_layersUpTo 13 = .ok (.bipush 9, 2) := by decide +kernel
theorem dX4_layersUpTo_15 : decode cX4_layersUpTo 15 = .ok (.if_icmp .ge 55, 3) := by decide +kernel
theorem dX4_layersUpTo_70 : decode cX4_layersUpTo 70 = .ok (.iconst (-1), 1) := by decide +kernel
theorem dX4_layersUpTo_71 : decode cX4_layersUpTo 71 = .ok (.ireturn, 1) := by decide +kernel
theorem dX4_layersUpTo_18 : decode cX4_layersUpTo 18 = .ok (.iload 5, 2) := by decide +kernel
theorem dX4_layersUpTo_20 : decode cX4_layersUpTo 20 = .ok (.ifCond .eq 50, 3) := by decide +kernel
theorem dX4_layersUpTo_23 : decode cX4_layersUpTo 23 = .ok (.aload_n 0, 1) := by decide +kernel
theorem dX4_layersUpTo_24 : decode cX4_layersUpTo 24 = .ok (.getfield 15, 3) := by decide +kernel
theorem G332 : Cond.fieldLink "HookedCity$Path" 15 "HookedCity$Path" "layers" "[I" ∈ GW := gw_i 332 (by decide +kernel) rfl
theorem dX4_layersUpTo_27 : decode cX4_layersUpTo 27 = .ok (.iload 6, 2) := by decide +kernel
theorem dX4_layersUpTo_29 : decode cX4_layersUpTo 29 = .ok (.iload 5, 2) := by decide +kernel
theorem dX4_layersUpTo_31 : decode cX4_layersUpTo 31 = .ok (.iastore, 1) := by decide +kernel
theorem dX4_layersUpTo_32 : decode cX4_layersUpTo 32 = .ok (.iload 5, 2) := by decide +kernel
theorem dX4_layersUpTo_34 : decode cX4_layersUpTo 34 = .ok (.iload_n 2, 1) := by decide +kernel
theorem dX4_layersUpTo_35 : decode cX4_layersUpTo 35 = .ok (.ishr, 1) := by decide +kernel
theorem dX4_layersUpTo_36 : decode cX4_layersUpTo 36 = .ok (.iconst 1, 1) := by decide +kernel
theorem dX4_layersUpTo_37 : decode cX4_layersUpTo 37 = .ok (.iand, 1) := by decide +kernel
theorem dX4_layersUpTo_38 : decode cX4_layersUpTo 38 = .ok (.ifCond .eq 6, 3) := by decide +kernel
theorem dX4_layersUpTo_44 : decode cX4_layersUpTo 44 = .ok (.iload 4, 2) := by decide +kernel
theorem dX4_layersUpTo_46 : decode cX4_layersUpTo 46 = .ok (.iload 5, 2) := by decide +kernel
theorem dX4_layersUpTo_48 : decode cX4_layersUpTo 48 = .ok (.ior, 1) := by decide +kernel
theorem dX4_layersUpTo_49 : decode cX4_layersUpTo 49 = .ok (.istore 4, 2) := by decide +kernel
theorem dX4_layersUpTo_51 : decode cX4_layersUpTo 51 = .ok (.aload_n 1, 1) := by decide +kernel
theorem dX4_layersUpTo_52 : decode cX4_layersUpTo 52 = .ok (.iload 5, 2) := by decide +kernel
theorem dX4_layersUpTo_54 : decode cX4_layersUpTo 54 = .ok (.invokestatic 35, 3) := by decide +kernel
theorem G1051 : Cond.code ⟨"HookedCity$Path", "besides", "(LHookedCity$Town;I)I"⟩ prog_6_method_4_code 4 (some .int) ∈ GW := gw_i 1051 (by decide +kernel) rfl
theorem G1049 : Cond.methodLink "HookedCity$Path" 35 ⟨"HookedCity$Path", "besides", "(LHookedCity$Town;I)I"⟩ ∈ GW := gw_i 1049 (by decide +kernel) rfl
theorem G126 : Cond.initialized "HookedCity$Path" ∈ GW := gw_i 126 (by decide +kernel) rfl
theorem V_HookedCity_Path_35 : VL "HookedCity$Path" 35 yX4_besides cX4_besides 4 (some .int) 2 := ⟨G1051, G1049, G126, by decide +kernel, by decide +kernel, by decide +kernel⟩
theorem G1050 : Cond.static ⟨"HookedCity$Path", "besides", "(LHookedCity$Town;I)I"⟩ ∈ GW := gw_i 1050 (by decide +kernel) rfl
theorem dX4_layersUpTo_57 : decode cX4_layersUpTo 57 = .ok (.iload 4, 2) := by decide +kernel
theorem dX4_layersUpTo_59 : decode cX4_layersUpTo 59 = .ok (.iconst (-1), 1) := by decide +kernel
theorem dX4_layersUpTo_60 : decode cX4_layersUpTo 60 = .ok (.ixor, 1) := by decide +kernel
theorem dX4_layersUpTo_61 : decode cX4_layersUpTo 61 = .ok (.iand, 1) := by decide +kernel
theorem dX4_layersUpTo_62 : decode cX4_layersUpTo 62 = .ok (.istore 5, 2) := by decide +kernel
theorem dX4_layersUpTo_64 : decode cX4_layersUpTo 64 = .ok (.iinc 6 1, 3) := by decide +kernel
theorem dX4_layersUpTo_67 : decode cX4_layersUpTo 67 = .ok (.goto (-56), 3) := by decide +kernel
theorem dX4_layersUpTo_41 : decode cX4_layersUpTo 41 = .ok (.iload 6, 2) := by decide +kernel
theorem dX4_layersUpTo_43 : decode cX4_layersUpTo 43 = .ok (.ireturn, 1) := by decide +kernel
theorem dJ6_numberOfTrailingZeros_0f7a4_0 : decode cJ6_numberOfTrailingZeros_0f7a4 0 = .ok (.iload_n 0, 1) := by decide +kernel
theorem dJ6_numberOfTrailingZeros_0f7a4_1 : decode cJ6_numberOfTrailingZeros_0f7a4 1 = .ok (.iconst (-1), 1) := by decide +kernel
theorem dJ6_numberOfTrailingZeros_0f7a4_2 : decode cJ6_numberOfTrailingZeros_0f7a4 2 = .ok (.ixor, 1) := by decide +kernel
theorem dJ6_numberOfTrailingZeros_0f7a4_3 : decode cJ6_numberOfTrailingZeros_0f7a4 3 = .ok (.iload_n 0, 1) := by decide +kernel
theorem dJ6_numberOfTrailingZeros_0f7a4_4 : decode cJ6_numberOfTrailingZeros_0f7a4 4 = .ok (.iconst 1, 1) := by decide +kernel
theorem dJ6_numberOfTrailingZeros_0f7a4_5 : decode cJ6_numberOfTrailingZeros_0f7a4 5 = .ok (.isub, 1) := by decide +kernel
theorem dJ6_numberOfTrailingZeros_0f7a4_6 : decode cJ6_numberOfTrailingZeros_0f7a4 6 = .ok (.iand, 1) := by decide +kernel
theorem dJ6_numberOfTrailingZeros_0f7a4_7 : decode cJ6_numberOfTrailingZeros_0f7a4 7 = .ok (.istore_n 0, 1) := by decide +kernel
theorem dJ6_numberOfTrailingZeros_0f7a4_8 : decode cJ6_numberOfTrailingZeros_0f7a4 8 = .ok (.iload_n 0, 1) := by decide +kernel
theorem dJ6_numberOfTrailingZeros_0f7a4_9 : decode cJ6_numberOfTrailingZeros_0f7a4 9 = .ok (.ifCond .gt 8, 3) := by decide +kernel
theorem dJ6_numberOfTrailingZeros_0f7a4_17 : decode cJ6_numberOfTrailingZeros_0f7a4 17 = .ok (.iconst 1, 1) := by decide +kernel
theorem dJ6_numberOfTrailingZeros_0f7a4_18 : decode cJ6_numberOfTrailingZeros_0f7a4 18 = .ok (.istore_n 1, 1) := by decide +kernel
theorem dJ6_numberOfTrailingZeros_0f7a4_19 : decode cJ6_numberOfTrailingZeros_0f7a4 19 = .ok (.iload_n 0, 1) := by decide +kernel
theorem dJ6_numberOfTrailingZeros_0f7a4_20 : decode cJ6_numberOfTrailingZeros_0f7a4 20 = .ok (.ldc_w 264, 3) := by decide +kernel
theorem G1015 : Cond.constant "java/lang/Integer" 264 65536 ∈ GW := gw_i 1015 (by decide +kernel) rfl
theorem dJ6_numberOfTrailingZeros_0f7a4_23 : decode cJ6_numberOfTrailingZeros_0f7a4 23 = .ok (.if_icmp .le 11, 3) := by decide +kernel
theorem dJ6_numberOfTrailingZeros_0f7a4_34 : decode cJ6_numberOfTrailingZeros_0f7a4 34 = .ok (.iload_n 0, 1) := by decide +kernel
theorem dJ6_numberOfTrailingZeros_0f7a4_35 : decode cJ6_numberOfTrailingZeros_0f7a4 35 = .ok (.sipush 256, 3) := by decide +kernel
theorem dJ6_numberOfTrailingZeros_0f7a4_38 : decode cJ6_numberOfTrailingZeros_0f7a4 38 = .ok (.if_icmp .le 11, 3) := by decide +kernel
theorem dJ6_numberOfTrailingZeros_0f7a4_49 : decode cJ6_numberOfTrailingZeros_0f7a4 49 = .ok (.iload_n 0, 1) := by decide +kernel
theorem dJ6_numberOfTrailingZeros_0f7a4_50 : decode cJ6_numberOfTrailingZeros_0f7a4 50 = .ok (.bipush 16, 2) := by decide +kernel
theorem dJ6_numberOfTrailingZeros_0f7a4_52 : decode cJ6_numberOfTrailingZeros_0f7a4 52 = .ok (.if_icmp .le 10, 3) := by decide +kernel
theorem dJ6_numberOfTrailingZeros_0f7a4_62 : decode cJ6_numberOfTrailingZeros_0f7a4 62 = .ok (.iload_n 0, 1) := by decide +kernel
theorem dJ6_numberOfTrailingZeros_0f7a4_63 : decode cJ6_numberOfTrailingZeros_0f7a4 63 = .ok (.iconst 4, 1) := by decide +kernel
theorem dJ6_numberOfTrailingZeros_0f7a4_64 : decode cJ6_numberOfTrailingZeros_0f7a4 64 = .ok (.if_icmp .le 10, 3) := by decide +kernel
theorem dJ6_numberOfTrailingZeros_0f7a4_74 : decode cJ6_numberOfTrailingZeros_0f7a4 74 = .ok (.iload_n 1, 1) := by decide +kernel
theorem dJ6_numberOfTrailingZeros_0f7a4_75 : decode cJ6_numberOfTrailingZeros_0f7a4 75 = .ok (.iload_n 0, 1) := by decide +kernel
theorem dJ6_numberOfTrailingZeros_0f7a4_76 : decode cJ6_numberOfTrailingZeros_0f7a4 76 = .ok (.iconst 1, 1) := by decide +kernel
theorem dJ6_numberOfTrailingZeros_0f7a4_77 : decode cJ6_numberOfTrailingZeros_0f7a4 77 = .ok (.iushr, 1) := by decide +kernel
theorem dJ6_numberOfTrailingZeros_0f7a4_78 : decode cJ6_numberOfTrailingZeros_0f7a4 78 = .ok (.iadd, 1) := by decide +kernel
theorem dJ6_numberOfTrailingZeros_0f7a4_79 : decode cJ6_numberOfTrailingZeros_0f7a4 79 = .ok (.ireturn, 1) := by decide +kernel
theorem dJ6_numberOfTrailingZeros_0f7a4_67 : decode cJ6_numberOfTrailingZeros_0f7a4 67 = .ok (.iinc 1 2, 3) := by decide +kernel
theorem dJ6_numberOfTrailingZeros_0f7a4_70 : decode cJ6_numberOfTrailingZeros_0f7a4 70 = .ok (.iload_n 0, 1) := by decide +kernel
theorem dJ6_numberOfTrailingZeros_0f7a4_71 : decode cJ6_numberOfTrailingZeros_0f7a4 71 = .ok (.iconst 2, 1) := by decide +kernel
theorem dJ6_numberOfTrailingZeros_0f7a4_72 : decode cJ6_numberOfTrailingZeros_0f7a4 72 = .ok (.iushr, 1) := by decide +kernel
theorem dJ6_numberOfTrailingZeros_0f7a4_73 : decode cJ6_numberOfTrailingZeros_0f7a4 73 = .ok (.istore_n 0, 1) := by decide +kernel
theorem dJ6_numberOfTrailingZeros_0f7a4_55 : decode cJ6_numberOfTrailingZeros_0f7a4 55 = .ok (.iinc 1 4, 3) := by decide +kernel
theorem dJ6_numberOfTrailingZeros_0f7a4_58 : decode cJ6_numberOfTrailingZeros_0f7a4 58 = .ok (.iload_n 0, 1) := by decide +kernel
theorem dJ6_numberOfTrailingZeros_0f7a4_59 : decode cJ6_numberOfTrailingZeros_0f7a4 59 = .ok (.iconst 4, 1) := by decide +kernel
theorem dJ6_numberOfTrailingZeros_0f7a4_60 : decode cJ6_numberOfTrailingZeros_0f7a4 60 = .ok (.iushr, 1) := by decide +kernel
theorem dJ6_numberOfTrailingZeros_0f7a4_61 : decode cJ6_numberOfTrailingZeros_0f7a4 61 = .ok (.istore_n 0, 1) := by decide +kernel
theorem dJ6_numberOfTrailingZeros_0f7a4_12 : decode cJ6_numberOfTrailingZeros_0f7a4 12 = .ok (.iload_n 0, 1) := by decide +kernel
theorem dJ6_numberOfTrailingZeros_0f7a4_13 : decode cJ6_numberOfTrailingZeros_0f7a4 13 = .ok (.bipush 32, 2) := by decide +kernel
theorem dJ6_numberOfTrailingZeros_0f7a4_15 : decode cJ6_numberOfTrailingZeros_0f7a4 15 = .ok (.iand, 1) := by decide +kernel
theorem dJ6_numberOfTrailingZeros_0f7a4_16 : decode cJ6_numberOfTrailingZeros_0f7a4 16 = .ok (.ireturn, 1) := by decide +kernel
theorem dX4_firstOf_0 : decode cX4_firstOf 0 = .ok (.iload_n 0, 1) := by decide +kernel
theorem dX4_firstOf_1 : decode cX4_firstOf 1 = .ok (.ifCond .ne 7, 3) := by decide +kernel
theorem dX4_firstOf_8 : decode cX4_firstOf 8 = .ok (.iload_n 0, 1) := by decide +kernel
theorem dX4_firstOf_9 : decode cX4_firstOf 9 = .ok (.invokestatic 42, 3) := by decide +kernel
theorem G1014 : Cond.code ⟨"java/lang/Integer", "numberOfTrailingZeros", "(I)I"⟩ prog_21_method_48_code 2 (some .int) ∈ GW := gw_i 1014 (by decide +kernel) rfl
theorem G1055 : Cond.methodLink "HookedCity$Path" 42 ⟨"java/lang/Integer", "numberOfTrailingZeros", "(I)I"⟩ ∈ GW := gw_i 1055 (by decide +kernel) rfl
theorem G145 : Cond.initialized "java/lang/Integer" ∈ GW := gw_i 145 (by decide +kernel) rfl
theorem V_HookedCity_Path_42 : VL "HookedCity$Path" 42 yJ6_numberOfTrailingZeros_0f7a4 cJ6_numberOfTrailingZeros_0f7a4 2 (some .int) 1 := ⟨G1014, G1055, G145, by decide +kernel, by decide +kernel, by decide +kernel⟩
theorem G1013 : Cond.static ⟨"java/lang/Integer", "numberOfTrailingZeros", "(I)I"⟩ ∈ GW := gw_i 1013 (by decide +kernel) rfl
theorem dX4_firstOf_12 : decode cX4_firstOf 12 = .ok (.ireturn, 1) := by decide +kernel
theorem dX4_firstOf_4 : decode cX4_firstOf 4 = .ok (.iconst 0, 1) := by decide +kernel
theorem dX4_firstOf_5 : decode cX4_firstOf 5 = .ok (.goto 7, 3) := by decide +kernel
theorem dX4_find_0 : decode cX4_find 0 = .ok (.aload_n 0, 1) := by decide +kernel
theorem dX4_find_1 : decode cX4_find 1 = .ok (.aload_n 1, 1) := by decide +kernel
theorem dX4_find_2 : decode cX4_find 2 = .ok (.iload_n 2, 1) := by decide +kernel
theorem dX4_find_3 : decode cX4_find 3 = .ok (.iload_n 3, 1) := by decide +kernel
theorem dX4_find_4 : decode cX4_find 4 = .ok (.invokevirtual 22, 3) := by decide +kernel
theorem G1048 : Cond.code ⟨"HookedCity$Path", "layersUpTo", "(LHookedCity$Town;II)I"⟩ prog_6_method_3_code 7 (some .int) ∈ GW := gw_i 1048 (by decide +kernel) rfl
theorem G1045 : Cond.methodLink "HookedCity$Path" 22 ⟨"HookedCity$Path", "layersUpTo", "(LHookedCity$Town;II)I"⟩ ∈ GW := gw_i 1045 (by decide +kernel) rfl
theorem V_HookedCity_Path_22 : VL "HookedCity$Path" 22 yX4_layersUpTo cX4_layersUpTo 7 (some .int) 3 := ⟨G1048, G1045, G126, by decide +kernel, by decide +kernel, by decide +kernel⟩
theorem G1047 : Cond.instanceMethod ⟨"HookedCity$Path", "layersUpTo", "(LHookedCity$Town;II)I"⟩ ∈ GW := gw_i 1047 (by decide +kernel) rfl
theorem G25 : Cond.selects "HookedCity$Path" ⟨"HookedCity$Path", "layersUpTo", "(LHookedCity$Town;II)I"⟩ ⟨"HookedCity$Path", "layersUpTo", "(LHookedCity$Town;II)I"⟩ ∈ GW := gw_i 25 (by decide +kernel) rfl
theorem dX4_find_7 : decode cX4_find 7 = .ok (.istore 4, 2) := by decide +kernel
theorem dX4_find_9 : decode cX4_find 9 = .ok (.iload 4, 2) := by decide +kernel
theorem dX4_find_11 : decode cX4_find 11 = .ok (.iconst (-1), 1) := by decide +kernel
theorem dX4_find_12 : decode cX4_find 12 = .ok (.if_icmp .ne 5, 3) := by decide +kernel
theorem dX4_find_17 : decode cX4_find 17 = .ok (.aload_n 0, 1) := by decide +kernel
theorem dX4_find_18 : decode cX4_find 18 = .ok (.getfield 9, 3) := by decide +kernel
theorem G330 : Cond.fieldLink "HookedCity$Path" 9 "HookedCity$Path" "steps" "[I" ∈ GW := gw_i 330 (by decide +kernel) rfl
theorem dX4_find_21 : decode cX4_find 21 = .ok (.iconst 0, 1) := by decide +kernel
theorem dX4_find_22 : decode cX4_find 22 = .ok (.iload_n 2, 1) := by decide +kernel
theorem dX4_find_23 : decode cX4_find 23 = .ok (.iastore, 1) := by decide +kernel
theorem dX4_find_24 : decode cX4_find 24 = .ok (.iconst 1, 1) := by decide +kernel
theorem dX4_find_25 : decode cX4_find 25 = .ok (.istore 5, 2) := by decide +kernel
theorem dX4_find_27 : decode cX4_find 27 = .ok (.iload 5, 2) := by decide +kernel
theorem dX4_find_29 : decode cX4_find 29 = .ok (.iload 4, 2) := by decide +kernel
theorem dX4_find_31 : decode cX4_find 31 = .ok (.if_icmp .gt 44, 3) := by decide +kernel
theorem dX4_find_75 : decode cX4_find 75 = .ok (.aload_n 0, 1) := by decide +kernel
theorem dX4_find_76 : decode cX4_find 76 = .ok (.iload 4, 2) := by decide +kernel
theorem dX4_find_78 : decode cX4_find 78 = .ok (.iconst 1, 1) := by decide +kernel
theorem dX4_find_79 : decode cX4_find 79 = .ok (.iadd, 1) := by decide +kernel
theorem dX4_find_80 : decode cX4_find 80 = .ok (.putfield 18, 3) := by decide +kernel
theorem G333 : Cond.fieldLink "HookedCity$Path" 18 "HookedCity$Path" "length" "I" ∈ GW := gw_i 333 (by decide +kernel) rfl
theorem dX4_find_83 : decode cX4_find 83 = .ok (.iload 4, 2) := by decide +kernel
theorem dX4_find_85 : decode cX4_find 85 = .ok (.ireturn, 1) := by decide +kernel
theorem dX4_find_34 : decode cX4_find 34 = .ok (.aload_n 0, 1) := by decide +kernel
theorem dX4_find_35 : decode cX4_find 35 = .ok (.getfield 9, 3) := by decide +kernel
theorem dX4_find_38 : decode cX4_find 38 = .ok (.iload 5, 2) := by decide +kernel
theorem dX4_find_40 : decode cX4_find 40 = .ok (.aload_n 1, 1) := by decide +kernel
theorem dX4_find_41 : decode cX4_find 41 = .ok (.getfield 26, 3) := by decide +kernel
theorem dX4_find_44 : decode cX4_find 44 = .ok (.aload_n 0, 1) := by decide +kernel
theorem dX4_find_45 : decode cX4_find 45 = .ok (.getfield 9, 3) := by decide +kernel
theorem dX4_find_48 : decode cX4_find 48 = .ok (.iload 5, 2) := by decide +kernel
theorem dX4_find_50 : decode cX4_find 50 = .ok (.iconst 1, 1) := by decide +kernel
theorem dX4_find_51 : decode cX4_find 51 = .ok (.isub, 1) := by decide +kernel
theorem dX4_find_52 : decode cX4_find 52 = .ok (.iaload, 1) := by decide +kernel
theorem dX4_find_53 : decode cX4_find 53 = .ok (.iaload, 1) := by decide +kernel
theorem dX4_find_54 : decode cX4_find 54 = .ok (.aload_n 0, 1) := by decide +kernel
theorem dX4_find_55 : decode cX4_find 55 = .ok (.getfield 15, 3) := by decide +kernel
theorem dX4_find_58 : decode cX4_find 58 = .ok (.iload 4, 2) := by decide +kernel
theorem dX4_find_60 : decode cX4_find 60 = .ok (.iload 5, 2) := by decide +kernel
theorem dX4_find_62 : decode cX4_find 62 = .ok (.isub, 1) := by decide +kernel
theorem dX4_find_63 : decode cX4_find 63 = .ok (.iaload, 1) := by decide +kernel
theorem dX4_find_64 : decode cX4_find 64 = .ok (.iand, 1) := by decide +kernel
theorem dX4_find_65 : decode cX4_find 65 = .ok (.invokestatic 31, 3) := by decide +kernel
theorem G1054 : Cond.code ⟨"HookedCity$Path", "firstOf", "(I)I"⟩ prog_6_method_5_code 1 (some .int) ∈ GW := gw_i 1054 (by decide +kernel) rfl
theorem G1052 : Cond.methodLink "HookedCity$Path" 31 ⟨"HookedCity$Path", "firstOf", "(I)I"⟩ ∈ GW := gw_i 1052 (by decide +kernel) rfl
theorem V_HookedCity_Path_31 : VL "HookedCity$Path" 31 yX4_firstOf cX4_firstOf 1 (some .int) 1 := ⟨G1054, G1052, G126, by decide +kernel, by decide +kernel, by decide +kernel⟩
theorem G1053 : Cond.static ⟨"HookedCity$Path", "firstOf", "(I)I"⟩ ∈ GW := gw_i 1053 (by decide +kernel) rfl
theorem dX4_find_68 : decode cX4_find 68 = .ok (.iastore, 1) := by decide +kernel
theorem dX4_find_69 : decode cX4_find 69 = .ok (.iinc 5 1, 3) := by decide +kernel
theorem dX4_find_72 : decode cX4_find 72 = .ok (.goto (-45), 3) := by decide +kernel
theorem dX4_find_15 : decode cX4_find 15 = .ok (.iconst (-1), 1) := by decide +kernel
theorem dX4_find_16 : decode cX4_find 16 = .ok (.ireturn, 1) := by decide +kernel
set_option maxRecDepth 100000 in
set_option maxHeartbeats 4000000 in
theorem c331_X4_besides (l : Launch) (D : va_G) (T : Nat → ClassId) (sz : Nat) (a0 : Nat) (x0 : Int) (a1 : Nat) (a2 : Nat) (a3 : Nat) (a4 : Nat) (a5 : Nat) (a6 : Nat) (a7 : Nat) (a8 : Nat) (a9 : Nat) (x1 : Int) (x2 : Int) (x3 : Int) (x4 : Int) (x5 : Int) (x6 : Int) (x7 : Int) (x8 : Int) (x9 : Int) (f0 : Int → Int) (x0_a : (-2147483648) ≤ x0) (x0_b : x0 ≤ 2147483647) (x1_a : 0 ≤ x1) (x1_b : x1 ≤ 9) (x2_a : 0 ≤ x2) (x2_b : x2 ≤ 3) (x3_a : 0 ≤ x3) (x3_b : x3 ≤ 900) (x4_a : (-2147483648) ≤ x4) (x4_b : x4 ≤ 2147483647) (x5_a : (-2147483648) ≤ x5) (x5_b : x5 ≤ 2147483647) (x6_a : (-2147483648) ≤ x6) (x6_b : x6 ≤ 2147483647) (x7_a : 0 ≤ x7) (x7_b : x7 ≤ 1) (x8_a : 0 ≤ x8) (x8_b : x8 ≤ 1) (x9_a : 0 ≤ x9) (x9_b : x9 ≤ 1) (f0_h : rng 0 511 f0) : Met l yX4_besides (Cond.code yX4_besides cX4_besides 4 (some .int) :: GW) (Rm 0 0 0) (cPre [.ref a0, .int (iI x0)] D T [(a0, .inr (9, [.ref a1, .ref a2, .ref a3, .ref a4, .ref a5, .ref a6, .ref a7, .ref a8, .ref a9, .int (iI x1), .int (iI x2), .int (iI x3), .int (iI x4), .int (iI x5), .int (iI x6), .int (iI x7), .int (iI x8), .int (iI x9)])), (a5, .inl (T 0, 9, .inl (cI f0)))] sz) (qI D [(a0, .inr (9, [.ref a1, .ref a2, .ref a3, .ref a4, .ref a5, .ref a6, .ref a7, .ref a8, .ref a9, .int (iI x1), .int (iI x2), .int (iI x3), .int (iI x4), .int (iI x5), .int (iI x6), .int (iI x7), .int (iI x8), .int (iI x9)])), (a5, .inl (T 0, 9, .inl (cI f0)))] sz (fun (v : Int32) (u : Int) => iI u = v ∧ (-2147483648) ≤ u ∧ u ≤ 2147483647) (fun u => [(a0, .inr (9, [.ref a1, .ref a2, .ref a3, .ref a4, .ref a5, .ref a6, .ref a7, .ref a8, .ref a9, .int (iI x1), .int (iI x2), .int (iI x3), .int (iI x4), .int (iI x5), .int (iI x6), .int (iI x7), .int (iI x8), .int (iI x9)])), (a5, .inl (T 0, 9, .inl (cI f0)))])) 0 0 (va_A [(a0, .inr (9, [.ref a1, .ref a2, .ref a3, .ref a4, .ref a5, .ref a6, .ref a7, .ref a8, .ref a9, .int (iI x1), .int (iI x2), .int (iI x3), .int (iI x4), .int (iI x5), .int (iI x6), .int (iI x7), .int (iI x8), .int (iI x9)])), (a5, .inl (T 0, 9, .inl (cI f0)))] sz) := by
  refine e_I (by decide) (Nat.le_of_ble_eq_true rfl) ?_
  intro p e s m args below meth c A Q ls M hin w ret hl
  have hx := M.1.1
  have hb := M.1.2.1
  have hl : lv_has ls 4 [(0, .ref a0), (1, .int (iI x0))] := hl
  refine lv_iconst (v := iI 0) hx hb dX4_besides_0 (by decide +kernel) ?_
  refine lv_istore_n (lv' := [(2, .int (iI 0)), (0, .ref a0), (1, .int (iI x0))]) hx hb dX4_besides_1 rfl hl (by decide) rfl (fun ls hl => ?_)
  refine lv_iconst (v := iI 0) hx hb dX4_besides_2 (by decide +kernel) ?_
  refine lv_istore_n (lv' := [(3, .int (iI 0)), (2, .int (iI 0)), (0, .ref a0), (1, .int (iI x0))]) hx hb dX4_besides_3 rfl hl (by decide) rfl (fun ls hl => ?_)
  have loop1 : ∀ (k1 : Nat) (z1 : Int) (z2 : Int) (H : Heap) (locs : List Loc) (ls : Array Slot), 0 ≤ z1 → z1 ≤ 9 → (-2147483648) ≤ z2 → z2 ≤ 2147483647 → ((x1 - z1) : Int).toNat < k1 → WD D A s.heap [(a0, .inr (9, [.ref a1, .ref a2, .ref a3, .ref a4, .ref a5, .ref a6, .ref a7, .ref a8, .ref a9, .int (iI x1), .int (iI x2), .int (iI x3), .int (iI x4), .int (iI x5), .int (iI x6), .int (iI x7), .int (iI x8), .int (iI x9)])), (a5, .inl (T 0, 9, .inl (cI f0)))] H locs → lv_has ls 4 [(3, .int (iI z1)), (2, .int (iI z2)), (0, .ref a0), (1, .int (iI x0))] → W p l e (Rm 0 0 0) s m args below meth c H locs 0 0 Q (F0 m 4 ls []) := by
    intro k1
    induction k1 with
    | zero => intro z1 z2 H locs ls z1_a z1_b z2_a z2_b hm; exact absurd hm (Nat.not_lt_zero _)
    | succ k1 ih1 =>
      intro z1 z2 H locs ls z1_a z1_b z2_a z2_b hm1 w hl
      refine lv_iload_n hx hb dX4_besides_4 rfl (lv_at hl 0 rfl) ?_
      refine lv_aload_n hx hb dX4_besides_5 rfl (lv_at hl 2 rfl) ?_
      refine r_getN (v := .int (iI x1)) M w 0 9 clX9 rfl (by decide) N389 rfl rfl dX4_besides_6 ?_
      refine lv_icmp_ge (tgt := 39) hx hb dX4_besides_9 (by decide) (fun c_3 => ?_) (fun c_3 => ?_)
      · replace c_3 := (iI_le (Int.le_trans (by decide) x1_a) (Int.le_trans x1_b (by decide)) (Int.le_trans (by decide) z1_a) (Int.le_trans z1_b (by decide))).mp c_3
        refine lv_iload_n hx hb dX4_besides_39 rfl (lv_at hl 1 rfl) ?_
        exact ret _ z2 _ _ _ _ _ [0, 1] dX4_besides_40 ⟨rfl, z2_a, z2_b⟩ w (by decide) rfl
      · replace c_3 : z1 < x1 := Int.not_le.mp (fun h => c_3 ((iI_le (Int.le_trans (by decide) x1_a) (Int.le_trans x1_b (by decide)) (Int.le_trans (by decide) z1_a) (Int.le_trans z1_b (by decide))).mpr h))
        refine lv_iload_n hx hb dX4_besides_12 rfl (lv_at hl 1 rfl) ?_
        refine lv_iload_n hx hb dX4_besides_13 rfl (lv_at hl 3 rfl) ?_
        refine lv_iload_n hx hb dX4_besides_14 rfl (lv_at hl 0 rfl) ?_
        refine r_ishr (v := _) M rfl dX4_besides_15 ?_
        refine b_any (fun z4 z4_a z4_b => ?_)
        refine lv_iconst (v := iI 1) hx hb dX4_besides_16 (by decide +kernel) ?_
        refine r_iand (v := _) M rfl dX4_besides_17 ?_
        refine b_rng (lo := 0) (hi := 1) (iand_r (by omega) (by omega)) (fun z5 z5_a z5_b => ?_)
        refine lv_if_eq (tgt := 30) hx hb dX4_besides_18 (by decide) (fun c_6 => ?_) (fun c_6 => ?_)
        · replace c_6 := (iz_eq (Int.le_trans (by decide) z5_a) (Int.le_trans z5_b (by decide))).mp c_6
          refine lv_iconst (v := iI 0) hx hb dX4_besides_30 (by decide +kernel) ?_
          refine r_ior (v := _) M rfl dX4_besides_31 ?_
          refine b_any (fun z7 z7_a z7_b => ?_)
          refine lv_istore_n (lv' := [(2, .int (iI z7)), (3, .int (iI z1)), (0, .ref a0), (1, .int (iI x0))]) hx hb dX4_besides_32 rfl hl (by decide) rfl (fun ls hl => ?_)
          refine lv_iinc (v := iI (z1 + 1)) (lv' := [(3, .int (iI (z1 + 1))), (2, .int (iI z7)), (0, .ref a0), (1, .int (iI x0))]) hx hb dX4_besides_33 hl (k := 1) rfl (ii_inc (by decide +kernel)) (by decide) rfl (fun ls hl => ?_)
          refine lv_goto (tgt := 4) hx hb dX4_besides_36 (by decide) ?_
          exact ih1 (z1 + 1) z7 _ _ _ (by omega) (by omega) z7_a z7_b (by omega) w (lv_sub hl [0, 1, 2, 3] rfl)
        · replace c_6 : ¬ z5 = 0 := fun h => c_6 ((iz_eq (Int.le_trans (by decide) z5_a) (Int.le_trans z5_b (by decide))).mpr h)
          refine lv_aload_n hx hb dX4_besides_21 rfl (lv_at hl 2 rfl) ?_
          refine r_getN (v := .ref a5) M w 0 4 clX9 rfl (by decide) N376 rfl rfl dX4_besides_22 ?_
          refine lv_iload_n hx hb dX4_besides_25 rfl (lv_at hl 0 rfl) ?_
          refine r_iald (v := iI (f0 z1)) M w 1 rfl (iI_in (by omega) (by omega) (by decide)) (cI_at (by omega) (by omega)) dX4_besides_26 ?_
          have hh8 : 0 ≤ (f0 z1) ∧ (f0 z1) ≤ 511 := f0_h z1
          refine lv_goto (tgt := 31) hx hb dX4_besides_27 (by decide) ?_
          refine r_ior (v := _) M rfl dX4_besides_31 ?_
          refine b_any (fun z9 z9_a z9_b => ?_)
          refine lv_istore_n (lv' := [(2, .int (iI z9)), (3, .int (iI z1)), (0, .ref a0), (1, .int (iI x0))]) hx hb dX4_besides_32 rfl hl (by decide) rfl (fun ls hl => ?_)
          refine lv_iinc (v := iI (z1 + 1)) (lv' := [(3, .int (iI (z1 + 1))), (2, .int (iI z9)), (0, .ref a0), (1, .int (iI x0))]) hx hb dX4_besides_33 hl (k := 1) rfl (ii_inc (by decide +kernel)) (by decide) rfl (fun ls hl => ?_)
          refine lv_goto (tgt := 4) hx hb dX4_besides_36 (by decide) ?_
          exact ih1 (z1 + 1) z9 _ _ _ (by omega) (by omega) z9_a z9_b (by omega) w (lv_sub hl [0, 1, 2, 3] rfl)
  exact loop1 (((x1 - 0) : Int).toNat + 1) 0 0 _ _ _ (by decide) (by decide) (by decide) (by decide) (Nat.lt_succ_self _) w (lv_sub hl [0, 1, 2, 3] rfl)
set_option maxRecDepth 100000 in
set_option maxHeartbeats 4000000 in
theorem c332_X4_layersUpTo (l : Launch) (D : va_G) (T : Nat → ClassId) (sz : Nat) (a0 : Nat) (a1 : Nat) (x0 : Int) (x1 : Int) (a2 : Nat) (a3 : Nat) (x2 : Int) (a4 : Nat) (a5 : Nat) (a6 : Nat) (a7 : Nat) (a8 : Nat) (a9 : Nat) (a10 : Nat) (a11 : Nat) (a12 : Nat) (x3 : Int) (x4 : Int) (x5 : Int) (x6 : Int) (x7 : Int) (x8 : Int) (x9 : Int) (x10 : Int) (x11 : Int) (f0 : Nat → Int32) (f1 : Int → Int) (x0_a : 0 ≤ x0) (x0_b : x0 ≤ 8) (x1_a : 0 ≤ x1) (x1_b : x1 ≤ 8) (x2_a : 0 ≤ x2) (x2_b : x2 ≤ 9) (x3_a : 0 ≤ x3) (x3_b : x3 ≤ 9) (x4_a : 0 ≤ x4) (x4_b : x4 ≤ 3) (x5_a : 0 ≤ x5) (x5_b : x5 ≤ 900) (x6_a : (-2147483648) ≤ x6) (x6_b : x6 ≤ 2147483647) (x7_a : (-2147483648) ≤ x7) (x7_b : x7 ≤ 2147483647) (x8_a : (-2147483648) ≤ x8) (x8_b : x8 ≤ 2147483647) (x9_a : 0 ≤ x9) (x9_b : x9 ≤ 1) (x10_a : 0 ≤ x10) (x10_b : x10 ≤ 1) (x11_a : 0 ≤ x11) (x11_b : x11 ≤ 1) (f1_h : rng 0 511 f1) : Met l yX4_layersUpTo (Cond.code yX4_layersUpTo cX4_layersUpTo 7 (some .int) :: GW) (Rm 1 0 0) (cPre [.ref a0, .ref a1, .int (iI x0), .int (iI x1)] D T [(a0, .inr (4, [.ref a2, .ref a3, .int (iI x2)])), (a1, .inr (9, [.ref a4, .ref a5, .ref a6, .ref a7, .ref a8, .ref a9, .ref a10, .ref a11, .ref a12, .int (iI x3), .int (iI x4), .int (iI x5), .int (iI x6), .int (iI x7), .int (iI x8), .int (iI x9), .int (iI x10), .int (iI x11)])), (a3, .inl (T 0, 9, .inl f0)), (a8, .inl (T 0, 9, .inl (cI f1)))] sz) (qI D [(a0, .inr (4, [.ref a2, .ref a3, .int (iI x2)])), (a1, .inr (9, [.ref a4, .ref a5, .ref a6, .ref a7, .ref a8, .ref a9, .ref a10, .ref a11, .ref a12, .int (iI x3), .int (iI x4), .int (iI x5), .int (iI x6), .int (iI x7), .int (iI x8), .int (iI x9), .int (iI x10), .int (iI x11)])), (a3, .inl (T 0, 9, .inl f0)), (a8, .inl (T 0, 9, .inl (cI f1)))] sz (fun (v : Int32) (u : Int × (Nat → Int32)) => iI u.1 = v ∧ (-1) ≤ u.1 ∧ u.1 ≤ 8) (fun u => [(a0, .inr (4, [.ref a2, .ref a3, .int (iI x2)])), (a1, .inr (9, [.ref a4, .ref a5, .ref a6, .ref a7, .ref a8, .ref a9, .ref a10, .ref a11, .ref a12, .int (iI x3), .int (iI x4), .int (iI x5), .int (iI x6), .int (iI x7), .int (iI x8), .int (iI x9), .int (iI x10), .int (iI x11)])), (a3, .inl (T 0, 9, .inl u.2)), (a8, .inl (T 0, 9, .inl (cI f1)))])) 0 0 (va_A [(a0, .inr (4, [.ref a2, .ref a3, .int (iI x2)])), (a1, .inr (9, [.ref a4, .ref a5, .ref a6, .ref a7, .ref a8, .ref a9, .ref a10, .ref a11, .ref a12, .int (iI x3), .int (iI x4), .int (iI x5), .int (iI x6), .int (iI x7), .int (iI x8), .int (iI x9), .int (iI x10), .int (iI x11)])), (a3, .inl (T 0, 9, .inl f0)), (a8, .inl (T 0, 9, .inl (cI f1)))] sz) := by
  refine e_I (by decide) (Nat.le_of_ble_eq_true rfl) ?_
  intro p e s m args below meth c A Q ls M hin w ret hl
  have hx := M.1.1
  have hb := M.1.2.1
  have hl : lv_has ls 7 [(0, .ref a0), (1, .ref a1), (2, .int (iI x0)), (3, .int (iI x1))] := hl
  refine lv_iconst (v := iI 0) hx hb dX4_layersUpTo_0 (by decide +kernel) ?_
  refine lv_istore (lv' := [(4, .int (iI 0)), (0, .ref a0), (1, .ref a1), (2, .int (iI x0)), (3, .int (iI x1))]) hx hb dX4_layersUpTo_1 hl (by decide) rfl (fun ls hl => ?_)
  refine lv_iconst (v := iI 1) hx hb dX4_layersUpTo_3 (by decide +kernel) ?_
  refine lv_iload_n hx hb dX4_layersUpTo_4 rfl (lv_at hl 4 rfl) ?_
  refine r_ishl (v := _) M rfl dX4_layersUpTo_5 ?_
  refine b_rng (lo := 1) (hi := 256) (ishl_9 (by omega) (by omega)) (fun z1 z1_a z1_b => ?_)
  refine lv_istore (lv' := [(5, .int (iI z1)), (4, .int (iI 0)), (0, .ref a0), (1, .ref a1), (2, .int (iI x0)), (3, .int (iI x1))]) hx hb dX4_layersUpTo_6 hl (by decide) rfl (fun ls hl => ?_)
  refine lv_iconst (v := iI 0) hx hb dX4_layersUpTo_8 (by decide +kernel) ?_
  refine lv_istore (lv' := [(6, .int (iI 0)), (5, .int (iI z1)), (4, .int (iI 0)), (0, .ref a0), (1, .ref a1), (2, .int (iI x0)), (3, .int (iI x1))]) hx hb dX4_layersUpTo_9 hl (by decide) rfl (fun ls hl => ?_)
  have loop1 : ∀ (k1 : Nat) (ff2 : Nat → Int32) (z3 : Int) (z4 : Int) (z5 : Int) (H : Heap) (locs : List Loc) (ls : Array Slot), 0 ≤ z3 → z3 ≤ 9 → (-2147483648) ≤ z4 → z4 ≤ 2147483647 → (-2147483648) ≤ z5 → z5 ≤ 2147483647 → ((9 - z3) : Int).toNat < k1 → WD D A s.heap [(a0, .inr (4, [.ref a2, .ref a3, .int (iI x2)])), (a1, .inr (9, [.ref a4, .ref a5, .ref a6, .ref a7, .ref a8, .ref a9, .ref a10, .ref a11, .ref a12, .int (iI x3), .int (iI x4), .int (iI x5), .int (iI x6), .int (iI x7), .int (iI x8), .int (iI x9), .int (iI x10), .int (iI x11)])), (a3, .inl (T 0, 9, .inl ff2)), (a8, .inl (T 0, 9, .inl (cI f1)))] H locs → lv_has ls 7 [(6, .int (iI z3)), (5, .int (iI z4)), (4, .int (iI z5)), (0, .ref a0), (1, .ref a1), (2, .int (iI x0)), (3, .int (iI x1))] → W p l e (Rm 1 0 0) s m args below meth c H locs 0 0 Q (F0 m 11 ls []) := by
    intro k1
    induction k1 with
    | zero => intro ff2 z3 z4 z5 H locs ls z3_a z3_b z4_a z4_b z5_a z5_b hm; exact absurd hm (Nat.not_lt_zero _)
    | succ k1 ih1 =>
      intro ff2 z3 z4 z5 H locs ls z3_a z3_b z4_a z4_b z5_a z5_b hm1 w hl
      refine lv_iload hx hb dX4_layersUpTo_11 (lv_at hl 0 rfl) ?_
      refine lv_bipush (v := iI 9) hx hb dX4_layersUpTo_13 (by decide +kernel) ?_
      refine lv_icmp_ge (tgt := 70) hx hb dX4_layersUpTo_15 (by decide) (fun c_6 => ?_) (fun c_6 => ?_)
      · replace c_6 := (iI_le (by decide) (by decide) (Int.le_trans (by decide) z3_a) (Int.le_trans z3_b (by decide))).mp c_6
        refine lv_iconst (v := iI (-1)) hx hb dX4_layersUpTo_70 (by decide +kernel) ?_
        exact ret _ ((-1), ff2) _ _ _ _ _ [0, 1, 2, 3] dX4_layersUpTo_71 ⟨rfl, (show (-1) ≤ (-1) from by decide), (show ((-1) : Int) ≤ 8 from by decide)⟩ w (by decide) rfl
      · replace c_6 : z3 < 9 := Int.not_le.mp (fun h => c_6 ((iI_le (by decide) (by decide) (Int.le_trans (by decide) z3_a) (Int.le_trans z3_b (by decide))).mpr h))
        refine lv_iload hx hb dX4_layersUpTo_18 (lv_at hl 1 rfl) ?_
        refine lv_if_eq (tgt := 70) hx hb dX4_layersUpTo_20 (by decide) (fun c_7 => ?_) (fun c_7 => ?_)
        · replace c_7 := (iz_eq (Int.le_trans (by decide) z4_a) (Int.le_trans z4_b (by decide))).mp c_7
          refine lv_iconst (v := iI (-1)) hx hb dX4_layersUpTo_70 (by decide +kernel) ?_
          exact ret _ ((-1), ff2) _ _ _ _ _ [0, 1, 2, 3] dX4_layersUpTo_71 ⟨rfl, (show (-1) ≤ (-1) from by decide), (show ((-1) : Int) ≤ 8 from by decide)⟩ w (by decide) rfl
        · replace c_7 : ¬ z4 = 0 := fun h => c_7 ((iz_eq (Int.le_trans (by decide) z4_a) (Int.le_trans z4_b (by decide))).mpr h)
          refine lv_aload_n hx hb dX4_layersUpTo_23 rfl (lv_at hl 3 rfl) ?_
          refine r_get (v := .ref a3) M w 0 1 clX4 rfl (by decide) G332 rfl rfl dX4_layersUpTo_24 ?_
          refine lv_iload hx hb dX4_layersUpTo_27 (lv_at hl 0 rfl) ?_
          refine lv_iload hx hb dX4_layersUpTo_29 (lv_at hl 1 rfl) ?_
          refine r_iast (ws' := [(a0, .inr (4, [.ref a2, .ref a3, .int (iI x2)])), (a1, .inr (9, [.ref a4, .ref a5, .ref a6, .ref a7, .ref a8, .ref a9, .ref a10, .ref a11, .ref a12, .int (iI x3), .int (iI x4), .int (iI x5), .int (iI x6), .int (iI x7), .int (iI x8), .int (iI x9), .int (iI x10), .int (iI x11)])), (a3, .inl (T 0, 9, .inl (upd ff2 (Int32.toNatClampNeg (iI z3)) (iI z4)))), (a8, .inl (T 0, 9, .inl (cI f1)))]) M w 2 rfl (iI_in (by omega) (by omega) (by decide)) rfl dX4_layersUpTo_31 (fun H locs w => ?_)
          refine lv_iload hx hb dX4_layersUpTo_32 (lv_at hl 1 rfl) ?_
          refine lv_iload_n hx hb dX4_layersUpTo_34 rfl (lv_at hl 5 rfl) ?_
          refine r_ishr (v := _) M rfl dX4_layersUpTo_35 ?_
          refine b_any (fun z8 z8_a z8_b => ?_)
          refine lv_iconst (v := iI 1) hx hb dX4_layersUpTo_36 (by decide +kernel) ?_
          refine r_iand (v := _) M rfl dX4_layersUpTo_37 ?_
          refine b_rng (lo := 0) (hi := 1) (iand_r (by omega) (by omega)) (fun z9 z9_a z9_b => ?_)
          refine lv_if_eq (tgt := 44) hx hb dX4_layersUpTo_38 (by decide) (fun c_10 => ?_) (fun c_10 => ?_)
          · replace c_10 := (iz_eq (Int.le_trans (by decide) z9_a) (Int.le_trans z9_b (by decide))).mp c_10
            refine lv_iload hx hb dX4_layersUpTo_44 (lv_at hl 2 rfl) ?_
            refine lv_iload hx hb dX4_layersUpTo_46 (lv_at hl 1 rfl) ?_
            refine r_ior (v := _) M rfl dX4_layersUpTo_48 ?_
            refine b_any (fun z11 z11_a z11_b => ?_)
            refine lv_istore (lv' := [(4, .int (iI z11)), (6, .int (iI z3)), (5, .int (iI z4)), (0, .ref a0), (1, .ref a1), (2, .int (iI x0)), (3, .int (iI x1))]) hx hb dX4_layersUpTo_49 hl (by decide) rfl (fun ls hl => ?_)
            refine lv_aload_n hx hb dX4_layersUpTo_51 rfl (lv_at hl 4 rfl) ?_
            refine lv_iload hx hb dX4_layersUpTo_52 (lv_at hl 2 rfl) ?_
            refine k_I (ce := 0) (sl := 0) (rest := []) (wr := [(a0, .inr (4, [.ref a2, .ref a3, .int (iI x2)])), (a3, .inl (T 0, 9, .inl (upd ff2 (Int32.toNatClampNeg (iI z3)) (iI z4))))]) (r_S (f := 0) [1, 3] M w V_HookedCity_Path_35 G1050 (c331_X4_besides l D T _ a1 z4 a4 a5 a6 a7 a8 a9 a10 a11 a12 x3 x4 x5 x6 x7 x8 x9 x10 x11 f1 z4_a z4_b x3_a x3_b x4_a x4_b x5_a x5_b x6_a x6_b x7_a x7_b x8_a x8_b x9_a x9_b x10_a x10_b x11_a x11_b f1_h) rfl (by decide) rfl hl.1 rfl (Nat.le_of_ble_eq_true rfl) dX4_layersUpTo_54 (by decide) (by decide) (by decide) (by decide)) w [1, 3] [0, 2] rfl rfl (by decide) (by decide) rfl rfl (fun v z12 H locs hp w => ?_)
            have hv : iI z12 = v := hp.1
            subst hv
            have z12_a : (-2147483648) ≤ z12 := hp.2.1
            have z12_b : z12 ≤ 2147483647 := hp.2.2
            have w : WD D A s.heap [(a0, .inr (4, [.ref a2, .ref a3, .int (iI x2)])), (a3, .inl (T 0, 9, .inl (upd ff2 (Int32.toNatClampNeg (iI z3)) (iI z4)))), (a1, .inr (9, [.ref a4, .ref a5, .ref a6, .ref a7, .ref a8, .ref a9, .ref a10, .ref a11, .ref a12, .int (iI x3), .int (iI x4), .int (iI x5), .int (iI x6), .int (iI x7), .int (iI x8), .int (iI x9), .int (iI x10), .int (iI x11)])), (a8, .inl (T 0, 9, .inl (cI f1)))] H locs := w
            refine lv_iload hx hb dX4_layersUpTo_57 (lv_at hl 0 rfl) ?_
            refine lv_iconst (v := iI (-1)) hx hb dX4_layersUpTo_59 (by decide +kernel) ?_
            refine r_ixor (v := _) M rfl dX4_layersUpTo_60 ?_
            refine b_any (fun z13 z13_a z13_b => ?_)
            refine r_iand (v := _) M rfl dX4_layersUpTo_61 ?_
            refine b_any (fun z14 z14_a z14_b => ?_)
            refine lv_istore (lv' := [(5, .int (iI z14)), (4, .int (iI z11)), (6, .int (iI z3)), (0, .ref a0), (1, .ref a1), (2, .int (iI x0)), (3, .int (iI x1))]) hx hb dX4_layersUpTo_62 hl (by decide) rfl (fun ls hl => ?_)
            refine lv_iinc (v := iI (z3 + 1)) (lv' := [(6, .int (iI (z3 + 1))), (5, .int (iI z14)), (4, .int (iI z11)), (0, .ref a0), (1, .ref a1), (2, .int (iI x0)), (3, .int (iI x1))]) hx hb dX4_layersUpTo_64 hl (k := 2) rfl (ii_inc (by decide +kernel)) (by decide) rfl (fun ls hl => ?_)
            refine lv_goto (tgt := 11) hx hb dX4_layersUpTo_67 (by decide) ?_
            exact ih1 (upd ff2 (Int32.toNatClampNeg (iI z3)) (iI z4)) (z3 + 1) z14 z11 _ _ _ (by omega) (by omega) z14_a z14_b z11_a z11_b (by omega) (w.sub [0, 2, 1, 3] (by decide) rfl) (lv_sub hl [0, 1, 2, 3, 4, 5, 6] rfl)
          · replace c_10 : ¬ z9 = 0 := fun h => c_10 ((iz_eq (Int.le_trans (by decide) z9_a) (Int.le_trans z9_b (by decide))).mpr h)
            refine lv_iload hx hb dX4_layersUpTo_41 (lv_at hl 0 rfl) ?_
            exact ret _ (z3, (upd ff2 (Int32.toNatClampNeg (iI z3)) (iI z4))) _ _ _ _ _ [0, 1, 2, 3] dX4_layersUpTo_43 ⟨rfl, (show (-1) ≤ z3 from by omega), (show z3 ≤ 8 from by omega)⟩ w (by decide) rfl
  exact loop1 ((9 : Int).toNat + 1) f0 0 z1 0 _ _ _ (by decide) (by decide) (by omega) (by omega) (by decide) (by decide) (Nat.lt_succ_self _) w (lv_sub hl [0, 1, 2, 3, 4, 5, 6] rfl)
set_option maxRecDepth 100000 in
set_option maxHeartbeats 4000000 in
theorem c333_J6_numberOfTrailingZeros_0f7a4 (l : Launch) (D : va_G) (T : Nat → ClassId) (sz : Nat) (x0 : Int) (x0_a : 1 ≤ x0) (x0_b : x0 ≤ 511) : Met l yJ6_numberOfTrailingZeros_0f7a4 (Cond.code yJ6_numberOfTrailingZeros_0f7a4 cJ6_numberOfTrailingZeros_0f7a4 2 (some .int) :: GW) (Rm 0 0 0) (cPre [.int (iI x0)] D T [] sz) (qI D [] sz (fun (v : Int32) (u : Int) => iI u = v ∧ 0 ≤ u ∧ u ≤ 8 ∧ (1 ≤ x0 → x0 ≤ 1023 → u = slL (bitF x0) 10)) (fun u => [])) 0 0 (va_A [] sz) := by
  refine e_I (by decide) (Nat.le_of_ble_eq_true rfl) ?_
  intro p e s m args below meth c A Q ls M hin w ret hl
  have hx := M.1.1
  have hb := M.1.2.1
  have hl : lv_has ls 2 [(0, .int (iI x0))] := hl
  refine lv_iload_n hx hb dJ6_numberOfTrailingZeros_0f7a4_0 rfl (lv_at hl 0 rfl) ?_
  refine lv_iconst (v := iI (-1)) hx hb dJ6_numberOfTrailingZeros_0f7a4_1 (by decide +kernel) ?_
  refine r_ixor (v := iI x0 ^^^ iI (-1)) M rfl dJ6_numberOfTrailingZeros_0f7a4_2 ?_
  refine lv_iload_n hx hb dJ6_numberOfTrailingZeros_0f7a4_3 rfl (lv_at hl 0 rfl) ?_
  refine lv_iconst (v := iI 1) hx hb dJ6_numberOfTrailingZeros_0f7a4_4 (by decide +kernel) ?_
  refine r_isub (v := iI (x0 - 1)) M (iI_sub _ _) dJ6_numberOfTrailingZeros_0f7a4_5 ?_
  refine r_iand (v := _) M rfl dJ6_numberOfTrailingZeros_0f7a4_6 ?_
  refine b_rngx (lo := 0) (hi := 255) (ntz_and x0_a x0_b) (fun z1 z1_a z1_b hz2 => ?_)
  have hY : ntY x0 z1 := by rw [hz2]; exact ntY_x (by omega) (by omega)
  refine lv_istore_n (lv' := [(0, .int (iI z1))]) hx hb dJ6_numberOfTrailingZeros_0f7a4_7 rfl hl (by decide) rfl (fun ls hl => ?_)
  refine lv_iload_n hx hb dJ6_numberOfTrailingZeros_0f7a4_8 rfl (lv_at hl 0 rfl) ?_
  refine lv_if_gt (tgt := 17) hx hb dJ6_numberOfTrailingZeros_0f7a4_9 (by decide) (fun c_3 => ?_) (fun c_3 => ?_)
  · replace c_3 := (iz_gt (Int.le_trans (by decide) z1_a) (Int.le_trans z1_b (by decide))).mp c_3
    refine lv_iconst (v := iI 1) hx hb dJ6_numberOfTrailingZeros_0f7a4_17 (by decide +kernel) ?_
    refine lv_istore_n (lv' := [(1, .int (iI 1)), (0, .int (iI z1))]) hx hb dJ6_numberOfTrailingZeros_0f7a4_18 rfl hl (by decide) rfl (fun ls hl => ?_)
    refine lv_iload_n hx hb dJ6_numberOfTrailingZeros_0f7a4_19 rfl (lv_at hl 1 rfl) ?_
    refine lv_ldcw (v := _) hx hb M.1.2.2.2.1 (M.1.2.2.2.2 _ G1015) dJ6_numberOfTrailingZeros_0f7a4_20 ?_
    refine b_lit (z := 65536) (by decide +kernel) ?_
    refine lv_icmp_le (tgt := 34) hx hb dJ6_numberOfTrailingZeros_0f7a4_23 (by decide) (fun c_4 => ?_) (fun c_4 => ?_)
    · replace c_4 := (iI_le (Int.le_trans (by decide) z1_a) (Int.le_trans z1_b (by decide)) (by decide) (by decide)).mp c_4
      refine lv_iload_n hx hb dJ6_numberOfTrailingZeros_0f7a4_34 rfl (lv_at hl 1 rfl) ?_
      refine lv_sipush (v := iI 256) hx hb dJ6_numberOfTrailingZeros_0f7a4_35 (by decide +kernel) ?_
      refine lv_icmp_le (tgt := 49) hx hb dJ6_numberOfTrailingZeros_0f7a4_38 (by decide) (fun c_5 => ?_) (fun c_5 => ?_)
      · replace c_5 := (iI_le (Int.le_trans (by decide) z1_a) (Int.le_trans z1_b (by decide)) (by decide) (by decide)).mp c_5
        refine lv_iload_n hx hb dJ6_numberOfTrailingZeros_0f7a4_49 rfl (lv_at hl 1 rfl) ?_
        refine lv_bipush (v := iI 16) hx hb dJ6_numberOfTrailingZeros_0f7a4_50 (by decide +kernel) ?_
        refine lv_icmp_le (tgt := 62) hx hb dJ6_numberOfTrailingZeros_0f7a4_52 (by decide) (fun c_6 => ?_) (fun c_6 => ?_)
        · replace c_6 := (iI_le (Int.le_trans (by decide) z1_a) (Int.le_trans z1_b (by decide)) (by decide) (by decide)).mp c_6
          refine lv_iload_n hx hb dJ6_numberOfTrailingZeros_0f7a4_62 rfl (lv_at hl 1 rfl) ?_
          refine lv_iconst (v := iI 4) hx hb dJ6_numberOfTrailingZeros_0f7a4_63 (by decide +kernel) ?_
          refine lv_icmp_le (tgt := 74) hx hb dJ6_numberOfTrailingZeros_0f7a4_64 (by decide) (fun c_7 => ?_) (fun c_7 => ?_)
          · replace c_7 := (iI_le (Int.le_trans (by decide) z1_a) (Int.le_trans z1_b (by decide)) (by decide) (by decide)).mp c_7
            refine lv_iload_n hx hb dJ6_numberOfTrailingZeros_0f7a4_74 rfl (lv_at hl 0 rfl) ?_
            refine lv_iload_n hx hb dJ6_numberOfTrailingZeros_0f7a4_75 rfl (lv_at hl 1 rfl) ?_
            refine lv_iconst (v := iI 1) hx hb dJ6_numberOfTrailingZeros_0f7a4_76 (by decide +kernel) ?_
            refine r_iushr (v := _) M rfl dJ6_numberOfTrailingZeros_0f7a4_77 ?_
            refine b_rng (lo := z1 / 2) (hi := z1 / 2) (iushr_d 1 (by decide +kernel) (by omega) (by omega)) (fun z8 z8_a z8_b => ?_)
            refine r_iadd (v := iI (1 + z8)) M (iI_add _ _) dJ6_numberOfTrailingZeros_0f7a4_78 ?_
            exact ret _ (1 + z8) _ _ _ _ _ [] dJ6_numberOfTrailingZeros_0f7a4_79 ⟨rfl, (show 0 ≤ (1 + z8) from by omega), (show (1 + z8) ≤ 8 from by omega), (show 1 ≤ x0 → x0 ≤ 1023 → (1 + z8) = slL (bitF x0) 10 from (fun _ _ => nt_f hY (by unfold ntR; omega)))⟩ w (by decide) rfl
          · replace c_7 : 4 < z1 := Int.not_le.mp (fun h => c_7 ((iI_le (Int.le_trans (by decide) z1_a) (Int.le_trans z1_b (by decide)) (by decide) (by decide)).mpr h))
            refine lv_iinc (v := iI 3) (lv' := [(1, .int (iI 3)), (0, .int (iI z1))]) hx hb dJ6_numberOfTrailingZeros_0f7a4_67 hl (k := 0) rfl (by decide +kernel) (by decide) rfl (fun ls hl => ?_)
            refine lv_iload_n hx hb dJ6_numberOfTrailingZeros_0f7a4_70 rfl (lv_at hl 1 rfl) ?_
            refine lv_iconst (v := iI 2) hx hb dJ6_numberOfTrailingZeros_0f7a4_71 (by decide +kernel) ?_
            refine r_iushr (v := _) M rfl dJ6_numberOfTrailingZeros_0f7a4_72 ?_
            refine b_rng (lo := z1 / 4) (hi := z1 / 4) (iushr_d 2 (by decide +kernel) (by omega) (by omega)) (fun z9 z9_a z9_b => ?_)
            refine lv_istore_n (lv' := [(0, .int (iI z9)), (1, .int (iI 3))]) hx hb dJ6_numberOfTrailingZeros_0f7a4_73 rfl hl (by decide) rfl (fun ls hl => ?_)
            refine lv_iload_n hx hb dJ6_numberOfTrailingZeros_0f7a4_74 rfl (lv_at hl 1 rfl) ?_
            refine lv_iload_n hx hb dJ6_numberOfTrailingZeros_0f7a4_75 rfl (lv_at hl 0 rfl) ?_
            refine lv_iconst (v := iI 1) hx hb dJ6_numberOfTrailingZeros_0f7a4_76 (by decide +kernel) ?_
            refine r_iushr (v := _) M rfl dJ6_numberOfTrailingZeros_0f7a4_77 ?_
            refine b_rng (lo := z9 / 2) (hi := z9 / 2) (iushr_d 1 (by decide +kernel) (by omega) (by omega)) (fun z10 z10_a z10_b => ?_)
            refine r_iadd (v := iI (3 + z10)) M (iI_add _ _) dJ6_numberOfTrailingZeros_0f7a4_78 ?_
            exact ret _ (3 + z10) _ _ _ _ _ [] dJ6_numberOfTrailingZeros_0f7a4_79 ⟨rfl, (show 0 ≤ (3 + z10) from by omega), (show (3 + z10) ≤ 8 from by omega), (show 1 ≤ x0 → x0 ≤ 1023 → (3 + z10) = slL (bitF x0) 10 from (fun _ _ => nt_f hY (by unfold ntR; omega)))⟩ w (by decide) rfl
        · replace c_6 : 16 < z1 := Int.not_le.mp (fun h => c_6 ((iI_le (Int.le_trans (by decide) z1_a) (Int.le_trans z1_b (by decide)) (by decide) (by decide)).mpr h))
          refine lv_iinc (v := iI 5) (lv' := [(1, .int (iI 5)), (0, .int (iI z1))]) hx hb dJ6_numberOfTrailingZeros_0f7a4_55 hl (k := 0) rfl (by decide +kernel) (by decide) rfl (fun ls hl => ?_)
          refine lv_iload_n hx hb dJ6_numberOfTrailingZeros_0f7a4_58 rfl (lv_at hl 1 rfl) ?_
          refine lv_iconst (v := iI 4) hx hb dJ6_numberOfTrailingZeros_0f7a4_59 (by decide +kernel) ?_
          refine r_iushr (v := _) M rfl dJ6_numberOfTrailingZeros_0f7a4_60 ?_
          refine b_rng (lo := z1 / 16) (hi := z1 / 16) (iushr_d 4 (by decide +kernel) (by omega) (by omega)) (fun z11 z11_a z11_b => ?_)
          refine lv_istore_n (lv' := [(0, .int (iI z11)), (1, .int (iI 5))]) hx hb dJ6_numberOfTrailingZeros_0f7a4_61 rfl hl (by decide) rfl (fun ls hl => ?_)
          refine lv_iload_n hx hb dJ6_numberOfTrailingZeros_0f7a4_62 rfl (lv_at hl 0 rfl) ?_
          refine lv_iconst (v := iI 4) hx hb dJ6_numberOfTrailingZeros_0f7a4_63 (by decide +kernel) ?_
          refine lv_icmp_le (tgt := 74) hx hb dJ6_numberOfTrailingZeros_0f7a4_64 (by decide) (fun c_12 => ?_) (fun c_12 => ?_)
          · replace c_12 := (iI_le (by omega) (by omega) (by decide) (by decide)).mp c_12
            refine lv_iload_n hx hb dJ6_numberOfTrailingZeros_0f7a4_74 rfl (lv_at hl 1 rfl) ?_
            refine lv_iload_n hx hb dJ6_numberOfTrailingZeros_0f7a4_75 rfl (lv_at hl 0 rfl) ?_
            refine lv_iconst (v := iI 1) hx hb dJ6_numberOfTrailingZeros_0f7a4_76 (by decide +kernel) ?_
            refine r_iushr (v := _) M rfl dJ6_numberOfTrailingZeros_0f7a4_77 ?_
            refine b_rng (lo := z11 / 2) (hi := z11 / 2) (iushr_d 1 (by decide +kernel) (by omega) (by omega)) (fun z13 z13_a z13_b => ?_)
            refine r_iadd (v := iI (5 + z13)) M (iI_add _ _) dJ6_numberOfTrailingZeros_0f7a4_78 ?_
            exact ret _ (5 + z13) _ _ _ _ _ [] dJ6_numberOfTrailingZeros_0f7a4_79 ⟨rfl, (show 0 ≤ (5 + z13) from by omega), (show (5 + z13) ≤ 8 from by omega), (show 1 ≤ x0 → x0 ≤ 1023 → (5 + z13) = slL (bitF x0) 10 from (fun _ _ => nt_f hY (by unfold ntR; omega)))⟩ w (by decide) rfl
          · replace c_12 : 4 < z11 := Int.not_le.mp (fun h => c_12 ((iI_le (by omega) (by omega) (by decide) (by decide)).mpr h))
            refine lv_iinc (v := iI 7) (lv' := [(1, .int (iI 7)), (0, .int (iI z11))]) hx hb dJ6_numberOfTrailingZeros_0f7a4_67 hl (k := 1) rfl (by decide +kernel) (by decide) rfl (fun ls hl => ?_)
            refine lv_iload_n hx hb dJ6_numberOfTrailingZeros_0f7a4_70 rfl (lv_at hl 1 rfl) ?_
            refine lv_iconst (v := iI 2) hx hb dJ6_numberOfTrailingZeros_0f7a4_71 (by decide +kernel) ?_
            refine r_iushr (v := _) M rfl dJ6_numberOfTrailingZeros_0f7a4_72 ?_
            refine b_rng (lo := z11 / 4) (hi := z11 / 4) (iushr_d 2 (by decide +kernel) (by omega) (by omega)) (fun z14 z14_a z14_b => ?_)
            refine lv_istore_n (lv' := [(0, .int (iI z14)), (1, .int (iI 7))]) hx hb dJ6_numberOfTrailingZeros_0f7a4_73 rfl hl (by decide) rfl (fun ls hl => ?_)
            refine lv_iload_n hx hb dJ6_numberOfTrailingZeros_0f7a4_74 rfl (lv_at hl 1 rfl) ?_
            refine lv_iload_n hx hb dJ6_numberOfTrailingZeros_0f7a4_75 rfl (lv_at hl 0 rfl) ?_
            refine lv_iconst (v := iI 1) hx hb dJ6_numberOfTrailingZeros_0f7a4_76 (by decide +kernel) ?_
            refine r_iushr (v := _) M rfl dJ6_numberOfTrailingZeros_0f7a4_77 ?_
            refine b_rng (lo := z14 / 2) (hi := z14 / 2) (iushr_d 1 (by decide +kernel) (by omega) (by omega)) (fun z15 z15_a z15_b => ?_)
            refine r_iadd (v := iI (7 + z15)) M (iI_add _ _) dJ6_numberOfTrailingZeros_0f7a4_78 ?_
            exact ret _ (7 + z15) _ _ _ _ _ [] dJ6_numberOfTrailingZeros_0f7a4_79 ⟨rfl, (show 0 ≤ (7 + z15) from by omega), (show (7 + z15) ≤ 8 from by omega), (show 1 ≤ x0 → x0 ≤ 1023 → (7 + z15) = slL (bitF x0) 10 from (fun _ _ => nt_f hY (by unfold ntR; omega)))⟩ w (by decide) rfl
      · replace c_5 : 256 < z1 := Int.not_le.mp (fun h => c_5 ((iI_le (Int.le_trans (by decide) z1_a) (Int.le_trans z1_b (by decide)) (by decide) (by decide)).mpr h))
        exfalso; omega
    · replace c_4 : 65536 < z1 := Int.not_le.mp (fun h => c_4 ((iI_le (Int.le_trans (by decide) z1_a) (Int.le_trans z1_b (by decide)) (by decide) (by decide)).mpr h))
      exfalso; omega
  · replace c_3 : z1 ≤ 0 := Int.not_lt.mp (fun h => c_3 ((iz_gt (Int.le_trans (by decide) z1_a) (Int.le_trans z1_b (by decide))).mpr h))
    refine lv_iload_n hx hb dJ6_numberOfTrailingZeros_0f7a4_12 rfl (lv_at hl 0 rfl) ?_
    refine lv_bipush (v := iI 32) hx hb dJ6_numberOfTrailingZeros_0f7a4_13 (by decide +kernel) ?_
    refine r_iand (v := _) M rfl dJ6_numberOfTrailingZeros_0f7a4_15 ?_
    refine b_rngx (lo := 0) (hi := z1) (iand_l (by omega) (by omega)) (fun z16 z16_a z16_b hz17 => ?_)
    exact ret _ z16 _ _ _ _ _ [] dJ6_numberOfTrailingZeros_0f7a4_16 ⟨rfl, (show 0 ≤ z16 from by omega), (show z16 ≤ 8 from by omega), (show 1 ≤ x0 → x0 ≤ 1023 → z16 = slL (bitF x0) 10 from (fun _ _ => nt_f hY (by unfold ntR; omega)))⟩ w (by decide) rfl
set_option maxRecDepth 100000 in
set_option maxHeartbeats 4000000 in
theorem c334_X4_firstOf (l : Launch) (D : va_G) (T : Nat → ClassId) (sz : Nat) (x0 : Int) (x0_a : 0 ≤ x0) (x0_b : x0 ≤ 511) : Met l yX4_firstOf (Cond.code yX4_firstOf cX4_firstOf 1 (some .int) :: GW) (Rm 1 0 0) (cPre [.int (iI x0)] D T [] sz) (qI D [] sz (fun (v : Int32) (u : Int) => iI u = v ∧ 0 ≤ u ∧ u ≤ 8 ∧ ((¬ x0 = 0) ∨ (x0 = 0 ∧ u = 0))) (fun u => [])) 0 0 (va_A [] sz) := by
  refine e_I (by decide) (Nat.le_of_ble_eq_true rfl) ?_
  intro p e s m args below meth c A Q ls M hin w ret hl
  have hx := M.1.1
  have hb := M.1.2.1
  have hl : lv_has ls 1 [(0, .int (iI x0))] := hl
  refine lv_iload_n hx hb dX4_firstOf_0 rfl (lv_at hl 0 rfl) ?_
  refine lv_if_ne (tgt := 8) hx hb dX4_firstOf_1 (by decide) (fun c_1 => ?_) (fun c_1 => ?_)
  · replace c_1 : ¬ x0 = 0 := fun h => c_1 ((iz_eq (Int.le_trans (by decide) x0_a) (Int.le_trans x0_b (by decide))).mpr h)
    refine lv_iload_n hx hb dX4_firstOf_8 rfl (lv_at hl 0 rfl) ?_
    refine k_I (ce := 0) (sl := 0) (rest := []) (wr := []) (r_S (f := 0) [] M w V_HookedCity_Path_42 G1013 (c333_J6_numberOfTrailingZeros_0f7a4 l D T _ x0 (by omega) (by omega)) rfl (by decide) rfl hl.1 rfl (Nat.le_of_ble_eq_true rfl) dX4_firstOf_9 (by decide) (by decide) (by decide) (by decide)) w [] [] rfl rfl (by decide) (by decide) rfl rfl (fun v z2 H locs hp w => ?_)
    have hv : iI z2 = v := hp.1
    subst hv
    have z2_a : 0 ≤ z2 := hp.2.1
    have z2_b : z2 ≤ 8 := hp.2.2.1
    have pq3 : 1 ≤ x0 → x0 ≤ 1023 → z2 = slL (bitF x0) 10 := hp.2.2.2
    have w : WD D A s.heap [] H locs := w
    exact ret _ z2 _ _ _ _ _ [] dX4_firstOf_12 ⟨rfl, z2_a, z2_b, (Or.inl c_1)⟩ w (by decide) rfl
  · replace c_1 := (iz_eq (Int.le_trans (by decide) x0_a) (Int.le_trans x0_b (by decide))).mp c_1
    refine lv_iconst (v := iI 0) hx hb dX4_firstOf_4 (by decide +kernel) ?_
    refine lv_goto (tgt := 12) hx hb dX4_firstOf_5 (by decide) ?_
    exact ret _ 0 _ _ _ _ _ [] dX4_firstOf_12 ⟨rfl, (show (0 : Int) ≤ 0 from by decide), (show (0 : Int) ≤ 8 from by decide), (Or.inr (⟨c_1, rfl⟩))⟩ w (by decide) rfl
set_option maxRecDepth 100000 in
set_option maxHeartbeats 4000000 in
theorem c335_X4_find (l : Launch) (D : va_G) (T : Nat → ClassId) (sz : Nat) (a0 : Nat) (a1 : Nat) (x0 : Int) (x1 : Int) (a2 : Nat) (a3 : Nat) (x2 : Int) (a4 : Nat) (a5 : Nat) (a6 : Nat) (a7 : Nat) (a8 : Nat) (a9 : Nat) (a10 : Nat) (a11 : Nat) (a12 : Nat) (x3 : Int) (x4 : Int) (x5 : Int) (x6 : Int) (x7 : Int) (x8 : Int) (x9 : Int) (x10 : Int) (x11 : Int) (f0 : Int → Int) (f1 : Nat → Int32) (f2 : Int → Int) (x0_a : 0 ≤ x0) (x0_b : x0 ≤ 8) (x1_a : 0 ≤ x1) (x1_b : x1 ≤ 8) (x2_a : 0 ≤ x2) (x2_b : x2 ≤ 9) (x3_a : 0 ≤ x3) (x3_b : x3 ≤ 9) (x4_a : 0 ≤ x4) (x4_b : x4 ≤ 3) (x5_a : 0 ≤ x5) (x5_b : x5 ≤ 900) (x6_a : (-2147483648) ≤ x6) (x6_b : x6 ≤ 2147483647) (x7_a : (-2147483648) ≤ x7) (x7_b : x7 ≤ 2147483647) (x8_a : (-2147483648) ≤ x8) (x8_b : x8 ≤ 2147483647) (x9_a : 0 ≤ x9) (x9_b : x9 ≤ 1) (x10_a : 0 ≤ x10) (x10_b : x10 ≤ 1) (x11_a : 0 ≤ x11) (x11_b : x11 ≤ 1) (f0_h : rng 0 8 f0) (f2_h : rng 0 511 f2) : Met l yX4_find (Cond.code yX4_find cX4_find 6 (some .int) :: GW) (Rm 2 0 0) (cPre [.ref a0, .ref a1, .int (iI x0), .int (iI x1)] D T [(a0, .inr (4, [.ref a2, .ref a3, .int (iI x2)])), (a1, .inr (9, [.ref a4, .ref a5, .ref a6, .ref a7, .ref a8, .ref a9, .ref a10, .ref a11, .ref a12, .int (iI x3), .int (iI x4), .int (iI x5), .int (iI x6), .int (iI x7), .int (iI x8), .int (iI x9), .int (iI x10), .int (iI x11)])), (a2, .inl (T 0, 9, .inl (cI f0))), (a3, .inl (T 0, 9, .inl f1)), (a8, .inl (T 0, 9, .inl (cI f2)))] sz) (qI D [(a0, .inr (4, [.ref a2, .ref a3, .int (iI x2)])), (a1, .inr (9, [.ref a4, .ref a5, .ref a6, .ref a7, .ref a8, .ref a9, .ref a10, .ref a11, .ref a12, .int (iI x3), .int (iI x4), .int (iI x5), .int (iI x6), .int (iI x7), .int (iI x8), .int (iI x9), .int (iI x10), .int (iI x11)])), (a2, .inl (T 0, 9, .inl (cI f0))), (a3, .inl (T 0, 9, .inl f1)), (a8, .inl (T 0, 9, .inl (cI f2)))] sz (fun (v : Int32) (u : Int × Int × (Int → Int) × (Nat → Int32)) => iI u.1 = v ∧ (-2147483648) ≤ u.1 ∧ u.1 ≤ 2147483647 ∧ 0 ≤ u.2.1 ∧ u.2.1 ≤ 9 ∧ rng 0 8 u.2.2.1) (fun u => [(a0, .inr (4, [.ref a2, .ref a3, .int (iI u.2.1)])), (a1, .inr (9, [.ref a4, .ref a5, .ref a6, .ref a7, .ref a8, .ref a9, .ref a10, .ref a11, .ref a12, .int (iI x3), .int (iI x4), .int (iI x5), .int (iI x6), .int (iI x7), .int (iI x8), .int (iI x9), .int (iI x10), .int (iI x11)])), (a2, .inl (T 0, 9, .inl (cI u.2.2.1))), (a3, .inl (T 0, 9, .inl u.2.2.2)), (a8, .inl (T 0, 9, .inl (cI f2)))])) 0 0 (va_A [(a0, .inr (4, [.ref a2, .ref a3, .int (iI x2)])), (a1, .inr (9, [.ref a4, .ref a5, .ref a6, .ref a7, .ref a8, .ref a9, .ref a10, .ref a11, .ref a12, .int (iI x3), .int (iI x4), .int (iI x5), .int (iI x6), .int (iI x7), .int (iI x8), .int (iI x9), .int (iI x10), .int (iI x11)])), (a2, .inl (T 0, 9, .inl (cI f0))), (a3, .inl (T 0, 9, .inl f1)), (a8, .inl (T 0, 9, .inl (cI f2)))] sz) := by
  refine e_I (by decide) (Nat.le_of_ble_eq_true rfl) ?_
  intro p e s m args below meth c A Q ls M hin w ret hl
  have hx := M.1.1
  have hb := M.1.2.1
  have hl : lv_has ls 6 [(0, .ref a0), (1, .ref a1), (2, .int (iI x0)), (3, .int (iI x1))] := hl
  refine lv_aload_n hx hb dX4_find_0 rfl (lv_at hl 0 rfl) ?_
  refine lv_aload_n hx hb dX4_find_1 rfl (lv_at hl 1 rfl) ?_
  refine lv_iload_n hx hb dX4_find_2 rfl (lv_at hl 2 rfl) ?_
  refine lv_iload_n hx hb dX4_find_3 rfl (lv_at hl 3 rfl) ?_
  refine k_I (ce := 0) (sl := 0) (rest := []) (wr := [(a2, .inl (T 0, 9, .inl (cI f0)))]) (r_V (f := 1) [0, 1, 3, 4] M w V_HookedCity_Path_22 G1047 G25 (c332_X4_layersUpTo l D T _ a0 a1 x0 x1 a2 a3 x2 a4 a5 a6 a7 a8 a9 a10 a11 a12 x3 x4 x5 x6 x7 x8 x9 x10 x11 f1 f2 x0_a x0_b x1_a x1_b x2_a x2_b x3_a x3_b x4_a x4_b x5_a x5_b x6_a x6_b x7_a x7_b x8_a x8_b x9_a x9_b x10_a x10_b x11_a x11_b f2_h) 0 clX4 rfl rfl (by decide) rfl hl.1 rfl (Nat.le_of_ble_eq_true rfl) dX4_find_4 (by decide) (by decide) (by decide) (by decide)) w [0, 1, 3, 4] [2] rfl rfl (by decide) (by decide) rfl rfl (fun v u H locs hp w => ?_)
  obtain ⟨z1, ff2⟩ := u
  have hv : iI z1 = v := hp.1
  subst hv
  have z1_a : (-1) ≤ z1 := hp.2.1
  have z1_b : z1 ≤ 8 := hp.2.2
  have w : WD D A s.heap [(a2, .inl (T 0, 9, .inl (cI f0))), (a0, .inr (4, [.ref a2, .ref a3, .int (iI x2)])), (a1, .inr (9, [.ref a4, .ref a5, .ref a6, .ref a7, .ref a8, .ref a9, .ref a10, .ref a11, .ref a12, .int (iI x3), .int (iI x4), .int (iI x5), .int (iI x6), .int (iI x7), .int (iI x8), .int (iI x9), .int (iI x10), .int (iI x11)])), (a3, .inl (T 0, 9, .inl ff2)), (a8, .inl (T 0, 9, .inl (cI f2)))] H locs := w
  refine lv_istore (lv' := [(4, .int (iI z1)), (0, .ref a0), (1, .ref a1), (2, .int (iI x0)), (3, .int (iI x1))]) hx hb dX4_find_7 hl (by decide) rfl (fun ls hl => ?_)
  refine lv_iload hx hb dX4_find_9 (lv_at hl 0 rfl) ?_
  refine lv_iconst (v := iI (-1)) hx hb dX4_find_11 (by decide +kernel) ?_
  refine lv_icmp_ne (tgt := 17) hx hb dX4_find_12 (by decide) (fun c_3 => ?_) (fun c_3 => ?_)
  · replace c_3 : ¬ z1 = (-1) := fun h => c_3 ((iI_eq (Int.le_trans (by decide) z1_a) (Int.le_trans z1_b (by decide)) (by decide) (by decide)).mpr h)
    refine lv_aload_n hx hb dX4_find_17 rfl (lv_at hl 1 rfl) ?_
    refine r_get (v := .ref a2) M w 1 0 clX4 rfl (by decide) G330 rfl rfl dX4_find_18 ?_
    refine lv_iconst (v := iI 0) hx hb dX4_find_21 (by decide +kernel) ?_
    refine lv_iload_n hx hb dX4_find_22 rfl (lv_at hl 3 rfl) ?_
    refine r_iast (ws' := [(a2, .inl (T 0, 9, .inl (cI (upz f0 0 x0)))), (a0, .inr (4, [.ref a2, .ref a3, .int (iI x2)])), (a1, .inr (9, [.ref a4, .ref a5, .ref a6, .ref a7, .ref a8, .ref a9, .ref a10, .ref a11, .ref a12, .int (iI x3), .int (iI x4), .int (iI x5), .int (iI x6), .int (iI x7), .int (iI x8), .int (iI x9), .int (iI x10), .int (iI x11)])), (a3, .inl (T 0, 9, .inl ff2)), (a8, .inl (T 0, 9, .inl (cI f2)))]) M w 0 rfl (iI_in (by decide) (by decide) (by decide)) (by rw [cI_up (by omega) (by omega)]; rfl) dX4_find_23 (fun H locs w => ?_)
    refine lv_iconst (v := iI 1) hx hb dX4_find_24 (by decide +kernel) ?_
    refine lv_istore (lv' := [(5, .int (iI 1)), (4, .int (iI z1)), (0, .ref a0), (1, .ref a1), (2, .int (iI x0)), (3, .int (iI x1))]) hx hb dX4_find_25 hl (by decide) rfl (fun ls hl => ?_)
    have loop1 : ∀ (k1 : Nat) (ff4 : Int → Int) (z5 : Int) (H : Heap) (locs : List Loc) (ls : Array Slot), rng 0 8 ff4 → 1 ≤ z5 → z5 ≤ 9 → ((9 - z5) : Int).toNat < k1 → WD D A s.heap [(a2, .inl (T 0, 9, .inl (cI ff4))), (a0, .inr (4, [.ref a2, .ref a3, .int (iI x2)])), (a1, .inr (9, [.ref a4, .ref a5, .ref a6, .ref a7, .ref a8, .ref a9, .ref a10, .ref a11, .ref a12, .int (iI x3), .int (iI x4), .int (iI x5), .int (iI x6), .int (iI x7), .int (iI x8), .int (iI x9), .int (iI x10), .int (iI x11)])), (a3, .inl (T 0, 9, .inl ff2)), (a8, .inl (T 0, 9, .inl (cI f2)))] H locs → lv_has ls 6 [(5, .int (iI z5)), (4, .int (iI z1)), (0, .ref a0), (1, .ref a1), (2, .int (iI x0)), (3, .int (iI x1))] → W p l e (Rm 2 0 0) s m args below meth c H locs 0 0 Q (F0 m 27 ls []) := by
      intro k1
      induction k1 with
      | zero => intro ff4 z5 H locs ls ff4_h z5_a z5_b hm; exact absurd hm (Nat.not_lt_zero _)
      | succ k1 ih1 =>
        intro ff4 z5 H locs ls ff4_h z5_a z5_b hm1 w hl
        refine lv_iload hx hb dX4_find_27 (lv_at hl 0 rfl) ?_
        refine lv_iload hx hb dX4_find_29 (lv_at hl 1 rfl) ?_
        refine lv_icmp_gt (tgt := 75) hx hb dX4_find_31 (by decide) (fun c_6 => ?_) (fun c_6 => ?_)
        · replace c_6 := (iI_lt (Int.le_trans (by decide) z1_a) (Int.le_trans z1_b (by decide)) (Int.le_trans (by decide) z5_a) (Int.le_trans z5_b (by decide))).mp c_6
          refine lv_aload_n hx hb dX4_find_75 rfl (lv_at hl 2 rfl) ?_
          refine lv_iload hx hb dX4_find_76 (lv_at hl 1 rfl) ?_
          refine lv_iconst (v := iI 1) hx hb dX4_find_78 (by decide +kernel) ?_
          refine r_iadd (v := iI (z1 + 1)) M (iI_add _ _) dX4_find_79 ?_
          refine r_put (ws' := [(a2, .inl (T 0, 9, .inl (cI ff4))), (a0, .inr (4, [.ref a2, .ref a3, .int (iI (z1 + 1))])), (a1, .inr (9, [.ref a4, .ref a5, .ref a6, .ref a7, .ref a8, .ref a9, .ref a10, .ref a11, .ref a12, .int (iI x3), .int (iI x4), .int (iI x5), .int (iI x6), .int (iI x7), .int (iI x8), .int (iI x9), .int (iI x10), .int (iI x11)])), (a3, .inl (T 0, 9, .inl ff2)), (a8, .inl (T 0, 9, .inl (cI f2)))]) M w 1 2 clX4 rfl (by decide) G333 rfl rfl rfl rfl (Nat.le_of_ble_eq_true rfl) rfl dX4_find_80 (fun H locs w => ?_)
          refine lv_iload hx hb dX4_find_83 (lv_at hl 1 rfl) ?_
          exact ret _ (z1, (z1 + 1), ff4, ff2) _ _ _ _ _ [1, 2, 0, 3, 4] dX4_find_85 ⟨rfl, (show (-2147483648) ≤ z1 from by omega), (show z1 ≤ 2147483647 from by omega), (show 0 ≤ (z1 + 1) from by omega), (show (z1 + 1) ≤ 9 from by omega), ff4_h⟩ w (by decide) rfl
        · replace c_6 : z5 ≤ z1 := Int.not_lt.mp (fun h => c_6 ((iI_lt (Int.le_trans (by decide) z1_a) (Int.le_trans z1_b (by decide)) (Int.le_trans (by decide) z5_a) (Int.le_trans z5_b (by decide))).mpr h))
          refine lv_aload_n hx hb dX4_find_34 rfl (lv_at hl 2 rfl) ?_
          refine r_get (v := .ref a2) M w 1 0 clX4 rfl (by decide) G330 rfl rfl dX4_find_35 ?_
          refine lv_iload hx hb dX4_find_38 (lv_at hl 0 rfl) ?_
          refine lv_aload_n hx hb dX4_find_40 rfl (lv_at hl 3 rfl) ?_
          refine r_getN (v := .ref a8) M w 2 4 clX9 rfl (by decide) N376 rfl rfl dX4_find_41 ?_
          refine lv_aload_n hx hb dX4_find_44 rfl (lv_at hl 2 rfl) ?_
          refine r_get (v := .ref a2) M w 1 0 clX4 rfl (by decide) G330 rfl rfl dX4_find_45 ?_
          refine lv_iload hx hb dX4_find_48 (lv_at hl 0 rfl) ?_
          refine lv_iconst (v := iI 1) hx hb dX4_find_50 (by decide +kernel) ?_
          refine r_isub (v := iI (z5 - 1)) M (iI_sub _ _) dX4_find_51 ?_
          refine r_iald (v := iI (ff4 (z5 - 1))) M w 0 rfl (iI_in (by omega) (by omega) (by decide)) (cI_at (by omega) (by omega)) dX4_find_52 ?_
          have hh7 : 0 ≤ (ff4 (z5 - 1)) ∧ (ff4 (z5 - 1)) ≤ 8 := ff4_h (z5 - 1)
          refine r_iald (v := iI (f2 (ff4 (z5 - 1)))) M w 4 rfl (iI_in (by omega) (by omega) (by decide)) (cI_at (by omega) (by omega)) dX4_find_53 ?_
          have hh8 : 0 ≤ (f2 (ff4 (z5 - 1))) ∧ (f2 (ff4 (z5 - 1))) ≤ 511 := f2_h (ff4 (z5 - 1))
          refine lv_aload_n hx hb dX4_find_54 rfl (lv_at hl 2 rfl) ?_
          refine r_get (v := .ref a3) M w 1 1 clX4 rfl (by decide) G332 rfl rfl dX4_find_55 ?_
          refine lv_iload hx hb dX4_find_58 (lv_at hl 1 rfl) ?_
          refine lv_iload hx hb dX4_find_60 (lv_at hl 0 rfl) ?_
          refine r_isub (v := iI (z1 - z5)) M (iI_sub _ _) dX4_find_62 ?_
          refine r_iald (v := _) M w 3 rfl (iI_in (by omega) (by omega) (by decide)) rfl dX4_find_63 ?_
          refine b_any (fun z9 z9_a z9_b => ?_)
          refine r_iand (v := _) M rfl dX4_find_64 ?_
          refine b_rng (lo := 0) (hi := (f2 (ff4 (z5 - 1)))) (iand_l (by omega) (by omega)) (fun z10 z10_a z10_b => ?_)
          refine k_I (ce := 0) (sl := 0) (rest := [.int (iI z5), .ref a2]) (wr := [(a2, .inl (T 0, 9, .inl (cI ff4))), (a0, .inr (4, [.ref a2, .ref a3, .int (iI x2)])), (a1, .inr (9, [.ref a4, .ref a5, .ref a6, .ref a7, .ref a8, .ref a9, .ref a10, .ref a11, .ref a12, .int (iI x3), .int (iI x4), .int (iI x5), .int (iI x6), .int (iI x7), .int (iI x8), .int (iI x9), .int (iI x10), .int (iI x11)])), (a3, .inl (T 0, 9, .inl ff2)), (a8, .inl (T 0, 9, .inl (cI f2)))]) (r_S (f := 1) [] M w V_HookedCity_Path_31 G1053 (c334_X4_firstOf l D T _ z10 (by omega) (by omega)) rfl (by decide) rfl hl.1 rfl (Nat.le_of_ble_eq_true rfl) dX4_find_65 (by decide) (by decide) (by decide) (by decide)) w [] [0, 1, 2, 3, 4] rfl rfl (by decide) (by decide) rfl rfl (fun v z11 H locs hp w => ?_)
          have hv : iI z11 = v := hp.1
          subst hv
          have z11_a : 0 ≤ z11 := hp.2.1
          have z11_b : z11 ≤ 8 := hp.2.2.1
          have w : WD D A s.heap [(a2, .inl (T 0, 9, .inl (cI ff4))), (a0, .inr (4, [.ref a2, .ref a3, .int (iI x2)])), (a1, .inr (9, [.ref a4, .ref a5, .ref a6, .ref a7, .ref a8, .ref a9, .ref a10, .ref a11, .ref a12, .int (iI x3), .int (iI x4), .int (iI x5), .int (iI x6), .int (iI x7), .int (iI x8), .int (iI x9), .int (iI x10), .int (iI x11)])), (a3, .inl (T 0, 9, .inl ff2)), (a8, .inl (T 0, 9, .inl (cI f2)))] H locs := w
          rcases hp.2.2.2 with c_12 | ⟨c_13, hr⟩
          · refine r_iast (ws' := [(a2, .inl (T 0, 9, .inl (cI (upz ff4 z5 z11)))), (a0, .inr (4, [.ref a2, .ref a3, .int (iI x2)])), (a1, .inr (9, [.ref a4, .ref a5, .ref a6, .ref a7, .ref a8, .ref a9, .ref a10, .ref a11, .ref a12, .int (iI x3), .int (iI x4), .int (iI x5), .int (iI x6), .int (iI x7), .int (iI x8), .int (iI x9), .int (iI x10), .int (iI x11)])), (a3, .inl (T 0, 9, .inl ff2)), (a8, .inl (T 0, 9, .inl (cI f2)))]) M w 0 rfl (iI_in (by omega) (by omega) (by decide)) (by rw [cI_up (by omega) (by omega)]; rfl) dX4_find_68 (fun H locs w => ?_)
            refine lv_iinc (v := iI (z5 + 1)) (lv' := [(5, .int (iI (z5 + 1))), (4, .int (iI z1)), (0, .ref a0), (1, .ref a1), (2, .int (iI x0)), (3, .int (iI x1))]) hx hb dX4_find_69 hl (k := 0) rfl (ii_inc (by decide +kernel)) (by decide) rfl (fun ls hl => ?_)
            refine lv_goto (tgt := 27) hx hb dX4_find_72 (by decide) ?_
            exact ih1 (upz ff4 z5 z11) (z5 + 1) _ _ _ (rng_up ff4_h (by omega) (by omega)) (by omega) (by omega) (by omega) w (lv_sub hl [0, 1, 2, 3, 4, 5] rfl)
          · subst hr
            refine r_iast (ws' := [(a2, .inl (T 0, 9, .inl (cI (upz ff4 z5 0)))), (a0, .inr (4, [.ref a2, .ref a3, .int (iI x2)])), (a1, .inr (9, [.ref a4, .ref a5, .ref a6, .ref a7, .ref a8, .ref a9, .ref a10, .ref a11, .ref a12, .int (iI x3), .int (iI x4), .int (iI x5), .int (iI x6), .int (iI x7), .int (iI x8), .int (iI x9), .int (iI x10), .int (iI x11)])), (a3, .inl (T 0, 9, .inl ff2)), (a8, .inl (T 0, 9, .inl (cI f2)))]) M w 0 rfl (iI_in (by omega) (by omega) (by decide)) (by rw [cI_up (by omega) (by omega)]; rfl) dX4_find_68 (fun H locs w => ?_)
            refine lv_iinc (v := iI (z5 + 1)) (lv' := [(5, .int (iI (z5 + 1))), (4, .int (iI z1)), (0, .ref a0), (1, .ref a1), (2, .int (iI x0)), (3, .int (iI x1))]) hx hb dX4_find_69 hl (k := 0) rfl (ii_inc (by decide +kernel)) (by decide) rfl (fun ls hl => ?_)
            refine lv_goto (tgt := 27) hx hb dX4_find_72 (by decide) ?_
            exact ih1 (upz ff4 z5 0) (z5 + 1) _ _ _ (rng_up ff4_h (by omega) (by omega)) (by omega) (by omega) (by omega) w (lv_sub hl [0, 1, 2, 3, 4, 5] rfl)
    exact loop1 ((8 : Int).toNat + 1) (upz f0 0 x0) 1 _ _ _ (rng_up f0_h (by omega) (by omega)) (by decide) (by decide) (Nat.lt_succ_self _) w (lv_sub hl [0, 1, 2, 3, 4, 5] rfl)
  · replace c_3 := (iI_eq (Int.le_trans (by decide) z1_a) (Int.le_trans z1_b (by decide)) (by decide) (by decide)).mp c_3
    refine lv_iconst (v := iI (-1)) hx hb dX4_find_15 (by decide +kernel) ?_
    exact ret _ ((-1), x2, f0, ff2) _ _ _ _ _ [1, 2, 0, 3, 4] dX4_find_16 ⟨rfl, (show (-2147483648) ≤ (-1) from by decide), (show ((-1) : Int) ≤ 2147483647 from by decide), x2_a, x2_b, f0_h⟩ w (by decide) rfl
