theorem dX6_isAsTold_0 : decode cX6_isAsTold 0 = .ok (.aload_n 0, 1) := by decide +kernel
theorem dX6_isAsTold_1 : decode cX6_isAsTold 1 = .ok (.getfield 39, 3) := by decide +kernel
theorem N163 : Cond.fieldLinkNest "HookedCity$Slipped" 39 "HookedCity$Tape" "length" "I" "HookedCity" ∈ lw_tbl := List.mem_of_getElem? (i := 163) (by decide +kernel)
theorem dX6_isAsTold_4 : decode cX6_isAsTold 4 = .ok (.iconst 2, 1) := by decide +kernel
theorem dX6_isAsTold_5 : decode cX6_isAsTold 5 = .ok (.if_icmp .lt 21, 3) := by decide +kernel
theorem dX6_isAsTold_26 : decode cX6_isAsTold 26 = .ok (.iconst 0, 1) := by decide +kernel
theorem dX6_isAsTold_27 : decode cX6_isAsTold 27 = .ok (.ireturn, 1) := by decide +kernel
theorem dX6_isAsTold_8 : decode cX6_isAsTold 8 = .ok (.aload_n 0, 1) := by decide +kernel
theorem dX6_isAsTold_9 : decode cX6_isAsTold 9 = .ok (.getfield 39, 3) := by decide +kernel
theorem dX6_isAsTold_12 : decode cX6_isAsTold 12 = .ok (.bipush 16, 2) := by decide +kernel
theorem dX6_isAsTold_14 : decode cX6_isAsTold 14 = .ok (.if_icmp .gt 12, 3) := by decide +kernel
theorem dX6_isAsTold_17 : decode cX6_isAsTold 17 = .ok (.aload_n 0, 1) := by decide +kernel
theorem dX6_isAsTold_18 : decode cX6_isAsTold 18 = .ok (.getfield 39, 3) := by decide +kernel
theorem dX6_isAsTold_21 : decode cX6_isAsTold 21 = .ok (.iconst 2, 1) := by decide +kernel
theorem dX6_isAsTold_22 : decode cX6_isAsTold 22 = .ok (.irem, 1) := by decide +kernel
theorem dX6_isAsTold_23 : decode cX6_isAsTold 23 = .ok (.ifCond .eq 5, 3) := by decide +kernel
theorem dX6_isAsTold_28 : decode cX6_isAsTold 28 = .ok (.iconst 0, 1) := by decide +kernel
theorem dX6_isAsTold_29 : decode cX6_isAsTold 29 = .ok (.istore_n 2, 1) := by decide +kernel
theorem dX6_isAsTold_30 : decode cX6_isAsTold 30 = .ok (.iload_n 2, 1) := by decide +kernel
theorem dX6_isAsTold_31 : decode cX6_isAsTold 31 = .ok (.iconst 1, 1) := by decide +kernel
theorem dX6_isAsTold_32 : decode cX6_isAsTold 32 = .ok (.iadd, 1) := by decide +kernel
theorem dX6_isAsTold_33 : decode cX6_isAsTold 33 = .ok (.aload_n 0, 1) := by decide +kernel
theorem dX6_isAsTold_34 : decode cX6_isAsTold 34 = .ok (.getfield 39, 3) := by decide +kernel
theorem dX6_isAsTold_37 : decode cX6_isAsTold 37 = .ok (.if_icmp .ge 42, 3) := by decide +kernel
theorem dX6_isAsTold_79 : decode cX6_isAsTold 79 = .ok (.iconst 1, 1) := by decide +kernel
theorem dX6_isAsTold_80 : decode cX6_isAsTold 80 = .ok (.ireturn, 1) := by decide +kernel
theorem dX6_isAsTold_40 : decode cX6_isAsTold 40 = .ok (.aload_n 0, 1) := by decide +kernel
theorem dX6_isAsTold_41 : decode cX6_isAsTold 41 = .ok (.getfield 44, 3) := by decide +kernel
theorem N161 : Cond.fieldLinkNest "HookedCity$Slipped" 44 "HookedCity$Tape" "bytes" "[I" "HookedCity" ∈ lw_tbl := List.mem_of_getElem? (i := 161) (by decide +kernel)
theorem dX6_isAsTold_44 : decode cX6_isAsTold 44 = .ok (.iload_n 2, 1) := by decide +kernel
theorem dX6_isAsTold_45 : decode cX6_isAsTold 45 = .ok (.iconst 1, 1) := by decide +kernel
theorem dX6_isAsTold_46 : decode cX6_isAsTold 46 = .ok (.iadd, 1) := by decide +kernel
theorem dX6_isAsTold_47 : decode cX6_isAsTold 47 = .ok (.iaload, 1) := by decide +kernel
theorem dX6_isAsTold_48 : decode cX6_isAsTold 48 = .ok (.istore_n 3, 1) := by decide +kernel
theorem dX6_isAsTold_49 : decode cX6_isAsTold 49 = .ok (.aload_n 0, 1) := by decide +kernel
theorem dX6_isAsTold_50 : decode cX6_isAsTold 50 = .ok (.getfield 44, 3) := by decide +kernel
theorem dX6_isAsTold_53 : decode cX6_isAsTold 53 = .ok (.iload_n 2, 1) := by decide +kernel
theorem dX6_isAsTold_54 : decode cX6_isAsTold 54 = .ok (.iaload, 1) := by decide +kernel
theorem dX6_isAsTold_55 : decode cX6_isAsTold 55 = .ok (.iload_n 1, 1) := by decide +kernel
theorem dX6_isAsTold_56 : decode cX6_isAsTold 56 = .ok (.if_icmp .ge 15, 3) := by decide +kernel
theorem dX6_isAsTold_71 : decode cX6_isAsTold 71 = .ok (.iconst 0, 1) := by decide +kernel
theorem dX6_isAsTold_72 : decode cX6_isAsTold 72 = .ok (.ireturn, 1) := by decide +kernel
theorem dX6_isAsTold_59 : decode cX6_isAsTold 59 = .ok (.iload_n 3, 1) := by decide +kernel
theorem dX6_isAsTold_60 : decode cX6_isAsTold 60 = .ok (.iload_n 1, 1) := by decide +kernel
theorem dX6_isAsTold_61 : decode cX6_isAsTold 61 = .ok (.if_icmp .lt 12, 3) := by decide +kernel
theorem dX6_isAsTold_73 : decode cX6_isAsTold 73 = .ok (.iinc 2 2, 3) := by decide +kernel
theorem dX6_isAsTold_76 : decode cX6_isAsTold 76 = .ok (.goto (-46), 3) := by decide +kernel
theorem dX6_isAsTold_64 : decode cX6_isAsTold 64 = .ok (.iload_n 3, 1) := by decide +kernel
theorem dX6_isAsTold_65 : decode cX6_isAsTold 65 = .ok (.sipush 255, 3) := by decide +kernel
theorem dX6_isAsTold_68 : decode cX6_isAsTold 68 = .ok (.if_icmp .eq 5, 3) := by decide +kernel
theorem dJ6_bitCount_0f7a4_0 : decode cJ6_bitCount_0f7a4 0 = .ok (.iload_n 0, 1) := by decide +kernel
theorem dJ6_bitCount_0f7a4_1 : decode cJ6_bitCount_0f7a4 1 = .ok (.iload_n 0, 1) := by decide +kernel
theorem dJ6_bitCount_0f7a4_2 : decode cJ6_bitCount_0f7a4 2 = .ok (.iconst 1, 1) := by decide +kernel
theorem dJ6_bitCount_0f7a4_3 : decode cJ6_bitCount_0f7a4 3 = .ok (.iushr, 1) := by decide +kernel
theorem dJ6_bitCount_0f7a4_4 : decode cJ6_bitCount_0f7a4 4 = .ok (.ldc_w 265, 3) := by decide +kernel
theorem G1025 : Cond.constant "java/lang/Integer" 265 1431655765 ∈ GW := gw_i 1025 (by decide +kernel) rfl
theorem dJ6_bitCount_0f7a4_7 : decode cJ6_bitCount_0f7a4 7 = .ok (.iand, 1) := by decide +kernel
theorem dJ6_bitCount_0f7a4_8 : decode cJ6_bitCount_0f7a4 8 = .ok (.isub, 1) := by decide +kernel
theorem dJ6_bitCount_0f7a4_9 : decode cJ6_bitCount_0f7a4 9 = .ok (.istore_n 0, 1) := by decide +kernel
theorem dJ6_bitCount_0f7a4_10 : decode cJ6_bitCount_0f7a4 10 = .ok (.iload_n 0, 1) := by decide +kernel
theorem dJ6_bitCount_0f7a4_11 : decode cJ6_bitCount_0f7a4 11 = .ok (.ldc_w 266, 3) := by decide +kernel
theorem G1026 : Cond.constant "java/lang/Integer" 266 858993459 ∈ GW := gw_i 1026 (by decide +kernel) rfl
theorem dJ6_bitCount_0f7a4_14 : decode cJ6_bitCount_0f7a4 14 = .ok (.iand, 1) := by decide +kernel
theorem dJ6_bitCount_0f7a4_15 : decode cJ6_bitCount_0f7a4 15 = .ok (.iload_n 0, 1) := by decide +kernel
theorem dJ6_bitCount_0f7a4_16 : decode cJ6_bitCount_0f7a4 16 = .ok (.iconst 2, 1) := by decide +kernel
theorem dJ6_bitCount_0f7a4_17 : decode cJ6_bitCount_0f7a4 17 = .ok (.iushr, 1) := by decide +kernel
theorem dJ6_bitCount_0f7a4_18 : decode cJ6_bitCount_0f7a4 18 = .ok (.ldc_w 266, 3) := by decide +kernel
theorem dJ6_bitCount_0f7a4_21 : decode cJ6_bitCount_0f7a4 21 = .ok (.iand, 1) := by decide +kernel
theorem dJ6_bitCount_0f7a4_22 : decode cJ6_bitCount_0f7a4 22 = .ok (.iadd, 1) := by decide +kernel
theorem dJ6_bitCount_0f7a4_23 : decode cJ6_bitCount_0f7a4 23 = .ok (.istore_n 0, 1) := by decide +kernel
theorem dJ6_bitCount_0f7a4_24 : decode cJ6_bitCount_0f7a4 24 = .ok (.iload_n 0, 1) := by decide +kernel
theorem dJ6_bitCount_0f7a4_25 : decode cJ6_bitCount_0f7a4 25 = .ok (.iload_n 0, 1) := by decide +kernel
theorem dJ6_bitCount_0f7a4_26 : decode cJ6_bitCount_0f7a4 26 = .ok (.iconst 4, 1) := by decide +kernel
theorem dJ6_bitCount_0f7a4_27 : decode cJ6_bitCount_0f7a4 27 = .ok (.iushr, 1) := by decide +kernel
theorem dJ6_bitCount_0f7a4_28 : decode cJ6_bitCount_0f7a4 28 = .ok (.iadd, 1) := by decide +kernel
theorem dJ6_bitCount_0f7a4_29 : decode cJ6_bitCount_0f7a4 29 = .ok (.ldc_w 267, 3) := by decide +kernel
theorem G1027 : Cond.constant "java/lang/Integer" 267 252645135 ∈ GW := gw_i 1027 (by decide +kernel) rfl
theorem dJ6_bitCount_0f7a4_32 : decode cJ6_bitCount_0f7a4 32 = .ok (.iand, 1) := by decide +kernel
theorem dJ6_bitCount_0f7a4_33 : decode cJ6_bitCount_0f7a4 33 = .ok (.istore_n 0, 1) := by decide +kernel
theorem dJ6_bitCount_0f7a4_34 : decode cJ6_bitCount_0f7a4 34 = .ok (.iload_n 0, 1) := by decide +kernel
theorem dJ6_bitCount_0f7a4_35 : decode cJ6_bitCount_0f7a4 35 = .ok (.iload_n 0, 1) := by decide +kernel
theorem dJ6_bitCount_0f7a4_36 : decode cJ6_bitCount_0f7a4 36 = .ok (.bipush 8, 2) := by decide +kernel
theorem dJ6_bitCount_0f7a4_38 : decode cJ6_bitCount_0f7a4 38 = .ok (.iushr, 1) := by decide +kernel
theorem dJ6_bitCount_0f7a4_39 : decode cJ6_bitCount_0f7a4 39 = .ok (.iadd, 1) := by decide +kernel
theorem dJ6_bitCount_0f7a4_40 : decode cJ6_bitCount_0f7a4 40 = .ok (.istore_n 0, 1) := by decide +kernel
theorem dJ6_bitCount_0f7a4_41 : decode cJ6_bitCount_0f7a4 41 = .ok (.iload_n 0, 1) := by decide +kernel
theorem dJ6_bitCount_0f7a4_42 : decode cJ6_bitCount_0f7a4 42 = .ok (.iload_n 0, 1) := by decide +kernel
theorem dJ6_bitCount_0f7a4_43 : decode cJ6_bitCount_0f7a4 43 = .ok (.bipush 16, 2) := by decide +kernel
theorem dJ6_bitCount_0f7a4_45 : decode cJ6_bitCount_0f7a4 45 = .ok (.iushr, 1) := by decide +kernel
theorem dJ6_bitCount_0f7a4_46 : decode cJ6_bitCount_0f7a4 46 = .ok (.iadd, 1) := by decide +kernel
theorem dJ6_bitCount_0f7a4_47 : decode cJ6_bitCount_0f7a4 47 = .ok (.istore_n 0, 1) := by decide +kernel
theorem dJ6_bitCount_0f7a4_48 : decode cJ6_bitCount_0f7a4 48 = .ok (.iload_n 0, 1) := by decide +kernel
theorem dJ6_bitCount_0f7a4_49 : decode cJ6_bitCount_0f7a4 49 = .ok (.bipush 63, 2) := by decide +kernel
theorem dJ6_bitCount_0f7a4_51 : decode cJ6_bitCount_0f7a4 51 = .ok (.iand, 1) := by decide +kernel
theorem dJ6_bitCount_0f7a4_52 : decode cJ6_bitCount_0f7a4 52 = .ok (.ireturn, 1) := by decide +kernel
theorem dJ6_numberOfTrailingZeros_0f7a4_41 : decode cJ6_numberOfTrailingZeros_0f7a4 41 = .ok (.iinc 1 8, 3) := by decide +kernel
theorem dJ6_numberOfTrailingZeros_0f7a4_44 : decode cJ6_numberOfTrailingZeros_0f7a4 44 = .ok (.iload_n 0, 1) := by decide +kernel
theorem dJ6_numberOfTrailingZeros_0f7a4_45 : decode cJ6_numberOfTrailingZeros_0f7a4 45 = .ok (.bipush 8, 2) := by decide +kernel
theorem dJ6_numberOfTrailingZeros_0f7a4_47 : decode cJ6_numberOfTrailingZeros_0f7a4 47 = .ok (.iushr, 1) := by decide +kernel
theorem dJ6_numberOfTrailingZeros_0f7a4_48 : decode cJ6_numberOfTrailingZeros_0f7a4 48 = .ok (.istore_n 0, 1) := by decide +kernel
theorem dX6_foundOf_0 : decode cX6_foundOf 0 = .ok (.iload_n 0, 1) := by decide +kernel
theorem dX6_foundOf_1 : decode cX6_foundOf 1 = .ok (.iload_n 2, 1) := by decide +kernel
theorem dX6_foundOf_2 : decode cX6_foundOf 2 = .ok (.if_icmp .ge 9, 3) := by decide +kernel
theorem dX6_foundOf_11 : decode cX6_foundOf 11 = .ok (.iload_n 0, 1) := by decide +kernel
theorem dX6_foundOf_12 : decode cX6_foundOf 12 = .ok (.iconst 2, 1) := by decide +kernel
theorem dX6_foundOf_13 : decode cX6_foundOf 13 = .ok (.iadd, 1) := by decide +kernel
theorem dX6_foundOf_14 : decode cX6_foundOf 14 = .ok (.istore_n 3, 1) := by decide +kernel
theorem dX6_foundOf_15 : decode cX6_foundOf 15 = .ok (.iload_n 3, 1) := by decide +kernel
theorem dX6_foundOf_16 : decode cX6_foundOf 16 = .ok (.iload_n 1, 1) := by decide +kernel
theorem dX6_foundOf_17 : decode cX6_foundOf 17 = .ok (.if_icmp .ge 7, 3) := by decide +kernel
theorem dX6_foundOf_24 : decode cX6_foundOf 24 = .ok (.sipush 255, 3) := by decide +kernel
theorem dX6_foundOf_27 : decode cX6_foundOf 27 = .ok (.ireturn, 1) := by decide +kernel
theorem dX6_foundOf_20 : decode cX6_foundOf 20 = .ok (.iload_n 3, 1) := by decide +kernel
theorem dX6_foundOf_21 : decode cX6_foundOf 21 = .ok (.goto 6, 3) := by decide +kernel
theorem dX6_foundOf_5 : decode cX6_foundOf 5 = .ok (.iload_n 0, 1) := by decide +kernel
theorem dX6_foundOf_6 : decode cX6_foundOf 6 = .ok (.iconst 1, 1) := by decide +kernel
theorem dX6_foundOf_7 : decode cX6_foundOf 7 = .ok (.iadd, 1) := by decide +kernel
theorem dX6_foundOf_8 : decode cX6_foundOf 8 = .ok (.goto 6, 3) := by decide +kernel
theorem dX6_mostLeft_0 : decode cX6_mostLeft 0 = .ok (.iload_n 0, 1) := by decide +kernel
theorem dX6_mostLeft_1 : decode cX6_mostLeft 1 = .ok (.invokestatic 36, 3) := by decide +kernel
theorem G1024 : Cond.code ⟨"java/lang/Integer", "bitCount", "(I)I"⟩ prog_21_method_49_code 1 (some .int) ∈ GW := gw_i 1024 (by decide +kernel) rfl
theorem G1022 : Cond.methodLink "HookedCity$Slipped" 36 ⟨"java/lang/Integer", "bitCount", "(I)I"⟩ ∈ GW := gw_i 1022 (by decide +kernel) rfl
theorem V_HookedCity_Slipped_36 : VL "HookedCity$Slipped" 36 yJ6_bitCount_0f7a4 cJ6_bitCount_0f7a4 1 (some .int) 1 := ⟨G1024, G1022, G145, by decide +kernel, by decide +kernel, by decide +kernel⟩
theorem G1023 : Cond.static ⟨"java/lang/Integer", "bitCount", "(I)I"⟩ ∈ GW := gw_i 1023 (by decide +kernel) rfl
theorem dX6_mostLeft_4 : decode cX6_mostLeft 4 = .ok (.istore_n 3, 1) := by decide +kernel
theorem dX6_mostLeft_5 : decode cX6_mostLeft 5 = .ok (.iload_n 2, 1) := by decide +kernel
theorem dX6_mostLeft_6 : decode cX6_mostLeft 6 = .ok (.iload_n 1, 1) := by decide +kernel
theorem dX6_mostLeft_7 : decode cX6_mostLeft 7 = .ok (.iload_n 2, 1) := by decide +kernel
theorem dX6_mostLeft_8 : decode cX6_mostLeft 8 = .ok (.invokestatic 48, 3) := by decide +kernel
theorem G1011 : Cond.code ⟨"HookedCity$Slipped", "foundOf", "(III)I"⟩ prog_8_method_5_code 4 (some .int) ∈ GW := gw_i 1011 (by decide +kernel) rfl
theorem G1009 : Cond.methodLink "HookedCity$Slipped" 48 ⟨"HookedCity$Slipped", "foundOf", "(III)I"⟩ ∈ GW := gw_i 1009 (by decide +kernel) rfl
theorem G125 : Cond.initialized "HookedCity$Slipped" ∈ GW := gw_i 125 (by decide +kernel) rfl
theorem V_HookedCity_Slipped_48 : VL "HookedCity$Slipped" 48 yX6_foundOf cX6_foundOf 4 (some .int) 3 := ⟨G1011, G1009, G125, by decide +kernel, by decide +kernel, by decide +kernel⟩
theorem G1010 : Cond.static ⟨"HookedCity$Slipped", "foundOf", "(III)I"⟩ ∈ GW := gw_i 1010 (by decide +kernel) rfl
theorem dX6_mostLeft_11 : decode cX6_mostLeft 11 = .ok (.iload_n 2, 1) := by decide +kernel
theorem dX6_mostLeft_12 : decode cX6_mostLeft 12 = .ok (.iload_n 1, 1) := by decide +kernel
theorem dX6_mostLeft_13 : decode cX6_mostLeft 13 = .ok (.iload_n 2, 1) := by decide +kernel
theorem dX6_mostLeft_14 : decode cX6_mostLeft 14 = .ok (.iconst 1, 1) := by decide +kernel
theorem dX6_mostLeft_15 : decode cX6_mostLeft 15 = .ok (.iadd, 1) := by decide +kernel
theorem dX6_mostLeft_16 : decode cX6_mostLeft 16 = .ok (.invokestatic 48, 3) := by decide +kernel
theorem dX6_mostLeft_19 : decode cX6_mostLeft 19 = .ok (.if_icmp .ne 5, 3) := by decide +kernel
theorem dX6_mostLeft_24 : decode cX6_mostLeft 24 = .ok (.iload_n 0, 1) := by decide +kernel
theorem dX6_mostLeft_25 : decode cX6_mostLeft 25 = .ok (.iconst 1, 1) := by decide +kernel
theorem dX6_mostLeft_26 : decode cX6_mostLeft 26 = .ok (.iload_n 2, 1) := by decide +kernel
theorem dX6_mostLeft_27 : decode cX6_mostLeft 27 = .ok (.iconst 1, 1) := by decide +kernel
theorem dX6_mostLeft_28 : decode cX6_mostLeft 28 = .ok (.iadd, 1) := by decide +kernel
theorem dX6_mostLeft_29 : decode cX6_mostLeft 29 = .ok (.ishl, 1) := by decide +kernel
theorem dX6_mostLeft_30 : decode cX6_mostLeft 30 = .ok (.iconst 1, 1) := by decide +kernel
theorem dX6_mostLeft_31 : decode cX6_mostLeft 31 = .ok (.isub, 1) := by decide +kernel
theorem dX6_mostLeft_32 : decode cX6_mostLeft 32 = .ok (.iand, 1) := by decide +kernel
theorem dX6_mostLeft_33 : decode cX6_mostLeft 33 = .ok (.invokestatic 36, 3) := by decide +kernel
theorem dX6_mostLeft_36 : decode cX6_mostLeft 36 = .ok (.istore 4, 2) := by decide +kernel
theorem dX6_mostLeft_38 : decode cX6_mostLeft 38 = .ok (.iload 4, 2) := by decide +kernel
theorem dX6_mostLeft_40 : decode cX6_mostLeft 40 = .ok (.iload_n 3, 1) := by decide +kernel
theorem dX6_mostLeft_41 : decode cX6_mostLeft 41 = .ok (.iload 4, 2) := by decide +kernel
theorem dX6_mostLeft_43 : decode cX6_mostLeft 43 = .ok (.isub, 1) := by decide +kernel
theorem dX6_mostLeft_44 : decode cX6_mostLeft 44 = .ok (.invokestatic 55, 3) := by decide +kernel
theorem G1028 : Cond.methodLink "HookedCity$Slipped" 55 ⟨"java/lang/Math", "max", "(II)I"⟩ ∈ GW := gw_i 1028 (by decide +kernel) rfl
theorem dX6_mostLeft_47 : decode cX6_mostLeft 47 = .ok (.ireturn, 1) := by decide +kernel
theorem dX6_mostLeft_22 : decode cX6_mostLeft 22 = .ok (.iload_n 3, 1) := by decide +kernel
theorem dX6_mostLeft_23 : decode cX6_mostLeft 23 = .ok (.ireturn, 1) := by decide +kernel
theorem dX6_bestToTurn_0 : decode cX6_bestToTurn 0 = .ok (.iconst (-1), 1) := by decide +kernel
theorem dX6_bestToTurn_1 : decode cX6_bestToTurn 1 = .ok (.istore_n 2, 1) := by decide +kernel
theorem dX6_bestToTurn_2 : decode cX6_bestToTurn 2 = .ok (.iconst 0, 1) := by decide +kernel
theorem dX6_bestToTurn_3 : decode cX6_bestToTurn 3 = .ok (.istore_n 3, 1) := by decide +kernel
theorem dX6_bestToTurn_4 : decode cX6_bestToTurn 4 = .ok (.iconst 0, 1) := by decide +kernel
theorem dX6_bestToTurn_5 : decode cX6_bestToTurn 5 = .ok (.istore 4, 2) := by decide +kernel
theorem dX6_bestToTurn_7 : decode cX6_bestToTurn 7 = .ok (.iload 4, 2) := by decide +kernel
theorem dX6_bestToTurn_9 : decode cX6_bestToTurn 9 = .ok (.iload_n 1, 1) := by decide +kernel
theorem dX6_bestToTurn_10 : decode cX6_bestToTurn 10 = .ok (.if_icmp .ge 35, 3) := by decide +kernel
theorem dX6_bestToTurn_45 : decode cX6_bestToTurn 45 = .ok (.iload_n 2, 1) := by decide +kernel
theorem dX6_bestToTurn_46 : decode cX6_bestToTurn 46 = .ok (.ireturn, 1) := by decide +kernel
theorem dX6_bestToTurn_13 : decode cX6_bestToTurn 13 = .ok (.iload_n 0, 1) := by decide +kernel
theorem dX6_bestToTurn_14 : decode cX6_bestToTurn 14 = .ok (.iload_n 1, 1) := by decide +kernel
theorem dX6_bestToTurn_15 : decode cX6_bestToTurn 15 = .ok (.iload 4, 2) := by decide +kernel
theorem dX6_bestToTurn_17 : decode cX6_bestToTurn 17 = .ok (.invokestatic 52, 3) := by decide +kernel
theorem G1021 : Cond.code ⟨"HookedCity$Slipped", "mostLeft", "(III)I"⟩ prog_8_method_7_code 5 (some .int) ∈ GW := gw_i 1021 (by decide +kernel) rfl
theorem G1019 : Cond.methodLink "HookedCity$Slipped" 52 ⟨"HookedCity$Slipped", "mostLeft", "(III)I"⟩ ∈ GW := gw_i 1019 (by decide +kernel) rfl
theorem V_HookedCity_Slipped_52 : VL "HookedCity$Slipped" 52 yX6_mostLeft cX6_mostLeft 5 (some .int) 3 := ⟨G1021, G1019, G125, by decide +kernel, by decide +kernel, by decide +kernel⟩
theorem G1020 : Cond.static ⟨"HookedCity$Slipped", "mostLeft", "(III)I"⟩ ∈ GW := gw_i 1020 (by decide +kernel) rfl
theorem dX6_bestToTurn_20 : decode cX6_bestToTurn 20 = .ok (.istore 5, 2) := by decide +kernel
theorem dX6_bestToTurn_22 : decode cX6_bestToTurn 22 = .ok (.iload_n 2, 1) := by decide +kernel
theorem dX6_bestToTurn_23 : decode cX6_bestToTurn 23 = .ok (.iconst (-1), 1) := by decide +kernel
theorem dX6_bestToTurn_24 : decode cX6_bestToTurn 24 = .ok (.if_icmp .eq 9, 3) := by decide +kernel
theorem dX6_bestToTurn_33 : decode cX6_bestToTurn 33 = .ok (.iload 4, 2) := by decide +kernel
theorem dX6_bestToTurn_35 : decode cX6_bestToTurn 35 = .ok (.istore_n 2, 1) := by decide +kernel
theorem dX6_bestToTurn_36 : decode cX6_bestToTurn 36 = .ok (.iload 5, 2) := by decide +kernel
theorem dX6_bestToTurn_38 : decode cX6_bestToTurn 38 = .ok (.istore_n 3, 1) := by decide +kernel
theorem dX6_bestToTurn_39 : decode cX6_bestToTurn 39 = .ok (.iinc 4 1, 3) := by decide +kernel
theorem dX6_bestToTurn_42 : decode cX6_bestToTurn 42 = .ok (.goto (-35), 3) := by decide +kernel
theorem dX6_bestToTurn_27 : decode cX6_bestToTurn 27 = .ok (.iload 5, 2) := by decide +kernel
theorem dX6_bestToTurn_29 : decode cX6_bestToTurn 29 = .ok (.iload_n 3, 1) := by decide +kernel
theorem dX6_bestToTurn_30 : decode cX6_bestToTurn 30 = .ok (.if_icmp .ge 9, 3) := by decide +kernel
theorem dX6_fits_0 : decode cX6_fits 0 = .ok (.iconst 0, 1) := by decide +kernel
theorem dX6_fits_1 : decode cX6_fits 1 = .ok (.istore_n 3, 1) := by decide +kernel
theorem dX6_fits_2 : decode cX6_fits 2 = .ok (.iload_n 3, 1) := by decide +kernel
theorem dX6_fits_3 : decode cX6_fits 3 = .ok (.iconst 1, 1) := by decide +kernel
theorem dX6_fits_4 : decode cX6_fits 4 = .ok (.iadd, 1) := by decide +kernel
theorem dX6_fits_5 : decode cX6_fits 5 = .ok (.aload_n 0, 1) := by decide +kernel
theorem dX6_fits_6 : decode cX6_fits 6 = .ok (.getfield 39, 3) := by decide +kernel
theorem dX6_fits_9 : decode cX6_fits 9 = .ok (.if_icmp .ge 33, 3) := by decide +kernel
theorem dX6_fits_42 : decode cX6_fits 42 = .ok (.iconst 1, 1) := by decide +kernel
theorem dX6_fits_43 : decode cX6_fits 43 = .ok (.ireturn, 1) := by decide +kernel
theorem dX6_fits_12 : decode cX6_fits 12 = .ok (.aload_n 0, 1) := by decide +kernel
theorem dX6_fits_13 : decode cX6_fits 13 = .ok (.getfield 44, 3) := by decide +kernel
theorem dX6_fits_16 : decode cX6_fits 16 = .ok (.iload_n 3, 1) := by decide +kernel
theorem dX6_fits_17 : decode cX6_fits 17 = .ok (.iconst 1, 1) := by decide +kernel
theorem dX6_fits_18 : decode cX6_fits 18 = .ok (.iadd, 1) := by decide +kernel
theorem dX6_fits_19 : decode cX6_fits 19 = .ok (.iaload, 1) := by decide +kernel
theorem dX6_fits_20 : decode cX6_fits 20 = .ok (.aload_n 0, 1) := by decide +kernel
theorem dX6_fits_21 : decode cX6_fits 21 = .ok (.getfield 44, 3) := by decide +kernel
theorem dX6_fits_24 : decode cX6_fits 24 = .ok (.iload_n 3, 1) := by decide +kernel
theorem dX6_fits_25 : decode cX6_fits 25 = .ok (.iaload, 1) := by decide +kernel
theorem dX6_fits_26 : decode cX6_fits 26 = .ok (.iload_n 1, 1) := by decide +kernel
theorem dX6_fits_27 : decode cX6_fits 27 = .ok (.iload_n 2, 1) := by decide +kernel
theorem dX6_fits_28 : decode cX6_fits 28 = .ok (.invokestatic 48, 3) := by decide +kernel
theorem dX6_fits_31 : decode cX6_fits 31 = .ok (.if_icmp .eq 5, 3) := by decide +kernel
theorem dX6_fits_36 : decode cX6_fits 36 = .ok (.iinc 3 2, 3) := by decide +kernel
theorem dX6_fits_39 : decode cX6_fits 39 = .ok (.goto (-37), 3) := by decide +kernel
theorem dX6_fits_34 : decode cX6_fits 34 = .ok (.iconst 0, 1) := by decide +kernel
theorem dX6_fits_35 : decode cX6_fits 35 = .ok (.ireturn, 1) := by decide +kernel
theorem dX6_judge_0 : decode cX6_judge 0 = .ok (.aload_n 1, 1) := by decide +kernel
theorem dX6_judge_1 : decode cX6_judge 1 = .ok (.iload_n 2, 1) := by decide +kernel
theorem dX6_judge_2 : decode cX6_judge 2 = .ok (.invokestatic 18, 3) := by decide +kernel
theorem G1005 : Cond.code ⟨"HookedCity$Slipped", "isAsTold", "(LHookedCity$Tape;I)Z"⟩ prog_8_method_3_code 4 (some .boolean) ∈ GW := gw_i 1005 (by decide +kernel) rfl
theorem G1003 : Cond.methodLink "HookedCity$Slipped" 18 ⟨"HookedCity$Slipped", "isAsTold", "(LHookedCity$Tape;I)Z"⟩ ∈ GW := gw_i 1003 (by decide +kernel) rfl
theorem V_HookedCity_Slipped_18 : VL "HookedCity$Slipped" 18 yX6_isAsTold cX6_isAsTold 4 (some .boolean) 2 := ⟨G1005, G1003, G125, by decide +kernel, by decide +kernel, by decide +kernel⟩
theorem G1004 : Cond.static ⟨"HookedCity$Slipped", "isAsTold", "(LHookedCity$Tape;I)Z"⟩ ∈ GW := gw_i 1004 (by decide +kernel) rfl
theorem dX6_judge_5 : decode cX6_judge 5 = .ok (.ifCond .ne 5, 3) := by decide +kernel
theorem dX6_judge_10 : decode cX6_judge 10 = .ok (.iconst 0, 1) := by decide +kernel
theorem dX6_judge_11 : decode cX6_judge 11 = .ok (.istore_n 3, 1) := by decide +kernel
theorem dX6_judge_12 : decode cX6_judge 12 = .ok (.iconst 0, 1) := by decide +kernel
theorem dX6_judge_13 : decode cX6_judge 13 = .ok (.istore 4, 2) := by decide +kernel
theorem dX6_judge_15 : decode cX6_judge 15 = .ok (.iload 4, 2) := by decide +kernel
theorem dX6_judge_17 : decode cX6_judge 17 = .ok (.iload_n 2, 1) := by decide +kernel
theorem dX6_judge_18 : decode cX6_judge 18 = .ok (.if_icmp .gt 30, 3) := by decide +kernel
theorem dX6_judge_48 : decode cX6_judge 48 = .ok (.iload_n 3, 1) := by decide +kernel
theorem dX6_judge_49 : decode cX6_judge 49 = .ok (.ifCond .eq 20, 3) := by decide +kernel
theorem dX6_judge_69 : decode cX6_judge 69 = .ok (.iload_n 3, 1) := by decide +kernel
theorem dX6_judge_70 : decode cX6_judge 70 = .ok (.invokestatic 36, 3) := by decide +kernel
theorem dX6_judge_73 : decode cX6_judge 73 = .ok (.ireturn, 1) := by decide +kernel
theorem dX6_judge_52 : decode cX6_judge 52 = .ok (.aload_n 0, 1) := by decide +kernel
theorem dX6_judge_53 : decode cX6_judge 53 = .ok (.iload_n 3, 1) := by decide +kernel
theorem dX6_judge_54 : decode cX6_judge 54 = .ok (.invokestatic 26, 3) := by decide +kernel
theorem G1012 : Cond.methodLink "HookedCity$Slipped" 26 ⟨"java/lang/Integer", "numberOfTrailingZeros", "(I)I"⟩ ∈ GW := gw_i 1012 (by decide +kernel) rfl
theorem V_HookedCity_Slipped_26 : VL "HookedCity$Slipped" 26 yJ6_numberOfTrailingZeros_0f7a4 cJ6_numberOfTrailingZeros_0f7a4 2 (some .int) 1 := ⟨G1014, G1012, G145, by decide +kernel, by decide +kernel, by decide +kernel⟩
theorem dX6_judge_57 : decode cX6_judge 57 = .ok (.putfield 9, 3) := by decide +kernel
theorem G315 : Cond.fieldLink "HookedCity$Slipped" 9 "HookedCity$Slipped" "least" "I" ∈ GW := gw_i 315 (by decide +kernel) rfl
theorem dX6_judge_60 : decode cX6_judge 60 = .ok (.aload_n 0, 1) := by decide +kernel
theorem dX6_judge_61 : decode cX6_judge 61 = .ok (.iload_n 3, 1) := by decide +kernel
theorem dX6_judge_62 : decode cX6_judge 62 = .ok (.iload_n 2, 1) := by decide +kernel
theorem dX6_judge_63 : decode cX6_judge 63 = .ok (.invokestatic 32, 3) := by decide +kernel
theorem G1018 : Cond.code ⟨"HookedCity$Slipped", "bestToTurn", "(II)I"⟩ prog_8_method_6_code 6 (some .int) ∈ GW := gw_i 1018 (by decide +kernel) rfl
theorem G1016 : Cond.methodLink "HookedCity$Slipped" 32 ⟨"HookedCity$Slipped", "bestToTurn", "(II)I"⟩ ∈ GW := gw_i 1016 (by decide +kernel) rfl
theorem V_HookedCity_Slipped_32 : VL "HookedCity$Slipped" 32 yX6_bestToTurn cX6_bestToTurn 6 (some .int) 2 := ⟨G1018, G1016, G125, by decide +kernel, by decide +kernel, by decide +kernel⟩
theorem G1017 : Cond.static ⟨"HookedCity$Slipped", "bestToTurn", "(II)I"⟩ ∈ GW := gw_i 1017 (by decide +kernel) rfl
theorem dX6_judge_66 : decode cX6_judge 66 = .ok (.putfield 15, 3) := by decide +kernel
theorem G317 : Cond.fieldLink "HookedCity$Slipped" 15 "HookedCity$Slipped" "next" "I" ∈ GW := gw_i 317 (by decide +kernel) rfl
theorem dX6_judge_21 : decode cX6_judge 21 = .ok (.iload_n 3, 1) := by decide +kernel
theorem dX6_judge_22 : decode cX6_judge 22 = .ok (.aload_n 1, 1) := by decide +kernel
theorem dX6_judge_23 : decode cX6_judge 23 = .ok (.iload_n 2, 1) := by decide +kernel
theorem dX6_judge_24 : decode cX6_judge 24 = .ok (.iload 4, 2) := by decide +kernel
theorem dX6_judge_26 : decode cX6_judge 26 = .ok (.invokestatic 22, 3) := by decide +kernel
theorem G1008 : Cond.code ⟨"HookedCity$Slipped", "fits", "(LHookedCity$Tape;II)Z"⟩ prog_8_method_4_code 4 (some .boolean) ∈ GW := gw_i 1008 (by decide +kernel) rfl
theorem G1006 : Cond.methodLink "HookedCity$Slipped" 22 ⟨"HookedCity$Slipped", "fits", "(LHookedCity$Tape;II)Z"⟩ ∈ GW := gw_i 1006 (by decide +kernel) rfl
theorem V_HookedCity_Slipped_22 : VL "HookedCity$Slipped" 22 yX6_fits cX6_fits 4 (some .boolean) 3 := ⟨G1008, G1006, G125, by decide +kernel, by decide +kernel, by decide +kernel⟩
theorem G1007 : Cond.static ⟨"HookedCity$Slipped", "fits", "(LHookedCity$Tape;II)Z"⟩ ∈ GW := gw_i 1007 (by decide +kernel) rfl
theorem dX6_judge_29 : decode cX6_judge 29 = .ok (.ifCond .eq 10, 3) := by decide +kernel
theorem dX6_judge_39 : decode cX6_judge 39 = .ok (.iconst 0, 1) := by decide +kernel
theorem dX6_judge_40 : decode cX6_judge 40 = .ok (.ior, 1) := by decide +kernel
theorem dX6_judge_41 : decode cX6_judge 41 = .ok (.istore_n 3, 1) := by decide +kernel
theorem dX6_judge_42 : decode cX6_judge 42 = .ok (.iinc 4 1, 3) := by decide +kernel
theorem dX6_judge_45 : decode cX6_judge 45 = .ok (.goto (-30), 3) := by decide +kernel
theorem dX6_judge_32 : decode cX6_judge 32 = .ok (.iconst 1, 1) := by decide +kernel
theorem dX6_judge_33 : decode cX6_judge 33 = .ok (.iload 4, 2) := by decide +kernel
theorem dX6_judge_35 : decode cX6_judge 35 = .ok (.ishl, 1) := by decide +kernel
theorem dX6_judge_36 : decode cX6_judge 36 = .ok (.goto 4, 3) := by decide +kernel
theorem dX6_judge_8 : decode cX6_judge 8 = .ok (.iconst (-1), 1) := by decide +kernel
theorem dX6_judge_9 : decode cX6_judge 9 = .ok (.ireturn, 1) := by decide +kernel
set_option maxRecDepth 100000 in
set_option maxHeartbeats 4000000 in
theorem c336_X6_isAsTold (l : Launch) (D : va_G) (T : Nat → ClassId) (sz : Nat) (a0 : Nat) (x0 : Int) (a1 : Nat) (x1 : Int) (x2 : Int) (x3 : Int) (x4 : Int) (x5 : Int) (o0 : Option Nat) (y0 : Int64) (r0 : Int32) (x6 : Int) (x7 : Int) (x8 : Int) (f0 : Int → Int) (x0_a : 0 ≤ x0) (x0_b : x0 ≤ 9) (x1_a : 0 ≤ x1) (x1_b : x1 ≤ 940) (x2_a : 0 ≤ x2) (x2_b : x2 ≤ 940) (x3_a : 0 ≤ x3) (x3_b : x3 ≤ 940) (x4_a : 0 ≤ x4) (x4_b : x4 ≤ 940) (x5_a : 0 ≤ x5) (x5_b : x5 ≤ 5) (o0_h : wok T o0) (x6_a : (-2147483648) ≤ x6) (x6_b : x6 ≤ 2147483647) (x7_a : (-2147483648) ≤ x7) (x7_b : x7 ≤ 2147483647) (x8_a : 0 ≤ x8) (x8_b : x8 ≤ 940) (f0_h : rng 0 255 f0) : Met l yX6_isAsTold (Cond.code yX6_isAsTold cX6_isAsTold 4 (some .boolean) :: GW) (Rm 0 0 0) (cPre [.ref a0, .int (iI x0)] D T [(a0, .inr (8, [.ref a1, .int (iI x1), .int (iI x2), .int (iI x3), .int (iI x4), .int (iI x5), (va_rf o0), .long y0, .int r0, .int (iI x6), .int (iI x7), .int (iI x8)])), (a1, .inl (T 0, 940, .inl (cI f0)))] sz) (qI D [(a0, .inr (8, [.ref a1, .int (iI x1), .int (iI x2), .int (iI x3), .int (iI x4), .int (iI x5), (va_rf o0), .long y0, .int r0, .int (iI x6), .int (iI x7), .int (iI x8)])), (a1, .inl (T 0, 940, .inl (cI f0)))] sz (fun (v : Int32) (u : Int) => iI u = v ∧ 0 ≤ u ∧ u ≤ 1 ∧ (taV u f0 x0 x1)) (fun u => [(a0, .inr (8, [.ref a1, .int (iI x1), .int (iI x2), .int (iI x3), .int (iI x4), .int (iI x5), (va_rf o0), .long y0, .int r0, .int (iI x6), .int (iI x7), .int (iI x8)])), (a1, .inl (T 0, 940, .inl (cI f0)))])) 0 0 (va_A [(a0, .inr (8, [.ref a1, .int (iI x1), .int (iI x2), .int (iI x3), .int (iI x4), .int (iI x5), (va_rf o0), .long y0, .int r0, .int (iI x6), .int (iI x7), .int (iI x8)])), (a1, .inl (T 0, 940, .inl (cI f0)))] sz) := by
  refine e_Z (by decide) (Nat.le_of_ble_eq_true rfl) ?_
  intro p e s m args below meth c A Q ls M hin w ret hl
  have hx := M.1.1
  have hb := M.1.2.1
  have hl : lv_has ls 4 [(0, .ref a0), (1, .int (iI x0))] := hl
  refine lv_aload_n hx hb dX6_isAsTold_0 rfl (lv_at hl 0 rfl) ?_
  refine r_getN (v := .int (iI x1)) M w 0 1 clX8 rfl (by decide) N163 rfl rfl dX6_isAsTold_1 ?_
  refine lv_iconst (v := iI 2) hx hb dX6_isAsTold_4 (by decide +kernel) ?_
  refine lv_icmp_lt (tgt := 26) hx hb dX6_isAsTold_5 (by decide) (fun c_1 => ?_) (fun c_1 => ?_)
  · replace c_1 := (iI_lt (Int.le_trans (by decide) x1_a) (Int.le_trans x1_b (by decide)) (by decide) (by decide)).mp c_1
    refine lv_iconst (v := iI 0) hx hb dX6_isAsTold_26 (by decide +kernel) ?_
    exact ret _ 0 _ _ _ _ _ [0, 1] dX6_isAsTold_27 (by decide +kernel) ⟨rfl, (show (0 : Int) ≤ 0 from by decide), (show (0 : Int) ≤ 1 from by decide), (show taV 0 f0 x0 x1 from (Or.inr ⟨rfl, fun q9 => absurd q9.1 (by have e9 := irem2 (n := x1) (by omega) (by omega); omega)⟩))⟩ w (by decide) rfl
  · replace c_1 : 2 ≤ x1 := Int.not_lt.mp (fun h => c_1 ((iI_lt (Int.le_trans (by decide) x1_a) (Int.le_trans x1_b (by decide)) (by decide) (by decide)).mpr h))
    refine lv_aload_n hx hb dX6_isAsTold_8 rfl (lv_at hl 0 rfl) ?_
    refine r_getN (v := .int (iI x1)) M w 0 1 clX8 rfl (by decide) N163 rfl rfl dX6_isAsTold_9 ?_
    refine lv_bipush (v := iI 16) hx hb dX6_isAsTold_12 (by decide +kernel) ?_
    refine lv_icmp_gt (tgt := 26) hx hb dX6_isAsTold_14 (by decide) (fun c_2 => ?_) (fun c_2 => ?_)
    · replace c_2 := (iI_lt (by decide) (by decide) (Int.le_trans (by decide) x1_a) (Int.le_trans x1_b (by decide))).mp c_2
      refine lv_iconst (v := iI 0) hx hb dX6_isAsTold_26 (by decide +kernel) ?_
      exact ret _ 0 _ _ _ _ _ [0, 1] dX6_isAsTold_27 (by decide +kernel) ⟨rfl, (show (0 : Int) ≤ 0 from by decide), (show (0 : Int) ≤ 1 from by decide), (show taV 0 f0 x0 x1 from (Or.inr ⟨rfl, fun q9 => absurd q9.1 (by have e9 := irem2 (n := x1) (by omega) (by omega); omega)⟩))⟩ w (by decide) rfl
    · replace c_2 : x1 ≤ 16 := Int.not_lt.mp (fun h => c_2 ((iI_lt (by decide) (by decide) (Int.le_trans (by decide) x1_a) (Int.le_trans x1_b (by decide))).mpr h))
      refine lv_aload_n hx hb dX6_isAsTold_17 rfl (lv_at hl 0 rfl) ?_
      refine r_getN (v := .int (iI x1)) M w 0 1 clX8 rfl (by decide) N163 rfl rfl dX6_isAsTold_18 ?_
      refine lv_iconst (v := iI 2) hx hb dX6_isAsTold_21 (by decide +kernel) ?_
      refine r_irem (v := _) M rfl (iz_ne (by decide) (by decide) (Or.inr (by omega))) dX6_isAsTold_22 ?_
      refine b_rngx (lo := 0) (hi := 1) (irem_r (by omega) (by omega) (by omega) (by omega)) (fun z3 z3_a z3_b hz4 => ?_)
      refine lv_if_eq (tgt := 28) hx hb dX6_isAsTold_23 (by decide) (fun c_5 => ?_) (fun c_5 => ?_)
      · replace c_5 := (iz_eq (Int.le_trans (by decide) z3_a) (Int.le_trans z3_b (by decide))).mp c_5
        refine lv_iconst (v := iI 0) hx hb dX6_isAsTold_28 (by decide +kernel) ?_
        refine lv_istore_n (lv' := [(2, .int (iI 0)), (0, .ref a0), (1, .int (iI x0))]) hx hb dX6_isAsTold_29 rfl hl (by decide) rfl (fun ls hl => ?_)
        have loop1 : ∀ (k1 : Nat) (z6 : Int) (H : Heap) (locs : List Loc) (ls : Array Slot), 0 ≤ z6 → z6 ≤ 16 → z6 % 2 = 0 → slA f0 x0 z6 → ((x1 - z6) : Int).toNat < k1 → WD D A s.heap [(a0, .inr (8, [.ref a1, .int (iI x1), .int (iI x2), .int (iI x3), .int (iI x4), .int (iI x5), (va_rf o0), .long y0, .int r0, .int (iI x6), .int (iI x7), .int (iI x8)])), (a1, .inl (T 0, 940, .inl (cI f0)))] H locs → lv_has ls 4 [(2, .int (iI z6)), (0, .ref a0), (1, .int (iI x0))] → W p l e (Rm 0 0 0) s m args below meth c H locs 0 0 Q (F0 m 30 ls []) := by
          intro k1
          induction k1 with
          | zero => intro z6 H locs ls z6_a z6_b lq1_e lq1_o hm; exact absurd hm (Nat.not_lt_zero _)
          | succ k1 ih1 =>
            intro z6 H locs ls z6_a z6_b lq1_e lq1_o hm1 w hl
            refine lv_iload_n hx hb dX6_isAsTold_30 rfl (lv_at hl 0 rfl) ?_
            refine lv_iconst (v := iI 1) hx hb dX6_isAsTold_31 (by decide +kernel) ?_
            refine r_iadd (v := iI (z6 + 1)) M (iI_add _ _) dX6_isAsTold_32 ?_
            refine lv_aload_n hx hb dX6_isAsTold_33 rfl (lv_at hl 1 rfl) ?_
            refine r_getN (v := .int (iI x1)) M w 0 1 clX8 rfl (by decide) N163 rfl rfl dX6_isAsTold_34 ?_
            refine lv_icmp_ge (tgt := 79) hx hb dX6_isAsTold_37 (by decide) (fun c_7 => ?_) (fun c_7 => ?_)
            · replace c_7 := (iI_le (Int.le_trans (by decide) x1_a) (Int.le_trans x1_b (by decide)) (by omega) (by omega)).mp c_7
              refine lv_iconst (v := iI 1) hx hb dX6_isAsTold_79 (by decide +kernel) ?_
              exact ret _ 1 _ _ _ _ _ [0, 1] dX6_isAsTold_80 (by decide +kernel) ⟨rfl, (show (0 : Int) ≤ 1 from by decide), (show (1 : Int) ≤ 1 from by decide), (show taV 1 f0 x0 x1 from (Or.inl ⟨rfl, (by have e9 := irem2 (n := x1) (by omega) (by omega); omega), slA_le lq1_o (by have e9 := irem2 (n := x1) (by omega) (by omega); omega)⟩))⟩ w (by decide) rfl
            · replace c_7 : (z6 + 1) < x1 := Int.not_le.mp (fun h => c_7 ((iI_le (Int.le_trans (by decide) x1_a) (Int.le_trans x1_b (by decide)) (by omega) (by omega)).mpr h))
              refine lv_aload_n hx hb dX6_isAsTold_40 rfl (lv_at hl 1 rfl) ?_
              refine r_getN (v := .ref a1) M w 0 0 clX8 rfl (by decide) N161 rfl rfl dX6_isAsTold_41 ?_
              refine lv_iload_n hx hb dX6_isAsTold_44 rfl (lv_at hl 0 rfl) ?_
              refine lv_iconst (v := iI 1) hx hb dX6_isAsTold_45 (by decide +kernel) ?_
              refine r_iadd (v := iI (z6 + 1)) M (iI_add _ _) dX6_isAsTold_46 ?_
              refine r_iald (v := iI (f0 (z6 + 1))) M w 1 rfl (iI_in (by omega) (by omega) (by decide)) (cI_at (by omega) (by omega)) dX6_isAsTold_47 ?_
              have hh8 : 0 ≤ (f0 (z6 + 1)) ∧ (f0 (z6 + 1)) ≤ 255 := f0_h (z6 + 1)
              refine lv_istore_n (lv' := [(3, .int (iI (f0 (z6 + 1)))), (2, .int (iI z6)), (0, .ref a0), (1, .int (iI x0))]) hx hb dX6_isAsTold_48 rfl hl (by decide) rfl (fun ls hl => ?_)
              refine lv_aload_n hx hb dX6_isAsTold_49 rfl (lv_at hl 2 rfl) ?_
              refine r_getN (v := .ref a1) M w 0 0 clX8 rfl (by decide) N161 rfl rfl dX6_isAsTold_50 ?_
              refine lv_iload_n hx hb dX6_isAsTold_53 rfl (lv_at hl 1 rfl) ?_
              refine r_iald (v := iI (f0 z6)) M w 1 rfl (iI_in (by omega) (by omega) (by decide)) (cI_at (by omega) (by omega)) dX6_isAsTold_54 ?_
              have hh9 : 0 ≤ (f0 z6) ∧ (f0 z6) ≤ 255 := f0_h z6
              refine lv_iload_n hx hb dX6_isAsTold_55 rfl (lv_at hl 3 rfl) ?_
              refine lv_icmp_ge (tgt := 71) hx hb dX6_isAsTold_56 (by decide) (fun c_10 => ?_) (fun c_10 => ?_)
              · replace c_10 := (iI_le (Int.le_trans (by decide) x0_a) (Int.le_trans x0_b (by decide)) (by omega) (by omega)).mp c_10
                refine lv_iconst (v := iI 0) hx hb dX6_isAsTold_71 (by decide +kernel) ?_
                exact ret _ 0 _ _ _ _ _ [0, 1] dX6_isAsTold_72 (by decide +kernel) ⟨rfl, (show (0 : Int) ≤ 0 from by decide), (show (0 : Int) ≤ 1 from by decide), (show taV 0 f0 x0 x1 from (Or.inr ⟨rfl, fun q9 => slA_n (by omega) lq1_e (by omega) (by unfold slO; omega) q9.2⟩))⟩ w (by decide) rfl
              · replace c_10 : (f0 z6) < x0 := Int.not_le.mp (fun h => c_10 ((iI_le (Int.le_trans (by decide) x0_a) (Int.le_trans x0_b (by decide)) (by omega) (by omega)).mpr h))
                refine lv_iload_n hx hb dX6_isAsTold_59 rfl (lv_at hl 0 rfl) ?_
                refine lv_iload_n hx hb dX6_isAsTold_60 rfl (lv_at hl 3 rfl) ?_
                refine lv_icmp_lt (tgt := 73) hx hb dX6_isAsTold_61 (by decide) (fun c_11 => ?_) (fun c_11 => ?_)
                · replace c_11 := (iI_lt (by omega) (by omega) (Int.le_trans (by decide) x0_a) (Int.le_trans x0_b (by decide))).mp c_11
                  refine lv_iinc (v := iI (z6 + 2)) (lv' := [(2, .int (iI (z6 + 2))), (3, .int (iI (f0 (z6 + 1)))), (0, .ref a0), (1, .int (iI x0))]) hx hb dX6_isAsTold_73 hl (k := 1) rfl (ii_inc (by decide +kernel)) (by decide) rfl (fun ls hl => ?_)
                  refine lv_goto (tgt := 30) hx hb dX6_isAsTold_76 (by decide) ?_
                  exact ih1 (z6 + 2) _ _ _ (by omega) (by omega) (by omega) (slA_t lq1_o lq1_e (by unfold slO; omega)) (by omega) w (lv_sub hl [0, 2, 3] rfl)
                · replace c_11 : x0 ≤ (f0 (z6 + 1)) := Int.not_lt.mp (fun h => c_11 ((iI_lt (by omega) (by omega) (Int.le_trans (by decide) x0_a) (Int.le_trans x0_b (by decide))).mpr h))
                  refine lv_iload_n hx hb dX6_isAsTold_64 rfl (lv_at hl 0 rfl) ?_
                  refine lv_sipush (v := iI 255) hx hb dX6_isAsTold_65 (by decide +kernel) ?_
                  refine lv_icmp_eq (tgt := 73) hx hb dX6_isAsTold_68 (by decide) (fun c_12 => ?_) (fun c_12 => ?_)
                  · replace c_12 := (iI_eq (by omega) (by omega) (by decide) (by decide)).mp c_12
                    refine lv_iinc (v := iI (z6 + 2)) (lv' := [(2, .int (iI (z6 + 2))), (3, .int (iI (f0 (z6 + 1)))), (0, .ref a0), (1, .int (iI x0))]) hx hb dX6_isAsTold_73 hl (k := 1) rfl (ii_inc (by decide +kernel)) (by decide) rfl (fun ls hl => ?_)
                    refine lv_goto (tgt := 30) hx hb dX6_isAsTold_76 (by decide) ?_
                    exact ih1 (z6 + 2) _ _ _ (by omega) (by omega) (by omega) (slA_t lq1_o lq1_e (by unfold slO; omega)) (by omega) w (lv_sub hl [0, 2, 3] rfl)
                  · replace c_12 : ¬ (f0 (z6 + 1)) = 255 := fun h => c_12 ((iI_eq (by omega) (by omega) (by decide) (by decide)).mpr h)
                    refine lv_iconst (v := iI 0) hx hb dX6_isAsTold_71 (by decide +kernel) ?_
                    exact ret _ 0 _ _ _ _ _ [0, 1] dX6_isAsTold_72 (by decide +kernel) ⟨rfl, (show (0 : Int) ≤ 0 from by decide), (show (0 : Int) ≤ 1 from by decide), (show taV 0 f0 x0 x1 from (Or.inr ⟨rfl, fun q9 => slA_n (by omega) lq1_e (by omega) (by unfold slO; omega) q9.2⟩))⟩ w (by decide) rfl
        exact loop1 (((x1 - 0) : Int).toNat + 1) 0 _ _ _ (by decide) (by decide) (by decide) slA_0 (Nat.lt_succ_self _) w (lv_sub hl [0, 1, 2] rfl)
      · replace c_5 : ¬ z3 = 0 := fun h => c_5 ((iz_eq (Int.le_trans (by decide) z3_a) (Int.le_trans z3_b (by decide))).mpr h)
        refine lv_iconst (v := iI 0) hx hb dX6_isAsTold_26 (by decide +kernel) ?_
        exact ret _ 0 _ _ _ _ _ [0, 1] dX6_isAsTold_27 (by decide +kernel) ⟨rfl, (show (0 : Int) ≤ 0 from by decide), (show (0 : Int) ≤ 1 from by decide), (show taV 0 f0 x0 x1 from (Or.inr ⟨rfl, fun q9 => absurd q9.1 (by have e9 := irem2 (n := x1) (by omega) (by omega); omega)⟩))⟩ w (by decide) rfl
set_option maxRecDepth 100000 in
set_option maxHeartbeats 4000000 in
theorem c337_J6_bitCount_0f7a4 (l : Launch) (D : va_G) (T : Nat → ClassId) (sz : Nat) (x0 : Int) (x0_a : 0 ≤ x0) (x0_b : x0 ≤ 1023) : Met l yJ6_bitCount_0f7a4 (Cond.code yJ6_bitCount_0f7a4 cJ6_bitCount_0f7a4 1 (some .int) :: GW) (Rm 0 0 0) (cPre [.int (iI x0)] D T [] sz) (qI D [] sz (fun (v : Int32) (u : Int) => iI u = v ∧ 0 ≤ u ∧ u ≤ 10 ∧ (0 ≤ x0 → x0 ≤ 1023 → u = slN (bitF x0) 10)) (fun u => [])) 0 0 (va_A [] sz) := by
  refine e_I (by decide) (Nat.le_of_ble_eq_true rfl) ?_
  intro p e s m args below meth c A Q ls M hin w ret hl
  have hx := M.1.1
  have hb := M.1.2.1
  have hl : lv_has ls 1 [(0, .int (iI x0))] := hl
  refine lv_iload_n hx hb dJ6_bitCount_0f7a4_0 rfl (lv_at hl 0 rfl) ?_
  refine lv_iload_n hx hb dJ6_bitCount_0f7a4_1 rfl (lv_at hl 0 rfl) ?_
  refine lv_iconst (v := iI 1) hx hb dJ6_bitCount_0f7a4_2 (by decide +kernel) ?_
  refine r_iushr (v := (Int32.toUInt32 (iI x0) >>> (Int32.toUInt32 (iI 1) &&& Int32.toUInt32 31)).toInt32) M rfl dJ6_bitCount_0f7a4_3 ?_
  refine lv_ldcw (v := _) hx hb M.1.2.2.2.1 (M.1.2.2.2.2 _ G1025) dJ6_bitCount_0f7a4_4 ?_
  refine b_lit (z := 1431655765) (by decide +kernel) ?_
  refine r_iand (v := (((Int32.toUInt32 (iI x0) >>> (Int32.toUInt32 (iI 1) &&& Int32.toUInt32 31)).toInt32) &&& (iI 1431655765))) M rfl dJ6_bitCount_0f7a4_7 ?_
  refine r_isub (v := ((iI x0) - (((Int32.toUInt32 (iI x0) >>> (Int32.toUInt32 (iI 1) &&& Int32.toUInt32 31)).toInt32) &&& (iI 1431655765)))) M rfl dJ6_bitCount_0f7a4_8 ?_
  refine b_anyx (fun z1 z1_a z1_b hz2 => ?_)
  refine lv_istore_n (lv' := [(0, .int (iI z1))]) hx hb dJ6_bitCount_0f7a4_9 rfl hl (by decide) rfl (fun ls hl => ?_)
  refine lv_iload_n hx hb dJ6_bitCount_0f7a4_10 rfl (lv_at hl 0 rfl) ?_
  refine lv_ldcw (v := _) hx hb M.1.2.2.2.1 (M.1.2.2.2.2 _ G1026) dJ6_bitCount_0f7a4_11 ?_
  refine b_lit (z := 858993459) (by decide +kernel) ?_
  refine r_iand (v := ((iI z1) &&& (iI 858993459))) M rfl dJ6_bitCount_0f7a4_14 ?_
  refine lv_iload_n hx hb dJ6_bitCount_0f7a4_15 rfl (lv_at hl 0 rfl) ?_
  refine lv_iconst (v := iI 2) hx hb dJ6_bitCount_0f7a4_16 (by decide +kernel) ?_
  refine r_iushr (v := (Int32.toUInt32 (iI z1) >>> (Int32.toUInt32 (iI 2) &&& Int32.toUInt32 31)).toInt32) M rfl dJ6_bitCount_0f7a4_17 ?_
  refine lv_ldcw (v := _) hx hb M.1.2.2.2.1 (M.1.2.2.2.2 _ G1026) dJ6_bitCount_0f7a4_18 ?_
  refine b_lit (z := 858993459) (by decide +kernel) ?_
  refine r_iand (v := (((Int32.toUInt32 (iI z1) >>> (Int32.toUInt32 (iI 2) &&& Int32.toUInt32 31)).toInt32) &&& (iI 858993459))) M rfl dJ6_bitCount_0f7a4_21 ?_
  refine r_iadd (v := (((iI z1) &&& (iI 858993459)) + (((Int32.toUInt32 (iI z1) >>> (Int32.toUInt32 (iI 2) &&& Int32.toUInt32 31)).toInt32) &&& (iI 858993459)))) M rfl dJ6_bitCount_0f7a4_22 ?_
  refine b_anyx (fun z3 z3_a z3_b hz4 => ?_)
  refine lv_istore_n (lv' := [(0, .int (iI z3))]) hx hb dJ6_bitCount_0f7a4_23 rfl hl (by decide) rfl (fun ls hl => ?_)
  refine lv_iload_n hx hb dJ6_bitCount_0f7a4_24 rfl (lv_at hl 0 rfl) ?_
  refine lv_iload_n hx hb dJ6_bitCount_0f7a4_25 rfl (lv_at hl 0 rfl) ?_
  refine lv_iconst (v := iI 4) hx hb dJ6_bitCount_0f7a4_26 (by decide +kernel) ?_
  refine r_iushr (v := (Int32.toUInt32 (iI z3) >>> (Int32.toUInt32 (iI 4) &&& Int32.toUInt32 31)).toInt32) M rfl dJ6_bitCount_0f7a4_27 ?_
  refine r_iadd (v := ((iI z3) + ((Int32.toUInt32 (iI z3) >>> (Int32.toUInt32 (iI 4) &&& Int32.toUInt32 31)).toInt32))) M rfl dJ6_bitCount_0f7a4_28 ?_
  refine lv_ldcw (v := _) hx hb M.1.2.2.2.1 (M.1.2.2.2.2 _ G1027) dJ6_bitCount_0f7a4_29 ?_
  refine b_lit (z := 252645135) (by decide +kernel) ?_
  refine r_iand (v := (((iI z3) + ((Int32.toUInt32 (iI z3) >>> (Int32.toUInt32 (iI 4) &&& Int32.toUInt32 31)).toInt32)) &&& (iI 252645135))) M rfl dJ6_bitCount_0f7a4_32 ?_
  refine b_anyx (fun z5 z5_a z5_b hz6 => ?_)
  refine lv_istore_n (lv' := [(0, .int (iI z5))]) hx hb dJ6_bitCount_0f7a4_33 rfl hl (by decide) rfl (fun ls hl => ?_)
  refine lv_iload_n hx hb dJ6_bitCount_0f7a4_34 rfl (lv_at hl 0 rfl) ?_
  refine lv_iload_n hx hb dJ6_bitCount_0f7a4_35 rfl (lv_at hl 0 rfl) ?_
  refine lv_bipush (v := iI 8) hx hb dJ6_bitCount_0f7a4_36 (by decide +kernel) ?_
  refine r_iushr (v := (Int32.toUInt32 (iI z5) >>> (Int32.toUInt32 (iI 8) &&& Int32.toUInt32 31)).toInt32) M rfl dJ6_bitCount_0f7a4_38 ?_
  refine r_iadd (v := ((iI z5) + ((Int32.toUInt32 (iI z5) >>> (Int32.toUInt32 (iI 8) &&& Int32.toUInt32 31)).toInt32))) M rfl dJ6_bitCount_0f7a4_39 ?_
  refine b_anyx (fun z7 z7_a z7_b hz8 => ?_)
  refine lv_istore_n (lv' := [(0, .int (iI z7))]) hx hb dJ6_bitCount_0f7a4_40 rfl hl (by decide) rfl (fun ls hl => ?_)
  refine lv_iload_n hx hb dJ6_bitCount_0f7a4_41 rfl (lv_at hl 0 rfl) ?_
  refine lv_iload_n hx hb dJ6_bitCount_0f7a4_42 rfl (lv_at hl 0 rfl) ?_
  refine lv_bipush (v := iI 16) hx hb dJ6_bitCount_0f7a4_43 (by decide +kernel) ?_
  refine r_iushr (v := (Int32.toUInt32 (iI z7) >>> (Int32.toUInt32 (iI 16) &&& Int32.toUInt32 31)).toInt32) M rfl dJ6_bitCount_0f7a4_45 ?_
  refine r_iadd (v := ((iI z7) + ((Int32.toUInt32 (iI z7) >>> (Int32.toUInt32 (iI 16) &&& Int32.toUInt32 31)).toInt32))) M rfl dJ6_bitCount_0f7a4_46 ?_
  refine b_anyx (fun z9 z9_a z9_b hz10 => ?_)
  refine lv_istore_n (lv' := [(0, .int (iI z9))]) hx hb dJ6_bitCount_0f7a4_47 rfl hl (by decide) rfl (fun ls hl => ?_)
  refine lv_iload_n hx hb dJ6_bitCount_0f7a4_48 rfl (lv_at hl 0 rfl) ?_
  refine lv_bipush (v := iI 63) hx hb dJ6_bitCount_0f7a4_49 (by decide +kernel) ?_
  refine r_iand (v := ((iI z9) &&& (iI 63))) M rfl dJ6_bitCount_0f7a4_51 ?_
  refine b_anyx (fun z11 z11_a z11_b hz12 => ?_)
  have bc9 := fun (a9 : 0 ≤ x0) (b9 : x0 ≤ 1023) => bc_x a9 b9 hz2 hz4 hz6 hz8 hz10 hz12 z11_a z11_b
  have bn9 := slN_nn (g := bitF x0) 10
  have bl9 := slN_le (g := bitF x0) 10
  have be9 := bc9 (by omega) (by omega)
  exact ret _ z11 _ _ _ _ _ [] dJ6_bitCount_0f7a4_52 ⟨rfl, (show 0 ≤ z11 from by omega), (show z11 ≤ 10 from by omega), (show 0 ≤ x0 → x0 ≤ 1023 → z11 = slN (bitF x0) 10 from bc9)⟩ w (by decide) rfl
set_option maxRecDepth 100000 in
set_option maxHeartbeats 4000000 in
theorem c338_J6_numberOfTrailingZeros_0f7a4 (l : Launch) (D : va_G) (T : Nat → ClassId) (sz : Nat) (x0 : Int) (x0_a : 1 ≤ x0) (x0_b : x0 ≤ 1023) : Met l yJ6_numberOfTrailingZeros_0f7a4 (Cond.code yJ6_numberOfTrailingZeros_0f7a4 cJ6_numberOfTrailingZeros_0f7a4 2 (some .int) :: GW) (Rm 0 0 0) (cPre [.int (iI x0)] D T [] sz) (qI D [] sz (fun (v : Int32) (u : Int) => iI u = v ∧ 0 ≤ u ∧ u ≤ 9 ∧ (1 ≤ x0 → x0 ≤ 1023 → u = slL (bitF x0) 10)) (fun u => [])) 0 0 (va_A [] sz) := by
  refine e_I (by decide) (Nat.le_of_ble_eq_true rfl) ?_
  intro p e s m args below meth c A Q ls M hin w ret hl
  have hx := M.1.1
  have hb := M.1.2.1
  have hl : lv_has ls 2 [(0, .int (iI x0))] := hl
  refine lv_iload_n hx hb dJ6_numberOfTrailingZeros_0f7a4_0 rfl (lv_at hl 0 rfl) ?_
  refine lv_iconst (v := iI (-1)) hx hb dJ6_numberOfTrailingZeros_0f7a4_1 (by decide +kernel) ?_
  refine r_ixor (v := iI x0 ^^^ iI (-1)) M rfl dJ6_numberOfTrailingZeros_0f7a4_2 ?_
  refine lv_iload_n hx hb dJ6_numberOfTrailingZeros_0f7a4_3 rfl (lv_at hl 0 rfl) ?_
  refine lv_iconst (v := iI 1) hx hb dJ6_numberOfTrailingZeros_0f7a4_4 (by decide +kernel) ?_
  refine r_isub (v := iI (x0 - 1)) M (iI_sub _ _) dJ6_numberOfTrailingZeros_0f7a4_5 ?_
  refine r_iand (v := _) M rfl dJ6_numberOfTrailingZeros_0f7a4_6 ?_
  refine b_rngx (lo := 0) (hi := 511) (ntz_and10 x0_a x0_b) (fun z1 z1_a z1_b hz2 => ?_)
  have hY : ntY x0 z1 := by rw [hz2]; exact ntY_x (by omega) (by omega)
  refine lv_istore_n (lv' := [(0, .int (iI z1))]) hx hb dJ6_numberOfTrailingZeros_0f7a4_7 rfl hl (by decide) rfl (fun ls hl => ?_)
  refine lv_iload_n hx hb dJ6_numberOfTrailingZeros_0f7a4_8 rfl (lv_at hl 0 rfl) ?_
  refine lv_if_gt (tgt := 17) hx hb dJ6_numberOfTrailingZeros_0f7a4_9 (by decide) (fun c_3 => ?_) (fun c_3 => ?_)
  · replace c_3 := (iz_gt (Int.le_trans (by decide) z1_a) (Int.le_trans z1_b (by decide))).mp c_3
    refine lv_iconst (v := iI 1) hx hb dJ6_numberOfTrailingZeros_0f7a4_17 (by decide +kernel) ?_
    refine lv_istore_n (lv' := [(1, .int (iI 1)), (0, .int (iI z1))]) hx hb dJ6_numberOfTrailingZeros_0f7a4_18 rfl hl (by decide) rfl (fun ls hl => ?_)
    refine lv_iload_n hx hb dJ6_numberOfTrailingZeros_0f7a4_19 rfl (lv_at hl 1 rfl) ?_
    refine lv_ldcw (v := _) hx hb M.1.2.2.2.1 (M.1.2.2.2.2 _ G1015) dJ6_numberOfTrailingZeros_0f7a4_20 ?_
    refine b_lit (z := 65536) (by decide +kernel) ?_
    refine lv_icmp_le (tgt := 34) hx hb dJ6_numberOfTrailingZeros_0f7a4_23 (by decide) (fun c_4 => ?_) (fun c_4 => ?_)
    · replace c_4 := (iI_le (Int.le_trans (by decide) z1_a) (Int.le_trans z1_b (by decide)) (by decide) (by decide)).mp c_4
      refine lv_iload_n hx hb dJ6_numberOfTrailingZeros_0f7a4_34 rfl (lv_at hl 1 rfl) ?_
      refine lv_sipush (v := iI 256) hx hb dJ6_numberOfTrailingZeros_0f7a4_35 (by decide +kernel) ?_
      refine lv_icmp_le (tgt := 49) hx hb dJ6_numberOfTrailingZeros_0f7a4_38 (by decide) (fun c_5 => ?_) (fun c_5 => ?_)
      · replace c_5 := (iI_le (Int.le_trans (by decide) z1_a) (Int.le_trans z1_b (by decide)) (by decide) (by decide)).mp c_5
        refine lv_iload_n hx hb dJ6_numberOfTrailingZeros_0f7a4_49 rfl (lv_at hl 1 rfl) ?_
        refine lv_bipush (v := iI 16) hx hb dJ6_numberOfTrailingZeros_0f7a4_50 (by decide +kernel) ?_
        refine lv_icmp_le (tgt := 62) hx hb dJ6_numberOfTrailingZeros_0f7a4_52 (by decide) (fun c_6 => ?_) (fun c_6 => ?_)
        · replace c_6 := (iI_le (Int.le_trans (by decide) z1_a) (Int.le_trans z1_b (by decide)) (by decide) (by decide)).mp c_6
          refine lv_iload_n hx hb dJ6_numberOfTrailingZeros_0f7a4_62 rfl (lv_at hl 1 rfl) ?_
          refine lv_iconst (v := iI 4) hx hb dJ6_numberOfTrailingZeros_0f7a4_63 (by decide +kernel) ?_
          refine lv_icmp_le (tgt := 74) hx hb dJ6_numberOfTrailingZeros_0f7a4_64 (by decide) (fun c_7 => ?_) (fun c_7 => ?_)
          · replace c_7 := (iI_le (Int.le_trans (by decide) z1_a) (Int.le_trans z1_b (by decide)) (by decide) (by decide)).mp c_7
            refine lv_iload_n hx hb dJ6_numberOfTrailingZeros_0f7a4_74 rfl (lv_at hl 0 rfl) ?_
            refine lv_iload_n hx hb dJ6_numberOfTrailingZeros_0f7a4_75 rfl (lv_at hl 1 rfl) ?_
            refine lv_iconst (v := iI 1) hx hb dJ6_numberOfTrailingZeros_0f7a4_76 (by decide +kernel) ?_
            refine r_iushr (v := _) M rfl dJ6_numberOfTrailingZeros_0f7a4_77 ?_
            refine b_rng (lo := z1 / 2) (hi := z1 / 2) (iushr_d 1 (by decide +kernel) (by omega) (by omega)) (fun z8 z8_a z8_b => ?_)
            refine r_iadd (v := iI (1 + z8)) M (iI_add _ _) dJ6_numberOfTrailingZeros_0f7a4_78 ?_
            exact ret _ (1 + z8) _ _ _ _ _ [] dJ6_numberOfTrailingZeros_0f7a4_79 ⟨rfl, (show 0 ≤ (1 + z8) from by omega), (show (1 + z8) ≤ 9 from by omega), (show 1 ≤ x0 → x0 ≤ 1023 → (1 + z8) = slL (bitF x0) 10 from (fun _ _ => nt_f hY (by unfold ntR; omega)))⟩ w (by decide) rfl
          · replace c_7 : 4 < z1 := Int.not_le.mp (fun h => c_7 ((iI_le (Int.le_trans (by decide) z1_a) (Int.le_trans z1_b (by decide)) (by decide) (by decide)).mpr h))
            refine lv_iinc (v := iI 3) (lv' := [(1, .int (iI 3)), (0, .int (iI z1))]) hx hb dJ6_numberOfTrailingZeros_0f7a4_67 hl (k := 0) rfl (by decide +kernel) (by decide) rfl (fun ls hl => ?_)
            refine lv_iload_n hx hb dJ6_numberOfTrailingZeros_0f7a4_70 rfl (lv_at hl 1 rfl) ?_
            refine lv_iconst (v := iI 2) hx hb dJ6_numberOfTrailingZeros_0f7a4_71 (by decide +kernel) ?_
            refine r_iushr (v := _) M rfl dJ6_numberOfTrailingZeros_0f7a4_72 ?_
            refine b_rng (lo := z1 / 4) (hi := z1 / 4) (iushr_d 2 (by decide +kernel) (by omega) (by omega)) (fun z9 z9_a z9_b => ?_)
            refine lv_istore_n (lv' := [(0, .int (iI z9)), (1, .int (iI 3))]) hx hb dJ6_numberOfTrailingZeros_0f7a4_73 rfl hl (by decide) rfl (fun ls hl => ?_)
            refine lv_iload_n hx hb dJ6_numberOfTrailingZeros_0f7a4_74 rfl (lv_at hl 1 rfl) ?_
            refine lv_iload_n hx hb dJ6_numberOfTrailingZeros_0f7a4_75 rfl (lv_at hl 0 rfl) ?_
            refine lv_iconst (v := iI 1) hx hb dJ6_numberOfTrailingZeros_0f7a4_76 (by decide +kernel) ?_
            refine r_iushr (v := _) M rfl dJ6_numberOfTrailingZeros_0f7a4_77 ?_
            refine b_rng (lo := z9 / 2) (hi := z9 / 2) (iushr_d 1 (by decide +kernel) (by omega) (by omega)) (fun z10 z10_a z10_b => ?_)
            refine r_iadd (v := iI (3 + z10)) M (iI_add _ _) dJ6_numberOfTrailingZeros_0f7a4_78 ?_
            exact ret _ (3 + z10) _ _ _ _ _ [] dJ6_numberOfTrailingZeros_0f7a4_79 ⟨rfl, (show 0 ≤ (3 + z10) from by omega), (show (3 + z10) ≤ 9 from by omega), (show 1 ≤ x0 → x0 ≤ 1023 → (3 + z10) = slL (bitF x0) 10 from (fun _ _ => nt_f hY (by unfold ntR; omega)))⟩ w (by decide) rfl
        · replace c_6 : 16 < z1 := Int.not_le.mp (fun h => c_6 ((iI_le (Int.le_trans (by decide) z1_a) (Int.le_trans z1_b (by decide)) (by decide) (by decide)).mpr h))
          refine lv_iinc (v := iI 5) (lv' := [(1, .int (iI 5)), (0, .int (iI z1))]) hx hb dJ6_numberOfTrailingZeros_0f7a4_55 hl (k := 0) rfl (by decide +kernel) (by decide) rfl (fun ls hl => ?_)
          refine lv_iload_n hx hb dJ6_numberOfTrailingZeros_0f7a4_58 rfl (lv_at hl 1 rfl) ?_
          refine lv_iconst (v := iI 4) hx hb dJ6_numberOfTrailingZeros_0f7a4_59 (by decide +kernel) ?_
          refine r_iushr (v := _) M rfl dJ6_numberOfTrailingZeros_0f7a4_60 ?_
          refine b_rng (lo := z1 / 16) (hi := z1 / 16) (iushr_d 4 (by decide +kernel) (by omega) (by omega)) (fun z11 z11_a z11_b => ?_)
          refine lv_istore_n (lv' := [(0, .int (iI z11)), (1, .int (iI 5))]) hx hb dJ6_numberOfTrailingZeros_0f7a4_61 rfl hl (by decide) rfl (fun ls hl => ?_)
          refine lv_iload_n hx hb dJ6_numberOfTrailingZeros_0f7a4_62 rfl (lv_at hl 0 rfl) ?_
          refine lv_iconst (v := iI 4) hx hb dJ6_numberOfTrailingZeros_0f7a4_63 (by decide +kernel) ?_
          refine lv_icmp_le (tgt := 74) hx hb dJ6_numberOfTrailingZeros_0f7a4_64 (by decide) (fun c_12 => ?_) (fun c_12 => ?_)
          · replace c_12 := (iI_le (by omega) (by omega) (by decide) (by decide)).mp c_12
            refine lv_iload_n hx hb dJ6_numberOfTrailingZeros_0f7a4_74 rfl (lv_at hl 1 rfl) ?_
            refine lv_iload_n hx hb dJ6_numberOfTrailingZeros_0f7a4_75 rfl (lv_at hl 0 rfl) ?_
            refine lv_iconst (v := iI 1) hx hb dJ6_numberOfTrailingZeros_0f7a4_76 (by decide +kernel) ?_
            refine r_iushr (v := _) M rfl dJ6_numberOfTrailingZeros_0f7a4_77 ?_
            refine b_rng (lo := z11 / 2) (hi := z11 / 2) (iushr_d 1 (by decide +kernel) (by omega) (by omega)) (fun z13 z13_a z13_b => ?_)
            refine r_iadd (v := iI (5 + z13)) M (iI_add _ _) dJ6_numberOfTrailingZeros_0f7a4_78 ?_
            exact ret _ (5 + z13) _ _ _ _ _ [] dJ6_numberOfTrailingZeros_0f7a4_79 ⟨rfl, (show 0 ≤ (5 + z13) from by omega), (show (5 + z13) ≤ 9 from by omega), (show 1 ≤ x0 → x0 ≤ 1023 → (5 + z13) = slL (bitF x0) 10 from (fun _ _ => nt_f hY (by unfold ntR; omega)))⟩ w (by decide) rfl
          · replace c_12 : 4 < z11 := Int.not_le.mp (fun h => c_12 ((iI_le (by omega) (by omega) (by decide) (by decide)).mpr h))
            refine lv_iinc (v := iI 7) (lv' := [(1, .int (iI 7)), (0, .int (iI z11))]) hx hb dJ6_numberOfTrailingZeros_0f7a4_67 hl (k := 1) rfl (by decide +kernel) (by decide) rfl (fun ls hl => ?_)
            refine lv_iload_n hx hb dJ6_numberOfTrailingZeros_0f7a4_70 rfl (lv_at hl 1 rfl) ?_
            refine lv_iconst (v := iI 2) hx hb dJ6_numberOfTrailingZeros_0f7a4_71 (by decide +kernel) ?_
            refine r_iushr (v := _) M rfl dJ6_numberOfTrailingZeros_0f7a4_72 ?_
            refine b_rng (lo := z11 / 4) (hi := z11 / 4) (iushr_d 2 (by decide +kernel) (by omega) (by omega)) (fun z14 z14_a z14_b => ?_)
            refine lv_istore_n (lv' := [(0, .int (iI z14)), (1, .int (iI 7))]) hx hb dJ6_numberOfTrailingZeros_0f7a4_73 rfl hl (by decide) rfl (fun ls hl => ?_)
            refine lv_iload_n hx hb dJ6_numberOfTrailingZeros_0f7a4_74 rfl (lv_at hl 1 rfl) ?_
            refine lv_iload_n hx hb dJ6_numberOfTrailingZeros_0f7a4_75 rfl (lv_at hl 0 rfl) ?_
            refine lv_iconst (v := iI 1) hx hb dJ6_numberOfTrailingZeros_0f7a4_76 (by decide +kernel) ?_
            refine r_iushr (v := _) M rfl dJ6_numberOfTrailingZeros_0f7a4_77 ?_
            refine b_rng (lo := z14 / 2) (hi := z14 / 2) (iushr_d 1 (by decide +kernel) (by omega) (by omega)) (fun z15 z15_a z15_b => ?_)
            refine r_iadd (v := iI (7 + z15)) M (iI_add _ _) dJ6_numberOfTrailingZeros_0f7a4_78 ?_
            exact ret _ (7 + z15) _ _ _ _ _ [] dJ6_numberOfTrailingZeros_0f7a4_79 ⟨rfl, (show 0 ≤ (7 + z15) from by omega), (show (7 + z15) ≤ 9 from by omega), (show 1 ≤ x0 → x0 ≤ 1023 → (7 + z15) = slL (bitF x0) 10 from (fun _ _ => nt_f hY (by unfold ntR; omega)))⟩ w (by decide) rfl
      · replace c_5 : 256 < z1 := Int.not_le.mp (fun h => c_5 ((iI_le (Int.le_trans (by decide) z1_a) (Int.le_trans z1_b (by decide)) (by decide) (by decide)).mpr h))
        refine lv_iinc (v := iI 9) (lv' := [(1, .int (iI 9)), (0, .int (iI z1))]) hx hb dJ6_numberOfTrailingZeros_0f7a4_41 hl (k := 0) rfl (by decide +kernel) (by decide) rfl (fun ls hl => ?_)
        refine lv_iload_n hx hb dJ6_numberOfTrailingZeros_0f7a4_44 rfl (lv_at hl 1 rfl) ?_
        refine lv_bipush (v := iI 8) hx hb dJ6_numberOfTrailingZeros_0f7a4_45 (by decide +kernel) ?_
        refine r_iushr (v := _) M rfl dJ6_numberOfTrailingZeros_0f7a4_47 ?_
        refine b_rng (lo := z1 / 256) (hi := z1 / 256) (iushr_d 8 (by decide +kernel) (by omega) (by omega)) (fun z16 z16_a z16_b => ?_)
        refine lv_istore_n (lv' := [(0, .int (iI z16)), (1, .int (iI 9))]) hx hb dJ6_numberOfTrailingZeros_0f7a4_48 rfl hl (by decide) rfl (fun ls hl => ?_)
        refine lv_iload_n hx hb dJ6_numberOfTrailingZeros_0f7a4_49 rfl (lv_at hl 0 rfl) ?_
        refine lv_bipush (v := iI 16) hx hb dJ6_numberOfTrailingZeros_0f7a4_50 (by decide +kernel) ?_
        refine lv_icmp_le (tgt := 62) hx hb dJ6_numberOfTrailingZeros_0f7a4_52 (by decide) (fun c_17 => ?_) (fun c_17 => ?_)
        · replace c_17 := (iI_le (by omega) (by omega) (by decide) (by decide)).mp c_17
          refine lv_iload_n hx hb dJ6_numberOfTrailingZeros_0f7a4_62 rfl (lv_at hl 0 rfl) ?_
          refine lv_iconst (v := iI 4) hx hb dJ6_numberOfTrailingZeros_0f7a4_63 (by decide +kernel) ?_
          refine lv_icmp_le (tgt := 74) hx hb dJ6_numberOfTrailingZeros_0f7a4_64 (by decide) (fun c_18 => ?_) (fun c_18 => ?_)
          · replace c_18 := (iI_le (by omega) (by omega) (by decide) (by decide)).mp c_18
            refine lv_iload_n hx hb dJ6_numberOfTrailingZeros_0f7a4_74 rfl (lv_at hl 1 rfl) ?_
            refine lv_iload_n hx hb dJ6_numberOfTrailingZeros_0f7a4_75 rfl (lv_at hl 0 rfl) ?_
            refine lv_iconst (v := iI 1) hx hb dJ6_numberOfTrailingZeros_0f7a4_76 (by decide +kernel) ?_
            refine r_iushr (v := _) M rfl dJ6_numberOfTrailingZeros_0f7a4_77 ?_
            refine b_rng (lo := z16 / 2) (hi := z16 / 2) (iushr_d 1 (by decide +kernel) (by omega) (by omega)) (fun z19 z19_a z19_b => ?_)
            refine r_iadd (v := iI (9 + z19)) M (iI_add _ _) dJ6_numberOfTrailingZeros_0f7a4_78 ?_
            exact ret _ (9 + z19) _ _ _ _ _ [] dJ6_numberOfTrailingZeros_0f7a4_79 ⟨rfl, (show 0 ≤ (9 + z19) from by omega), (show (9 + z19) ≤ 9 from by omega), (show 1 ≤ x0 → x0 ≤ 1023 → (9 + z19) = slL (bitF x0) 10 from (fun _ _ => nt_f hY (by unfold ntR; omega)))⟩ w (by decide) rfl
          · replace c_18 : 4 < z16 := Int.not_le.mp (fun h => c_18 ((iI_le (by omega) (by omega) (by decide) (by decide)).mpr h))
            exfalso; omega
        · replace c_17 : 16 < z16 := Int.not_le.mp (fun h => c_17 ((iI_le (by omega) (by omega) (by decide) (by decide)).mpr h))
          exfalso; omega
    · replace c_4 : 65536 < z1 := Int.not_le.mp (fun h => c_4 ((iI_le (Int.le_trans (by decide) z1_a) (Int.le_trans z1_b (by decide)) (by decide) (by decide)).mpr h))
      exfalso; omega
  · replace c_3 : z1 ≤ 0 := Int.not_lt.mp (fun h => c_3 ((iz_gt (Int.le_trans (by decide) z1_a) (Int.le_trans z1_b (by decide))).mpr h))
    refine lv_iload_n hx hb dJ6_numberOfTrailingZeros_0f7a4_12 rfl (lv_at hl 0 rfl) ?_
    refine lv_bipush (v := iI 32) hx hb dJ6_numberOfTrailingZeros_0f7a4_13 (by decide +kernel) ?_
    refine r_iand (v := _) M rfl dJ6_numberOfTrailingZeros_0f7a4_15 ?_
    refine b_rngx (lo := 0) (hi := z1) (iand_l (by omega) (by omega)) (fun z20 z20_a z20_b hz21 => ?_)
    exact ret _ z20 _ _ _ _ _ [] dJ6_numberOfTrailingZeros_0f7a4_16 ⟨rfl, (show 0 ≤ z20 from by omega), (show z20 ≤ 9 from by omega), (show 1 ≤ x0 → x0 ≤ 1023 → z20 = slL (bitF x0) 10 from (fun _ _ => nt_f hY (by unfold ntR; omega)))⟩ w (by decide) rfl
set_option maxRecDepth 100000 in
set_option maxHeartbeats 4000000 in
theorem c339_X6_foundOf (l : Launch) (D : va_G) (T : Nat → ClassId) (sz : Nat) (x0 : Int) (x1 : Int) (x2 : Int) (x0_a : 0 ≤ x0) (x0_b : x0 ≤ 255) (x1_a : 0 ≤ x1) (x1_b : x1 ≤ 9) (x2_a : 0 ≤ x2) (x2_b : x2 ≤ 10) : Met l yX6_foundOf (Cond.code yX6_foundOf cX6_foundOf 4 (some .int) :: GW) (Rm 0 0 0) (cPre [.int (iI x0), .int (iI x1), .int (iI x2)] D T [] sz) (qI D [] sz (fun (v : Int32) (u : Int) => iI u = v ∧ (-2147483648) ≤ u ∧ u ≤ 2147483647 ∧ (u = inB x1 x0 x2)) (fun u => [])) 0 0 (va_A [] sz) := by
  refine e_I (by decide) (Nat.le_of_ble_eq_true rfl) ?_
  intro p e s m args below meth c A Q ls M hin w ret hl
  have hx := M.1.1
  have hb := M.1.2.1
  have hl : lv_has ls 4 [(0, .int (iI x0)), (1, .int (iI x1)), (2, .int (iI x2))] := hl
  refine lv_iload_n hx hb dX6_foundOf_0 rfl (lv_at hl 0 rfl) ?_
  refine lv_iload_n hx hb dX6_foundOf_1 rfl (lv_at hl 2 rfl) ?_
  refine lv_icmp_ge (tgt := 11) hx hb dX6_foundOf_2 (by decide) (fun c_1 => ?_) (fun c_1 => ?_)
  · replace c_1 := (iI_le (Int.le_trans (by decide) x2_a) (Int.le_trans x2_b (by decide)) (Int.le_trans (by decide) x0_a) (Int.le_trans x0_b (by decide))).mp c_1
    refine lv_iload_n hx hb dX6_foundOf_11 rfl (lv_at hl 0 rfl) ?_
    refine lv_iconst (v := iI 2) hx hb dX6_foundOf_12 (by decide +kernel) ?_
    refine r_iadd (v := iI (x0 + 2)) M (iI_add _ _) dX6_foundOf_13 ?_
    refine lv_istore_n (lv' := [(3, .int (iI (x0 + 2))), (0, .int (iI x0)), (1, .int (iI x1)), (2, .int (iI x2))]) hx hb dX6_foundOf_14 rfl hl (by decide) rfl (fun ls hl => ?_)
    refine lv_iload_n hx hb dX6_foundOf_15 rfl (lv_at hl 0 rfl) ?_
    refine lv_iload_n hx hb dX6_foundOf_16 rfl (lv_at hl 2 rfl) ?_
    refine lv_icmp_ge (tgt := 24) hx hb dX6_foundOf_17 (by decide) (fun c_2 => ?_) (fun c_2 => ?_)
    · replace c_2 := (iI_le (Int.le_trans (by decide) x1_a) (Int.le_trans x1_b (by decide)) (by omega) (by omega)).mp c_2
      refine lv_sipush (v := iI 255) hx hb dX6_foundOf_24 (by decide +kernel) ?_
      exact ret _ 255 _ _ _ _ _ [] dX6_foundOf_27 ⟨rfl, (show (-2147483648) ≤ 255 from by decide), (show (255 : Int) ≤ 2147483647 from by decide), (show 255 = inB x1 x0 x2 from (by unfold inB; split <;> first | omega | (split <;> omega)))⟩ w (by decide) rfl
    · replace c_2 : (x0 + 2) < x1 := Int.not_le.mp (fun h => c_2 ((iI_le (Int.le_trans (by decide) x1_a) (Int.le_trans x1_b (by decide)) (by omega) (by omega)).mpr h))
      refine lv_iload_n hx hb dX6_foundOf_20 rfl (lv_at hl 0 rfl) ?_
      refine lv_goto (tgt := 27) hx hb dX6_foundOf_21 (by decide) ?_
      exact ret _ (x0 + 2) _ _ _ _ _ [] dX6_foundOf_27 ⟨rfl, (show (-2147483648) ≤ (x0 + 2) from by omega), (show (x0 + 2) ≤ 2147483647 from by omega), (show (x0 + 2) = inB x1 x0 x2 from (by unfold inB; split <;> first | omega | (split <;> omega)))⟩ w (by decide) rfl
  · replace c_1 : x0 < x2 := Int.not_le.mp (fun h => c_1 ((iI_le (Int.le_trans (by decide) x2_a) (Int.le_trans x2_b (by decide)) (Int.le_trans (by decide) x0_a) (Int.le_trans x0_b (by decide))).mpr h))
    refine lv_iload_n hx hb dX6_foundOf_5 rfl (lv_at hl 0 rfl) ?_
    refine lv_iconst (v := iI 1) hx hb dX6_foundOf_6 (by decide +kernel) ?_
    refine r_iadd (v := iI (x0 + 1)) M (iI_add _ _) dX6_foundOf_7 ?_
    refine lv_goto (tgt := 14) hx hb dX6_foundOf_8 (by decide) ?_
    refine lv_istore_n (lv' := [(3, .int (iI (x0 + 1))), (0, .int (iI x0)), (1, .int (iI x1)), (2, .int (iI x2))]) hx hb dX6_foundOf_14 rfl hl (by decide) rfl (fun ls hl => ?_)
    refine lv_iload_n hx hb dX6_foundOf_15 rfl (lv_at hl 0 rfl) ?_
    refine lv_iload_n hx hb dX6_foundOf_16 rfl (lv_at hl 2 rfl) ?_
    refine lv_icmp_ge (tgt := 24) hx hb dX6_foundOf_17 (by decide) (fun c_3 => ?_) (fun c_3 => ?_)
    · replace c_3 := (iI_le (Int.le_trans (by decide) x1_a) (Int.le_trans x1_b (by decide)) (by omega) (by omega)).mp c_3
      refine lv_sipush (v := iI 255) hx hb dX6_foundOf_24 (by decide +kernel) ?_
      exact ret _ 255 _ _ _ _ _ [] dX6_foundOf_27 ⟨rfl, (show (-2147483648) ≤ 255 from by decide), (show (255 : Int) ≤ 2147483647 from by decide), (show 255 = inB x1 x0 x2 from (by unfold inB; split <;> first | omega | (split <;> omega)))⟩ w (by decide) rfl
    · replace c_3 : (x0 + 1) < x1 := Int.not_le.mp (fun h => c_3 ((iI_le (Int.le_trans (by decide) x1_a) (Int.le_trans x1_b (by decide)) (by omega) (by omega)).mpr h))
      refine lv_iload_n hx hb dX6_foundOf_20 rfl (lv_at hl 0 rfl) ?_
      refine lv_goto (tgt := 27) hx hb dX6_foundOf_21 (by decide) ?_
      exact ret _ (x0 + 1) _ _ _ _ _ [] dX6_foundOf_27 ⟨rfl, (show (-2147483648) ≤ (x0 + 1) from by omega), (show (x0 + 1) ≤ 2147483647 from by omega), (show (x0 + 1) = inB x1 x0 x2 from (by unfold inB; split <;> first | omega | (split <;> omega)))⟩ w (by decide) rfl
set_option maxRecDepth 100000 in
set_option maxHeartbeats 4000000 in
theorem c340_X6_mostLeft (l : Launch) (D : va_G) (T : Nat → ClassId) (sz : Nat) (x0 : Int) (x1 : Int) (x2 : Int) (x0_a : 0 ≤ x0) (x0_b : x0 ≤ 1023) (x1_a : 0 ≤ x1) (x1_b : x1 ≤ 9) (x2_a : 0 ≤ x2) (x2_b : x2 ≤ 8) : Met l yX6_mostLeft (Cond.code yX6_mostLeft cX6_mostLeft 5 (some .int) :: GW) (Rm 1 0 0) (cPre [.int (iI x0), .int (iI x1), .int (iI x2)] D T [] sz) (qI D [] sz (fun (v : Int32) (u : Int) => iI u = v ∧ (-2147483648) ≤ u ∧ u ≤ 2147483647 ∧ (lfQ x1 x2 (slN (bitF x0) (Int.toNat (x2 + 1))) (slN (bitF x0) 10) u)) (fun u => [])) 0 0 (va_A [] sz) := by
  refine e_I (by decide) (Nat.le_of_ble_eq_true rfl) ?_
  intro p e s m args below meth c A Q ls M hin w ret hl
  have hx := M.1.1
  have hb := M.1.2.1
  have hl : lv_has ls 5 [(0, .int (iI x0)), (1, .int (iI x1)), (2, .int (iI x2))] := hl
  refine lv_iload_n hx hb dX6_mostLeft_0 rfl (lv_at hl 0 rfl) ?_
  refine k_I (ce := 0) (sl := 0) (rest := []) (wr := []) (r_S (f := 0) [] M w V_HookedCity_Slipped_36 G1023 (c337_J6_bitCount_0f7a4 l D T _ x0 x0_a x0_b) rfl (by decide) rfl hl.1 rfl (Nat.le_of_ble_eq_true rfl) dX6_mostLeft_1 (by decide) (by decide) (by decide) (by decide)) w [] [] rfl rfl (by decide) (by decide) rfl rfl (fun v z1 H locs hp w => ?_)
  have hv : iI z1 = v := hp.1
  subst hv
  have z1_a : 0 ≤ z1 := hp.2.1
  have z1_b : z1 ≤ 10 := hp.2.2.1
  have pq2 : 0 ≤ x0 → x0 ≤ 1023 → z1 = slN (bitF x0) 10 := hp.2.2.2
  have w : WD D A s.heap [] H locs := w
  refine lv_istore_n (lv' := [(3, .int (iI z1)), (0, .int (iI x0)), (1, .int (iI x1)), (2, .int (iI x2))]) hx hb dX6_mostLeft_4 rfl hl (by decide) rfl (fun ls hl => ?_)
  refine lv_iload_n hx hb dX6_mostLeft_5 rfl (lv_at hl 3 rfl) ?_
  refine lv_iload_n hx hb dX6_mostLeft_6 rfl (lv_at hl 2 rfl) ?_
  refine lv_iload_n hx hb dX6_mostLeft_7 rfl (lv_at hl 3 rfl) ?_
  refine k_I (ce := 0) (sl := 0) (rest := []) (wr := []) (r_S (f := 0) [] M w V_HookedCity_Slipped_48 G1010 (c339_X6_foundOf l D T _ x2 x1 x2 (by omega) (by omega) x1_a x1_b (by omega) (by omega)) rfl (by decide) rfl hl.1 rfl (Nat.le_of_ble_eq_true rfl) dX6_mostLeft_8 (by decide) (by decide) (by decide) (by decide)) w [] [] rfl rfl (by decide) (by decide) rfl rfl (fun v z3 H locs hp w => ?_)
  have hv : iI z3 = v := hp.1
  subst hv
  have z3_a : (-2147483648) ≤ z3 := hp.2.1
  have z3_b : z3 ≤ 2147483647 := hp.2.2.1
  have pq4 : z3 = inB x1 x2 x2 := hp.2.2.2
  have w : WD D A s.heap [] H locs := w
  refine lv_iload_n hx hb dX6_mostLeft_11 rfl (lv_at hl 3 rfl) ?_
  refine lv_iload_n hx hb dX6_mostLeft_12 rfl (lv_at hl 2 rfl) ?_
  refine lv_iload_n hx hb dX6_mostLeft_13 rfl (lv_at hl 3 rfl) ?_
  refine lv_iconst (v := iI 1) hx hb dX6_mostLeft_14 (by decide +kernel) ?_
  refine r_iadd (v := iI (x2 + 1)) M (iI_add _ _) dX6_mostLeft_15 ?_
  refine k_I (ce := 0) (sl := 0) (rest := [.int (iI z3)]) (wr := []) (r_S (f := 0) [] M w V_HookedCity_Slipped_48 G1010 (c339_X6_foundOf l D T _ x2 x1 (x2 + 1) (by omega) (by omega) x1_a x1_b (by omega) (by omega)) rfl (by decide) rfl hl.1 rfl (Nat.le_of_ble_eq_true rfl) dX6_mostLeft_16 (by decide) (by decide) (by decide) (by decide)) w [] [] rfl rfl (by decide) (by decide) rfl rfl (fun v z5 H locs hp w => ?_)
  have hv : iI z5 = v := hp.1
  subst hv
  have z5_a : (-2147483648) ≤ z5 := hp.2.1
  have z5_b : z5 ≤ 2147483647 := hp.2.2.1
  have pq6 : z5 = inB x1 x2 (x2 + 1) := hp.2.2.2
  have w : WD D A s.heap [] H locs := w
  refine lv_icmp_ne (tgt := 24) hx hb dX6_mostLeft_19 (by decide) (fun c_7 => ?_) (fun c_7 => ?_)
  · replace c_7 : ¬ z3 = z5 := fun h => c_7 ((iI_eq (Int.le_trans (by decide) z3_a) (Int.le_trans z3_b (by decide)) (Int.le_trans (by decide) z5_a) (Int.le_trans z5_b (by decide))).mpr h)
    refine lv_iload_n hx hb dX6_mostLeft_24 rfl (lv_at hl 1 rfl) ?_
    refine lv_iconst (v := iI 1) hx hb dX6_mostLeft_25 (by decide +kernel) ?_
    refine lv_iload_n hx hb dX6_mostLeft_26 rfl (lv_at hl 3 rfl) ?_
    refine lv_iconst (v := iI 1) hx hb dX6_mostLeft_27 (by decide +kernel) ?_
    refine r_iadd (v := iI (x2 + 1)) M (iI_add _ _) dX6_mostLeft_28 ?_
    refine r_ishl (v := _) M rfl dX6_mostLeft_29 ?_
    refine b_rngx (lo := 1) (hi := 512) (ishl_10 (by omega) (by omega)) (fun z8 z8_a z8_b hz9 => ?_)
    refine lv_iconst (v := iI 1) hx hb dX6_mostLeft_30 (by decide +kernel) ?_
    refine r_isub (v := iI (z8 - 1)) M (iI_sub _ _) dX6_mostLeft_31 ?_
    refine r_iand (v := _) M rfl dX6_mostLeft_32 ?_
    refine b_rngx (lo := 0) (hi := (z8 - 1)) (iand_r (by omega) (by omega)) (fun z10 z10_a z10_b hz11 => ?_)
    refine k_I (ce := 0) (sl := 0) (rest := []) (wr := []) (r_S (f := 0) [] M w V_HookedCity_Slipped_36 G1023 (c337_J6_bitCount_0f7a4 l D T _ z10 (by omega) (by omega)) rfl (by decide) rfl hl.1 rfl (Nat.le_of_ble_eq_true rfl) dX6_mostLeft_33 (by decide) (by decide) (by decide) (by decide)) w [] [] rfl rfl (by decide) (by decide) rfl rfl (fun v z12 H locs hp w => ?_)
    have hv : iI z12 = v := hp.1
    subst hv
    have z12_a : 0 ≤ z12 := hp.2.1
    have z12_b : z12 ≤ 10 := hp.2.2.1
    have pq13 : 0 ≤ z10 → z10 ≤ 1023 → z12 = slN (bitF z10) 10 := hp.2.2.2
    have w : WD D A s.heap [] H locs := w
    refine lv_istore (lv' := [(4, .int (iI z12)), (3, .int (iI z1)), (0, .int (iI x0)), (1, .int (iI x1)), (2, .int (iI x2))]) hx hb dX6_mostLeft_36 hl (by decide) rfl (fun ls hl => ?_)
    refine lv_iload hx hb dX6_mostLeft_38 (lv_at hl 0 rfl) ?_
    refine lv_iload_n hx hb dX6_mostLeft_40 rfl (lv_at hl 1 rfl) ?_
    refine lv_iload hx hb dX6_mostLeft_41 (lv_at hl 0 rfl) ?_
    refine r_isub (v := iI (z1 - z12)) M (iI_sub _ _) dX6_mostLeft_43 ?_
    refine r_max (v := _) M G1028 G638 G136 G639 hl.1 (by decide) (Nat.le_of_ble_eq_true rfl) (by decide) (by decide) rfl dX6_mostLeft_44 ?_
    refine b_anyx (fun z14 z14_a z14_b hz15 => ?_)
    exact ret _ z14 _ _ _ _ _ [] dX6_mostLeft_47 ⟨rfl, z14_a, z14_b, (show lfQ x1 x2 (slN (bitF x0) (Int.toNat (x2 + 1))) (slN (bitF x0) 10) z14 from (ml_2 pq4 pq6 (by omega) (by omega) (pq2 (by omega) (by omega)) (mk_x (by omega) (by omega) (by omega) (by omega) hz9 hz11 (pq13 (by omega) (by omega))) (mx_x (by omega) (by omega) (by omega) (by omega) (by omega) (by omega) hz15)))⟩ w (by decide) rfl
  · replace c_7 := (iI_eq (Int.le_trans (by decide) z3_a) (Int.le_trans z3_b (by decide)) (Int.le_trans (by decide) z5_a) (Int.le_trans z5_b (by decide))).mp c_7
    refine lv_iload_n hx hb dX6_mostLeft_22 rfl (lv_at hl 0 rfl) ?_
    exact ret _ z1 _ _ _ _ _ [] dX6_mostLeft_23 ⟨rfl, (show (-2147483648) ≤ z1 from by omega), (show z1 ≤ 2147483647 from by omega), (show lfQ x1 x2 (slN (bitF x0) (Int.toNat (x2 + 1))) (slN (bitF x0) 10) z1 from (Or.inl ⟨ml_0 pq4 pq6 (by omega) (by omega), (pq2 (by omega) (by omega))⟩))⟩ w (by decide) rfl
set_option maxRecDepth 100000 in
set_option maxHeartbeats 4000000 in
theorem c341_X6_bestToTurn (l : Launch) (D : va_G) (T : Nat → ClassId) (sz : Nat) (x0 : Int) (x1 : Int) (x0_a : 0 ≤ x0) (x0_b : x0 ≤ 1023) (x1_a : 0 ≤ x1) (x1_b : x1 ≤ 9) : Met l yX6_bestToTurn (Cond.code yX6_bestToTurn cX6_bestToTurn 6 (some .int) :: GW) (Rm 2 0 0) (cPre [.int (iI x0), .int (iI x1)] D T [] sz) (qI D [] sz (fun (v : Int32) (u : Int) => iI u = v ∧ (-1) ≤ u ∧ u ≤ 8 ∧ (0 < x1 → bsJ (LB x0 x1) x1 u)) (fun u => [])) 0 0 (va_A [] sz) := by
  refine e_I (by decide) (Nat.le_of_ble_eq_true rfl) ?_
  intro p e s m args below meth c A Q ls M hin w ret hl
  have hx := M.1.1
  have hb := M.1.2.1
  have hl : lv_has ls 6 [(0, .int (iI x0)), (1, .int (iI x1))] := hl
  refine lv_iconst (v := iI (-1)) hx hb dX6_bestToTurn_0 (by decide +kernel) ?_
  refine lv_istore_n (lv' := [(2, .int (iI (-1))), (0, .int (iI x0)), (1, .int (iI x1))]) hx hb dX6_bestToTurn_1 rfl hl (by decide) rfl (fun ls hl => ?_)
  refine lv_iconst (v := iI 0) hx hb dX6_bestToTurn_2 (by decide +kernel) ?_
  refine lv_istore_n (lv' := [(3, .int (iI 0)), (2, .int (iI (-1))), (0, .int (iI x0)), (1, .int (iI x1))]) hx hb dX6_bestToTurn_3 rfl hl (by decide) rfl (fun ls hl => ?_)
  refine lv_iconst (v := iI 0) hx hb dX6_bestToTurn_4 (by decide +kernel) ?_
  refine lv_istore (lv' := [(4, .int (iI 0)), (3, .int (iI 0)), (2, .int (iI (-1))), (0, .int (iI x0)), (1, .int (iI x1))]) hx hb dX6_bestToTurn_5 hl (by decide) rfl (fun ls hl => ?_)
  have loop1 : ∀ (k1 : Nat) (z1 : Int) (z2 : Int) (z3 : Int) (H : Heap) (locs : List Loc) (ls : Array Slot), 0 ≤ z1 → z1 ≤ 9 → (-2147483648) ≤ z2 → z2 ≤ 2147483647 → (-1) ≤ z3 → z3 ≤ 8 → 0 ≤ (x1 - z1) → bqJ x0 x1 z1 z3 z2 → ((x1 - z1) : Int).toNat < k1 → WD D A s.heap [] H locs → lv_has ls 6 [(4, .int (iI z1)), (3, .int (iI z2)), (2, .int (iI z3)), (0, .int (iI x0)), (1, .int (iI x1))] → W p l e (Rm 2 0 0) s m args below meth c H locs 0 0 Q (F0 m 7 ls []) := by
    intro k1
    induction k1 with
    | zero => intro z1 z2 z3 H locs ls z1_a z1_b z2_a z2_b z3_a z3_b q1_0 lq1_j hm; exact absurd hm (Nat.not_lt_zero _)
    | succ k1 ih1 =>
      intro z1 z2 z3 H locs ls z1_a z1_b z2_a z2_b z3_a z3_b q1_0 lq1_j hm1 w hl
      refine lv_iload hx hb dX6_bestToTurn_7 (lv_at hl 0 rfl) ?_
      refine lv_iload_n hx hb dX6_bestToTurn_9 rfl (lv_at hl 4 rfl) ?_
      refine lv_icmp_ge (tgt := 45) hx hb dX6_bestToTurn_10 (by decide) (fun c_4 => ?_) (fun c_4 => ?_)
      · replace c_4 := (iI_le (Int.le_trans (by decide) x1_a) (Int.le_trans x1_b (by decide)) (Int.le_trans (by decide) z1_a) (Int.le_trans z1_b (by decide))).mp c_4
        refine lv_iload_n hx hb dX6_bestToTurn_45 rfl (lv_at hl 2 rfl) ?_
        exact ret _ z3 _ _ _ _ _ [] dX6_bestToTurn_46 ⟨rfl, z3_a, z3_b, (show 0 < x1 → bsJ (LB x0 x1) x1 z3 from (fun h9 => bqJ_f lq1_j (by omega) h9))⟩ w (by decide) rfl
      · replace c_4 : z1 < x1 := Int.not_le.mp (fun h => c_4 ((iI_le (Int.le_trans (by decide) x1_a) (Int.le_trans x1_b (by decide)) (Int.le_trans (by decide) z1_a) (Int.le_trans z1_b (by decide))).mpr h))
        refine lv_iload_n hx hb dX6_bestToTurn_13 rfl (lv_at hl 3 rfl) ?_
        refine lv_iload_n hx hb dX6_bestToTurn_14 rfl (lv_at hl 4 rfl) ?_
        refine lv_iload hx hb dX6_bestToTurn_15 (lv_at hl 0 rfl) ?_
        refine k_I (ce := 0) (sl := 0) (rest := []) (wr := []) (r_S (f := 1) [] M w V_HookedCity_Slipped_52 G1020 (c340_X6_mostLeft l D T _ x0 x1 z1 x0_a x0_b x1_a x1_b (by omega) (by omega)) rfl (by decide) rfl hl.1 rfl (Nat.le_of_ble_eq_true rfl) dX6_bestToTurn_17 (by decide) (by decide) (by decide) (by decide)) w [] [] rfl rfl (by decide) (by decide) rfl rfl (fun v z5 H locs hp w => ?_)
        have hv : iI z5 = v := hp.1
        subst hv
        have z5_a : (-2147483648) ≤ z5 := hp.2.1
        have z5_b : z5 ≤ 2147483647 := hp.2.2.1
        have pq6 : lfQ x1 z1 (slN (bitF x0) (Int.toNat (z1 + 1))) (slN (bitF x0) 10) z5 := hp.2.2.2
        have w : WD D A s.heap [] H locs := w
        refine lv_istore (lv' := [(5, .int (iI z5)), (4, .int (iI z1)), (3, .int (iI z2)), (2, .int (iI z3)), (0, .int (iI x0)), (1, .int (iI x1))]) hx hb dX6_bestToTurn_20 hl (by decide) rfl (fun ls hl => ?_)
        refine lv_iload_n hx hb dX6_bestToTurn_22 rfl (lv_at hl 3 rfl) ?_
        refine lv_iconst (v := iI (-1)) hx hb dX6_bestToTurn_23 (by decide +kernel) ?_
        refine lv_icmp_eq (tgt := 33) hx hb dX6_bestToTurn_24 (by decide) (fun c_7 => ?_) (fun c_7 => ?_)
        · replace c_7 := (iI_eq (Int.le_trans (by decide) z3_a) (Int.le_trans z3_b (by decide)) (by decide) (by decide)).mp c_7
          refine lv_iload hx hb dX6_bestToTurn_33 (lv_at hl 1 rfl) ?_
          refine lv_istore_n (lv' := [(2, .int (iI z1)), (5, .int (iI z5)), (4, .int (iI z1)), (3, .int (iI z2)), (0, .int (iI x0)), (1, .int (iI x1))]) hx hb dX6_bestToTurn_35 rfl hl (by decide) rfl (fun ls hl => ?_)
          refine lv_iload hx hb dX6_bestToTurn_36 (lv_at hl 1 rfl) ?_
          refine lv_istore_n (lv' := [(3, .int (iI z5)), (2, .int (iI z1)), (5, .int (iI z5)), (4, .int (iI z1)), (0, .int (iI x0)), (1, .int (iI x1))]) hx hb dX6_bestToTurn_38 rfl hl (by decide) rfl (fun ls hl => ?_)
          refine lv_iinc (v := iI (z1 + 1)) (lv' := [(4, .int (iI (z1 + 1))), (3, .int (iI z5)), (2, .int (iI z1)), (5, .int (iI z5)), (0, .int (iI x0)), (1, .int (iI x1))]) hx hb dX6_bestToTurn_39 hl (k := 3) rfl (ii_inc (by decide +kernel)) (by decide) rfl (fun ls hl => ?_)
          refine lv_goto (tgt := 7) hx hb dX6_bestToTurn_42 (by decide) ?_
          exact ih1 (z1 + 1) z5 z1 _ _ _ (by omega) (by omega) z5_a z5_b (by omega) (by omega) (by omega) (bqJ_t lq1_j (by omega) pq6 (by omega)) (by omega) w (lv_sub hl [0, 1, 2, 4, 5] rfl)
        · replace c_7 : ¬ z3 = (-1) := fun h => c_7 ((iI_eq (Int.le_trans (by decide) z3_a) (Int.le_trans z3_b (by decide)) (by decide) (by decide)).mpr h)
          refine lv_iload hx hb dX6_bestToTurn_27 (lv_at hl 0 rfl) ?_
          refine lv_iload_n hx hb dX6_bestToTurn_29 rfl (lv_at hl 2 rfl) ?_
          refine lv_icmp_ge (tgt := 39) hx hb dX6_bestToTurn_30 (by decide) (fun c_8 => ?_) (fun c_8 => ?_)
          · replace c_8 := (iI_le (Int.le_trans (by decide) z2_a) (Int.le_trans z2_b (by decide)) (Int.le_trans (by decide) z5_a) (Int.le_trans z5_b (by decide))).mp c_8
            refine lv_iinc (v := iI (z1 + 1)) (lv' := [(4, .int (iI (z1 + 1))), (5, .int (iI z5)), (3, .int (iI z2)), (2, .int (iI z3)), (0, .int (iI x0)), (1, .int (iI x1))]) hx hb dX6_bestToTurn_39 hl (k := 1) rfl (ii_inc (by decide +kernel)) (by decide) rfl (fun ls hl => ?_)
            refine lv_goto (tgt := 7) hx hb dX6_bestToTurn_42 (by decide) ?_
            exact ih1 (z1 + 1) z2 z3 _ _ _ (by omega) (by omega) z2_a z2_b z3_a z3_b (by omega) (bqJ_t lq1_j (by omega) pq6 (by omega)) (by omega) w (lv_sub hl [0, 2, 3, 4, 5] rfl)
          · replace c_8 : z5 < z2 := Int.not_le.mp (fun h => c_8 ((iI_le (Int.le_trans (by decide) z2_a) (Int.le_trans z2_b (by decide)) (Int.le_trans (by decide) z5_a) (Int.le_trans z5_b (by decide))).mpr h))
            refine lv_iload hx hb dX6_bestToTurn_33 (lv_at hl 1 rfl) ?_
            refine lv_istore_n (lv' := [(2, .int (iI z1)), (5, .int (iI z5)), (4, .int (iI z1)), (3, .int (iI z2)), (0, .int (iI x0)), (1, .int (iI x1))]) hx hb dX6_bestToTurn_35 rfl hl (by decide) rfl (fun ls hl => ?_)
            refine lv_iload hx hb dX6_bestToTurn_36 (lv_at hl 1 rfl) ?_
            refine lv_istore_n (lv' := [(3, .int (iI z5)), (2, .int (iI z1)), (5, .int (iI z5)), (4, .int (iI z1)), (0, .int (iI x0)), (1, .int (iI x1))]) hx hb dX6_bestToTurn_38 rfl hl (by decide) rfl (fun ls hl => ?_)
            refine lv_iinc (v := iI (z1 + 1)) (lv' := [(4, .int (iI (z1 + 1))), (3, .int (iI z5)), (2, .int (iI z1)), (5, .int (iI z5)), (0, .int (iI x0)), (1, .int (iI x1))]) hx hb dX6_bestToTurn_39 hl (k := 3) rfl (ii_inc (by decide +kernel)) (by decide) rfl (fun ls hl => ?_)
            refine lv_goto (tgt := 7) hx hb dX6_bestToTurn_42 (by decide) ?_
            exact ih1 (z1 + 1) z5 z1 _ _ _ (by omega) (by omega) z5_a z5_b (by omega) (by omega) (by omega) (bqJ_t lq1_j (by omega) pq6 (by omega)) (by omega) w (lv_sub hl [0, 1, 2, 4, 5] rfl)
  exact loop1 (((x1 - 0) : Int).toNat + 1) 0 0 (-1) _ _ _ (by decide) (by decide) (by decide) (by decide) (by decide) (by decide) (by omega) bqJ_0 (Nat.lt_succ_self _) w (lv_sub hl [0, 1, 2, 3, 4] rfl)
set_option maxRecDepth 100000 in
set_option maxHeartbeats 4000000 in
theorem c342_X6_fits (l : Launch) (D : va_G) (T : Nat → ClassId) (sz : Nat) (a0 : Nat) (x0 : Int) (x1 : Int) (a1 : Nat) (x2 : Int) (x3 : Int) (x4 : Int) (x5 : Int) (x6 : Int) (o0 : Option Nat) (y0 : Int64) (r0 : Int32) (x7 : Int) (x8 : Int) (x9 : Int) (f0 : Int → Int) (x0_a : 0 ≤ x0) (x0_b : x0 ≤ 9) (x1_a : 0 ≤ x1) (x1_b : x1 ≤ 9) (x2_a : 0 ≤ x2) (x2_b : x2 ≤ 940) (x3_a : 0 ≤ x3) (x3_b : x3 ≤ 940) (x4_a : 0 ≤ x4) (x4_b : x4 ≤ 940) (x5_a : 0 ≤ x5) (x5_b : x5 ≤ 940) (x6_a : 0 ≤ x6) (x6_b : x6 ≤ 5) (o0_h : wok T o0) (x7_a : (-2147483648) ≤ x7) (x7_b : x7 ≤ 2147483647) (x8_a : (-2147483648) ≤ x8) (x8_b : x8 ≤ 2147483647) (x9_a : 0 ≤ x9) (x9_b : x9 ≤ 940) (f0_h : rng 0 255 f0) : Met l yX6_fits (Cond.code yX6_fits cX6_fits 4 (some .boolean) :: GW) (Rm 1 0 0) (cPre [.ref a0, .int (iI x0), .int (iI x1)] D T [(a0, .inr (8, [.ref a1, .int (iI x2), .int (iI x3), .int (iI x4), .int (iI x5), .int (iI x6), (va_rf o0), .long y0, .int r0, .int (iI x7), .int (iI x8), .int (iI x9)])), (a1, .inl (T 0, 940, .inl (cI f0)))] sz) (qI D [(a0, .inr (8, [.ref a1, .int (iI x2), .int (iI x3), .int (iI x4), .int (iI x5), .int (iI x6), (va_rf o0), .long y0, .int r0, .int (iI x7), .int (iI x8), .int (iI x9)])), (a1, .inl (T 0, 940, .inl (cI f0)))] sz (fun (v : Int32) (u : Int) => iI u = v ∧ 0 ≤ u ∧ u ≤ 1 ∧ (x2 % 2 = 0 → ftV u f0 x0 x2 x1)) (fun u => [(a0, .inr (8, [.ref a1, .int (iI x2), .int (iI x3), .int (iI x4), .int (iI x5), .int (iI x6), (va_rf o0), .long y0, .int r0, .int (iI x7), .int (iI x8), .int (iI x9)])), (a1, .inl (T 0, 940, .inl (cI f0)))])) 0 0 (va_A [(a0, .inr (8, [.ref a1, .int (iI x2), .int (iI x3), .int (iI x4), .int (iI x5), .int (iI x6), (va_rf o0), .long y0, .int r0, .int (iI x7), .int (iI x8), .int (iI x9)])), (a1, .inl (T 0, 940, .inl (cI f0)))] sz) := by
  refine e_Z (by decide) (Nat.le_of_ble_eq_true rfl) ?_
  intro p e s m args below meth c A Q ls M hin w ret hl
  have hx := M.1.1
  have hb := M.1.2.1
  have hl : lv_has ls 4 [(0, .ref a0), (1, .int (iI x0)), (2, .int (iI x1))] := hl
  refine lv_iconst (v := iI 0) hx hb dX6_fits_0 (by decide +kernel) ?_
  refine lv_istore_n (lv' := [(3, .int (iI 0)), (0, .ref a0), (1, .int (iI x0)), (2, .int (iI x1))]) hx hb dX6_fits_1 rfl hl (by decide) rfl (fun ls hl => ?_)
  have loop1 : ∀ (k1 : Nat) (z1 : Int) (H : Heap) (locs : List Loc) (ls : Array Slot), 0 ≤ z1 → z1 ≤ 942 → z1 % 2 = 0 → slF f0 x0 z1 x1 → ((x2 - z1) : Int).toNat < k1 → WD D A s.heap [(a0, .inr (8, [.ref a1, .int (iI x2), .int (iI x3), .int (iI x4), .int (iI x5), .int (iI x6), (va_rf o0), .long y0, .int r0, .int (iI x7), .int (iI x8), .int (iI x9)])), (a1, .inl (T 0, 940, .inl (cI f0)))] H locs → lv_has ls 4 [(3, .int (iI z1)), (0, .ref a0), (1, .int (iI x0)), (2, .int (iI x1))] → W p l e (Rm 1 0 0) s m args below meth c H locs 0 0 Q (F0 m 2 ls []) := by
    intro k1
    induction k1 with
    | zero => intro z1 H locs ls z1_a z1_b lq1_e lq1_g hm; exact absurd hm (Nat.not_lt_zero _)
    | succ k1 ih1 =>
      intro z1 H locs ls z1_a z1_b lq1_e lq1_g hm1 w hl
      refine lv_iload_n hx hb dX6_fits_2 rfl (lv_at hl 0 rfl) ?_
      refine lv_iconst (v := iI 1) hx hb dX6_fits_3 (by decide +kernel) ?_
      refine r_iadd (v := iI (z1 + 1)) M (iI_add _ _) dX6_fits_4 ?_
      refine lv_aload_n hx hb dX6_fits_5 rfl (lv_at hl 1 rfl) ?_
      refine r_getN (v := .int (iI x2)) M w 0 1 clX8 rfl (by decide) N163 rfl rfl dX6_fits_6 ?_
      refine lv_icmp_ge (tgt := 42) hx hb dX6_fits_9 (by decide) (fun c_2 => ?_) (fun c_2 => ?_)
      · replace c_2 := (iI_le (Int.le_trans (by decide) x2_a) (Int.le_trans x2_b (by decide)) (by omega) (by omega)).mp c_2
        refine lv_iconst (v := iI 1) hx hb dX6_fits_42 (by decide +kernel) ?_
        exact ret _ 1 _ _ _ _ _ [0, 1] dX6_fits_43 (by decide +kernel) ⟨rfl, (show (0 : Int) ≤ 1 from by decide), (show (1 : Int) ≤ 1 from by decide), (show x2 % 2 = 0 → ftV 1 f0 x0 x2 x1 from (fun h9 => Or.inl ⟨rfl, slF_le lq1_g (by omega)⟩))⟩ w (by decide) rfl
      · replace c_2 : (z1 + 1) < x2 := Int.not_le.mp (fun h => c_2 ((iI_le (Int.le_trans (by decide) x2_a) (Int.le_trans x2_b (by decide)) (by omega) (by omega)).mpr h))
        refine lv_aload_n hx hb dX6_fits_12 rfl (lv_at hl 1 rfl) ?_
        refine r_getN (v := .ref a1) M w 0 0 clX8 rfl (by decide) N161 rfl rfl dX6_fits_13 ?_
        refine lv_iload_n hx hb dX6_fits_16 rfl (lv_at hl 0 rfl) ?_
        refine lv_iconst (v := iI 1) hx hb dX6_fits_17 (by decide +kernel) ?_
        refine r_iadd (v := iI (z1 + 1)) M (iI_add _ _) dX6_fits_18 ?_
        refine r_iald (v := iI (f0 (z1 + 1))) M w 1 rfl (iI_in (by omega) (by omega) (by decide)) (cI_at (by omega) (by omega)) dX6_fits_19 ?_
        have hh3 : 0 ≤ (f0 (z1 + 1)) ∧ (f0 (z1 + 1)) ≤ 255 := f0_h (z1 + 1)
        refine lv_aload_n hx hb dX6_fits_20 rfl (lv_at hl 1 rfl) ?_
        refine r_getN (v := .ref a1) M w 0 0 clX8 rfl (by decide) N161 rfl rfl dX6_fits_21 ?_
        refine lv_iload_n hx hb dX6_fits_24 rfl (lv_at hl 0 rfl) ?_
        refine r_iald (v := iI (f0 z1)) M w 1 rfl (iI_in (by omega) (by omega) (by decide)) (cI_at (by omega) (by omega)) dX6_fits_25 ?_
        have hh4 : 0 ≤ (f0 z1) ∧ (f0 z1) ≤ 255 := f0_h z1
        refine lv_iload_n hx hb dX6_fits_26 rfl (lv_at hl 2 rfl) ?_
        refine lv_iload_n hx hb dX6_fits_27 rfl (lv_at hl 3 rfl) ?_
        refine k_I (ce := 0) (sl := 0) (rest := [.int (iI (f0 (z1 + 1)))]) (wr := [(a0, .inr (8, [.ref a1, .int (iI x2), .int (iI x3), .int (iI x4), .int (iI x5), .int (iI x6), (va_rf o0), .long y0, .int r0, .int (iI x7), .int (iI x8), .int (iI x9)])), (a1, .inl (T 0, 940, .inl (cI f0)))]) (r_S (f := 0) [] M w V_HookedCity_Slipped_48 G1010 (c339_X6_foundOf l D T _ (f0 z1) x0 x1 (by omega) (by omega) x0_a x0_b (by omega) (by omega)) rfl (by decide) rfl hl.1 rfl (Nat.le_of_ble_eq_true rfl) dX6_fits_28 (by decide) (by decide) (by decide) (by decide)) w [] [0, 1] rfl rfl (by decide) (by decide) rfl rfl (fun v z5 H locs hp w => ?_)
        have hv : iI z5 = v := hp.1
        subst hv
        have z5_a : (-2147483648) ≤ z5 := hp.2.1
        have z5_b : z5 ≤ 2147483647 := hp.2.2.1
        have pq6 : z5 = inB x0 (f0 z1) x1 := hp.2.2.2
        have w : WD D A s.heap [(a0, .inr (8, [.ref a1, .int (iI x2), .int (iI x3), .int (iI x4), .int (iI x5), .int (iI x6), (va_rf o0), .long y0, .int r0, .int (iI x7), .int (iI x8), .int (iI x9)])), (a1, .inl (T 0, 940, .inl (cI f0)))] H locs := w
        refine lv_icmp_eq (tgt := 36) hx hb dX6_fits_31 (by decide) (fun c_7 => ?_) (fun c_7 => ?_)
        · replace c_7 := (iI_eq (by omega) (by omega) (Int.le_trans (by decide) z5_a) (Int.le_trans z5_b (by decide))).mp c_7
          refine lv_iinc (v := iI (z1 + 2)) (lv' := [(3, .int (iI (z1 + 2))), (0, .ref a0), (1, .int (iI x0)), (2, .int (iI x1))]) hx hb dX6_fits_36 hl (k := 0) rfl (ii_inc (by decide +kernel)) (by decide) rfl (fun ls hl => ?_)
          refine lv_goto (tgt := 2) hx hb dX6_fits_39 (by decide) ?_
          exact ih1 (z1 + 2) _ _ _ (by omega) (by omega) (by omega) (slF_t lq1_g lq1_e (by have e9 := pq6; omega)) (by omega) w (lv_sub hl [0, 1, 2, 3] rfl)
        · replace c_7 : ¬ (f0 (z1 + 1)) = z5 := fun h => c_7 ((iI_eq (by omega) (by omega) (Int.le_trans (by decide) z5_a) (Int.le_trans z5_b (by decide))).mpr h)
          refine lv_iconst (v := iI 0) hx hb dX6_fits_34 (by decide +kernel) ?_
          exact ret _ 0 _ _ _ _ _ [0, 1] dX6_fits_35 (by decide +kernel) ⟨rfl, (show (0 : Int) ≤ 0 from by decide), (show (0 : Int) ≤ 1 from by decide), (show x2 % 2 = 0 → ftV 0 f0 x0 x2 x1 from (fun h9 => Or.inr ⟨rfl, slF_n (by omega) lq1_e (by omega) (by have e9 := pq6; omega)⟩))⟩ w (by decide) rfl
  exact loop1 (((x2 - 0) : Int).toNat + 1) 0 _ _ _ (by decide) (by decide) (by decide) slF_0 (Nat.lt_succ_self _) w (lv_sub hl [0, 1, 2, 3] rfl)
set_option maxRecDepth 100000 in
set_option maxHeartbeats 4000000 in
theorem c343_X6_judge (l : Launch) (D : va_G) (T : Nat → ClassId) (sz : Nat) (a0 : Nat) (a1 : Nat) (x0 : Int) (x1 : Int) (x2 : Int) (a2 : Nat) (x3 : Int) (x4 : Int) (x5 : Int) (x6 : Int) (x7 : Int) (o0 : Option Nat) (y0 : Int64) (r0 : Int32) (x8 : Int) (x9 : Int) (x10 : Int) (f0 : Int → Int) (x0_a : 0 ≤ x0) (x0_b : x0 ≤ 9) (x1_a : (-1) ≤ x1) (x1_b : x1 ≤ 9) (x2_a : (-1) ≤ x2) (x2_b : x2 ≤ 8) (x3_a : 0 ≤ x3) (x3_b : x3 ≤ 940) (x4_a : 0 ≤ x4) (x4_b : x4 ≤ 940) (x5_a : 0 ≤ x5) (x5_b : x5 ≤ 940) (x6_a : 0 ≤ x6) (x6_b : x6 ≤ 940) (x7_a : 0 ≤ x7) (x7_b : x7 ≤ 5) (o0_h : wok T o0) (x8_a : (-2147483648) ≤ x8) (x8_b : x8 ≤ 2147483647) (x9_a : (-2147483648) ≤ x9) (x9_b : x9 ≤ 2147483647) (x10_a : 0 ≤ x10) (x10_b : x10 ≤ 940) (f0_h : rng 0 255 f0) : Met l yX6_judge (Cond.code yX6_judge cX6_judge 5 (some .int) :: GW) (Rm 3 0 0) (cPre [.ref a0, .ref a1, .int (iI x0)] D T [(a0, .inr (6, [.int (iI x1), .int (iI x2)])), (a1, .inr (8, [.ref a2, .int (iI x3), .int (iI x4), .int (iI x5), .int (iI x6), .int (iI x7), (va_rf o0), .long y0, .int r0, .int (iI x8), .int (iI x9), .int (iI x10)])), (a2, .inl (T 0, 940, .inl (cI f0)))] sz) (qI D [(a0, .inr (6, [.int (iI x1), .int (iI x2)])), (a1, .inr (8, [.ref a2, .int (iI x3), .int (iI x4), .int (iI x5), .int (iI x6), .int (iI x7), (va_rf o0), .long y0, .int r0, .int (iI x8), .int (iI x9), .int (iI x10)])), (a2, .inl (T 0, 940, .inl (cI f0)))] sz (fun (v : Int32) (u : Int × Int × Int) => iI u.1 = v ∧ (-2147483648) ≤ u.1 ∧ u.1 ≤ 2147483647 ∧ (-1) ≤ u.2.1 ∧ u.2.1 ≤ 9 ∧ (-1) ≤ u.2.2 ∧ u.2.2 ≤ 8 ∧ (slQ f0 x0 x3 u.1 x1 u.2.1 x2 u.2.2)) (fun u => [(a0, .inr (6, [.int (iI u.2.1), .int (iI u.2.2)])), (a1, .inr (8, [.ref a2, .int (iI x3), .int (iI x4), .int (iI x5), .int (iI x6), .int (iI x7), (va_rf o0), .long y0, .int r0, .int (iI x8), .int (iI x9), .int (iI x10)])), (a2, .inl (T 0, 940, .inl (cI f0)))])) 0 0 (va_A [(a0, .inr (6, [.int (iI x1), .int (iI x2)])), (a1, .inr (8, [.ref a2, .int (iI x3), .int (iI x4), .int (iI x5), .int (iI x6), .int (iI x7), (va_rf o0), .long y0, .int r0, .int (iI x8), .int (iI x9), .int (iI x10)])), (a2, .inl (T 0, 940, .inl (cI f0)))] sz) := by
  refine e_I (by decide) (Nat.le_of_ble_eq_true rfl) ?_
  intro p e s m args below meth c A Q ls M hin w ret hl
  have hx := M.1.1
  have hb := M.1.2.1
  have hl : lv_has ls 5 [(0, .ref a0), (1, .ref a1), (2, .int (iI x0))] := hl
  refine lv_aload_n hx hb dX6_judge_0 rfl (lv_at hl 1 rfl) ?_
  refine lv_iload_n hx hb dX6_judge_1 rfl (lv_at hl 2 rfl) ?_
  refine k_I (ce := 0) (sl := 0) (rest := []) (wr := [(a0, .inr (6, [.int (iI x1), .int (iI x2)]))]) (r_S (f := 0) [1, 2] M w V_HookedCity_Slipped_18 G1004 (c336_X6_isAsTold l D T _ a1 x0 a2 x3 x4 x5 x6 x7 o0 y0 r0 x8 x9 x10 f0 x0_a x0_b x3_a x3_b x4_a x4_b x5_a x5_b x6_a x6_b x7_a x7_b o0_h x8_a x8_b x9_a x9_b x10_a x10_b f0_h) rfl (by decide) rfl hl.1 rfl (Nat.le_of_ble_eq_true rfl) dX6_judge_2 (by decide) (by decide) (by decide) (by decide)) w [1, 2] [0] rfl rfl (by decide) (by decide) rfl rfl (fun v z1 H locs hp w => ?_)
  have hv : iI z1 = v := hp.1
  subst hv
  have z1_a : 0 ≤ z1 := hp.2.1
  have z1_b : z1 ≤ 1 := hp.2.2.1
  have pq2 : taV z1 f0 x0 x3 := hp.2.2.2
  have w : WD D A s.heap [(a0, .inr (6, [.int (iI x1), .int (iI x2)])), (a1, .inr (8, [.ref a2, .int (iI x3), .int (iI x4), .int (iI x5), .int (iI x6), .int (iI x7), (va_rf o0), .long y0, .int r0, .int (iI x8), .int (iI x9), .int (iI x10)])), (a2, .inl (T 0, 940, .inl (cI f0)))] H locs := w
  refine lv_if_ne (tgt := 10) hx hb dX6_judge_5 (by decide) (fun c_3 => ?_) (fun c_3 => ?_)
  · replace c_3 : ¬ z1 = 0 := fun h => c_3 ((iz_eq (Int.le_trans (by decide) z1_a) (Int.le_trans z1_b (by decide))).mpr h)
    refine lv_iconst (v := iI 0) hx hb dX6_judge_10 (by decide +kernel) ?_
    refine lv_istore_n (lv' := [(3, .int (iI 0)), (0, .ref a0), (1, .ref a1), (2, .int (iI x0))]) hx hb dX6_judge_11 rfl hl (by decide) rfl (fun ls hl => ?_)
    refine lv_iconst (v := iI 0) hx hb dX6_judge_12 (by decide +kernel) ?_
    refine lv_istore (lv' := [(4, .int (iI 0)), (3, .int (iI 0)), (0, .ref a0), (1, .ref a1), (2, .int (iI x0))]) hx hb dX6_judge_13 hl (by decide) rfl (fun ls hl => ?_)
    have loop1 : ∀ (k1 : Nat) (z4 : Int) (z5 : Int) (H : Heap) (locs : List Loc) (ls : Array Slot), 0 ≤ z4 → z4 ≤ 10 → 0 ≤ z5 → z5 ≤ 1023 → 0 ≤ ((x0 + 1) - z4) → z5 = slB (slb f0 x0 x3) (Int.toNat z4) → (((x0 + 1) - z4) : Int).toNat < k1 → WD D A s.heap [(a0, .inr (6, [.int (iI x1), .int (iI x2)])), (a1, .inr (8, [.ref a2, .int (iI x3), .int (iI x4), .int (iI x5), .int (iI x6), .int (iI x7), (va_rf o0), .long y0, .int r0, .int (iI x8), .int (iI x9), .int (iI x10)])), (a2, .inl (T 0, 940, .inl (cI f0)))] H locs → lv_has ls 5 [(4, .int (iI z4)), (3, .int (iI z5)), (0, .ref a0), (1, .ref a1), (2, .int (iI x0))] → W p l e (Rm 3 0 0) s m args below meth c H locs 0 0 Q (F0 m 15 ls []) := by
      intro k1
      induction k1 with
      | zero => intro z4 z5 H locs ls z4_a z4_b z5_a z5_b q1_0 lq1_b hm; exact absurd hm (Nat.not_lt_zero _)
      | succ k1 ih1 =>
        intro z4 z5 H locs ls z4_a z4_b z5_a z5_b q1_0 lq1_b hm1 w hl
        refine lv_iload hx hb dX6_judge_15 (lv_at hl 0 rfl) ?_
        refine lv_iload_n hx hb dX6_judge_17 rfl (lv_at hl 4 rfl) ?_
        refine lv_icmp_gt (tgt := 48) hx hb dX6_judge_18 (by decide) (fun c_6 => ?_) (fun c_6 => ?_)
        · replace c_6 := (iI_lt (Int.le_trans (by decide) x0_a) (Int.le_trans x0_b (by decide)) (Int.le_trans (by decide) z4_a) (Int.le_trans z4_b (by decide))).mp c_6
          refine lv_iload_n hx hb dX6_judge_48 rfl (lv_at hl 1 rfl) ?_
          refine lv_if_eq (tgt := 69) hx hb dX6_judge_49 (by decide) (fun c_7 => ?_) (fun c_7 => ?_)
          · replace c_7 := (iz_eq (Int.le_trans (by decide) z5_a) (Int.le_trans z5_b (by decide))).mp c_7
            refine lv_iload_n hx hb dX6_judge_69 rfl (lv_at hl 1 rfl) ?_
            refine k_I (ce := 0) (sl := 0) (rest := []) (wr := [(a0, .inr (6, [.int (iI x1), .int (iI x2)])), (a1, .inr (8, [.ref a2, .int (iI x3), .int (iI x4), .int (iI x5), .int (iI x6), .int (iI x7), (va_rf o0), .long y0, .int r0, .int (iI x8), .int (iI x9), .int (iI x10)])), (a2, .inl (T 0, 940, .inl (cI f0)))]) (r_S (f := 0) [] M w V_HookedCity_Slipped_36 G1023 (c337_J6_bitCount_0f7a4 l D T _ z5 z5_a z5_b) rfl (by decide) rfl hl.1 rfl (Nat.le_of_ble_eq_true rfl) dX6_judge_70 (by decide) (by decide) (by decide) (by decide)) w [] [0, 1, 2] rfl rfl (by decide) (by decide) rfl rfl (fun v z8 H locs hp w => ?_)
            have hv : iI z8 = v := hp.1
            subst hv
            have z8_a : 0 ≤ z8 := hp.2.1
            have z8_b : z8 ≤ 10 := hp.2.2.1
            have pq9 : 0 ≤ z5 → z5 ≤ 1023 → z8 = slN (bitF z5) 10 := hp.2.2.2
            have w : WD D A s.heap [(a0, .inr (6, [.int (iI x1), .int (iI x2)])), (a1, .inr (8, [.ref a2, .int (iI x3), .int (iI x4), .int (iI x5), .int (iI x6), .int (iI x7), (va_rf o0), .long y0, .int r0, .int (iI x8), .int (iI x9), .int (iI x10)])), (a2, .inl (T 0, 940, .inl (cI f0)))] H locs := w
            exact ret _ (z8, x1, x2) _ _ _ _ _ [0, 1, 2] dX6_judge_73 ⟨rfl, (show (-2147483648) ≤ z8 from by omega), (show z8 ≤ 2147483647 from by omega), x1_a, x1_b, x2_a, x2_b, (show slQ f0 x0 x3 z8 x1 x1 x2 x2 from (jd_0 (ta_1 pq2 (by omega)) (by omega) (by omega) lq1_b (by omega) (by omega) (pq9 (by omega) (by omega))))⟩ w (by decide) rfl
          · replace c_7 : ¬ z5 = 0 := fun h => c_7 ((iz_eq (Int.le_trans (by decide) z5_a) (Int.le_trans z5_b (by decide))).mpr h)
            refine lv_aload_n hx hb dX6_judge_52 rfl (lv_at hl 2 rfl) ?_
            refine lv_iload_n hx hb dX6_judge_53 rfl (lv_at hl 1 rfl) ?_
            refine k_I (ce := 0) (sl := 0) (rest := [.ref a0]) (wr := [(a0, .inr (6, [.int (iI x1), .int (iI x2)])), (a1, .inr (8, [.ref a2, .int (iI x3), .int (iI x4), .int (iI x5), .int (iI x6), .int (iI x7), (va_rf o0), .long y0, .int r0, .int (iI x8), .int (iI x9), .int (iI x10)])), (a2, .inl (T 0, 940, .inl (cI f0)))]) (r_S (f := 0) [] M w V_HookedCity_Slipped_26 G1013 (c338_J6_numberOfTrailingZeros_0f7a4 l D T _ z5 (by omega) (by omega)) rfl (by decide) rfl hl.1 rfl (Nat.le_of_ble_eq_true rfl) dX6_judge_54 (by decide) (by decide) (by decide) (by decide)) w [] [0, 1, 2] rfl rfl (by decide) (by decide) rfl rfl (fun v z10 H locs hp w => ?_)
            have hv : iI z10 = v := hp.1
            subst hv
            have z10_a : 0 ≤ z10 := hp.2.1
            have z10_b : z10 ≤ 9 := hp.2.2.1
            have pq11 : 1 ≤ z5 → z5 ≤ 1023 → z10 = slL (bitF z5) 10 := hp.2.2.2
            have w : WD D A s.heap [(a0, .inr (6, [.int (iI x1), .int (iI x2)])), (a1, .inr (8, [.ref a2, .int (iI x3), .int (iI x4), .int (iI x5), .int (iI x6), .int (iI x7), (va_rf o0), .long y0, .int r0, .int (iI x8), .int (iI x9), .int (iI x10)])), (a2, .inl (T 0, 940, .inl (cI f0)))] H locs := w
            refine r_put (ws' := [(a0, .inr (6, [.int (iI z10), .int (iI x2)])), (a1, .inr (8, [.ref a2, .int (iI x3), .int (iI x4), .int (iI x5), .int (iI x6), .int (iI x7), (va_rf o0), .long y0, .int r0, .int (iI x8), .int (iI x9), .int (iI x10)])), (a2, .inl (T 0, 940, .inl (cI f0)))]) M w 0 0 clX6 rfl (by decide) G315 rfl rfl rfl rfl (Nat.le_of_ble_eq_true rfl) rfl dX6_judge_57 (fun H locs w => ?_)
            refine lv_aload_n hx hb dX6_judge_60 rfl (lv_at hl 2 rfl) ?_
            refine lv_iload_n hx hb dX6_judge_61 rfl (lv_at hl 1 rfl) ?_
            refine lv_iload_n hx hb dX6_judge_62 rfl (lv_at hl 4 rfl) ?_
            refine k_I (ce := 0) (sl := 0) (rest := [.ref a0]) (wr := [(a0, .inr (6, [.int (iI z10), .int (iI x2)])), (a1, .inr (8, [.ref a2, .int (iI x3), .int (iI x4), .int (iI x5), .int (iI x6), .int (iI x7), (va_rf o0), .long y0, .int r0, .int (iI x8), .int (iI x9), .int (iI x10)])), (a2, .inl (T 0, 940, .inl (cI f0)))]) (r_S (f := 2) [] M w V_HookedCity_Slipped_32 G1017 (c341_X6_bestToTurn l D T _ z5 x0 z5_a z5_b x0_a x0_b) rfl (by decide) rfl hl.1 rfl (Nat.le_of_ble_eq_true rfl) dX6_judge_63 (by decide) (by decide) (by decide) (by decide)) w [] [0, 1, 2] rfl rfl (by decide) (by decide) rfl rfl (fun v z12 H locs hp w => ?_)
            have hv : iI z12 = v := hp.1
            subst hv
            have z12_a : (-1) ≤ z12 := hp.2.1
            have z12_b : z12 ≤ 8 := hp.2.2.1
            have pq13 : 0 < x0 → bsJ (LB z5 x0) x0 z12 := hp.2.2.2
            have w : WD D A s.heap [(a0, .inr (6, [.int (iI z10), .int (iI x2)])), (a1, .inr (8, [.ref a2, .int (iI x3), .int (iI x4), .int (iI x5), .int (iI x6), .int (iI x7), (va_rf o0), .long y0, .int r0, .int (iI x8), .int (iI x9), .int (iI x10)])), (a2, .inl (T 0, 940, .inl (cI f0)))] H locs := w
            refine r_put (ws' := [(a0, .inr (6, [.int (iI z10), .int (iI z12)])), (a1, .inr (8, [.ref a2, .int (iI x3), .int (iI x4), .int (iI x5), .int (iI x6), .int (iI x7), (va_rf o0), .long y0, .int r0, .int (iI x8), .int (iI x9), .int (iI x10)])), (a2, .inl (T 0, 940, .inl (cI f0)))]) M w 0 1 clX6 rfl (by decide) G317 rfl rfl rfl rfl (Nat.le_of_ble_eq_true rfl) rfl dX6_judge_66 (fun H locs w => ?_)
            refine lv_iload_n hx hb dX6_judge_69 rfl (lv_at hl 1 rfl) ?_
            refine k_I (ce := 0) (sl := 0) (rest := []) (wr := [(a0, .inr (6, [.int (iI z10), .int (iI z12)])), (a1, .inr (8, [.ref a2, .int (iI x3), .int (iI x4), .int (iI x5), .int (iI x6), .int (iI x7), (va_rf o0), .long y0, .int r0, .int (iI x8), .int (iI x9), .int (iI x10)])), (a2, .inl (T 0, 940, .inl (cI f0)))]) (r_S (f := 0) [] M w V_HookedCity_Slipped_36 G1023 (c337_J6_bitCount_0f7a4 l D T _ z5 z5_a z5_b) rfl (by decide) rfl hl.1 rfl (Nat.le_of_ble_eq_true rfl) dX6_judge_70 (by decide) (by decide) (by decide) (by decide)) w [] [0, 1, 2] rfl rfl (by decide) (by decide) rfl rfl (fun v z14 H locs hp w => ?_)
            have hv : iI z14 = v := hp.1
            subst hv
            have z14_a : 0 ≤ z14 := hp.2.1
            have z14_b : z14 ≤ 10 := hp.2.2.1
            have pq15 : 0 ≤ z5 → z5 ≤ 1023 → z14 = slN (bitF z5) 10 := hp.2.2.2
            have w : WD D A s.heap [(a0, .inr (6, [.int (iI z10), .int (iI z12)])), (a1, .inr (8, [.ref a2, .int (iI x3), .int (iI x4), .int (iI x5), .int (iI x6), .int (iI x7), (va_rf o0), .long y0, .int r0, .int (iI x8), .int (iI x9), .int (iI x10)])), (a2, .inl (T 0, 940, .inl (cI f0)))] H locs := w
            exact ret _ (z14, z10, z12) _ _ _ _ _ [0, 1, 2] dX6_judge_73 ⟨rfl, (show (-2147483648) ≤ z14 from by omega), (show z14 ≤ 2147483647 from by omega), (show (-1) ≤ z10 from by omega), (show z10 ≤ 9 from by omega), z12_a, z12_b, (show slQ f0 x0 x3 z14 x1 z10 x2 z12 from (jd_1 (ta_1 pq2 (by omega)) (by omega) (by omega) lq1_b (by omega) (by omega) (pq15 (by omega) (by omega)) (pq11 (by omega) (by omega)) (by omega) (f0_h 0).1 pq13))⟩ w (by decide) rfl
        · replace c_6 : z4 ≤ x0 := Int.not_lt.mp (fun h => c_6 ((iI_lt (Int.le_trans (by decide) x0_a) (Int.le_trans x0_b (by decide)) (Int.le_trans (by decide) z4_a) (Int.le_trans z4_b (by decide))).mpr h))
          refine lv_iload_n hx hb dX6_judge_21 rfl (lv_at hl 1 rfl) ?_
          refine lv_aload_n hx hb dX6_judge_22 rfl (lv_at hl 3 rfl) ?_
          refine lv_iload_n hx hb dX6_judge_23 rfl (lv_at hl 4 rfl) ?_
          refine lv_iload hx hb dX6_judge_24 (lv_at hl 0 rfl) ?_
          refine k_I (ce := 0) (sl := 0) (rest := [.int (iI z5)]) (wr := [(a0, .inr (6, [.int (iI x1), .int (iI x2)]))]) (r_S (f := 1) [1, 2] M w V_HookedCity_Slipped_22 G1007 (c342_X6_fits l D T _ a1 x0 z4 a2 x3 x4 x5 x6 x7 o0 y0 r0 x8 x9 x10 f0 x0_a x0_b (by omega) (by omega) x3_a x3_b x4_a x4_b x5_a x5_b x6_a x6_b x7_a x7_b o0_h x8_a x8_b x9_a x9_b x10_a x10_b f0_h) rfl (by decide) rfl hl.1 rfl (Nat.le_of_ble_eq_true rfl) dX6_judge_26 (by decide) (by decide) (by decide) (by decide)) w [1, 2] [0] rfl rfl (by decide) (by decide) rfl rfl (fun v z16 H locs hp w => ?_)
          have hv : iI z16 = v := hp.1
          subst hv
          have z16_a : 0 ≤ z16 := hp.2.1
          have z16_b : z16 ≤ 1 := hp.2.2.1
          have pq17 : x3 % 2 = 0 → ftV z16 f0 x0 x3 z4 := hp.2.2.2
          have w : WD D A s.heap [(a0, .inr (6, [.int (iI x1), .int (iI x2)])), (a1, .inr (8, [.ref a2, .int (iI x3), .int (iI x4), .int (iI x5), .int (iI x6), .int (iI x7), (va_rf o0), .long y0, .int r0, .int (iI x8), .int (iI x9), .int (iI x10)])), (a2, .inl (T 0, 940, .inl (cI f0)))] H locs := w
          refine lv_if_eq (tgt := 39) hx hb dX6_judge_29 (by decide) (fun c_18 => ?_) (fun c_18 => ?_)
          · replace c_18 := (iz_eq (Int.le_trans (by decide) z16_a) (Int.le_trans z16_b (by decide))).mp c_18
            refine lv_iconst (v := iI 0) hx hb dX6_judge_39 (by decide +kernel) ?_
            refine r_ior (v := _) M rfl dX6_judge_40 ?_
            refine b_rngx (lo := 0) (hi := 1023) (ior_10 (by omega) (by omega) (by omega) (by omega)) (fun z19 z19_a z19_b hz20 => ?_)
            refine lv_istore_n (lv' := [(3, .int (iI z19)), (4, .int (iI z4)), (0, .ref a0), (1, .ref a1), (2, .int (iI x0))]) hx hb dX6_judge_41 rfl hl (by decide) rfl (fun ls hl => ?_)
            refine lv_iinc (v := iI (z4 + 1)) (lv' := [(4, .int (iI (z4 + 1))), (3, .int (iI z19)), (0, .ref a0), (1, .ref a1), (2, .int (iI x0))]) hx hb dX6_judge_42 hl (k := 1) rfl (ii_inc (by decide +kernel)) (by decide) rfl (fun ls hl => ?_)
            refine lv_goto (tgt := 15) hx hb dX6_judge_45 (by decide) ?_
            exact ih1 (z4 + 1) z19 _ _ _ (by omega) (by omega) z19_a z19_b (by omega) (slB_n lq1_b (by omega) (by omega) hz20 (fun w9 => ft_0 (pq17 (ta_1 pq2 (by omega)).1.1) (by omega) (slb_i.mp w9))) (by omega) w (lv_sub hl [0, 1, 2, 3, 4] rfl)
          · replace c_18 : ¬ z16 = 0 := fun h => c_18 ((iz_eq (Int.le_trans (by decide) z16_a) (Int.le_trans z16_b (by decide))).mpr h)
            refine lv_iconst (v := iI 1) hx hb dX6_judge_32 (by decide +kernel) ?_
            refine lv_iload hx hb dX6_judge_33 (lv_at hl 0 rfl) ?_
            refine r_ishl (v := _) M rfl dX6_judge_35 ?_
            refine b_rngx (lo := 1) (hi := 512) (ishl_10 (by omega) (by omega)) (fun z21 z21_a z21_b hz22 => ?_)
            refine lv_goto (tgt := 40) hx hb dX6_judge_36 (by decide) ?_
            refine r_ior (v := _) M rfl dX6_judge_40 ?_
            refine b_rngx (lo := 0) (hi := 1023) (ior_10 (by omega) (by omega) (by omega) (by omega)) (fun z23 z23_a z23_b hz24 => ?_)
            refine lv_istore_n (lv' := [(3, .int (iI z23)), (4, .int (iI z4)), (0, .ref a0), (1, .ref a1), (2, .int (iI x0))]) hx hb dX6_judge_41 rfl hl (by decide) rfl (fun ls hl => ?_)
            refine lv_iinc (v := iI (z4 + 1)) (lv' := [(4, .int (iI (z4 + 1))), (3, .int (iI z23)), (0, .ref a0), (1, .ref a1), (2, .int (iI x0))]) hx hb dX6_judge_42 hl (k := 1) rfl (ii_inc (by decide +kernel)) (by decide) rfl (fun ls hl => ?_)
            refine lv_goto (tgt := 15) hx hb dX6_judge_45 (by decide) ?_
            exact ih1 (z4 + 1) z23 _ _ _ (by omega) (by omega) z23_a z23_b (by omega) (slB_y lq1_b (by omega) (by omega) hz22 hz24 (slb_i.mpr (ft_1 (pq17 (ta_1 pq2 (by omega)).1.1) (by omega)))) (by omega) w (lv_sub hl [0, 1, 2, 3, 4] rfl)
    exact loop1 ((((x0 + 1) - 0) : Int).toNat + 1) 0 0 _ _ _ (by decide) (by decide) (by decide) (by decide) (by omega) rfl (Nat.lt_succ_self _) w (lv_sub hl [0, 1, 2, 3, 4] rfl)
  · replace c_3 := (iz_eq (Int.le_trans (by decide) z1_a) (Int.le_trans z1_b (by decide))).mp c_3
    refine lv_iconst (v := iI (-1)) hx hb dX6_judge_8 (by decide +kernel) ?_
    exact ret _ ((-1), x1, x2) _ _ _ _ _ [0, 1, 2] dX6_judge_9 ⟨rfl, (show (-2147483648) ≤ (-1) from by decide), (show ((-1) : Int) ≤ 2147483647 from by decide), x1_a, x1_b, x2_a, x2_b, (show slQ f0 x0 x3 (-1) x1 x1 x2 x2 from (Or.inl ⟨ta_0 pq2 (by omega), rfl, rfl, rfl⟩))⟩ w (by decide) rfl
