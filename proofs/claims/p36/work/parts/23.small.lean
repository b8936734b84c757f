theorem dX2_put_0 : decode cX2_put 0 = .ok (.aload_n 0, 1) := by decide +kernel
theorem dX2_put_1 : decode cX2_put 1 = .ok (.getfield 15, 3) := by decide +kernel
theorem G350 : Cond.fieldLink "HookedCity$Label" 15 "HookedCity$Label" "length" "I" ∈ GW := gw_i 350 (by decide +kernel) rfl
theorem dX2_put_4 : decode cX2_put 4 = .ok (.bipush 23, 2) := by decide +kernel
theorem dX2_put_6 : decode cX2_put 6 = .ok (.if_icmp .ge 23, 3) := by decide +kernel
theorem dX2_put_29 : decode cX2_put 29 = .ok (.return_, 1) := by decide +kernel
theorem dX2_put_9 : decode cX2_put 9 = .ok (.aload_n 0, 1) := by decide +kernel
theorem dX2_put_10 : decode cX2_put 10 = .ok (.getfield 11, 3) := by decide +kernel
theorem G348 : Cond.fieldLink "HookedCity$Label" 11 "HookedCity$Label" "bytes" "[I" ∈ GW := gw_i 348 (by decide +kernel) rfl
theorem dX2_put_13 : decode cX2_put 13 = .ok (.aload_n 0, 1) := by decide +kernel
theorem dX2_put_14 : decode cX2_put 14 = .ok (.getfield 15, 3) := by decide +kernel
theorem dX2_put_17 : decode cX2_put 17 = .ok (.iload_n 1, 1) := by decide +kernel
theorem dX2_put_18 : decode cX2_put 18 = .ok (.iastore, 1) := by decide +kernel
theorem dX2_put_19 : decode cX2_put 19 = .ok (.aload_n 0, 1) := by decide +kernel
theorem dX2_put_20 : decode cX2_put 20 = .ok (.dup, 1) := by decide +kernel
theorem dX2_put_21 : decode cX2_put 21 = .ok (.getfield 15, 3) := by decide +kernel
theorem dX2_put_24 : decode cX2_put 24 = .ok (.iconst 1, 1) := by decide +kernel
theorem dX2_put_25 : decode cX2_put 25 = .ok (.iadd, 1) := by decide +kernel
theorem dX2_put_26 : decode cX2_put 26 = .ok (.putfield 15, 3) := by decide +kernel
theorem dX2_putName_0 : decode cX2_putName 0 = .ok (.iconst 0, 1) := by decide +kernel
theorem dX2_putName_1 : decode cX2_putName 1 = .ok (.istore_n 3, 1) := by decide +kernel
theorem dX2_putName_2 : decode cX2_putName 2 = .ok (.iload_n 3, 1) := by decide +kernel
theorem dX2_putName_3 : decode cX2_putName 3 = .ok (.bipush 7, 2) := by decide +kernel
theorem dX2_putName_5 : decode cX2_putName 5 = .ok (.if_icmp .ge 27, 3) := by decide +kernel
theorem dX2_putName_32 : decode cX2_putName 32 = .ok (.return_, 1) := by decide +kernel
theorem dX2_putName_8 : decode cX2_putName 8 = .ok (.lload_n 1, 1) := by decide +kernel
theorem dX2_putName_9 : decode cX2_putName 9 = .ok (.iload_n 3, 1) := by decide +kernel
theorem dX2_putName_10 : decode cX2_putName 10 = .ok (.invokestatic 54, 3) := by decide +kernel
theorem G1094 : Cond.code ⟨"HookedCity$Tape", "letterOf", "(JI)I"⟩ prog_10_method_10_code 4 (some .int) ∈ GW := gw_i 1094 (by decide +kernel) rfl
theorem G1092 : Cond.methodLink "HookedCity$Label" 54 ⟨"HookedCity$Tape", "letterOf", "(JI)I"⟩ ∈ GW := gw_i 1092 (by decide +kernel) rfl
theorem V_HookedCity_Label_54 : VL "HookedCity$Label" 54 yX8_letterOf cX8_letterOf 4 (some .int) 2 := ⟨G1094, G1092, G120, by decide +kernel, by decide +kernel, by decide +kernel⟩
theorem G1093 : Cond.static ⟨"HookedCity$Tape", "letterOf", "(JI)I"⟩ ∈ GW := gw_i 1093 (by decide +kernel) rfl
theorem dX2_putName_13 : decode cX2_putName 13 = .ok (.istore 4, 2) := by decide +kernel
theorem dX2_putName_15 : decode cX2_putName 15 = .ok (.iload 4, 2) := by decide +kernel
theorem dX2_putName_17 : decode cX2_putName 17 = .ok (.ifCond .eq 9, 3) := by decide +kernel
theorem dX2_putName_26 : decode cX2_putName 26 = .ok (.iinc 3 1, 3) := by decide +kernel
theorem dX2_putName_29 : decode cX2_putName 29 = .ok (.goto (-27), 3) := by decide +kernel
theorem dX2_putName_20 : decode cX2_putName 20 = .ok (.aload_n 0, 1) := by decide +kernel
theorem dX2_putName_21 : decode cX2_putName 21 = .ok (.iload 4, 2) := by decide +kernel
theorem dX2_putName_23 : decode cX2_putName 23 = .ok (.invokevirtual 58, 3) := by decide +kernel
theorem G1098 : Cond.code ⟨"HookedCity$Label", "put", "(I)V"⟩ prog_4_method_5_code 2 none ∈ GW := gw_i 1098 (by decide +kernel) rfl
theorem G1095 : Cond.methodLink "HookedCity$Label" 58 ⟨"HookedCity$Label", "put", "(I)V"⟩ ∈ GW := gw_i 1095 (by decide +kernel) rfl
theorem G127 : Cond.initialized "HookedCity$Label" ∈ GW := gw_i 127 (by decide +kernel) rfl
theorem V_HookedCity_Label_58 : VL "HookedCity$Label" 58 yX2_put cX2_put 2 none 1 := ⟨G1098, G1095, G127, by decide +kernel, by decide +kernel, by decide +kernel⟩
theorem G1097 : Cond.instanceMethod ⟨"HookedCity$Label", "put", "(I)V"⟩ ∈ GW := gw_i 1097 (by decide +kernel) rfl
theorem G27 : Cond.selects "HookedCity$Label" ⟨"HookedCity$Label", "put", "(I)V"⟩ ⟨"HookedCity$Label", "put", "(I)V"⟩ ∈ GW := gw_i 27 (by decide +kernel) rfl
theorem dJ3_checkIndex_8e157_0 : decode cJ3_checkIndex_8e157 0 = .ok (.iload_n 0, 1) := by decide +kernel
theorem dJ3_checkIndex_8e157_1 : decode cJ3_checkIndex_8e157 1 = .ok (.ifCond .lt 8, 3) := by decide +kernel
theorem dJ3_checkIndex_8e157_4 : decode cJ3_checkIndex_8e157 4 = .ok (.iload_n 0, 1) := by decide +kernel
theorem dJ3_checkIndex_8e157_5 : decode cJ3_checkIndex_8e157 5 = .ok (.iload_n 1, 1) := by decide +kernel
theorem dJ3_checkIndex_8e157_6 : decode cJ3_checkIndex_8e157 6 = .ok (.if_icmp .lt 10, 3) := by decide +kernel
theorem dJ3_checkIndex_8e157_16 : decode cJ3_checkIndex_8e157 16 = .ok (.iload_n 0, 1) := by decide +kernel
theorem dJ3_checkIndex_8e157_17 : decode cJ3_checkIndex_8e157 17 = .ok (.ireturn, 1) := by decide +kernel
theorem dJ0_checkIndex_df160_0 : decode cJ0_checkIndex_df160 0 = .ok (.iload_n 0, 1) := by decide +kernel
theorem dJ0_checkIndex_df160_1 : decode cJ0_checkIndex_df160 1 = .ok (.iload_n 1, 1) := by decide +kernel
theorem dJ0_checkIndex_df160_2 : decode cJ0_checkIndex_df160 2 = .ok (.getstatic 1053, 3) := by decide +kernel
theorem G664 : Cond.fieldLink "java/lang/String" 1053 "jdk/internal/util/Preconditions" "SIOOBE_FORMATTER" "Ljava/util/function/BiFunction;" ∈ GW := gw_i 664 (by decide +kernel) rfl
theorem dJ0_checkIndex_df160_5 : decode cJ0_checkIndex_df160 5 = .ok (.invokestatic 1059, 3) := by decide +kernel
theorem G1117 : Cond.code ⟨"jdk/internal/util/Preconditions", "checkIndex", "(IILjava/util/function/BiFunction;)I"⟩ prog_33_method_11_code 3 (some .int) ∈ GW := gw_i 1117 (by decide +kernel) rfl
theorem G1115 : Cond.methodLink "java/lang/String" 1059 ⟨"jdk/internal/util/Preconditions", "checkIndex", "(IILjava/util/function/BiFunction;)I"⟩ ∈ GW := gw_i 1115 (by decide +kernel) rfl
theorem G138 : Cond.initialized "jdk/internal/util/Preconditions" ∈ GW := gw_i 138 (by decide +kernel) rfl
theorem V_java_lang_String_1059 : VL "java/lang/String" 1059 yJ3_checkIndex_8e157 cJ3_checkIndex_8e157 3 (some .int) 3 := ⟨G1117, G1115, G138, by decide +kernel, by decide +kernel, by decide +kernel⟩
theorem G1116 : Cond.static ⟨"jdk/internal/util/Preconditions", "checkIndex", "(IILjava/util/function/BiFunction;)I"⟩ ∈ GW := gw_i 1116 (by decide +kernel) rfl
theorem dJ0_checkIndex_df160_8 : decode cJ0_checkIndex_df160 8 = .ok (.pop, 1) := by decide +kernel
theorem dJ0_checkIndex_df160_9 : decode cJ0_checkIndex_df160 9 = .ok (.return_, 1) := by decide +kernel
theorem dJ1_charAt_3b067_0 : decode cJ1_charAt_3b067 0 = .ok (.iload_n 1, 1) := by decide +kernel
theorem dJ1_charAt_3b067_1 : decode cJ1_charAt_3b067 1 = .ok (.aload_n 0, 1) := by decide +kernel
theorem dJ1_charAt_3b067_2 : decode cJ1_charAt_3b067 2 = .ok (.arraylength, 1) := by decide +kernel
theorem dJ1_charAt_3b067_3 : decode cJ1_charAt_3b067 3 = .ok (.invokestatic 9, 3) := by decide +kernel
theorem G1114 : Cond.code ⟨"java/lang/String", "checkIndex", "(II)V"⟩ prog_24_method_155_code 2 none ∈ GW := gw_i 1114 (by decide +kernel) rfl
theorem G1112 : Cond.methodLink "java/lang/StringLatin1" 9 ⟨"java/lang/String", "checkIndex", "(II)V"⟩ ∈ GW := gw_i 1112 (by decide +kernel) rfl
theorem V_java_lang_StringLatin1_9 : VL "java/lang/StringLatin1" 9 yJ0_checkIndex_df160 cJ0_checkIndex_df160 2 none 2 := ⟨G1114, G1112, G134, by decide +kernel, by decide +kernel, by decide +kernel⟩
theorem G1113 : Cond.static ⟨"java/lang/String", "checkIndex", "(II)V"⟩ ∈ GW := gw_i 1113 (by decide +kernel) rfl
theorem dJ1_charAt_3b067_6 : decode cJ1_charAt_3b067 6 = .ok (.aload_n 0, 1) := by decide +kernel
theorem dJ1_charAt_3b067_7 : decode cJ1_charAt_3b067 7 = .ok (.iload_n 1, 1) := by decide +kernel
theorem dJ1_charAt_3b067_8 : decode cJ1_charAt_3b067 8 = .ok (.baload, 1) := by decide +kernel
theorem dJ1_charAt_3b067_9 : decode cJ1_charAt_3b067 9 = .ok (.sipush 255, 3) := by decide +kernel
theorem dJ1_charAt_3b067_12 : decode cJ1_charAt_3b067 12 = .ok (.iand, 1) := by decide +kernel
theorem dJ1_charAt_3b067_13 : decode cJ1_charAt_3b067 13 = .ok (.i2c, 1) := by decide +kernel
theorem dJ1_charAt_3b067_14 : decode cJ1_charAt_3b067 14 = .ok (.ireturn, 1) := by decide +kernel
theorem dJ0_charAt_5068e_0 : decode cJ0_charAt_5068e 0 = .ok (.aload_n 0, 1) := by decide +kernel
theorem dJ0_charAt_5068e_1 : decode cJ0_charAt_5068e 1 = .ok (.invokevirtual 492, 3) := by decide +kernel
theorem dJ0_charAt_5068e_4 : decode cJ0_charAt_5068e 4 = .ok (.ifCond .eq 12, 3) := by decide +kernel
theorem dJ0_charAt_5068e_7 : decode cJ0_charAt_5068e 7 = .ok (.aload_n 0, 1) := by decide +kernel
theorem dJ0_charAt_5068e_8 : decode cJ0_charAt_5068e 8 = .ok (.getfield 9, 3) := by decide +kernel
theorem dJ0_charAt_5068e_11 : decode cJ0_charAt_5068e 11 = .ok (.iload_n 1, 1) := by decide +kernel
theorem dJ0_charAt_5068e_12 : decode cJ0_charAt_5068e 12 = .ok (.invokestatic 495, 3) := by decide +kernel
theorem G1111 : Cond.code ⟨"java/lang/StringLatin1", "charAt", "([BI)C"⟩ prog_25_method_2_code 2 (some .char) ∈ GW := gw_i 1111 (by decide +kernel) rfl
theorem G1109 : Cond.methodLink "java/lang/String" 495 ⟨"java/lang/StringLatin1", "charAt", "([BI)C"⟩ ∈ GW := gw_i 1109 (by decide +kernel) rfl
theorem V_java_lang_String_495 : VL "java/lang/String" 495 yJ1_charAt_3b067 cJ1_charAt_3b067 2 (some .char) 2 := ⟨G1111, G1109, G135, by decide +kernel, by decide +kernel, by decide +kernel⟩
theorem G1110 : Cond.static ⟨"java/lang/StringLatin1", "charAt", "([BI)C"⟩ ∈ GW := gw_i 1110 (by decide +kernel) rfl
theorem dJ0_charAt_5068e_15 : decode cJ0_charAt_5068e 15 = .ok (.ireturn, 1) := by decide +kernel
theorem dX2_putText_0 : decode cX2_putText 0 = .ok (.iconst 0, 1) := by decide +kernel
theorem dX2_putText_1 : decode cX2_putText 1 = .ok (.istore_n 2, 1) := by decide +kernel
theorem dX2_putText_2 : decode cX2_putText 2 = .ok (.iload_n 2, 1) := by decide +kernel
theorem dX2_putText_3 : decode cX2_putText 3 = .ok (.aload_n 1, 1) := by decide +kernel
theorem dX2_putText_4 : decode cX2_putText 4 = .ok (.invokevirtual 62, 3) := by decide +kernel
theorem G1104 : Cond.methodLink "HookedCity$Label" 62 ⟨"java/lang/String", "length", "()I"⟩ ∈ GW := gw_i 1104 (by decide +kernel) rfl
theorem V_HookedCity_Label_62 : VL "HookedCity$Label" 62 yJ0_length_8abf5 cJ0_length_8abf5 1 (some .int) 0 := ⟨G626, G1104, G134, by decide +kernel, by decide +kernel, by decide +kernel⟩
theorem dX2_putText_7 : decode cX2_putText 7 = .ok (.if_icmp .ge 18, 3) := by decide +kernel
theorem dX2_putText_25 : decode cX2_putText 25 = .ok (.return_, 1) := by decide +kernel
theorem dX2_putText_10 : decode cX2_putText 10 = .ok (.aload_n 0, 1) := by decide +kernel
theorem dX2_putText_11 : decode cX2_putText 11 = .ok (.aload_n 1, 1) := by decide +kernel
theorem dX2_putText_12 : decode cX2_putText 12 = .ok (.iload_n 2, 1) := by decide +kernel
theorem dX2_putText_13 : decode cX2_putText 13 = .ok (.invokevirtual 67, 3) := by decide +kernel
theorem G1108 : Cond.code ⟨"java/lang/String", "charAt", "(I)C"⟩ prog_24_method_56_code 2 (some .char) ∈ GW := gw_i 1108 (by decide +kernel) rfl
theorem G1105 : Cond.methodLink "HookedCity$Label" 67 ⟨"java/lang/String", "charAt", "(I)C"⟩ ∈ GW := gw_i 1105 (by decide +kernel) rfl
theorem V_HookedCity_Label_67 : VL "HookedCity$Label" 67 yJ0_charAt_5068e cJ0_charAt_5068e 2 (some .char) 1 := ⟨G1108, G1105, G134, by decide +kernel, by decide +kernel, by decide +kernel⟩
theorem G1106 : Cond.instanceMethod ⟨"java/lang/String", "charAt", "(I)C"⟩ ∈ GW := gw_i 1106 (by decide +kernel) rfl
theorem G1107 : Cond.selects "java/lang/String" ⟨"java/lang/String", "charAt", "(I)C"⟩ ⟨"java/lang/String", "charAt", "(I)C"⟩ ∈ GW := gw_i 1107 (by decide +kernel) rfl
theorem dX2_putText_16 : decode cX2_putText 16 = .ok (.invokevirtual 58, 3) := by decide +kernel
theorem dX2_putText_19 : decode cX2_putText 19 = .ok (.iinc 2 1, 3) := by decide +kernel
theorem dX2_putText_22 : decode cX2_putText 22 = .ok (.goto (-20), 3) := by decide +kernel
theorem dX2_write_0 : decode cX2_write 0 = .ok (.aload_n 0, 1) := by decide +kernel
theorem dX2_write_1 : decode cX2_write 1 = .ok (.iconst 0, 1) := by decide +kernel
theorem dX2_write_2 : decode cX2_write 2 = .ok (.putfield 15, 3) := by decide +kernel
theorem dX2_write_5 : decode cX2_write 5 = .ok (.aload_n 0, 1) := by decide +kernel
theorem dX2_write_6 : decode cX2_write 6 = .ok (.aload_n 1, 1) := by decide +kernel
theorem dX2_write_7 : decode cX2_write 7 = .ok (.getfield 19, 3) := by decide +kernel
theorem N367 : Cond.fieldLinkNest "HookedCity$Label" 19 "HookedCity$Town" "names" "[J" "HookedCity" ∈ lw_tbl := List.mem_of_getElem? (i := 367) (by decide +kernel)
theorem dX2_write_10 : decode cX2_write 10 = .ok (.iload_n 3, 1) := by decide +kernel
theorem dX2_write_11 : decode cX2_write 11 = .ok (.laload, 1) := by decide +kernel
theorem dX2_write_12 : decode cX2_write 12 = .ok (.invokevirtual 25, 3) := by decide +kernel
theorem G1091 : Cond.code ⟨"HookedCity$Label", "putName", "(J)V"⟩ prog_4_method_3_code 5 none ∈ GW := gw_i 1091 (by decide +kernel) rfl
theorem G1088 : Cond.methodLink "HookedCity$Label" 25 ⟨"HookedCity$Label", "putName", "(J)V"⟩ ∈ GW := gw_i 1088 (by decide +kernel) rfl
theorem V_HookedCity_Label_25 : VL "HookedCity$Label" 25 yX2_putName cX2_putName 5 none 1 := ⟨G1091, G1088, G127, by decide +kernel, by decide +kernel, by decide +kernel⟩
theorem G1090 : Cond.instanceMethod ⟨"HookedCity$Label", "putName", "(J)V"⟩ ∈ GW := gw_i 1090 (by decide +kernel) rfl
theorem G26 : Cond.selects "HookedCity$Label" ⟨"HookedCity$Label", "putName", "(J)V"⟩ ⟨"HookedCity$Label", "putName", "(J)V"⟩ ∈ GW := gw_i 26 (by decide +kernel) rfl
theorem dX2_write_15 : decode cX2_write 15 = .ok (.aload_n 2, 1) := by decide +kernel
theorem dX2_write_16 : decode cX2_write 16 = .ok (.getfield 29, 3) := by decide +kernel
theorem N221 : Cond.fieldLinkNest "HookedCity$Label" 29 "HookedCity$State" "into" "[I" "HookedCity" ∈ lw_tbl := List.mem_of_getElem? (i := 221) (by decide +kernel)
theorem dX2_write_19 : decode cX2_write 19 = .ok (.iload_n 3, 1) := by decide +kernel
theorem dX2_write_20 : decode cX2_write 20 = .ok (.iaload, 1) := by decide +kernel
theorem dX2_write_21 : decode cX2_write 21 = .ok (.istore 4, 2) := by decide +kernel
theorem dX2_write_23 : decode cX2_write 23 = .ok (.iload 4, 2) := by decide +kernel
theorem dX2_write_25 : decode cX2_write 25 = .ok (.iconst (-1), 1) := by decide +kernel
theorem dX2_write_26 : decode cX2_write 26 = .ok (.if_icmp .ne 12, 3) := by decide +kernel
theorem dX2_write_38 : decode cX2_write 38 = .ok (.aload_n 0, 1) := by decide +kernel
theorem dX2_write_39 : decode cX2_write 39 = .ok (.ldc 40, 2) := by decide +kernel
theorem dX2_write_41 : decode cX2_write 41 = .ok (.invokevirtual 36, 3) := by decide +kernel
theorem G1103 : Cond.code ⟨"HookedCity$Label", "putText", "(Ljava/lang/String;)V"⟩ prog_4_method_4_code 3 none ∈ GW := gw_i 1103 (by decide +kernel) rfl
theorem G1100 : Cond.methodLink "HookedCity$Label" 36 ⟨"HookedCity$Label", "putText", "(Ljava/lang/String;)V"⟩ ∈ GW := gw_i 1100 (by decide +kernel) rfl
theorem V_HookedCity_Label_36 : VL "HookedCity$Label" 36 yX2_putText cX2_putText 3 none 1 := ⟨G1103, G1100, G127, by decide +kernel, by decide +kernel, by decide +kernel⟩
theorem G1102 : Cond.instanceMethod ⟨"HookedCity$Label", "putText", "(Ljava/lang/String;)V"⟩ ∈ GW := gw_i 1102 (by decide +kernel) rfl
theorem G28 : Cond.selects "HookedCity$Label" ⟨"HookedCity$Label", "putText", "(Ljava/lang/String;)V"⟩ ⟨"HookedCity$Label", "putText", "(Ljava/lang/String;)V"⟩ ∈ GW := gw_i 28 (by decide +kernel) rfl
theorem dX2_write_44 : decode cX2_write 44 = .ok (.aload_n 0, 1) := by decide +kernel
theorem dX2_write_45 : decode cX2_write 45 = .ok (.aload_n 1, 1) := by decide +kernel
theorem dX2_write_46 : decode cX2_write 46 = .ok (.getfield 19, 3) := by decide +kernel
theorem dX2_write_49 : decode cX2_write 49 = .ok (.iload 4, 2) := by decide +kernel
theorem dX2_write_51 : decode cX2_write 51 = .ok (.laload, 1) := by decide +kernel
theorem dX2_write_52 : decode cX2_write 52 = .ok (.invokevirtual 25, 3) := by decide +kernel
theorem dX2_write_55 : decode cX2_write 55 = .ok (.aload_n 2, 1) := by decide +kernel
theorem dX2_write_56 : decode cX2_write 56 = .ok (.getfield 42, 3) := by decide +kernel
theorem N216 : Cond.fieldLinkNest "HookedCity$Label" 42 "HookedCity$State" "left" "[I" "HookedCity" ∈ lw_tbl := List.mem_of_getElem? (i := 216) (by decide +kernel)
theorem dX2_write_59 : decode cX2_write 59 = .ok (.iload_n 3, 1) := by decide +kernel
theorem dX2_write_60 : decode cX2_write 60 = .ok (.iaload, 1) := by decide +kernel
theorem dX2_write_61 : decode cX2_write 61 = .ok (.ifCond .ne 12, 3) := by decide +kernel
theorem dX2_write_73 : decode cX2_write 73 = .ok (.aload_n 2, 1) := by decide +kernel
theorem dX2_write_74 : decode cX2_write 74 = .ok (.getfield 47, 3) := by decide +kernel
theorem N225 : Cond.fieldLinkNest "HookedCity$Label" 47 "HookedCity$State" "from" "[I" "HookedCity" ∈ lw_tbl := List.mem_of_getElem? (i := 225) (by decide +kernel)
theorem dX2_write_77 : decode cX2_write 77 = .ok (.iload_n 3, 1) := by decide +kernel
theorem dX2_write_78 : decode cX2_write 78 = .ok (.iaload, 1) := by decide +kernel
theorem dX2_write_79 : decode cX2_write 79 = .ok (.iconst (-1), 1) := by decide +kernel
theorem dX2_write_80 : decode cX2_write 80 = .ok (.if_icmp .ne 9, 3) := by decide +kernel
theorem dX2_write_89 : decode cX2_write 89 = .ok (.aload_n 0, 1) := by decide +kernel
theorem dX2_write_90 : decode cX2_write 90 = .ok (.getfield 15, 3) := by decide +kernel
theorem dX2_write_93 : decode cX2_write 93 = .ok (.ireturn, 1) := by decide +kernel
theorem dX2_write_83 : decode cX2_write 83 = .ok (.aload_n 0, 1) := by decide +kernel
theorem dX2_write_84 : decode cX2_write 84 = .ok (.ldc 50, 2) := by decide +kernel
theorem dX2_write_86 : decode cX2_write 86 = .ok (.invokevirtual 36, 3) := by decide +kernel
theorem dX2_write_64 : decode cX2_write 64 = .ok (.aload_n 0, 1) := by decide +kernel
theorem dX2_write_65 : decode cX2_write 65 = .ok (.ldc 45, 2) := by decide +kernel
theorem dX2_write_67 : decode cX2_write 67 = .ok (.invokevirtual 36, 3) := by decide +kernel
theorem dX2_write_70 : decode cX2_write 70 = .ok (.goto 19, 3) := by decide +kernel
theorem dX2_write_29 : decode cX2_write 29 = .ok (.aload_n 0, 1) := by decide +kernel
theorem dX2_write_30 : decode cX2_write 30 = .ok (.ldc 34, 2) := by decide +kernel
theorem dX2_write_32 : decode cX2_write 32 = .ok (.invokevirtual 36, 3) := by decide +kernel
theorem dX2_write_35 : decode cX2_write 35 = .ok (.goto 20, 3) := by decide +kernel
theorem dX4_besides_0 : decode cX4_besides 0 = .ok (.iconst 0, 1) := by decide +kernel
theorem dX4_besides_1 : decode cX4_besides 1 = .ok (.istore_n 2, 1) := by decide +kernel
theorem dX4_besides_2 : decode cX4_besides 2 = .ok (.iconst 0, 1) := by decide +kernel
theorem dX4_besides_3 : decode cX4_besides 3 = .ok (.istore_n 3, 1) := by decide +kernel
theorem dX4_besides_4 : decode cX4_besides 4 = .ok (.iload_n 3, 1) := by decide +kernel
theorem dX4_besides_5 : decode cX4_besides 5 = .ok (.aload_n 0, 1) := by decide +kernel
theorem dX4_besides_6 : decode cX4_besides 6 = .ok (.getfield 39, 3) := by decide +kernel
theorem N389 : Cond.fieldLinkNest "HookedCity$Path" 39 "HookedCity$Town" "persons" "I" "HookedCity" ∈ lw_tbl := List.mem_of_getElem? (i := 389) (by decide +kernel)
theorem dX4_besides_9 : decode cX4_besides 9 = .ok (.if_icmp .ge 30, 3) := by decide +kernel
theorem dX4_besides_39 : decode cX4_besides 39 = .ok (.iload_n 2, 1) := by decide +kernel
theorem dX4_besides_40 : decode cX4_besides 40 = .ok (.ireturn, 1) := by decide +kernel
theorem dX4_besides_12 : decode cX4_besides 12 = .ok (.iload_n 2, 1) := by decide +kernel
theorem dX4_besides_13 : decode cX4_besides 13 = .ok (.iload_n 1, 1) := by decide +kernel
theorem dX4_besides_14 : decode cX4_besides 14 = .ok (.iload_n 3, 1) := by decide +kernel
theorem dX4_besides_15 : decode cX4_besides 15 = .ok (.ishr, 1) := by decide +kernel
theorem dX4_besides_16 : decode cX4_besides 16 = .ok (.iconst 1, 1) := by decide +kernel
theorem dX4_besides_17 : decode cX4_besides 17 = .ok (.iand, 1) := by decide +kernel
theorem dX4_besides_18 : decode cX4_besides 18 = .ok (.ifCond .eq 12, 3) := by decide +kernel
theorem dX4_besides_30 : decode cX4_besides 30 = .ok (.iconst 0, 1) := by decide +kernel
theorem dX4_besides_31 : decode cX4_besides 31 = .ok (.ior, 1) := by decide +kernel
theorem dX4_besides_32 : decode cX4_besides 32 = .ok (.istore_n 2, 1) := by decide +kernel
theorem dX4_besides_33 : decode cX4_besides 33 = .ok (.iinc 3 1, 3) := by decide +kernel
theorem dX4_besides_36 : decode cX4_besides 36 = .ok (.goto (-32), 3) := by decide +kernel
theorem dX4_besides_21 : decode cX4_besides 21 = .ok (.aload_n 0, 1) := by decide +kernel
theorem dX4_besides_22 : decode cX4_besides 22 = .ok (.getfield 26, 3) := by decide +kernel
theorem N376 : Cond.fieldLinkNest "HookedCity$Path" 26 "HookedCity$Town" "streets" "[I" "HookedCity" ∈ lw_tbl := List.mem_of_getElem? (i := 376) (by decide +kernel)
theorem dX4_besides_25 : decode cX4_besides 25 = .ok (.iload_n 3, 1) := by decide +kernel
theorem dX4_besides_26 : decode cX4_besides 26 = .ok (.iaload, 1) := by decide +kernel
theorem dX4_besides_27 : decode cX4_besides 27 = .ok (.goto 4, 3) := by decide +kernel
theorem dX4_layersUpTo_0 : decode cX4_layersUpTo 0 = .ok (.iconst 0, 1) := by decide +kernel
theorem dX4_layersUpTo_1 : decode cX4_layersUpTo 1 = .ok (.istore 4, 2) := by decide +kernel
theorem dX4_layersUpTo_3 : decode cX4_layersUpTo 3 = .ok (.iconst 1, 1) := by decide +kernel
theorem dX4_layersUpTo_4 : decode cX4_layersUpTo 4 = .ok (.iload_n 3, 1) := by decide +kernel
theorem dX4_layersUpTo_5 : decode cX4_layersUpTo 5 = .ok (.ishl, 1) := by decide +kernel
theorem dX4_layersUpTo_6 : decode cX4_layersUpTo 6 = .ok (.istore 5, 2) := by decide +kernel
theorem dX4_layersUpTo_8 : decode cX4_layersUpTo 8 = .ok (.iconst 0, 1) := by decide +kernel
theorem dX4_layersUpTo_9 : decode cX4_layersUpTo 9 = .ok (.istore 6, 2) := by decide +kernel
theorem dX4_layersUpTo_11 : decode cX4_layersUpTo 11 = .ok (.iload 6, 2) := by decide +kernel
theorem dX4_layersUpTo_13 : decode cX4_layersUpTo 13 = .ok (.bipush 9, 2) := by decide +kernel
theorem dX4_layersUpTo_15 : decode cX4_layersUpTo 15 = .ok (.if_icmp .ge 55, 3) := by decide +kernel
theorem dX4_layersUpTo_70 : decode cX4_layersUpTo 70 = .ok (.iconst (-1), 1) := by decide +kernel
theorem dX4_layersUpTo_71 : decode cX4_layersUpTo 71 = .ok (.ireturn, 1) := by decide +kernel
theorem dX4_layersUpTo_18 : decode cX4_layersUpTo 18 = .ok (.iload 5, 2) := by decide +kernel
theorem dX4_layersUpTo_20 : decode cX4_layersUpTo 20 = .ok (.ifCond .eq 50, 3) := by decide +kernel
theorem dX4_layersUpTo_23 : decode cX4_layersUpTo 23 = .ok (.aload_n 0, 1) := by decide +kernel
theorem dX4_layersUpTo_24 : decode cX4_layersUpTo 24 = .ok (.getfield 15, 3) := by decide +kernel
theorem G332 : Cond.fieldLink "HookedCity$Path" 15 "HookedCity$Path" "layers" "[I" ∈ GW := gw_i 332 (by decide +kernel) rfl
theorem dX4_layersUpTo_27 : decode cX4_layersUpTo 27 = .ok (.iload 6, 2) := by decide +kernel
theorem dX4_layersUpTo_29 : decode cX4_layersUpTo 29 = .ok (.iload 5, 2) := by decide +kernel
theorem dX4_layersUpTo_31 : decode cX4_layersUpTo 31 = .ok (.iastore, 1) := by decide +kernel
theorem dX4_layersUpTo_32 : decode cX4_layersUpTo 32 = .ok (.iload 5, 2) := by decide +kernel
theorem dX4_layersUpTo_34 : decode cX4_layersUpTo 34 = .ok (.iload_n 2, 1) := by decide +kernel
theorem dX4_layersUpTo_35 : decode cX4_layersUpTo 35 = .ok (.ishr, 1) := by decide +kernel
theorem dX4_layersUpTo_36 : decode cX4_layersUpTo 36 = .ok (.iconst 1, 1) := by decide +kernel
theorem dX4_layersUpTo_37 : decode cX4_layersUpTo 37 = .ok (.iand, 1) := by decide +kernel
theorem dX4_layersUpTo_38 : decode cX4_layersUpTo 38 = .ok (.ifCond .eq 6, 3) := by decide +kernel
theorem dX4_layersUpTo_44 : decode cX4_layersUpTo 44 = .ok (.iload 4, 2) := by decide +kernel
theorem dX4_layersUpTo_46 : decode cX4_layersUpTo 46 = .ok (.iload 5, 2) := by decide +kernel
theorem dX4_layersUpTo_48 : decode cX4_layersUpTo 48 = .ok (.ior, 1) := by decide +kernel
theorem dX4_layersUpTo_49 : decode cX4_layersUpTo 49 = .ok (.istore 4, 2) := by decide +kernel
theorem dX4_layersUpTo_51 : decode cX4_layersUpTo 51 = .ok (.aload_n 1, 1) := by decide +kernel
theorem dX4_layersUpTo_52 : decode cX4_layersUpTo 52 = .ok (.iload 5, 2) := by decide +kernel
theorem dX4_layersUpTo_54 : decode cX4_layersUpTo 54 = .ok (.invokestatic 35, 3) := by decide +kernel
theorem G1051 : Cond.code ⟨"HookedCity$Path", "besides", "(LHookedCity$Town;I)I"⟩ prog_6_method_4_code 4 (some .int) ∈ GW := gw_i 1051 (by decide +kernel) rfl
theorem G1049 : Cond.methodLink "HookedCity$Path" 35 ⟨"HookedCity$Path", "besides", "(LHookedCity$Town;I)I"⟩ ∈ GW := gw_i 1049 (by decide +kernel) rfl
theorem G126 : Cond.initialized "HookedCity$Path" ∈ GW := gw_i 126 (by decide +kernel) rfl
theorem V_HookedCity_Path_35 : VL "HookedCity$Path" 35 yX4_besides cX4_besides 4 (some .int) 2 := ⟨G1051, G1049, G126, by decide +kernel, by decide +kernel, by decide +kernel⟩
theorem G1050 : Cond.static ⟨"HookedCity$Path", "besides", "(LHookedCity$Town;I)I"⟩ ∈ GW := gw_i 1050 (by decide +kernel) rfl
theorem dX4_layersUpTo_57 : decode cX4_layersUpTo 57 = .ok (.iload 4, 2) := by decide +kernel
theorem dX4_layersUpTo_59 : decode cX4_layersUpTo 59 = .ok (.iconst (-1), 1) := by decide +kernel
theorem dX4_layersUpTo_60 : decode cX4_layersUpTo 60 = .ok (.ixor, 1) := by decide +kernel
theorem dX4_layersUpTo_61 : decode cX4_layersUpTo 61 = .ok (.iand, 1) := by decide +kernel
theorem dX4_layersUpTo_62 : decode cX4_layersUpTo 62 = .ok (.istore 5, 2) := by decide +kernel
theorem dX4_layersUpTo_64 : decode cX4_layersUpTo 64 = .ok (.iinc 6 1, 3) := by decide +kernel
theorem dX4_layersUpTo_67 : decode cX4_layersUpTo 67 = .ok (.goto (-56), 3) := by decide +kernel
theorem dX4_layersUpTo_41 : decode cX4_layersUpTo 41 = .ok (.iload 6, 2) := by decide +kernel
theorem dX4_layersUpTo_43 : decode cX4_layersUpTo 43 = .ok (.ireturn, 1) := by decide +kernel
theorem dJ6_numberOfTrailingZeros_0f7a4_0 : decode cJ6_numberOfTrailingZeros_0f7a4 0 = .ok (.iload_n 0, 1) := by decide +kernel
theorem dJ6_numberOfTrailingZeros_0f7a4_1 : decode cJ6_numberOfTrailingZeros_0f7a4 1 = .ok (.iconst (-1), 1) := by decide +kernel
theorem dJ6_numberOfTrailingZeros_0f7a4_2 : decode cJ6_numberOfTrailingZeros_0f7a4 2 = .ok (.ixor, 1) := by decide +kernel
theorem dJ6_numberOfTrailingZeros_0f7a4_3 : decode cJ6_numberOfTrailingZeros_0f7a4 3 = .ok (.iload_n 0, 1) := by decide +kernel
theorem dJ6_numberOfTrailingZeros_0f7a4_4 : decode cJ6_numberOfTrailingZeros_0f7a4 4 = .ok (.iconst 1, 1) := by decide +kernel
theorem dJ6_numberOfTrailingZeros_0f7a4_5 : decode cJ6_numberOfTrailingZeros_0f7a4 5 = .ok (.isub, 1) := by decide +kernel
theorem dJ6_numberOfTrailingZeros_0f7a4_6 : decode cJ6_numberOfTrailingZeros_0f7a4 6 = .ok (.iand, 1) := by decide +kernel
theorem dJ6_numberOfTrailingZeros_0f7a4_7 : decode cJ6_numberOfTrailingZeros_0f7a4 7 = .ok (.istore_n 0, 1) := by decide +kernel
theorem dJ6_numberOfTrailingZeros_0f7a4_8 : decode cJ6_numberOfTrailingZeros_0f7a4 8 = .ok (.iload_n 0, 1) := by decide +kernel
theorem dJ6_numberOfTrailingZeros_0f7a4_9 : decode cJ6_numberOfTrailingZeros_0f7a4 9 = .ok (.ifCond .gt 8, 3) := by decide +kernel
theorem dJ6_numberOfTrailingZeros_0f7a4_17 : decode cJ6_numberOfTrailingZeros_0f7a4 17 = .ok (.iconst 1, 1) := by decide +kernel
theorem dJ6_numberOfTrailingZeros_0f7a4_18 : decode cJ6_numberOfTrailingZeros_0f7a4 18 = .ok (.istore_n 1, 1) := by decide +kernel
theorem dJ6_numberOfTrailingZeros_0f7a4_19 : decode cJ6_numberOfTrailingZeros_0f7a4 19 = .ok (.iload_n 0, 1) := by decide +kernel
theorem dJ6_numberOfTrailingZeros_0f7a4_20 : decode cJ6_numberOfTrailingZeros_0f7a4 20 = .ok (.ldc_w 264, 3) := by decide +kernel
theorem G1015 : Cond.constant "java/lang/Integer" 264 65536 ∈ GW := gw_i 1015 (by decide +kernel) rfl
theorem dJ6_numberOfTrailingZeros_0f7a4_23 : decode cJ6_numberOfTrailingZeros_0f7a4 23 = .ok (.if_icmp .le 11, 3) := by decide +kernel
theorem dJ6_numberOfTrailingZeros_0f7a4_34 : decode cJ6_numberOfTrailingZeros_0f7a4 34 = .ok (.iload_n 0, 1) := by decide +kernel
theorem dJ6_numberOfTrailingZeros_0f7a4_35 : decode cJ6_numberOfTrailingZeros_0f7a4 35 = .ok (.sipush 256, 3) := by decide +kernel
theorem dJ6_numberOfTrailingZeros_0f7a4_38 : decode cJ6_numberOfTrailingZeros_0f7a4 38 = .ok (.if_icmp .le 11, 3) := by decide +kernel
theorem dJ6_numberOfTrailingZeros_0f7a4_49 : decode cJ6_numberOfTrailingZeros_0f7a4 49 = .ok (.iload_n 0, 1) := by decide +kernel
theorem dJ6_numberOfTrailingZeros_0f7a4_50 : decode cJ6_numberOfTrailingZeros_0f7a4 50 = .ok (.bipush 16, 2) := by decide +kernel
theorem dJ6_numberOfTrailingZeros_0f7a4_52 : decode cJ6_numberOfTrailingZeros_0f7a4 52 = .ok (.if_icmp .le 10, 3) := by decide +kernel
theorem dJ6_numberOfTrailingZeros_0f7a4_62 : decode cJ6_numberOfTrailingZeros_0f7a4 62 = .ok (.iload_n 0, 1) := by decide +kernel
theorem dJ6_numberOfTrailingZeros_0f7a4_63 : decode cJ6_numberOfTrailingZeros_0f7a4 63 = .ok (.iconst 4, 1) := by decide +kernel
theorem dJ6_numberOfTrailingZeros_0f7a4_64 : decode cJ6_numberOfTrailingZeros_0f7a4 64 = .ok (.if_icmp .le 10, 3) := by decide +kernel
theorem dJ6_numberOfTrailingZeros_0f7a4_74 : decode cJ6_numberOfTrailingZeros_0f7a4 74 = .ok (.iload_n 1, 1) := by decide +kernel
theorem dJ6_numberOfTrailingZeros_0f7a4_75 : decode cJ6_numberOfTrailingZeros_0f7a4 75 = .ok (.iload_n 0, 1) := by decide +kernel
theorem dJ6_numberOfTrailingZeros_0f7a4_76 : decode cJ6_numberOfTrailingZeros_0f7a4 76 = .ok (.iconst 1, 1) := by decide +kernel
theorem dJ6_numberOfTrailingZeros_0f7a4_77 : decode cJ6_numberOfTrailingZeros_0f7a4 77 = .ok (.iushr, 1) := by decide +kernel
theorem dJ6_numberOfTrailingZeros_0f7a4_78 : decode cJ6_numberOfTrailingZeros_0f7a4 78 = .ok (.iadd, 1) := by decide +kernel
theorem dJ6_numberOfTrailingZeros_0f7a4_79 : decode cJ6_numberOfTrailingZeros_0f7a4 79 = .ok (.ireturn, 1) := by decide +kernel
theorem dJ6_numberOfTrailingZeros_0f7a4_67 : decode cJ6_numberOfTrailingZeros_0f7a4 67 = .ok (.iinc 1 2, 3) := by decide +kernel
theorem dJ6_numberOfTrailingZeros_0f7a4_70 : decode cJ6_numberOfTrailingZeros_0f7a4 70 = .ok (.iload_n 0, 1) := by decide +kernel
theorem dJ6_numberOfTrailingZeros_0f7a4_71 : decode cJ6_numberOfTrailingZeros_0f7a4 71 = .ok (.iconst 2, 1) := by decide +kernel
theorem dJ6_numberOfTrailingZeros_0f7a4_72 : decode cJ6_numberOfTrailingZeros_0f7a4 72 = .ok (.iushr, 1) := by decide +kernel
theorem dJ6_numberOfTrailingZeros_0f7a4_73 : decode cJ6_numberOfTrailingZeros_0f7a4 73 = .ok (.istore_n 0, 1) := by decide +kernel
theorem dJ6_numberOfTrailingZeros_0f7a4_55 : decode cJ6_numberOfTrailingZeros_0f7a4 55 = .ok (.iinc 1 4, 3) := by decide +kernel
theorem dJ6_numberOfTrailingZeros_0f7a4_58 : decode cJ6_numberOfTrailingZeros_0f7a4 58 = .ok (.iload_n 0, 1) := by decide +kernel
theorem dJ6_numberOfTrailingZeros_0f7a4_59 : decode cJ6_numberOfTrailingZeros_0f7a4 59 = .ok (.iconst 4, 1) := by decide +kernel
theorem dJ6_numberOfTrailingZeros_0f7a4_60 : decode cJ6_numberOfTrailingZeros_0f7a4 60 = .ok (.iushr, 1) := by decide +kernel
theorem dJ6_numberOfTrailingZeros_0f7a4_61 : decode cJ6_numberOfTrailingZeros_0f7a4 61 = .ok (.istore_n 0, 1) := by decide +kernel
theorem dJ6_numberOfTrailingZeros_0f7a4_12 : decode cJ6_numberOfTrailingZeros_0f7a4 12 = .ok (.iload_n 0, 1) := by decide +kernel
theorem dJ6_numberOfTrailingZeros_0f7a4_13 : decode cJ6_numberOfTrailingZeros_0f7a4 13 = .ok (.bipush 32, 2) := by decide +kernel
theorem dJ6_numberOfTrailingZeros_0f7a4_15 : decode cJ6_numberOfTrailingZeros_0f7a4 15 = .ok (.iand, 1) := by decide +kernel
theorem dJ6_numberOfTrailingZeros_0f7a4_16 : decode cJ6_numberOfTrailingZeros_0f7a4 16 = .ok (.ireturn, 1) := by decide +kernel
theorem dX4_firstOf_0 : decode cX4_firstOf 0 = .ok (.iload_n 0, 1) := by decide +kernel
theorem dX4_firstOf_1 : decode cX4_firstOf 1 = .ok (.ifCond .ne 7, 3) := by decide +kernel
theorem dX4_firstOf_8 : decode cX4_firstOf 8 = .ok (.iload_n 0, 1) := by decide +kernel
theorem dX4_firstOf_9 : decode cX4_firstOf 9 = .ok (.invokestatic 42, 3) := by decide +kernel
theorem G1014 : Cond.code ⟨"java/lang/Integer", "numberOfTrailingZeros", "(I)I"⟩ prog_21_method_48_code 2 (some .int) ∈ GW := gw_i 1014 (by decide +kernel) rfl
theorem G1055 : Cond.methodLink "HookedCity$Path" 42 ⟨"java/lang/Integer", "numberOfTrailingZeros", "(I)I"⟩ ∈ GW := gw_i 1055 (by decide +kernel) rfl
theorem G145 : Cond.initialized "java/lang/Integer" ∈ GW := gw_i 145 (by decide +kernel) rfl
theorem V_HookedCity_Path_42 : VL "HookedCity$Path" 42 yJ6_numberOfTrailingZeros_0f7a4 cJ6_numberOfTrailingZeros_0f7a4 2 (some .int) 1 := ⟨G1014, G1055, G145, by decide +kernel, by decide +kernel, by decide +kernel⟩
theorem G1013 : Cond.static ⟨"java/lang/Integer", "numberOfTrailingZeros", "(I)I"⟩ ∈ GW := gw_i 1013 (by decide +kernel) rfl
theorem dX4_firstOf_12 : decode cX4_firstOf 12 = .ok (.ireturn, 1) := by decide +kernel
theorem dX4_firstOf_4 : decode cX4_firstOf 4 = .ok (.iconst 0, 1) := by decide +kernel
theorem dX4_firstOf_5 : decode cX4_firstOf 5 = .ok (.goto 7, 3) := by decide +kernel
theorem dX4_find_0 : decode cX4_find 0 = .ok (.aload_n 0, 1) := by decide +kernel
theorem dX4_find_1 : decode cX4_find 1 = .ok (.aload_n 1, 1) := by decide +kernel
theorem dX4_find_2 : decode cX4_find 2 = .ok (.iload_n 2, 1) := by decide +kernel
theorem dX4_find_3 : decode cX4_find 3 = .ok (.iload_n 3, 1) := by decide +kernel
theorem dX4_find_4 : decode cX4_find 4 = .ok (.invokevirtual 22, 3) := by decide +kernel
theorem G1048 : Cond.code ⟨"HookedCity$Path", "layersUpTo", "(LHookedCity$Town;II)I"⟩ prog_6_method_3_code 7 (some .int) ∈ GW := gw_i 1048 (by decide +kernel) rfl
theorem G1045 : Cond.methodLink "HookedCity$Path" 22 ⟨"HookedCity$Path", "layersUpTo", "(LHookedCity$Town;II)I"⟩ ∈ GW := gw_i 1045 (by decide +kernel) rfl
theorem V_HookedCity_Path_22 : VL "HookedCity$Path" 22 yX4_layersUpTo cX4_layersUpTo 7 (some .int) 3 := ⟨G1048, G1045, G126, by decide +kernel, by decide +kernel, by decide +kernel⟩
theorem G1047 : Cond.instanceMethod ⟨"HookedCity$Path", "layersUpTo", "(LHookedCity$Town;II)I"⟩ ∈ GW := gw_i 1047 (by decide +kernel) rfl
theorem G25 : Cond.selects "HookedCity$Path" ⟨"HookedCity$Path", "layersUpTo", "(LHookedCity$Town;II)I"⟩ ⟨"HookedCity$Path", "layersUpTo", "(LHookedCity$Town;II)I"⟩ ∈ GW := gw_i 25 (by decide +kernel) rfl
theorem dX4_find_7 : decode cX4_find 7 = .ok (.istore 4, 2) := by decide +kernel
theorem dX4_find_9 : decode cX4_find 9 = .ok (.iload 4, 2) := by decide +kernel
theorem dX4_find_11 : decode cX4_find 11 = .ok (.iconst (-1), 1) := by decide +kernel
theorem dX4_find_12 : decode cX4_find 12 = .ok (.if_icmp .ne 5, 3) := by decide +kernel
theorem dX4_find_17 : decode cX4_find 17 = .ok (.aload_n 0, 1) := by decide +kernel
theorem dX4_find_18 : decode cX4_find 18 = .ok (.getfield 9, 3) := by decide +kernel
theorem G330 : Cond.fieldLink "HookedCity$Path" 9 "HookedCity$Path" "steps" "[I" ∈ GW := gw_i 330 (by decide +kernel) rfl
theorem dX4_find_21 : decode cX4_find 21 = .ok (.iconst 0, 1) := by decide +kernel
theorem dX4_find_22 : decode cX4_find 22 = .ok (.iload_n 2, 1) := by decide +kernel
theorem dX4_find_23 : decode cX4_find 23 = .ok (.iastore, 1) := by decide +kernel
theorem dX4_find_24 : decode cX4_find 24 = .ok (.iconst 1, 1) := by decide +kernel
theorem dX4_find_25 : decode cX4_find 25 = .ok (.istore 5, 2) := by decide +kernel
theorem dX4_find_27 : decode cX4_find 27 = .ok (.iload 5, 2) := by decide +kernel
theorem dX4_find_29 : decode cX4_find 29 = .ok (.iload 4, 2) := by decide +kernel
theorem dX4_find_31 : decode cX4_find 31 = .ok (.if_icmp .gt 44, 3) := by decide +kernel
theorem dX4_find_75 : decode cX4_find 75 = .ok (.aload_n 0, 1) := by decide +kernel
theorem dX4_find_76 : decode cX4_find 76 = .ok (.iload 4, 2) := by decide +kernel
theorem dX4_find_78 : decode cX4_find 78 = .ok (.iconst 1, 1) := by decide +kernel
theorem dX4_find_79 : decode cX4_find 79 = .ok (.iadd, 1) := by decide +kernel
theorem dX4_find_80 : decode cX4_find 80 = .ok (.putfield 18, 3) := by decide +kernel
theorem G333 : Cond.fieldLink "HookedCity$Path" 18 "HookedCity$Path" "length" "I" ∈ GW := gw_i 333 (by decide +kernel) rfl
theorem dX4_find_83 : decode cX4_find 83 = .ok (.iload 4, 2) := by decide +kernel
theorem dX4_find_85 : decode cX4_find 85 = .ok (.ireturn, 1) := by decide +kernel
theorem dX4_find_34 : decode cX4_find 34 = .ok (.aload_n 0, 1) := by decide +kernel
theorem dX4_find_35 : decode cX4_find 35 = .ok (.getfield 9, 3) := by decide +kernel
theorem dX4_find_38 : decode cX4_find 38 = .ok (.iload 5, 2) := by decide +kernel
theorem dX4_find_40 : decode cX4_find 40 = .ok (.aload_n 1, 1) := by decide +kernel
theorem dX4_find_41 : decode cX4_find 41 = .ok (.getfield 26, 3) := by decide +kernel
theorem dX4_find_44 : decode cX4_find 44 = .ok (.aload_n 0, 1) := by decide +kernel
theorem dX4_find_45 : decode cX4_find 45 = .ok (.getfield 9, 3) := by decide +kernel
theorem dX4_find_48 : decode cX4_find 48 = .ok (.iload 5, 2) := by decide +kernel
theorem dX4_find_50 : decode cX4_find 50 = .ok (.iconst 1, 1) := by decide +kernel
theorem dX4_find_51 : decode cX4_find 51 = .ok (.isub, 1) := by decide +kernel
theorem dX4_find_52 : decode cX4_find 52 = .ok (.iaload, 1) := by decide +kernel
theorem dX4_find_53 : decode cX4_find 53 = .ok (.iaload, 1) := by decide +kernel
theorem dX4_find_54 : decode cX4_find 54 = .ok (.aload_n 0, 1) := by decide +kernel
theorem dX4_find_55 : decode cX4_find 55 = .ok (.getfield 15, 3) := by decide +kernel
theorem dX4_find_58 : decode cX4_find 58 = .ok (.iload 4, 2) := by decide +kernel
theorem dX4_find_60 : decode cX4_find 60 = .ok (.iload 5, 2) := by decide +kernel
theorem dX4_find_62 : decode cX4_find 62 = .ok (.isub, 1) := by decide +kernel
theorem dX4_find_63 : decode cX4_find 63 = .ok (.iaload, 1) := by decide +kernel
theorem dX4_find_64 : decode cX4_find 64 = .ok (.iand, 1) := by decide +kernel
theorem dX4_find_65 : decode cX4_find 65 = .ok (.invokestatic 31, 3) := by decide +kernel
theorem G1054 : Cond.code ⟨"HookedCity$Path", "firstOf", "(I)I"⟩ prog_6_method_5_code 1 (some .int) ∈ GW := gw_i 1054 (by decide +kernel) rfl
theorem G1052 : Cond.methodLink "HookedCity$Path" 31 ⟨"HookedCity$Path", "firstOf", "(I)I"⟩ ∈ GW := gw_i 1052 (by decide +kernel) rfl
theorem V_HookedCity_Path_31 : VL "HookedCity$Path" 31 yX4_firstOf cX4_firstOf 1 (some .int) 1 := ⟨G1054, G1052, G126, by decide +kernel, by decide +kernel, by decide +kernel⟩
theorem G1053 : Cond.static ⟨"HookedCity$Path", "firstOf", "(I)I"⟩ ∈ GW := gw_i 1053 (by decide +kernel) rfl
theorem dX4_find_68 : decode cX4_find 68 = .ok (.iastore, 1) := by decide +kernel
theorem dX4_find_69 : decode cX4_find 69 = .ok (.iinc 5 1, 3) := by decide +kernel
theorem dX4_find_72 : decode cX4_find 72 = .ok (.goto (-45), 3) := by decide +kernel
theorem dX4_find_15 : decode cX4_find 15 = .ok (.iconst (-1), 1) := by decide +kernel
theorem dX4_find_16 : decode cX4_find 16 = .ok (.ireturn, 1) := by decide +kernel
theorem dX6_isAsTold_0 : decode cX6_isAsTold 0 = .ok (.aload_n 0, 1) := by decide +kernel
theorem dX6_isAsTold_1 : decode cX6_isAsTold 1 = .ok (.getfield 39, 3) := by decide +kernel
theorem N163 : Cond.fieldLinkNest "HookedCity$Slipped" 39 "HookedCity$Tape" "length" "I" "HookedCity" ∈ lw_tbl := List.mem_of_getElem? (i := 163) (by decide +kernel)
theorem dX6_isAsTold_4 : decode cX6_isAsTold 4 = .ok (.iconst 2, 1) := by decide +kernel
theorem dX6_isAsTold_5 : decode cX6_isAsTold 5 = .ok (.if_icmp .lt 21, 3) := by decide +kernel
theorem dX6_isAsTold_26 : decode cX6_isAsTold 26 = .ok (.iconst 0, 1) := by decide +kernel
theorem dX6_isAsTold_27 : decode cX6_isAsTold 27 = .ok (.ireturn, 1) := by decide +kernel
theorem dX6_isAsTold_8 : decode cX6_isAsTold 8 = .ok (.aload_n 0, 1) := by decide +kernel
theorem dX6_isAsTold_9 : decode cX6_isAsTold 9 = .ok (.getfield 39, 3) := by decide +kernel
theorem dX6_isAsTold_12 : decode cX6_isAsTold 12 = .ok (.bipush 16, 2) := by decide +kernel
theorem dX6_isAsTold_14 : decode cX6_isAsTold 14 = .ok (.if_icmp .gt 12, 3) := by decide +kernel
theorem dX6_isAsTold_17 : decode cX6_isAsTold 17 = .ok (.aload_n 0, 1) := by decide +kernel
theorem dX6_isAsTold_18 : decode cX6_isAsTold 18 = .ok (.getfield 39, 3) := by decide +kernel
theorem dX6_isAsTold_21 : decode cX6_isAsTold 21 = .ok (.iconst 2, 1) := by decide +kernel
theorem dX6_isAsTold_22 : decode cX6_isAsTold 22 = .ok (.irem, 1) := by decide +kernel
theorem dX6_isAsTold_23 : decode cX6_isAsTold 23 = .ok (.ifCond .eq 5, 3) := by decide +kernel
theorem dX6_isAsTold_28 : decode cX6_isAsTold 28 = .ok (.iconst 0, 1) := by decide +kernel
theorem dX6_isAsTold_29 : decode cX6_isAsTold 29 = .ok (.istore_n 2, 1) := by decide +kernel
theorem dX6_isAsTold_30 : decode cX6_isAsTold 30 = .ok (.iload_n 2, 1) := by decide +kernel
theorem dX6_isAsTold_31 : decode cX6_isAsTold 31 = .ok (.iconst 1, 1) := by decide +kernel
theorem dX6_isAsTold_32 : decode cX6_isAsTold 32 = .ok (.iadd, 1) := by decide +kernel
theorem dX6_isAsTold_33 : decode cX6_isAsTold 33 = .ok (.aload_n 0, 1) := by decide +kernel
theorem dX6_isAsTold_34 : decode cX6_isAsTold 34 = .ok (.getfield 39, 3) := by decide +kernel
theorem dX6_isAsTold_37 : decode cX6_isAsTold 37 = .ok (.if_icmp .ge 42, 3) := by decide +kernel
theorem dX6_isAsTold_79 : decode cX6_isAsTold 79 = .ok (.iconst 1, 1) := by decide +kernel
theorem dX6_isAsTold_80 : decode cX6_isAsTold 80 = .ok (.ireturn, 1) := by decide +kernel
theorem dX6_isAsTold_40 : decode cX6_isAsTold 40 = .ok (.aload_n 0, 1) := by decide +kernel
theorem dX6_isAsTold_41 : decode cX6_isAsTold 41 = .ok (.getfield 44, 3) := by decide +kernel
theorem N161 : Cond.fieldLinkNest "HookedCity$Slipped" 44 "HookedCity$Tape" "bytes" "[I" "HookedCity" ∈ lw_tbl := List.mem_of_getElem? (i := 161) (by decide +kernel)
theorem dX6_isAsTold_44 : decode cX6_isAsTold 44 = .ok (.iload_n 2, 1) := by decide +kernel
theorem dX6_isAsTold_45 : decode cX6_isAsTold 45 = .ok (.iconst 1, 1) := by decide +kernel
theorem dX6_isAsTold_46 : decode cX6_isAsTold 46 = .ok (.iadd, 1) := by decide +kernel
theorem dX6_isAsTold_47 : decode cX6_isAsTold 47 = .ok (.iaload, 1) := by decide +kernel
theorem dX6_isAsTold_48 : decode cX6_isAsTold 48 = .ok (.istore_n 3, 1) := by decide +kernel
theorem dX6_isAsTold_49 : decode cX6_isAsTold 49 = .ok (.aload_n 0, 1) := by decide +kernel
theorem dX6_isAsTold_50 : decode cX6_isAsTold 50 = .ok (.getfield 44, 3) := by decide +kernel
theorem dX6_isAsTold_53 : decode cX6_isAsTold 53 = .ok (.iload_n 2, 1) := by decide +kernel
theorem dX6_isAsTold_54 : decode cX6_isAsTold 54 = .ok (.iaload, 1) := by decide +kernel
theorem dX6_isAsTold_55 : decode cX6_isAsTold 55 = .ok (.iload_n 1, 1) := by decide +kernel
theorem dX6_isAsTold_56 : decode cX6_isAsTold 56 = .ok (.if_icmp .ge 15, 3) := by decide +kernel
theorem dX6_isAsTold_71 : decode cX6_isAsTold 71 = .ok (.iconst 0, 1) := by decide +kernel
theorem dX6_isAsTold_72 : decode cX6_isAsTold 72 = .ok (.ireturn, 1) := by decide +kernel
theorem dX6_isAsTold_59 : decode cX6_isAsTold 59 = .ok (.iload_n 3, 1) := by decide +kernel
theorem dX6_isAsTold_60 : decode cX6_isAsTold 60 = .ok (.iload_n 1, 1) := by decide +kernel
theorem dX6_isAsTold_61 : decode cX6_isAsTold 61 = .ok (.if_icmp .lt 12, 3) := by decide +kernel
theorem dX6_isAsTold_73 : decode cX6_isAsTold 73 = .ok (.iinc 2 2, 3) := by decide +kernel
theorem dX6_isAsTold_76 : decode cX6_isAsTold 76 = .ok (.goto (-46), 3) := by decide +kernel
theorem dX6_isAsTold_64 : decode cX6_isAsTold 64 = .ok (.iload_n 3, 1) := by decide +kernel
theorem dX6_isAsTold_65 : decode cX6_isAsTold 65 = .ok (.sipush 255, 3) := by decide +kernel
theorem dX6_isAsTold_68 : decode cX6_isAsTold 68 = .ok (.if_icmp .eq 5, 3) := by decide +kernel
theorem dJ6_bitCount_0f7a4_0 : decode cJ6_bitCount_0f7a4 0 = .ok (.iload_n 0, 1) := by decide +kernel
theorem dJ6_bitCount_0f7a4_1 : decode cJ6_bitCount_0f7a4 1 = .ok (.iload_n 0, 1) := by decide +kernel
theorem dJ6_bitCount_0f7a4_2 : decode cJ6_bitCount_0f7a4 2 = .ok (.iconst 1, 1) := by decide +kernel
theorem dJ6_bitCount_0f7a4_3 : decode cJ6_bitCount_0f7a4 3 = .ok (.iushr, 1) := by decide +kernel
theorem dJ6_bitCount_0f7a4_4 : decode cJ6_bitCount_0f7a4 4 = .ok (.ldc_w 265, 3) := by decide +kernel
theorem G1025 : Cond.constant "java/lang/Integer" 265 1431655765 ∈ GW := gw_i 1025 (by decide +kernel) rfl
theorem dJ6_bitCount_0f7a4_7 : decode cJ6_bitCount_0f7a4 7 = .ok (.iand, 1) := by decide +kernel
theorem dJ6_bitCount_0f7a4_8 : decode cJ6_bitCount_0f7a4 8 = .ok (.isub, 1) := by decide +kernel
theorem dJ6_bitCount_0f7a4_9 : decode cJ6_bitCount_0f7a4 9 = .ok (.istore_n 0, 1) := by decide +kernel
theorem dJ6_bitCount_0f7a4_10 : decode cJ6_bitCount_0f7a4 10 = .ok (.iload_n 0, 1) := by decide +kernel
theorem dJ6_bitCount_0f7a4_11 : decode cJ6_bitCount_0f7a4 11 = .ok (.ldc_w 266, 3) := by decide +kernel
theorem G1026 : Cond.constant "java/lang/Integer" 266 858993459 ∈ GW := gw_i 1026 (by decide +kernel) rfl
theorem dJ6_bitCount_0f7a4_14 : decode cJ6_bitCount_0f7a4 14 = .ok (.iand, 1) := by decide +kernel
theorem dJ6_bitCount_0f7a4_15 : decode cJ6_bitCount_0f7a4 15 = .ok (.iload_n 0, 1) := by decide +kernel
theorem dJ6_bitCount_0f7a4_16 : decode cJ6_bitCount_0f7a4 16 = .ok (.iconst 2, 1) := by decide +kernel
theorem dJ6_bitCount_0f7a4_17 : decode cJ6_bitCount_0f7a4 17 = .ok (.iushr, 1) := by decide +kernel
theorem dJ6_bitCount_0f7a4_18 : decode cJ6_bitCount_0f7a4 18 = .ok (.ldc_w 266, 3) := by decide +kernel
theorem dJ6_bitCount_0f7a4_21 : decode cJ6_bitCount_0f7a4 21 = .ok (.iand, 1) := by decide +kernel
theorem dJ6_bitCount_0f7a4_22 : decode cJ6_bitCount_0f7a4 22 = .ok (.iadd, 1) := by decide +kernel
theorem dJ6_bitCount_0f7a4_23 : decode cJ6_bitCount_0f7a4 23 = .ok (.istore_n 0, 1) := by decide +kernel
theorem dJ6_bitCount_0f7a4_24 : decode cJ6_bitCount_0f7a4 24 = .ok (.iload_n 0, 1) := by decide +kernel
theorem dJ6_bitCount_0f7a4_25 : decode cJ6_bitCount_0f7a4 25 = .ok (.iload_n 0, 1) := by decide +kernel
theorem dJ6_bitCount_0f7a4_26 : decode cJ6_bitCount_0f7a4 26 = .ok (.iconst 4, 1) := by decide +kernel
theorem dJ6_bitCount_0f7a4_27 : decode cJ6_bitCount_0f7a4 27 = .ok (.iushr, 1) := by decide +kernel
theorem dJ6_bitCount_0f7a4_28 : decode cJ6_bitCount_0f7a4 28 = .ok (.iadd, 1) := by decide +kernel
theorem dJ6_bitCount_0f7a4_29 : decode cJ6_bitCount_0f7a4 29 = .ok (.ldc_w 267, 3) := by decide +kernel
theorem G1027 : Cond.constant "java/lang/Integer" 267 252645135 ∈ GW := gw_i 1027 (by decide +kernel) rfl
theorem dJ6_bitCount_0f7a4_32 : decode cJ6_bitCount_0f7a4 32 = .ok (.iand, 1) := by decide +kernel
theorem dJ6_bitCount_0f7a4_33 : decode cJ6_bitCount_0f7a4 33 = .ok (.istore_n 0, 1) := by decide +kernel
theorem dJ6_bitCount_0f7a4_34 : decode cJ6_bitCount_0f7a4 34 = .ok (.iload_n 0, 1) := by decide +kernel
theorem dJ6_bitCount_0f7a4_35 : decode cJ6_bitCount_0f7a4 35 = .ok (.iload_n 0, 1) := by decide +kernel
theorem dJ6_bitCount_0f7a4_36 : decode cJ6_bitCount_0f7a4 36 = .ok (.bipush 8, 2) := by decide +kernel
theorem dJ6_bitCount_0f7a4_38 : decode cJ6_bitCount_0f7a4 38 = .ok (.iushr, 1) := by decide +kernel
theorem dJ6_bitCount_0f7a4_39 : decode cJ6_bitCount_0f7a4 39 = .ok (.iadd, 1) := by decide +kernel
theorem dJ6_bitCount_0f7a4_40 : decode cJ6_bitCount_0f7a4 40 = .ok (.istore_n 0, 1) := by decide +kernel
theorem dJ6_bitCount_0f7a4_41 : decode cJ6_bitCount_0f7a4 41 = .ok (.iload_n 0, 1) := by decide +kernel
theorem dJ6_bitCount_0f7a4_42 : decode cJ6_bitCount_0f7a4 42 = .ok (.iload_n 0, 1) := by decide +kernel
theorem dJ6_bitCount_0f7a4_43 : decode cJ6_bitCount_0f7a4 43 = .ok (.bipush 16, 2) := by decide +kernel
theorem dJ6_bitCount_0f7a4_45 : decode cJ6_bitCount_0f7a4 45 = .ok (.iushr, 1) := by decide +kernel
theorem dJ6_bitCount_0f7a4_46 : decode cJ6_bitCount_0f7a4 46 = .ok (.iadd, 1) := by decide +kernel
theorem dJ6_bitCount_0f7a4_47 : decode cJ6_bitCount_0f7a4 47 = .ok (.istore_n 0, 1) := by decide +kernel
theorem dJ6_bitCount_0f7a4_48 : decode cJ6_bitCount_0f7a4 48 = .ok (.iload_n 0, 1) := by decide +kernel
theorem dJ6_bitCount_0f7a4_49 : decode cJ6_bitCount_0f7a4 49 = .ok (.bipush 63, 2) := by decide +kernel
theorem dJ6_bitCount_0f7a4_51 : decode cJ6_bitCount_0f7a4 51 = .ok (.iand, 1) := by decide +kernel
theorem dJ6_bitCount_0f7a4_52 : decode cJ6_bitCount_0f7a4 52 = .ok (.ireturn, 1) := by decide +kernel
theorem dJ6_numberOfTrailingZeros_0f7a4_41 : decode cJ6_numberOfTrailingZeros_0f7a4 41 = .ok (.iinc 1 8, 3) := by decide +kernel
theorem dJ6_numberOfTrailingZeros_0f7a4_44 : decode cJ6_numberOfTrailingZeros_0f7a4 44 = .ok (.iload_n 0, 1) := by decide +kernel
theorem dJ6_numberOfTrailingZeros_0f7a4_45 : decode cJ6_numberOfTrailingZeros_0f7a4 45 = .ok (.bipush 8, 2) := by decide +kernel
theorem dJ6_numberOfTrailingZeros_0f7a4_47 : decode cJ6_numberOfTrailingZeros_0f7a4 47 = .ok (.iushr, 1) := by decide +kernel
theorem dJ6_numberOfTrailingZeros_0f7a4_48 : decode cJ6_numberOfTrailingZeros_0f7a4 48 = .ok (.istore_n 0, 1) := by decide +kernel
theorem dJ6_numberOfTrailingZeros_0f7a4_26 : decode cJ6_numberOfTrailingZeros_0f7a4 26 = .ok (.iinc 1 16, 3) := by decide +kernel
theorem dJ6_numberOfTrailingZeros_0f7a4_29 : decode cJ6_numberOfTrailingZeros_0f7a4 29 = .ok (.iload_n 0, 1) := by decide +kernel
theorem dJ6_numberOfTrailingZeros_0f7a4_30 : decode cJ6_numberOfTrailingZeros_0f7a4 30 = .ok (.bipush 16, 2) := by decide +kernel
theorem dJ6_numberOfTrailingZeros_0f7a4_32 : decode cJ6_numberOfTrailingZeros_0f7a4 32 = .ok (.iushr, 1) := by decide +kernel
theorem dJ6_numberOfTrailingZeros_0f7a4_33 : decode cJ6_numberOfTrailingZeros_0f7a4 33 = .ok (.istore_n 0, 1) := by decide +kernel
theorem dX6_foundOf_0 : decode cX6_foundOf 0 = .ok (.iload_n 0, 1) := by decide +kernel
theorem dX6_foundOf_1 : decode cX6_foundOf 1 = .ok (.iload_n 2, 1) := by decide +kernel
theorem dX6_foundOf_2 : decode cX6_foundOf 2 = .ok (.if_icmp .ge 9, 3) := by decide +kernel
theorem dX6_foundOf_11 : decode cX6_foundOf 11 = .ok (.iload_n 0, 1) := by decide +kernel
theorem dX6_foundOf_12 : decode cX6_foundOf 12 = .ok (.iconst 2, 1) := by decide +kernel
theorem dX6_foundOf_13 : decode cX6_foundOf 13 = .ok (.iadd, 1) := by decide +kernel
theorem dX6_foundOf_14 : decode cX6_foundOf 14 = .ok (.istore_n 3, 1) := by decide +kernel
theorem dX6_foundOf_15 : decode cX6_foundOf 15 = .ok (.iload_n 3, 1) := by decide +kernel
theorem dX6_foundOf_16 : decode cX6_foundOf 16 = .ok (.iload_n 1, 1) := by decide +kernel
theorem dX6_foundOf_17 : decode cX6_foundOf 17 = .ok (.if_icmp .ge 7, 3) := by decide +kernel
theorem dX6_foundOf_24 : decode cX6_foundOf 24 = .ok (.sipush 255, 3) := by decide +kernel
theorem dX6_foundOf_27 : decode cX6_foundOf 27 = .ok (.ireturn, 1) := by decide +kernel
theorem dX6_foundOf_20 : decode cX6_foundOf 20 = .ok (.iload_n 3, 1) := by decide +kernel
theorem dX6_foundOf_21 : decode cX6_foundOf 21 = .ok (.goto 6, 3) := by decide +kernel
theorem dX6_foundOf_5 : decode cX6_foundOf 5 = .ok (.iload_n 0, 1) := by decide +kernel
theorem dX6_foundOf_6 : decode cX6_foundOf 6 = .ok (.iconst 1, 1) := by decide +kernel
theorem dX6_foundOf_7 : decode cX6_foundOf 7 = .ok (.iadd, 1) := by decide +kernel
theorem dX6_foundOf_8 : decode cX6_foundOf 8 = .ok (.goto 6, 3) := by decide +kernel
theorem dX6_mostLeft_0 : decode cX6_mostLeft 0 = .ok (.iload_n 0, 1) := by decide +kernel
theorem dX6_mostLeft_1 : decode cX6_mostLeft 1 = .ok (.invokestatic 36, 3) := by decide +kernel
theorem G1024 : Cond.code ⟨"java/lang/Integer", "bitCount", "(I)I"⟩ prog_21_method_49_code 1 (some .int) ∈ GW := gw_i 1024 (by decide +kernel) rfl
theorem G1022 : Cond.methodLink "HookedCity$Slipped" 36 ⟨"java/lang/Integer", "bitCount", "(I)I"⟩ ∈ GW := gw_i 1022 (by decide +kernel) rfl
theorem V_HookedCity_Slipped_36 : VL "HookedCity$Slipped" 36 yJ6_bitCount_0f7a4 cJ6_bitCount_0f7a4 1 (some .int) 1 := ⟨G1024, G1022, G145, by decide +kernel, by decide +kernel, by decide +kernel⟩
theorem G1023 : Cond.static ⟨"java/lang/Integer", "bitCount", "(I)I"⟩ ∈ GW := gw_i 1023 (by decide +kernel) rfl
theorem dX6_mostLeft_4 : decode cX6_mostLeft 4 = .ok (.istore_n 3, 1) := by decide +kernel
theorem dX6_mostLeft_5 : decode cX6_mostLeft 5 = .ok (.iload_n 2, 1) := by decide +kernel
theorem dX6_mostLeft_6 : decode cX6_mostLeft 6 = .ok (.iload_n 1, 1) := by decide +kernel
theorem dX6_mostLeft_7 : decode cX6_mostLeft 7 = .ok (.iload_n 2, 1) := by decide +kernel
theorem dX6_mostLeft_8 : decode cX6_mostLeft 8 = .ok (.invokestatic 48, 3) := by decide +kernel
theorem G1011 : Cond.code ⟨"HookedCity$Slipped", "foundOf", "(III)I"⟩ prog_8_method_5_code 4 (some .int) ∈ GW := gw_i 1011 (by decide +kernel) rfl
theorem G1009 : Cond.methodLink "HookedCity$Slipped" 48 ⟨"HookedCity$Slipped", "foundOf", "(III)I"⟩ ∈ GW := gw_i 1009 (by decide +kernel) rfl
theorem G125 : Cond.initialized "HookedCity$Slipped" ∈ GW := gw_i 125 (by decide +kernel) rfl
theorem V_HookedCity_Slipped_48 : VL "HookedCity$Slipped" 48 yX6_foundOf cX6_foundOf 4 (some .int) 3 := ⟨G1011, G1009, G125, by decide +kernel, by decide +kernel, by decide +kernel⟩
theorem G1010 : Cond.static ⟨"HookedCity$Slipped", "foundOf", "(III)I"⟩ ∈ GW := gw_i 1010 (by decide +kernel) rfl
theorem dX6_mostLeft_11 : decode cX6_mostLeft 11 = .ok (.iload_n 2, 1) := by decide +kernel
theorem dX6_mostLeft_12 : decode cX6_mostLeft 12 = .ok (.iload_n 1, 1) := by decide +kernel
theorem dX6_mostLeft_13 : decode cX6_mostLeft 13 = .ok (.iload_n 2, 1) := by decide +kernel
theorem dX6_mostLeft_14 : decode cX6_mostLeft 14 = .ok (.iconst 1, 1) := by decide +kernel
theorem dX6_mostLeft_15 : decode cX6_mostLeft 15 = .ok (.iadd, 1) := by decide +kernel
theorem dX6_mostLeft_16 : decode cX6_mostLeft 16 = .ok (.invokestatic 48, 3) := by decide +kernel
theorem dX6_mostLeft_19 : decode cX6_mostLeft 19 = .ok (.if_icmp .ne 5, 3) := by decide +kernel
theorem dX6_mostLeft_24 : decode cX6_mostLeft 24 = .ok (.iload_n 0, 1) := by decide +kernel
theorem dX6_mostLeft_25 : decode cX6_mostLeft 25 = .ok (.iconst 1, 1) := by decide +kernel
theorem dX6_mostLeft_26 : decode cX6_mostLeft 26 = .ok (.iload_n 2, 1) := by decide +kernel
theorem dX6_mostLeft_27 : decode cX6_mostLeft 27 = .ok (.iconst 1, 1) := by decide +kernel
theorem dX6_mostLeft_28 : decode cX6_mostLeft 28 = .ok (.iadd, 1) := by decide +kernel
theorem dX6_mostLeft_29 : decode cX6_mostLeft 29 = .ok (.ishl, 1) := by decide +kernel
theorem dX6_mostLeft_30 : decode cX6_mostLeft 30 = .ok (.iconst 1, 1) := by decide +kernel
theorem dX6_mostLeft_31 : decode cX6_mostLeft 31 = .ok (.isub, 1) := by decide +kernel
theorem dX6_mostLeft_32 : decode cX6_mostLeft 32 = .ok (.iand, 1) := by decide +kernel
theorem dX6_mostLeft_33 : decode cX6_mostLeft 33 = .ok (.invokestatic 36, 3) := by decide +kernel
theorem dX6_mostLeft_36 : decode cX6_mostLeft 36 = .ok (.istore 4, 2) := by decide +kernel
theorem dX6_mostLeft_38 : decode cX6_mostLeft 38 = .ok (.iload 4, 2) := by decide +kernel
theorem dX6_mostLeft_40 : decode cX6_mostLeft 40 = .ok (.iload_n 3, 1) := by decide +kernel
theorem dX6_mostLeft_41 : decode cX6_mostLeft 41 = .ok (.iload 4, 2) := by decide +kernel
theorem dX6_mostLeft_43 : decode cX6_mostLeft 43 = .ok (.isub, 1) := by decide +kernel
theorem dX6_mostLeft_44 : decode cX6_mostLeft 44 = .ok (.invokestatic 55, 3) := by decide +kernel
theorem G1028 : Cond.methodLink "HookedCity$Slipped" 55 ⟨"java/lang/Math", "max", "(II)I"⟩ ∈ GW := gw_i 1028 (by decide +kernel) rfl
theorem dX6_mostLeft_47 : decode cX6_mostLeft 47 = .ok (.ireturn, 1) := by decide +kernel
theorem dX6_mostLeft_22 : decode cX6_mostLeft 22 = .ok (.iload_n 3, 1) := by decide +kernel
theorem dX6_mostLeft_23 : decode cX6_mostLeft 23 = .ok (.ireturn, 1) := by decide +kernel
theorem dX6_bestToTurn_0 : decode cX6_bestToTurn 0 = .ok (.iconst (-1), 1) := by decide +kernel
theorem dX6_bestToTurn_1 : decode cX6_bestToTurn 1 = .ok (.istore_n 2, 1) := by decide +kernel
theorem dX6_bestToTurn_2 : decode cX6_bestToTurn 2 = .ok (.iconst 0, 1) := by decide +kernel
theorem dX6_bestToTurn_3 : decode cX6_bestToTurn 3 = .ok (.istore_n 3, 1) := by decide +kernel
theorem dX6_bestToTurn_4 : decode cX6_bestToTurn 4 = .ok (.iconst 0, 1) := by decide +kernel
theorem dX6_bestToTurn_5 : decode cX6_bestToTurn 5 = .ok (.istore 4, 2) := by decide +kernel
theorem dX6_bestToTurn_7 : decode cX6_bestToTurn 7 = .ok (.iload 4, 2) := by decide +kernel
theorem dX6_bestToTurn_9 : decode cX6_bestToTurn 9 = .ok (.iload_n 1, 1) := by decide +kernel
theorem dX6_bestToTurn_10 : decode cX6_bestToTurn 10 = .ok (.if_icmp .ge 35, 3) := by decide +kernel
theorem dX6_bestToTurn_45 : decode cX6_bestToTurn 45 = .ok (.iload_n 2, 1) := by decide +kernel
theorem dX6_bestToTurn_46 : decode cX6_bestToTurn 46 = .ok (.ireturn, 1) := by decide +kernel
theorem dX6_bestToTurn_13 : decode cX6_bestToTurn 13 = .ok (.iload_n 0, 1) := by decide +kernel
theorem dX6_bestToTurn_14 : decode cX6_bestToTurn 14 = .ok (.iload_n 1, 1) := by decide +kernel
theorem dX6_bestToTurn_15 : decode cX6_bestToTurn 15 = .ok (.iload 4, 2) := by decide +kernel
theorem dX6_bestToTurn_17 : decode cX6_bestToTurn 17 = .ok (.invokestatic 52, 3) := by decide +kernel
theorem G1021 : Cond.code ⟨"HookedCity$Slipped", "mostLeft", "(III)I"⟩ prog_8_method_7_code 5 (some .int) ∈ GW := gw_i 1021 (by decide +kernel) rfl
theorem G1019 : Cond.methodLink "HookedCity$Slipped" 52 ⟨"HookedCity$Slipped", "mostLeft", "(III)I"⟩ ∈ GW := gw_i 1019 (by decide +kernel) rfl
theorem V_HookedCity_Slipped_52 : VL "HookedCity$Slipped" 52 yX6_mostLeft cX6_mostLeft 5 (some .int) 3 := ⟨G1021, G1019, G125, by decide +kernel, by decide +kernel, by decide +kernel⟩
theorem G1020 : Cond.static ⟨"HookedCity$Slipped", "mostLeft", "(III)I"⟩ ∈ GW := gw_i 1020 (by decide +kernel) rfl
theorem dX6_bestToTurn_20 : decode cX6_bestToTurn 20 = .ok (.istore 5, 2) := by decide +kernel
theorem dX6_bestToTurn_22 : decode cX6_bestToTurn 22 = .ok (.iload_n 2, 1) := by decide +kernel
theorem dX6_bestToTurn_23 : decode cX6_bestToTurn 23 = .ok (.iconst (-1), 1) := by decide +kernel
theorem dX6_bestToTurn_24 : decode cX6_bestToTurn 24 = .ok (.if_icmp .eq 9, 3) := by decide +kernel
theorem dX6_bestToTurn_33 : decode cX6_bestToTurn 33 = .ok (.iload 4, 2) := by decide +kernel
theorem dX6_bestToTurn_35 : decode cX6_bestToTurn 35 = .ok (.istore_n 2, 1) := by decide +kernel
theorem dX6_bestToTurn_36 : decode cX6_bestToTurn 36 = .ok (.iload 5, 2) := by decide +kernel
theorem dX6_bestToTurn_38 : decode cX6_bestToTurn 38 = .ok (.istore_n 3, 1) := by decide +kernel
theorem dX6_bestToTurn_39 : decode cX6_bestToTurn 39 = .ok (.iinc 4 1, 3) := by decide +kernel
theorem dX6_bestToTurn_42 : decode cX6_bestToTurn 42 = .ok (.goto (-35), 3) := by decide +kernel
theorem dX6_bestToTurn_27 : decode cX6_bestToTurn 27 = .ok (.iload 5, 2) := by decide +kernel
theorem dX6_bestToTurn_29 : decode cX6_bestToTurn 29 = .ok (.iload_n 3, 1) := by decide +kernel
theorem dX6_bestToTurn_30 : decode cX6_bestToTurn 30 = .ok (.if_icmp .ge 9, 3) := by decide +kernel
theorem dX6_fits_0 : decode cX6_fits 0 = .ok (.iconst 0, 1) := by decide +kernel
theorem dX6_fits_1 : decode cX6_fits 1 = .ok (.istore_n 3, 1) := by decide +kernel
theorem dX6_fits_2 : decode cX6_fits 2 = .ok (.iload_n 3, 1) := by decide +kernel
theorem dX6_fits_3 : decode cX6_fits 3 = .ok (.iconst 1, 1) := by decide +kernel
theorem dX6_fits_4 : decode cX6_fits 4 = .ok (.iadd, 1) := by decide +kernel
theorem dX6_fits_5 : decode cX6_fits 5 = .ok (.aload_n 0, 1) := by decide +kernel
theorem dX6_fits_6 : decode cX6_fits 6 = .ok (.getfield 39, 3) := by decide +kernel
theorem dX6_fits_9 : decode cX6_fits 9 = .ok (.if_icmp .ge 33, 3) := by decide +kernel
theorem dX6_fits_42 : decode cX6_fits 42 = .ok (.iconst 1, 1) := by decide +kernel
theorem dX6_fits_43 : decode cX6_fits 43 = .ok (.ireturn, 1) := by decide +kernel
theorem dX6_fits_12 : decode cX6_fits 12 = .ok (.aload_n 0, 1) := by decide +kernel
theorem dX6_fits_13 : decode cX6_fits 13 = .ok (.getfield 44, 3) := by decide +kernel
theorem dX6_fits_16 : decode cX6_fits 16 = .ok (.iload_n 3, 1) := by decide +kernel
theorem dX6_fits_17 : decode cX6_fits 17 = .ok (.iconst 1, 1) := by decide +kernel
theorem dX6_fits_18 : decode cX6_fits 18 = .ok (.iadd, 1) := by decide +kernel
theorem dX6_fits_19 : decode cX6_fits 19 = .ok (.iaload, 1) := by decide +kernel
theorem dX6_fits_20 : decode cX6_fits 20 = .ok (.aload_n 0, 1) := by decide +kernel
theorem dX6_fits_21 : decode cX6_fits 21 = .ok (.getfield 44, 3) := by decide +kernel
theorem dX6_fits_24 : decode cX6_fits 24 = .ok (.iload_n 3, 1) := by decide +kernel
theorem dX6_fits_25 : decode cX6_fits 25 = .ok (.iaload, 1) := by decide +kernel
theorem dX6_fits_26 : decode cX6_fits 26 = .ok (.iload_n 1, 1) := by decide +kernel
theorem dX6_fits_27 : decode cX6_fits 27 = .ok (.iload_n 2, 1) := by decide +kernel
theorem dX6_fits_28 : decode cX6_fits 28 = .ok (.invokestatic 48, 3) := by decide +kernel
theorem dX6_fits_31 : decode cX6_fits 31 = .ok (.if_icmp .eq 5, 3) := by decide +kernel
theorem dX6_fits_36 : decode cX6_fits 36 = .ok (.iinc 3 2, 3) := by decide +kernel
theorem dX6_fits_39 : decode cX6_fits 39 = .ok (.goto (-37), 3) := by decide +kernel
theorem dX6_fits_34 : decode cX6_fits 34 = .ok (.iconst 0, 1) := by decide +kernel
theorem dX6_fits_35 : decode cX6_fits 35 = .ok (.ireturn, 1) := by decide +kernel
theorem dX6_judge_0 : decode cX6_judge 0 = .ok (.aload_n 1, 1) := by decide +kernel
theorem dX6_judge_1 : decode cX6_judge 1 = .ok (.iload_n 2, 1) := by decide +kernel
theorem dX6_judge_2 : decode cX6_judge 2 = .ok (.invokestatic 18, 3) := by decide +kernel
theorem G1005 : Cond.code ⟨"HookedCity$Slipped", "isAsTold", "(LHookedCity$Tape;I)Z"⟩ prog_8_method_3_code 4 (some .boolean) ∈ GW := gw_i 1005 (by decide +kernel) rfl
theorem G1003 : Cond.methodLink "HookedCity$Slipped" 18 ⟨"HookedCity$Slipped", "isAsTold", "(LHookedCity$Tape;I)Z"⟩ ∈ GW := gw_i 1003 (by decide +kernel) rfl
theorem V_HookedCity_Slipped_18 : VL "HookedCity$Slipped" 18 yX6_isAsTold cX6_isAsTold 4 (some .boolean) 2 := ⟨G1005, G1003, G125, by decide +kernel, by decide +kernel, by decide +kernel⟩
theorem G1004 : Cond.static ⟨"HookedCity$Slipped", "isAsTold", "(LHookedCity$Tape;I)Z"⟩ ∈ GW := gw_i 1004 (by decide +kernel) rfl
theorem dX6_judge_5 : decode cX6_judge 5 = .ok (.ifCond .ne 5, 3) := by decide +kernel
theorem dX6_judge_10 : decode cX6_judge 10 = .ok (.iconst 0, 1) := by decide +kernel
theorem dX6_judge_11 : decode cX6_judge 11 = .ok (.istore_n 3, 1) := by decide +kernel
theorem dX6_judge_12 : decode cX6_judge 12 = .ok (.iconst 0, 1) := by decide +kernel
theorem dX6_judge_13 : decode cX6_judge 13 = .ok (.istore 4, 2) := by decide +kernel
theorem dX6_judge_15 : decode cX6_judge 15 = .ok (.iload 4, 2) := by decide +kernel
theorem dX6_judge_17 : decode cX6_judge 17 = .ok (.iload_n 2, 1) := by decide +kernel
theorem dX6_judge_18 : decode cX6_judge 18 = .ok (.if_icmp .gt 30, 3) := by decide +kernel
theorem dX6_judge_48 : decode cX6_judge 48 = .ok (.iload_n 3, 1) := by decide +kernel
theorem dX6_judge_49 : decode cX6_judge 49 = .ok (.ifCond .eq 20, 3) := by decide +kernel
theorem dX6_judge_69 : decode cX6_judge 69 = .ok (.iload_n 3, 1) := by decide +kernel
theorem dX6_judge_70 : decode cX6_judge 70 = .ok (.invokestatic 36, 3) := by decide +kernel
theorem dX6_judge_73 : decode cX6_judge 73 = .ok (.ireturn, 1) := by decide +kernel
theorem dX6_judge_52 : decode cX6_judge 52 = .ok (.aload_n 0, 1) := by decide +kernel
theorem dX6_judge_53 : decode cX6_judge 53 = .ok (.iload_n 3, 1) := by decide +kernel
theorem dX6_judge_54 : decode cX6_judge 54 = .ok (.invokestatic 26, 3) := by decide +kernel
theorem G1012 : Cond.methodLink "HookedCity$Slipped" 26 ⟨"java/lang/Integer", "numberOfTrailingZeros", "(I)I"⟩ ∈ GW := gw_i 1012 (by decide +kernel) rfl
theorem V_HookedCity_Slipped_26 : VL "HookedCity$Slipped" 26 yJ6_numberOfTrailingZeros_0f7a4 cJ6_numberOfTrailingZeros_0f7a4 2 (some .int) 1 := ⟨G1014, G1012, G145, by decide +kernel, by decide +kernel, by decide +kernel⟩
theorem dX6_judge_57 : decode cX6_judge 57 = .ok (.putfield 9, 3) := by decide +kernel
theorem G315 : Cond.fieldLink "HookedCity$Slipped" 9 "HookedCity$Slipped" "least" "I" ∈ GW := gw_i 315 (by decide +kernel) rfl
theorem dX6_judge_60 : decode cX6_judge 60 = .ok (.aload_n 0, 1) := by decide +kernel
theorem dX6_judge_61 : decode cX6_judge 61 = .ok (.iload_n 3, 1) := by decide +kernel
theorem dX6_judge_62 : decode cX6_judge 62 = .ok (.iload_n 2, 1) := by decide +kernel
theorem dX6_judge_63 : decode cX6_judge 63 = .ok (.invokestatic 32, 3) := by decide +kernel
theorem G1018 : Cond.code ⟨"HookedCity$Slipped", "bestToTurn", "(II)I"⟩ prog_8_method_6_code 6 (some .int) ∈ GW := gw_i 1018 (by decide +kernel) rfl
theorem G1016 : Cond.methodLink "HookedCity$Slipped" 32 ⟨"HookedCity$Slipped", "bestToTurn", "(II)I"⟩ ∈ GW := gw_i 1016 (by decide +kernel) rfl
theorem V_HookedCity_Slipped_32 : VL "HookedCity$Slipped" 32 yX6_bestToTurn cX6_bestToTurn 6 (some .int) 2 := ⟨G1018, G1016, G125, by decide +kernel, by decide +kernel, by decide +kernel⟩
theorem G1017 : Cond.static ⟨"HookedCity$Slipped", "bestToTurn", "(II)I"⟩ ∈ GW := gw_i 1017 (by decide +kernel) rfl
theorem dX6_judge_66 : decode cX6_judge 66 = .ok (.putfield 15, 3) := by decide +kernel
theorem G317 : Cond.fieldLink "HookedCity$Slipped" 15 "HookedCity$Slipped" "next" "I" ∈ GW := gw_i 317 (by decide +kernel) rfl
theorem dX6_judge_21 : decode cX6_judge 21 = .ok (.iload_n 3, 1) := by decide +kernel
theorem dX6_judge_22 : decode cX6_judge 22 = .ok (.aload_n 1, 1) := by decide +kernel
theorem dX6_judge_23 : decode cX6_judge 23 = .ok (.iload_n 2, 1) := by decide +kernel
theorem dX6_judge_24 : decode cX6_judge 24 = .ok (.iload 4, 2) := by decide +kernel
theorem dX6_judge_26 : decode cX6_judge 26 = .ok (.invokestatic 22, 3) := by decide +kernel
theorem G1008 : Cond.code ⟨"HookedCity$Slipped", "fits", "(LHookedCity$Tape;II)Z"⟩ prog_8_method_4_code 4 (some .boolean) ∈ GW := gw_i 1008 (by decide +kernel) rfl
theorem G1006 : Cond.methodLink "HookedCity$Slipped" 22 ⟨"HookedCity$Slipped", "fits", "(LHookedCity$Tape;II)Z"⟩ ∈ GW := gw_i 1006 (by decide +kernel) rfl
theorem V_HookedCity_Slipped_22 : VL "HookedCity$Slipped" 22 yX6_fits cX6_fits 4 (some .boolean) 3 := ⟨G1008, G1006, G125, by decide +kernel, by decide +kernel, by decide +kernel⟩
theorem G1007 : Cond.static ⟨"HookedCity$Slipped", "fits", "(LHookedCity$Tape;II)Z"⟩ ∈ GW := gw_i 1007 (by decide +kernel) rfl
theorem dX6_judge_29 : decode cX6_judge 29 = .ok (.ifCond .eq 10, 3) := by decide +kernel
theorem dX6_judge_39 : decode cX6_judge 39 = .ok (.iconst 0, 1) := by decide +kernel
theorem dX6_judge_40 : decode cX6_judge 40 = .ok (.ior, 1) := by decide +kernel
theorem dX6_judge_41 : decode cX6_judge 41 = .ok (.istore_n 3, 1) := by decide +kernel
theorem dX6_judge_42 : decode cX6_judge 42 = .ok (.iinc 4 1, 3) := by decide +kernel
theorem dX6_judge_45 : decode cX6_judge 45 = .ok (.goto (-30), 3) := by decide +kernel
theorem dX6_judge_32 : decode cX6_judge 32 = .ok (.iconst 1, 1) := by decide +kernel
theorem dX6_judge_33 : decode cX6_judge 33 = .ok (.iload 4, 2) := by decide +kernel
theorem dX6_judge_35 : decode cX6_judge 35 = .ok (.ishl, 1) := by decide +kernel
theorem dX6_judge_36 : decode cX6_judge 36 = .ok (.goto 4, 3) := by decide +kernel
theorem dX6_judge_8 : decode cX6_judge 8 = .ok (.iconst (-1), 1) := by decide +kernel
theorem dX6_judge_9 : decode cX6_judge 9 = .ok (.ireturn, 1) := by decide +kernel
set_option maxRecDepth 100000 in
set_option maxHeartbeats 4000000 in
theorem c81_X2_put (l : Launch) (D : va_G) (T : Nat → ClassId) (sz : Nat) (a0 : Nat) (x0 : Int) (a1 : Nat) (x1 : Int) (f0 : Nat → Int32) (x0_a : (-2147483648) ≤ x0) (x0_b : x0 ≤ 2147483647) (x1_a : 0 ≤ x1) (x1_b : x1 ≤ 23) : Met l yX2_put (Cond.code yX2_put cX2_put 2 none :: GW) (Rm 0 0 0) (cPre [.ref a0, .int (iI x0)] D T [(a0, .inr (2, [.ref a1, .int (iI x1)])), (a1, .inl (T 0, 23, .inl f0))] sz) (qV D [(a0, .inr (2, [.ref a1, .int (iI x1)])), (a1, .inl (T 0, 23, .inl f0))] sz (fun (u : Int × (Nat → Int32)) => 0 ≤ u.1 ∧ u.1 ≤ 23) (fun u => [(a0, .inr (2, [.ref a1, .int (iI u.1)])), (a1, .inl (T 0, 23, .inl u.2))])) 0 0 (va_A [(a0, .inr (2, [.ref a1, .int (iI x1)])), (a1, .inl (T 0, 23, .inl f0))] sz) := by
  refine e_V (by decide) (Nat.le_of_ble_eq_true rfl) ?_
  intro p e s m args below meth c A Q ls M hin w ret hl
  have hx := M.1.1
  have hb := M.1.2.1
  have hl : lv_has ls 2 [(0, .ref a0), (1, .int (iI x0))] := hl
  refine lv_aload_n hx hb dX2_put_0 rfl (lv_at hl 0 rfl) ?_
  refine r_get (v := .int (iI x1)) M w 0 1 clX2 rfl (by decide) G350 rfl rfl dX2_put_1 ?_
  refine lv_bipush (v := iI 23) hx hb dX2_put_4 (by decide +kernel) ?_
  refine lv_icmp_ge (tgt := 29) hx hb dX2_put_6 (by decide) (fun c_1 => ?_) (fun c_1 => ?_)
  · replace c_1 := (iI_le (by decide) (by decide) (Int.le_trans (by decide) x1_a) (Int.le_trans x1_b (by decide))).mp c_1
    exact ret (x1, f0) _ _ _ _ _ [0, 1] dX2_put_29 ⟨x1_a, x1_b⟩ w (by decide) rfl
  · replace c_1 : x1 < 23 := Int.not_le.mp (fun h => c_1 ((iI_le (by decide) (by decide) (Int.le_trans (by decide) x1_a) (Int.le_trans x1_b (by decide))).mpr h))
    refine lv_aload_n hx hb dX2_put_9 rfl (lv_at hl 0 rfl) ?_
    refine r_get (v := .ref a1) M w 0 0 clX2 rfl (by decide) G348 rfl rfl dX2_put_10 ?_
    refine lv_aload_n hx hb dX2_put_13 rfl (lv_at hl 0 rfl) ?_
    refine r_get (v := .int (iI x1)) M w 0 1 clX2 rfl (by decide) G350 rfl rfl dX2_put_14 ?_
    refine lv_iload_n hx hb dX2_put_17 rfl (lv_at hl 1 rfl) ?_
    refine r_iast (ws' := [(a0, .inr (2, [.ref a1, .int (iI x1)])), (a1, .inl (T 0, 23, .inl (upd f0 (Int32.toNatClampNeg (iI x1)) (iI x0))))]) M w 1 rfl (iI_in (by omega) (by omega) (by decide)) rfl dX2_put_18 (fun H locs w => ?_)
    refine lv_aload_n hx hb dX2_put_19 rfl (lv_at hl 0 rfl) ?_
    refine lv_dup hx hb dX2_put_20 rfl ?_
    refine r_get (v := .int (iI x1)) M w 0 1 clX2 rfl (by decide) G350 rfl rfl dX2_put_21 ?_
    refine lv_iconst (v := iI 1) hx hb dX2_put_24 (by decide +kernel) ?_
    refine r_iadd (v := iI (x1 + 1)) M (iI_add _ _) dX2_put_25 ?_
    refine r_put (ws' := [(a0, .inr (2, [.ref a1, .int (iI (x1 + 1))])), (a1, .inl (T 0, 23, .inl (upd f0 (Int32.toNatClampNeg (iI x1)) (iI x0))))]) M w 0 1 clX2 rfl (by decide) G350 rfl rfl rfl rfl (Nat.le_of_ble_eq_true rfl) rfl dX2_put_26 (fun H locs w => ?_)
    exact ret ((x1 + 1), (upd f0 (Int32.toNatClampNeg (iI x1)) (iI x0))) _ _ _ _ _ [0, 1] dX2_put_29 ⟨(show 0 ≤ (x1 + 1) from by omega), (show (x1 + 1) ≤ 23 from by omega)⟩ w (by decide) rfl
set_option maxRecDepth 100000 in
set_option maxHeartbeats 4000000 in
theorem c82_X2_putName (l : Launch) (D : va_G) (T : Nat → ClassId) (sz : Nat) (a0 : Nat) (y0 : Int64) (a1 : Nat) (x0 : Int) (f0 : Nat → Int32) (x0_a : 0 ≤ x0) (x0_b : x0 ≤ 23) : Met l yX2_putName (Cond.code yX2_putName cX2_putName 5 none :: GW) (Rm 1 0 0) (cPre [.ref a0, .long y0] D T [(a0, .inr (2, [.ref a1, .int (iI x0)])), (a1, .inl (T 0, 23, .inl f0))] sz) (qV D [(a0, .inr (2, [.ref a1, .int (iI x0)])), (a1, .inl (T 0, 23, .inl f0))] sz (fun (u : Int × (Nat → Int32)) => 0 ≤ u.1 ∧ u.1 ≤ 23) (fun u => [(a0, .inr (2, [.ref a1, .int (iI u.1)])), (a1, .inl (T 0, 23, .inl u.2))])) 0 0 (va_A [(a0, .inr (2, [.ref a1, .int (iI x0)])), (a1, .inl (T 0, 23, .inl f0))] sz) := by
  refine e_V (by decide) (Nat.le_of_ble_eq_true rfl) ?_
  intro p e s m args below meth c A Q ls M hin w ret hl
  have hx := M.1.1
  have hb := M.1.2.1
  have hl : lv_has ls 5 [(0, .ref a0), (1, .long y0)] := hl
  refine lv_iconst (v := iI 0) hx hb dX2_putName_0 (by decide +kernel) ?_
  refine lv_istore_n (lv' := [(3, .int (iI 0)), (0, .ref a0), (1, .long y0)]) hx hb dX2_putName_1 rfl hl (by decide) rfl (fun ls hl => ?_)
  have loop1 : ∀ (k1 : Nat) (z1 : Int) (ff2 : Nat → Int32) (z3 : Int) (H : Heap) (locs : List Loc) (ls : Array Slot), 0 ≤ z1 → z1 ≤ 23 → 0 ≤ z3 → z3 ≤ 7 → ((7 - z3) : Int).toNat < k1 → WD D A s.heap [(a0, .inr (2, [.ref a1, .int (iI z1)])), (a1, .inl (T 0, 23, .inl ff2))] H locs → lv_has ls 5 [(3, .int (iI z3)), (0, .ref a0), (1, .long y0)] → W p l e (Rm 1 0 0) s m args below meth c H locs 0 0 Q (F0 m 2 ls []) := by
    intro k1
    induction k1 with
    | zero => intro z1 ff2 z3 H locs ls z1_a z1_b z3_a z3_b hm; exact absurd hm (Nat.not_lt_zero _)
    | succ k1 ih1 =>
      intro z1 ff2 z3 H locs ls z1_a z1_b z3_a z3_b hm1 w hl
      refine lv_iload_n hx hb dX2_putName_2 rfl (lv_at hl 0 rfl) ?_
      refine lv_bipush (v := iI 7) hx hb dX2_putName_3 (by decide +kernel) ?_
      refine lv_icmp_ge (tgt := 32) hx hb dX2_putName_5 (by decide) (fun c_4 => ?_) (fun c_4 => ?_)
      · replace c_4 := (iI_le (by decide) (by decide) (Int.le_trans (by decide) z3_a) (Int.le_trans z3_b (by decide))).mp c_4
        exact ret (z1, ff2) _ _ _ _ _ [0, 1] dX2_putName_32 ⟨z1_a, z1_b⟩ w (by decide) rfl
      · replace c_4 : z3 < 7 := Int.not_le.mp (fun h => c_4 ((iI_le (by decide) (by decide) (Int.le_trans (by decide) z3_a) (Int.le_trans z3_b (by decide))).mpr h))
        refine lv_lload_n hx hb dX2_putName_8 rfl (lv_at hl 2 rfl) ?_
        refine lv_iload_n hx hb dX2_putName_9 rfl (lv_at hl 0 rfl) ?_
        refine k_I (ce := 0) (sl := 0) (rest := []) (wr := [(a0, .inr (2, [.ref a1, .int (iI z1)])), (a1, .inl (T 0, 23, .inl ff2))]) (r_S (f := 0) [] M w V_HookedCity_Label_54 G1093 (c51_X8_letterOf l D T _ y0 z3 (by omega) (by omega)) rfl (by decide) rfl hl.1 rfl (Nat.le_of_ble_eq_true rfl) dX2_putName_10 (by decide) (by decide) (by decide) (by decide)) w [] [0, 1] rfl rfl (by decide) (by decide) rfl rfl (fun v z5 H locs hp w => ?_)
        have hv : iI z5 = v := hp.1
        subst hv
        have z5_a : (-2147483648) ≤ z5 := hp.2.1
        have z5_b : z5 ≤ 2147483647 := hp.2.2
        have w : WD D A s.heap [(a0, .inr (2, [.ref a1, .int (iI z1)])), (a1, .inl (T 0, 23, .inl ff2))] H locs := w
        refine lv_istore (lv' := [(4, .int (iI z5)), (3, .int (iI z3)), (0, .ref a0), (1, .long y0)]) hx hb dX2_putName_13 hl (by decide) rfl (fun ls hl => ?_)
        refine lv_iload hx hb dX2_putName_15 (lv_at hl 0 rfl) ?_
        refine lv_if_eq (tgt := 26) hx hb dX2_putName_17 (by decide) (fun c_6 => ?_) (fun c_6 => ?_)
        · replace c_6 := (iz_eq (Int.le_trans (by decide) z5_a) (Int.le_trans z5_b (by decide))).mp c_6
          refine lv_iinc (v := iI (z3 + 1)) (lv' := [(3, .int (iI (z3 + 1))), (4, .int (iI z5)), (0, .ref a0), (1, .long y0)]) hx hb dX2_putName_26 hl (k := 1) rfl (ii_inc (by decide +kernel)) (by decide) rfl (fun ls hl => ?_)
          refine lv_goto (tgt := 2) hx hb dX2_putName_29 (by decide) ?_
          exact ih1 z1 ff2 (z3 + 1) _ _ _ z1_a z1_b (by omega) (by omega) (by omega) w (lv_sub hl [0, 2, 3] rfl)
        · replace c_6 : ¬ z5 = 0 := fun h => c_6 ((iz_eq (Int.le_trans (by decide) z5_a) (Int.le_trans z5_b (by decide))).mpr h)
          refine lv_aload_n hx hb dX2_putName_20 rfl (lv_at hl 2 rfl) ?_
          refine lv_iload hx hb dX2_putName_21 (lv_at hl 0 rfl) ?_
          refine k_V (ce := 0) (sl := 0) (rest := []) (wr := []) (r_V (f := 0) [0, 1] M w V_HookedCity_Label_58 G1097 G27 (c81_X2_put l D T _ a0 z5 a1 z1 ff2 z5_a z5_b z1_a z1_b) 0 clX2 rfl rfl (by decide) rfl hl.1 rfl (Nat.le_of_ble_eq_true rfl) dX2_putName_23 (by decide) (by decide) (by decide) (by decide)) w [0, 1] [] rfl rfl (by decide) (by decide) rfl rfl (fun u H locs hp w => ?_)
          obtain ⟨z7, ff8⟩ := u
          have z7_a : 0 ≤ z7 := hp.1
          have z7_b : z7 ≤ 23 := hp.2
          have w : WD D A s.heap [(a0, .inr (2, [.ref a1, .int (iI z7)])), (a1, .inl (T 0, 23, .inl ff8))] H locs := w
          refine lv_iinc (v := iI (z3 + 1)) (lv' := [(3, .int (iI (z3 + 1))), (4, .int (iI z5)), (0, .ref a0), (1, .long y0)]) hx hb dX2_putName_26 hl (k := 1) rfl (ii_inc (by decide +kernel)) (by decide) rfl (fun ls hl => ?_)
          refine lv_goto (tgt := 2) hx hb dX2_putName_29 (by decide) ?_
          exact ih1 z7 ff8 (z3 + 1) _ _ _ z7_a z7_b (by omega) (by omega) (by omega) w (lv_sub hl [0, 2, 3] rfl)
  exact loop1 ((7 : Int).toNat + 1) x0 f0 0 _ _ _ x0_a x0_b (by decide) (by decide) (Nat.lt_succ_self _) w (lv_sub hl [0, 1, 2] rfl)
set_option maxRecDepth 100000 in
set_option maxHeartbeats 4000000 in
theorem c83_J0_coder_7d493 (l : Launch) (D : va_G) (T : Nat → ClassId) (sz : Nat) : Met l yJ0_coder_7d493 (Cond.code yJ0_coder_7d493 cJ0_coder_7d493 1 (some .byte) :: GW) (Rm 0 0 0) (cPre [.ref (T (50 + 2))] D T [] sz) (qI D [] sz (fun (v : Int32) (u : Int) => iI u = v ∧ (-128) ≤ u ∧ u ≤ 127 ∧ ((u = 0))) (fun u => [])) 0 0 (va_A [] sz) := by
  refine e_B (by decide) (Nat.le_of_ble_eq_true rfl) ?_
  intro p e s m args below meth c A Q ls M hin w ret hl
  have hx := M.1.1
  have hb := M.1.2.1
  have hl : lv_has ls 1 [(0, .ref (T (50 + 2)))] := hl
  refine r_getCS M w G621 dJ0_coder_7d493_0 ?_
  refine lv_if_eq (tgt := 13) hx hb dJ0_coder_7d493_3 (by decide) (fun c => absurd c (by decide +kernel)) (fun _ => ?_)
  refine lv_aload_n hx hb dJ0_coder_7d493_6 rfl (lv_at hl 0 rfl) ?_
  refine r_scod M w 2 rfl G2085 dJ0_coder_7d493_7 ?_
  refine lv_goto (tgt := 14) hx hb dJ0_coder_7d493_10 (by decide) ?_
  exact ret _ 0 _ _ _ _ _ [] dJ0_coder_7d493_14 (by decide +kernel) ⟨rfl, (show (-128) ≤ 0 from by decide), (show (0 : Int) ≤ 127 from by decide), rfl⟩ w (by decide) rfl
set_option maxRecDepth 100000 in
set_option maxHeartbeats 4000000 in
theorem c84_J0_length_8abf5 (l : Launch) (D : va_G) (T : Nat → ClassId) (sz : Nat) : Met l yJ0_length_8abf5 (Cond.code yJ0_length_8abf5 cJ0_length_8abf5 1 (some .int) :: GW) (Rm 1 0 0) (cPre [.ref (T (50 + 2))] D T [] sz) (qI D [] sz (fun (v : Int32) (u : Int) => iI u = v ∧ (-2147483648) ≤ u ∧ u ≤ 2147483647 ∧ ((u = 4))) (fun u => [])) 0 0 (va_A [] sz) := by
  refine e_I (by decide) (Nat.le_of_ble_eq_true rfl) ?_
  intro p e s m args below meth c A Q ls M hin w ret hl
  have hx := M.1.1
  have hb := M.1.2.1
  have hl : lv_has ls 1 [(0, .ref (T (50 + 2)))] := hl
  refine lv_aload_n hx hb dJ0_length_8abf5_0 rfl (lv_at hl 0 rfl) ?_
  refine r_sval M w 2 rfl G2086 dJ0_length_8abf5_1 ?_
  refine r_slen M w 2 rfl (z := 4) (by decide +kernel) dJ0_length_8abf5_4 ?_
  refine lv_aload_n hx hb dJ0_length_8abf5_5 rfl (lv_at hl 0 rfl) ?_
  refine k_I (ce := 0) (sl := 0) (rest := [.int (iI 4)]) (wr := []) (r_VT (f := 0) [] M w V_java_lang_String_335 G628 G629 (c83_J0_coder_7d493 l D T _) (M.2.2.2.2.2.2.1.2 2 _ rfl).1 rfl (by decide) rfl hl.1 rfl (Nat.le_of_ble_eq_true rfl) dJ0_length_8abf5_6 (by decide) (by decide) (by decide) (by decide)) w [] [] rfl rfl (by decide) (by decide) rfl rfl (fun v z1 H locs hp w => ?_)
  have hv : iI z1 = v := hp.1
  subst hv
  have z1_a : (-128) ≤ z1 := hp.2.1
  have z1_b : z1 ≤ 127 := hp.2.2.1
  have w : WD D A s.heap [] H locs := w
  rcases hp.2.2.2 with hr
  · subst hr
    refine r_ishr (v := iI 4) M (by decide +kernel) dJ0_length_8abf5_9 ?_
    exact ret _ 4 _ _ _ _ _ [] dJ0_length_8abf5_10 ⟨rfl, (show (-2147483648) ≤ 4 from by decide), (show (4 : Int) ≤ 2147483647 from by decide), rfl⟩ w (by decide) rfl
set_option maxRecDepth 100000 in
set_option maxHeartbeats 4000000 in
theorem c85_J0_isLatin1_aae02 (l : Launch) (D : va_G) (T : Nat → ClassId) (sz : Nat) : Met l yJ0_isLatin1_aae02 (Cond.code yJ0_isLatin1_aae02 cJ0_isLatin1_aae02 1 (some .boolean) :: GW) (Rm 0 0 0) (cPre [.ref (T (50 + 2))] D T [] sz) (qI D [] sz (fun (v : Int32) (u : Int) => iI u = v ∧ 0 ≤ u ∧ u ≤ 1 ∧ ((u = 1))) (fun u => [])) 0 0 (va_A [] sz) := by
  refine e_Z (by decide) (Nat.le_of_ble_eq_true rfl) ?_
  intro p e s m args below meth c A Q ls M hin w ret hl
  have hx := M.1.1
  have hb := M.1.2.1
  have hl : lv_has ls 1 [(0, .ref (T (50 + 2)))] := hl
  refine r_getCS M w G621 dJ0_isLatin1_aae02_0 ?_
  refine lv_if_eq (tgt := 17) hx hb dJ0_isLatin1_aae02_3 (by decide) (fun c => absurd c (by decide +kernel)) (fun _ => ?_)
  refine lv_aload_n hx hb dJ0_isLatin1_aae02_6 rfl (lv_at hl 0 rfl) ?_
  refine r_scod M w 2 rfl G2085 dJ0_isLatin1_aae02_7 ?_
  refine lv_if_ne (tgt := 17) hx hb dJ0_isLatin1_aae02_10 (by decide) (fun c => absurd (by decide +kernel) c) (fun _ => ?_)
  refine lv_iconst (v := iI 1) hx hb dJ0_isLatin1_aae02_13 (by decide +kernel) ?_
  refine lv_goto (tgt := 18) hx hb dJ0_isLatin1_aae02_14 (by decide) ?_
  exact ret _ 1 _ _ _ _ _ [] dJ0_isLatin1_aae02_18 (by decide +kernel) ⟨rfl, (show (0 : Int) ≤ 1 from by decide), (show (1 : Int) ≤ 1 from by decide), rfl⟩ w (by decide) rfl
set_option maxRecDepth 100000 in
set_option maxHeartbeats 4000000 in
theorem c86_J3_checkIndex_8e157 (l : Launch) (D : va_G) (T : Nat → ClassId) (sz : Nat) (x0 : Int) (x0_a : 0 ≤ x0) (x0_b : x0 ≤ 3) : Met l yJ3_checkIndex_8e157 (Cond.code yJ3_checkIndex_8e157 cJ3_checkIndex_8e157 3 (some .int) :: GW) (Rm 0 0 0) (cPre [.int (iI x0), .int (iI 4), .null] D T [] sz) (qI D [] sz (fun (v : Int32) (u : Int) => iI u = v ∧ (-2147483648) ≤ u ∧ u ≤ 2147483647 ∧ ((0 ≤ x0 ∧ x0 < 4 ∧ u = x0))) (fun u => [])) 0 0 (va_A [] sz) := by
  refine e_I (by decide) (Nat.le_of_ble_eq_true rfl) ?_
  intro p e s m args below meth c A Q ls M hin w ret hl
  have hx := M.1.1
  have hb := M.1.2.1
  have hl : lv_has ls 3 [(0, .int (iI x0)), (1, .int (iI 4)), (2, .null)] := hl
  refine lv_iload_n hx hb dJ3_checkIndex_8e157_0 rfl (lv_at hl 0 rfl) ?_
  refine lv_if_lt (tgt := 9) hx hb dJ3_checkIndex_8e157_1 (by decide) (fun c_1 => ?_) (fun c_1 => ?_)
  · replace c_1 := (iz_lt (Int.le_trans (by decide) x0_a) (Int.le_trans x0_b (by decide))).mp c_1
    exfalso; omega
  · replace c_1 : 0 ≤ x0 := Int.not_lt.mp (fun h => c_1 ((iz_lt (Int.le_trans (by decide) x0_a) (Int.le_trans x0_b (by decide))).mpr h))
    refine lv_iload_n hx hb dJ3_checkIndex_8e157_4 rfl (lv_at hl 0 rfl) ?_
    refine lv_iload_n hx hb dJ3_checkIndex_8e157_5 rfl (lv_at hl 1 rfl) ?_
    refine lv_icmp_lt (tgt := 16) hx hb dJ3_checkIndex_8e157_6 (by decide) (fun c_2 => ?_) (fun c_2 => ?_)
    · replace c_2 := (iI_lt (Int.le_trans (by decide) x0_a) (Int.le_trans x0_b (by decide)) (by decide) (by decide)).mp c_2
      refine lv_iload_n hx hb dJ3_checkIndex_8e157_16 rfl (lv_at hl 0 rfl) ?_
      exact ret _ x0 _ _ _ _ _ [] dJ3_checkIndex_8e157_17 ⟨rfl, (show (-2147483648) ≤ x0 from by omega), (show x0 ≤ 2147483647 from by omega), ⟨c_1, c_2, rfl⟩⟩ w (by decide) rfl
    · replace c_2 : 4 ≤ x0 := Int.not_lt.mp (fun h => c_2 ((iI_lt (Int.le_trans (by decide) x0_a) (Int.le_trans x0_b (by decide)) (by decide) (by decide)).mpr h))
      exfalso; omega
set_option maxRecDepth 100000 in
set_option maxHeartbeats 4000000 in
theorem c87_J3_checkIndex_8e157 (l : Launch) (D : va_G) (T : Nat → ClassId) (sz : Nat) (x0 : Int) (a0 : Nat) (x0_a : 0 ≤ x0) (x0_b : x0 ≤ 3) : Met l yJ3_checkIndex_8e157 (Cond.code yJ3_checkIndex_8e157 cJ3_checkIndex_8e157 3 (some .int) :: GW) (Rm 0 0 0) (cPre [.int (iI x0), .int (iI 4), .ref a0] D T [] sz) (qI D [] sz (fun (v : Int32) (u : Int) => iI u = v ∧ (-2147483648) ≤ u ∧ u ≤ 2147483647 ∧ ((0 ≤ x0 ∧ x0 < 4 ∧ u = x0))) (fun u => [])) 0 0 (va_A [] sz) := by
  refine e_I (by decide) (Nat.le_of_ble_eq_true rfl) ?_
  intro p e s m args below meth c A Q ls M hin w ret hl
  have hx := M.1.1
  have hb := M.1.2.1
  have hl : lv_has ls 3 [(0, .int (iI x0)), (1, .int (iI 4)), (2, .ref a0)] := hl
  refine lv_iload_n hx hb dJ3_checkIndex_8e157_0 rfl (lv_at hl 0 rfl) ?_
  refine lv_if_lt (tgt := 9) hx hb dJ3_checkIndex_8e157_1 (by decide) (fun c_1 => ?_) (fun c_1 => ?_)
  · replace c_1 := (iz_lt (Int.le_trans (by decide) x0_a) (Int.le_trans x0_b (by decide))).mp c_1
    exfalso; omega
  · replace c_1 : 0 ≤ x0 := Int.not_lt.mp (fun h => c_1 ((iz_lt (Int.le_trans (by decide) x0_a) (Int.le_trans x0_b (by decide))).mpr h))
    refine lv_iload_n hx hb dJ3_checkIndex_8e157_4 rfl (lv_at hl 0 rfl) ?_
    refine lv_iload_n hx hb dJ3_checkIndex_8e157_5 rfl (lv_at hl 1 rfl) ?_
    refine lv_icmp_lt (tgt := 16) hx hb dJ3_checkIndex_8e157_6 (by decide) (fun c_2 => ?_) (fun c_2 => ?_)
    · replace c_2 := (iI_lt (Int.le_trans (by decide) x0_a) (Int.le_trans x0_b (by decide)) (by decide) (by decide)).mp c_2
      refine lv_iload_n hx hb dJ3_checkIndex_8e157_16 rfl (lv_at hl 0 rfl) ?_
      exact ret _ x0 _ _ _ _ _ [] dJ3_checkIndex_8e157_17 ⟨rfl, (show (-2147483648) ≤ x0 from by omega), (show x0 ≤ 2147483647 from by omega), ⟨c_1, c_2, rfl⟩⟩ w (by decide) rfl
    · replace c_2 : 4 ≤ x0 := Int.not_lt.mp (fun h => c_2 ((iI_lt (Int.le_trans (by decide) x0_a) (Int.le_trans x0_b (by decide)) (by decide) (by decide)).mpr h))
      exfalso; omega
set_option maxRecDepth 100000 in
set_option maxHeartbeats 4000000 in
theorem c88_J0_checkIndex_df160 (l : Launch) (D : va_G) (T : Nat → ClassId) (sz : Nat) (x0 : Int) (x0_a : 0 ≤ x0) (x0_b : x0 ≤ 3) : Met l yJ0_checkIndex_df160 (Cond.code yJ0_checkIndex_df160 cJ0_checkIndex_df160 2 none :: GW) (Rm 1 0 0) (cPre [.int (iI x0), .int (iI 4)] D T [] sz) (qV D [] sz (fun (u : Unit) => True) (fun u => [])) 0 0 (va_A [] sz) := by
  refine e_V (by decide) (Nat.le_of_ble_eq_true rfl) ?_
  intro p e s m args below meth c A Q ls M hin w ret hl
  have hx := M.1.1
  have hb := M.1.2.1
  have hl : lv_has ls 2 [(0, .int (iI x0)), (1, .int (iI 4))] := hl
  refine lv_iload_n hx hb dJ0_checkIndex_df160_0 rfl (lv_at hl 0 rfl) ?_
  refine lv_iload_n hx hb dJ0_checkIndex_df160_1 rfl (lv_at hl 1 rfl) ?_
  refine r_getSF M w G664 dJ0_checkIndex_df160_2 ?_ (fun qq1 => ?_)
  · refine k_I (ce := 0) (sl := 0) (rest := []) (wr := []) (r_S (f := 0) [] M w V_java_lang_String_1059 G1116 (c86_J3_checkIndex_8e157 l D T _ x0 x0_a x0_b) rfl (by decide) rfl hl.1 rfl (Nat.le_of_ble_eq_true rfl) dJ0_checkIndex_df160_5 (by decide) (by decide) (by decide) (by decide)) w [] [] rfl rfl (by decide) (by decide) rfl rfl (fun v z2 H locs hp w => ?_)
    have hv : iI z2 = v := hp.1
    subst hv
    have z2_a : (-2147483648) ≤ z2 := hp.2.1
    have z2_b : z2 ≤ 2147483647 := hp.2.2.1
    have w : WD D A s.heap [] H locs := w
    rcases hp.2.2.2 with ⟨c_3, c_4, hr⟩
    · subst hr
      refine lv_pop hx hb dJ0_checkIndex_df160_8 rfl ?_
      exact ret () _ _ _ _ _ [] dJ0_checkIndex_df160_9 trivial w (by decide) rfl
  · refine k_I (ce := 0) (sl := 0) (rest := []) (wr := []) (r_S (f := 0) [] M w V_java_lang_String_1059 G1116 (c87_J3_checkIndex_8e157 l D T _ x0 qq1 x0_a x0_b) rfl (by decide) rfl hl.1 rfl (Nat.le_of_ble_eq_true rfl) dJ0_checkIndex_df160_5 (by decide) (by decide) (by decide) (by decide)) w [] [] rfl rfl (by decide) (by decide) rfl rfl (fun v z5 H locs hp w => ?_)
    have hv : iI z5 = v := hp.1
    subst hv
    have z5_a : (-2147483648) ≤ z5 := hp.2.1
    have z5_b : z5 ≤ 2147483647 := hp.2.2.1
    have w : WD D A s.heap [] H locs := w
    rcases hp.2.2.2 with ⟨c_6, c_7, hr⟩
    · subst hr
      refine lv_pop hx hb dJ0_checkIndex_df160_8 rfl ?_
      exact ret () _ _ _ _ _ [] dJ0_checkIndex_df160_9 trivial w (by decide) rfl
set_option maxRecDepth 100000 in
set_option maxHeartbeats 4000000 in
theorem c89_J1_charAt_3b067 (l : Launch) (D : va_G) (T : Nat → ClassId) (sz : Nat) (x0 : Int) (x0_a : 0 ≤ x0) (x0_b : x0 ≤ 3) : Met l yJ1_charAt_3b067 (Cond.code yJ1_charAt_3b067 cJ1_charAt_3b067 2 (some .char) :: GW) (Rm 2 0 0) (cPre [.ref (T (60 + 2)), .int (iI x0)] D T [] sz) (qI D [] sz (fun (v : Int32) (u : Int) => iI u = v ∧ 0 ≤ u ∧ u ≤ 65535) (fun u => [])) 0 0 (va_A [] sz) := by
  refine e_C (by decide) (Nat.le_of_ble_eq_true rfl) ?_
  intro p e s m args below meth c A Q ls M hin w ret hl
  have hx := M.1.1
  have hb := M.1.2.1
  have hl : lv_has ls 2 [(0, .ref (T (60 + 2))), (1, .int (iI x0))] := hl
  refine lv_iload_n hx hb dJ1_charAt_3b067_0 rfl (lv_at hl 1 rfl) ?_
  refine lv_aload_n hx hb dJ1_charAt_3b067_1 rfl (lv_at hl 0 rfl) ?_
  refine r_slen M w 2 rfl (z := 4) (by decide +kernel) dJ1_charAt_3b067_2 ?_
  refine k_V (ce := 0) (sl := 0) (rest := []) (wr := []) (r_S (f := 1) [] M w V_java_lang_StringLatin1_9 G1113 (c88_J0_checkIndex_df160 l D T _ x0 x0_a x0_b) rfl (by decide) rfl hl.1 rfl (Nat.le_of_ble_eq_true rfl) dJ1_charAt_3b067_3 (by decide) (by decide) (by decide) (by decide)) w [] [] rfl rfl (by decide) (by decide) rfl rfl (fun _ H locs hp w => ?_)
  have w : WD D A s.heap [] H locs := w
  refine lv_aload_n hx hb dJ1_charAt_3b067_6 rfl (lv_at hl 0 rfl) ?_
  refine lv_iload_n hx hb dJ1_charAt_3b067_7 rfl (lv_at hl 1 rfl) ?_
  refine r_sbyt M w 2 rfl (iI_in (by omega) (by omega) (by decide)) dJ1_charAt_3b067_8 (fun fr1 => ?_)
  refine b_any (fun z2 z2_a z2_b => ?_)
  refine lv_sipush (v := iI 255) hx hb dJ1_charAt_3b067_9 (by decide +kernel) ?_
  refine r_iand (v := _) M rfl dJ1_charAt_3b067_12 ?_
  refine b_rng (lo := 0) (hi := 255) (iand_r (by omega) (by omega)) (fun z3 z3_a z3_b => ?_)
  refine lv_i2c (v := _) hx hb dJ1_charAt_3b067_13 rfl ?_
  refine b_rng (lo := 0) (hi := 65535) (i2c_r _) (fun z4 z4_a z4_b => ?_)
  exact ret _ z4 _ _ _ _ _ [] dJ1_charAt_3b067_14 (nc_n (by omega) (by omega)) ⟨rfl, z4_a, z4_b⟩ w (by decide) rfl
set_option maxRecDepth 100000 in
set_option maxHeartbeats 4000000 in
theorem c90_J0_charAt_5068e (l : Launch) (D : va_G) (T : Nat → ClassId) (sz : Nat) (x0 : Int) (x0_a : 0 ≤ x0) (x0_b : x0 ≤ 3) : Met l yJ0_charAt_5068e (Cond.code yJ0_charAt_5068e cJ0_charAt_5068e 2 (some .char) :: GW) (Rm 3 0 0) (cPre [.ref (T (50 + 2)), .int (iI x0)] D T [] sz) (qI D [] sz (fun (v : Int32) (u : Int) => iI u = v ∧ 0 ≤ u ∧ u ≤ 65535) (fun u => [])) 0 0 (va_A [] sz) := by
  refine e_C (by decide) (Nat.le_of_ble_eq_true rfl) ?_
  intro p e s m args below meth c A Q ls M hin w ret hl
  have hx := M.1.1
  have hb := M.1.2.1
  have hl : lv_has ls 2 [(0, .ref (T (50 + 2))), (1, .int (iI x0))] := hl
  refine lv_aload_n hx hb dJ0_charAt_5068e_0 rfl (lv_at hl 0 rfl) ?_
  refine k_I (ce := 0) (sl := 0) (rest := []) (wr := []) (r_VT (f := 0) [] M w V_java_lang_String_492 G618 G619 (c85_J0_isLatin1_aae02 l D T _) (M.2.2.2.2.2.2.1.2 2 _ rfl).1 rfl (by decide) rfl hl.1 rfl (Nat.le_of_ble_eq_true rfl) dJ0_charAt_5068e_1 (by decide) (by decide) (by decide) (by decide)) w [] [] rfl rfl (by decide) (by decide) rfl rfl (fun v z1 H locs hp w => ?_)
  have hv : iI z1 = v := hp.1
  subst hv
  have z1_a : 0 ≤ z1 := hp.2.1
  have z1_b : z1 ≤ 1 := hp.2.2.1
  have w : WD D A s.heap [] H locs := w
  rcases hp.2.2.2 with hr
  · subst hr
    refine lv_if_eq (tgt := 16) hx hb dJ0_charAt_5068e_4 (by decide) (fun c => absurd c (by decide +kernel)) (fun _ => ?_)
    refine lv_aload_n hx hb dJ0_charAt_5068e_7 rfl (lv_at hl 0 rfl) ?_
    refine r_sval M w 2 rfl G2086 dJ0_charAt_5068e_8 ?_
    refine lv_iload_n hx hb dJ0_charAt_5068e_11 rfl (lv_at hl 1 rfl) ?_
    refine k_I (ce := 0) (sl := 0) (rest := []) (wr := []) (r_S (f := 2) [] M w V_java_lang_String_495 G1110 (c89_J1_charAt_3b067 l D T _ x0 x0_a x0_b) rfl (by decide) rfl hl.1 rfl (Nat.le_of_ble_eq_true rfl) dJ0_charAt_5068e_12 (by decide) (by decide) (by decide) (by decide)) w [] [] rfl rfl (by decide) (by decide) rfl rfl (fun v z2 H locs hp w => ?_)
    have hv : iI z2 = v := hp.1
    subst hv
    have z2_a : 0 ≤ z2 := hp.2.1
    have z2_b : z2 ≤ 65535 := hp.2.2
    have w : WD D A s.heap [] H locs := w
    exact ret _ z2 _ _ _ _ _ [] dJ0_charAt_5068e_15 (nc_n (by omega) (by omega)) ⟨rfl, z2_a, z2_b⟩ w (by decide) rfl
set_option maxRecDepth 100000 in
set_option maxHeartbeats 4000000 in
theorem c91_X2_putText (l : Launch) (D : va_G) (T : Nat → ClassId) (sz : Nat) (a0 : Nat) (a1 : Nat) (x0 : Int) (f0 : Nat → Int32) (x0_a : 0 ≤ x0) (x0_b : x0 ≤ 23) : Met l yX2_putText (Cond.code yX2_putText cX2_putText 3 none :: GW) (Rm 4 0 0) (cPre [.ref a0, .ref (T (50 + 2))] D T [(a0, .inr (2, [.ref a1, .int (iI x0)])), (a1, .inl (T 0, 23, .inl f0))] sz) (qV D [(a0, .inr (2, [.ref a1, .int (iI x0)])), (a1, .inl (T 0, 23, .inl f0))] sz (fun (u : Int × (Nat → Int32)) => 0 ≤ u.1 ∧ u.1 ≤ 23) (fun u => [(a0, .inr (2, [.ref a1, .int (iI u.1)])), (a1, .inl (T 0, 23, .inl u.2))])) 0 0 (va_A [(a0, .inr (2, [.ref a1, .int (iI x0)])), (a1, .inl (T 0, 23, .inl f0))] sz) := by
  refine e_V (by decide) (Nat.le_of_ble_eq_true rfl) ?_
  intro p e s m args below meth c A Q ls M hin w ret hl
  have hx := M.1.1
  have hb := M.1.2.1
  have hl : lv_has ls 3 [(0, .ref a0), (1, .ref (T (50 + 2)))] := hl
  refine lv_iconst (v := iI 0) hx hb dX2_putText_0 (by decide +kernel) ?_
  refine lv_istore_n (lv' := [(2, .int (iI 0)), (0, .ref a0), (1, .ref (T (50 + 2)))]) hx hb dX2_putText_1 rfl hl (by decide) rfl (fun ls hl => ?_)
  have loop1 : ∀ (k1 : Nat) (z1 : Int) (ff2 : Nat → Int32) (z3 : Int) (H : Heap) (locs : List Loc) (ls : Array Slot), 0 ≤ z1 → z1 ≤ 23 → 0 ≤ z3 → z3 ≤ 6 → ((6 - z3) : Int).toNat < k1 → WD D A s.heap [(a0, .inr (2, [.ref a1, .int (iI z1)])), (a1, .inl (T 0, 23, .inl ff2))] H locs → lv_has ls 3 [(2, .int (iI z3)), (0, .ref a0), (1, .ref (T (50 + 2)))] → W p l e (Rm 4 0 0) s m args below meth c H locs 0 0 Q (F0 m 2 ls []) := by
    intro k1
    induction k1 with
    | zero => intro z1 ff2 z3 H locs ls z1_a z1_b z3_a z3_b hm; exact absurd hm (Nat.not_lt_zero _)
    | succ k1 ih1 =>
      intro z1 ff2 z3 H locs ls z1_a z1_b z3_a z3_b hm1 w hl
      refine lv_iload_n hx hb dX2_putText_2 rfl (lv_at hl 0 rfl) ?_
      refine lv_aload_n hx hb dX2_putText_3 rfl (lv_at hl 2 rfl) ?_
      refine k_I (ce := 0) (sl := 0) (rest := [.int (iI z3)]) (wr := [(a0, .inr (2, [.ref a1, .int (iI z1)])), (a1, .inl (T 0, 23, .inl ff2))]) (r_VT (f := 1) [] M w V_HookedCity_Label_62 G624 G625 (c84_J0_length_8abf5 l D T _) (M.2.2.2.2.2.2.1.2 2 _ rfl).1 rfl (by decide) rfl hl.1 rfl (Nat.le_of_ble_eq_true rfl) dX2_putText_4 (by decide) (by decide) (by decide) (by decide)) w [] [0, 1] rfl rfl (by decide) (by decide) rfl rfl (fun v z4 H locs hp w => ?_)
      have hv : iI z4 = v := hp.1
      subst hv
      have z4_a : (-2147483648) ≤ z4 := hp.2.1
      have z4_b : z4 ≤ 2147483647 := hp.2.2.1
      have w : WD D A s.heap [(a0, .inr (2, [.ref a1, .int (iI z1)])), (a1, .inl (T 0, 23, .inl ff2))] H locs := w
      rcases hp.2.2.2 with hr
      · subst hr
        refine lv_icmp_ge (tgt := 25) hx hb dX2_putText_7 (by decide) (fun c_5 => ?_) (fun c_5 => ?_)
        · replace c_5 := (iI_le (by decide) (by decide) (Int.le_trans (by decide) z3_a) (Int.le_trans z3_b (by decide))).mp c_5
          exact ret (z1, ff2) _ _ _ _ _ [0, 1] dX2_putText_25 ⟨z1_a, z1_b⟩ w (by decide) rfl
        · replace c_5 : z3 < 4 := Int.not_le.mp (fun h => c_5 ((iI_le (by decide) (by decide) (Int.le_trans (by decide) z3_a) (Int.le_trans z3_b (by decide))).mpr h))
          refine lv_aload_n hx hb dX2_putText_10 rfl (lv_at hl 1 rfl) ?_
          refine lv_aload_n hx hb dX2_putText_11 rfl (lv_at hl 2 rfl) ?_
          refine lv_iload_n hx hb dX2_putText_12 rfl (lv_at hl 0 rfl) ?_
          refine k_I (ce := 0) (sl := 0) (rest := [.ref a0]) (wr := [(a0, .inr (2, [.ref a1, .int (iI z1)])), (a1, .inl (T 0, 23, .inl ff2))]) (r_VT (f := 3) [] M w V_HookedCity_Label_67 G1106 G1107 (c90_J0_charAt_5068e l D T _ z3 (by omega) (by omega)) (M.2.2.2.2.2.2.1.2 2 _ rfl).1 rfl (by decide) rfl hl.1 rfl (Nat.le_of_ble_eq_true rfl) dX2_putText_13 (by decide) (by decide) (by decide) (by decide)) w [] [0, 1] rfl rfl (by decide) (by decide) rfl rfl (fun v z6 H locs hp w => ?_)
          have hv : iI z6 = v := hp.1
          subst hv
          have z6_a : 0 ≤ z6 := hp.2.1
          have z6_b : z6 ≤ 65535 := hp.2.2
          have w : WD D A s.heap [(a0, .inr (2, [.ref a1, .int (iI z1)])), (a1, .inl (T 0, 23, .inl ff2))] H locs := w
          refine k_V (ce := 0) (sl := 0) (rest := []) (wr := []) (r_V (f := 0) [0, 1] M w V_HookedCity_Label_58 G1097 G27 (c81_X2_put l D T _ a0 z6 a1 z1 ff2 (by omega) (by omega) z1_a z1_b) 0 clX2 rfl rfl (by decide) rfl hl.1 rfl (Nat.le_of_ble_eq_true rfl) dX2_putText_16 (by decide) (by decide) (by decide) (by decide)) w [0, 1] [] rfl rfl (by decide) (by decide) rfl rfl (fun u H locs hp w => ?_)
          obtain ⟨z7, ff8⟩ := u
          have z7_a : 0 ≤ z7 := hp.1
          have z7_b : z7 ≤ 23 := hp.2
          have w : WD D A s.heap [(a0, .inr (2, [.ref a1, .int (iI z7)])), (a1, .inl (T 0, 23, .inl ff8))] H locs := w
          refine lv_iinc (v := iI (z3 + 1)) (lv' := [(2, .int (iI (z3 + 1))), (0, .ref a0), (1, .ref (T (50 + 2)))]) hx hb dX2_putText_19 hl (k := 0) rfl (ii_inc (by decide +kernel)) (by decide) rfl (fun ls hl => ?_)
          refine lv_goto (tgt := 2) hx hb dX2_putText_22 (by decide) ?_
          exact ih1 z7 ff8 (z3 + 1) _ _ _ z7_a z7_b (by omega) (by omega) (by omega) w (lv_sub hl [0, 1, 2] rfl)
  exact loop1 ((6 : Int).toNat + 1) x0 f0 0 _ _ _ x0_a x0_b (by decide) (by decide) (Nat.lt_succ_self _) w (lv_sub hl [0, 1, 2] rfl)
set_option maxRecDepth 100000 in
set_option maxHeartbeats 4000000 in
theorem c92_J0_coder_7d493 (l : Launch) (D : va_G) (T : Nat → ClassId) (sz : Nat) : Met l yJ0_coder_7d493 (Cond.code yJ0_coder_7d493 cJ0_coder_7d493 1 (some .byte) :: GW) (Rm 0 0 0) (cPre [.ref (T (50 + 4))] D T [] sz) (qI D [] sz (fun (v : Int32) (u : Int) => iI u = v ∧ (-128) ≤ u ∧ u ≤ 127 ∧ ((u = 0))) (fun u => [])) 0 0 (va_A [] sz) := by
  refine e_B (by decide) (Nat.le_of_ble_eq_true rfl) ?_
  intro p e s m args below meth c A Q ls M hin w ret hl
  have hx := M.1.1
  have hb := M.1.2.1
  have hl : lv_has ls 1 [(0, .ref (T (50 + 4)))] := hl
  refine r_getCS M w G621 dJ0_coder_7d493_0 ?_
  refine lv_if_eq (tgt := 13) hx hb dJ0_coder_7d493_3 (by decide) (fun c => absurd c (by decide +kernel)) (fun _ => ?_)
  refine lv_aload_n hx hb dJ0_coder_7d493_6 rfl (lv_at hl 0 rfl) ?_
  refine r_scod M w 4 rfl G2085 dJ0_coder_7d493_7 ?_
  refine lv_goto (tgt := 14) hx hb dJ0_coder_7d493_10 (by decide) ?_
  exact ret _ 0 _ _ _ _ _ [] dJ0_coder_7d493_14 (by decide +kernel) ⟨rfl, (show (-128) ≤ 0 from by decide), (show (0 : Int) ≤ 127 from by decide), rfl⟩ w (by decide) rfl
set_option maxRecDepth 100000 in
set_option maxHeartbeats 4000000 in
theorem c93_J0_length_8abf5 (l : Launch) (D : va_G) (T : Nat → ClassId) (sz : Nat) : Met l yJ0_length_8abf5 (Cond.code yJ0_length_8abf5 cJ0_length_8abf5 1 (some .int) :: GW) (Rm 1 0 0) (cPre [.ref (T (50 + 4))] D T [] sz) (qI D [] sz (fun (v : Int32) (u : Int) => iI u = v ∧ (-2147483648) ≤ u ∧ u ≤ 2147483647 ∧ ((u = 5))) (fun u => [])) 0 0 (va_A [] sz) := by
  refine e_I (by decide) (Nat.le_of_ble_eq_true rfl) ?_
  intro p e s m args below meth c A Q ls M hin w ret hl
  have hx := M.1.1
  have hb := M.1.2.1
  have hl : lv_has ls 1 [(0, .ref (T (50 + 4)))] := hl
  refine lv_aload_n hx hb dJ0_length_8abf5_0 rfl (lv_at hl 0 rfl) ?_
  refine r_sval M w 4 rfl G2086 dJ0_length_8abf5_1 ?_
  refine r_slen M w 4 rfl (z := 5) (by decide +kernel) dJ0_length_8abf5_4 ?_
  refine lv_aload_n hx hb dJ0_length_8abf5_5 rfl (lv_at hl 0 rfl) ?_
  refine k_I (ce := 0) (sl := 0) (rest := [.int (iI 5)]) (wr := []) (r_VT (f := 0) [] M w V_java_lang_String_335 G628 G629 (c92_J0_coder_7d493 l D T _) (M.2.2.2.2.2.2.1.2 4 _ rfl).1 rfl (by decide) rfl hl.1 rfl (Nat.le_of_ble_eq_true rfl) dJ0_length_8abf5_6 (by decide) (by decide) (by decide) (by decide)) w [] [] rfl rfl (by decide) (by decide) rfl rfl (fun v z1 H locs hp w => ?_)
  have hv : iI z1 = v := hp.1
  subst hv
  have z1_a : (-128) ≤ z1 := hp.2.1
  have z1_b : z1 ≤ 127 := hp.2.2.1
  have w : WD D A s.heap [] H locs := w
  rcases hp.2.2.2 with hr
  · subst hr
    refine r_ishr (v := iI 5) M (by decide +kernel) dJ0_length_8abf5_9 ?_
    exact ret _ 5 _ _ _ _ _ [] dJ0_length_8abf5_10 ⟨rfl, (show (-2147483648) ≤ 5 from by decide), (show (5 : Int) ≤ 2147483647 from by decide), rfl⟩ w (by decide) rfl
set_option maxRecDepth 100000 in
set_option maxHeartbeats 4000000 in
theorem c94_J0_isLatin1_aae02 (l : Launch) (D : va_G) (T : Nat → ClassId) (sz : Nat) : Met l yJ0_isLatin1_aae02 (Cond.code yJ0_isLatin1_aae02 cJ0_isLatin1_aae02 1 (some .boolean) :: GW) (Rm 0 0 0) (cPre [.ref (T (50 + 4))] D T [] sz) (qI D [] sz (fun (v : Int32) (u : Int) => iI u = v ∧ 0 ≤ u ∧ u ≤ 1 ∧ ((u = 1))) (fun u => [])) 0 0 (va_A [] sz) := by
  refine e_Z (by decide) (Nat.le_of_ble_eq_true rfl) ?_
  intro p e s m args below meth c A Q ls M hin w ret hl
  have hx := M.1.1
  have hb := M.1.2.1
  have hl : lv_has ls 1 [(0, .ref (T (50 + 4)))] := hl
  refine r_getCS M w G621 dJ0_isLatin1_aae02_0 ?_
  refine lv_if_eq (tgt := 17) hx hb dJ0_isLatin1_aae02_3 (by decide) (fun c => absurd c (by decide +kernel)) (fun _ => ?_)
  refine lv_aload_n hx hb dJ0_isLatin1_aae02_6 rfl (lv_at hl 0 rfl) ?_
  refine r_scod M w 4 rfl G2085 dJ0_isLatin1_aae02_7 ?_
  refine lv_if_ne (tgt := 17) hx hb dJ0_isLatin1_aae02_10 (by decide) (fun c => absurd (by decide +kernel) c) (fun _ => ?_)
  refine lv_iconst (v := iI 1) hx hb dJ0_isLatin1_aae02_13 (by decide +kernel) ?_
  refine lv_goto (tgt := 18) hx hb dJ0_isLatin1_aae02_14 (by decide) ?_
  exact ret _ 1 _ _ _ _ _ [] dJ0_isLatin1_aae02_18 (by decide +kernel) ⟨rfl, (show (0 : Int) ≤ 1 from by decide), (show (1 : Int) ≤ 1 from by decide), rfl⟩ w (by decide) rfl
set_option maxRecDepth 100000 in
set_option maxHeartbeats 4000000 in
theorem c95_J3_checkIndex_8e157 (l : Launch) (D : va_G) (T : Nat → ClassId) (sz : Nat) (x0 : Int) (x0_a : 0 ≤ x0) (x0_b : x0 ≤ 4) : Met l yJ3_checkIndex_8e157 (Cond.code yJ3_checkIndex_8e157 cJ3_checkIndex_8e157 3 (some .int) :: GW) (Rm 0 0 0) (cPre [.int (iI x0), .int (iI 5), .null] D T [] sz) (qI D [] sz (fun (v : Int32) (u : Int) => iI u = v ∧ (-2147483648) ≤ u ∧ u ≤ 2147483647 ∧ ((0 ≤ x0 ∧ x0 < 5 ∧ u = x0))) (fun u => [])) 0 0 (va_A [] sz) := by
  refine e_I (by decide) (Nat.le_of_ble_eq_true rfl) ?_
  intro p e s m args below meth c A Q ls M hin w ret hl
  have hx := M.1.1
  have hb := M.1.2.1
  have hl : lv_has ls 3 [(0, .int (iI x0)), (1, .int (iI 5)), (2, .null)] := hl
  refine lv_iload_n hx hb dJ3_checkIndex_8e157_0 rfl (lv_at hl 0 rfl) ?_
  refine lv_if_lt (tgt := 9) hx hb dJ3_checkIndex_8e157_1 (by decide) (fun c_1 => ?_) (fun c_1 => ?_)
  · replace c_1 := (iz_lt (Int.le_trans (by decide) x0_a) (Int.le_trans x0_b (by decide))).mp c_1
    exfalso; omega
  · replace c_1 : 0 ≤ x0 := Int.not_lt.mp (fun h => c_1 ((iz_lt (Int.le_trans (by decide) x0_a) (Int.le_trans x0_b (by decide))).mpr h))
    refine lv_iload_n hx hb dJ3_checkIndex_8e157_4 rfl (lv_at hl 0 rfl) ?_
    refine lv_iload_n hx hb dJ3_checkIndex_8e157_5 rfl (lv_at hl 1 rfl) ?_
    refine lv_icmp_lt (tgt := 16) hx hb dJ3_checkIndex_8e157_6 (by decide) (fun c_2 => ?_) (fun c_2 => ?_)
    · replace c_2 := (iI_lt (Int.le_trans (by decide) x0_a) (Int.le_trans x0_b (by decide)) (by decide) (by decide)).mp c_2
      refine lv_iload_n hx hb dJ3_checkIndex_8e157_16 rfl (lv_at hl 0 rfl) ?_
      exact ret _ x0 _ _ _ _ _ [] dJ3_checkIndex_8e157_17 ⟨rfl, (show (-2147483648) ≤ x0 from by omega), (show x0 ≤ 2147483647 from by omega), ⟨c_1, c_2, rfl⟩⟩ w (by decide) rfl
    · replace c_2 : 5 ≤ x0 := Int.not_lt.mp (fun h => c_2 ((iI_lt (Int.le_trans (by decide) x0_a) (Int.le_trans x0_b (by decide)) (by decide) (by decide)).mpr h))
      exfalso; omega
set_option maxRecDepth 100000 in
set_option maxHeartbeats 4000000 in
theorem c96_J3_checkIndex_8e157 (l : Launch) (D : va_G) (T : Nat → ClassId) (sz : Nat) (x0 : Int) (a0 : Nat) (x0_a : 0 ≤ x0) (x0_b : x0 ≤ 4) : Met l yJ3_checkIndex_8e157 (Cond.code yJ3_checkIndex_8e157 cJ3_checkIndex_8e157 3 (some .int) :: GW) (Rm 0 0 0) (cPre [.int (iI x0), .int (iI 5), .ref a0] D T [] sz) (qI D [] sz (fun (v : Int32) (u : Int) => iI u = v ∧ (-2147483648) ≤ u ∧ u ≤ 2147483647 ∧ ((0 ≤ x0 ∧ x0 < 5 ∧ u = x0))) (fun u => [])) 0 0 (va_A [] sz) := by
  refine e_I (by decide) (Nat.le_of_ble_eq_true rfl) ?_
  intro p e s m args below meth c A Q ls M hin w ret hl
  have hx := M.1.1
  have hb := M.1.2.1
  have hl : lv_has ls 3 [(0, .int (iI x0)), (1, .int (iI 5)), (2, .ref a0)] := hl
  refine lv_iload_n hx hb dJ3_checkIndex_8e157_0 rfl (lv_at hl 0 rfl) ?_
  refine lv_if_lt (tgt := 9) hx hb dJ3_checkIndex_8e157_1 (by decide) (fun c_1 => ?_) (fun c_1 => ?_)
  · replace c_1 := (iz_lt (Int.le_trans (by decide) x0_a) (Int.le_trans x0_b (by decide))).mp c_1
    exfalso; omega
  · replace c_1 : 0 ≤ x0 := Int.not_lt.mp (fun h => c_1 ((iz_lt (Int.le_trans (by decide) x0_a) (Int.le_trans x0_b (by decide))).mpr h))
    refine lv_iload_n hx hb dJ3_checkIndex_8e157_4 rfl (lv_at hl 0 rfl) ?_
    refine lv_iload_n hx hb dJ3_checkIndex_8e157_5 rfl (lv_at hl 1 rfl) ?_
    refine lv_icmp_lt (tgt := 16) hx hb dJ3_checkIndex_8e157_6 (by decide) (fun c_2 => ?_) (fun c_2 => ?_)
    · replace c_2 := (iI_lt (Int.le_trans (by decide) x0_a) (Int.le_trans x0_b (by decide)) (by decide) (by decide)).mp c_2
      refine lv_iload_n hx hb dJ3_checkIndex_8e157_16 rfl (lv_at hl 0 rfl) ?_
      exact ret _ x0 _ _ _ _ _ [] dJ3_checkIndex_8e157_17 ⟨rfl, (show (-2147483648) ≤ x0 from by omega), (show x0 ≤ 2147483647 from by omega), ⟨c_1, c_2, rfl⟩⟩ w (by decide) rfl
    · replace c_2 : 5 ≤ x0 := Int.not_lt.mp (fun h => c_2 ((iI_lt (Int.le_trans (by decide) x0_a) (Int.le_trans x0_b (by decide)) (by decide) (by decide)).mpr h))
      exfalso; omega
set_option maxRecDepth 100000 in
set_option maxHeartbeats 4000000 in
theorem c97_J0_checkIndex_df160 (l : Launch) (D : va_G) (T : Nat → ClassId) (sz : Nat) (x0 : Int) (x0_a : 0 ≤ x0) (x0_b : x0 ≤ 4) : Met l yJ0_checkIndex_df160 (Cond.code yJ0_checkIndex_df160 cJ0_checkIndex_df160 2 none :: GW) (Rm 1 0 0) (cPre [.int (iI x0), .int (iI 5)] D T [] sz) (qV D [] sz (fun (u : Unit) => True) (fun u => [])) 0 0 (va_A [] sz) := by
  refine e_V (by decide) (Nat.le_of_ble_eq_true rfl) ?_
  intro p e s m args below meth c A Q ls M hin w ret hl
  have hx := M.1.1
  have hb := M.1.2.1
  have hl : lv_has ls 2 [(0, .int (iI x0)), (1, .int (iI 5))] := hl
  refine lv_iload_n hx hb dJ0_checkIndex_df160_0 rfl (lv_at hl 0 rfl) ?_
  refine lv_iload_n hx hb dJ0_checkIndex_df160_1 rfl (lv_at hl 1 rfl) ?_
  refine r_getSF M w G664 dJ0_checkIndex_df160_2 ?_ (fun qq1 => ?_)
  · refine k_I (ce := 0) (sl := 0) (rest := []) (wr := []) (r_S (f := 0) [] M w V_java_lang_String_1059 G1116 (c95_J3_checkIndex_8e157 l D T _ x0 x0_a x0_b) rfl (by decide) rfl hl.1 rfl (Nat.le_of_ble_eq_true rfl) dJ0_checkIndex_df160_5 (by decide) (by decide) (by decide) (by decide)) w [] [] rfl rfl (by decide) (by decide) rfl rfl (fun v z2 H locs hp w => ?_)
    have hv : iI z2 = v := hp.1
    subst hv
    have z2_a : (-2147483648) ≤ z2 := hp.2.1
    have z2_b : z2 ≤ 2147483647 := hp.2.2.1
    have w : WD D A s.heap [] H locs := w
    rcases hp.2.2.2 with ⟨c_3, c_4, hr⟩
    · subst hr
      refine lv_pop hx hb dJ0_checkIndex_df160_8 rfl ?_
      exact ret () _ _ _ _ _ [] dJ0_checkIndex_df160_9 trivial w (by decide) rfl
  · refine k_I (ce := 0) (sl := 0) (rest := []) (wr := []) (r_S (f := 0) [] M w V_java_lang_String_1059 G1116 (c96_J3_checkIndex_8e157 l D T _ x0 qq1 x0_a x0_b) rfl (by decide) rfl hl.1 rfl (Nat.le_of_ble_eq_true rfl) dJ0_checkIndex_df160_5 (by decide) (by decide) (by decide) (by decide)) w [] [] rfl rfl (by decide) (by decide) rfl rfl (fun v z5 H locs hp w => ?_)
    have hv : iI z5 = v := hp.1
    subst hv
    have z5_a : (-2147483648) ≤ z5 := hp.2.1
    have z5_b : z5 ≤ 2147483647 := hp.2.2.1
    have w : WD D A s.heap [] H locs := w
    rcases hp.2.2.2 with ⟨c_6, c_7, hr⟩
    · subst hr
      refine lv_pop hx hb dJ0_checkIndex_df160_8 rfl ?_
      exact ret () _ _ _ _ _ [] dJ0_checkIndex_df160_9 trivial w (by decide) rfl
set_option maxRecDepth 100000 in
set_option maxHeartbeats 4000000 in
theorem c98_J1_charAt_3b067 (l : Launch) (D : va_G) (T : Nat → ClassId) (sz : Nat) (x0 : Int) (x0_a : 0 ≤ x0) (x0_b : x0 ≤ 4) : Met l yJ1_charAt_3b067 (Cond.code yJ1_charAt_3b067 cJ1_charAt_3b067 2 (some .char) :: GW) (Rm 2 0 0) (cPre [.ref (T (60 + 4)), .int (iI x0)] D T [] sz) (qI D [] sz (fun (v : Int32) (u : Int) => iI u = v ∧ 0 ≤ u ∧ u ≤ 65535) (fun u => [])) 0 0 (va_A [] sz) := by
  refine e_C (by decide) (Nat.le_of_ble_eq_true rfl) ?_
  intro p e s m args below meth c A Q ls M hin w ret hl
  have hx := M.1.1
  have hb := M.1.2.1
  have hl : lv_has ls 2 [(0, .ref (T (60 + 4))), (1, .int (iI x0))] := hl
  refine lv_iload_n hx hb dJ1_charAt_3b067_0 rfl (lv_at hl 1 rfl) ?_
  refine lv_aload_n hx hb dJ1_charAt_3b067_1 rfl (lv_at hl 0 rfl) ?_
  refine r_slen M w 4 rfl (z := 5) (by decide +kernel) dJ1_charAt_3b067_2 ?_
  refine k_V (ce := 0) (sl := 0) (rest := []) (wr := []) (r_S (f := 1) [] M w V_java_lang_StringLatin1_9 G1113 (c97_J0_checkIndex_df160 l D T _ x0 x0_a x0_b) rfl (by decide) rfl hl.1 rfl (Nat.le_of_ble_eq_true rfl) dJ1_charAt_3b067_3 (by decide) (by decide) (by decide) (by decide)) w [] [] rfl rfl (by decide) (by decide) rfl rfl (fun _ H locs hp w => ?_)
  have w : WD D A s.heap [] H locs := w
  refine lv_aload_n hx hb dJ1_charAt_3b067_6 rfl (lv_at hl 0 rfl) ?_
  refine lv_iload_n hx hb dJ1_charAt_3b067_7 rfl (lv_at hl 1 rfl) ?_
  refine r_sbyt M w 4 rfl (iI_in (by omega) (by omega) (by decide)) dJ1_charAt_3b067_8 (fun fr1 => ?_)
  refine b_any (fun z2 z2_a z2_b => ?_)
  refine lv_sipush (v := iI 255) hx hb dJ1_charAt_3b067_9 (by decide +kernel) ?_
  refine r_iand (v := _) M rfl dJ1_charAt_3b067_12 ?_
  refine b_rng (lo := 0) (hi := 255) (iand_r (by omega) (by omega)) (fun z3 z3_a z3_b => ?_)
  refine lv_i2c (v := _) hx hb dJ1_charAt_3b067_13 rfl ?_
  refine b_rng (lo := 0) (hi := 65535) (i2c_r _) (fun z4 z4_a z4_b => ?_)
  exact ret _ z4 _ _ _ _ _ [] dJ1_charAt_3b067_14 (nc_n (by omega) (by omega)) ⟨rfl, z4_a, z4_b⟩ w (by decide) rfl
set_option maxRecDepth 100000 in
set_option maxHeartbeats 4000000 in
theorem c99_J0_charAt_5068e (l : Launch) (D : va_G) (T : Nat → ClassId) (sz : Nat) (x0 : Int) (x0_a : 0 ≤ x0) (x0_b : x0 ≤ 4) : Met l yJ0_charAt_5068e (Cond.code yJ0_charAt_5068e cJ0_charAt_5068e 2 (some .char) :: GW) (Rm 3 0 0) (cPre [.ref (T (50 + 4)), .int (iI x0)] D T [] sz) (qI D [] sz (fun (v : Int32) (u : Int) => iI u = v ∧ 0 ≤ u ∧ u ≤ 65535) (fun u => [])) 0 0 (va_A [] sz) := by
  refine e_C (by decide) (Nat.le_of_ble_eq_true rfl) ?_
  intro p e s m args below meth c A Q ls M hin w ret hl
  have hx := M.1.1
  have hb := M.1.2.1
  have hl : lv_has ls 2 [(0, .ref (T (50 + 4))), (1, .int (iI x0))] := hl
  refine lv_aload_n hx hb dJ0_charAt_5068e_0 rfl (lv_at hl 0 rfl) ?_
  refine k_I (ce := 0) (sl := 0) (rest := []) (wr := []) (r_VT (f := 0) [] M w V_java_lang_String_492 G618 G619 (c94_J0_isLatin1_aae02 l D T _) (M.2.2.2.2.2.2.1.2 4 _ rfl).1 rfl (by decide) rfl hl.1 rfl (Nat.le_of_ble_eq_true rfl) dJ0_charAt_5068e_1 (by decide) (by decide) (by decide) (by decide)) w [] [] rfl rfl (by decide) (by decide) rfl rfl (fun v z1 H locs hp w => ?_)
  have hv : iI z1 = v := hp.1
  subst hv
  have z1_a : 0 ≤ z1 := hp.2.1
  have z1_b : z1 ≤ 1 := hp.2.2.1
  have w : WD D A s.heap [] H locs := w
  rcases hp.2.2.2 with hr
  · subst hr
    refine lv_if_eq (tgt := 16) hx hb dJ0_charAt_5068e_4 (by decide) (fun c => absurd c (by decide +kernel)) (fun _ => ?_)
    refine lv_aload_n hx hb dJ0_charAt_5068e_7 rfl (lv_at hl 0 rfl) ?_
    refine r_sval M w 4 rfl G2086 dJ0_charAt_5068e_8 ?_
    refine lv_iload_n hx hb dJ0_charAt_5068e_11 rfl (lv_at hl 1 rfl) ?_
    refine k_I (ce := 0) (sl := 0) (rest := []) (wr := []) (r_S (f := 2) [] M w V_java_lang_String_495 G1110 (c98_J1_charAt_3b067 l D T _ x0 x0_a x0_b) rfl (by decide) rfl hl.1 rfl (Nat.le_of_ble_eq_true rfl) dJ0_charAt_5068e_12 (by decide) (by decide) (by decide) (by decide)) w [] [] rfl rfl (by decide) (by decide) rfl rfl (fun v z2 H locs hp w => ?_)
    have hv : iI z2 = v := hp.1
    subst hv
    have z2_a : 0 ≤ z2 := hp.2.1
    have z2_b : z2 ≤ 65535 := hp.2.2
    have w : WD D A s.heap [] H locs := w
    exact ret _ z2 _ _ _ _ _ [] dJ0_charAt_5068e_15 (nc_n (by omega) (by omega)) ⟨rfl, z2_a, z2_b⟩ w (by decide) rfl
set_option maxRecDepth 100000 in
set_option maxHeartbeats 4000000 in
theorem c100_X2_putText (l : Launch) (D : va_G) (T : Nat → ClassId) (sz : Nat) (a0 : Nat) (a1 : Nat) (x0 : Int) (f0 : Nat → Int32) (x0_a : 0 ≤ x0) (x0_b : x0 ≤ 23) : Met l yX2_putText (Cond.code yX2_putText cX2_putText 3 none :: GW) (Rm 4 0 0) (cPre [.ref a0, .ref (T (50 + 4))] D T [(a0, .inr (2, [.ref a1, .int (iI x0)])), (a1, .inl (T 0, 23, .inl f0))] sz) (qV D [(a0, .inr (2, [.ref a1, .int (iI x0)])), (a1, .inl (T 0, 23, .inl f0))] sz (fun (u : Int × (Nat → Int32)) => 0 ≤ u.1 ∧ u.1 ≤ 23) (fun u => [(a0, .inr (2, [.ref a1, .int (iI u.1)])), (a1, .inl (T 0, 23, .inl u.2))])) 0 0 (va_A [(a0, .inr (2, [.ref a1, .int (iI x0)])), (a1, .inl (T 0, 23, .inl f0))] sz) := by
  refine e_V (by decide) (Nat.le_of_ble_eq_true rfl) ?_
  intro p e s m args below meth c A Q ls M hin w ret hl
  have hx := M.1.1
  have hb := M.1.2.1
  have hl : lv_has ls 3 [(0, .ref a0), (1, .ref (T (50 + 4)))] := hl
  refine lv_iconst (v := iI 0) hx hb dX2_putText_0 (by decide +kernel) ?_
  refine lv_istore_n (lv' := [(2, .int (iI 0)), (0, .ref a0), (1, .ref (T (50 + 4)))]) hx hb dX2_putText_1 rfl hl (by decide) rfl (fun ls hl => ?_)
  have loop1 : ∀ (k1 : Nat) (z1 : Int) (ff2 : Nat → Int32) (z3 : Int) (H : Heap) (locs : List Loc) (ls : Array Slot), 0 ≤ z1 → z1 ≤ 23 → 0 ≤ z3 → z3 ≤ 6 → ((6 - z3) : Int).toNat < k1 → WD D A s.heap [(a0, .inr (2, [.ref a1, .int (iI z1)])), (a1, .inl (T 0, 23, .inl ff2))] H locs → lv_has ls 3 [(2, .int (iI z3)), (0, .ref a0), (1, .ref (T (50 + 4)))] → W p l e (Rm 4 0 0) s m args below meth c H locs 0 0 Q (F0 m 2 ls []) := by
    intro k1
    induction k1 with
    | zero => intro z1 ff2 z3 H locs ls z1_a z1_b z3_a z3_b hm; exact absurd hm (Nat.not_lt_zero _)
    | succ k1 ih1 =>
      intro z1 ff2 z3 H locs ls z1_a z1_b z3_a z3_b hm1 w hl
      refine lv_iload_n hx hb dX2_putText_2 rfl (lv_at hl 0 rfl) ?_
      refine lv_aload_n hx hb dX2_putText_3 rfl (lv_at hl 2 rfl) ?_
      refine k_I (ce := 0) (sl := 0) (rest := [.int (iI z3)]) (wr := [(a0, .inr (2, [.ref a1, .int (iI z1)])), (a1, .inl (T 0, 23, .inl ff2))]) (r_VT (f := 1) [] M w V_HookedCity_Label_62 G624 G625 (c93_J0_length_8abf5 l D T _) (M.2.2.2.2.2.2.1.2 4 _ rfl).1 rfl (by decide) rfl hl.1 rfl (Nat.le_of_ble_eq_true rfl) dX2_putText_4 (by decide) (by decide) (by decide) (by decide)) w [] [0, 1] rfl rfl (by decide) (by decide) rfl rfl (fun v z4 H locs hp w => ?_)
      have hv : iI z4 = v := hp.1
      subst hv
      have z4_a : (-2147483648) ≤ z4 := hp.2.1
      have z4_b : z4 ≤ 2147483647 := hp.2.2.1
      have w : WD D A s.heap [(a0, .inr (2, [.ref a1, .int (iI z1)])), (a1, .inl (T 0, 23, .inl ff2))] H locs := w
      rcases hp.2.2.2 with hr
      · subst hr
        refine lv_icmp_ge (tgt := 25) hx hb dX2_putText_7 (by decide) (fun c_5 => ?_) (fun c_5 => ?_)
        · replace c_5 := (iI_le (by decide) (by decide) (Int.le_trans (by decide) z3_a) (Int.le_trans z3_b (by decide))).mp c_5
          exact ret (z1, ff2) _ _ _ _ _ [0, 1] dX2_putText_25 ⟨z1_a, z1_b⟩ w (by decide) rfl
        · replace c_5 : z3 < 5 := Int.not_le.mp (fun h => c_5 ((iI_le (by decide) (by decide) (Int.le_trans (by decide) z3_a) (Int.le_trans z3_b (by decide))).mpr h))
          refine lv_aload_n hx hb dX2_putText_10 rfl (lv_at hl 1 rfl) ?_
          refine lv_aload_n hx hb dX2_putText_11 rfl (lv_at hl 2 rfl) ?_
          refine lv_iload_n hx hb dX2_putText_12 rfl (lv_at hl 0 rfl) ?_
          refine k_I (ce := 0) (sl := 0) (rest := [.ref a0]) (wr := [(a0, .inr (2, [.ref a1, .int (iI z1)])), (a1, .inl (T 0, 23, .inl ff2))]) (r_VT (f := 3) [] M w V_HookedCity_Label_67 G1106 G1107 (c99_J0_charAt_5068e l D T _ z3 (by omega) (by omega)) (M.2.2.2.2.2.2.1.2 4 _ rfl).1 rfl (by decide) rfl hl.1 rfl (Nat.le_of_ble_eq_true rfl) dX2_putText_13 (by decide) (by decide) (by decide) (by decide)) w [] [0, 1] rfl rfl (by decide) (by decide) rfl rfl (fun v z6 H locs hp w => ?_)
          have hv : iI z6 = v := hp.1
          subst hv
          have z6_a : 0 ≤ z6 := hp.2.1
          have z6_b : z6 ≤ 65535 := hp.2.2
          have w : WD D A s.heap [(a0, .inr (2, [.ref a1, .int (iI z1)])), (a1, .inl (T 0, 23, .inl ff2))] H locs := w
          refine k_V (ce := 0) (sl := 0) (rest := []) (wr := []) (r_V (f := 0) [0, 1] M w V_HookedCity_Label_58 G1097 G27 (c81_X2_put l D T _ a0 z6 a1 z1 ff2 (by omega) (by omega) z1_a z1_b) 0 clX2 rfl rfl (by decide) rfl hl.1 rfl (Nat.le_of_ble_eq_true rfl) dX2_putText_16 (by decide) (by decide) (by decide) (by decide)) w [0, 1] [] rfl rfl (by decide) (by decide) rfl rfl (fun u H locs hp w => ?_)
          obtain ⟨z7, ff8⟩ := u
          have z7_a : 0 ≤ z7 := hp.1
          have z7_b : z7 ≤ 23 := hp.2
          have w : WD D A s.heap [(a0, .inr (2, [.ref a1, .int (iI z7)])), (a1, .inl (T 0, 23, .inl ff8))] H locs := w
          refine lv_iinc (v := iI (z3 + 1)) (lv' := [(2, .int (iI (z3 + 1))), (0, .ref a0), (1, .ref (T (50 + 4)))]) hx hb dX2_putText_19 hl (k := 0) rfl (ii_inc (by decide +kernel)) (by decide) rfl (fun ls hl => ?_)
          refine lv_goto (tgt := 2) hx hb dX2_putText_22 (by decide) ?_
          exact ih1 z7 ff8 (z3 + 1) _ _ _ z7_a z7_b (by omega) (by omega) (by omega) w (lv_sub hl [0, 1, 2] rfl)
  exact loop1 ((6 : Int).toNat + 1) x0 f0 0 _ _ _ x0_a x0_b (by decide) (by decide) (Nat.lt_succ_self _) w (lv_sub hl [0, 1, 2] rfl)
set_option maxRecDepth 100000 in
set_option maxHeartbeats 4000000 in
theorem c101_J0_coder_7d493 (l : Launch) (D : va_G) (T : Nat → ClassId) (sz : Nat) : Met l yJ0_coder_7d493 (Cond.code yJ0_coder_7d493 cJ0_coder_7d493 1 (some .byte) :: GW) (Rm 0 0 0) (cPre [.ref (T (50 + 3))] D T [] sz) (qI D [] sz (fun (v : Int32) (u : Int) => iI u = v ∧ (-128) ≤ u ∧ u ≤ 127 ∧ ((u = 0))) (fun u => [])) 0 0 (va_A [] sz) := by
  refine e_B (by decide) (Nat.le_of_ble_eq_true rfl) ?_
  intro p e s m args below meth c A Q ls M hin w ret hl
  have hx := M.1.1
  have hb := M.1.2.1
  have hl : lv_has ls 1 [(0, .ref (T (50 + 3)))] := hl
  refine r_getCS M w G621 dJ0_coder_7d493_0 ?_
  refine lv_if_eq (tgt := 13) hx hb dJ0_coder_7d493_3 (by decide) (fun c => absurd c (by decide +kernel)) (fun _ => ?_)
  refine lv_aload_n hx hb dJ0_coder_7d493_6 rfl (lv_at hl 0 rfl) ?_
  refine r_scod M w 3 rfl G2085 dJ0_coder_7d493_7 ?_
  refine lv_goto (tgt := 14) hx hb dJ0_coder_7d493_10 (by decide) ?_
  exact ret _ 0 _ _ _ _ _ [] dJ0_coder_7d493_14 (by decide +kernel) ⟨rfl, (show (-128) ≤ 0 from by decide), (show (0 : Int) ≤ 127 from by decide), rfl⟩ w (by decide) rfl
set_option maxRecDepth 100000 in
set_option maxHeartbeats 4000000 in
theorem c102_J0_length_8abf5 (l : Launch) (D : va_G) (T : Nat → ClassId) (sz : Nat) : Met l yJ0_length_8abf5 (Cond.code yJ0_length_8abf5 cJ0_length_8abf5 1 (some .int) :: GW) (Rm 1 0 0) (cPre [.ref (T (50 + 3))] D T [] sz) (qI D [] sz (fun (v : Int32) (u : Int) => iI u = v ∧ (-2147483648) ≤ u ∧ u ≤ 2147483647 ∧ ((u = 5))) (fun u => [])) 0 0 (va_A [] sz) := by
  refine e_I (by decide) (Nat.le_of_ble_eq_true rfl) ?_
  intro p e s m args below meth c A Q ls M hin w ret hl
  have hx := M.1.1
  have hb := M.1.2.1
  have hl : lv_has ls 1 [(0, .ref (T (50 + 3)))] := hl
  refine lv_aload_n hx hb dJ0_length_8abf5_0 rfl (lv_at hl 0 rfl) ?_
  refine r_sval M w 3 rfl G2086 dJ0_length_8abf5_1 ?_
  refine r_slen M w 3 rfl (z := 5) (by decide +kernel) dJ0_length_8abf5_4 ?_
  refine lv_aload_n hx hb dJ0_length_8abf5_5 rfl (lv_at hl 0 rfl) ?_
  refine k_I (ce := 0) (sl := 0) (rest := [.int (iI 5)]) (wr := []) (r_VT (f := 0) [] M w V_java_lang_String_335 G628 G629 (c101_J0_coder_7d493 l D T _) (M.2.2.2.2.2.2.1.2 3 _ rfl).1 rfl (by decide) rfl hl.1 rfl (Nat.le_of_ble_eq_true rfl) dJ0_length_8abf5_6 (by decide) (by decide) (by decide) (by decide)) w [] [] rfl rfl (by decide) (by decide) rfl rfl (fun v z1 H locs hp w => ?_)
  have hv : iI z1 = v := hp.1
  subst hv
  have z1_a : (-128) ≤ z1 := hp.2.1
  have z1_b : z1 ≤ 127 := hp.2.2.1
  have w : WD D A s.heap [] H locs := w
  rcases hp.2.2.2 with hr
  · subst hr
    refine r_ishr (v := iI 5) M (by decide +kernel) dJ0_length_8abf5_9 ?_
    exact ret _ 5 _ _ _ _ _ [] dJ0_length_8abf5_10 ⟨rfl, (show (-2147483648) ≤ 5 from by decide), (show (5 : Int) ≤ 2147483647 from by decide), rfl⟩ w (by decide) rfl
set_option maxRecDepth 100000 in
set_option maxHeartbeats 4000000 in
theorem c103_J0_isLatin1_aae02 (l : Launch) (D : va_G) (T : Nat → ClassId) (sz : Nat) : Met l yJ0_isLatin1_aae02 (Cond.code yJ0_isLatin1_aae02 cJ0_isLatin1_aae02 1 (some .boolean) :: GW) (Rm 0 0 0) (cPre [.ref (T (50 + 3))] D T [] sz) (qI D [] sz (fun (v : Int32) (u : Int) => iI u = v ∧ 0 ≤ u ∧ u ≤ 1 ∧ ((u = 1))) (fun u => [])) 0 0 (va_A [] sz) := by
  refine e_Z (by decide) (Nat.le_of_ble_eq_true rfl) ?_
  intro p e s m args below meth c A Q ls M hin w ret hl
  have hx := M.1.1
  have hb := M.1.2.1
  have hl : lv_has ls 1 [(0, .ref (T (50 + 3)))] := hl
  refine r_getCS M w G621 dJ0_isLatin1_aae02_0 ?_
  refine lv_if_eq (tgt := 17) hx hb dJ0_isLatin1_aae02_3 (by decide) (fun c => absurd c (by decide +kernel)) (fun _ => ?_)
  refine lv_aload_n hx hb dJ0_isLatin1_aae02_6 rfl (lv_at hl 0 rfl) ?_
  refine r_scod M w 3 rfl G2085 dJ0_isLatin1_aae02_7 ?_
  refine lv_if_ne (tgt := 17) hx hb dJ0_isLatin1_aae02_10 (by decide) (fun c => absurd (by decide +kernel) c) (fun _ => ?_)
  refine lv_iconst (v := iI 1) hx hb dJ0_isLatin1_aae02_13 (by decide +kernel) ?_
  refine lv_goto (tgt := 18) hx hb dJ0_isLatin1_aae02_14 (by decide) ?_
  exact ret _ 1 _ _ _ _ _ [] dJ0_isLatin1_aae02_18 (by decide +kernel) ⟨rfl, (show (0 : Int) ≤ 1 from by decide), (show (1 : Int) ≤ 1 from by decide), rfl⟩ w (by decide) rfl
set_option maxRecDepth 100000 in
set_option maxHeartbeats 4000000 in
theorem c104_J1_charAt_3b067 (l : Launch) (D : va_G) (T : Nat → ClassId) (sz : Nat) (x0 : Int) (x0_a : 0 ≤ x0) (x0_b : x0 ≤ 4) : Met l yJ1_charAt_3b067 (Cond.code yJ1_charAt_3b067 cJ1_charAt_3b067 2 (some .char) :: GW) (Rm 2 0 0) (cPre [.ref (T (60 + 3)), .int (iI x0)] D T [] sz) (qI D [] sz (fun (v : Int32) (u : Int) => iI u = v ∧ 0 ≤ u ∧ u ≤ 65535) (fun u => [])) 0 0 (va_A [] sz) := by
  refine e_C (by decide) (Nat.le_of_ble_eq_true rfl) ?_
  intro p e s m args below meth c A Q ls M hin w ret hl
  have hx := M.1.1
  have hb := M.1.2.1
  have hl : lv_has ls 2 [(0, .ref (T (60 + 3))), (1, .int (iI x0))] := hl
  refine lv_iload_n hx hb dJ1_charAt_3b067_0 rfl (lv_at hl 1 rfl) ?_
  refine lv_aload_n hx hb dJ1_charAt_3b067_1 rfl (lv_at hl 0 rfl) ?_
  refine r_slen M w 3 rfl (z := 5) (by decide +kernel) dJ1_charAt_3b067_2 ?_
  refine k_V (ce := 0) (sl := 0) (rest := []) (wr := []) (r_S (f := 1) [] M w V_java_lang_StringLatin1_9 G1113 (c97_J0_checkIndex_df160 l D T _ x0 x0_a x0_b) rfl (by decide) rfl hl.1 rfl (Nat.le_of_ble_eq_true rfl) dJ1_charAt_3b067_3 (by decide) (by decide) (by decide) (by decide)) w [] [] rfl rfl (by decide) (by decide) rfl rfl (fun _ H locs hp w => ?_)
  have w : WD D A s.heap [] H locs := w
  refine lv_aload_n hx hb dJ1_charAt_3b067_6 rfl (lv_at hl 0 rfl) ?_
  refine lv_iload_n hx hb dJ1_charAt_3b067_7 rfl (lv_at hl 1 rfl) ?_
  refine r_sbyt M w 3 rfl (iI_in (by omega) (by omega) (by decide)) dJ1_charAt_3b067_8 (fun fr1 => ?_)
  refine b_any (fun z2 z2_a z2_b => ?_)
  refine lv_sipush (v := iI 255) hx hb dJ1_charAt_3b067_9 (by decide +kernel) ?_
  refine r_iand (v := _) M rfl dJ1_charAt_3b067_12 ?_
  refine b_rng (lo := 0) (hi := 255) (iand_r (by omega) (by omega)) (fun z3 z3_a z3_b => ?_)
  refine lv_i2c (v := _) hx hb dJ1_charAt_3b067_13 rfl ?_
  refine b_rng (lo := 0) (hi := 65535) (i2c_r _) (fun z4 z4_a z4_b => ?_)
  exact ret _ z4 _ _ _ _ _ [] dJ1_charAt_3b067_14 (nc_n (by omega) (by omega)) ⟨rfl, z4_a, z4_b⟩ w (by decide) rfl
set_option maxRecDepth 100000 in
set_option maxHeartbeats 4000000 in
theorem c105_J0_charAt_5068e (l : Launch) (D : va_G) (T : Nat → ClassId) (sz : Nat) (x0 : Int) (x0_a : 0 ≤ x0) (x0_b : x0 ≤ 4) : Met l yJ0_charAt_5068e (Cond.code yJ0_charAt_5068e cJ0_charAt_5068e 2 (some .char) :: GW) (Rm 3 0 0) (cPre [.ref (T (50 + 3)), .int (iI x0)] D T [] sz) (qI D [] sz (fun (v : Int32) (u : Int) => iI u = v ∧ 0 ≤ u ∧ u ≤ 65535) (fun u => [])) 0 0 (va_A [] sz) := by
  refine e_C (by decide) (Nat.le_of_ble_eq_true rfl) ?_
  intro p e s m args below meth c A Q ls M hin w ret hl
  have hx := M.1.1
  have hb := M.1.2.1
  have hl : lv_has ls 2 [(0, .ref (T (50 + 3))), (1, .int (iI x0))] := hl
  refine lv_aload_n hx hb dJ0_charAt_5068e_0 rfl (lv_at hl 0 rfl) ?_
  refine k_I (ce := 0) (sl := 0) (rest := []) (wr := []) (r_VT (f := 0) [] M w V_java_lang_String_492 G618 G619 (c103_J0_isLatin1_aae02 l D T _) (M.2.2.2.2.2.2.1.2 3 _ rfl).1 rfl (by decide) rfl hl.1 rfl (Nat.le_of_ble_eq_true rfl) dJ0_charAt_5068e_1 (by decide) (by decide) (by decide) (by decide)) w [] [] rfl rfl (by decide) (by decide) rfl rfl (fun v z1 H locs hp w => ?_)
  have hv : iI z1 = v := hp.1
  subst hv
  have z1_a : 0 ≤ z1 := hp.2.1
  have z1_b : z1 ≤ 1 := hp.2.2.1
  have w : WD D A s.heap [] H locs := w
  rcases hp.2.2.2 with hr
  · subst hr
    refine lv_if_eq (tgt := 16) hx hb dJ0_charAt_5068e_4 (by decide) (fun c => absurd c (by decide +kernel)) (fun _ => ?_)
    refine lv_aload_n hx hb dJ0_charAt_5068e_7 rfl (lv_at hl 0 rfl) ?_
    refine r_sval M w 3 rfl G2086 dJ0_charAt_5068e_8 ?_
    refine lv_iload_n hx hb dJ0_charAt_5068e_11 rfl (lv_at hl 1 rfl) ?_
    refine k_I (ce := 0) (sl := 0) (rest := []) (wr := []) (r_S (f := 2) [] M w V_java_lang_String_495 G1110 (c104_J1_charAt_3b067 l D T _ x0 x0_a x0_b) rfl (by decide) rfl hl.1 rfl (Nat.le_of_ble_eq_true rfl) dJ0_charAt_5068e_12 (by decide) (by decide) (by decide) (by decide)) w [] [] rfl rfl (by decide) (by decide) rfl rfl (fun v z2 H locs hp w => ?_)
    have hv : iI z2 = v := hp.1
    subst hv
    have z2_a : 0 ≤ z2 := hp.2.1
    have z2_b : z2 ≤ 65535 := hp.2.2
    have w : WD D A s.heap [] H locs := w
    exact ret _ z2 _ _ _ _ _ [] dJ0_charAt_5068e_15 (nc_n (by omega) (by omega)) ⟨rfl, z2_a, z2_b⟩ w (by decide) rfl
set_option maxRecDepth 100000 in
set_option maxHeartbeats 4000000 in
theorem c106_X2_putText (l : Launch) (D : va_G) (T : Nat → ClassId) (sz : Nat) (a0 : Nat) (a1 : Nat) (x0 : Int) (f0 : Nat → Int32) (x0_a : 0 ≤ x0) (x0_b : x0 ≤ 23) : Met l yX2_putText (Cond.code yX2_putText cX2_putText 3 none :: GW) (Rm 4 0 0) (cPre [.ref a0, .ref (T (50 + 3))] D T [(a0, .inr (2, [.ref a1, .int (iI x0)])), (a1, .inl (T 0, 23, .inl f0))] sz) (qV D [(a0, .inr (2, [.ref a1, .int (iI x0)])), (a1, .inl (T 0, 23, .inl f0))] sz (fun (u : Int × (Nat → Int32)) => 0 ≤ u.1 ∧ u.1 ≤ 23) (fun u => [(a0, .inr (2, [.ref a1, .int (iI u.1)])), (a1, .inl (T 0, 23, .inl u.2))])) 0 0 (va_A [(a0, .inr (2, [.ref a1, .int (iI x0)])), (a1, .inl (T 0, 23, .inl f0))] sz) := by
  refine e_V (by decide) (Nat.le_of_ble_eq_true rfl) ?_
  intro p e s m args below meth c A Q ls M hin w ret hl
  have hx := M.1.1
  have hb := M.1.2.1
  have hl : lv_has ls 3 [(0, .ref a0), (1, .ref (T (50 + 3)))] := hl
  refine lv_iconst (v := iI 0) hx hb dX2_putText_0 (by decide +kernel) ?_
  refine lv_istore_n (lv' := [(2, .int (iI 0)), (0, .ref a0), (1, .ref (T (50 + 3)))]) hx hb dX2_putText_1 rfl hl (by decide) rfl (fun ls hl => ?_)
  have loop1 : ∀ (k1 : Nat) (z1 : Int) (ff2 : Nat → Int32) (z3 : Int) (H : Heap) (locs : List Loc) (ls : Array Slot), 0 ≤ z1 → z1 ≤ 23 → 0 ≤ z3 → z3 ≤ 6 → ((6 - z3) : Int).toNat < k1 → WD D A s.heap [(a0, .inr (2, [.ref a1, .int (iI z1)])), (a1, .inl (T 0, 23, .inl ff2))] H locs → lv_has ls 3 [(2, .int (iI z3)), (0, .ref a0), (1, .ref (T (50 + 3)))] → W p l e (Rm 4 0 0) s m args below meth c H locs 0 0 Q (F0 m 2 ls []) := by
    intro k1
    induction k1 with
    | zero => intro z1 ff2 z3 H locs ls z1_a z1_b z3_a z3_b hm; exact absurd hm (Nat.not_lt_zero _)
    | succ k1 ih1 =>
      intro z1 ff2 z3 H locs ls z1_a z1_b z3_a z3_b hm1 w hl
      refine lv_iload_n hx hb dX2_putText_2 rfl (lv_at hl 0 rfl) ?_
      refine lv_aload_n hx hb dX2_putText_3 rfl (lv_at hl 2 rfl) ?_
      refine k_I (ce := 0) (sl := 0) (rest := [.int (iI z3)]) (wr := [(a0, .inr (2, [.ref a1, .int (iI z1)])), (a1, .inl (T 0, 23, .inl ff2))]) (r_VT (f := 1) [] M w V_HookedCity_Label_62 G624 G625 (c102_J0_length_8abf5 l D T _) (M.2.2.2.2.2.2.1.2 3 _ rfl).1 rfl (by decide) rfl hl.1 rfl (Nat.le_of_ble_eq_true rfl) dX2_putText_4 (by decide) (by decide) (by decide) (by decide)) w [] [0, 1] rfl rfl (by decide) (by decide) rfl rfl (fun v z4 H locs hp w => ?_)
      have hv : iI z4 = v := hp.1
      subst hv
      have z4_a : (-2147483648) ≤ z4 := hp.2.1
      have z4_b : z4 ≤ 2147483647 := hp.2.2.1
      have w : WD D A s.heap [(a0, .inr (2, [.ref a1, .int (iI z1)])), (a1, .inl (T 0, 23, .inl ff2))] H locs := w
      rcases hp.2.2.2 with hr
      · subst hr
        refine lv_icmp_ge (tgt := 25) hx hb dX2_putText_7 (by decide) (fun c_5 => ?_) (fun c_5 => ?_)
        · replace c_5 := (iI_le (by decide) (by decide) (Int.le_trans (by decide) z3_a) (Int.le_trans z3_b (by decide))).mp c_5
          exact ret (z1, ff2) _ _ _ _ _ [0, 1] dX2_putText_25 ⟨z1_a, z1_b⟩ w (by decide) rfl
        · replace c_5 : z3 < 5 := Int.not_le.mp (fun h => c_5 ((iI_le (by decide) (by decide) (Int.le_trans (by decide) z3_a) (Int.le_trans z3_b (by decide))).mpr h))
          refine lv_aload_n hx hb dX2_putText_10 rfl (lv_at hl 1 rfl) ?_
          refine lv_aload_n hx hb dX2_putText_11 rfl (lv_at hl 2 rfl) ?_
          refine lv_iload_n hx hb dX2_putText_12 rfl (lv_at hl 0 rfl) ?_
          refine k_I (ce := 0) (sl := 0) (rest := [.ref a0]) (wr := [(a0, .inr (2, [.ref a1, .int (iI z1)])), (a1, .inl (T 0, 23, .inl ff2))]) (r_VT (f := 3) [] M w V_HookedCity_Label_67 G1106 G1107 (c105_J0_charAt_5068e l D T _ z3 (by omega) (by omega)) (M.2.2.2.2.2.2.1.2 3 _ rfl).1 rfl (by decide) rfl hl.1 rfl (Nat.le_of_ble_eq_true rfl) dX2_putText_13 (by decide) (by decide) (by decide) (by decide)) w [] [0, 1] rfl rfl (by decide) (by decide) rfl rfl (fun v z6 H locs hp w => ?_)
          have hv : iI z6 = v := hp.1
          subst hv
          have z6_a : 0 ≤ z6 := hp.2.1
          have z6_b : z6 ≤ 65535 := hp.2.2
          have w : WD D A s.heap [(a0, .inr (2, [.ref a1, .int (iI z1)])), (a1, .inl (T 0, 23, .inl ff2))] H locs := w
          refine k_V (ce := 0) (sl := 0) (rest := []) (wr := []) (r_V (f := 0) [0, 1] M w V_HookedCity_Label_58 G1097 G27 (c81_X2_put l D T _ a0 z6 a1 z1 ff2 (by omega) (by omega) z1_a z1_b) 0 clX2 rfl rfl (by decide) rfl hl.1 rfl (Nat.le_of_ble_eq_true rfl) dX2_putText_16 (by decide) (by decide) (by decide) (by decide)) w [0, 1] [] rfl rfl (by decide) (by decide) rfl rfl (fun u H locs hp w => ?_)
          obtain ⟨z7, ff8⟩ := u
          have z7_a : 0 ≤ z7 := hp.1
          have z7_b : z7 ≤ 23 := hp.2
          have w : WD D A s.heap [(a0, .inr (2, [.ref a1, .int (iI z7)])), (a1, .inl (T 0, 23, .inl ff8))] H locs := w
          refine lv_iinc (v := iI (z3 + 1)) (lv' := [(2, .int (iI (z3 + 1))), (0, .ref a0), (1, .ref (T (50 + 3)))]) hx hb dX2_putText_19 hl (k := 0) rfl (ii_inc (by decide +kernel)) (by decide) rfl (fun ls hl => ?_)
          refine lv_goto (tgt := 2) hx hb dX2_putText_22 (by decide) ?_
          exact ih1 z7 ff8 (z3 + 1) _ _ _ z7_a z7_b (by omega) (by omega) (by omega) w (lv_sub hl [0, 1, 2] rfl)
  exact loop1 ((6 : Int).toNat + 1) x0 f0 0 _ _ _ x0_a x0_b (by decide) (by decide) (Nat.lt_succ_self _) w (lv_sub hl [0, 1, 2] rfl)
set_option maxRecDepth 100000 in
set_option maxHeartbeats 4000000 in
theorem c107_J0_coder_7d493 (l : Launch) (D : va_G) (T : Nat → ClassId) (sz : Nat) : Met l yJ0_coder_7d493 (Cond.code yJ0_coder_7d493 cJ0_coder_7d493 1 (some .byte) :: GW) (Rm 0 0 0) (cPre [.ref (T (50 + 1))] D T [] sz) (qI D [] sz (fun (v : Int32) (u : Int) => iI u = v ∧ (-128) ≤ u ∧ u ≤ 127 ∧ ((u = 0))) (fun u => [])) 0 0 (va_A [] sz) := by
  refine e_B (by decide) (Nat.le_of_ble_eq_true rfl) ?_
  intro p e s m args below meth c A Q ls M hin w ret hl
  have hx := M.1.1
  have hb := M.1.2.1
  have hl : lv_has ls 1 [(0, .ref (T (50 + 1)))] := hl
  refine r_getCS M w G621 dJ0_coder_7d493_0 ?_
  refine lv_if_eq (tgt := 13) hx hb dJ0_coder_7d493_3 (by decide) (fun c => absurd c (by decide +kernel)) (fun _ => ?_)
  refine lv_aload_n hx hb dJ0_coder_7d493_6 rfl (lv_at hl 0 rfl) ?_
  refine r_scod M w 1 rfl G2085 dJ0_coder_7d493_7 ?_
  refine lv_goto (tgt := 14) hx hb dJ0_coder_7d493_10 (by decide) ?_
  exact ret _ 0 _ _ _ _ _ [] dJ0_coder_7d493_14 (by decide +kernel) ⟨rfl, (show (-128) ≤ 0 from by decide), (show (0 : Int) ≤ 127 from by decide), rfl⟩ w (by decide) rfl
set_option maxRecDepth 100000 in
set_option maxHeartbeats 4000000 in
theorem c108_J0_length_8abf5 (l : Launch) (D : va_G) (T : Nat → ClassId) (sz : Nat) : Met l yJ0_length_8abf5 (Cond.code yJ0_length_8abf5 cJ0_length_8abf5 1 (some .int) :: GW) (Rm 1 0 0) (cPre [.ref (T (50 + 1))] D T [] sz) (qI D [] sz (fun (v : Int32) (u : Int) => iI u = v ∧ (-2147483648) ≤ u ∧ u ≤ 2147483647 ∧ ((u = 5))) (fun u => [])) 0 0 (va_A [] sz) := by
  refine e_I (by decide) (Nat.le_of_ble_eq_true rfl) ?_
  intro p e s m args below meth c A Q ls M hin w ret hl
  have hx := M.1.1
  have hb := M.1.2.1
  have hl : lv_has ls 1 [(0, .ref (T (50 + 1)))] := hl
  refine lv_aload_n hx hb dJ0_length_8abf5_0 rfl (lv_at hl 0 rfl) ?_
  refine r_sval M w 1 rfl G2086 dJ0_length_8abf5_1 ?_
  refine r_slen M w 1 rfl (z := 5) (by decide +kernel) dJ0_length_8abf5_4 ?_
  refine lv_aload_n hx hb dJ0_length_8abf5_5 rfl (lv_at hl 0 rfl) ?_
  refine k_I (ce := 0) (sl := 0) (rest := [.int (iI 5)]) (wr := []) (r_VT (f := 0) [] M w V_java_lang_String_335 G628 G629 (c107_J0_coder_7d493 l D T _) (M.2.2.2.2.2.2.1.2 1 _ rfl).1 rfl (by decide) rfl hl.1 rfl (Nat.le_of_ble_eq_true rfl) dJ0_length_8abf5_6 (by decide) (by decide) (by decide) (by decide)) w [] [] rfl rfl (by decide) (by decide) rfl rfl (fun v z1 H locs hp w => ?_)
  have hv : iI z1 = v := hp.1
  subst hv
  have z1_a : (-128) ≤ z1 := hp.2.1
  have z1_b : z1 ≤ 127 := hp.2.2.1
  have w : WD D A s.heap [] H locs := w
  rcases hp.2.2.2 with hr
  · subst hr
    refine r_ishr (v := iI 5) M (by decide +kernel) dJ0_length_8abf5_9 ?_
    exact ret _ 5 _ _ _ _ _ [] dJ0_length_8abf5_10 ⟨rfl, (show (-2147483648) ≤ 5 from by decide), (show (5 : Int) ≤ 2147483647 from by decide), rfl⟩ w (by decide) rfl
set_option maxRecDepth 100000 in
set_option maxHeartbeats 4000000 in
theorem c109_J0_isLatin1_aae02 (l : Launch) (D : va_G) (T : Nat → ClassId) (sz : Nat) : Met l yJ0_isLatin1_aae02 (Cond.code yJ0_isLatin1_aae02 cJ0_isLatin1_aae02 1 (some .boolean) :: GW) (Rm 0 0 0) (cPre [.ref (T (50 + 1))] D T [] sz) (qI D [] sz (fun (v : Int32) (u : Int) => iI u = v ∧ 0 ≤ u ∧ u ≤ 1 ∧ ((u = 1))) (fun u => [])) 0 0 (va_A [] sz) := by
  refine e_Z (by decide) (Nat.le_of_ble_eq_true rfl) ?_
  intro p e s m args below meth c A Q ls M hin w ret hl
  have hx := M.1.1
  have hb := M.1.2.1
  have hl : lv_has ls 1 [(0, .ref (T (50 + 1)))] := hl
  refine r_getCS M w G621 dJ0_isLatin1_aae02_0 ?_
  refine lv_if_eq (tgt := 17) hx hb dJ0_isLatin1_aae02_3 (by decide) (fun c => absurd c (by decide +kernel)) (fun _ => ?_)
  refine lv_aload_n hx hb dJ0_isLatin1_aae02_6 rfl (lv_at hl 0 rfl) ?_
  refine r_scod M w 1 rfl G2085 dJ0_isLatin1_aae02_7 ?_
  refine lv_if_ne (tgt := 17) hx hb dJ0_isLatin1_aae02_10 (by decide) (fun c => absurd (by decide +kernel) c) (fun _ => ?_)
  refine lv_iconst (v := iI 1) hx hb dJ0_isLatin1_aae02_13 (by decide +kernel) ?_
  refine lv_goto (tgt := 18) hx hb dJ0_isLatin1_aae02_14 (by decide) ?_
  exact ret _ 1 _ _ _ _ _ [] dJ0_isLatin1_aae02_18 (by decide +kernel) ⟨rfl, (show (0 : Int) ≤ 1 from by decide), (show (1 : Int) ≤ 1 from by decide), rfl⟩ w (by decide) rfl
set_option maxRecDepth 100000 in
set_option maxHeartbeats 4000000 in
theorem c110_J1_charAt_3b067 (l : Launch) (D : va_G) (T : Nat → ClassId) (sz : Nat) (x0 : Int) (x0_a : 0 ≤ x0) (x0_b : x0 ≤ 4) : Met l yJ1_charAt_3b067 (Cond.code yJ1_charAt_3b067 cJ1_charAt_3b067 2 (some .char) :: GW) (Rm 2 0 0) (cPre [.ref (T (60 + 1)), .int (iI x0)] D T [] sz) (qI D [] sz (fun (v : Int32) (u : Int) => iI u = v ∧ 0 ≤ u ∧ u ≤ 65535) (fun u => [])) 0 0 (va_A [] sz) := by
  refine e_C (by decide) (Nat.le_of_ble_eq_true rfl) ?_
  intro p e s m args below meth c A Q ls M hin w ret hl
  have hx := M.1.1
  have hb := M.1.2.1
  have hl : lv_has ls 2 [(0, .ref (T (60 + 1))), (1, .int (iI x0))] := hl
  refine lv_iload_n hx hb dJ1_charAt_3b067_0 rfl (lv_at hl 1 rfl) ?_
  refine lv_aload_n hx hb dJ1_charAt_3b067_1 rfl (lv_at hl 0 rfl) ?_
  refine r_slen M w 1 rfl (z := 5) (by decide +kernel) dJ1_charAt_3b067_2 ?_
  refine k_V (ce := 0) (sl := 0) (rest := []) (wr := []) (r_S (f := 1) [] M w V_java_lang_StringLatin1_9 G1113 (c97_J0_checkIndex_df160 l D T _ x0 x0_a x0_b) rfl (by decide) rfl hl.1 rfl (Nat.le_of_ble_eq_true rfl) dJ1_charAt_3b067_3 (by decide) (by decide) (by decide) (by decide)) w [] [] rfl rfl (by decide) (by decide) rfl rfl (fun _ H locs hp w => ?_)
  have w : WD D A s.heap [] H locs := w
  refine lv_aload_n hx hb dJ1_charAt_3b067_6 rfl (lv_at hl 0 rfl) ?_
  refine lv_iload_n hx hb dJ1_charAt_3b067_7 rfl (lv_at hl 1 rfl) ?_
  refine r_sbyt M w 1 rfl (iI_in (by omega) (by omega) (by decide)) dJ1_charAt_3b067_8 (fun fr1 => ?_)
  refine b_any (fun z2 z2_a z2_b => ?_)
  refine lv_sipush (v := iI 255) hx hb dJ1_charAt_3b067_9 (by decide +kernel) ?_
  refine r_iand (v := _) M rfl dJ1_charAt_3b067_12 ?_
  refine b_rng (lo := 0) (hi := 255) (iand_r (by omega) (by omega)) (fun z3 z3_a z3_b => ?_)
  refine lv_i2c (v := _) hx hb dJ1_charAt_3b067_13 rfl ?_
  refine b_rng (lo := 0) (hi := 65535) (i2c_r _) (fun z4 z4_a z4_b => ?_)
  exact ret _ z4 _ _ _ _ _ [] dJ1_charAt_3b067_14 (nc_n (by omega) (by omega)) ⟨rfl, z4_a, z4_b⟩ w (by decide) rfl
set_option maxRecDepth 100000 in
set_option maxHeartbeats 4000000 in
theorem c111_J0_charAt_5068e (l : Launch) (D : va_G) (T : Nat → ClassId) (sz : Nat) (x0 : Int) (x0_a : 0 ≤ x0) (x0_b : x0 ≤ 4) : Met l yJ0_charAt_5068e (Cond.code yJ0_charAt_5068e cJ0_charAt_5068e 2 (some .char) :: GW) (Rm 3 0 0) (cPre [.ref (T (50 + 1)), .int (iI x0)] D T [] sz) (qI D [] sz (fun (v : Int32) (u : Int) => iI u = v ∧ 0 ≤ u ∧ u ≤ 65535) (fun u => [])) 0 0 (va_A [] sz) := by
  refine e_C (by decide) (Nat.le_of_ble_eq_true rfl) ?_
  intro p e s m args below meth c A Q ls M hin w ret hl
  have hx := M.1.1
  have hb := M.1.2.1
  have hl : lv_has ls 2 [(0, .ref (T (50 + 1))), (1, .int (iI x0))] := hl
  refine lv_aload_n hx hb dJ0_charAt_5068e_0 rfl (lv_at hl 0 rfl) ?_
  refine k_I (ce := 0) (sl := 0) (rest := []) (wr := []) (r_VT (f := 0) [] M w V_java_lang_String_492 G618 G619 (c109_J0_isLatin1_aae02 l D T _) (M.2.2.2.2.2.2.1.2 1 _ rfl).1 rfl (by decide) rfl hl.1 rfl (Nat.le_of_ble_eq_true rfl) dJ0_charAt_5068e_1 (by decide) (by decide) (by decide) (by decide)) w [] [] rfl rfl (by decide) (by decide) rfl rfl (fun v z1 H locs hp w => ?_)
  have hv : iI z1 = v := hp.1
  subst hv
  have z1_a : 0 ≤ z1 := hp.2.1
  have z1_b : z1 ≤ 1 := hp.2.2.1
  have w : WD D A s.heap [] H locs := w
  rcases hp.2.2.2 with hr
  · subst hr
    refine lv_if_eq (tgt := 16) hx hb dJ0_charAt_5068e_4 (by decide) (fun c => absurd c (by decide +kernel)) (fun _ => ?_)
    refine lv_aload_n hx hb dJ0_charAt_5068e_7 rfl (lv_at hl 0 rfl) ?_
    refine r_sval M w 1 rfl G2086 dJ0_charAt_5068e_8 ?_
    refine lv_iload_n hx hb dJ0_charAt_5068e_11 rfl (lv_at hl 1 rfl) ?_
    refine k_I (ce := 0) (sl := 0) (rest := []) (wr := []) (r_S (f := 2) [] M w V_java_lang_String_495 G1110 (c110_J1_charAt_3b067 l D T _ x0 x0_a x0_b) rfl (by decide) rfl hl.1 rfl (Nat.le_of_ble_eq_true rfl) dJ0_charAt_5068e_12 (by decide) (by decide) (by decide) (by decide)) w [] [] rfl rfl (by decide) (by decide) rfl rfl (fun v z2 H locs hp w => ?_)
    have hv : iI z2 = v := hp.1
    subst hv
    have z2_a : 0 ≤ z2 := hp.2.1
    have z2_b : z2 ≤ 65535 := hp.2.2
    have w : WD D A s.heap [] H locs := w
    exact ret _ z2 _ _ _ _ _ [] dJ0_charAt_5068e_15 (nc_n (by omega) (by omega)) ⟨rfl, z2_a, z2_b⟩ w (by decide) rfl
set_option maxRecDepth 100000 in
set_option maxHeartbeats 4000000 in
theorem c112_X2_putText (l : Launch) (D : va_G) (T : Nat → ClassId) (sz : Nat) (a0 : Nat) (a1 : Nat) (x0 : Int) (f0 : Nat → Int32) (x0_a : 0 ≤ x0) (x0_b : x0 ≤ 23) : Met l yX2_putText (Cond.code yX2_putText cX2_putText 3 none :: GW) (Rm 4 0 0) (cPre [.ref a0, .ref (T (50 + 1))] D T [(a0, .inr (2, [.ref a1, .int (iI x0)])), (a1, .inl (T 0, 23, .inl f0))] sz) (qV D [(a0, .inr (2, [.ref a1, .int (iI x0)])), (a1, .inl (T 0, 23, .inl f0))] sz (fun (u : Int × (Nat → Int32)) => 0 ≤ u.1 ∧ u.1 ≤ 23) (fun u => [(a0, .inr (2, [.ref a1, .int (iI u.1)])), (a1, .inl (T 0, 23, .inl u.2))])) 0 0 (va_A [(a0, .inr (2, [.ref a1, .int (iI x0)])), (a1, .inl (T 0, 23, .inl f0))] sz) := by
  refine e_V (by decide) (Nat.le_of_ble_eq_true rfl) ?_
  intro p e s m args below meth c A Q ls M hin w ret hl
  have hx := M.1.1
  have hb := M.1.2.1
  have hl : lv_has ls 3 [(0, .ref a0), (1, .ref (T (50 + 1)))] := hl
  refine lv_iconst (v := iI 0) hx hb dX2_putText_0 (by decide +kernel) ?_
  refine lv_istore_n (lv' := [(2, .int (iI 0)), (0, .ref a0), (1, .ref (T (50 + 1)))]) hx hb dX2_putText_1 rfl hl (by decide) rfl (fun ls hl => ?_)
  have loop1 : ∀ (k1 : Nat) (z1 : Int) (ff2 : Nat → Int32) (z3 : Int) (H : Heap) (locs : List Loc) (ls : Array Slot), 0 ≤ z1 → z1 ≤ 23 → 0 ≤ z3 → z3 ≤ 6 → ((6 - z3) : Int).toNat < k1 → WD D A s.heap [(a0, .inr (2, [.ref a1, .int (iI z1)])), (a1, .inl (T 0, 23, .inl ff2))] H locs → lv_has ls 3 [(2, .int (iI z3)), (0, .ref a0), (1, .ref (T (50 + 1)))] → W p l e (Rm 4 0 0) s m args below meth c H locs 0 0 Q (F0 m 2 ls []) := by
    intro k1
    induction k1 with
    | zero => intro z1 ff2 z3 H locs ls z1_a z1_b z3_a z3_b hm; exact absurd hm (Nat.not_lt_zero _)
    | succ k1 ih1 =>
      intro z1 ff2 z3 H locs ls z1_a z1_b z3_a z3_b hm1 w hl
      refine lv_iload_n hx hb dX2_putText_2 rfl (lv_at hl 0 rfl) ?_
      refine lv_aload_n hx hb dX2_putText_3 rfl (lv_at hl 2 rfl) ?_
      refine k_I (ce := 0) (sl := 0) (rest := [.int (iI z3)]) (wr := [(a0, .inr (2, [.ref a1, .int (iI z1)])), (a1, .inl (T 0, 23, .inl ff2))]) (r_VT (f := 1) [] M w V_HookedCity_Label_62 G624 G625 (c108_J0_length_8abf5 l D T _) (M.2.2.2.2.2.2.1.2 1 _ rfl).1 rfl (by decide) rfl hl.1 rfl (Nat.le_of_ble_eq_true rfl) dX2_putText_4 (by decide) (by decide) (by decide) (by decide)) w [] [0, 1] rfl rfl (by decide) (by decide) rfl rfl (fun v z4 H locs hp w => ?_)
      have hv : iI z4 = v := hp.1
      subst hv
      have z4_a : (-2147483648) ≤ z4 := hp.2.1
      have z4_b : z4 ≤ 2147483647 := hp.2.2.1
      have w : WD D A s.heap [(a0, .inr (2, [.ref a1, .int (iI z1)])), (a1, .inl (T 0, 23, .inl ff2))] H locs := w
      rcases hp.2.2.2 with hr
      · subst hr
        refine lv_icmp_ge (tgt := 25) hx hb dX2_putText_7 (by decide) (fun c_5 => ?_) (fun c_5 => ?_)
        · replace c_5 := (iI_le (by decide) (by decide) (Int.le_trans (by decide) z3_a) (Int.le_trans z3_b (by decide))).mp c_5
          exact ret (z1, ff2) _ _ _ _ _ [0, 1] dX2_putText_25 ⟨z1_a, z1_b⟩ w (by decide) rfl
        · replace c_5 : z3 < 5 := Int.not_le.mp (fun h => c_5 ((iI_le (by decide) (by decide) (Int.le_trans (by decide) z3_a) (Int.le_trans z3_b (by decide))).mpr h))
          refine lv_aload_n hx hb dX2_putText_10 rfl (lv_at hl 1 rfl) ?_
          refine lv_aload_n hx hb dX2_putText_11 rfl (lv_at hl 2 rfl) ?_
          refine lv_iload_n hx hb dX2_putText_12 rfl (lv_at hl 0 rfl) ?_
          refine k_I (ce := 0) (sl := 0) (rest := [.ref a0]) (wr := [(a0, .inr (2, [.ref a1, .int (iI z1)])), (a1, .inl (T 0, 23, .inl ff2))]) (r_VT (f := 3) [] M w V_HookedCity_Label_67 G1106 G1107 (c111_J0_charAt_5068e l D T _ z3 (by omega) (by omega)) (M.2.2.2.2.2.2.1.2 1 _ rfl).1 rfl (by decide) rfl hl.1 rfl (Nat.le_of_ble_eq_true rfl) dX2_putText_13 (by decide) (by decide) (by decide) (by decide)) w [] [0, 1] rfl rfl (by decide) (by decide) rfl rfl (fun v z6 H locs hp w => ?_)
          have hv : iI z6 = v := hp.1
          subst hv
          have z6_a : 0 ≤ z6 := hp.2.1
          have z6_b : z6 ≤ 65535 := hp.2.2
          have w : WD D A s.heap [(a0, .inr (2, [.ref a1, .int (iI z1)])), (a1, .inl (T 0, 23, .inl ff2))] H locs := w
          refine k_V (ce := 0) (sl := 0) (rest := []) (wr := []) (r_V (f := 0) [0, 1] M w V_HookedCity_Label_58 G1097 G27 (c81_X2_put l D T _ a0 z6 a1 z1 ff2 (by omega) (by omega) z1_a z1_b) 0 clX2 rfl rfl (by decide) rfl hl.1 rfl (Nat.le_of_ble_eq_true rfl) dX2_putText_16 (by decide) (by decide) (by decide) (by decide)) w [0, 1] [] rfl rfl (by decide) (by decide) rfl rfl (fun u H locs hp w => ?_)
          obtain ⟨z7, ff8⟩ := u
          have z7_a : 0 ≤ z7 := hp.1
          have z7_b : z7 ≤ 23 := hp.2
          have w : WD D A s.heap [(a0, .inr (2, [.ref a1, .int (iI z7)])), (a1, .inl (T 0, 23, .inl ff8))] H locs := w
          refine lv_iinc (v := iI (z3 + 1)) (lv' := [(2, .int (iI (z3 + 1))), (0, .ref a0), (1, .ref (T (50 + 1)))]) hx hb dX2_putText_19 hl (k := 0) rfl (ii_inc (by decide +kernel)) (by decide) rfl (fun ls hl => ?_)
          refine lv_goto (tgt := 2) hx hb dX2_putText_22 (by decide) ?_
          exact ih1 z7 ff8 (z3 + 1) _ _ _ z7_a z7_b (by omega) (by omega) (by omega) w (lv_sub hl [0, 1, 2] rfl)
  exact loop1 ((6 : Int).toNat + 1) x0 f0 0 _ _ _ x0_a x0_b (by decide) (by decide) (Nat.lt_succ_self _) w (lv_sub hl [0, 1, 2] rfl)
set_option maxRecDepth 100000 in
set_option maxHeartbeats 4000000 in
theorem c113_X2_write (l : Launch) (D : va_G) (T : Nat → ClassId) (sz : Nat) (a0 : Nat) (a1 : Nat) (a2 : Nat) (x0 : Int) (a3 : Nat) (x1 : Int) (a4 : Nat) (a5 : Nat) (a6 : Nat) (a7 : Nat) (a8 : Nat) (a9 : Nat) (a10 : Nat) (a11 : Nat) (a12 : Nat) (x2 : Int) (x3 : Int) (x4 : Int) (r0 : Int32) (x5 : Int) (r1 : Int32) (r2 : Int32) (r3 : Int32) (r4 : Int32) (a13 : Nat) (a14 : Nat) (a15 : Nat) (a16 : Nat) (r5 : Int32) (r6 : Int32) (r7 : Int32) (r8 : Int32) (f0 : Nat → Int32) (h0 : Nat → Int64) (f1 : Nat → Int32) (f2 : Int → Int) (f3 : Int → Int) (x0_a : 0 ≤ x0) (x0_b : x0 ≤ 8) (x1_a : 0 ≤ x1) (x1_b : x1 ≤ 23) (x2_a : 0 ≤ x2) (x2_b : x2 ≤ 9) (x3_a : 0 ≤ x3) (x3_b : x3 ≤ 3) (x4_a : (-2147483648) ≤ x4) (x4_b : x4 ≤ 2147483647) (x5_a : (-2147483648) ≤ x5) (x5_b : x5 ≤ 2147483647) (f2_h : rng (-1) 8 f2) (f3_h : rng (-1) 8 f3) : Met l yX2_write (Cond.code yX2_write cX2_write 5 (some .int) :: GW) (Rm 5 0 0) (cPre [.ref a0, .ref a1, .ref a2, .int (iI x0)] D T [(a0, .inr (2, [.ref a3, .int (iI x1)])), (a1, .inr (9, [.ref a4, .ref a5, .ref a6, .ref a7, .ref a8, .ref a9, .ref a10, .ref a11, .ref a12, .int (iI x2), .int (iI x3), .int (iI x4), .int r0, .int (iI x5), .int r1, .int r2, .int r3, .int r4])), (a2, .inr (7, [.ref a13, .ref a14, .ref a15, .ref a16, .int r5, .int r6, .int r7, .int r8])), (a3, .inl (T 0, 23, .inl f0)), (a4, .inl (T 1, 9, .inr (.inl h0))), (a13, .inl (T 0, 9, .inl f1)), (a14, .inl (T 0, 9, .inl (cI f2))), (a15, .inl (T 0, 9, .inl (cI f3)))] sz) (qI D [(a0, .inr (2, [.ref a3, .int (iI x1)])), (a1, .inr (9, [.ref a4, .ref a5, .ref a6, .ref a7, .ref a8, .ref a9, .ref a10, .ref a11, .ref a12, .int (iI x2), .int (iI x3), .int (iI x4), .int r0, .int (iI x5), .int r1, .int r2, .int r3, .int r4])), (a2, .inr (7, [.ref a13, .ref a14, .ref a15, .ref a16, .int r5, .int r6, .int r7, .int r8])), (a3, .inl (T 0, 23, .inl f0)), (a4, .inl (T 1, 9, .inr (.inl h0))), (a13, .inl (T 0, 9, .inl f1)), (a14, .inl (T 0, 9, .inl (cI f2))), (a15, .inl (T 0, 9, .inl (cI f3)))] sz (fun (v : Int32) (u : Int × Int × (Nat → Int32)) => iI u.1 = v ∧ (-2147483648) ≤ u.1 ∧ u.1 ≤ 2147483647 ∧ 0 ≤ u.2.1 ∧ u.2.1 ≤ 23) (fun u => [(a0, .inr (2, [.ref a3, .int (iI u.2.1)])), (a1, .inr (9, [.ref a4, .ref a5, .ref a6, .ref a7, .ref a8, .ref a9, .ref a10, .ref a11, .ref a12, .int (iI x2), .int (iI x3), .int (iI x4), .int r0, .int (iI x5), .int r1, .int r2, .int r3, .int r4])), (a2, .inr (7, [.ref a13, .ref a14, .ref a15, .ref a16, .int r5, .int r6, .int r7, .int r8])), (a3, .inl (T 0, 23, .inl u.2.2)), (a4, .inl (T 1, 9, .inr (.inl h0))), (a13, .inl (T 0, 9, .inl f1)), (a14, .inl (T 0, 9, .inl (cI f2))), (a15, .inl (T 0, 9, .inl (cI f3)))])) 0 0 (va_A [(a0, .inr (2, [.ref a3, .int (iI x1)])), (a1, .inr (9, [.ref a4, .ref a5, .ref a6, .ref a7, .ref a8, .ref a9, .ref a10, .ref a11, .ref a12, .int (iI x2), .int (iI x3), .int (iI x4), .int r0, .int (iI x5), .int r1, .int r2, .int r3, .int r4])), (a2, .inr (7, [.ref a13, .ref a14, .ref a15, .ref a16, .int r5, .int r6, .int r7, .int r8])), (a3, .inl (T 0, 23, .inl f0)), (a4, .inl (T 1, 9, .inr (.inl h0))), (a13, .inl (T 0, 9, .inl f1)), (a14, .inl (T 0, 9, .inl (cI f2))), (a15, .inl (T 0, 9, .inl (cI f3)))] sz) := by
  refine e_I (by decide) (Nat.le_of_ble_eq_true rfl) ?_
  intro p e s m args below meth c A Q ls M hin w ret hl
  have hx := M.1.1
  have hb := M.1.2.1
  have hl : lv_has ls 5 [(0, .ref a0), (1, .ref a1), (2, .ref a2), (3, .int (iI x0))] := hl
  refine lv_aload_n hx hb dX2_write_0 rfl (lv_at hl 0 rfl) ?_
  refine lv_iconst (v := iI 0) hx hb dX2_write_1 (by decide +kernel) ?_
  refine r_put (ws' := [(a0, .inr (2, [.ref a3, .int (iI 0)])), (a1, .inr (9, [.ref a4, .ref a5, .ref a6, .ref a7, .ref a8, .ref a9, .ref a10, .ref a11, .ref a12, .int (iI x2), .int (iI x3), .int (iI x4), .int r0, .int (iI x5), .int r1, .int r2, .int r3, .int r4])), (a2, .inr (7, [.ref a13, .ref a14, .ref a15, .ref a16, .int r5, .int r6, .int r7, .int r8])), (a3, .inl (T 0, 23, .inl f0)), (a4, .inl (T 1, 9, .inr (.inl h0))), (a13, .inl (T 0, 9, .inl f1)), (a14, .inl (T 0, 9, .inl (cI f2))), (a15, .inl (T 0, 9, .inl (cI f3)))]) M w 0 1 clX2 rfl (by decide) G350 rfl rfl rfl rfl (Nat.le_of_ble_eq_true rfl) rfl dX2_write_2 (fun H locs w => ?_)
  refine lv_aload_n hx hb dX2_write_5 rfl (lv_at hl 0 rfl) ?_
  refine lv_aload_n hx hb dX2_write_6 rfl (lv_at hl 1 rfl) ?_
  refine r_getN (v := .ref a4) M w 1 0 clX9 rfl (by decide) N367 rfl rfl dX2_write_7 ?_
  refine lv_iload_n hx hb dX2_write_10 rfl (lv_at hl 3 rfl) ?_
  refine r_lald (v := _) M w 4 rfl (iI_in (by omega) (by omega) (by decide)) rfl dX2_write_11 ?_
  refine b_anyl (fun fy1 => ?_)
  refine k_V (ce := 0) (sl := 0) (rest := []) (wr := [(a1, .inr (9, [.ref a4, .ref a5, .ref a6, .ref a7, .ref a8, .ref a9, .ref a10, .ref a11, .ref a12, .int (iI x2), .int (iI x3), .int (iI x4), .int r0, .int (iI x5), .int r1, .int r2, .int r3, .int r4])), (a2, .inr (7, [.ref a13, .ref a14, .ref a15, .ref a16, .int r5, .int r6, .int r7, .int r8])), (a4, .inl (T 1, 9, .inr (.inl h0))), (a13, .inl (T 0, 9, .inl f1)), (a14, .inl (T 0, 9, .inl (cI f2))), (a15, .inl (T 0, 9, .inl (cI f3)))]) (r_V (f := 1) [0, 3] M w V_HookedCity_Label_25 G1090 G26 (c82_X2_putName l D T _ a0 fy1 a3 0 f0 (by decide) (by decide)) 0 clX2 rfl rfl (by decide) rfl hl.1 rfl (Nat.le_of_ble_eq_true rfl) dX2_write_12 (by decide) (by decide) (by decide) (by decide)) w [0, 3] [1, 2, 4, 5, 6, 7] rfl rfl (by decide) (by decide) rfl rfl (fun u H locs hp w => ?_)
  obtain ⟨z2, ff3⟩ := u
  have z2_a : 0 ≤ z2 := hp.1
  have z2_b : z2 ≤ 23 := hp.2
  have w : WD D A s.heap [(a1, .inr (9, [.ref a4, .ref a5, .ref a6, .ref a7, .ref a8, .ref a9, .ref a10, .ref a11, .ref a12, .int (iI x2), .int (iI x3), .int (iI x4), .int r0, .int (iI x5), .int r1, .int r2, .int r3, .int r4])), (a2, .inr (7, [.ref a13, .ref a14, .ref a15, .ref a16, .int r5, .int r6, .int r7, .int r8])), (a4, .inl (T 1, 9, .inr (.inl h0))), (a13, .inl (T 0, 9, .inl f1)), (a14, .inl (T 0, 9, .inl (cI f2))), (a15, .inl (T 0, 9, .inl (cI f3))), (a0, .inr (2, [.ref a3, .int (iI z2)])), (a3, .inl (T 0, 23, .inl ff3))] H locs := w
  refine lv_aload_n hx hb dX2_write_15 rfl (lv_at hl 2 rfl) ?_
  refine r_getN (v := .ref a14) M w 1 1 clX7 rfl (by decide) N221 rfl rfl dX2_write_16 ?_
  refine lv_iload_n hx hb dX2_write_19 rfl (lv_at hl 3 rfl) ?_
  refine r_iald (v := iI (f2 x0)) M w 4 rfl (iI_in (by omega) (by omega) (by decide)) (cI_at (by omega) (by omega)) dX2_write_20 ?_
  have hh4 : (-1) ≤ (f2 x0) ∧ (f2 x0) ≤ 8 := f2_h x0
  refine lv_istore (lv' := [(4, .int (iI (f2 x0))), (0, .ref a0), (1, .ref a1), (2, .ref a2), (3, .int (iI x0))]) hx hb dX2_write_21 hl (by decide) rfl (fun ls hl => ?_)
  refine lv_iload hx hb dX2_write_23 (lv_at hl 0 rfl) ?_
  refine lv_iconst (v := iI (-1)) hx hb dX2_write_25 (by decide +kernel) ?_
  refine lv_icmp_ne (tgt := 38) hx hb dX2_write_26 (by decide) (fun c_5 => ?_) (fun c_5 => ?_)
  · replace c_5 : ¬ (f2 x0) = (-1) := fun h => c_5 ((iI_eq (by omega) (by omega) (by decide) (by decide)).mpr h)
    refine lv_aload_n hx hb dX2_write_38 rfl (lv_at hl 1 rfl) ?_
    refine r_ldcS M 2 rfl dX2_write_39 ?_
    refine k_V (ce := 0) (sl := 0) (rest := []) (wr := [(a1, .inr (9, [.ref a4, .ref a5, .ref a6, .ref a7, .ref a8, .ref a9, .ref a10, .ref a11, .ref a12, .int (iI x2), .int (iI x3), .int (iI x4), .int r0, .int (iI x5), .int r1, .int r2, .int r3, .int r4])), (a2, .inr (7, [.ref a13, .ref a14, .ref a15, .ref a16, .int r5, .int r6, .int r7, .int r8])), (a4, .inl (T 1, 9, .inr (.inl h0))), (a13, .inl (T 0, 9, .inl f1)), (a14, .inl (T 0, 9, .inl (cI f2))), (a15, .inl (T 0, 9, .inl (cI f3)))]) (r_V (f := 4) [6, 7] M w V_HookedCity_Label_36 G1102 G28 (c91_X2_putText l D T _ a0 a3 z2 ff3 z2_a z2_b) 6 clX2 rfl rfl (by decide) rfl hl.1 rfl (Nat.le_of_ble_eq_true rfl) dX2_write_41 (by decide) (by decide) (by decide) (by decide)) w [6, 7] [0, 1, 2, 3, 4, 5] rfl rfl (by decide) (by decide) rfl rfl (fun u H locs hp w => ?_)
    obtain ⟨z6, ff7⟩ := u
    have z6_a : 0 ≤ z6 := hp.1
    have z6_b : z6 ≤ 23 := hp.2
    have w : WD D A s.heap [(a1, .inr (9, [.ref a4, .ref a5, .ref a6, .ref a7, .ref a8, .ref a9, .ref a10, .ref a11, .ref a12, .int (iI x2), .int (iI x3), .int (iI x4), .int r0, .int (iI x5), .int r1, .int r2, .int r3, .int r4])), (a2, .inr (7, [.ref a13, .ref a14, .ref a15, .ref a16, .int r5, .int r6, .int r7, .int r8])), (a4, .inl (T 1, 9, .inr (.inl h0))), (a13, .inl (T 0, 9, .inl f1)), (a14, .inl (T 0, 9, .inl (cI f2))), (a15, .inl (T 0, 9, .inl (cI f3))), (a0, .inr (2, [.ref a3, .int (iI z6)])), (a3, .inl (T 0, 23, .inl ff7))] H locs := w
    refine lv_aload_n hx hb dX2_write_44 rfl (lv_at hl 1 rfl) ?_
    refine lv_aload_n hx hb dX2_write_45 rfl (lv_at hl 2 rfl) ?_
    refine r_getN (v := .ref a4) M w 0 0 clX9 rfl (by decide) N367 rfl rfl dX2_write_46 ?_
    refine lv_iload hx hb dX2_write_49 (lv_at hl 0 rfl) ?_
    refine r_lald (v := _) M w 2 rfl (iI_in (by omega) (by omega) (by decide)) rfl dX2_write_51 ?_
    refine b_anyl (fun fy8 => ?_)
    refine k_V (ce := 0) (sl := 0) (rest := []) (wr := [(a1, .inr (9, [.ref a4, .ref a5, .ref a6, .ref a7, .ref a8, .ref a9, .ref a10, .ref a11, .ref a12, .int (iI x2), .int (iI x3), .int (iI x4), .int r0, .int (iI x5), .int r1, .int r2, .int r3, .int r4])), (a2, .inr (7, [.ref a13, .ref a14, .ref a15, .ref a16, .int r5, .int r6, .int r7, .int r8])), (a4, .inl (T 1, 9, .inr (.inl h0))), (a13, .inl (T 0, 9, .inl f1)), (a14, .inl (T 0, 9, .inl (cI f2))), (a15, .inl (T 0, 9, .inl (cI f3)))]) (r_V (f := 1) [6, 7] M w V_HookedCity_Label_25 G1090 G26 (c82_X2_putName l D T _ a0 fy8 a3 z6 ff7 z6_a z6_b) 6 clX2 rfl rfl (by decide) rfl hl.1 rfl (Nat.le_of_ble_eq_true rfl) dX2_write_52 (by decide) (by decide) (by decide) (by decide)) w [6, 7] [0, 1, 2, 3, 4, 5] rfl rfl (by decide) (by decide) rfl rfl (fun u H locs hp w => ?_)
    obtain ⟨z9, ff10⟩ := u
    have z9_a : 0 ≤ z9 := hp.1
    have z9_b : z9 ≤ 23 := hp.2
    have w : WD D A s.heap [(a1, .inr (9, [.ref a4, .ref a5, .ref a6, .ref a7, .ref a8, .ref a9, .ref a10, .ref a11, .ref a12, .int (iI x2), .int (iI x3), .int (iI x4), .int r0, .int (iI x5), .int r1, .int r2, .int r3, .int r4])), (a2, .inr (7, [.ref a13, .ref a14, .ref a15, .ref a16, .int r5, .int r6, .int r7, .int r8])), (a4, .inl (T 1, 9, .inr (.inl h0))), (a13, .inl (T 0, 9, .inl f1)), (a14, .inl (T 0, 9, .inl (cI f2))), (a15, .inl (T 0, 9, .inl (cI f3))), (a0, .inr (2, [.ref a3, .int (iI z9)])), (a3, .inl (T 0, 23, .inl ff10))] H locs := w
    refine lv_aload_n hx hb dX2_write_55 rfl (lv_at hl 3 rfl) ?_
    refine r_getN (v := .ref a13) M w 1 0 clX7 rfl (by decide) N216 rfl rfl dX2_write_56 ?_
    refine lv_iload_n hx hb dX2_write_59 rfl (lv_at hl 4 rfl) ?_
    refine r_iald (v := _) M w 3 rfl (iI_in (by omega) (by omega) (by decide)) rfl dX2_write_60 ?_
    refine b_any (fun z11 z11_a z11_b => ?_)
    refine lv_if_ne (tgt := 73) hx hb dX2_write_61 (by decide) (fun c_12 => ?_) (fun c_12 => ?_)
    · replace c_12 : ¬ z11 = 0 := fun h => c_12 ((iz_eq (Int.le_trans (by decide) z11_a) (Int.le_trans z11_b (by decide))).mpr h)
      refine lv_aload_n hx hb dX2_write_73 rfl (lv_at hl 3 rfl) ?_
      refine r_getN (v := .ref a15) M w 1 2 clX7 rfl (by decide) N225 rfl rfl dX2_write_74 ?_
      refine lv_iload_n hx hb dX2_write_77 rfl (lv_at hl 4 rfl) ?_
      refine r_iald (v := iI (f3 x0)) M w 5 rfl (iI_in (by omega) (by omega) (by decide)) (cI_at (by omega) (by omega)) dX2_write_78 ?_
      have hh13 : (-1) ≤ (f3 x0) ∧ (f3 x0) ≤ 8 := f3_h x0
      refine lv_iconst (v := iI (-1)) hx hb dX2_write_79 (by decide +kernel) ?_
      refine lv_icmp_ne (tgt := 89) hx hb dX2_write_80 (by decide) (fun c_14 => ?_) (fun c_14 => ?_)
      · replace c_14 : ¬ (f3 x0) = (-1) := fun h => c_14 ((iI_eq (by omega) (by omega) (by decide) (by decide)).mpr h)
        refine lv_aload_n hx hb dX2_write_89 rfl (lv_at hl 1 rfl) ?_
        refine r_get (v := .int (iI z9)) M w 6 1 clX2 rfl (by decide) G350 rfl rfl dX2_write_90 ?_
        exact ret _ (z9, z9, ff10) _ _ _ _ _ [6, 0, 1, 7, 2, 3, 4, 5] dX2_write_93 ⟨rfl, (show (-2147483648) ≤ z9 from by omega), (show z9 ≤ 2147483647 from by omega), z9_a, z9_b⟩ w (by decide) rfl
      · replace c_14 := (iI_eq (by omega) (by omega) (by decide) (by decide)).mp c_14
        refine lv_aload_n hx hb dX2_write_83 rfl (lv_at hl 1 rfl) ?_
        refine r_ldcS M 4 rfl dX2_write_84 ?_
        refine k_V (ce := 0) (sl := 0) (rest := []) (wr := [(a1, .inr (9, [.ref a4, .ref a5, .ref a6, .ref a7, .ref a8, .ref a9, .ref a10, .ref a11, .ref a12, .int (iI x2), .int (iI x3), .int (iI x4), .int r0, .int (iI x5), .int r1, .int r2, .int r3, .int r4])), (a2, .inr (7, [.ref a13, .ref a14, .ref a15, .ref a16, .int r5, .int r6, .int r7, .int r8])), (a4, .inl (T 1, 9, .inr (.inl h0))), (a13, .inl (T 0, 9, .inl f1)), (a14, .inl (T 0, 9, .inl (cI f2))), (a15, .inl (T 0, 9, .inl (cI f3)))]) (r_V (f := 4) [6, 7] M w V_HookedCity_Label_36 G1102 G28 (c100_X2_putText l D T _ a0 a3 z9 ff10 z9_a z9_b) 6 clX2 rfl rfl (by decide) rfl hl.1 rfl (Nat.le_of_ble_eq_true rfl) dX2_write_86 (by decide) (by decide) (by decide) (by decide)) w [6, 7] [0, 1, 2, 3, 4, 5] rfl rfl (by decide) (by decide) rfl rfl (fun u H locs hp w => ?_)
        obtain ⟨z15, ff16⟩ := u
        have z15_a : 0 ≤ z15 := hp.1
        have z15_b : z15 ≤ 23 := hp.2
        have w : WD D A s.heap [(a1, .inr (9, [.ref a4, .ref a5, .ref a6, .ref a7, .ref a8, .ref a9, .ref a10, .ref a11, .ref a12, .int (iI x2), .int (iI x3), .int (iI x4), .int r0, .int (iI x5), .int r1, .int r2, .int r3, .int r4])), (a2, .inr (7, [.ref a13, .ref a14, .ref a15, .ref a16, .int r5, .int r6, .int r7, .int r8])), (a4, .inl (T 1, 9, .inr (.inl h0))), (a13, .inl (T 0, 9, .inl f1)), (a14, .inl (T 0, 9, .inl (cI f2))), (a15, .inl (T 0, 9, .inl (cI f3))), (a0, .inr (2, [.ref a3, .int (iI z15)])), (a3, .inl (T 0, 23, .inl ff16))] H locs := w
        refine lv_aload_n hx hb dX2_write_89 rfl (lv_at hl 1 rfl) ?_
        refine r_get (v := .int (iI z15)) M w 6 1 clX2 rfl (by decide) G350 rfl rfl dX2_write_90 ?_
        exact ret _ (z15, z15, ff16) _ _ _ _ _ [6, 0, 1, 7, 2, 3, 4, 5] dX2_write_93 ⟨rfl, (show (-2147483648) ≤ z15 from by omega), (show z15 ≤ 2147483647 from by omega), z15_a, z15_b⟩ w (by decide) rfl
    · replace c_12 := (iz_eq (Int.le_trans (by decide) z11_a) (Int.le_trans z11_b (by decide))).mp c_12
      refine lv_aload_n hx hb dX2_write_64 rfl (lv_at hl 1 rfl) ?_
      refine r_ldcS M 3 rfl dX2_write_65 ?_
      refine k_V (ce := 0) (sl := 0) (rest := []) (wr := [(a1, .inr (9, [.ref a4, .ref a5, .ref a6, .ref a7, .ref a8, .ref a9, .ref a10, .ref a11, .ref a12, .int (iI x2), .int (iI x3), .int (iI x4), .int r0, .int (iI x5), .int r1, .int r2, .int r3, .int r4])), (a2, .inr (7, [.ref a13, .ref a14, .ref a15, .ref a16, .int r5, .int r6, .int r7, .int r8])), (a4, .inl (T 1, 9, .inr (.inl h0))), (a13, .inl (T 0, 9, .inl f1)), (a14, .inl (T 0, 9, .inl (cI f2))), (a15, .inl (T 0, 9, .inl (cI f3)))]) (r_V (f := 4) [6, 7] M w V_HookedCity_Label_36 G1102 G28 (c106_X2_putText l D T _ a0 a3 z9 ff10 z9_a z9_b) 6 clX2 rfl rfl (by decide) rfl hl.1 rfl (Nat.le_of_ble_eq_true rfl) dX2_write_67 (by decide) (by decide) (by decide) (by decide)) w [6, 7] [0, 1, 2, 3, 4, 5] rfl rfl (by decide) (by decide) rfl rfl (fun u H locs hp w => ?_)
      obtain ⟨z17, ff18⟩ := u
      have z17_a : 0 ≤ z17 := hp.1
      have z17_b : z17 ≤ 23 := hp.2
      have w : WD D A s.heap [(a1, .inr (9, [.ref a4, .ref a5, .ref a6, .ref a7, .ref a8, .ref a9, .ref a10, .ref a11, .ref a12, .int (iI x2), .int (iI x3), .int (iI x4), .int r0, .int (iI x5), .int r1, .int r2, .int r3, .int r4])), (a2, .inr (7, [.ref a13, .ref a14, .ref a15, .ref a16, .int r5, .int r6, .int r7, .int r8])), (a4, .inl (T 1, 9, .inr (.inl h0))), (a13, .inl (T 0, 9, .inl f1)), (a14, .inl (T 0, 9, .inl (cI f2))), (a15, .inl (T 0, 9, .inl (cI f3))), (a0, .inr (2, [.ref a3, .int (iI z17)])), (a3, .inl (T 0, 23, .inl ff18))] H locs := w
      refine lv_goto (tgt := 89) hx hb dX2_write_70 (by decide) ?_
      refine lv_aload_n hx hb dX2_write_89 rfl (lv_at hl 1 rfl) ?_
      refine r_get (v := .int (iI z17)) M w 6 1 clX2 rfl (by decide) G350 rfl rfl dX2_write_90 ?_
      exact ret _ (z17, z17, ff18) _ _ _ _ _ [6, 0, 1, 7, 2, 3, 4, 5] dX2_write_93 ⟨rfl, (show (-2147483648) ≤ z17 from by omega), (show z17 ≤ 2147483647 from by omega), z17_a, z17_b⟩ w (by decide) rfl
  · replace c_5 := (iI_eq (by omega) (by omega) (by decide) (by decide)).mp c_5
    refine lv_aload_n hx hb dX2_write_29 rfl (lv_at hl 1 rfl) ?_
    refine r_ldcS M 1 rfl dX2_write_30 ?_
    refine k_V (ce := 0) (sl := 0) (rest := []) (wr := [(a1, .inr (9, [.ref a4, .ref a5, .ref a6, .ref a7, .ref a8, .ref a9, .ref a10, .ref a11, .ref a12, .int (iI x2), .int (iI x3), .int (iI x4), .int r0, .int (iI x5), .int r1, .int r2, .int r3, .int r4])), (a2, .inr (7, [.ref a13, .ref a14, .ref a15, .ref a16, .int r5, .int r6, .int r7, .int r8])), (a4, .inl (T 1, 9, .inr (.inl h0))), (a13, .inl (T 0, 9, .inl f1)), (a14, .inl (T 0, 9, .inl (cI f2))), (a15, .inl (T 0, 9, .inl (cI f3)))]) (r_V (f := 4) [6, 7] M w V_HookedCity_Label_36 G1102 G28 (c112_X2_putText l D T _ a0 a3 z2 ff3 z2_a z2_b) 6 clX2 rfl rfl (by decide) rfl hl.1 rfl (Nat.le_of_ble_eq_true rfl) dX2_write_32 (by decide) (by decide) (by decide) (by decide)) w [6, 7] [0, 1, 2, 3, 4, 5] rfl rfl (by decide) (by decide) rfl rfl (fun u H locs hp w => ?_)
    obtain ⟨z19, ff20⟩ := u
    have z19_a : 0 ≤ z19 := hp.1
    have z19_b : z19 ≤ 23 := hp.2
    have w : WD D A s.heap [(a1, .inr (9, [.ref a4, .ref a5, .ref a6, .ref a7, .ref a8, .ref a9, .ref a10, .ref a11, .ref a12, .int (iI x2), .int (iI x3), .int (iI x4), .int r0, .int (iI x5), .int r1, .int r2, .int r3, .int r4])), (a2, .inr (7, [.ref a13, .ref a14, .ref a15, .ref a16, .int r5, .int r6, .int r7, .int r8])), (a4, .inl (T 1, 9, .inr (.inl h0))), (a13, .inl (T 0, 9, .inl f1)), (a14, .inl (T 0, 9, .inl (cI f2))), (a15, .inl (T 0, 9, .inl (cI f3))), (a0, .inr (2, [.ref a3, .int (iI z19)])), (a3, .inl (T 0, 23, .inl ff20))] H locs := w
    refine lv_goto (tgt := 55) hx hb dX2_write_35 (by decide) ?_
    refine lv_aload_n hx hb dX2_write_55 rfl (lv_at hl 3 rfl) ?_
    refine r_getN (v := .ref a13) M w 1 0 clX7 rfl (by decide) N216 rfl rfl dX2_write_56 ?_
    refine lv_iload_n hx hb dX2_write_59 rfl (lv_at hl 4 rfl) ?_
    refine r_iald (v := _) M w 3 rfl (iI_in (by omega) (by omega) (by decide)) rfl dX2_write_60 ?_
    refine b_any (fun z21 z21_a z21_b => ?_)
    refine lv_if_ne (tgt := 73) hx hb dX2_write_61 (by decide) (fun c_22 => ?_) (fun c_22 => ?_)
    · replace c_22 : ¬ z21 = 0 := fun h => c_22 ((iz_eq (Int.le_trans (by decide) z21_a) (Int.le_trans z21_b (by decide))).mpr h)
      refine lv_aload_n hx hb dX2_write_73 rfl (lv_at hl 3 rfl) ?_
      refine r_getN (v := .ref a15) M w 1 2 clX7 rfl (by decide) N225 rfl rfl dX2_write_74 ?_
      refine lv_iload_n hx hb dX2_write_77 rfl (lv_at hl 4 rfl) ?_
      refine r_iald (v := iI (f3 x0)) M w 5 rfl (iI_in (by omega) (by omega) (by decide)) (cI_at (by omega) (by omega)) dX2_write_78 ?_
      have hh23 : (-1) ≤ (f3 x0) ∧ (f3 x0) ≤ 8 := f3_h x0
      refine lv_iconst (v := iI (-1)) hx hb dX2_write_79 (by decide +kernel) ?_
      refine lv_icmp_ne (tgt := 89) hx hb dX2_write_80 (by decide) (fun c_24 => ?_) (fun c_24 => ?_)
      · replace c_24 : ¬ (f3 x0) = (-1) := fun h => c_24 ((iI_eq (by omega) (by omega) (by decide) (by decide)).mpr h)
        refine lv_aload_n hx hb dX2_write_89 rfl (lv_at hl 1 rfl) ?_
        refine r_get (v := .int (iI z19)) M w 6 1 clX2 rfl (by decide) G350 rfl rfl dX2_write_90 ?_
        exact ret _ (z19, z19, ff20) _ _ _ _ _ [6, 0, 1, 7, 2, 3, 4, 5] dX2_write_93 ⟨rfl, (show (-2147483648) ≤ z19 from by omega), (show z19 ≤ 2147483647 from by omega), z19_a, z19_b⟩ w (by decide) rfl
      · replace c_24 := (iI_eq (by omega) (by omega) (by decide) (by decide)).mp c_24
        refine lv_aload_n hx hb dX2_write_83 rfl (lv_at hl 1 rfl) ?_
        refine r_ldcS M 4 rfl dX2_write_84 ?_
        refine k_V (ce := 0) (sl := 0) (rest := []) (wr := [(a1, .inr (9, [.ref a4, .ref a5, .ref a6, .ref a7, .ref a8, .ref a9, .ref a10, .ref a11, .ref a12, .int (iI x2), .int (iI x3), .int (iI x4), .int r0, .int (iI x5), .int r1, .int r2, .int r3, .int r4])), (a2, .inr (7, [.ref a13, .ref a14, .ref a15, .ref a16, .int r5, .int r6, .int r7, .int r8])), (a4, .inl (T 1, 9, .inr (.inl h0))), (a13, .inl (T 0, 9, .inl f1)), (a14, .inl (T 0, 9, .inl (cI f2))), (a15, .inl (T 0, 9, .inl (cI f3)))]) (r_V (f := 4) [6, 7] M w V_HookedCity_Label_36 G1102 G28 (c100_X2_putText l D T _ a0 a3 z19 ff20 z19_a z19_b) 6 clX2 rfl rfl (by decide) rfl hl.1 rfl (Nat.le_of_ble_eq_true rfl) dX2_write_86 (by decide) (by decide) (by decide) (by decide)) w [6, 7] [0, 1, 2, 3, 4, 5] rfl rfl (by decide) (by decide) rfl rfl (fun u H locs hp w => ?_)
        obtain ⟨z25, ff26⟩ := u
        have z25_a : 0 ≤ z25 := hp.1
        have z25_b : z25 ≤ 23 := hp.2
        have w : WD D A s.heap [(a1, .inr (9, [.ref a4, .ref a5, .ref a6, .ref a7, .ref a8, .ref a9, .ref a10, .ref a11, .ref a12, .int (iI x2), .int (iI x3), .int (iI x4), .int r0, .int (iI x5), .int r1, .int r2, .int r3, .int r4])), (a2, .inr (7, [.ref a13, .ref a14, .ref a15, .ref a16, .int r5, .int r6, .int r7, .int r8])), (a4, .inl (T 1, 9, .inr (.inl h0))), (a13, .inl (T 0, 9, .inl f1)), (a14, .inl (T 0, 9, .inl (cI f2))), (a15, .inl (T 0, 9, .inl (cI f3))), (a0, .inr (2, [.ref a3, .int (iI z25)])), (a3, .inl (T 0, 23, .inl ff26))] H locs := w
        refine lv_aload_n hx hb dX2_write_89 rfl (lv_at hl 1 rfl) ?_
        refine r_get (v := .int (iI z25)) M w 6 1 clX2 rfl (by decide) G350 rfl rfl dX2_write_90 ?_
        exact ret _ (z25, z25, ff26) _ _ _ _ _ [6, 0, 1, 7, 2, 3, 4, 5] dX2_write_93 ⟨rfl, (show (-2147483648) ≤ z25 from by omega), (show z25 ≤ 2147483647 from by omega), z25_a, z25_b⟩ w (by decide) rfl
    · replace c_22 := (iz_eq (Int.le_trans (by decide) z21_a) (Int.le_trans z21_b (by decide))).mp c_22
      refine lv_aload_n hx hb dX2_write_64 rfl (lv_at hl 1 rfl) ?_
      refine r_ldcS M 3 rfl dX2_write_65 ?_
      refine k_V (ce := 0) (sl := 0) (rest := []) (wr := [(a1, .inr (9, [.ref a4, .ref a5, .ref a6, .ref a7, .ref a8, .ref a9, .ref a10, .ref a11, .ref a12, .int (iI x2), .int (iI x3), .int (iI x4), .int r0, .int (iI x5), .int r1, .int r2, .int r3, .int r4])), (a2, .inr (7, [.ref a13, .ref a14, .ref a15, .ref a16, .int r5, .int r6, .int r7, .int r8])), (a4, .inl (T 1, 9, .inr (.inl h0))), (a13, .inl (T 0, 9, .inl f1)), (a14, .inl (T 0, 9, .inl (cI f2))), (a15, .inl (T 0, 9, .inl (cI f3)))]) (r_V (f := 4) [6, 7] M w V_HookedCity_Label_36 G1102 G28 (c106_X2_putText l D T _ a0 a3 z19 ff20 z19_a z19_b) 6 clX2 rfl rfl (by decide) rfl hl.1 rfl (Nat.le_of_ble_eq_true rfl) dX2_write_67 (by decide) (by decide) (by decide) (by decide)) w [6, 7] [0, 1, 2, 3, 4, 5] rfl rfl (by decide) (by decide) rfl rfl (fun u H locs hp w => ?_)
      obtain ⟨z27, ff28⟩ := u
      have z27_a : 0 ≤ z27 := hp.1
      have z27_b : z27 ≤ 23 := hp.2
      have w : WD D A s.heap [(a1, .inr (9, [.ref a4, .ref a5, .ref a6, .ref a7, .ref a8, .ref a9, .ref a10, .ref a11, .ref a12, .int (iI x2), .int (iI x3), .int (iI x4), .int r0, .int (iI x5), .int r1, .int r2, .int r3, .int r4])), (a2, .inr (7, [.ref a13, .ref a14, .ref a15, .ref a16, .int r5, .int r6, .int r7, .int r8])), (a4, .inl (T 1, 9, .inr (.inl h0))), (a13, .inl (T 0, 9, .inl f1)), (a14, .inl (T 0, 9, .inl (cI f2))), (a15, .inl (T 0, 9, .inl (cI f3))), (a0, .inr (2, [.ref a3, .int (iI z27)])), (a3, .inl (T 0, 23, .inl ff28))] H locs := w
      refine lv_goto (tgt := 89) hx hb dX2_write_70 (by decide) ?_
      refine lv_aload_n hx hb dX2_write_89 rfl (lv_at hl 1 rfl) ?_
      refine r_get (v := .int (iI z27)) M w 6 1 clX2 rfl (by decide) G350 rfl rfl dX2_write_90 ?_
      exact ret _ (z27, z27, ff28) _ _ _ _ _ [6, 0, 1, 7, 2, 3, 4, 5] dX2_write_93 ⟨rfl, (show (-2147483648) ≤ z27 from by omega), (show z27 ≤ 2147483647 from by omega), z27_a, z27_b⟩ w (by decide) rfl
set_option maxRecDepth 100000 in
set_option maxHeartbeats 4000000 in
theorem c114_X4_besides (l : Launch) (D : va_G) (T : Nat → ClassId) (sz : Nat) (a0 : Nat) (x0 : Int) (a1 : Nat) (a2 : Nat) (a3 : Nat) (a4 : Nat) (a5 : Nat) (a6 : Nat) (a7 : Nat) (a8 : Nat) (a9 : Nat) (x1 : Int) (x2 : Int) (x3 : Int) (r0 : Int32) (x4 : Int) (r1 : Int32) (r2 : Int32) (r3 : Int32) (r4 : Int32) (f0 : Int → Int) (x0_a : (-2147483648) ≤ x0) (x0_b : x0 ≤ 2147483647) (x1_a : 0 ≤ x1) (x1_b : x1 ≤ 9) (x2_a : 0 ≤ x2) (x2_b : x2 ≤ 3) (x3_a : (-2147483648) ≤ x3) (x3_b : x3 ≤ 2147483647) (x4_a : (-2147483648) ≤ x4) (x4_b : x4 ≤ 2147483647) (f0_h : rng 0 511 f0) : Met l yX4_besides (Cond.code yX4_besides cX4_besides 4 (some .int) :: GW) (Rm 0 0 0) (cPre [.ref a0, .int (iI x0)] D T [(a0, .inr (9, [.ref a1, .ref a2, .ref a3, .ref a4, .ref a5, .ref a6, .ref a7, .ref a8, .ref a9, .int (iI x1), .int (iI x2), .int (iI x3), .int r0, .int (iI x4), .int r1, .int r2, .int r3, .int r4])), (a5, .inl (T 0, 9, .inl (cI f0)))] sz) (qI D [(a0, .inr (9, [.ref a1, .ref a2, .ref a3, .ref a4, .ref a5, .ref a6, .ref a7, .ref a8, .ref a9, .int (iI x1), .int (iI x2), .int (iI x3), .int r0, .int (iI x4), .int r1, .int r2, .int r3, .int r4])), (a5, .inl (T 0, 9, .inl (cI f0)))] sz (fun (v : Int32) (u : Int) => iI u = v ∧ (-2147483648) ≤ u ∧ u ≤ 2147483647) (fun u => [(a0, .inr (9, [.ref a1, .ref a2, .ref a3, .ref a4, .ref a5, .ref a6, .ref a7, .ref a8, .ref a9, .int (iI x1), .int (iI x2), .int (iI x3), .int r0, .int (iI x4), .int r1, .int r2, .int r3, .int r4])), (a5, .inl (T 0, 9, .inl (cI f0)))])) 0 0 (va_A [(a0, .inr (9, [.ref a1, .ref a2, .ref a3, .ref a4, .ref a5, .ref a6, .ref a7, .ref a8, .ref a9, .int (iI x1), .int (iI x2), .int (iI x3), .int r0, .int (iI x4), .int r1, .int r2, .int r3, .int r4])), (a5, .inl (T 0, 9, .inl (cI f0)))] sz) := by
  refine e_I (by decide) (Nat.le_of_ble_eq_true rfl) ?_
  intro p e s m args below meth c A Q ls M hin w ret hl
  have hx := M.1.1
  have hb := M.1.2.1
  have hl : lv_has ls 4 [(0, .ref a0), (1, .int (iI x0))] := hl
  refine lv_iconst (v := iI 0) hx hb dX4_besides_0 (by decide +kernel) ?_
  refine lv_istore_n (lv' := [(2, .int (iI 0)), (0, .ref a0), (1, .int (iI x0))]) hx hb dX4_besides_1 rfl hl (by decide) rfl (fun ls hl => ?_)
  refine lv_iconst (v := iI 0) hx hb dX4_besides_2 (by decide +kernel) ?_
  refine lv_istore_n (lv' := [(3, .int (iI 0)), (2, .int (iI 0)), (0, .ref a0), (1, .int (iI x0))]) hx hb dX4_besides_3 rfl hl (by decide) rfl (fun ls hl => ?_)
  have loop1 : ∀ (k1 : Nat) (z1 : Int) (z2 : Int) (H : Heap) (locs : List Loc) (ls : Array Slot), 0 ≤ z1 → z1 ≤ 9 → (-2147483648) ≤ z2 → z2 ≤ 2147483647 → ((x1 - z1) : Int).toNat < k1 → WD D A s.heap [(a0, .inr (9, [.ref a1, .ref a2, .ref a3, .ref a4, .ref a5, .ref a6, .ref a7, .ref a8, .ref a9, .int (iI x1), .int (iI x2), .int (iI x3), .int r0, .int (iI x4), .int r1, .int r2, .int r3, .int r4])), (a5, .inl (T 0, 9, .inl (cI f0)))] H locs → lv_has ls 4 [(3, .int (iI z1)), (2, .int (iI z2)), (0, .ref a0), (1, .int (iI x0))] → W p l e (Rm 0 0 0) s m args below meth c H locs 0 0 Q (F0 m 4 ls []) := by
    intro k1
    induction k1 with
    | zero => intro z1 z2 H locs ls z1_a z1_b z2_a z2_b hm; exact absurd hm (Nat.not_lt_zero _)
    | succ k1 ih1 =>
      intro z1 z2 H locs ls z1_a z1_b z2_a z2_b hm1 w hl
      refine lv_iload_n hx hb dX4_besides_4 rfl (lv_at hl 0 rfl) ?_
      refine lv_aload_n hx hb dX4_besides_5 rfl (lv_at hl 2 rfl) ?_
      refine r_getN (v := .int (iI x1)) M w 0 9 clX9 rfl (by decide) N389 rfl rfl dX4_besides_6 ?_
      refine lv_icmp_ge (tgt := 39) hx hb dX4_besides_9 (by decide) (fun c_3 => ?_) (fun c_3 => ?_)
      · replace c_3 := (iI_le (Int.le_trans (by decide) x1_a) (Int.le_trans x1_b (by decide)) (Int.le_trans (by decide) z1_a) (Int.le_trans z1_b (by decide))).mp c_3
        refine lv_iload_n hx hb dX4_besides_39 rfl (lv_at hl 1 rfl) ?_
        exact ret _ z2 _ _ _ _ _ [0, 1] dX4_besides_40 ⟨rfl, z2_a, z2_b⟩ w (by decide) rfl
      · replace c_3 : z1 < x1 := Int.not_le.mp (fun h => c_3 ((iI_le (Int.le_trans (by decide) x1_a) (Int.le_trans x1_b (by decide)) (Int.le_trans (by decide) z1_a) (Int.le_trans z1_b (by decide))).mpr h))
        refine lv_iload_n hx hb dX4_besides_12 rfl (lv_at hl 1 rfl) ?_
        refine lv_iload_n hx hb dX4_besides_13 rfl (lv_at hl 3 rfl) ?_
        refine lv_iload_n hx hb dX4_besides_14 rfl (lv_at hl 0 rfl) ?_
        refine r_ishr (v := _) M rfl dX4_besides_15 ?_
        refine b_any (fun z4 z4_a z4_b => ?_)
        refine lv_iconst (v := iI 1) hx hb dX4_besides_16 (by decide +kernel) ?_
        refine r_iand (v := _) M rfl dX4_besides_17 ?_
        refine b_rng (lo := 0) (hi := 1) (iand_r (by omega) (by omega)) (fun z5 z5_a z5_b => ?_)
        refine lv_if_eq (tgt := 30) hx hb dX4_besides_18 (by decide) (fun c_6 => ?_) (fun c_6 => ?_)
        · replace c_6 := (iz_eq (Int.le_trans (by decide) z5_a) (Int.le_trans z5_b (by decide))).mp c_6
          refine lv_iconst (v := iI 0) hx hb dX4_besides_30 (by decide +kernel) ?_
          refine r_ior (v := _) M rfl dX4_besides_31 ?_
          refine b_any (fun z7 z7_a z7_b => ?_)
          refine lv_istore_n (lv' := [(2, .int (iI z7)), (3, .int (iI z1)), (0, .ref a0), (1, .int (iI x0))]) hx hb dX4_besides_32 rfl hl (by decide) rfl (fun ls hl => ?_)
          refine lv_iinc (v := iI (z1 + 1)) (lv' := [(3, .int (iI (z1 + 1))), (2, .int (iI z7)), (0, .ref a0), (1, .int (iI x0))]) hx hb dX4_besides_33 hl (k := 1) rfl (ii_inc (by decide +kernel)) (by decide) rfl (fun ls hl => ?_)
          refine lv_goto (tgt := 4) hx hb dX4_besides_36 (by decide) ?_
          exact ih1 (z1 + 1) z7 _ _ _ (by omega) (by omega) z7_a z7_b (by omega) w (lv_sub hl [0, 1, 2, 3] rfl)
        · replace c_6 : ¬ z5 = 0 := fun h => c_6 ((iz_eq (Int.le_trans (by decide) z5_a) (Int.le_trans z5_b (by decide))).mpr h)
          refine lv_aload_n hx hb dX4_besides_21 rfl (lv_at hl 2 rfl) ?_
          refine r_getN (v := .ref a5) M w 0 4 clX9 rfl (by decide) N376 rfl rfl dX4_besides_22 ?_
          refine lv_iload_n hx hb dX4_besides_25 rfl (lv_at hl 0 rfl) ?_
          refine r_iald (v := iI (f0 z1)) M w 1 rfl (iI_in (by omega) (by omega) (by decide)) (cI_at (by omega) (by omega)) dX4_besides_26 ?_
          have hh8 : 0 ≤ (f0 z1) ∧ (f0 z1) ≤ 511 := f0_h z1
          refine lv_goto (tgt := 31) hx hb dX4_besides_27 (by decide) ?_
          refine r_ior (v := _) M rfl dX4_besides_31 ?_
          refine b_any (fun z9 z9_a z9_b => ?_)
          refine lv_istore_n (lv' := [(2, .int (iI z9)), (3, .int (iI z1)), (0, .ref a0), (1, .int (iI x0))]) hx hb dX4_besides_32 rfl hl (by decide) rfl (fun ls hl => ?_)
          refine lv_iinc (v := iI (z1 + 1)) (lv' := [(3, .int (iI (z1 + 1))), (2, .int (iI z9)), (0, .ref a0), (1, .int (iI x0))]) hx hb dX4_besides_33 hl (k := 1) rfl (ii_inc (by decide +kernel)) (by decide) rfl (fun ls hl => ?_)
          refine lv_goto (tgt := 4) hx hb dX4_besides_36 (by decide) ?_
          exact ih1 (z1 + 1) z9 _ _ _ (by omega) (by omega) z9_a z9_b (by omega) w (lv_sub hl [0, 1, 2, 3] rfl)
  exact loop1 (((x1 - 0) : Int).toNat + 1) 0 0 _ _ _ (by decide) (by decide) (by decide) (by decide) (Nat.lt_succ_self _) w (lv_sub hl [0, 1, 2, 3] rfl)
set_option maxRecDepth 100000 in
set_option maxHeartbeats 4000000 in
theorem c115_X4_layersUpTo (l : Launch) (D : va_G) (T : Nat → ClassId) (sz : Nat) (a0 : Nat) (a1 : Nat) (x0 : Int) (x1 : Int) (a2 : Nat) (a3 : Nat) (x2 : Int) (a4 : Nat) (a5 : Nat) (a6 : Nat) (a7 : Nat) (a8 : Nat) (a9 : Nat) (a10 : Nat) (a11 : Nat) (a12 : Nat) (x3 : Int) (x4 : Int) (x5 : Int) (r0 : Int32) (x6 : Int) (r1 : Int32) (r2 : Int32) (r3 : Int32) (r4 : Int32) (f0 : Nat → Int32) (f1 : Int → Int) (x0_a : 0 ≤ x0) (x0_b : x0 ≤ 8) (x1_a : 0 ≤ x1) (x1_b : x1 ≤ 8) (x2_a : 0 ≤ x2) (x2_b : x2 ≤ 9) (x3_a : 0 ≤ x3) (x3_b : x3 ≤ 9) (x4_a : 0 ≤ x4) (x4_b : x4 ≤ 3) (x5_a : (-2147483648) ≤ x5) (x5_b : x5 ≤ 2147483647) (x6_a : (-2147483648) ≤ x6) (x6_b : x6 ≤ 2147483647) (f1_h : rng 0 511 f1) : Met l yX4_layersUpTo (Cond.code yX4_layersUpTo cX4_layersUpTo 7 (some .int) :: GW) (Rm 1 0 0) (cPre [.ref a0, .ref a1, .int (iI x0), .int (iI x1)] D T [(a0, .inr (4, [.ref a2, .ref a3, .int (iI x2)])), (a1, .inr (9, [.ref a4, .ref a5, .ref a6, .ref a7, .ref a8, .ref a9, .ref a10, .ref a11, .ref a12, .int (iI x3), .int (iI x4), .int (iI x5), .int r0, .int (iI x6), .int r1, .int r2, .int r3, .int r4])), (a3, .inl (T 0, 9, .inl f0)), (a8, .inl (T 0, 9, .inl (cI f1)))] sz) (qI D [(a0, .inr (4, [.ref a2, .ref a3, .int (iI x2)])), (a1, .inr (9, [.ref a4, .ref a5, .ref a6, .ref a7, .ref a8, .ref a9, .ref a10, .ref a11, .ref a12, .int (iI x3), .int (iI x4), .int (iI x5), .int r0, .int (iI x6), .int r1, .int r2, .int r3, .int r4])), (a3, .inl (T 0, 9, .inl f0)), (a8, .inl (T 0, 9, .inl (cI f1)))] sz (fun (v : Int32) (u : Int × (Nat → Int32)) => iI u.1 = v ∧ (-1) ≤ u.1 ∧ u.1 ≤ 8) (fun u => [(a0, .inr (4, [.ref a2, .ref a3, .int (iI x2)])), (a1, .inr (9, [.ref a4, .ref a5, .ref a6, .ref a7, .ref a8, .ref a9, .ref a10, .ref a11, .ref a12, .int (iI x3), .int (iI x4), .int (iI x5), .int r0, .int (iI x6), .int r1, .int r2, .int r3, .int r4])), (a3, .inl (T 0, 9, .inl u.2)), (a8, .inl (T 0, 9, .inl (cI f1)))])) 0 0 (va_A [(a0, .inr (4, [.ref a2, .ref a3, .int (iI x2)])), (a1, .inr (9, [.ref a4, .ref a5, .ref a6, .ref a7, .ref a8, .ref a9, .ref a10, .ref a11, .ref a12, .int (iI x3), .int (iI x4), .int (iI x5), .int r0, .int (iI x6), .int r1, .int r2, .int r3, .int r4])), (a3, .inl (T 0, 9, .inl f0)), (a8, .inl (T 0, 9, .inl (cI f1)))] sz) := by
  refine e_I (by decide) (Nat.le_of_ble_eq_true rfl) ?_
  intro p e s m args below meth c A Q ls M hin w ret hl
  have hx := M.1.1
  have hb := M.1.2.1
  have hl : lv_has ls 7 [(0, .ref a0), (1, .ref a1), (2, .int (iI x0)), (3, .int (iI x1))] := hl
  refine lv_iconst (v := iI 0) hx hb dX4_layersUpTo_0 (by decide +kernel) ?_
  refine lv_istore (lv' := [(4, .int (iI 0)), (0, .ref a0), (1, .ref a1), (2, .int (iI x0)), (3, .int (iI x1))]) hx hb dX4_layersUpTo_1 hl (by decide) rfl (fun ls hl => ?_)
  refine lv_iconst (v := iI 1) hx hb dX4_layersUpTo_3 (by decide +kernel) ?_
  refine lv_iload_n hx hb dX4_layersUpTo_4 rfl (lv_at hl 4 rfl) ?_
  refine r_ishl (v := _) M rfl dX4_layersUpTo_5 ?_
  refine b_rng (lo := 1) (hi := 256) (ishl_9 (by omega) (by omega)) (fun z1 z1_a z1_b => ?_)
  refine lv_istore (lv' := [(5, .int (iI z1)), (4, .int (iI 0)), (0, .ref a0), (1, .ref a1), (2, .int (iI x0)), (3, .int (iI x1))]) hx hb dX4_layersUpTo_6 hl (by decide) rfl (fun ls hl => ?_)
  refine lv_iconst (v := iI 0) hx hb dX4_layersUpTo_8 (by decide +kernel) ?_
  refine lv_istore (lv' := [(6, .int (iI 0)), (5, .int (iI z1)), (4, .int (iI 0)), (0, .ref a0), (1, .ref a1), (2, .int (iI x0)), (3, .int (iI x1))]) hx hb dX4_layersUpTo_9 hl (by decide) rfl (fun ls hl => ?_)
  have loop1 : ∀ (k1 : Nat) (ff2 : Nat → Int32) (z3 : Int) (z4 : Int) (z5 : Int) (H : Heap) (locs : List Loc) (ls : Array Slot), 0 ≤ z3 → z3 ≤ 9 → (-2147483648) ≤ z4 → z4 ≤ 2147483647 → (-2147483648) ≤ z5 → z5 ≤ 2147483647 → ((9 - z3) : Int).toNat < k1 → WD D A s.heap [(a0, .inr (4, [.ref a2, .ref a3, .int (iI x2)])), (a1, .inr (9, [.ref a4, .ref a5, .ref a6, .ref a7, .ref a8, .ref a9, .ref a10, .ref a11, .ref a12, .int (iI x3), .int (iI x4), .int (iI x5), .int r0, .int (iI x6), .int r1, .int r2, .int r3, .int r4])), (a3, .inl (T 0, 9, .inl ff2)), (a8, .inl (T 0, 9, .inl (cI f1)))] H locs → lv_has ls 7 [(6, .int (iI z3)), (5, .int (iI z4)), (4, .int (iI z5)), (0, .ref a0), (1, .ref a1), (2, .int (iI x0)), (3, .int (iI x1))] → W p l e (Rm 1 0 0) s m args below meth c H locs 0 0 Q (F0 m 11 ls []) := by
    intro k1
    induction k1 with
    | zero => intro ff2 z3 z4 z5 H locs ls z3_a z3_b z4_a z4_b z5_a z5_b hm; exact absurd hm (Nat.not_lt_zero _)
    | succ k1 ih1 =>
      intro ff2 z3 z4 z5 H locs ls z3_a z3_b z4_a z4_b z5_a z5_b hm1 w hl
      refine lv_iload hx hb dX4_layersUpTo_11 (lv_at hl 0 rfl) ?_
      refine lv_bipush (v := iI 9) hx hb dX4_layersUpTo_13 (by decide +kernel) ?_
      refine lv_icmp_ge (tgt := 70) hx hb dX4_layersUpTo_15 (by decide) (fun c_6 => ?_) (fun c_6 => ?_)
      · replace c_6 := (iI_le (by decide) (by decide) (Int.le_trans (by decide) z3_a) (Int.le_trans z3_b (by decide))).mp c_6
        refine lv_iconst (v := iI (-1)) hx hb dX4_layersUpTo_70 (by decide +kernel) ?_
        exact ret _ ((-1), ff2) _ _ _ _ _ [0, 1, 2, 3] dX4_layersUpTo_71 ⟨rfl, (show (-1) ≤ (-1) from by decide), (show ((-1) : Int) ≤ 8 from by decide)⟩ w (by decide) rfl
      · replace c_6 : z3 < 9 := Int.not_le.mp (fun h => c_6 ((iI_le (by decide) (by decide) (Int.le_trans (by decide) z3_a) (Int.le_trans z3_b (by decide))).mpr h))
        refine lv_iload hx hb dX4_layersUpTo_18 (lv_at hl 1 rfl) ?_
        refine lv_if_eq (tgt := 70) hx hb dX4_layersUpTo_20 (by decide) (fun c_7 => ?_) (fun c_7 => ?_)
        · replace c_7 := (iz_eq (Int.le_trans (by decide) z4_a) (Int.le_trans z4_b (by decide))).mp c_7
          refine lv_iconst (v := iI (-1)) hx hb dX4_layersUpTo_70 (by decide +kernel) ?_
          exact ret _ ((-1), ff2) _ _ _ _ _ [0, 1, 2, 3] dX4_layersUpTo_71 ⟨rfl, (show (-1) ≤ (-1) from by decide), (show ((-1) : Int) ≤ 8 from by decide)⟩ w (by decide) rfl
        · replace c_7 : ¬ z4 = 0 := fun h => c_7 ((iz_eq (Int.le_trans (by decide) z4_a) (Int.le_trans z4_b (by decide))).mpr h)
          refine lv_aload_n hx hb dX4_layersUpTo_23 rfl (lv_at hl 3 rfl) ?_
          refine r_get (v := .ref a3) M w 0 1 clX4 rfl (by decide) G332 rfl rfl dX4_layersUpTo_24 ?_
          refine lv_iload hx hb dX4_layersUpTo_27 (lv_at hl 0 rfl) ?_
          refine lv_iload hx hb dX4_layersUpTo_29 (lv_at hl 1 rfl) ?_
          refine r_iast (ws' := [(a0, .inr (4, [.ref a2, .ref a3, .int (iI x2)])), (a1, .inr (9, [.ref a4, .ref a5, .ref a6, .ref a7, .ref a8, .ref a9, .ref a10, .ref a11, .ref a12, .int (iI x3), .int (iI x4), .int (iI x5), .int r0, .int (iI x6), .int r1, .int r2, .int r3, .int r4])), (a3, .inl (T 0, 9, .inl (upd ff2 (Int32.toNatClampNeg (iI z3)) (iI z4)))), (a8, .inl (T 0, 9, .inl (cI f1)))]) M w 2 rfl (iI_in (by omega) (by omega) (by decide)) rfl dX4_layersUpTo_31 (fun H locs w => ?_)
          refine lv_iload hx hb dX4_layersUpTo_32 (lv_at hl 1 rfl) ?_
          refine lv_iload_n hx hb dX4_layersUpTo_34 rfl (lv_at hl 5 rfl) ?_
          refine r_ishr (v := _) M rfl dX4_layersUpTo_35 ?_
          refine b_any (fun z8 z8_a z8_b => ?_)
          refine lv_iconst (v := iI 1) hx hb dX4_layersUpTo_36 (by decide +kernel) ?_
          refine r_iand (v := _) M rfl dX4_layersUpTo_37 ?_
          refine b_rng (lo := 0) (hi := 1) (iand_r (by omega) (by omega)) (fun z9 z9_a z9_b => ?_)
          refine lv_if_eq (tgt := 44) hx hb dX4_layersUpTo_38 (by decide) (fun c_10 => ?_) (fun c_10 => ?_)
          · replace c_10 := (iz_eq (Int.le_trans (by decide) z9_a) (Int.le_trans z9_b (by decide))).mp c_10
            refine lv_iload hx hb dX4_layersUpTo_44 (lv_at hl 2 rfl) ?_
            refine lv_iload hx hb dX4_layersUpTo_46 (lv_at hl 1 rfl) ?_
            refine r_ior (v := _) M rfl dX4_layersUpTo_48 ?_
            refine b_any (fun z11 z11_a z11_b => ?_)
            refine lv_istore (lv' := [(4, .int (iI z11)), (6, .int (iI z3)), (5, .int (iI z4)), (0, .ref a0), (1, .ref a1), (2, .int (iI x0)), (3, .int (iI x1))]) hx hb dX4_layersUpTo_49 hl (by decide) rfl (fun ls hl => ?_)
            refine lv_aload_n hx hb dX4_layersUpTo_51 rfl (lv_at hl 4 rfl) ?_
            refine lv_iload hx hb dX4_layersUpTo_52 (lv_at hl 2 rfl) ?_
            refine k_I (ce := 0) (sl := 0) (rest := []) (wr := [(a0, .inr (4, [.ref a2, .ref a3, .int (iI x2)])), (a3, .inl (T 0, 9, .inl (upd ff2 (Int32.toNatClampNeg (iI z3)) (iI z4))))]) (r_S (f := 0) [1, 3] M w V_HookedCity_Path_35 G1050 (c114_X4_besides l D T _ a1 z4 a4 a5 a6 a7 a8 a9 a10 a11 a12 x3 x4 x5 r0 x6 r1 r2 r3 r4 f1 z4_a z4_b x3_a x3_b x4_a x4_b x5_a x5_b x6_a x6_b f1_h) rfl (by decide) rfl hl.1 rfl (Nat.le_of_ble_eq_true rfl) dX4_layersUpTo_54 (by decide) (by decide) (by decide) (by decide)) w [1, 3] [0, 2] rfl rfl (by decide) (by decide) rfl rfl (fun v z12 H locs hp w => ?_)
            have hv : iI z12 = v := hp.1
            subst hv
            have z12_a : (-2147483648) ≤ z12 := hp.2.1
            have z12_b : z12 ≤ 2147483647 := hp.2.2
            have w : WD D A s.heap [(a0, .inr (4, [.ref a2, .ref a3, .int (iI x2)])), (a3, .inl (T 0, 9, .inl (upd ff2 (Int32.toNatClampNeg (iI z3)) (iI z4)))), (a1, .inr (9, [.ref a4, .ref a5, .ref a6, .ref a7, .ref a8, .ref a9, .ref a10, .ref a11, .ref a12, .int (iI x3), .int (iI x4), .int (iI x5), .int r0, .int (iI x6), .int r1, .int r2, .int r3, .int r4])), (a8, .inl (T 0, 9, .inl (cI f1)))] H locs := w
            refine lv_iload hx hb dX4_layersUpTo_57 (lv_at hl 0 rfl) ?_
            refine lv_iconst (v := iI (-1)) hx hb dX4_layersUpTo_59 (by decide +kernel) ?_
            refine r_ixor (v := _) M rfl dX4_layersUpTo_60 ?_
            refine b_any (fun z13 z13_a z13_b => ?_)
            refine r_iand (v := _) M rfl dX4_layersUpTo_61 ?_
            refine b_any (fun z14 z14_a z14_b => ?_)
            refine lv_istore (lv' := [(5, .int (iI z14)), (4, .int (iI z11)), (6, .int (iI z3)), (0, .ref a0), (1, .ref a1), (2, .int (iI x0)), (3, .int (iI x1))]) hx hb dX4_layersUpTo_62 hl (by decide) rfl (fun ls hl => ?_)
            refine lv_iinc (v := iI (z3 + 1)) (lv' := [(6, .int (iI (z3 + 1))), (5, .int (iI z14)), (4, .int (iI z11)), (0, .ref a0), (1, .ref a1), (2, .int (iI x0)), (3, .int (iI x1))]) hx hb dX4_layersUpTo_64 hl (k := 2) rfl (ii_inc (by decide +kernel)) (by decide) rfl (fun ls hl => ?_)
            refine lv_goto (tgt := 11) hx hb dX4_layersUpTo_67 (by decide) ?_
            exact ih1 (upd ff2 (Int32.toNatClampNeg (iI z3)) (iI z4)) (z3 + 1) z14 z11 _ _ _ (by omega) (by omega) z14_a z14_b z11_a z11_b (by omega) (w.sub [0, 2, 1, 3] (by decide) rfl) (lv_sub hl [0, 1, 2, 3, 4, 5, 6] rfl)
          · replace c_10 : ¬ z9 = 0 := fun h => c_10 ((iz_eq (Int.le_trans (by decide) z9_a) (Int.le_trans z9_b (by decide))).mpr h)
            refine lv_iload hx hb dX4_layersUpTo_41 (lv_at hl 0 rfl) ?_
            exact ret _ (z3, (upd ff2 (Int32.toNatClampNeg (iI z3)) (iI z4))) _ _ _ _ _ [0, 1, 2, 3] dX4_layersUpTo_43 ⟨rfl, (show (-1) ≤ z3 from by omega), (show z3 ≤ 8 from by omega)⟩ w (by decide) rfl
  exact loop1 ((9 : Int).toNat + 1) f0 0 z1 0 _ _ _ (by decide) (by decide) (by omega) (by omega) (by decide) (by decide) (Nat.lt_succ_self _) w (lv_sub hl [0, 1, 2, 3, 4, 5, 6] rfl)
set_option maxRecDepth 100000 in
set_option maxHeartbeats 4000000 in
theorem c116_J6_numberOfTrailingZeros_0f7a4 (l : Launch) (D : va_G) (T : Nat → ClassId) (sz : Nat) (x0 : Int) (x0_a : 1 ≤ x0) (x0_b : x0 ≤ 511) : Met l yJ6_numberOfTrailingZeros_0f7a4 (Cond.code yJ6_numberOfTrailingZeros_0f7a4 cJ6_numberOfTrailingZeros_0f7a4 2 (some .int) :: GW) (Rm 0 0 0) (cPre [.int (iI x0)] D T [] sz) (qI D [] sz (fun (v : Int32) (u : Int) => iI u = v ∧ 0 ≤ u ∧ u ≤ 8) (fun u => [])) 0 0 (va_A [] sz) := by
  refine e_I (by decide) (Nat.le_of_ble_eq_true rfl) ?_
  intro p e s m args below meth c A Q ls M hin w ret hl
  have hx := M.1.1
  have hb := M.1.2.1
  have hl : lv_has ls 2 [(0, .int (iI x0))] := hl
  refine lv_iload_n hx hb dJ6_numberOfTrailingZeros_0f7a4_0 rfl (lv_at hl 0 rfl) ?_
  refine lv_iconst (v := iI (-1)) hx hb dJ6_numberOfTrailingZeros_0f7a4_1 (by decide +kernel) ?_
  refine r_ixor (v := _) M rfl dJ6_numberOfTrailingZeros_0f7a4_2 ?_
  refine b_any (fun z1 z1_a z1_b => ?_)
  refine lv_iload_n hx hb dJ6_numberOfTrailingZeros_0f7a4_3 rfl (lv_at hl 0 rfl) ?_
  refine lv_iconst (v := iI 1) hx hb dJ6_numberOfTrailingZeros_0f7a4_4 (by decide +kernel) ?_
  refine r_isub (v := iI (x0 - 1)) M (iI_sub _ _) dJ6_numberOfTrailingZeros_0f7a4_5 ?_
  refine r_iand (v := _) M rfl dJ6_numberOfTrailingZeros_0f7a4_6 ?_
  refine b_rng (lo := 0) (hi := 255) (ntz_and x0_a x0_b) (fun z2 z2_a z2_b => ?_)
  refine lv_istore_n (lv' := [(0, .int (iI z2))]) hx hb dJ6_numberOfTrailingZeros_0f7a4_7 rfl hl (by decide) rfl (fun ls hl => ?_)
  refine lv_iload_n hx hb dJ6_numberOfTrailingZeros_0f7a4_8 rfl (lv_at hl 0 rfl) ?_
  refine lv_if_gt (tgt := 17) hx hb dJ6_numberOfTrailingZeros_0f7a4_9 (by decide) (fun c_3 => ?_) (fun c_3 => ?_)
  · replace c_3 := (iz_gt (Int.le_trans (by decide) z2_a) (Int.le_trans z2_b (by decide))).mp c_3
    refine lv_iconst (v := iI 1) hx hb dJ6_numberOfTrailingZeros_0f7a4_17 (by decide +kernel) ?_
    refine lv_istore_n (lv' := [(1, .int (iI 1)), (0, .int (iI z2))]) hx hb dJ6_numberOfTrailingZeros_0f7a4_18 rfl hl (by decide) rfl (fun ls hl => ?_)
    refine lv_iload_n hx hb dJ6_numberOfTrailingZeros_0f7a4_19 rfl (lv_at hl 1 rfl) ?_
    refine lv_ldcw (v := _) hx hb M.1.2.2.2.1 (M.1.2.2.2.2 _ G1015) dJ6_numberOfTrailingZeros_0f7a4_20 ?_
    refine b_lit (z := 65536) (by decide +kernel) ?_
    refine lv_icmp_le (tgt := 34) hx hb dJ6_numberOfTrailingZeros_0f7a4_23 (by decide) (fun c_4 => ?_) (fun c_4 => ?_)
    · replace c_4 := (iI_le (Int.le_trans (by decide) z2_a) (Int.le_trans z2_b (by decide)) (by decide) (by decide)).mp c_4
      refine lv_iload_n hx hb dJ6_numberOfTrailingZeros_0f7a4_34 rfl (lv_at hl 1 rfl) ?_
      refine lv_sipush (v := iI 256) hx hb dJ6_numberOfTrailingZeros_0f7a4_35 (by decide +kernel) ?_
      refine lv_icmp_le (tgt := 49) hx hb dJ6_numberOfTrailingZeros_0f7a4_38 (by decide) (fun c_5 => ?_) (fun c_5 => ?_)
      · replace c_5 := (iI_le (Int.le_trans (by decide) z2_a) (Int.le_trans z2_b (by decide)) (by decide) (by decide)).mp c_5
        refine lv_iload_n hx hb dJ6_numberOfTrailingZeros_0f7a4_49 rfl (lv_at hl 1 rfl) ?_
        refine lv_bipush (v := iI 16) hx hb dJ6_numberOfTrailingZeros_0f7a4_50 (by decide +kernel) ?_
        refine lv_icmp_le (tgt := 62) hx hb dJ6_numberOfTrailingZeros_0f7a4_52 (by decide) (fun c_6 => ?_) (fun c_6 => ?_)
        · replace c_6 := (iI_le (Int.le_trans (by decide) z2_a) (Int.le_trans z2_b (by decide)) (by decide) (by decide)).mp c_6
          refine lv_iload_n hx hb dJ6_numberOfTrailingZeros_0f7a4_62 rfl (lv_at hl 1 rfl) ?_
          refine lv_iconst (v := iI 4) hx hb dJ6_numberOfTrailingZeros_0f7a4_63 (by decide +kernel) ?_
          refine lv_icmp_le (tgt := 74) hx hb dJ6_numberOfTrailingZeros_0f7a4_64 (by decide) (fun c_7 => ?_) (fun c_7 => ?_)
          · replace c_7 := (iI_le (Int.le_trans (by decide) z2_a) (Int.le_trans z2_b (by decide)) (by decide) (by decide)).mp c_7
            refine lv_iload_n hx hb dJ6_numberOfTrailingZeros_0f7a4_74 rfl (lv_at hl 0 rfl) ?_
            refine lv_iload_n hx hb dJ6_numberOfTrailingZeros_0f7a4_75 rfl (lv_at hl 1 rfl) ?_
            refine lv_iconst (v := iI 1) hx hb dJ6_numberOfTrailingZeros_0f7a4_76 (by decide +kernel) ?_
            refine r_iushr (v := _) M rfl dJ6_numberOfTrailingZeros_0f7a4_77 ?_
            refine b_rng (lo := z2 / 2) (hi := z2 / 2) (iushr_d 1 (by decide +kernel) (by omega) (by omega)) (fun z8 z8_a z8_b => ?_)
            refine r_iadd (v := iI (1 + z8)) M (iI_add _ _) dJ6_numberOfTrailingZeros_0f7a4_78 ?_
            exact ret _ (1 + z8) _ _ _ _ _ [] dJ6_numberOfTrailingZeros_0f7a4_79 ⟨rfl, (show 0 ≤ (1 + z8) from by omega), (show (1 + z8) ≤ 8 from by omega)⟩ w (by decide) rfl
          · replace c_7 : 4 < z2 := Int.not_le.mp (fun h => c_7 ((iI_le (Int.le_trans (by decide) z2_a) (Int.le_trans z2_b (by decide)) (by decide) (by decide)).mpr h))
            refine lv_iinc (v := iI 3) (lv' := [(1, .int (iI 3)), (0, .int (iI z2))]) hx hb dJ6_numberOfTrailingZeros_0f7a4_67 hl (k := 0) rfl (by decide +kernel) (by decide) rfl (fun ls hl => ?_)
            refine lv_iload_n hx hb dJ6_numberOfTrailingZeros_0f7a4_70 rfl (lv_at hl 1 rfl) ?_
            refine lv_iconst (v := iI 2) hx hb dJ6_numberOfTrailingZeros_0f7a4_71 (by decide +kernel) ?_
            refine r_iushr (v := _) M rfl dJ6_numberOfTrailingZeros_0f7a4_72 ?_
            refine b_rng (lo := z2 / 4) (hi := z2 / 4) (iushr_d 2 (by decide +kernel) (by omega) (by omega)) (fun z9 z9_a z9_b => ?_)
            refine lv_istore_n (lv' := [(0, .int (iI z9)), (1, .int (iI 3))]) hx hb dJ6_numberOfTrailingZeros_0f7a4_73 rfl hl (by decide) rfl (fun ls hl => ?_)
            refine lv_iload_n hx hb dJ6_numberOfTrailingZeros_0f7a4_74 rfl (lv_at hl 1 rfl) ?_
            refine lv_iload_n hx hb dJ6_numberOfTrailingZeros_0f7a4_75 rfl (lv_at hl 0 rfl) ?_
            refine lv_iconst (v := iI 1) hx hb dJ6_numberOfTrailingZeros_0f7a4_76 (by decide +kernel) ?_
            refine r_iushr (v := _) M rfl dJ6_numberOfTrailingZeros_0f7a4_77 ?_
            refine b_rng (lo := z9 / 2) (hi := z9 / 2) (iushr_d 1 (by decide +kernel) (by omega) (by omega)) (fun z10 z10_a z10_b => ?_)
            refine r_iadd (v := iI (3 + z10)) M (iI_add _ _) dJ6_numberOfTrailingZeros_0f7a4_78 ?_
            exact ret _ (3 + z10) _ _ _ _ _ [] dJ6_numberOfTrailingZeros_0f7a4_79 ⟨rfl, (show 0 ≤ (3 + z10) from by omega), (show (3 + z10) ≤ 8 from by omega)⟩ w (by decide) rfl
        · replace c_6 : 16 < z2 := Int.not_le.mp (fun h => c_6 ((iI_le (Int.le_trans (by decide) z2_a) (Int.le_trans z2_b (by decide)) (by decide) (by decide)).mpr h))
          refine lv_iinc (v := iI 5) (lv' := [(1, .int (iI 5)), (0, .int (iI z2))]) hx hb dJ6_numberOfTrailingZeros_0f7a4_55 hl (k := 0) rfl (by decide +kernel) (by decide) rfl (fun ls hl => ?_)
          refine lv_iload_n hx hb dJ6_numberOfTrailingZeros_0f7a4_58 rfl (lv_at hl 1 rfl) ?_
          refine lv_iconst (v := iI 4) hx hb dJ6_numberOfTrailingZeros_0f7a4_59 (by decide +kernel) ?_
          refine r_iushr (v := _) M rfl dJ6_numberOfTrailingZeros_0f7a4_60 ?_
          refine b_rng (lo := z2 / 16) (hi := z2 / 16) (iushr_d 4 (by decide +kernel) (by omega) (by omega)) (fun z11 z11_a z11_b => ?_)
          refine lv_istore_n (lv' := [(0, .int (iI z11)), (1, .int (iI 5))]) hx hb dJ6_numberOfTrailingZeros_0f7a4_61 rfl hl (by decide) rfl (fun ls hl => ?_)
          refine lv_iload_n hx hb dJ6_numberOfTrailingZeros_0f7a4_62 rfl (lv_at hl 0 rfl) ?_
          refine lv_iconst (v := iI 4) hx hb dJ6_numberOfTrailingZeros_0f7a4_63 (by decide +kernel) ?_
          refine lv_icmp_le (tgt := 74) hx hb dJ6_numberOfTrailingZeros_0f7a4_64 (by decide) (fun c_12 => ?_) (fun c_12 => ?_)
          · replace c_12 := (iI_le (by omega) (by omega) (by decide) (by decide)).mp c_12
            refine lv_iload_n hx hb dJ6_numberOfTrailingZeros_0f7a4_74 rfl (lv_at hl 1 rfl) ?_
            refine lv_iload_n hx hb dJ6_numberOfTrailingZeros_0f7a4_75 rfl (lv_at hl 0 rfl) ?_
            refine lv_iconst (v := iI 1) hx hb dJ6_numberOfTrailingZeros_0f7a4_76 (by decide +kernel) ?_
            refine r_iushr (v := _) M rfl dJ6_numberOfTrailingZeros_0f7a4_77 ?_
            refine b_rng (lo := z11 / 2) (hi := z11 / 2) (iushr_d 1 (by decide +kernel) (by omega) (by omega)) (fun z13 z13_a z13_b => ?_)
            refine r_iadd (v := iI (5 + z13)) M (iI_add _ _) dJ6_numberOfTrailingZeros_0f7a4_78 ?_
            exact ret _ (5 + z13) _ _ _ _ _ [] dJ6_numberOfTrailingZeros_0f7a4_79 ⟨rfl, (show 0 ≤ (5 + z13) from by omega), (show (5 + z13) ≤ 8 from by omega)⟩ w (by decide) rfl
          · replace c_12 : 4 < z11 := Int.not_le.mp (fun h => c_12 ((iI_le (by omega) (by omega) (by decide) (by decide)).mpr h))
            refine lv_iinc (v := iI 7) (lv' := [(1, .int (iI 7)), (0, .int (iI z11))]) hx hb dJ6_numberOfTrailingZeros_0f7a4_67 hl (k := 1) rfl (by decide +kernel) (by decide) rfl (fun ls hl => ?_)
            refine lv_iload_n hx hb dJ6_numberOfTrailingZeros_0f7a4_70 rfl (lv_at hl 1 rfl) ?_
            refine lv_iconst (v := iI 2) hx hb dJ6_numberOfTrailingZeros_0f7a4_71 (by decide +kernel) ?_
            refine r_iushr (v := _) M rfl dJ6_numberOfTrailingZeros_0f7a4_72 ?_
            refine b_rng (lo := z11 / 4) (hi := z11 / 4) (iushr_d 2 (by decide +kernel) (by omega) (by omega)) (fun z14 z14_a z14_b => ?_)
            refine lv_istore_n (lv' := [(0, .int (iI z14)), (1, .int (iI 7))]) hx hb dJ6_numberOfTrailingZeros_0f7a4_73 rfl hl (by decide) rfl (fun ls hl => ?_)
            refine lv_iload_n hx hb dJ6_numberOfTrailingZeros_0f7a4_74 rfl (lv_at hl 1 rfl) ?_
            refine lv_iload_n hx hb dJ6_numberOfTrailingZeros_0f7a4_75 rfl (lv_at hl 0 rfl) ?_
            refine lv_iconst (v := iI 1) hx hb dJ6_numberOfTrailingZeros_0f7a4_76 (by decide +kernel) ?_
            refine r_iushr (v := _) M rfl dJ6_numberOfTrailingZeros_0f7a4_77 ?_
            refine b_rng (lo := z14 / 2) (hi := z14 / 2) (iushr_d 1 (by decide +kernel) (by omega) (by omega)) (fun z15 z15_a z15_b => ?_)
            refine r_iadd (v := iI (7 + z15)) M (iI_add _ _) dJ6_numberOfTrailingZeros_0f7a4_78 ?_
            exact ret _ (7 + z15) _ _ _ _ _ [] dJ6_numberOfTrailingZeros_0f7a4_79 ⟨rfl, (show 0 ≤ (7 + z15) from by omega), (show (7 + z15) ≤ 8 from by omega)⟩ w (by decide) rfl
      · replace c_5 : 256 < z2 := Int.not_le.mp (fun h => c_5 ((iI_le (Int.le_trans (by decide) z2_a) (Int.le_trans z2_b (by decide)) (by decide) (by decide)).mpr h))
        exfalso; omega
    · replace c_4 : 65536 < z2 := Int.not_le.mp (fun h => c_4 ((iI_le (Int.le_trans (by decide) z2_a) (Int.le_trans z2_b (by decide)) (by decide) (by decide)).mpr h))
      exfalso; omega
  · replace c_3 : z2 ≤ 0 := Int.not_lt.mp (fun h => c_3 ((iz_gt (Int.le_trans (by decide) z2_a) (Int.le_trans z2_b (by decide))).mpr h))
    refine lv_iload_n hx hb dJ6_numberOfTrailingZeros_0f7a4_12 rfl (lv_at hl 0 rfl) ?_
    refine lv_bipush (v := iI 32) hx hb dJ6_numberOfTrailingZeros_0f7a4_13 (by decide +kernel) ?_
    refine r_iand (v := _) M rfl dJ6_numberOfTrailingZeros_0f7a4_15 ?_
    refine b_rng (lo := 0) (hi := z2) (iand_l (by omega) (by omega)) (fun z16 z16_a z16_b => ?_)
    exact ret _ z16 _ _ _ _ _ [] dJ6_numberOfTrailingZeros_0f7a4_16 ⟨rfl, (show 0 ≤ z16 from by omega), (show z16 ≤ 8 from by omega)⟩ w (by decide) rfl
set_option maxRecDepth 100000 in
set_option maxHeartbeats 4000000 in
theorem c117_X4_firstOf (l : Launch) (D : va_G) (T : Nat → ClassId) (sz : Nat) (x0 : Int) (x0_a : 0 ≤ x0) (x0_b : x0 ≤ 511) : Met l yX4_firstOf (Cond.code yX4_firstOf cX4_firstOf 1 (some .int) :: GW) (Rm 1 0 0) (cPre [.int (iI x0)] D T [] sz) (qI D [] sz (fun (v : Int32) (u : Int) => iI u = v ∧ 0 ≤ u ∧ u ≤ 8) (fun u => [])) 0 0 (va_A [] sz) := by
  refine e_I (by decide) (Nat.le_of_ble_eq_true rfl) ?_
  intro p e s m args below meth c A Q ls M hin w ret hl
  have hx := M.1.1
  have hb := M.1.2.1
  have hl : lv_has ls 1 [(0, .int (iI x0))] := hl
  refine lv_iload_n hx hb dX4_firstOf_0 rfl (lv_at hl 0 rfl) ?_
  refine lv_if_ne (tgt := 8) hx hb dX4_firstOf_1 (by decide) (fun c_1 => ?_) (fun c_1 => ?_)
  · replace c_1 : ¬ x0 = 0 := fun h => c_1 ((iz_eq (Int.le_trans (by decide) x0_a) (Int.le_trans x0_b (by decide))).mpr h)
    refine lv_iload_n hx hb dX4_firstOf_8 rfl (lv_at hl 0 rfl) ?_
    refine k_I (ce := 0) (sl := 0) (rest := []) (wr := []) (r_S (f := 0) [] M w V_HookedCity_Path_42 G1013 (c116_J6_numberOfTrailingZeros_0f7a4 l D T _ x0 (by omega) (by omega)) rfl (by decide) rfl hl.1 rfl (Nat.le_of_ble_eq_true rfl) dX4_firstOf_9 (by decide) (by decide) (by decide) (by decide)) w [] [] rfl rfl (by decide) (by decide) rfl rfl (fun v z2 H locs hp w => ?_)
    have hv : iI z2 = v := hp.1
    subst hv
    have z2_a : 0 ≤ z2 := hp.2.1
    have z2_b : z2 ≤ 8 := hp.2.2
    have w : WD D A s.heap [] H locs := w
    exact ret _ z2 _ _ _ _ _ [] dX4_firstOf_12 ⟨rfl, z2_a, z2_b⟩ w (by decide) rfl
  · replace c_1 := (iz_eq (Int.le_trans (by decide) x0_a) (Int.le_trans x0_b (by decide))).mp c_1
    refine lv_iconst (v := iI 0) hx hb dX4_firstOf_4 (by decide +kernel) ?_
    refine lv_goto (tgt := 12) hx hb dX4_firstOf_5 (by decide) ?_
    exact ret _ 0 _ _ _ _ _ [] dX4_firstOf_12 ⟨rfl, (show (0 : Int) ≤ 0 from by decide), (show (0 : Int) ≤ 8 from by decide)⟩ w (by decide) rfl
set_option maxRecDepth 100000 in
set_option maxHeartbeats 4000000 in
theorem c118_X4_find (l : Launch) (D : va_G) (T : Nat → ClassId) (sz : Nat) (a0 : Nat) (a1 : Nat) (x0 : Int) (x1 : Int) (a2 : Nat) (a3 : Nat) (x2 : Int) (a4 : Nat) (a5 : Nat) (a6 : Nat) (a7 : Nat) (a8 : Nat) (a9 : Nat) (a10 : Nat) (a11 : Nat) (a12 : Nat) (x3 : Int) (x4 : Int) (x5 : Int) (r0 : Int32) (x6 : Int) (r1 : Int32) (r2 : Int32) (r3 : Int32) (r4 : Int32) (f0 : Int → Int) (f1 : Nat → Int32) (f2 : Int → Int) (x0_a : 0 ≤ x0) (x0_b : x0 ≤ 8) (x1_a : 0 ≤ x1) (x1_b : x1 ≤ 8) (x2_a : 0 ≤ x2) (x2_b : x2 ≤ 9) (x3_a : 0 ≤ x3) (x3_b : x3 ≤ 9) (x4_a : 0 ≤ x4) (x4_b : x4 ≤ 3) (x5_a : (-2147483648) ≤ x5) (x5_b : x5 ≤ 2147483647) (x6_a : (-2147483648) ≤ x6) (x6_b : x6 ≤ 2147483647) (f0_h : rng 0 8 f0) (f2_h : rng 0 511 f2) : Met l yX4_find (Cond.code yX4_find cX4_find 6 (some .int) :: GW) (Rm 2 0 0) (cPre [.ref a0, .ref a1, .int (iI x0), .int (iI x1)] D T [(a0, .inr (4, [.ref a2, .ref a3, .int (iI x2)])), (a1, .inr (9, [.ref a4, .ref a5, .ref a6, .ref a7, .ref a8, .ref a9, .ref a10, .ref a11, .ref a12, .int (iI x3), .int (iI x4), .int (iI x5), .int r0, .int (iI x6), .int r1, .int r2, .int r3, .int r4])), (a2, .inl (T 0, 9, .inl (cI f0))), (a3, .inl (T 0, 9, .inl f1)), (a8, .inl (T 0, 9, .inl (cI f2)))] sz) (qI D [(a0, .inr (4, [.ref a2, .ref a3, .int (iI x2)])), (a1, .inr (9, [.ref a4, .ref a5, .ref a6, .ref a7, .ref a8, .ref a9, .ref a10, .ref a11, .ref a12, .int (iI x3), .int (iI x4), .int (iI x5), .int r0, .int (iI x6), .int r1, .int r2, .int r3, .int r4])), (a2, .inl (T 0, 9, .inl (cI f0))), (a3, .inl (T 0, 9, .inl f1)), (a8, .inl (T 0, 9, .inl (cI f2)))] sz (fun (v : Int32) (u : Int × Int × (Int → Int) × (Nat → Int32)) => iI u.1 = v ∧ (-2147483648) ≤ u.1 ∧ u.1 ≤ 2147483647 ∧ 0 ≤ u.2.1 ∧ u.2.1 ≤ 9 ∧ rng 0 8 u.2.2.1) (fun u => [(a0, .inr (4, [.ref a2, .ref a3, .int (iI u.2.1)])), (a1, .inr (9, [.ref a4, .ref a5, .ref a6, .ref a7, .ref a8, .ref a9, .ref a10, .ref a11, .ref a12, .int (iI x3), .int (iI x4), .int (iI x5), .int r0, .int (iI x6), .int r1, .int r2, .int r3, .int r4])), (a2, .inl (T 0, 9, .inl (cI u.2.2.1))), (a3, .inl (T 0, 9, .inl u.2.2.2)), (a8, .inl (T 0, 9, .inl (cI f2)))])) 0 0 (va_A [(a0, .inr (4, [.ref a2, .ref a3, .int (iI x2)])), (a1, .inr (9, [.ref a4, .ref a5, .ref a6, .ref a7, .ref a8, .ref a9, .ref a10, .ref a11, .ref a12, .int (iI x3), .int (iI x4), .int (iI x5), .int r0, .int (iI x6), .int r1, .int r2, .int r3, .int r4])), (a2, .inl (T 0, 9, .inl (cI f0))), (a3, .inl (T 0, 9, .inl f1)), (a8, .inl (T 0, 9, .inl (cI f2)))] sz) := by
  refine e_I (by decide) (Nat.le_of_ble_eq_true rfl) ?_
  intro p e s m args below meth c A Q ls M hin w ret hl
  have hx := M.1.1
  have hb := M.1.2.1
  have hl : lv_has ls 6 [(0, .ref a0), (1, .ref a1), (2, .int (iI x0)), (3, .int (iI x1))] := hl
  refine lv_aload_n hx hb dX4_find_0 rfl (lv_at hl 0 rfl) ?_
  refine lv_aload_n hx hb dX4_find_1 rfl (lv_at hl 1 rfl) ?_
  refine lv_iload_n hx hb dX4_find_2 rfl (lv_at hl 2 rfl) ?_
  refine lv_iload_n hx hb dX4_find_3 rfl (lv_at hl 3 rfl) ?_
  refine k_I (ce := 0) (sl := 0) (rest := []) (wr := [(a2, .inl (T 0, 9, .inl (cI f0)))]) (r_V (f := 1) [0, 1, 3, 4] M w V_HookedCity_Path_22 G1047 G25 (c115_X4_layersUpTo l D T _ a0 a1 x0 x1 a2 a3 x2 a4 a5 a6 a7 a8 a9 a10 a11 a12 x3 x4 x5 r0 x6 r1 r2 r3 r4 f1 f2 x0_a x0_b x1_a x1_b x2_a x2_b x3_a x3_b x4_a x4_b x5_a x5_b x6_a x6_b f2_h) 0 clX4 rfl rfl (by decide) rfl hl.1 rfl (Nat.le_of_ble_eq_true rfl) dX4_find_4 (by decide) (by decide) (by decide) (by decide)) w [0, 1, 3, 4] [2] rfl rfl (by decide) (by decide) rfl rfl (fun v u H locs hp w => ?_)
  obtain ⟨z1, ff2⟩ := u
  have hv : iI z1 = v := hp.1
  subst hv
  have z1_a : (-1) ≤ z1 := hp.2.1
  have z1_b : z1 ≤ 8 := hp.2.2
  have w : WD D A s.heap [(a2, .inl (T 0, 9, .inl (cI f0))), (a0, .inr (4, [.ref a2, .ref a3, .int (iI x2)])), (a1, .inr (9, [.ref a4, .ref a5, .ref a6, .ref a7, .ref a8, .ref a9, .ref a10, .ref a11, .ref a12, .int (iI x3), .int (iI x4), .int (iI x5), .int r0, .int (iI x6), .int r1, .int r2, .int r3, .int r4])), (a3, .inl (T 0, 9, .inl ff2)), (a8, .inl (T 0, 9, .inl (cI f2)))] H locs := w
  refine lv_istore (lv' := [(4, .int (iI z1)), (0, .ref a0), (1, .ref a1), (2, .int (iI x0)), (3, .int (iI x1))]) hx hb dX4_find_7 hl (by decide) rfl (fun ls hl => ?_)
  refine lv_iload hx hb dX4_find_9 (lv_at hl 0 rfl) ?_
  refine lv_iconst (v := iI (-1)) hx hb dX4_find_11 (by decide +kernel) ?_
  refine lv_icmp_ne (tgt := 17) hx hb dX4_find_12 (by decide) (fun c_3 => ?_) (fun c_3 => ?_)
  · replace c_3 : ¬ z1 = (-1) := fun h => c_3 ((iI_eq (Int.le_trans (by decide) z1_a) (Int.le_trans z1_b (by decide)) (by decide) (by decide)).mpr h)
    refine lv_aload_n hx hb dX4_find_17 rfl (lv_at hl 1 rfl) ?_
    refine r_get (v := .ref a2) M w 1 0 clX4 rfl (by decide) G330 rfl rfl dX4_find_18 ?_
    refine lv_iconst (v := iI 0) hx hb dX4_find_21 (by decide +kernel) ?_
    refine lv_iload_n hx hb dX4_find_22 rfl (lv_at hl 3 rfl) ?_
    refine r_iast (ws' := [(a2, .inl (T 0, 9, .inl (cI (upz f0 0 x0)))), (a0, .inr (4, [.ref a2, .ref a3, .int (iI x2)])), (a1, .inr (9, [.ref a4, .ref a5, .ref a6, .ref a7, .ref a8, .ref a9, .ref a10, .ref a11, .ref a12, .int (iI x3), .int (iI x4), .int (iI x5), .int r0, .int (iI x6), .int r1, .int r2, .int r3, .int r4])), (a3, .inl (T 0, 9, .inl ff2)), (a8, .inl (T 0, 9, .inl (cI f2)))]) M w 0 rfl (iI_in (by decide) (by decide) (by decide)) (by rw [cI_up (by omega) (by omega)]; rfl) dX4_find_23 (fun H locs w => ?_)
    refine lv_iconst (v := iI 1) hx hb dX4_find_24 (by decide +kernel) ?_
    refine lv_istore (lv' := [(5, .int (iI 1)), (4, .int (iI z1)), (0, .ref a0), (1, .ref a1), (2, .int (iI x0)), (3, .int (iI x1))]) hx hb dX4_find_25 hl (by decide) rfl (fun ls hl => ?_)
    have loop1 : ∀ (k1 : Nat) (ff4 : Int → Int) (z5 : Int) (H : Heap) (locs : List Loc) (ls : Array Slot), rng 0 8 ff4 → 1 ≤ z5 → z5 ≤ 9 → ((9 - z5) : Int).toNat < k1 → WD D A s.heap [(a2, .inl (T 0, 9, .inl (cI ff4))), (a0, .inr (4, [.ref a2, .ref a3, .int (iI x2)])), (a1, .inr (9, [.ref a4, .ref a5, .ref a6, .ref a7, .ref a8, .ref a9, .ref a10, .ref a11, .ref a12, .int (iI x3), .int (iI x4), .int (iI x5), .int r0, .int (iI x6), .int r1, .int r2, .int r3, .int r4])), (a3, .inl (T 0, 9, .inl ff2)), (a8, .inl (T 0, 9, .inl (cI f2)))] H locs → lv_has ls 6 [(5, .int (iI z5)), (4, .int (iI z1)), (0, .ref a0), (1, .ref a1), (2, .int (iI x0)), (3, .int (iI x1))] → W p l e (Rm 2 0 0) s m args below meth c H locs 0 0 Q (F0 m 27 ls []) := by
      intro k1
      induction k1 with
      | zero => intro ff4 z5 H locs ls ff4_h z5_a z5_b hm; exact absurd hm (Nat.not_lt_zero _)
      | succ k1 ih1 =>
        intro ff4 z5 H locs ls ff4_h z5_a z5_b hm1 w hl
        refine lv_iload hx hb dX4_find_27 (lv_at hl 0 rfl) ?_
        refine lv_iload hx hb dX4_find_29 (lv_at hl 1 rfl) ?_
        refine lv_icmp_gt (tgt := 75) hx hb dX4_find_31 (by decide) (fun c_6 => ?_) (fun c_6 => ?_)
        · replace c_6 := (iI_lt (Int.le_trans (by decide) z1_a) (Int.le_trans z1_b (by decide)) (Int.le_trans (by decide) z5_a) (Int.le_trans z5_b (by decide))).mp c_6
          refine lv_aload_n hx hb dX4_find_75 rfl (lv_at hl 2 rfl) ?_
          refine lv_iload hx hb dX4_find_76 (lv_at hl 1 rfl) ?_
          refine lv_iconst (v := iI 1) hx hb dX4_find_78 (by decide +kernel) ?_
          refine r_iadd (v := iI (z1 + 1)) M (iI_add _ _) dX4_find_79 ?_
          refine r_put (ws' := [(a2, .inl (T 0, 9, .inl (cI ff4))), (a0, .inr (4, [.ref a2, .ref a3, .int (iI (z1 + 1))])), (a1, .inr (9, [.ref a4, .ref a5, .ref a6, .ref a7, .ref a8, .ref a9, .ref a10, .ref a11, .ref a12, .int (iI x3), .int (iI x4), .int (iI x5), .int r0, .int (iI x6), .int r1, .int r2, .int r3, .int r4])), (a3, .inl (T 0, 9, .inl ff2)), (a8, .inl (T 0, 9, .inl (cI f2)))]) M w 1 2 clX4 rfl (by decide) G333 rfl rfl rfl rfl (Nat.le_of_ble_eq_true rfl) rfl dX4_find_80 (fun H locs w => ?_)
          refine lv_iload hx hb dX4_find_83 (lv_at hl 1 rfl) ?_
          exact ret _ (z1, (z1 + 1), ff4, ff2) _ _ _ _ _ [1, 2, 0, 3, 4] dX4_find_85 ⟨rfl, (show (-2147483648) ≤ z1 from by omega), (show z1 ≤ 2147483647 from by omega), (show 0 ≤ (z1 + 1) from by omega), (show (z1 + 1) ≤ 9 from by omega), ff4_h⟩ w (by decide) rfl
        · replace c_6 : z5 ≤ z1 := Int.not_lt.mp (fun h => c_6 ((iI_lt (Int.le_trans (by decide) z1_a) (Int.le_trans z1_b (by decide)) (Int.le_trans (by decide) z5_a) (Int.le_trans z5_b (by decide))).mpr h))
          refine lv_aload_n hx hb dX4_find_34 rfl (lv_at hl 2 rfl) ?_
          refine r_get (v := .ref a2) M w 1 0 clX4 rfl (by decide) G330 rfl rfl dX4_find_35 ?_
          refine lv_iload hx hb dX4_find_38 (lv_at hl 0 rfl) ?_
          refine lv_aload_n hx hb dX4_find_40 rfl (lv_at hl 3 rfl) ?_
          refine r_getN (v := .ref a8) M w 2 4 clX9 rfl (by decide) N376 rfl rfl dX4_find_41 ?_
          refine lv_aload_n hx hb dX4_find_44 rfl (lv_at hl 2 rfl) ?_
          refine r_get (v := .ref a2) M w 1 0 clX4 rfl (by decide) G330 rfl rfl dX4_find_45 ?_
          refine lv_iload hx hb dX4_find_48 (lv_at hl 0 rfl) ?_
          refine lv_iconst (v := iI 1) hx hb dX4_find_50 (by decide +kernel) ?_
          refine r_isub (v := iI (z5 - 1)) M (iI_sub _ _) dX4_find_51 ?_
          refine r_iald (v := iI (ff4 (z5 - 1))) M w 0 rfl (iI_in (by omega) (by omega) (by decide)) (cI_at (by omega) (by omega)) dX4_find_52 ?_
          have hh7 : 0 ≤ (ff4 (z5 - 1)) ∧ (ff4 (z5 - 1)) ≤ 8 := ff4_h (z5 - 1)
          refine r_iald (v := iI (f2 (ff4 (z5 - 1)))) M w 4 rfl (iI_in (by omega) (by omega) (by decide)) (cI_at (by omega) (by omega)) dX4_find_53 ?_
          have hh8 : 0 ≤ (f2 (ff4 (z5 - 1))) ∧ (f2 (ff4 (z5 - 1))) ≤ 511 := f2_h (ff4 (z5 - 1))
          refine lv_aload_n hx hb dX4_find_54 rfl (lv_at hl 2 rfl) ?_
          refine r_get (v := .ref a3) M w 1 1 clX4 rfl (by decide) G332 rfl rfl dX4_find_55 ?_
          refine lv_iload hx hb dX4_find_58 (lv_at hl 1 rfl) ?_
          refine lv_iload hx hb dX4_find_60 (lv_at hl 0 rfl) ?_
          refine r_isub (v := iI (z1 - z5)) M (iI_sub _ _) dX4_find_62 ?_
          refine r_iald (v := _) M w 3 rfl (iI_in (by omega) (by omega) (by decide)) rfl dX4_find_63 ?_
          refine b_any (fun z9 z9_a z9_b => ?_)
          refine r_iand (v := _) M rfl dX4_find_64 ?_
          refine b_rng (lo := 0) (hi := (f2 (ff4 (z5 - 1)))) (iand_l (by omega) (by omega)) (fun z10 z10_a z10_b => ?_)
          refine k_I (ce := 0) (sl := 0) (rest := [.int (iI z5), .ref a2]) (wr := [(a2, .inl (T 0, 9, .inl (cI ff4))), (a0, .inr (4, [.ref a2, .ref a3, .int (iI x2)])), (a1, .inr (9, [.ref a4, .ref a5, .ref a6, .ref a7, .ref a8, .ref a9, .ref a10, .ref a11, .ref a12, .int (iI x3), .int (iI x4), .int (iI x5), .int r0, .int (iI x6), .int r1, .int r2, .int r3, .int r4])), (a3, .inl (T 0, 9, .inl ff2)), (a8, .inl (T 0, 9, .inl (cI f2)))]) (r_S (f := 1) [] M w V_HookedCity_Path_31 G1053 (c117_X4_firstOf l D T _ z10 (by omega) (by omega)) rfl (by decide) rfl hl.1 rfl (Nat.le_of_ble_eq_true rfl) dX4_find_65 (by decide) (by decide) (by decide) (by decide)) w [] [0, 1, 2, 3, 4] rfl rfl (by decide) (by decide) rfl rfl (fun v z11 H locs hp w => ?_)
          have hv : iI z11 = v := hp.1
          subst hv
          have z11_a : 0 ≤ z11 := hp.2.1
          have z11_b : z11 ≤ 8 := hp.2.2
          have w : WD D A s.heap [(a2, .inl (T 0, 9, .inl (cI ff4))), (a0, .inr (4, [.ref a2, .ref a3, .int (iI x2)])), (a1, .inr (9, [.ref a4, .ref a5, .ref a6, .ref a7, .ref a8, .ref a9, .ref a10, .ref a11, .ref a12, .int (iI x3), .int (iI x4), .int (iI x5), .int r0, .int (iI x6), .int r1, .int r2, .int r3, .int r4])), (a3, .inl (T 0, 9, .inl ff2)), (a8, .inl (T 0, 9, .inl (cI f2)))] H locs := w
          refine r_iast (ws' := [(a2, .inl (T 0, 9, .inl (cI (upz ff4 z5 z11)))), (a0, .inr (4, [.ref a2, .ref a3, .int (iI x2)])), (a1, .inr (9, [.ref a4, .ref a5, .ref a6, .ref a7, .ref a8, .ref a9, .ref a10, .ref a11, .ref a12, .int (iI x3), .int (iI x4), .int (iI x5), .int r0, .int (iI x6), .int r1, .int r2, .int r3, .int r4])), (a3, .inl (T 0, 9, .inl ff2)), (a8, .inl (T 0, 9, .inl (cI f2)))]) M w 0 rfl (iI_in (by omega) (by omega) (by decide)) (by rw [cI_up (by omega) (by omega)]; rfl) dX4_find_68 (fun H locs w => ?_)
          refine lv_iinc (v := iI (z5 + 1)) (lv' := [(5, .int (iI (z5 + 1))), (4, .int (iI z1)), (0, .ref a0), (1, .ref a1), (2, .int (iI x0)), (3, .int (iI x1))]) hx hb dX4_find_69 hl (k := 0) rfl (ii_inc (by decide +kernel)) (by decide) rfl (fun ls hl => ?_)
          refine lv_goto (tgt := 27) hx hb dX4_find_72 (by decide) ?_
          exact ih1 (upz ff4 z5 z11) (z5 + 1) _ _ _ (rng_up ff4_h (by omega) (by omega)) (by omega) (by omega) (by omega) w (lv_sub hl [0, 1, 2, 3, 4, 5] rfl)
    exact loop1 ((8 : Int).toNat + 1) (upz f0 0 x0) 1 _ _ _ (rng_up f0_h (by omega) (by omega)) (by decide) (by decide) (Nat.lt_succ_self _) w (lv_sub hl [0, 1, 2, 3, 4, 5] rfl)
  · replace c_3 := (iI_eq (Int.le_trans (by decide) z1_a) (Int.le_trans z1_b (by decide)) (by decide) (by decide)).mp c_3
    refine lv_iconst (v := iI (-1)) hx hb dX4_find_15 (by decide +kernel) ?_
    exact ret _ ((-1), x2, f0, ff2) _ _ _ _ _ [1, 2, 0, 3, 4] dX4_find_16 ⟨rfl, (show (-2147483648) ≤ (-1) from by decide), (show ((-1) : Int) ≤ 2147483647 from by decide), x2_a, x2_b, f0_h⟩ w (by decide) rfl
set_option maxRecDepth 100000 in
set_option maxHeartbeats 4000000 in
theorem c119_X6_isAsTold (l : Launch) (D : va_G) (T : Nat → ClassId) (sz : Nat) (a0 : Nat) (x0 : Int) (a1 : Nat) (x1 : Int) (r0 : Int32) (x2 : Int) (r1 : Int32) (r2 : Int32) (o0 : Option Nat) (y0 : Int64) (r3 : Int32) (r4 : Int32) (r5 : Int32) (r6 : Int32) (f0 : Nat → Int32) (x0_a : 0 ≤ x0) (x0_b : x0 ≤ 9) (x1_a : 0 ≤ x1) (x1_b : x1 ≤ 940) (x2_a : 0 ≤ x2) (x2_b : x2 ≤ 940) (o0_h : wok T o0) : Met l yX6_isAsTold (Cond.code yX6_isAsTold cX6_isAsTold 4 (some .boolean) :: GW) (Rm 0 0 0) (cPre [.ref a0, .int (iI x0)] D T [(a0, .inr (8, [.ref a1, .int (iI x1), .int r0, .int (iI x2), .int r1, .int r2, (va_rf o0), .long y0, .int r3, .int r4, .int r5, .int r6])), (a1, .inl (T 0, 940, .inl f0))] sz) (qI D [(a0, .inr (8, [.ref a1, .int (iI x1), .int r0, .int (iI x2), .int r1, .int r2, (va_rf o0), .long y0, .int r3, .int r4, .int r5, .int r6])), (a1, .inl (T 0, 940, .inl f0))] sz (fun (v : Int32) (u : Int) => iI u = v ∧ 0 ≤ u ∧ u ≤ 1) (fun u => [(a0, .inr (8, [.ref a1, .int (iI x1), .int r0, .int (iI x2), .int r1, .int r2, (va_rf o0), .long y0, .int r3, .int r4, .int r5, .int r6])), (a1, .inl (T 0, 940, .inl f0))])) 0 0 (va_A [(a0, .inr (8, [.ref a1, .int (iI x1), .int r0, .int (iI x2), .int r1, .int r2, (va_rf o0), .long y0, .int r3, .int r4, .int r5, .int r6])), (a1, .inl (T 0, 940, .inl f0))] sz) := by
  refine e_Z (by decide) (Nat.le_of_ble_eq_true rfl) ?_
  intro p e s m args below meth c A Q ls M hin w ret hl
  have hx := M.1.1
  have hb := M.1.2.1
  have hl : lv_has ls 4 [(0, .ref a0), (1, .int (iI x0))] := hl
  refine lv_aload_n hx hb dX6_isAsTold_0 rfl (lv_at hl 0 rfl) ?_
  refine r_getN (v := .int (iI x1)) M w 0 1 clX8 rfl (by decide) N163 rfl rfl dX6_isAsTold_1 ?_
  refine lv_iconst (v := iI 2) hx hb dX6_isAsTold_4 (by decide +kernel) ?_
  refine lv_icmp_lt (tgt := 26) hx hb dX6_isAsTold_5 (by decide) (fun c_1 => ?_) (fun c_1 => ?_)
  · replace c_1 := (iI_lt (Int.le_trans (by decide) x1_a) (Int.le_trans x1_b (by decide)) (by decide) (by decide)).mp c_1
    refine lv_iconst (v := iI 0) hx hb dX6_isAsTold_26 (by decide +kernel) ?_
    exact ret _ 0 _ _ _ _ _ [0, 1] dX6_isAsTold_27 (by decide +kernel) ⟨rfl, (show (0 : Int) ≤ 0 from by decide), (show (0 : Int) ≤ 1 from by decide)⟩ w (by decide) rfl
  · replace c_1 : 2 ≤ x1 := Int.not_lt.mp (fun h => c_1 ((iI_lt (Int.le_trans (by decide) x1_a) (Int.le_trans x1_b (by decide)) (by decide) (by decide)).mpr h))
    refine lv_aload_n hx hb dX6_isAsTold_8 rfl (lv_at hl 0 rfl) ?_
    refine r_getN (v := .int (iI x1)) M w 0 1 clX8 rfl (by decide) N163 rfl rfl dX6_isAsTold_9 ?_
    refine lv_bipush (v := iI 16) hx hb dX6_isAsTold_12 (by decide +kernel) ?_
    refine lv_icmp_gt (tgt := 26) hx hb dX6_isAsTold_14 (by decide) (fun c_2 => ?_) (fun c_2 => ?_)
    · replace c_2 := (iI_lt (by decide) (by decide) (Int.le_trans (by decide) x1_a) (Int.le_trans x1_b (by decide))).mp c_2
      refine lv_iconst (v := iI 0) hx hb dX6_isAsTold_26 (by decide +kernel) ?_
      exact ret _ 0 _ _ _ _ _ [0, 1] dX6_isAsTold_27 (by decide +kernel) ⟨rfl, (show (0 : Int) ≤ 0 from by decide), (show (0 : Int) ≤ 1 from by decide)⟩ w (by decide) rfl
    · replace c_2 : x1 ≤ 16 := Int.not_lt.mp (fun h => c_2 ((iI_lt (by decide) (by decide) (Int.le_trans (by decide) x1_a) (Int.le_trans x1_b (by decide))).mpr h))
      refine lv_aload_n hx hb dX6_isAsTold_17 rfl (lv_at hl 0 rfl) ?_
      refine r_getN (v := .int (iI x1)) M w 0 1 clX8 rfl (by decide) N163 rfl rfl dX6_isAsTold_18 ?_
      refine lv_iconst (v := iI 2) hx hb dX6_isAsTold_21 (by decide +kernel) ?_
      refine r_irem (v := _) M rfl (iz_ne (by decide) (by decide) (Or.inr (by omega))) dX6_isAsTold_22 ?_
      refine b_rng (lo := 0) (hi := 1) (irem_r (by omega) (by omega) (by omega) (by omega)) (fun z3 z3_a z3_b => ?_)
      refine lv_if_eq (tgt := 28) hx hb dX6_isAsTold_23 (by decide) (fun c_4 => ?_) (fun c_4 => ?_)
      · replace c_4 := (iz_eq (Int.le_trans (by decide) z3_a) (Int.le_trans z3_b (by decide))).mp c_4
        refine lv_iconst (v := iI 0) hx hb dX6_isAsTold_28 (by decide +kernel) ?_
        refine lv_istore_n (lv' := [(2, .int (iI 0)), (0, .ref a0), (1, .int (iI x0))]) hx hb dX6_isAsTold_29 rfl hl (by decide) rfl (fun ls hl => ?_)
        have loop1 : ∀ (k1 : Nat) (z5 : Int) (H : Heap) (locs : List Loc) (ls : Array Slot), 0 ≤ z5 → z5 ≤ 16 → ((x1 - z5) : Int).toNat < k1 → WD D A s.heap [(a0, .inr (8, [.ref a1, .int (iI x1), .int r0, .int (iI x2), .int r1, .int r2, (va_rf o0), .long y0, .int r3, .int r4, .int r5, .int r6])), (a1, .inl (T 0, 940, .inl f0))] H locs → lv_has ls 4 [(2, .int (iI z5)), (0, .ref a0), (1, .int (iI x0))] → W p l e (Rm 0 0 0) s m args below meth c H locs 0 0 Q (F0 m 30 ls []) := by
          intro k1
          induction k1 with
          | zero => intro z5 H locs ls z5_a z5_b hm; exact absurd hm (Nat.not_lt_zero _)
          | succ k1 ih1 =>
            intro z5 H locs ls z5_a z5_b hm1 w hl
            refine lv_iload_n hx hb dX6_isAsTold_30 rfl (lv_at hl 0 rfl) ?_
            refine lv_iconst (v := iI 1) hx hb dX6_isAsTold_31 (by decide +kernel) ?_
            refine r_iadd (v := iI (z5 + 1)) M (iI_add _ _) dX6_isAsTold_32 ?_
            refine lv_aload_n hx hb dX6_isAsTold_33 rfl (lv_at hl 1 rfl) ?_
            refine r_getN (v := .int (iI x1)) M w 0 1 clX8 rfl (by decide) N163 rfl rfl dX6_isAsTold_34 ?_
            refine lv_icmp_ge (tgt := 79) hx hb dX6_isAsTold_37 (by decide) (fun c_6 => ?_) (fun c_6 => ?_)
            · replace c_6 := (iI_le (Int.le_trans (by decide) x1_a) (Int.le_trans x1_b (by decide)) (by omega) (by omega)).mp c_6
              refine lv_iconst (v := iI 1) hx hb dX6_isAsTold_79 (by decide +kernel) ?_
              exact ret _ 1 _ _ _ _ _ [0, 1] dX6_isAsTold_80 (by decide +kernel) ⟨rfl, (show (0 : Int) ≤ 1 from by decide), (show (1 : Int) ≤ 1 from by decide)⟩ w (by decide) rfl
            · replace c_6 : (z5 + 1) < x1 := Int.not_le.mp (fun h => c_6 ((iI_le (Int.le_trans (by decide) x1_a) (Int.le_trans x1_b (by decide)) (by omega) (by omega)).mpr h))
              refine lv_aload_n hx hb dX6_isAsTold_40 rfl (lv_at hl 1 rfl) ?_
              refine r_getN (v := .ref a1) M w 0 0 clX8 rfl (by decide) N161 rfl rfl dX6_isAsTold_41 ?_
              refine lv_iload_n hx hb dX6_isAsTold_44 rfl (lv_at hl 0 rfl) ?_
              refine lv_iconst (v := iI 1) hx hb dX6_isAsTold_45 (by decide +kernel) ?_
              refine r_iadd (v := iI (z5 + 1)) M (iI_add _ _) dX6_isAsTold_46 ?_
              refine r_iald (v := _) M w 1 rfl (iI_in (by omega) (by omega) (by decide)) rfl dX6_isAsTold_47 ?_
              refine b_any (fun z7 z7_a z7_b => ?_)
              refine lv_istore_n (lv' := [(3, .int (iI z7)), (2, .int (iI z5)), (0, .ref a0), (1, .int (iI x0))]) hx hb dX6_isAsTold_48 rfl hl (by decide) rfl (fun ls hl => ?_)
              refine lv_aload_n hx hb dX6_isAsTold_49 rfl (lv_at hl 2 rfl) ?_
              refine r_getN (v := .ref a1) M w 0 0 clX8 rfl (by decide) N161 rfl rfl dX6_isAsTold_50 ?_
              refine lv_iload_n hx hb dX6_isAsTold_53 rfl (lv_at hl 1 rfl) ?_
              refine r_iald (v := _) M w 1 rfl (iI_in (by omega) (by omega) (by decide)) rfl dX6_isAsTold_54 ?_
              refine b_any (fun z8 z8_a z8_b => ?_)
              refine lv_iload_n hx hb dX6_isAsTold_55 rfl (lv_at hl 3 rfl) ?_
              refine lv_icmp_ge (tgt := 71) hx hb dX6_isAsTold_56 (by decide) (fun c_9 => ?_) (fun c_9 => ?_)
              · replace c_9 := (iI_le (Int.le_trans (by decide) x0_a) (Int.le_trans x0_b (by decide)) (Int.le_trans (by decide) z8_a) (Int.le_trans z8_b (by decide))).mp c_9
                refine lv_iconst (v := iI 0) hx hb dX6_isAsTold_71 (by decide +kernel) ?_
                exact ret _ 0 _ _ _ _ _ [0, 1] dX6_isAsTold_72 (by decide +kernel) ⟨rfl, (show (0 : Int) ≤ 0 from by decide), (show (0 : Int) ≤ 1 from by decide)⟩ w (by decide) rfl
              · replace c_9 : z8 < x0 := Int.not_le.mp (fun h => c_9 ((iI_le (Int.le_trans (by decide) x0_a) (Int.le_trans x0_b (by decide)) (Int.le_trans (by decide) z8_a) (Int.le_trans z8_b (by decide))).mpr h))
                refine lv_iload_n hx hb dX6_isAsTold_59 rfl (lv_at hl 0 rfl) ?_
                refine lv_iload_n hx hb dX6_isAsTold_60 rfl (lv_at hl 3 rfl) ?_
                refine lv_icmp_lt (tgt := 73) hx hb dX6_isAsTold_61 (by decide) (fun c_10 => ?_) (fun c_10 => ?_)
                · replace c_10 := (iI_lt (Int.le_trans (by decide) z7_a) (Int.le_trans z7_b (by decide)) (Int.le_trans (by decide) x0_a) (Int.le_trans x0_b (by decide))).mp c_10
                  refine lv_iinc (v := iI (z5 + 2)) (lv' := [(2, .int (iI (z5 + 2))), (3, .int (iI z7)), (0, .ref a0), (1, .int (iI x0))]) hx hb dX6_isAsTold_73 hl (k := 1) rfl (ii_inc (by decide +kernel)) (by decide) rfl (fun ls hl => ?_)
                  refine lv_goto (tgt := 30) hx hb dX6_isAsTold_76 (by decide) ?_
                  exact ih1 (z5 + 2) _ _ _ (by omega) (by omega) (by omega) w (lv_sub hl [0, 2, 3] rfl)
                · replace c_10 : x0 ≤ z7 := Int.not_lt.mp (fun h => c_10 ((iI_lt (Int.le_trans (by decide) z7_a) (Int.le_trans z7_b (by decide)) (Int.le_trans (by decide) x0_a) (Int.le_trans x0_b (by decide))).mpr h))
                  refine lv_iload_n hx hb dX6_isAsTold_64 rfl (lv_at hl 0 rfl) ?_
                  refine lv_sipush (v := iI 255) hx hb dX6_isAsTold_65 (by decide +kernel) ?_
                  refine lv_icmp_eq (tgt := 73) hx hb dX6_isAsTold_68 (by decide) (fun c_11 => ?_) (fun c_11 => ?_)
                  · replace c_11 := (iI_eq (Int.le_trans (by decide) z7_a) (Int.le_trans z7_b (by decide)) (by decide) (by decide)).mp c_11
                    refine lv_iinc (v := iI (z5 + 2)) (lv' := [(2, .int (iI (z5 + 2))), (3, .int (iI z7)), (0, .ref a0), (1, .int (iI x0))]) hx hb dX6_isAsTold_73 hl (k := 1) rfl (ii_inc (by decide +kernel)) (by decide) rfl (fun ls hl => ?_)
                    refine lv_goto (tgt := 30) hx hb dX6_isAsTold_76 (by decide) ?_
                    exact ih1 (z5 + 2) _ _ _ (by omega) (by omega) (by omega) w (lv_sub hl [0, 2, 3] rfl)
                  · replace c_11 : ¬ z7 = 255 := fun h => c_11 ((iI_eq (Int.le_trans (by decide) z7_a) (Int.le_trans z7_b (by decide)) (by decide) (by decide)).mpr h)
                    refine lv_iconst (v := iI 0) hx hb dX6_isAsTold_71 (by decide +kernel) ?_
                    exact ret _ 0 _ _ _ _ _ [0, 1] dX6_isAsTold_72 (by decide +kernel) ⟨rfl, (show (0 : Int) ≤ 0 from by decide), (show (0 : Int) ≤ 1 from by decide)⟩ w (by decide) rfl
        exact loop1 (((x1 - 0) : Int).toNat + 1) 0 _ _ _ (by decide) (by decide) (Nat.lt_succ_self _) w (lv_sub hl [0, 1, 2] rfl)
      · replace c_4 : ¬ z3 = 0 := fun h => c_4 ((iz_eq (Int.le_trans (by decide) z3_a) (Int.le_trans z3_b (by decide))).mpr h)
        refine lv_iconst (v := iI 0) hx hb dX6_isAsTold_26 (by decide +kernel) ?_
        exact ret _ 0 _ _ _ _ _ [0, 1] dX6_isAsTold_27 (by decide +kernel) ⟨rfl, (show (0 : Int) ≤ 0 from by decide), (show (0 : Int) ≤ 1 from by decide)⟩ w (by decide) rfl
set_option maxRecDepth 100000 in
set_option maxHeartbeats 4000000 in
theorem c120_J6_bitCount_0f7a4 (l : Launch) (D : va_G) (T : Nat → ClassId) (sz : Nat) (x0 : Int) (x0_a : (-2147483648) ≤ x0) (x0_b : x0 ≤ 2147483647) : Met l yJ6_bitCount_0f7a4 (Cond.code yJ6_bitCount_0f7a4 cJ6_bitCount_0f7a4 1 (some .int) :: GW) (Rm 0 0 0) (cPre [.int (iI x0)] D T [] sz) (qI D [] sz (fun (v : Int32) (u : Int) => iI u = v ∧ (-2147483648) ≤ u ∧ u ≤ 2147483647) (fun u => [])) 0 0 (va_A [] sz) := by
  refine e_I (by decide) (Nat.le_of_ble_eq_true rfl) ?_
  intro p e s m args below meth c A Q ls M hin w ret hl
  have hx := M.1.1
  have hb := M.1.2.1
  have hl : lv_has ls 1 [(0, .int (iI x0))] := hl
  refine lv_iload_n hx hb dJ6_bitCount_0f7a4_0 rfl (lv_at hl 0 rfl) ?_
  refine lv_iload_n hx hb dJ6_bitCount_0f7a4_1 rfl (lv_at hl 0 rfl) ?_
  refine lv_iconst (v := iI 1) hx hb dJ6_bitCount_0f7a4_2 (by decide +kernel) ?_
  refine r_iushr (v := _) M rfl dJ6_bitCount_0f7a4_3 ?_
  refine b_any (fun z1 z1_a z1_b => ?_)
  refine lv_ldcw (v := _) hx hb M.1.2.2.2.1 (M.1.2.2.2.2 _ G1025) dJ6_bitCount_0f7a4_4 ?_
  refine b_lit (z := 1431655765) (by decide +kernel) ?_
  refine r_iand (v := _) M rfl dJ6_bitCount_0f7a4_7 ?_
  refine b_rng (lo := 0) (hi := 1431655765) (iand_r (by omega) (by omega)) (fun z2 z2_a z2_b => ?_)
  refine r_isub (v := _) M rfl dJ6_bitCount_0f7a4_8 ?_
  refine b_any (fun z3 z3_a z3_b => ?_)
  refine lv_istore_n (lv' := [(0, .int (iI z3))]) hx hb dJ6_bitCount_0f7a4_9 rfl hl (by decide) rfl (fun ls hl => ?_)
  refine lv_iload_n hx hb dJ6_bitCount_0f7a4_10 rfl (lv_at hl 0 rfl) ?_
  refine lv_ldcw (v := _) hx hb M.1.2.2.2.1 (M.1.2.2.2.2 _ G1026) dJ6_bitCount_0f7a4_11 ?_
  refine b_lit (z := 858993459) (by decide +kernel) ?_
  refine r_iand (v := _) M rfl dJ6_bitCount_0f7a4_14 ?_
  refine b_rng (lo := 0) (hi := 858993459) (iand_r (by omega) (by omega)) (fun z4 z4_a z4_b => ?_)
  refine lv_iload_n hx hb dJ6_bitCount_0f7a4_15 rfl (lv_at hl 0 rfl) ?_
  refine lv_iconst (v := iI 2) hx hb dJ6_bitCount_0f7a4_16 (by decide +kernel) ?_
  refine r_iushr (v := _) M rfl dJ6_bitCount_0f7a4_17 ?_
  refine b_any (fun z5 z5_a z5_b => ?_)
  refine lv_ldcw (v := _) hx hb M.1.2.2.2.1 (M.1.2.2.2.2 _ G1026) dJ6_bitCount_0f7a4_18 ?_
  refine b_lit (z := 858993459) (by decide +kernel) ?_
  refine r_iand (v := _) M rfl dJ6_bitCount_0f7a4_21 ?_
  refine b_rng (lo := 0) (hi := 858993459) (iand_r (by omega) (by omega)) (fun z6 z6_a z6_b => ?_)
  refine r_iadd (v := iI (z4 + z6)) M (iI_add _ _) dJ6_bitCount_0f7a4_22 ?_
  refine lv_istore_n (lv' := [(0, .int (iI (z4 + z6)))]) hx hb dJ6_bitCount_0f7a4_23 rfl hl (by decide) rfl (fun ls hl => ?_)
  refine lv_iload_n hx hb dJ6_bitCount_0f7a4_24 rfl (lv_at hl 0 rfl) ?_
  refine lv_iload_n hx hb dJ6_bitCount_0f7a4_25 rfl (lv_at hl 0 rfl) ?_
  refine lv_iconst (v := iI 4) hx hb dJ6_bitCount_0f7a4_26 (by decide +kernel) ?_
  refine r_iushr (v := _) M rfl dJ6_bitCount_0f7a4_27 ?_
  refine b_rng (lo := (z4 + z6) / 16) (hi := (z4 + z6) / 16) (iushr_d 4 (by decide +kernel) (by omega) (by omega)) (fun z7 z7_a z7_b => ?_)
  refine r_iadd (v := iI ((z4 + z6) + z7)) M (iI_add _ _) dJ6_bitCount_0f7a4_28 ?_
  refine lv_ldcw (v := _) hx hb M.1.2.2.2.1 (M.1.2.2.2.2 _ G1027) dJ6_bitCount_0f7a4_29 ?_
  refine b_lit (z := 252645135) (by decide +kernel) ?_
  refine r_iand (v := _) M rfl dJ6_bitCount_0f7a4_32 ?_
  refine b_rng (lo := 0) (hi := 252645135) (iand_r (by omega) (by omega)) (fun z8 z8_a z8_b => ?_)
  refine lv_istore_n (lv' := [(0, .int (iI z8))]) hx hb dJ6_bitCount_0f7a4_33 rfl hl (by decide) rfl (fun ls hl => ?_)
  refine lv_iload_n hx hb dJ6_bitCount_0f7a4_34 rfl (lv_at hl 0 rfl) ?_
  refine lv_iload_n hx hb dJ6_bitCount_0f7a4_35 rfl (lv_at hl 0 rfl) ?_
  refine lv_bipush (v := iI 8) hx hb dJ6_bitCount_0f7a4_36 (by decide +kernel) ?_
  refine r_iushr (v := _) M rfl dJ6_bitCount_0f7a4_38 ?_
  refine b_rng (lo := z8 / 256) (hi := z8 / 256) (iushr_d 8 (by decide +kernel) (by omega) (by omega)) (fun z9 z9_a z9_b => ?_)
  refine r_iadd (v := iI (z8 + z9)) M (iI_add _ _) dJ6_bitCount_0f7a4_39 ?_
  refine lv_istore_n (lv' := [(0, .int (iI (z8 + z9)))]) hx hb dJ6_bitCount_0f7a4_40 rfl hl (by decide) rfl (fun ls hl => ?_)
  refine lv_iload_n hx hb dJ6_bitCount_0f7a4_41 rfl (lv_at hl 0 rfl) ?_
  refine lv_iload_n hx hb dJ6_bitCount_0f7a4_42 rfl (lv_at hl 0 rfl) ?_
  refine lv_bipush (v := iI 16) hx hb dJ6_bitCount_0f7a4_43 (by decide +kernel) ?_
  refine r_iushr (v := _) M rfl dJ6_bitCount_0f7a4_45 ?_
  refine b_rng (lo := (z8 + z9) / 65536) (hi := (z8 + z9) / 65536) (iushr_d 16 (by decide +kernel) (by omega) (by omega)) (fun z10 z10_a z10_b => ?_)
  refine r_iadd (v := iI ((z8 + z9) + z10)) M (iI_add _ _) dJ6_bitCount_0f7a4_46 ?_
  refine lv_istore_n (lv' := [(0, .int (iI ((z8 + z9) + z10)))]) hx hb dJ6_bitCount_0f7a4_47 rfl hl (by decide) rfl (fun ls hl => ?_)
  refine lv_iload_n hx hb dJ6_bitCount_0f7a4_48 rfl (lv_at hl 0 rfl) ?_
  refine lv_bipush (v := iI 63) hx hb dJ6_bitCount_0f7a4_49 (by decide +kernel) ?_
  refine r_iand (v := _) M rfl dJ6_bitCount_0f7a4_51 ?_
  refine b_rng (lo := 0) (hi := 63) (iand_r (by omega) (by omega)) (fun z11 z11_a z11_b => ?_)
  exact ret _ z11 _ _ _ _ _ [] dJ6_bitCount_0f7a4_52 ⟨rfl, (show (-2147483648) ≤ z11 from by omega), (show z11 ≤ 2147483647 from by omega)⟩ w (by decide) rfl
set_option maxRecDepth 100000 in
set_option maxHeartbeats 4000000 in
theorem c121_J6_numberOfTrailingZeros_0f7a4 (l : Launch) (D : va_G) (T : Nat → ClassId) (sz : Nat) (x0 : Int) (x0_a : (-2147483648) ≤ x0) (x0_b : x0 ≤ 2147483647) : Met l yJ6_numberOfTrailingZeros_0f7a4 (Cond.code yJ6_numberOfTrailingZeros_0f7a4 cJ6_numberOfTrailingZeros_0f7a4 2 (some .int) :: GW) (Rm 0 0 0) (cPre [.int (iI x0)] D T [] sz) (qI D [] sz (fun (v : Int32) (u : Int) => iI u = v ∧ (-2147483648) ≤ u ∧ u ≤ 2147483647) (fun u => [])) 0 0 (va_A [] sz) := by
  refine e_I (by decide) (Nat.le_of_ble_eq_true rfl) ?_
  intro p e s m args below meth c A Q ls M hin w ret hl
  have hx := M.1.1
  have hb := M.1.2.1
  have hl : lv_has ls 2 [(0, .int (iI x0))] := hl
  refine lv_iload_n hx hb dJ6_numberOfTrailingZeros_0f7a4_0 rfl (lv_at hl 0 rfl) ?_
  refine lv_iconst (v := iI (-1)) hx hb dJ6_numberOfTrailingZeros_0f7a4_1 (by decide +kernel) ?_
  refine r_ixor (v := _) M rfl dJ6_numberOfTrailingZeros_0f7a4_2 ?_
  refine b_any (fun z1 z1_a z1_b => ?_)
  refine lv_iload_n hx hb dJ6_numberOfTrailingZeros_0f7a4_3 rfl (lv_at hl 0 rfl) ?_
  refine lv_iconst (v := iI 1) hx hb dJ6_numberOfTrailingZeros_0f7a4_4 (by decide +kernel) ?_
  refine r_isub (v := _) M rfl dJ6_numberOfTrailingZeros_0f7a4_5 ?_
  refine b_any (fun z2 z2_a z2_b => ?_)
  refine r_iand (v := _) M rfl dJ6_numberOfTrailingZeros_0f7a4_6 ?_
  refine b_any (fun z3 z3_a z3_b => ?_)
  refine lv_istore_n (lv' := [(0, .int (iI z3))]) hx hb dJ6_numberOfTrailingZeros_0f7a4_7 rfl hl (by decide) rfl (fun ls hl => ?_)
  refine lv_iload_n hx hb dJ6_numberOfTrailingZeros_0f7a4_8 rfl (lv_at hl 0 rfl) ?_
  refine lv_if_gt (tgt := 17) hx hb dJ6_numberOfTrailingZeros_0f7a4_9 (by decide) (fun c_4 => ?_) (fun c_4 => ?_)
  · replace c_4 := (iz_gt (Int.le_trans (by decide) z3_a) (Int.le_trans z3_b (by decide))).mp c_4
    refine lv_iconst (v := iI 1) hx hb dJ6_numberOfTrailingZeros_0f7a4_17 (by decide +kernel) ?_
    refine lv_istore_n (lv' := [(1, .int (iI 1)), (0, .int (iI z3))]) hx hb dJ6_numberOfTrailingZeros_0f7a4_18 rfl hl (by decide) rfl (fun ls hl => ?_)
    refine lv_iload_n hx hb dJ6_numberOfTrailingZeros_0f7a4_19 rfl (lv_at hl 1 rfl) ?_
    refine lv_ldcw (v := _) hx hb M.1.2.2.2.1 (M.1.2.2.2.2 _ G1015) dJ6_numberOfTrailingZeros_0f7a4_20 ?_
    refine b_lit (z := 65536) (by decide +kernel) ?_
    refine lv_icmp_le (tgt := 34) hx hb dJ6_numberOfTrailingZeros_0f7a4_23 (by decide) (fun c_5 => ?_) (fun c_5 => ?_)
    · replace c_5 := (iI_le (Int.le_trans (by decide) z3_a) (Int.le_trans z3_b (by decide)) (by decide) (by decide)).mp c_5
      refine lv_iload_n hx hb dJ6_numberOfTrailingZeros_0f7a4_34 rfl (lv_at hl 1 rfl) ?_
      refine lv_sipush (v := iI 256) hx hb dJ6_numberOfTrailingZeros_0f7a4_35 (by decide +kernel) ?_
      refine lv_icmp_le (tgt := 49) hx hb dJ6_numberOfTrailingZeros_0f7a4_38 (by decide) (fun c_6 => ?_) (fun c_6 => ?_)
      · replace c_6 := (iI_le (Int.le_trans (by decide) z3_a) (Int.le_trans z3_b (by decide)) (by decide) (by decide)).mp c_6
        refine lv_iload_n hx hb dJ6_numberOfTrailingZeros_0f7a4_49 rfl (lv_at hl 1 rfl) ?_
        refine lv_bipush (v := iI 16) hx hb dJ6_numberOfTrailingZeros_0f7a4_50 (by decide +kernel) ?_
        refine lv_icmp_le (tgt := 62) hx hb dJ6_numberOfTrailingZeros_0f7a4_52 (by decide) (fun c_7 => ?_) (fun c_7 => ?_)
        · replace c_7 := (iI_le (Int.le_trans (by decide) z3_a) (Int.le_trans z3_b (by decide)) (by decide) (by decide)).mp c_7
          refine lv_iload_n hx hb dJ6_numberOfTrailingZeros_0f7a4_62 rfl (lv_at hl 1 rfl) ?_
          refine lv_iconst (v := iI 4) hx hb dJ6_numberOfTrailingZeros_0f7a4_63 (by decide +kernel) ?_
          refine lv_icmp_le (tgt := 74) hx hb dJ6_numberOfTrailingZeros_0f7a4_64 (by decide) (fun c_8 => ?_) (fun c_8 => ?_)
          · replace c_8 := (iI_le (Int.le_trans (by decide) z3_a) (Int.le_trans z3_b (by decide)) (by decide) (by decide)).mp c_8
            refine lv_iload_n hx hb dJ6_numberOfTrailingZeros_0f7a4_74 rfl (lv_at hl 0 rfl) ?_
            refine lv_iload_n hx hb dJ6_numberOfTrailingZeros_0f7a4_75 rfl (lv_at hl 1 rfl) ?_
            refine lv_iconst (v := iI 1) hx hb dJ6_numberOfTrailingZeros_0f7a4_76 (by decide +kernel) ?_
            refine r_iushr (v := _) M rfl dJ6_numberOfTrailingZeros_0f7a4_77 ?_
            refine b_rng (lo := z3 / 2) (hi := z3 / 2) (iushr_d 1 (by decide +kernel) (by omega) (by omega)) (fun z9 z9_a z9_b => ?_)
            refine r_iadd (v := iI (1 + z9)) M (iI_add _ _) dJ6_numberOfTrailingZeros_0f7a4_78 ?_
            exact ret _ (1 + z9) _ _ _ _ _ [] dJ6_numberOfTrailingZeros_0f7a4_79 ⟨rfl, (show (-2147483648) ≤ (1 + z9) from by omega), (show (1 + z9) ≤ 2147483647 from by omega)⟩ w (by decide) rfl
          · replace c_8 : 4 < z3 := Int.not_le.mp (fun h => c_8 ((iI_le (Int.le_trans (by decide) z3_a) (Int.le_trans z3_b (by decide)) (by decide) (by decide)).mpr h))
            refine lv_iinc (v := iI 3) (lv' := [(1, .int (iI 3)), (0, .int (iI z3))]) hx hb dJ6_numberOfTrailingZeros_0f7a4_67 hl (k := 0) rfl (by decide +kernel) (by decide) rfl (fun ls hl => ?_)
            refine lv_iload_n hx hb dJ6_numberOfTrailingZeros_0f7a4_70 rfl (lv_at hl 1 rfl) ?_
            refine lv_iconst (v := iI 2) hx hb dJ6_numberOfTrailingZeros_0f7a4_71 (by decide +kernel) ?_
            refine r_iushr (v := _) M rfl dJ6_numberOfTrailingZeros_0f7a4_72 ?_
            refine b_rng (lo := z3 / 4) (hi := z3 / 4) (iushr_d 2 (by decide +kernel) (by omega) (by omega)) (fun z10 z10_a z10_b => ?_)
            refine lv_istore_n (lv' := [(0, .int (iI z10)), (1, .int (iI 3))]) hx hb dJ6_numberOfTrailingZeros_0f7a4_73 rfl hl (by decide) rfl (fun ls hl => ?_)
            refine lv_iload_n hx hb dJ6_numberOfTrailingZeros_0f7a4_74 rfl (lv_at hl 1 rfl) ?_
            refine lv_iload_n hx hb dJ6_numberOfTrailingZeros_0f7a4_75 rfl (lv_at hl 0 rfl) ?_
            refine lv_iconst (v := iI 1) hx hb dJ6_numberOfTrailingZeros_0f7a4_76 (by decide +kernel) ?_
            refine r_iushr (v := _) M rfl dJ6_numberOfTrailingZeros_0f7a4_77 ?_
            refine b_rng (lo := z10 / 2) (hi := z10 / 2) (iushr_d 1 (by decide +kernel) (by omega) (by omega)) (fun z11 z11_a z11_b => ?_)
            refine r_iadd (v := iI (3 + z11)) M (iI_add _ _) dJ6_numberOfTrailingZeros_0f7a4_78 ?_
            exact ret _ (3 + z11) _ _ _ _ _ [] dJ6_numberOfTrailingZeros_0f7a4_79 ⟨rfl, (show (-2147483648) ≤ (3 + z11) from by omega), (show (3 + z11) ≤ 2147483647 from by omega)⟩ w (by decide) rfl
        · replace c_7 : 16 < z3 := Int.not_le.mp (fun h => c_7 ((iI_le (Int.le_trans (by decide) z3_a) (Int.le_trans z3_b (by decide)) (by decide) (by decide)).mpr h))
          refine lv_iinc (v := iI 5) (lv' := [(1, .int (iI 5)), (0, .int (iI z3))]) hx hb dJ6_numberOfTrailingZeros_0f7a4_55 hl (k := 0) rfl (by decide +kernel) (by decide) rfl (fun ls hl => ?_)
          refine lv_iload_n hx hb dJ6_numberOfTrailingZeros_0f7a4_58 rfl (lv_at hl 1 rfl) ?_
          refine lv_iconst (v := iI 4) hx hb dJ6_numberOfTrailingZeros_0f7a4_59 (by decide +kernel) ?_
          refine r_iushr (v := _) M rfl dJ6_numberOfTrailingZeros_0f7a4_60 ?_
          refine b_rng (lo := z3 / 16) (hi := z3 / 16) (iushr_d 4 (by decide +kernel) (by omega) (by omega)) (fun z12 z12_a z12_b => ?_)
          refine lv_istore_n (lv' := [(0, .int (iI z12)), (1, .int (iI 5))]) hx hb dJ6_numberOfTrailingZeros_0f7a4_61 rfl hl (by decide) rfl (fun ls hl => ?_)
          refine lv_iload_n hx hb dJ6_numberOfTrailingZeros_0f7a4_62 rfl (lv_at hl 0 rfl) ?_
          refine lv_iconst (v := iI 4) hx hb dJ6_numberOfTrailingZeros_0f7a4_63 (by decide +kernel) ?_
          refine lv_icmp_le (tgt := 74) hx hb dJ6_numberOfTrailingZeros_0f7a4_64 (by decide) (fun c_13 => ?_) (fun c_13 => ?_)
          · replace c_13 := (iI_le (by omega) (by omega) (by decide) (by decide)).mp c_13
            refine lv_iload_n hx hb dJ6_numberOfTrailingZeros_0f7a4_74 rfl (lv_at hl 1 rfl) ?_
            refine lv_iload_n hx hb dJ6_numberOfTrailingZeros_0f7a4_75 rfl (lv_at hl 0 rfl) ?_
            refine lv_iconst (v := iI 1) hx hb dJ6_numberOfTrailingZeros_0f7a4_76 (by decide +kernel) ?_
            refine r_iushr (v := _) M rfl dJ6_numberOfTrailingZeros_0f7a4_77 ?_
            refine b_rng (lo := z12 / 2) (hi := z12 / 2) (iushr_d 1 (by decide +kernel) (by omega) (by omega)) (fun z14 z14_a z14_b => ?_)
            refine r_iadd (v := iI (5 + z14)) M (iI_add _ _) dJ6_numberOfTrailingZeros_0f7a4_78 ?_
            exact ret _ (5 + z14) _ _ _ _ _ [] dJ6_numberOfTrailingZeros_0f7a4_79 ⟨rfl, (show (-2147483648) ≤ (5 + z14) from by omega), (show (5 + z14) ≤ 2147483647 from by omega)⟩ w (by decide) rfl
          · replace c_13 : 4 < z12 := Int.not_le.mp (fun h => c_13 ((iI_le (by omega) (by omega) (by decide) (by decide)).mpr h))
            refine lv_iinc (v := iI 7) (lv' := [(1, .int (iI 7)), (0, .int (iI z12))]) hx hb dJ6_numberOfTrailingZeros_0f7a4_67 hl (k := 1) rfl (by decide +kernel) (by decide) rfl (fun ls hl => ?_)
            refine lv_iload_n hx hb dJ6_numberOfTrailingZeros_0f7a4_70 rfl (lv_at hl 1 rfl) ?_
            refine lv_iconst (v := iI 2) hx hb dJ6_numberOfTrailingZeros_0f7a4_71 (by decide +kernel) ?_
            refine r_iushr (v := _) M rfl dJ6_numberOfTrailingZeros_0f7a4_72 ?_
            refine b_rng (lo := z12 / 4) (hi := z12 / 4) (iushr_d 2 (by decide +kernel) (by omega) (by omega)) (fun z15 z15_a z15_b => ?_)
            refine lv_istore_n (lv' := [(0, .int (iI z15)), (1, .int (iI 7))]) hx hb dJ6_numberOfTrailingZeros_0f7a4_73 rfl hl (by decide) rfl (fun ls hl => ?_)
            refine lv_iload_n hx hb dJ6_numberOfTrailingZeros_0f7a4_74 rfl (lv_at hl 1 rfl) ?_
            refine lv_iload_n hx hb dJ6_numberOfTrailingZeros_0f7a4_75 rfl (lv_at hl 0 rfl) ?_
            refine lv_iconst (v := iI 1) hx hb dJ6_numberOfTrailingZeros_0f7a4_76 (by decide +kernel) ?_
            refine r_iushr (v := _) M rfl dJ6_numberOfTrailingZeros_0f7a4_77 ?_
            refine b_rng (lo := z15 / 2) (hi := z15 / 2) (iushr_d 1 (by decide +kernel) (by omega) (by omega)) (fun z16 z16_a z16_b => ?_)
            refine r_iadd (v := iI (7 + z16)) M (iI_add _ _) dJ6_numberOfTrailingZeros_0f7a4_78 ?_
            exact ret _ (7 + z16) _ _ _ _ _ [] dJ6_numberOfTrailingZeros_0f7a4_79 ⟨rfl, (show (-2147483648) ≤ (7 + z16) from by omega), (show (7 + z16) ≤ 2147483647 from by omega)⟩ w (by decide) rfl
      · replace c_6 : 256 < z3 := Int.not_le.mp (fun h => c_6 ((iI_le (Int.le_trans (by decide) z3_a) (Int.le_trans z3_b (by decide)) (by decide) (by decide)).mpr h))
        refine lv_iinc (v := iI 9) (lv' := [(1, .int (iI 9)), (0, .int (iI z3))]) hx hb dJ6_numberOfTrailingZeros_0f7a4_41 hl (k := 0) rfl (by decide +kernel) (by decide) rfl (fun ls hl => ?_)
        refine lv_iload_n hx hb dJ6_numberOfTrailingZeros_0f7a4_44 rfl (lv_at hl 1 rfl) ?_
        refine lv_bipush (v := iI 8) hx hb dJ6_numberOfTrailingZeros_0f7a4_45 (by decide +kernel) ?_
        refine r_iushr (v := _) M rfl dJ6_numberOfTrailingZeros_0f7a4_47 ?_
        refine b_rng (lo := z3 / 256) (hi := z3 / 256) (iushr_d 8 (by decide +kernel) (by omega) (by omega)) (fun z17 z17_a z17_b => ?_)
        refine lv_istore_n (lv' := [(0, .int (iI z17)), (1, .int (iI 9))]) hx hb dJ6_numberOfTrailingZeros_0f7a4_48 rfl hl (by decide) rfl (fun ls hl => ?_)
        refine lv_iload_n hx hb dJ6_numberOfTrailingZeros_0f7a4_49 rfl (lv_at hl 0 rfl) ?_
        refine lv_bipush (v := iI 16) hx hb dJ6_numberOfTrailingZeros_0f7a4_50 (by decide +kernel) ?_
        refine lv_icmp_le (tgt := 62) hx hb dJ6_numberOfTrailingZeros_0f7a4_52 (by decide) (fun c_18 => ?_) (fun c_18 => ?_)
        · replace c_18 := (iI_le (by omega) (by omega) (by decide) (by decide)).mp c_18
          refine lv_iload_n hx hb dJ6_numberOfTrailingZeros_0f7a4_62 rfl (lv_at hl 0 rfl) ?_
          refine lv_iconst (v := iI 4) hx hb dJ6_numberOfTrailingZeros_0f7a4_63 (by decide +kernel) ?_
          refine lv_icmp_le (tgt := 74) hx hb dJ6_numberOfTrailingZeros_0f7a4_64 (by decide) (fun c_19 => ?_) (fun c_19 => ?_)
          · replace c_19 := (iI_le (by omega) (by omega) (by decide) (by decide)).mp c_19
            refine lv_iload_n hx hb dJ6_numberOfTrailingZeros_0f7a4_74 rfl (lv_at hl 1 rfl) ?_
            refine lv_iload_n hx hb dJ6_numberOfTrailingZeros_0f7a4_75 rfl (lv_at hl 0 rfl) ?_
            refine lv_iconst (v := iI 1) hx hb dJ6_numberOfTrailingZeros_0f7a4_76 (by decide +kernel) ?_
            refine r_iushr (v := _) M rfl dJ6_numberOfTrailingZeros_0f7a4_77 ?_
            refine b_rng (lo := z17 / 2) (hi := z17 / 2) (iushr_d 1 (by decide +kernel) (by omega) (by omega)) (fun z20 z20_a z20_b => ?_)
            refine r_iadd (v := iI (9 + z20)) M (iI_add _ _) dJ6_numberOfTrailingZeros_0f7a4_78 ?_
            exact ret _ (9 + z20) _ _ _ _ _ [] dJ6_numberOfTrailingZeros_0f7a4_79 ⟨rfl, (show (-2147483648) ≤ (9 + z20) from by omega), (show (9 + z20) ≤ 2147483647 from by omega)⟩ w (by decide) rfl
          · replace c_19 : 4 < z17 := Int.not_le.mp (fun h => c_19 ((iI_le (by omega) (by omega) (by decide) (by decide)).mpr h))
            refine lv_iinc (v := iI 11) (lv' := [(1, .int (iI 11)), (0, .int (iI z17))]) hx hb dJ6_numberOfTrailingZeros_0f7a4_67 hl (k := 1) rfl (by decide +kernel) (by decide) rfl (fun ls hl => ?_)
            refine lv_iload_n hx hb dJ6_numberOfTrailingZeros_0f7a4_70 rfl (lv_at hl 1 rfl) ?_
            refine lv_iconst (v := iI 2) hx hb dJ6_numberOfTrailingZeros_0f7a4_71 (by decide +kernel) ?_
            refine r_iushr (v := _) M rfl dJ6_numberOfTrailingZeros_0f7a4_72 ?_
            refine b_rng (lo := z17 / 4) (hi := z17 / 4) (iushr_d 2 (by decide +kernel) (by omega) (by omega)) (fun z21 z21_a z21_b => ?_)
            refine lv_istore_n (lv' := [(0, .int (iI z21)), (1, .int (iI 11))]) hx hb dJ6_numberOfTrailingZeros_0f7a4_73 rfl hl (by decide) rfl (fun ls hl => ?_)
            refine lv_iload_n hx hb dJ6_numberOfTrailingZeros_0f7a4_74 rfl (lv_at hl 1 rfl) ?_
            refine lv_iload_n hx hb dJ6_numberOfTrailingZeros_0f7a4_75 rfl (lv_at hl 0 rfl) ?_
            refine lv_iconst (v := iI 1) hx hb dJ6_numberOfTrailingZeros_0f7a4_76 (by decide +kernel) ?_
            refine r_iushr (v := _) M rfl dJ6_numberOfTrailingZeros_0f7a4_77 ?_
            refine b_rng (lo := z21 / 2) (hi := z21 / 2) (iushr_d 1 (by decide +kernel) (by omega) (by omega)) (fun z22 z22_a z22_b => ?_)
            refine r_iadd (v := iI (11 + z22)) M (iI_add _ _) dJ6_numberOfTrailingZeros_0f7a4_78 ?_
            exact ret _ (11 + z22) _ _ _ _ _ [] dJ6_numberOfTrailingZeros_0f7a4_79 ⟨rfl, (show (-2147483648) ≤ (11 + z22) from by omega), (show (11 + z22) ≤ 2147483647 from by omega)⟩ w (by decide) rfl
        · replace c_18 : 16 < z17 := Int.not_le.mp (fun h => c_18 ((iI_le (by omega) (by omega) (by decide) (by decide)).mpr h))
          refine lv_iinc (v := iI 13) (lv' := [(1, .int (iI 13)), (0, .int (iI z17))]) hx hb dJ6_numberOfTrailingZeros_0f7a4_55 hl (k := 1) rfl (by decide +kernel) (by decide) rfl (fun ls hl => ?_)
          refine lv_iload_n hx hb dJ6_numberOfTrailingZeros_0f7a4_58 rfl (lv_at hl 1 rfl) ?_
          refine lv_iconst (v := iI 4) hx hb dJ6_numberOfTrailingZeros_0f7a4_59 (by decide +kernel) ?_
          refine r_iushr (v := _) M rfl dJ6_numberOfTrailingZeros_0f7a4_60 ?_
          refine b_rng (lo := z17 / 16) (hi := z17 / 16) (iushr_d 4 (by decide +kernel) (by omega) (by omega)) (fun z23 z23_a z23_b => ?_)
          refine lv_istore_n (lv' := [(0, .int (iI z23)), (1, .int (iI 13))]) hx hb dJ6_numberOfTrailingZeros_0f7a4_61 rfl hl (by decide) rfl (fun ls hl => ?_)
          refine lv_iload_n hx hb dJ6_numberOfTrailingZeros_0f7a4_62 rfl (lv_at hl 0 rfl) ?_
          refine lv_iconst (v := iI 4) hx hb dJ6_numberOfTrailingZeros_0f7a4_63 (by decide +kernel) ?_
          refine lv_icmp_le (tgt := 74) hx hb dJ6_numberOfTrailingZeros_0f7a4_64 (by decide) (fun c_24 => ?_) (fun c_24 => ?_)
          · replace c_24 := (iI_le (by omega) (by omega) (by decide) (by decide)).mp c_24
            refine lv_iload_n hx hb dJ6_numberOfTrailingZeros_0f7a4_74 rfl (lv_at hl 1 rfl) ?_
            refine lv_iload_n hx hb dJ6_numberOfTrailingZeros_0f7a4_75 rfl (lv_at hl 0 rfl) ?_
            refine lv_iconst (v := iI 1) hx hb dJ6_numberOfTrailingZeros_0f7a4_76 (by decide +kernel) ?_
            refine r_iushr (v := _) M rfl dJ6_numberOfTrailingZeros_0f7a4_77 ?_
            refine b_rng (lo := z23 / 2) (hi := z23 / 2) (iushr_d 1 (by decide +kernel) (by omega) (by omega)) (fun z25 z25_a z25_b => ?_)
            refine r_iadd (v := iI (13 + z25)) M (iI_add _ _) dJ6_numberOfTrailingZeros_0f7a4_78 ?_
            exact ret _ (13 + z25) _ _ _ _ _ [] dJ6_numberOfTrailingZeros_0f7a4_79 ⟨rfl, (show (-2147483648) ≤ (13 + z25) from by omega), (show (13 + z25) ≤ 2147483647 from by omega)⟩ w (by decide) rfl
          · replace c_24 : 4 < z23 := Int.not_le.mp (fun h => c_24 ((iI_le (by omega) (by omega) (by decide) (by decide)).mpr h))
            refine lv_iinc (v := iI 15) (lv' := [(1, .int (iI 15)), (0, .int (iI z23))]) hx hb dJ6_numberOfTrailingZeros_0f7a4_67 hl (k := 1) rfl (by decide +kernel) (by decide) rfl (fun ls hl => ?_)
            refine lv_iload_n hx hb dJ6_numberOfTrailingZeros_0f7a4_70 rfl (lv_at hl 1 rfl) ?_
            refine lv_iconst (v := iI 2) hx hb dJ6_numberOfTrailingZeros_0f7a4_71 (by decide +kernel) ?_
            refine r_iushr (v := _) M rfl dJ6_numberOfTrailingZeros_0f7a4_72 ?_
            refine b_rng (lo := z23 / 4) (hi := z23 / 4) (iushr_d 2 (by decide +kernel) (by omega) (by omega)) (fun z26 z26_a z26_b => ?_)
            refine lv_istore_n (lv' := [(0, .int (iI z26)), (1, .int (iI 15))]) hx hb dJ6_numberOfTrailingZeros_0f7a4_73 rfl hl (by decide) rfl (fun ls hl => ?_)
            refine lv_iload_n hx hb dJ6_numberOfTrailingZeros_0f7a4_74 rfl (lv_at hl 1 rfl) ?_
            refine lv_iload_n hx hb dJ6_numberOfTrailingZeros_0f7a4_75 rfl (lv_at hl 0 rfl) ?_
            refine lv_iconst (v := iI 1) hx hb dJ6_numberOfTrailingZeros_0f7a4_76 (by decide +kernel) ?_
            refine r_iushr (v := _) M rfl dJ6_numberOfTrailingZeros_0f7a4_77 ?_
            refine b_rng (lo := z26 / 2) (hi := z26 / 2) (iushr_d 1 (by decide +kernel) (by omega) (by omega)) (fun z27 z27_a z27_b => ?_)
            refine r_iadd (v := iI (15 + z27)) M (iI_add _ _) dJ6_numberOfTrailingZeros_0f7a4_78 ?_
            exact ret _ (15 + z27) _ _ _ _ _ [] dJ6_numberOfTrailingZeros_0f7a4_79 ⟨rfl, (show (-2147483648) ≤ (15 + z27) from by omega), (show (15 + z27) ≤ 2147483647 from by omega)⟩ w (by decide) rfl
    · replace c_5 : 65536 < z3 := Int.not_le.mp (fun h => c_5 ((iI_le (Int.le_trans (by decide) z3_a) (Int.le_trans z3_b (by decide)) (by decide) (by decide)).mpr h))
      refine lv_iinc (v := iI 17) (lv' := [(1, .int (iI 17)), (0, .int (iI z3))]) hx hb dJ6_numberOfTrailingZeros_0f7a4_26 hl (k := 0) rfl (by decide +kernel) (by decide) rfl (fun ls hl => ?_)
      refine lv_iload_n hx hb dJ6_numberOfTrailingZeros_0f7a4_29 rfl (lv_at hl 1 rfl) ?_
      refine lv_bipush (v := iI 16) hx hb dJ6_numberOfTrailingZeros_0f7a4_30 (by decide +kernel) ?_
      refine r_iushr (v := _) M rfl dJ6_numberOfTrailingZeros_0f7a4_32 ?_
      refine b_rng (lo := z3 / 65536) (hi := z3 / 65536) (iushr_d 16 (by decide +kernel) (by omega) (by omega)) (fun z28 z28_a z28_b => ?_)
      refine lv_istore_n (lv' := [(0, .int (iI z28)), (1, .int (iI 17))]) hx hb dJ6_numberOfTrailingZeros_0f7a4_33 rfl hl (by decide) rfl (fun ls hl => ?_)
      refine lv_iload_n hx hb dJ6_numberOfTrailingZeros_0f7a4_34 rfl (lv_at hl 0 rfl) ?_
      refine lv_sipush (v := iI 256) hx hb dJ6_numberOfTrailingZeros_0f7a4_35 (by decide +kernel) ?_
      refine lv_icmp_le (tgt := 49) hx hb dJ6_numberOfTrailingZeros_0f7a4_38 (by decide) (fun c_29 => ?_) (fun c_29 => ?_)
      · replace c_29 := (iI_le (by omega) (by omega) (by decide) (by decide)).mp c_29
        refine lv_iload_n hx hb dJ6_numberOfTrailingZeros_0f7a4_49 rfl (lv_at hl 0 rfl) ?_
        refine lv_bipush (v := iI 16) hx hb dJ6_numberOfTrailingZeros_0f7a4_50 (by decide +kernel) ?_
        refine lv_icmp_le (tgt := 62) hx hb dJ6_numberOfTrailingZeros_0f7a4_52 (by decide) (fun c_30 => ?_) (fun c_30 => ?_)
        · replace c_30 := (iI_le (by omega) (by omega) (by decide) (by decide)).mp c_30
          refine lv_iload_n hx hb dJ6_numberOfTrailingZeros_0f7a4_62 rfl (lv_at hl 0 rfl) ?_
          refine lv_iconst (v := iI 4) hx hb dJ6_numberOfTrailingZeros_0f7a4_63 (by decide +kernel) ?_
          refine lv_icmp_le (tgt := 74) hx hb dJ6_numberOfTrailingZeros_0f7a4_64 (by decide) (fun c_31 => ?_) (fun c_31 => ?_)
          · replace c_31 := (iI_le (by omega) (by omega) (by decide) (by decide)).mp c_31
            refine lv_iload_n hx hb dJ6_numberOfTrailingZeros_0f7a4_74 rfl (lv_at hl 1 rfl) ?_
            refine lv_iload_n hx hb dJ6_numberOfTrailingZeros_0f7a4_75 rfl (lv_at hl 0 rfl) ?_
            refine lv_iconst (v := iI 1) hx hb dJ6_numberOfTrailingZeros_0f7a4_76 (by decide +kernel) ?_
            refine r_iushr (v := _) M rfl dJ6_numberOfTrailingZeros_0f7a4_77 ?_
            refine b_rng (lo := z28 / 2) (hi := z28 / 2) (iushr_d 1 (by decide +kernel) (by omega) (by omega)) (fun z32 z32_a z32_b => ?_)
            refine r_iadd (v := iI (17 + z32)) M (iI_add _ _) dJ6_numberOfTrailingZeros_0f7a4_78 ?_
            exact ret _ (17 + z32) _ _ _ _ _ [] dJ6_numberOfTrailingZeros_0f7a4_79 ⟨rfl, (show (-2147483648) ≤ (17 + z32) from by omega), (show (17 + z32) ≤ 2147483647 from by omega)⟩ w (by decide) rfl
          · replace c_31 : 4 < z28 := Int.not_le.mp (fun h => c_31 ((iI_le (by omega) (by omega) (by decide) (by decide)).mpr h))
            refine lv_iinc (v := iI 19) (lv' := [(1, .int (iI 19)), (0, .int (iI z28))]) hx hb dJ6_numberOfTrailingZeros_0f7a4_67 hl (k := 1) rfl (by decide +kernel) (by decide) rfl (fun ls hl => ?_)
            refine lv_iload_n hx hb dJ6_numberOfTrailingZeros_0f7a4_70 rfl (lv_at hl 1 rfl) ?_
            refine lv_iconst (v := iI 2) hx hb dJ6_numberOfTrailingZeros_0f7a4_71 (by decide +kernel) ?_
            refine r_iushr (v := _) M rfl dJ6_numberOfTrailingZeros_0f7a4_72 ?_
            refine b_rng (lo := z28 / 4) (hi := z28 / 4) (iushr_d 2 (by decide +kernel) (by omega) (by omega)) (fun z33 z33_a z33_b => ?_)
            refine lv_istore_n (lv' := [(0, .int (iI z33)), (1, .int (iI 19))]) hx hb dJ6_numberOfTrailingZeros_0f7a4_73 rfl hl (by decide) rfl (fun ls hl => ?_)
            refine lv_iload_n hx hb dJ6_numberOfTrailingZeros_0f7a4_74 rfl (lv_at hl 1 rfl) ?_
            refine lv_iload_n hx hb dJ6_numberOfTrailingZeros_0f7a4_75 rfl (lv_at hl 0 rfl) ?_
            refine lv_iconst (v := iI 1) hx hb dJ6_numberOfTrailingZeros_0f7a4_76 (by decide +kernel) ?_
            refine r_iushr (v := _) M rfl dJ6_numberOfTrailingZeros_0f7a4_77 ?_
            refine b_rng (lo := z33 / 2) (hi := z33 / 2) (iushr_d 1 (by decide +kernel) (by omega) (by omega)) (fun z34 z34_a z34_b => ?_)
            refine r_iadd (v := iI (19 + z34)) M (iI_add _ _) dJ6_numberOfTrailingZeros_0f7a4_78 ?_
            exact ret _ (19 + z34) _ _ _ _ _ [] dJ6_numberOfTrailingZeros_0f7a4_79 ⟨rfl, (show (-2147483648) ≤ (19 + z34) from by omega), (show (19 + z34) ≤ 2147483647 from by omega)⟩ w (by decide) rfl
        · replace c_30 : 16 < z28 := Int.not_le.mp (fun h => c_30 ((iI_le (by omega) (by omega) (by decide) (by decide)).mpr h))
          refine lv_iinc (v := iI 21) (lv' := [(1, .int (iI 21)), (0, .int (iI z28))]) hx hb dJ6_numberOfTrailingZeros_0f7a4_55 hl (k := 1) rfl (by decide +kernel) (by decide) rfl (fun ls hl => ?_)
          refine lv_iload_n hx hb dJ6_numberOfTrailingZeros_0f7a4_58 rfl (lv_at hl 1 rfl) ?_
          refine lv_iconst (v := iI 4) hx hb dJ6_numberOfTrailingZeros_0f7a4_59 (by decide +kernel) ?_
          refine r_iushr (v := _) M rfl dJ6_numberOfTrailingZeros_0f7a4_60 ?_
          refine b_rng (lo := z28 / 16) (hi := z28 / 16) (iushr_d 4 (by decide +kernel) (by omega) (by omega)) (fun z35 z35_a z35_b => ?_)
          refine lv_istore_n (lv' := [(0, .int (iI z35)), (1, .int (iI 21))]) hx hb dJ6_numberOfTrailingZeros_0f7a4_61 rfl hl (by decide) rfl (fun ls hl => ?_)
          refine lv_iload_n hx hb dJ6_numberOfTrailingZeros_0f7a4_62 rfl (lv_at hl 0 rfl) ?_
          refine lv_iconst (v := iI 4) hx hb dJ6_numberOfTrailingZeros_0f7a4_63 (by decide +kernel) ?_
          refine lv_icmp_le (tgt := 74) hx hb dJ6_numberOfTrailingZeros_0f7a4_64 (by decide) (fun c_36 => ?_) (fun c_36 => ?_)
          · replace c_36 := (iI_le (by omega) (by omega) (by decide) (by decide)).mp c_36
            refine lv_iload_n hx hb dJ6_numberOfTrailingZeros_0f7a4_74 rfl (lv_at hl 1 rfl) ?_
            refine lv_iload_n hx hb dJ6_numberOfTrailingZeros_0f7a4_75 rfl (lv_at hl 0 rfl) ?_
            refine lv_iconst (v := iI 1) hx hb dJ6_numberOfTrailingZeros_0f7a4_76 (by decide +kernel) ?_
            refine r_iushr (v := _) M rfl dJ6_numberOfTrailingZeros_0f7a4_77 ?_
            refine b_rng (lo := z35 / 2) (hi := z35 / 2) (iushr_d 1 (by decide +kernel) (by omega) (by omega)) (fun z37 z37_a z37_b => ?_)
            refine r_iadd (v := iI (21 + z37)) M (iI_add _ _) dJ6_numberOfTrailingZeros_0f7a4_78 ?_
            exact ret _ (21 + z37) _ _ _ _ _ [] dJ6_numberOfTrailingZeros_0f7a4_79 ⟨rfl, (show (-2147483648) ≤ (21 + z37) from by omega), (show (21 + z37) ≤ 2147483647 from by omega)⟩ w (by decide) rfl
          · replace c_36 : 4 < z35 := Int.not_le.mp (fun h => c_36 ((iI_le (by omega) (by omega) (by decide) (by decide)).mpr h))
            refine lv_iinc (v := iI 23) (lv' := [(1, .int (iI 23)), (0, .int (iI z35))]) hx hb dJ6_numberOfTrailingZeros_0f7a4_67 hl (k := 1) rfl (by decide +kernel) (by decide) rfl (fun ls hl => ?_)
            refine lv_iload_n hx hb dJ6_numberOfTrailingZeros_0f7a4_70 rfl (lv_at hl 1 rfl) ?_
            refine lv_iconst (v := iI 2) hx hb dJ6_numberOfTrailingZeros_0f7a4_71 (by decide +kernel) ?_
            refine r_iushr (v := _) M rfl dJ6_numberOfTrailingZeros_0f7a4_72 ?_
            refine b_rng (lo := z35 / 4) (hi := z35 / 4) (iushr_d 2 (by decide +kernel) (by omega) (by omega)) (fun z38 z38_a z38_b => ?_)
            refine lv_istore_n (lv' := [(0, .int (iI z38)), (1, .int (iI 23))]) hx hb dJ6_numberOfTrailingZeros_0f7a4_73 rfl hl (by decide) rfl (fun ls hl => ?_)
            refine lv_iload_n hx hb dJ6_numberOfTrailingZeros_0f7a4_74 rfl (lv_at hl 1 rfl) ?_
            refine lv_iload_n hx hb dJ6_numberOfTrailingZeros_0f7a4_75 rfl (lv_at hl 0 rfl) ?_
            refine lv_iconst (v := iI 1) hx hb dJ6_numberOfTrailingZeros_0f7a4_76 (by decide +kernel) ?_
            refine r_iushr (v := _) M rfl dJ6_numberOfTrailingZeros_0f7a4_77 ?_
            refine b_rng (lo := z38 / 2) (hi := z38 / 2) (iushr_d 1 (by decide +kernel) (by omega) (by omega)) (fun z39 z39_a z39_b => ?_)
            refine r_iadd (v := iI (23 + z39)) M (iI_add _ _) dJ6_numberOfTrailingZeros_0f7a4_78 ?_
            exact ret _ (23 + z39) _ _ _ _ _ [] dJ6_numberOfTrailingZeros_0f7a4_79 ⟨rfl, (show (-2147483648) ≤ (23 + z39) from by omega), (show (23 + z39) ≤ 2147483647 from by omega)⟩ w (by decide) rfl
      · replace c_29 : 256 < z28 := Int.not_le.mp (fun h => c_29 ((iI_le (by omega) (by omega) (by decide) (by decide)).mpr h))
        refine lv_iinc (v := iI 25) (lv' := [(1, .int (iI 25)), (0, .int (iI z28))]) hx hb dJ6_numberOfTrailingZeros_0f7a4_41 hl (k := 1) rfl (by decide +kernel) (by decide) rfl (fun ls hl => ?_)
        refine lv_iload_n hx hb dJ6_numberOfTrailingZeros_0f7a4_44 rfl (lv_at hl 1 rfl) ?_
        refine lv_bipush (v := iI 8) hx hb dJ6_numberOfTrailingZeros_0f7a4_45 (by decide +kernel) ?_
        refine r_iushr (v := _) M rfl dJ6_numberOfTrailingZeros_0f7a4_47 ?_
        refine b_rng (lo := z28 / 256) (hi := z28 / 256) (iushr_d 8 (by decide +kernel) (by omega) (by omega)) (fun z40 z40_a z40_b => ?_)
        refine lv_istore_n (lv' := [(0, .int (iI z40)), (1, .int (iI 25))]) hx hb dJ6_numberOfTrailingZeros_0f7a4_48 rfl hl (by decide) rfl (fun ls hl => ?_)
        refine lv_iload_n hx hb dJ6_numberOfTrailingZeros_0f7a4_49 rfl (lv_at hl 0 rfl) ?_
        refine lv_bipush (v := iI 16) hx hb dJ6_numberOfTrailingZeros_0f7a4_50 (by decide +kernel) ?_
        refine lv_icmp_le (tgt := 62) hx hb dJ6_numberOfTrailingZeros_0f7a4_52 (by decide) (fun c_41 => ?_) (fun c_41 => ?_)
        · replace c_41 := (iI_le (by omega) (by omega) (by decide) (by decide)).mp c_41
          refine lv_iload_n hx hb dJ6_numberOfTrailingZeros_0f7a4_62 rfl (lv_at hl 0 rfl) ?_
          refine lv_iconst (v := iI 4) hx hb dJ6_numberOfTrailingZeros_0f7a4_63 (by decide +kernel) ?_
          refine lv_icmp_le (tgt := 74) hx hb dJ6_numberOfTrailingZeros_0f7a4_64 (by decide) (fun c_42 => ?_) (fun c_42 => ?_)
          · replace c_42 := (iI_le (by omega) (by omega) (by decide) (by decide)).mp c_42
            refine lv_iload_n hx hb dJ6_numberOfTrailingZeros_0f7a4_74 rfl (lv_at hl 1 rfl) ?_
            refine lv_iload_n hx hb dJ6_numberOfTrailingZeros_0f7a4_75 rfl (lv_at hl 0 rfl) ?_
            refine lv_iconst (v := iI 1) hx hb dJ6_numberOfTrailingZeros_0f7a4_76 (by decide +kernel) ?_
            refine r_iushr (v := _) M rfl dJ6_numberOfTrailingZeros_0f7a4_77 ?_
            refine b_rng (lo := z40 / 2) (hi := z40 / 2) (iushr_d 1 (by decide +kernel) (by omega) (by omega)) (fun z43 z43_a z43_b => ?_)
            refine r_iadd (v := iI (25 + z43)) M (iI_add _ _) dJ6_numberOfTrailingZeros_0f7a4_78 ?_
            exact ret _ (25 + z43) _ _ _ _ _ [] dJ6_numberOfTrailingZeros_0f7a4_79 ⟨rfl, (show (-2147483648) ≤ (25 + z43) from by omega), (show (25 + z43) ≤ 2147483647 from by omega)⟩ w (by decide) rfl
          · replace c_42 : 4 < z40 := Int.not_le.mp (fun h => c_42 ((iI_le (by omega) (by omega) (by decide) (by decide)).mpr h))
            refine lv_iinc (v := iI 27) (lv' := [(1, .int (iI 27)), (0, .int (iI z40))]) hx hb dJ6_numberOfTrailingZeros_0f7a4_67 hl (k := 1) rfl (by decide +kernel) (by decide) rfl (fun ls hl => ?_)
            refine lv_iload_n hx hb dJ6_numberOfTrailingZeros_0f7a4_70 rfl (lv_at hl 1 rfl) ?_
            refine lv_iconst (v := iI 2) hx hb dJ6_numberOfTrailingZeros_0f7a4_71 (by decide +kernel) ?_
            refine r_iushr (v := _) M rfl dJ6_numberOfTrailingZeros_0f7a4_72 ?_
            refine b_rng (lo := z40 / 4) (hi := z40 / 4) (iushr_d 2 (by decide +kernel) (by omega) (by omega)) (fun z44 z44_a z44_b => ?_)
            refine lv_istore_n (lv' := [(0, .int (iI z44)), (1, .int (iI 27))]) hx hb dJ6_numberOfTrailingZeros_0f7a4_73 rfl hl (by decide) rfl (fun ls hl => ?_)
            refine lv_iload_n hx hb dJ6_numberOfTrailingZeros_0f7a4_74 rfl (lv_at hl 1 rfl) ?_
            refine lv_iload_n hx hb dJ6_numberOfTrailingZeros_0f7a4_75 rfl (lv_at hl 0 rfl) ?_
            refine lv_iconst (v := iI 1) hx hb dJ6_numberOfTrailingZeros_0f7a4_76 (by decide +kernel) ?_
            refine r_iushr (v := _) M rfl dJ6_numberOfTrailingZeros_0f7a4_77 ?_
            refine b_rng (lo := z44 / 2) (hi := z44 / 2) (iushr_d 1 (by decide +kernel) (by omega) (by omega)) (fun z45 z45_a z45_b => ?_)
            refine r_iadd (v := iI (27 + z45)) M (iI_add _ _) dJ6_numberOfTrailingZeros_0f7a4_78 ?_
            exact ret _ (27 + z45) _ _ _ _ _ [] dJ6_numberOfTrailingZeros_0f7a4_79 ⟨rfl, (show (-2147483648) ≤ (27 + z45) from by omega), (show (27 + z45) ≤ 2147483647 from by omega)⟩ w (by decide) rfl
        · replace c_41 : 16 < z40 := Int.not_le.mp (fun h => c_41 ((iI_le (by omega) (by omega) (by decide) (by decide)).mpr h))
          refine lv_iinc (v := iI 29) (lv' := [(1, .int (iI 29)), (0, .int (iI z40))]) hx hb dJ6_numberOfTrailingZeros_0f7a4_55 hl (k := 1) rfl (by decide +kernel) (by decide) rfl (fun ls hl => ?_)
          refine lv_iload_n hx hb dJ6_numberOfTrailingZeros_0f7a4_58 rfl (lv_at hl 1 rfl) ?_
          refine lv_iconst (v := iI 4) hx hb dJ6_numberOfTrailingZeros_0f7a4_59 (by decide +kernel) ?_
          refine r_iushr (v := _) M rfl dJ6_numberOfTrailingZeros_0f7a4_60 ?_
          refine b_rng (lo := z40 / 16) (hi := z40 / 16) (iushr_d 4 (by decide +kernel) (by omega) (by omega)) (fun z46 z46_a z46_b => ?_)
          refine lv_istore_n (lv' := [(0, .int (iI z46)), (1, .int (iI 29))]) hx hb dJ6_numberOfTrailingZeros_0f7a4_61 rfl hl (by decide) rfl (fun ls hl => ?_)
          refine lv_iload_n hx hb dJ6_numberOfTrailingZeros_0f7a4_62 rfl (lv_at hl 0 rfl) ?_
          refine lv_iconst (v := iI 4) hx hb dJ6_numberOfTrailingZeros_0f7a4_63 (by decide +kernel) ?_
          refine lv_icmp_le (tgt := 74) hx hb dJ6_numberOfTrailingZeros_0f7a4_64 (by decide) (fun c_47 => ?_) (fun c_47 => ?_)
          · replace c_47 := (iI_le (by omega) (by omega) (by decide) (by decide)).mp c_47
            refine lv_iload_n hx hb dJ6_numberOfTrailingZeros_0f7a4_74 rfl (lv_at hl 1 rfl) ?_
            refine lv_iload_n hx hb dJ6_numberOfTrailingZeros_0f7a4_75 rfl (lv_at hl 0 rfl) ?_
            refine lv_iconst (v := iI 1) hx hb dJ6_numberOfTrailingZeros_0f7a4_76 (by decide +kernel) ?_
            refine r_iushr (v := _) M rfl dJ6_numberOfTrailingZeros_0f7a4_77 ?_
            refine b_rng (lo := z46 / 2) (hi := z46 / 2) (iushr_d 1 (by decide +kernel) (by omega) (by omega)) (fun z48 z48_a z48_b => ?_)
            refine r_iadd (v := iI (29 + z48)) M (iI_add _ _) dJ6_numberOfTrailingZeros_0f7a4_78 ?_
            exact ret _ (29 + z48) _ _ _ _ _ [] dJ6_numberOfTrailingZeros_0f7a4_79 ⟨rfl, (show (-2147483648) ≤ (29 + z48) from by omega), (show (29 + z48) ≤ 2147483647 from by omega)⟩ w (by decide) rfl
          · replace c_47 : 4 < z46 := Int.not_le.mp (fun h => c_47 ((iI_le (by omega) (by omega) (by decide) (by decide)).mpr h))
            refine lv_iinc (v := iI 31) (lv' := [(1, .int (iI 31)), (0, .int (iI z46))]) hx hb dJ6_numberOfTrailingZeros_0f7a4_67 hl (k := 1) rfl (by decide +kernel) (by decide) rfl (fun ls hl => ?_)
            refine lv_iload_n hx hb dJ6_numberOfTrailingZeros_0f7a4_70 rfl (lv_at hl 1 rfl) ?_
            refine lv_iconst (v := iI 2) hx hb dJ6_numberOfTrailingZeros_0f7a4_71 (by decide +kernel) ?_
            refine r_iushr (v := _) M rfl dJ6_numberOfTrailingZeros_0f7a4_72 ?_
            refine b_rng (lo := z46 / 4) (hi := z46 / 4) (iushr_d 2 (by decide +kernel) (by omega) (by omega)) (fun z49 z49_a z49_b => ?_)
            refine lv_istore_n (lv' := [(0, .int (iI z49)), (1, .int (iI 31))]) hx hb dJ6_numberOfTrailingZeros_0f7a4_73 rfl hl (by decide) rfl (fun ls hl => ?_)
            refine lv_iload_n hx hb dJ6_numberOfTrailingZeros_0f7a4_74 rfl (lv_at hl 1 rfl) ?_
            refine lv_iload_n hx hb dJ6_numberOfTrailingZeros_0f7a4_75 rfl (lv_at hl 0 rfl) ?_
            refine lv_iconst (v := iI 1) hx hb dJ6_numberOfTrailingZeros_0f7a4_76 (by decide +kernel) ?_
            refine r_iushr (v := _) M rfl dJ6_numberOfTrailingZeros_0f7a4_77 ?_
            refine b_rng (lo := z49 / 2) (hi := z49 / 2) (iushr_d 1 (by decide +kernel) (by omega) (by omega)) (fun z50 z50_a z50_b => ?_)
            refine r_iadd (v := iI (31 + z50)) M (iI_add _ _) dJ6_numberOfTrailingZeros_0f7a4_78 ?_
            exact ret _ (31 + z50) _ _ _ _ _ [] dJ6_numberOfTrailingZeros_0f7a4_79 ⟨rfl, (show (-2147483648) ≤ (31 + z50) from by omega), (show (31 + z50) ≤ 2147483647 from by omega)⟩ w (by decide) rfl
  · replace c_4 : z3 ≤ 0 := Int.not_lt.mp (fun h => c_4 ((iz_gt (Int.le_trans (by decide) z3_a) (Int.le_trans z3_b (by decide))).mpr h))
    refine lv_iload_n hx hb dJ6_numberOfTrailingZeros_0f7a4_12 rfl (lv_at hl 0 rfl) ?_
    refine lv_bipush (v := iI 32) hx hb dJ6_numberOfTrailingZeros_0f7a4_13 (by decide +kernel) ?_
    refine r_iand (v := _) M rfl dJ6_numberOfTrailingZeros_0f7a4_15 ?_
    refine b_rng (lo := 0) (hi := 32) (iand_r (by omega) (by omega)) (fun z51 z51_a z51_b => ?_)
    exact ret _ z51 _ _ _ _ _ [] dJ6_numberOfTrailingZeros_0f7a4_16 ⟨rfl, (show (-2147483648) ≤ z51 from by omega), (show z51 ≤ 2147483647 from by omega)⟩ w (by decide) rfl
set_option maxRecDepth 100000 in
set_option maxHeartbeats 4000000 in
theorem c122_X6_foundOf (l : Launch) (D : va_G) (T : Nat → ClassId) (sz : Nat) (x0 : Int) (x1 : Int) (x2 : Int) (x0_a : (-2147483648) ≤ x0) (x0_b : x0 ≤ 2147483647) (x1_a : (-2147483648) ≤ x1) (x1_b : x1 ≤ 2147483647) (x2_a : (-2147483648) ≤ x2) (x2_b : x2 ≤ 2147483647) : Met l yX6_foundOf (Cond.code yX6_foundOf cX6_foundOf 4 (some .int) :: GW) (Rm 0 0 0) (cPre [.int (iI x0), .int (iI x1), .int (iI x2)] D T [] sz) (qI D [] sz (fun (v : Int32) (u : Int) => iI u = v ∧ (-2147483648) ≤ u ∧ u ≤ 2147483647) (fun u => [])) 0 0 (va_A [] sz) := by
  refine e_I (by decide) (Nat.le_of_ble_eq_true rfl) ?_
  intro p e s m args below meth c A Q ls M hin w ret hl
  have hx := M.1.1
  have hb := M.1.2.1
  have hl : lv_has ls 4 [(0, .int (iI x0)), (1, .int (iI x1)), (2, .int (iI x2))] := hl
  refine lv_iload_n hx hb dX6_foundOf_0 rfl (lv_at hl 0 rfl) ?_
  refine lv_iload_n hx hb dX6_foundOf_1 rfl (lv_at hl 2 rfl) ?_
  refine lv_icmp_ge (tgt := 11) hx hb dX6_foundOf_2 (by decide) (fun c_1 => ?_) (fun c_1 => ?_)
  · replace c_1 := (iI_le (Int.le_trans (by decide) x2_a) (Int.le_trans x2_b (by decide)) (Int.le_trans (by decide) x0_a) (Int.le_trans x0_b (by decide))).mp c_1
    refine lv_iload_n hx hb dX6_foundOf_11 rfl (lv_at hl 0 rfl) ?_
    refine lv_iconst (v := iI 2) hx hb dX6_foundOf_12 (by decide +kernel) ?_
    refine r_iadd (v := _) M rfl dX6_foundOf_13 ?_
    refine b_any (fun z2 z2_a z2_b => ?_)
    refine lv_istore_n (lv' := [(3, .int (iI z2)), (0, .int (iI x0)), (1, .int (iI x1)), (2, .int (iI x2))]) hx hb dX6_foundOf_14 rfl hl (by decide) rfl (fun ls hl => ?_)
    refine lv_iload_n hx hb dX6_foundOf_15 rfl (lv_at hl 0 rfl) ?_
    refine lv_iload_n hx hb dX6_foundOf_16 rfl (lv_at hl 2 rfl) ?_
    refine lv_icmp_ge (tgt := 24) hx hb dX6_foundOf_17 (by decide) (fun c_3 => ?_) (fun c_3 => ?_)
    · replace c_3 := (iI_le (Int.le_trans (by decide) x1_a) (Int.le_trans x1_b (by decide)) (Int.le_trans (by decide) z2_a) (Int.le_trans z2_b (by decide))).mp c_3
      refine lv_sipush (v := iI 255) hx hb dX6_foundOf_24 (by decide +kernel) ?_
      exact ret _ 255 _ _ _ _ _ [] dX6_foundOf_27 ⟨rfl, (show (-2147483648) ≤ 255 from by decide), (show (255 : Int) ≤ 2147483647 from by decide)⟩ w (by decide) rfl
    · replace c_3 : z2 < x1 := Int.not_le.mp (fun h => c_3 ((iI_le (Int.le_trans (by decide) x1_a) (Int.le_trans x1_b (by decide)) (Int.le_trans (by decide) z2_a) (Int.le_trans z2_b (by decide))).mpr h))
      refine lv_iload_n hx hb dX6_foundOf_20 rfl (lv_at hl 0 rfl) ?_
      refine lv_goto (tgt := 27) hx hb dX6_foundOf_21 (by decide) ?_
      exact ret _ z2 _ _ _ _ _ [] dX6_foundOf_27 ⟨rfl, z2_a, z2_b⟩ w (by decide) rfl
  · replace c_1 : x0 < x2 := Int.not_le.mp (fun h => c_1 ((iI_le (Int.le_trans (by decide) x2_a) (Int.le_trans x2_b (by decide)) (Int.le_trans (by decide) x0_a) (Int.le_trans x0_b (by decide))).mpr h))
    refine lv_iload_n hx hb dX6_foundOf_5 rfl (lv_at hl 0 rfl) ?_
    refine lv_iconst (v := iI 1) hx hb dX6_foundOf_6 (by decide +kernel) ?_
    refine r_iadd (v := iI (x0 + 1)) M (iI_add _ _) dX6_foundOf_7 ?_
    refine lv_goto (tgt := 14) hx hb dX6_foundOf_8 (by decide) ?_
    refine lv_istore_n (lv' := [(3, .int (iI (x0 + 1))), (0, .int (iI x0)), (1, .int (iI x1)), (2, .int (iI x2))]) hx hb dX6_foundOf_14 rfl hl (by decide) rfl (fun ls hl => ?_)
    refine lv_iload_n hx hb dX6_foundOf_15 rfl (lv_at hl 0 rfl) ?_
    refine lv_iload_n hx hb dX6_foundOf_16 rfl (lv_at hl 2 rfl) ?_
    refine lv_icmp_ge (tgt := 24) hx hb dX6_foundOf_17 (by decide) (fun c_4 => ?_) (fun c_4 => ?_)
    · replace c_4 := (iI_le (Int.le_trans (by decide) x1_a) (Int.le_trans x1_b (by decide)) (by omega) (by omega)).mp c_4
      refine lv_sipush (v := iI 255) hx hb dX6_foundOf_24 (by decide +kernel) ?_
      exact ret _ 255 _ _ _ _ _ [] dX6_foundOf_27 ⟨rfl, (show (-2147483648) ≤ 255 from by decide), (show (255 : Int) ≤ 2147483647 from by decide)⟩ w (by decide) rfl
    · replace c_4 : (x0 + 1) < x1 := Int.not_le.mp (fun h => c_4 ((iI_le (Int.le_trans (by decide) x1_a) (Int.le_trans x1_b (by decide)) (by omega) (by omega)).mpr h))
      refine lv_iload_n hx hb dX6_foundOf_20 rfl (lv_at hl 0 rfl) ?_
      refine lv_goto (tgt := 27) hx hb dX6_foundOf_21 (by decide) ?_
      exact ret _ (x0 + 1) _ _ _ _ _ [] dX6_foundOf_27 ⟨rfl, (show (-2147483648) ≤ (x0 + 1) from by omega), (show (x0 + 1) ≤ 2147483647 from by omega)⟩ w (by decide) rfl
set_option maxRecDepth 100000 in
set_option maxHeartbeats 4000000 in
theorem c123_X6_mostLeft (l : Launch) (D : va_G) (T : Nat → ClassId) (sz : Nat) (x0 : Int) (x1 : Int) (x2 : Int) (x0_a : (-2147483648) ≤ x0) (x0_b : x0 ≤ 2147483647) (x1_a : (-2147483648) ≤ x1) (x1_b : x1 ≤ 2147483647) (x2_a : (-2147483648) ≤ x2) (x2_b : x2 ≤ 2147483647) : Met l yX6_mostLeft (Cond.code yX6_mostLeft cX6_mostLeft 5 (some .int) :: GW) (Rm 1 0 0) (cPre [.int (iI x0), .int (iI x1), .int (iI x2)] D T [] sz) (qI D [] sz (fun (v : Int32) (u : Int) => iI u = v ∧ (-2147483648) ≤ u ∧ u ≤ 2147483647) (fun u => [])) 0 0 (va_A [] sz) := by
  refine e_I (by decide) (Nat.le_of_ble_eq_true rfl) ?_
  intro p e s m args below meth c A Q ls M hin w ret hl
  have hx := M.1.1
  have hb := M.1.2.1
  have hl : lv_has ls 5 [(0, .int (iI x0)), (1, .int (iI x1)), (2, .int (iI x2))] := hl
  refine lv_iload_n hx hb dX6_mostLeft_0 rfl (lv_at hl 0 rfl) ?_
  refine k_I (ce := 0) (sl := 0) (rest := []) (wr := []) (r_S (f := 0) [] M w V_HookedCity_Slipped_36 G1023 (c120_J6_bitCount_0f7a4 l D T _ x0 x0_a x0_b) rfl (by decide) rfl hl.1 rfl (Nat.le_of_ble_eq_true rfl) dX6_mostLeft_1 (by decide) (by decide) (by decide) (by decide)) w [] [] rfl rfl (by decide) (by decide) rfl rfl (fun v z1 H locs hp w => ?_)
  have hv : iI z1 = v := hp.1
  subst hv
  have z1_a : (-2147483648) ≤ z1 := hp.2.1
  have z1_b : z1 ≤ 2147483647 := hp.2.2
  have w : WD D A s.heap [] H locs := w
  refine lv_istore_n (lv' := [(3, .int (iI z1)), (0, .int (iI x0)), (1, .int (iI x1)), (2, .int (iI x2))]) hx hb dX6_mostLeft_4 rfl hl (by decide) rfl (fun ls hl => ?_)
  refine lv_iload_n hx hb dX6_mostLeft_5 rfl (lv_at hl 3 rfl) ?_
  refine lv_iload_n hx hb dX6_mostLeft_6 rfl (lv_at hl 2 rfl) ?_
  refine lv_iload_n hx hb dX6_mostLeft_7 rfl (lv_at hl 3 rfl) ?_
  refine k_I (ce := 0) (sl := 0) (rest := []) (wr := []) (r_S (f := 0) [] M w V_HookedCity_Slipped_48 G1010 (c122_X6_foundOf l D T _ x2 x1 x2 x2_a x2_b x1_a x1_b x2_a x2_b) rfl (by decide) rfl hl.1 rfl (Nat.le_of_ble_eq_true rfl) dX6_mostLeft_8 (by decide) (by decide) (by decide) (by decide)) w [] [] rfl rfl (by decide) (by decide) rfl rfl (fun v z2 H locs hp w => ?_)
  have hv : iI z2 = v := hp.1
  subst hv
  have z2_a : (-2147483648) ≤ z2 := hp.2.1
  have z2_b : z2 ≤ 2147483647 := hp.2.2
  have w : WD D A s.heap [] H locs := w
  refine lv_iload_n hx hb dX6_mostLeft_11 rfl (lv_at hl 3 rfl) ?_
  refine lv_iload_n hx hb dX6_mostLeft_12 rfl (lv_at hl 2 rfl) ?_
  refine lv_iload_n hx hb dX6_mostLeft_13 rfl (lv_at hl 3 rfl) ?_
  refine lv_iconst (v := iI 1) hx hb dX6_mostLeft_14 (by decide +kernel) ?_
  refine r_iadd (v := _) M rfl dX6_mostLeft_15 ?_
  refine b_any (fun z3 z3_a z3_b => ?_)
  refine k_I (ce := 0) (sl := 0) (rest := [.int (iI z2)]) (wr := []) (r_S (f := 0) [] M w V_HookedCity_Slipped_48 G1010 (c122_X6_foundOf l D T _ x2 x1 z3 x2_a x2_b x1_a x1_b z3_a z3_b) rfl (by decide) rfl hl.1 rfl (Nat.le_of_ble_eq_true rfl) dX6_mostLeft_16 (by decide) (by decide) (by decide) (by decide)) w [] [] rfl rfl (by decide) (by decide) rfl rfl (fun v z4 H locs hp w => ?_)
  have hv : iI z4 = v := hp.1
  subst hv
  have z4_a : (-2147483648) ≤ z4 := hp.2.1
  have z4_b : z4 ≤ 2147483647 := hp.2.2
  have w : WD D A s.heap [] H locs := w
  refine lv_icmp_ne (tgt := 24) hx hb dX6_mostLeft_19 (by decide) (fun c_5 => ?_) (fun c_5 => ?_)
  · replace c_5 : ¬ z2 = z4 := fun h => c_5 ((iI_eq (Int.le_trans (by decide) z2_a) (Int.le_trans z2_b (by decide)) (Int.le_trans (by decide) z4_a) (Int.le_trans z4_b (by decide))).mpr h)
    refine lv_iload_n hx hb dX6_mostLeft_24 rfl (lv_at hl 1 rfl) ?_
    refine lv_iconst (v := iI 1) hx hb dX6_mostLeft_25 (by decide +kernel) ?_
    refine lv_iload_n hx hb dX6_mostLeft_26 rfl (lv_at hl 3 rfl) ?_
    refine lv_iconst (v := iI 1) hx hb dX6_mostLeft_27 (by decide +kernel) ?_
    refine r_iadd (v := _) M rfl dX6_mostLeft_28 ?_
    refine b_any (fun z6 z6_a z6_b => ?_)
    refine r_ishl (v := _) M rfl dX6_mostLeft_29 ?_
    refine b_any (fun z7 z7_a z7_b => ?_)
    refine lv_iconst (v := iI 1) hx hb dX6_mostLeft_30 (by decide +kernel) ?_
    refine r_isub (v := _) M rfl dX6_mostLeft_31 ?_
    refine b_any (fun z8 z8_a z8_b => ?_)
    refine r_iand (v := _) M rfl dX6_mostLeft_32 ?_
    refine b_any (fun z9 z9_a z9_b => ?_)
    refine k_I (ce := 0) (sl := 0) (rest := []) (wr := []) (r_S (f := 0) [] M w V_HookedCity_Slipped_36 G1023 (c120_J6_bitCount_0f7a4 l D T _ z9 z9_a z9_b) rfl (by decide) rfl hl.1 rfl (Nat.le_of_ble_eq_true rfl) dX6_mostLeft_33 (by decide) (by decide) (by decide) (by decide)) w [] [] rfl rfl (by decide) (by decide) rfl rfl (fun v z10 H locs hp w => ?_)
    have hv : iI z10 = v := hp.1
    subst hv
    have z10_a : (-2147483648) ≤ z10 := hp.2.1
    have z10_b : z10 ≤ 2147483647 := hp.2.2
    have w : WD D A s.heap [] H locs := w
    refine lv_istore (lv' := [(4, .int (iI z10)), (3, .int (iI z1)), (0, .int (iI x0)), (1, .int (iI x1)), (2, .int (iI x2))]) hx hb dX6_mostLeft_36 hl (by decide) rfl (fun ls hl => ?_)
    refine lv_iload hx hb dX6_mostLeft_38 (lv_at hl 0 rfl) ?_
    refine lv_iload_n hx hb dX6_mostLeft_40 rfl (lv_at hl 1 rfl) ?_
    refine lv_iload hx hb dX6_mostLeft_41 (lv_at hl 0 rfl) ?_
    refine r_isub (v := _) M rfl dX6_mostLeft_43 ?_
    refine b_any (fun z11 z11_a z11_b => ?_)
    refine r_max (v := _) M G1028 G638 G136 G639 hl.1 (by decide) (Nat.le_of_ble_eq_true rfl) (by decide) (by decide) rfl dX6_mostLeft_44 ?_
    refine b_any (fun z12 z12_a z12_b => ?_)
    exact ret _ z12 _ _ _ _ _ [] dX6_mostLeft_47 ⟨rfl, z12_a, z12_b⟩ w (by decide) rfl
  · replace c_5 := (iI_eq (Int.le_trans (by decide) z2_a) (Int.le_trans z2_b (by decide)) (Int.le_trans (by decide) z4_a) (Int.le_trans z4_b (by decide))).mp c_5
    refine lv_iload_n hx hb dX6_mostLeft_22 rfl (lv_at hl 0 rfl) ?_
    exact ret _ z1 _ _ _ _ _ [] dX6_mostLeft_23 ⟨rfl, z1_a, z1_b⟩ w (by decide) rfl
set_option maxRecDepth 100000 in
set_option maxHeartbeats 4000000 in
theorem c124_X6_bestToTurn (l : Launch) (D : va_G) (T : Nat → ClassId) (sz : Nat) (x0 : Int) (x1 : Int) (x0_a : (-2147483648) ≤ x0) (x0_b : x0 ≤ 2147483647) (x1_a : 0 ≤ x1) (x1_b : x1 ≤ 9) : Met l yX6_bestToTurn (Cond.code yX6_bestToTurn cX6_bestToTurn 6 (some .int) :: GW) (Rm 2 0 0) (cPre [.int (iI x0), .int (iI x1)] D T [] sz) (qI D [] sz (fun (v : Int32) (u : Int) => iI u = v ∧ (-2147483648) ≤ u ∧ u ≤ 2147483647) (fun u => [])) 0 0 (va_A [] sz) := by
  refine e_I (by decide) (Nat.le_of_ble_eq_true rfl) ?_
  intro p e s m args below meth c A Q ls M hin w ret hl
  have hx := M.1.1
  have hb := M.1.2.1
  have hl : lv_has ls 6 [(0, .int (iI x0)), (1, .int (iI x1))] := hl
  refine lv_iconst (v := iI (-1)) hx hb dX6_bestToTurn_0 (by decide +kernel) ?_
  refine lv_istore_n (lv' := [(2, .int (iI (-1))), (0, .int (iI x0)), (1, .int (iI x1))]) hx hb dX6_bestToTurn_1 rfl hl (by decide) rfl (fun ls hl => ?_)
  refine lv_iconst (v := iI 0) hx hb dX6_bestToTurn_2 (by decide +kernel) ?_
  refine lv_istore_n (lv' := [(3, .int (iI 0)), (2, .int (iI (-1))), (0, .int (iI x0)), (1, .int (iI x1))]) hx hb dX6_bestToTurn_3 rfl hl (by decide) rfl (fun ls hl => ?_)
  refine lv_iconst (v := iI 0) hx hb dX6_bestToTurn_4 (by decide +kernel) ?_
  refine lv_istore (lv' := [(4, .int (iI 0)), (3, .int (iI 0)), (2, .int (iI (-1))), (0, .int (iI x0)), (1, .int (iI x1))]) hx hb dX6_bestToTurn_5 hl (by decide) rfl (fun ls hl => ?_)
  have loop1 : ∀ (k1 : Nat) (z1 : Int) (z2 : Int) (z3 : Int) (H : Heap) (locs : List Loc) (ls : Array Slot), 0 ≤ z1 → z1 ≤ 9 → (-2147483648) ≤ z2 → z2 ≤ 2147483647 → (-2147483648) ≤ z3 → z3 ≤ 2147483647 → ((x1 - z1) : Int).toNat < k1 → WD D A s.heap [] H locs → lv_has ls 6 [(4, .int (iI z1)), (3, .int (iI z2)), (2, .int (iI z3)), (0, .int (iI x0)), (1, .int (iI x1))] → W p l e (Rm 2 0 0) s m args below meth c H locs 0 0 Q (F0 m 7 ls []) := by
    intro k1
    induction k1 with
    | zero => intro z1 z2 z3 H locs ls z1_a z1_b z2_a z2_b z3_a z3_b hm; exact absurd hm (Nat.not_lt_zero _)
    | succ k1 ih1 =>
      intro z1 z2 z3 H locs ls z1_a z1_b z2_a z2_b z3_a z3_b hm1 w hl
      refine lv_iload hx hb dX6_bestToTurn_7 (lv_at hl 0 rfl) ?_
      refine lv_iload_n hx hb dX6_bestToTurn_9 rfl (lv_at hl 4 rfl) ?_
      refine lv_icmp_ge (tgt := 45) hx hb dX6_bestToTurn_10 (by decide) (fun c_4 => ?_) (fun c_4 => ?_)
      · replace c_4 := (iI_le (Int.le_trans (by decide) x1_a) (Int.le_trans x1_b (by decide)) (Int.le_trans (by decide) z1_a) (Int.le_trans z1_b (by decide))).mp c_4
        refine lv_iload_n hx hb dX6_bestToTurn_45 rfl (lv_at hl 2 rfl) ?_
        exact ret _ z3 _ _ _ _ _ [] dX6_bestToTurn_46 ⟨rfl, z3_a, z3_b⟩ w (by decide) rfl
      · replace c_4 : z1 < x1 := Int.not_le.mp (fun h => c_4 ((iI_le (Int.le_trans (by decide) x1_a) (Int.le_trans x1_b (by decide)) (Int.le_trans (by decide) z1_a) (Int.le_trans z1_b (by decide))).mpr h))
        refine lv_iload_n hx hb dX6_bestToTurn_13 rfl (lv_at hl 3 rfl) ?_
        refine lv_iload_n hx hb dX6_bestToTurn_14 rfl (lv_at hl 4 rfl) ?_
        refine lv_iload hx hb dX6_bestToTurn_15 (lv_at hl 0 rfl) ?_
        refine k_I (ce := 0) (sl := 0) (rest := []) (wr := []) (r_S (f := 1) [] M w V_HookedCity_Slipped_52 G1020 (c123_X6_mostLeft l D T _ x0 x1 z1 x0_a x0_b (by omega) (by omega) (by omega) (by omega)) rfl (by decide) rfl hl.1 rfl (Nat.le_of_ble_eq_true rfl) dX6_bestToTurn_17 (by decide) (by decide) (by decide) (by decide)) w [] [] rfl rfl (by decide) (by decide) rfl rfl (fun v z5 H locs hp w => ?_)
        have hv : iI z5 = v := hp.1
        subst hv
        have z5_a : (-2147483648) ≤ z5 := hp.2.1
        have z5_b : z5 ≤ 2147483647 := hp.2.2
        have w : WD D A s.heap [] H locs := w
        refine lv_istore (lv' := [(5, .int (iI z5)), (4, .int (iI z1)), (3, .int (iI z2)), (2, .int (iI z3)), (0, .int (iI x0)), (1, .int (iI x1))]) hx hb dX6_bestToTurn_20 hl (by decide) rfl (fun ls hl => ?_)
        refine lv_iload_n hx hb dX6_bestToTurn_22 rfl (lv_at hl 3 rfl) ?_
        refine lv_iconst (v := iI (-1)) hx hb dX6_bestToTurn_23 (by decide +kernel) ?_
        refine lv_icmp_eq (tgt := 33) hx hb dX6_bestToTurn_24 (by decide) (fun c_6 => ?_) (fun c_6 => ?_)
        · replace c_6 := (iI_eq (Int.le_trans (by decide) z3_a) (Int.le_trans z3_b (by decide)) (by decide) (by decide)).mp c_6
          refine lv_iload hx hb dX6_bestToTurn_33 (lv_at hl 1 rfl) ?_
          refine lv_istore_n (lv' := [(2, .int (iI z1)), (5, .int (iI z5)), (4, .int (iI z1)), (3, .int (iI z2)), (0, .int (iI x0)), (1, .int (iI x1))]) hx hb dX6_bestToTurn_35 rfl hl (by decide) rfl (fun ls hl => ?_)
          refine lv_iload hx hb dX6_bestToTurn_36 (lv_at hl 1 rfl) ?_
          refine lv_istore_n (lv' := [(3, .int (iI z5)), (2, .int (iI z1)), (5, .int (iI z5)), (4, .int (iI z1)), (0, .int (iI x0)), (1, .int (iI x1))]) hx hb dX6_bestToTurn_38 rfl hl (by decide) rfl (fun ls hl => ?_)
          refine lv_iinc (v := iI (z1 + 1)) (lv' := [(4, .int (iI (z1 + 1))), (3, .int (iI z5)), (2, .int (iI z1)), (5, .int (iI z5)), (0, .int (iI x0)), (1, .int (iI x1))]) hx hb dX6_bestToTurn_39 hl (k := 3) rfl (ii_inc (by decide +kernel)) (by decide) rfl (fun ls hl => ?_)
          refine lv_goto (tgt := 7) hx hb dX6_bestToTurn_42 (by decide) ?_
          exact ih1 (z1 + 1) z5 z1 _ _ _ (by omega) (by omega) z5_a z5_b (by omega) (by omega) (by omega) w (lv_sub hl [0, 1, 2, 4, 5] rfl)
        · replace c_6 : ¬ z3 = (-1) := fun h => c_6 ((iI_eq (Int.le_trans (by decide) z3_a) (Int.le_trans z3_b (by decide)) (by decide) (by decide)).mpr h)
          refine lv_iload hx hb dX6_bestToTurn_27 (lv_at hl 0 rfl) ?_
          refine lv_iload_n hx hb dX6_bestToTurn_29 rfl (lv_at hl 2 rfl) ?_
          refine lv_icmp_ge (tgt := 39) hx hb dX6_bestToTurn_30 (by decide) (fun c_7 => ?_) (fun c_7 => ?_)
          · replace c_7 := (iI_le (Int.le_trans (by decide) z2_a) (Int.le_trans z2_b (by decide)) (Int.le_trans (by decide) z5_a) (Int.le_trans z5_b (by decide))).mp c_7
            refine lv_iinc (v := iI (z1 + 1)) (lv' := [(4, .int (iI (z1 + 1))), (5, .int (iI z5)), (3, .int (iI z2)), (2, .int (iI z3)), (0, .int (iI x0)), (1, .int (iI x1))]) hx hb dX6_bestToTurn_39 hl (k := 1) rfl (ii_inc (by decide +kernel)) (by decide) rfl (fun ls hl => ?_)
            refine lv_goto (tgt := 7) hx hb dX6_bestToTurn_42 (by decide) ?_
            exact ih1 (z1 + 1) z2 z3 _ _ _ (by omega) (by omega) z2_a z2_b z3_a z3_b (by omega) w (lv_sub hl [0, 2, 3, 4, 5] rfl)
          · replace c_7 : z5 < z2 := Int.not_le.mp (fun h => c_7 ((iI_le (Int.le_trans (by decide) z2_a) (Int.le_trans z2_b (by decide)) (Int.le_trans (by decide) z5_a) (Int.le_trans z5_b (by decide))).mpr h))
            refine lv_iload hx hb dX6_bestToTurn_33 (lv_at hl 1 rfl) ?_
            refine lv_istore_n (lv' := [(2, .int (iI z1)), (5, .int (iI z5)), (4, .int (iI z1)), (3, .int (iI z2)), (0, .int (iI x0)), (1, .int (iI x1))]) hx hb dX6_bestToTurn_35 rfl hl (by decide) rfl (fun ls hl => ?_)
            refine lv_iload hx hb dX6_bestToTurn_36 (lv_at hl 1 rfl) ?_
            refine lv_istore_n (lv' := [(3, .int (iI z5)), (2, .int (iI z1)), (5, .int (iI z5)), (4, .int (iI z1)), (0, .int (iI x0)), (1, .int (iI x1))]) hx hb dX6_bestToTurn_38 rfl hl (by decide) rfl (fun ls hl => ?_)
            refine lv_iinc (v := iI (z1 + 1)) (lv' := [(4, .int (iI (z1 + 1))), (3, .int (iI z5)), (2, .int (iI z1)), (5, .int (iI z5)), (0, .int (iI x0)), (1, .int (iI x1))]) hx hb dX6_bestToTurn_39 hl (k := 3) rfl (ii_inc (by decide +kernel)) (by decide) rfl (fun ls hl => ?_)
            refine lv_goto (tgt := 7) hx hb dX6_bestToTurn_42 (by decide) ?_
            exact ih1 (z1 + 1) z5 z1 _ _ _ (by omega) (by omega) z5_a z5_b (by omega) (by omega) (by omega) w (lv_sub hl [0, 1, 2, 4, 5] rfl)
  exact loop1 (((x1 - 0) : Int).toNat + 1) 0 0 (-1) _ _ _ (by decide) (by decide) (by decide) (by decide) (by decide) (by decide) (Nat.lt_succ_self _) w (lv_sub hl [0, 1, 2, 3, 4] rfl)
set_option maxRecDepth 100000 in
set_option maxHeartbeats 4000000 in
theorem c125_X6_fits (l : Launch) (D : va_G) (T : Nat → ClassId) (sz : Nat) (a0 : Nat) (x0 : Int) (x1 : Int) (a1 : Nat) (x2 : Int) (r0 : Int32) (x3 : Int) (r1 : Int32) (r2 : Int32) (o0 : Option Nat) (y0 : Int64) (r3 : Int32) (r4 : Int32) (r5 : Int32) (r6 : Int32) (f0 : Nat → Int32) (x0_a : 0 ≤ x0) (x0_b : x0 ≤ 9) (x1_a : (-2147483648) ≤ x1) (x1_b : x1 ≤ 2147483647) (x2_a : 0 ≤ x2) (x2_b : x2 ≤ 940) (x3_a : 0 ≤ x3) (x3_b : x3 ≤ 940) (o0_h : wok T o0) : Met l yX6_fits (Cond.code yX6_fits cX6_fits 4 (some .boolean) :: GW) (Rm 1 0 0) (cPre [.ref a0, .int (iI x0), .int (iI x1)] D T [(a0, .inr (8, [.ref a1, .int (iI x2), .int r0, .int (iI x3), .int r1, .int r2, (va_rf o0), .long y0, .int r3, .int r4, .int r5, .int r6])), (a1, .inl (T 0, 940, .inl f0))] sz) (qI D [(a0, .inr (8, [.ref a1, .int (iI x2), .int r0, .int (iI x3), .int r1, .int r2, (va_rf o0), .long y0, .int r3, .int r4, .int r5, .int r6])), (a1, .inl (T 0, 940, .inl f0))] sz (fun (v : Int32) (u : Int) => iI u = v ∧ 0 ≤ u ∧ u ≤ 1) (fun u => [(a0, .inr (8, [.ref a1, .int (iI x2), .int r0, .int (iI x3), .int r1, .int r2, (va_rf o0), .long y0, .int r3, .int r4, .int r5, .int r6])), (a1, .inl (T 0, 940, .inl f0))])) 0 0 (va_A [(a0, .inr (8, [.ref a1, .int (iI x2), .int r0, .int (iI x3), .int r1, .int r2, (va_rf o0), .long y0, .int r3, .int r4, .int r5, .int r6])), (a1, .inl (T 0, 940, .inl f0))] sz) := by
  refine e_Z (by decide) (Nat.le_of_ble_eq_true rfl) ?_
  intro p e s m args below meth c A Q ls M hin w ret hl
  have hx := M.1.1
  have hb := M.1.2.1
  have hl : lv_has ls 4 [(0, .ref a0), (1, .int (iI x0)), (2, .int (iI x1))] := hl
  refine lv_iconst (v := iI 0) hx hb dX6_fits_0 (by decide +kernel) ?_
  refine lv_istore_n (lv' := [(3, .int (iI 0)), (0, .ref a0), (1, .int (iI x0)), (2, .int (iI x1))]) hx hb dX6_fits_1 rfl hl (by decide) rfl (fun ls hl => ?_)
  have loop1 : ∀ (k1 : Nat) (z1 : Int) (H : Heap) (locs : List Loc) (ls : Array Slot), 0 ≤ z1 → z1 ≤ 942 → ((x2 - z1) : Int).toNat < k1 → WD D A s.heap [(a0, .inr (8, [.ref a1, .int (iI x2), .int r0, .int (iI x3), .int r1, .int r2, (va_rf o0), .long y0, .int r3, .int r4, .int r5, .int r6])), (a1, .inl (T 0, 940, .inl f0))] H locs → lv_has ls 4 [(3, .int (iI z1)), (0, .ref a0), (1, .int (iI x0)), (2, .int (iI x1))] → W p l e (Rm 1 0 0) s m args below meth c H locs 0 0 Q (F0 m 2 ls []) := by
    intro k1
    induction k1 with
    | zero => intro z1 H locs ls z1_a z1_b hm; exact absurd hm (Nat.not_lt_zero _)
    | succ k1 ih1 =>
      intro z1 H locs ls z1_a z1_b hm1 w hl
      refine lv_iload_n hx hb dX6_fits_2 rfl (lv_at hl 0 rfl) ?_
      refine lv_iconst (v := iI 1) hx hb dX6_fits_3 (by decide +kernel) ?_
      refine r_iadd (v := iI (z1 + 1)) M (iI_add _ _) dX6_fits_4 ?_
      refine lv_aload_n hx hb dX6_fits_5 rfl (lv_at hl 1 rfl) ?_
      refine r_getN (v := .int (iI x2)) M w 0 1 clX8 rfl (by decide) N163 rfl rfl dX6_fits_6 ?_
      refine lv_icmp_ge (tgt := 42) hx hb dX6_fits_9 (by decide) (fun c_2 => ?_) (fun c_2 => ?_)
      · replace c_2 := (iI_le (Int.le_trans (by decide) x2_a) (Int.le_trans x2_b (by decide)) (by omega) (by omega)).mp c_2
        refine lv_iconst (v := iI 1) hx hb dX6_fits_42 (by decide +kernel) ?_
        exact ret _ 1 _ _ _ _ _ [0, 1] dX6_fits_43 (by decide +kernel) ⟨rfl, (show (0 : Int) ≤ 1 from by decide), (show (1 : Int) ≤ 1 from by decide)⟩ w (by decide) rfl
      · replace c_2 : (z1 + 1) < x2 := Int.not_le.mp (fun h => c_2 ((iI_le (Int.le_trans (by decide) x2_a) (Int.le_trans x2_b (by decide)) (by omega) (by omega)).mpr h))
        refine lv_aload_n hx hb dX6_fits_12 rfl (lv_at hl 1 rfl) ?_
        refine r_getN (v := .ref a1) M w 0 0 clX8 rfl (by decide) N161 rfl rfl dX6_fits_13 ?_
        refine lv_iload_n hx hb dX6_fits_16 rfl (lv_at hl 0 rfl) ?_
        refine lv_iconst (v := iI 1) hx hb dX6_fits_17 (by decide +kernel) ?_
        refine r_iadd (v := iI (z1 + 1)) M (iI_add _ _) dX6_fits_18 ?_
        refine r_iald (v := _) M w 1 rfl (iI_in (by omega) (by omega) (by decide)) rfl dX6_fits_19 ?_
        refine b_any (fun z3 z3_a z3_b => ?_)
        refine lv_aload_n hx hb dX6_fits_20 rfl (lv_at hl 1 rfl) ?_
        refine r_getN (v := .ref a1) M w 0 0 clX8 rfl (by decide) N161 rfl rfl dX6_fits_21 ?_
        refine lv_iload_n hx hb dX6_fits_24 rfl (lv_at hl 0 rfl) ?_
        refine r_iald (v := _) M w 1 rfl (iI_in (by omega) (by omega) (by decide)) rfl dX6_fits_25 ?_
        refine b_any (fun z4 z4_a z4_b => ?_)
        refine lv_iload_n hx hb dX6_fits_26 rfl (lv_at hl 2 rfl) ?_
        refine lv_iload_n hx hb dX6_fits_27 rfl (lv_at hl 3 rfl) ?_
        refine k_I (ce := 0) (sl := 0) (rest := [.int (iI z3)]) (wr := [(a0, .inr (8, [.ref a1, .int (iI x2), .int r0, .int (iI x3), .int r1, .int r2, (va_rf o0), .long y0, .int r3, .int r4, .int r5, .int r6])), (a1, .inl (T 0, 940, .inl f0))]) (r_S (f := 0) [] M w V_HookedCity_Slipped_48 G1010 (c122_X6_foundOf l D T _ z4 x0 x1 z4_a z4_b (by omega) (by omega) x1_a x1_b) rfl (by decide) rfl hl.1 rfl (Nat.le_of_ble_eq_true rfl) dX6_fits_28 (by decide) (by decide) (by decide) (by decide)) w [] [0, 1] rfl rfl (by decide) (by decide) rfl rfl (fun v z5 H locs hp w => ?_)
        have hv : iI z5 = v := hp.1
        subst hv
        have z5_a : (-2147483648) ≤ z5 := hp.2.1
        have z5_b : z5 ≤ 2147483647 := hp.2.2
        have w : WD D A s.heap [(a0, .inr (8, [.ref a1, .int (iI x2), .int r0, .int (iI x3), .int r1, .int r2, (va_rf o0), .long y0, .int r3, .int r4, .int r5, .int r6])), (a1, .inl (T 0, 940, .inl f0))] H locs := w
        refine lv_icmp_eq (tgt := 36) hx hb dX6_fits_31 (by decide) (fun c_6 => ?_) (fun c_6 => ?_)
        · replace c_6 := (iI_eq (Int.le_trans (by decide) z3_a) (Int.le_trans z3_b (by decide)) (Int.le_trans (by decide) z5_a) (Int.le_trans z5_b (by decide))).mp c_6
          refine lv_iinc (v := iI (z1 + 2)) (lv' := [(3, .int (iI (z1 + 2))), (0, .ref a0), (1, .int (iI x0)), (2, .int (iI x1))]) hx hb dX6_fits_36 hl (k := 0) rfl (ii_inc (by decide +kernel)) (by decide) rfl (fun ls hl => ?_)
          refine lv_goto (tgt := 2) hx hb dX6_fits_39 (by decide) ?_
          exact ih1 (z1 + 2) _ _ _ (by omega) (by omega) (by omega) w (lv_sub hl [0, 1, 2, 3] rfl)
        · replace c_6 : ¬ z3 = z5 := fun h => c_6 ((iI_eq (Int.le_trans (by decide) z3_a) (Int.le_trans z3_b (by decide)) (Int.le_trans (by decide) z5_a) (Int.le_trans z5_b (by decide))).mpr h)
          refine lv_iconst (v := iI 0) hx hb dX6_fits_34 (by decide +kernel) ?_
          exact ret _ 0 _ _ _ _ _ [0, 1] dX6_fits_35 (by decide +kernel) ⟨rfl, (show (0 : Int) ≤ 0 from by decide), (show (0 : Int) ≤ 1 from by decide)⟩ w (by decide) rfl
  exact loop1 (((x2 - 0) : Int).toNat + 1) 0 _ _ _ (by decide) (by decide) (Nat.lt_succ_self _) w (lv_sub hl [0, 1, 2, 3] rfl)
set_option maxRecDepth 100000 in
set_option maxHeartbeats 4000000 in
theorem c126_X6_judge (l : Launch) (D : va_G) (T : Nat → ClassId) (sz : Nat) (a0 : Nat) (a1 : Nat) (x0 : Int) (r0 : Int32) (r1 : Int32) (a2 : Nat) (x1 : Int) (r2 : Int32) (x2 : Int) (r3 : Int32) (r4 : Int32) (o0 : Option Nat) (y0 : Int64) (r5 : Int32) (r6 : Int32) (r7 : Int32) (r8 : Int32) (f0 : Nat → Int32) (x0_a : 0 ≤ x0) (x0_b : x0 ≤ 9) (x1_a : 0 ≤ x1) (x1_b : x1 ≤ 940) (x2_a : 0 ≤ x2) (x2_b : x2 ≤ 940) (o0_h : wok T o0) : Met l yX6_judge (Cond.code yX6_judge cX6_judge 5 (some .int) :: GW) (Rm 3 0 0) (cPre [.ref a0, .ref a1, .int (iI x0)] D T [(a0, .inr (6, [.int r0, .int r1])), (a1, .inr (8, [.ref a2, .int (iI x1), .int r2, .int (iI x2), .int r3, .int r4, (va_rf o0), .long y0, .int r5, .int r6, .int r7, .int r8])), (a2, .inl (T 0, 940, .inl f0))] sz) (qI D [(a0, .inr (6, [.int r0, .int r1])), (a1, .inr (8, [.ref a2, .int (iI x1), .int r2, .int (iI x2), .int r3, .int r4, (va_rf o0), .long y0, .int r5, .int r6, .int r7, .int r8])), (a2, .inl (T 0, 940, .inl f0))] sz (fun (v : Int32) (u : Int × Int32 × Int32) => iI u.1 = v ∧ (-2147483648) ≤ u.1 ∧ u.1 ≤ 2147483647) (fun u => [(a0, .inr (6, [.int u.2.1, .int u.2.2])), (a1, .inr (8, [.ref a2, .int (iI x1), .int r2, .int (iI x2), .int r3, .int r4, (va_rf o0), .long y0, .int r5, .int r6, .int r7, .int r8])), (a2, .inl (T 0, 940, .inl f0))])) 0 0 (va_A [(a0, .inr (6, [.int r0, .int r1])), (a1, .inr (8, [.ref a2, .int (iI x1), .int r2, .int (iI x2), .int r3, .int r4, (va_rf o0), .long y0, .int r5, .int r6, .int r7, .int r8])), (a2, .inl (T 0, 940, .inl f0))] sz) := by
  refine e_I (by decide) (Nat.le_of_ble_eq_true rfl) ?_
  intro p e s m args below meth c A Q ls M hin w ret hl
  have hx := M.1.1
  have hb := M.1.2.1
  have hl : lv_has ls 5 [(0, .ref a0), (1, .ref a1), (2, .int (iI x0))] := hl
  refine lv_aload_n hx hb dX6_judge_0 rfl (lv_at hl 1 rfl) ?_
  refine lv_iload_n hx hb dX6_judge_1 rfl (lv_at hl 2 rfl) ?_
  refine k_I (ce := 0) (sl := 0) (rest := []) (wr := [(a0, .inr (6, [.int r0, .int r1]))]) (r_S (f := 0) [1, 2] M w V_HookedCity_Slipped_18 G1004 (c119_X6_isAsTold l D T _ a1 x0 a2 x1 r2 x2 r3 r4 o0 y0 r5 r6 r7 r8 f0 x0_a x0_b x1_a x1_b x2_a x2_b o0_h) rfl (by decide) rfl hl.1 rfl (Nat.le_of_ble_eq_true rfl) dX6_judge_2 (by decide) (by decide) (by decide) (by decide)) w [1, 2] [0] rfl rfl (by decide) (by decide) rfl rfl (fun v z1 H locs hp w => ?_)
  have hv : iI z1 = v := hp.1
  subst hv
  have z1_a : 0 ≤ z1 := hp.2.1
  have z1_b : z1 ≤ 1 := hp.2.2
  have w : WD D A s.heap [(a0, .inr (6, [.int r0, .int r1])), (a1, .inr (8, [.ref a2, .int (iI x1), .int r2, .int (iI x2), .int r3, .int r4, (va_rf o0), .long y0, .int r5, .int r6, .int r7, .int r8])), (a2, .inl (T 0, 940, .inl f0))] H locs := w
  refine lv_if_ne (tgt := 10) hx hb dX6_judge_5 (by decide) (fun c_2 => ?_) (fun c_2 => ?_)
  · replace c_2 : ¬ z1 = 0 := fun h => c_2 ((iz_eq (Int.le_trans (by decide) z1_a) (Int.le_trans z1_b (by decide))).mpr h)
    refine lv_iconst (v := iI 0) hx hb dX6_judge_10 (by decide +kernel) ?_
    refine lv_istore_n (lv' := [(3, .int (iI 0)), (0, .ref a0), (1, .ref a1), (2, .int (iI x0))]) hx hb dX6_judge_11 rfl hl (by decide) rfl (fun ls hl => ?_)
    refine lv_iconst (v := iI 0) hx hb dX6_judge_12 (by decide +kernel) ?_
    refine lv_istore (lv' := [(4, .int (iI 0)), (3, .int (iI 0)), (0, .ref a0), (1, .ref a1), (2, .int (iI x0))]) hx hb dX6_judge_13 hl (by decide) rfl (fun ls hl => ?_)
    have loop1 : ∀ (k1 : Nat) (z3 : Int) (z4 : Int) (H : Heap) (locs : List Loc) (ls : Array Slot), 0 ≤ z3 → z3 ≤ 10 → (-2147483648) ≤ z4 → z4 ≤ 2147483647 → (((x0 + 1) - z3) : Int).toNat < k1 → WD D A s.heap [(a0, .inr (6, [.int r0, .int r1])), (a1, .inr (8, [.ref a2, .int (iI x1), .int r2, .int (iI x2), .int r3, .int r4, (va_rf o0), .long y0, .int r5, .int r6, .int r7, .int r8])), (a2, .inl (T 0, 940, .inl f0))] H locs → lv_has ls 5 [(4, .int (iI z3)), (3, .int (iI z4)), (0, .ref a0), (1, .ref a1), (2, .int (iI x0))] → W p l e (Rm 3 0 0) s m args below meth c H locs 0 0 Q (F0 m 15 ls []) := by
      intro k1
      induction k1 with
      | zero => intro z3 z4 H locs ls z3_a z3_b z4_a z4_b hm; exact absurd hm (Nat.not_lt_zero _)
      | succ k1 ih1 =>
        intro z3 z4 H locs ls z3_a z3_b z4_a z4_b hm1 w hl
        refine lv_iload hx hb dX6_judge_15 (lv_at hl 0 rfl) ?_
        refine lv_iload_n hx hb dX6_judge_17 rfl (lv_at hl 4 rfl) ?_
        refine lv_icmp_gt (tgt := 48) hx hb dX6_judge_18 (by decide) (fun c_5 => ?_) (fun c_5 => ?_)
        · replace c_5 := (iI_lt (Int.le_trans (by decide) x0_a) (Int.le_trans x0_b (by decide)) (Int.le_trans (by decide) z3_a) (Int.le_trans z3_b (by decide))).mp c_5
          refine lv_iload_n hx hb dX6_judge_48 rfl (lv_at hl 1 rfl) ?_
          refine lv_if_eq (tgt := 69) hx hb dX6_judge_49 (by decide) (fun c_6 => ?_) (fun c_6 => ?_)
          · replace c_6 := (iz_eq (Int.le_trans (by decide) z4_a) (Int.le_trans z4_b (by decide))).mp c_6
            refine lv_iload_n hx hb dX6_judge_69 rfl (lv_at hl 1 rfl) ?_
            refine k_I (ce := 0) (sl := 0) (rest := []) (wr := [(a0, .inr (6, [.int r0, .int r1])), (a1, .inr (8, [.ref a2, .int (iI x1), .int r2, .int (iI x2), .int r3, .int r4, (va_rf o0), .long y0, .int r5, .int r6, .int r7, .int r8])), (a2, .inl (T 0, 940, .inl f0))]) (r_S (f := 0) [] M w V_HookedCity_Slipped_36 G1023 (c120_J6_bitCount_0f7a4 l D T _ z4 z4_a z4_b) rfl (by decide) rfl hl.1 rfl (Nat.le_of_ble_eq_true rfl) dX6_judge_70 (by decide) (by decide) (by decide) (by decide)) w [] [0, 1, 2] rfl rfl (by decide) (by decide) rfl rfl (fun v z7 H locs hp w => ?_)
            have hv : iI z7 = v := hp.1
            subst hv
            have z7_a : (-2147483648) ≤ z7 := hp.2.1
            have z7_b : z7 ≤ 2147483647 := hp.2.2
            have w : WD D A s.heap [(a0, .inr (6, [.int r0, .int r1])), (a1, .inr (8, [.ref a2, .int (iI x1), .int r2, .int (iI x2), .int r3, .int r4, (va_rf o0), .long y0, .int r5, .int r6, .int r7, .int r8])), (a2, .inl (T 0, 940, .inl f0))] H locs := w
            exact ret _ (z7, r0, r1) _ _ _ _ _ [0, 1, 2] dX6_judge_73 ⟨rfl, z7_a, z7_b⟩ w (by decide) rfl
          · replace c_6 : ¬ z4 = 0 := fun h => c_6 ((iz_eq (Int.le_trans (by decide) z4_a) (Int.le_trans z4_b (by decide))).mpr h)
            refine lv_aload_n hx hb dX6_judge_52 rfl (lv_at hl 2 rfl) ?_
            refine lv_iload_n hx hb dX6_judge_53 rfl (lv_at hl 1 rfl) ?_
            refine k_I (ce := 0) (sl := 0) (rest := [.ref a0]) (wr := [(a0, .inr (6, [.int r0, .int r1])), (a1, .inr (8, [.ref a2, .int (iI x1), .int r2, .int (iI x2), .int r3, .int r4, (va_rf o0), .long y0, .int r5, .int r6, .int r7, .int r8])), (a2, .inl (T 0, 940, .inl f0))]) (r_S (f := 0) [] M w V_HookedCity_Slipped_26 G1013 (c121_J6_numberOfTrailingZeros_0f7a4 l D T _ z4 z4_a z4_b) rfl (by decide) rfl hl.1 rfl (Nat.le_of_ble_eq_true rfl) dX6_judge_54 (by decide) (by decide) (by decide) (by decide)) w [] [0, 1, 2] rfl rfl (by decide) (by decide) rfl rfl (fun v z8 H locs hp w => ?_)
            have hv : iI z8 = v := hp.1
            subst hv
            have z8_a : (-2147483648) ≤ z8 := hp.2.1
            have z8_b : z8 ≤ 2147483647 := hp.2.2
            have w : WD D A s.heap [(a0, .inr (6, [.int r0, .int r1])), (a1, .inr (8, [.ref a2, .int (iI x1), .int r2, .int (iI x2), .int r3, .int r4, (va_rf o0), .long y0, .int r5, .int r6, .int r7, .int r8])), (a2, .inl (T 0, 940, .inl f0))] H locs := w
            refine r_put (ws' := [(a0, .inr (6, [.int (iI z8), .int r1])), (a1, .inr (8, [.ref a2, .int (iI x1), .int r2, .int (iI x2), .int r3, .int r4, (va_rf o0), .long y0, .int r5, .int r6, .int r7, .int r8])), (a2, .inl (T 0, 940, .inl f0))]) M w 0 0 clX6 rfl (by decide) G315 rfl rfl rfl rfl (Nat.le_of_ble_eq_true rfl) rfl dX6_judge_57 (fun H locs w => ?_)
            refine lv_aload_n hx hb dX6_judge_60 rfl (lv_at hl 2 rfl) ?_
            refine lv_iload_n hx hb dX6_judge_61 rfl (lv_at hl 1 rfl) ?_
            refine lv_iload_n hx hb dX6_judge_62 rfl (lv_at hl 4 rfl) ?_
            refine k_I (ce := 0) (sl := 0) (rest := [.ref a0]) (wr := [(a0, .inr (6, [.int (iI z8), .int r1])), (a1, .inr (8, [.ref a2, .int (iI x1), .int r2, .int (iI x2), .int r3, .int r4, (va_rf o0), .long y0, .int r5, .int r6, .int r7, .int r8])), (a2, .inl (T 0, 940, .inl f0))]) (r_S (f := 2) [] M w V_HookedCity_Slipped_32 G1017 (c124_X6_bestToTurn l D T _ z4 x0 z4_a z4_b x0_a x0_b) rfl (by decide) rfl hl.1 rfl (Nat.le_of_ble_eq_true rfl) dX6_judge_63 (by decide) (by decide) (by decide) (by decide)) w [] [0, 1, 2] rfl rfl (by decide) (by decide) rfl rfl (fun v z9 H locs hp w => ?_)
            have hv : iI z9 = v := hp.1
            subst hv
            have z9_a : (-2147483648) ≤ z9 := hp.2.1
            have z9_b : z9 ≤ 2147483647 := hp.2.2
            have w : WD D A s.heap [(a0, .inr (6, [.int (iI z8), .int r1])), (a1, .inr (8, [.ref a2, .int (iI x1), .int r2, .int (iI x2), .int r3, .int r4, (va_rf o0), .long y0, .int r5, .int r6, .int r7, .int r8])), (a2, .inl (T 0, 940, .inl f0))] H locs := w
            refine r_put (ws' := [(a0, .inr (6, [.int (iI z8), .int (iI z9)])), (a1, .inr (8, [.ref a2, .int (iI x1), .int r2, .int (iI x2), .int r3, .int r4, (va_rf o0), .long y0, .int r5, .int r6, .int r7, .int r8])), (a2, .inl (T 0, 940, .inl f0))]) M w 0 1 clX6 rfl (by decide) G317 rfl rfl rfl rfl (Nat.le_of_ble_eq_true rfl) rfl dX6_judge_66 (fun H locs w => ?_)
            refine lv_iload_n hx hb dX6_judge_69 rfl (lv_at hl 1 rfl) ?_
            refine k_I (ce := 0) (sl := 0) (rest := []) (wr := [(a0, .inr (6, [.int (iI z8), .int (iI z9)])), (a1, .inr (8, [.ref a2, .int (iI x1), .int r2, .int (iI x2), .int r3, .int r4, (va_rf o0), .long y0, .int r5, .int r6, .int r7, .int r8])), (a2, .inl (T 0, 940, .inl f0))]) (r_S (f := 0) [] M w V_HookedCity_Slipped_36 G1023 (c120_J6_bitCount_0f7a4 l D T _ z4 z4_a z4_b) rfl (by decide) rfl hl.1 rfl (Nat.le_of_ble_eq_true rfl) dX6_judge_70 (by decide) (by decide) (by decide) (by decide)) w [] [0, 1, 2] rfl rfl (by decide) (by decide) rfl rfl (fun v z10 H locs hp w => ?_)
            have hv : iI z10 = v := hp.1
            subst hv
            have z10_a : (-2147483648) ≤ z10 := hp.2.1
            have z10_b : z10 ≤ 2147483647 := hp.2.2
            have w : WD D A s.heap [(a0, .inr (6, [.int (iI z8), .int (iI z9)])), (a1, .inr (8, [.ref a2, .int (iI x1), .int r2, .int (iI x2), .int r3, .int r4, (va_rf o0), .long y0, .int r5, .int r6, .int r7, .int r8])), (a2, .inl (T 0, 940, .inl f0))] H locs := w
            exact ret _ (z10, (iI z8), (iI z9)) _ _ _ _ _ [0, 1, 2] dX6_judge_73 ⟨rfl, z10_a, z10_b⟩ w (by decide) rfl
        · replace c_5 : z3 ≤ x0 := Int.not_lt.mp (fun h => c_5 ((iI_lt (Int.le_trans (by decide) x0_a) (Int.le_trans x0_b (by decide)) (Int.le_trans (by decide) z3_a) (Int.le_trans z3_b (by decide))).mpr h))
          refine lv_iload_n hx hb dX6_judge_21 rfl (lv_at hl 1 rfl) ?_
          refine lv_aload_n hx hb dX6_judge_22 rfl (lv_at hl 3 rfl) ?_
          refine lv_iload_n hx hb dX6_judge_23 rfl (lv_at hl 4 rfl) ?_
          refine lv_iload hx hb dX6_judge_24 (lv_at hl 0 rfl) ?_
          refine k_I (ce := 0) (sl := 0) (rest := [.int (iI z4)]) (wr := [(a0, .inr (6, [.int r0, .int r1]))]) (r_S (f := 1) [1, 2] M w V_HookedCity_Slipped_22 G1007 (c125_X6_fits l D T _ a1 x0 z3 a2 x1 r2 x2 r3 r4 o0 y0 r5 r6 r7 r8 f0 x0_a x0_b (by omega) (by omega) x1_a x1_b x2_a x2_b o0_h) rfl (by decide) rfl hl.1 rfl (Nat.le_of_ble_eq_true rfl) dX6_judge_26 (by decide) (by decide) (by decide) (by decide)) w [1, 2] [0] rfl rfl (by decide) (by decide) rfl rfl (fun v z11 H locs hp w => ?_)
          have hv : iI z11 = v := hp.1
          subst hv
          have z11_a : 0 ≤ z11 := hp.2.1
          have z11_b : z11 ≤ 1 := hp.2.2
          have w : WD D A s.heap [(a0, .inr (6, [.int r0, .int r1])), (a1, .inr (8, [.ref a2, .int (iI x1), .int r2, .int (iI x2), .int r3, .int r4, (va_rf o0), .long y0, .int r5, .int r6, .int r7, .int r8])), (a2, .inl (T 0, 940, .inl f0))] H locs := w
          refine lv_if_eq (tgt := 39) hx hb dX6_judge_29 (by decide) (fun c_12 => ?_) (fun c_12 => ?_)
          · replace c_12 := (iz_eq (Int.le_trans (by decide) z11_a) (Int.le_trans z11_b (by decide))).mp c_12
            refine lv_iconst (v := iI 0) hx hb dX6_judge_39 (by decide +kernel) ?_
            refine r_ior (v := _) M rfl dX6_judge_40 ?_
            refine b_any (fun z13 z13_a z13_b => ?_)
            refine lv_istore_n (lv' := [(3, .int (iI z13)), (4, .int (iI z3)), (0, .ref a0), (1, .ref a1), (2, .int (iI x0))]) hx hb dX6_judge_41 rfl hl (by decide) rfl (fun ls hl => ?_)
            refine lv_iinc (v := iI (z3 + 1)) (lv' := [(4, .int (iI (z3 + 1))), (3, .int (iI z13)), (0, .ref a0), (1, .ref a1), (2, .int (iI x0))]) hx hb dX6_judge_42 hl (k := 1) rfl (ii_inc (by decide +kernel)) (by decide) rfl (fun ls hl => ?_)
            refine lv_goto (tgt := 15) hx hb dX6_judge_45 (by decide) ?_
            exact ih1 (z3 + 1) z13 _ _ _ (by omega) (by omega) z13_a z13_b (by omega) w (lv_sub hl [0, 1, 2, 3, 4] rfl)
          · replace c_12 : ¬ z11 = 0 := fun h => c_12 ((iz_eq (Int.le_trans (by decide) z11_a) (Int.le_trans z11_b (by decide))).mpr h)
            refine lv_iconst (v := iI 1) hx hb dX6_judge_32 (by decide +kernel) ?_
            refine lv_iload hx hb dX6_judge_33 (lv_at hl 0 rfl) ?_
            refine r_ishl (v := _) M rfl dX6_judge_35 ?_
            refine b_any (fun z14 z14_a z14_b => ?_)
            refine lv_goto (tgt := 40) hx hb dX6_judge_36 (by decide) ?_
            refine r_ior (v := _) M rfl dX6_judge_40 ?_
            refine b_any (fun z15 z15_a z15_b => ?_)
            refine lv_istore_n (lv' := [(3, .int (iI z15)), (4, .int (iI z3)), (0, .ref a0), (1, .ref a1), (2, .int (iI x0))]) hx hb dX6_judge_41 rfl hl (by decide) rfl (fun ls hl => ?_)
            refine lv_iinc (v := iI (z3 + 1)) (lv' := [(4, .int (iI (z3 + 1))), (3, .int (iI z15)), (0, .ref a0), (1, .ref a1), (2, .int (iI x0))]) hx hb dX6_judge_42 hl (k := 1) rfl (ii_inc (by decide +kernel)) (by decide) rfl (fun ls hl => ?_)
            refine lv_goto (tgt := 15) hx hb dX6_judge_45 (by decide) ?_
            exact ih1 (z3 + 1) z15 _ _ _ (by omega) (by omega) z15_a z15_b (by omega) w (lv_sub hl [0, 1, 2, 3, 4] rfl)
    exact loop1 ((((x0 + 1) - 0) : Int).toNat + 1) 0 0 _ _ _ (by decide) (by decide) (by decide) (by decide) (Nat.lt_succ_self _) w (lv_sub hl [0, 1, 2, 3, 4] rfl)
  · replace c_2 := (iz_eq (Int.le_trans (by decide) z1_a) (Int.le_trans z1_b (by decide))).mp c_2
    refine lv_iconst (v := iI (-1)) hx hb dX6_judge_8 (by decide +kernel) ?_
    exact ret _ ((-1), r0, r1) _ _ _ _ _ [0, 1, 2] dX6_judge_9 ⟨rfl, (show (-2147483648) ≤ (-1) from by decide), (show ((-1) : Int) ≤ 2147483647 from by decide)⟩ w (by decide) rfl
