theorem dX2_put_0 : decode cX2_put 0 = .ok (.aload_n 0, 1) := by decide +kernel
theorem dX2_put_1 : decode cX2_put 1 = .ok (.getfield 15, 3) := by decide +kernel
theorem G350 : Cond.fieldLink "HookedCity$Label" 15 "HookedCity$Label" "length" "I" ∈ GW := gw_i 350 (by decide +kernel) rfl
theorem dX2_put_4 : decode cX2_put 4 = .ok (.bipush 23, 2) := by decide +kernel
theorem dX2_put_6 : decode cX2_put 6 = .ok (.if_icmp .ge 23, 3) := by decide +kernel
theorem dX2_put_29 : decode cX2_put 29 = .ok (.return_, 1) := by decide +kernel
theorem dX2_put_9 : decode cX2_put 9 = .ok (.aload_n 0, 1) := by decide +kernel
theorem dX2_put_10 : decode cX2_put 10 = .ok (.getfield 11, 3) := by decide +kernel
theorem G348 : Cond.fieldLink "HookedCity$Label" 11 "HookedCity$Label" "bytes" "[I" ∈ GW := gw_i 348 (by decide +kernel) rfl
theorem dX2_put_13 : decode cX2_put 13 = .ok (.aload_n 0, 1) := by decide +kernel
theorem dX2_put_14 : decode cX2_put 14 = .ok (.getfield 15, 3) := by decide +kernel
theorem dX2_put_17 : decode cX2_put 17 = .ok (.iload_n 1, 1) := by decide +kernel
theorem dX2_put_18 : decode cX2_put 18 = .ok (.iastore, 1) := by decide +kernel
theorem dX2_put_19 : decode cX2_put 19 = .ok (.aload_n 0, 1) := by decide +kernel
theorem dX2_put_20 : decode cX2_put 20 = .ok (.dup, 1) := by decide +kernel
theorem dX2_put_21 : decode cX2_put 21 = .ok (.getfield 15, 3) := by decide +kernel
theorem dX2_put_24 : decode cX2_put 24 = .ok (.iconst 1, 1) := by decide +kernel
theorem dX2_put_25 : decode cX2_put 25 = .ok (.iadd, 1) := by decide +kernel
theorem dX2_put_26 : decode cX2_put 26 = .ok (.putfield 15, 3) := by decide +kernel
theorem dX2_putName_0 : decode cX2_putName 0 = .ok (.iconst 0, 1) := by decide +kernel
theorem dX2_putName_1 : decode cX2_putName 1 = .ok (.istore_n 3, 1) := by decide +kernel
theorem dX2_putName_2 : decode cX2_putName 2 = .ok (.iload_n 3, 1) := by decide +kernel
theorem dX2_putName_3 : decode cX2_putName 3 = .ok (.bipush 7, 2) := by decide +kernel
theorem dX2_putName_5 : decode cX2_putName 5 = .ok (.if_icmp .ge 27, 3) := by decide +kernel
theorem dX2_putName_32 : decode cX2_putName 32 = .ok (.return_, 1) := by decide +kernel
theorem dX2_putName_8 : decode cX2_putName 8 = .ok (.lload_n 1, 1) := by decide +kernel
theorem dX2_putName_9 : decode cX2_putName 9 = .ok (.iload_n 3, 1) := by decide +kernel
theorem dX2_putName_10 : decode cX2_putName 10 = .ok (.invokestatic 54, 3) := by decide +kernel
theorem G1094 : Cond.code ⟨"HookedCity$Tape", "letterOf", "(JI)I"⟩ prog_10_method_10_code 4 (some .int) ∈ GW := gw_i 1094 (by decide +kernel) rfl
theorem G1092 : Cond.methodLink "HookedCity$Label" 54 ⟨"HookedCity$Tape", "letterOf", "(JI)I"⟩ ∈ GW := gw_i 1092 (by decide +kernel) rfl
theorem V_HookedCity_Label_54 : VL "HookedCity$Label" 54 yX8_letterOf cX8_letterOf 4 (some .int) 2 := ⟨G1094, G1092, G120, by decide +kernel, by decide +kernel, by decide +kernel⟩
theorem G1093 : Cond.static ⟨"HookedCity$Tape", "letterOf", "(JI)I"⟩ ∈ GW := gw_i 1093 (by decide +kernel) rfl
theorem dX2_putName_13 : decode cX2_putName 13 = .ok (.istore 4, 2) := by decide +kernel
theorem dX2_putName_15 : decode cX2_putName 15 = .ok (.iload 4, 2) := by decide +kernel
theorem dX2_putName_17 : decode cX2_putName 17 = .ok (.ifCond .eq 9, 3) := by decide +kernel
theorem dX2_putName_26 : decode cX2_putName 26 = .ok (.iinc 3 1, 3) := by decide +kernel
theorem dX2_putName_29 : decode cX2_putName 29 = .ok (.goto (-27), 3) := by decide +kernel
theorem dX2_putName_20 : decode cX2_putName 20 = .ok (.aload_n 0, 1) := by decide +kernel
theorem dX2_putName_21 : decode cX2_putName 21 = .ok (.iload 4, 2) := by decide +kernel
theorem dX2_putName_23 : decode cX2_putName 23 = .ok (.invokevirtual 58, 3) := by decide +kernel
theorem G1098 : Cond.code ⟨"HookedCity$Label", "put", "(I)V"⟩ prog_4_method_5_code 2 none ∈ GW := gw_i 1098 (by decide +kernel) rfl
theorem G1095 : Cond.methodLink "HookedCity$Label" 58 ⟨"HookedCity$Label", "put", "(I)V"⟩ ∈ GW := gw_i 1095 (by decide +kernel) rfl
theorem G127 : Cond.initialized "HookedCity$Label" ∈ GW := gw_i 127 (by decide +kernel) rfl
theorem V_HookedCity_Label_58 : VL "HookedCity$Label" 58 yX2_put cX2_put 2 none 1 := ⟨G1098, G1095, G127, by decide +kernel, by decide +kernel, by decide +kernel⟩
theorem G1097 : Cond.instanceMethod ⟨"HookedCity$Label", "put", "(I)V"⟩ ∈ GW := gw_i 1097 (by decide +kernel) rfl
theorem G27 : Cond.selects "HookedCity$Label" ⟨"HookedCity$Label", "put", "(I)V"⟩ ⟨"HookedCity$Label", "put", "(I)V"⟩ ∈ GW := gw_i 27 (by decide +kernel) rfl
theorem dJ3_checkIndex_8e157_0 : decode cJ3_checkIndex_8e157 0 = .ok (.iload_n 0, 1) := by decide +kernel
theorem dJ3_checkIndex_8e157_1 : decode cJ3_checkIndex_8e157 1 = .ok (.ifCond .lt 8, 3) := by decide +kernel
theorem dJ3_checkIndex_8e157_4 : decode cJ3_checkIndex_8e157 4 = .ok (.iload_n 0, 1) := by decide +kernel
theorem dJ3_checkIndex_8e157_5 : decode cJ3_checkIndex_8e157 5 = .ok (.iload_n 1, 1) := by decide +kernel
theorem dJ3_checkIndex_8e157_6 : decode cJ3_checkIndex_8e157 6 = .ok (.if_icmp .lt 10, 3) := by decide +kernel
theorem dJ3_checkIndex_8e157_16 : decode cJ3_checkIndex_8e157 16 = .ok (.iload_n 0, 1) := by decide +kernel
theorem dJ3_checkIndex_8e157_17 : decode cJ3_checkIndex_8e157 17 = .ok (.ireturn, 1) := by decide +kernel
theorem dJ0_checkIndex_df160_0 : decode cJ0_checkIndex_df160 0 = .ok (.iload_n 0, 1) := by decide +kernel
theorem dJ0_checkIndex_df160_1 : decode cJ0_checkIndex_df160 1 = .ok (.iload_n 1, 1) := by decide +kernel
theorem dJ0_checkIndex_df160_2 : decode cJ0_checkIndex_df160 2 = .ok (.getstatic 1053, 3) := by decide +kernel
theorem G664 : Cond.fieldLink "java/lang/String" 1053 "jdk/internal/util/Preconditions" "SIOOBE_FORMATTER" "Ljava/util/function/BiFunction;" ∈ GW := gw_i 664 (by decide +kernel) rfl
theorem dJ0_checkIndex_df160_5 : decode cJ0_checkIndex_df160 5 = .ok (.invokestatic 1059, 3) := by decide +kernel
theorem G1117 : Cond.code ⟨"jdk/internal/util/Preconditions", "checkIndex", "(IILjava/util/function/BiFunction;)I"⟩ prog_33_method_11_code 3 (some .int) ∈ GW := gw_i 1117 (by decide +kernel) rfl
theorem G1115 : Cond.methodLink "java/lang/String" 1059 ⟨"jdk/internal/util/Preconditions", "checkIndex", "(IILjava/util/function/BiFunction;)I"⟩ ∈ GW := gw_i 1115 (by decide +kernel) rfl
theorem G138 : Cond.initialized "jdk/internal/util/Preconditions" ∈ GW := gw_i 138 (by decide +kernel) rfl
theorem V_java_lang_String_1059 : VL "java/lang/String" 1059 yJ3_checkIndex_8e157 cJ3_checkIndex_8e157 3 (some .int) 3 := ⟨G1117, G1115, G138, by decide +kernel, by decide +kernel, by decide +kernel⟩
theorem G1116 : Cond.static ⟨"jdk/internal/util/Preconditions", "checkIndex", "(IILjava/util/function/BiFunction;)I"⟩ ∈ GW := gw_i 1116 (by decide +kernel) rfl
theorem dJ0_checkIndex_df160_8 : decode cJ0_checkIndex_df160 8 = .ok (.pop, 1) := by decide +kernel
theorem dJ0_checkIndex_df160_9 : decode cJ0_checkIndex_df160 9 = .ok (.return_, 1) := by decide +kernel
theorem dJ1_charAt_3b067_0 : decode cJ1_charAt_3b067 0 = .ok (.iload_n 1, 1) := by decide +kernel
theorem dJ1_charAt_3b067_1 : decode cJ1_charAt_3b067 1 = .ok (.aload_n 0, 1) := by decide +kernel
theorem dJ1_charAt_3b067_2 : decode cJ1_charAt_3b067 2 = .ok (.arraylength, 1) := by decide +kernel
theorem dJ1_charAt_3b067_3 : decode cJ1_charAt_3b067 3 = .ok (.invokestatic 9, 3) := by decide +kernel
theorem G1114 : Cond.code ⟨"java/lang/String", "checkIndex", "(II)V"⟩ prog_24_method_155_code 2 none ∈ GW := gw_i 1114 (by decide +kernel) rfl
theorem G1112 : Cond.methodLink "java/lang/StringLatin1" 9 ⟨"java/lang/String", "checkIndex", "(II)V"⟩ ∈ GW := gw_i 1112 (by decide +kernel) rfl
theorem V_java_lang_StringLatin1_9 : VL "java/lang/StringLatin1" 9 yJ0_checkIndex_df160 cJ0_checkIndex_df160 2 none 2 := ⟨G1114, G1112, G134, by decide +kernel, by decide +kernel, by decide +kernel⟩
theorem G1113 : Cond.static ⟨"java/lang/String", "checkIndex", "(II)V"⟩ ∈ GW := gw_i 1113 (by decide +kernel) rfl
theorem dJ1_charAt_3b067_6 : decode cJ1_charAt_3b067 6 = .ok (.aload_n 0, 1) := by decide +kernel
theorem dJ1_charAt_3b067_7 : decode cJ1_charAt_3b067 7 = .ok (.iload_n 1, 1) := by decide +kernel
theorem dJ1_charAt_3b067_8 : decode cJ1_charAt_3b067 8 = .ok (.baload, 1) := by decide +kernel
theorem dJ1_charAt_3b067_9 : decode cJ1_charAt_3b067 9 = .ok (.sipush 255, 3) := by decide +kernel
theorem dJ1_charAt_3b067_12 : decode cJ1_charAt_3b067 12 = .ok (.iand, 1) := by decide +kernel
theorem dJ1_charAt_3b067_13 : decode cJ1_charAt_3b067 13 = .ok (.i2c, 1) := by decide +kernel
theorem dJ1_charAt_3b067_14 : decode cJ1_charAt_3b067 14 = .ok (.ireturn, 1) := by decide +kernel
theorem dJ0_charAt_5068e_0 : decode cJ0_charAt_5068e 0 = .ok (.aload_n 0, 1) := by decide +kernel
theorem dJ0_charAt_5068e_1 : decode cJ0_charAt_5068e 1 = .ok (.invokevirtual 492, 3) := by decide +kernel
theorem dJ0_charAt_5068e_4 : decode cJ0_charAt_5068e 4 = .ok (.ifCond .eq 12, 3) := by decide +kernel
theorem dJ0_charAt_5068e_7 : decode cJ0_charAt_5068e 7 = .ok (.aload_n 0, 1) := by decide +kernel
theorem dJ0_charAt_5068e_8 : decode cJ0_charAt_5068e 8 = .ok (.getfield 9, 3) := by decide +kernel
theorem dJ0_charAt_5068e_11 : decode cJ0_charAt_5068e 11 = .ok (.iload_n 1, 1) := by decide +kernel
theorem dJ0_charAt_5068e_12 : decode cJ0_charAt_5068e 12 = .ok (.invokestatic 495, 3) := by decide +kernel
theorem G1111 : Cond.code ⟨"java/lang/StringLatin1", "charAt", "([BI)C"⟩ prog_25_method_2_code 2 (some .char) ∈ GW := gw_i 1111 (by decide +kernel) rfl
theorem G1109 : Cond.methodLink "java/lang/String" 495 ⟨"java/lang/StringLatin1", "charAt", "([BI)C"⟩ ∈ GW := gw_i 1109 (by decide +kernel) rfl
theorem V_java_lang_String_495 : VL "java/lang/String" 495 yJ1_charAt_3b067 cJ1_charAt_3b067 2 (some .char) 2 := ⟨G1111, G1109, G135, by decide +kernel, by decide +kernel, by decide +kernel⟩
theorem G1110 : Cond.static ⟨"java/lang/StringLatin1", "charAt", "([BI)C"⟩ ∈ GW := gw_i 1110 (by decide +kernel) rfl
theorem dJ0_charAt_5068e_15 : decode cJ0_charAt_5068e 15 = .ok (.ireturn, 1) := by decide +kernel
theorem dX2_putText_0 : decode cX2_putText 0 = .ok (.iconst 0, 1) := by decide +kernel
theorem dX2_putText_1 : decode cX2_putText 1 = .ok (.istore_n 2, 1) := by decide +kernel
theorem dX2_putText_2 : decode cX2_putText 2 = .ok (.iload_n 2, 1) := by decide +kernel
theorem dX2_putText_3 : decode cX2_putText 3 = .ok (.aload_n 1, 1) := by decide +kernel
theorem dX2_putText_4 : decode cX2_putText 4 = .ok (.invokevirtual 62, 3) := by decide +kernel
theorem G1104 : Cond.methodLink "HookedCity$Label" 62 ⟨"java/lang/String", "length", "()I"⟩ ∈ GW := gw_i 1104 (by decide +kernel) rfl
theorem V_HookedCity_Label_62 : VL "HookedCity$Label" 62 yJ0_length_8abf5 cJ0_length_8abf5 1 (some .int) 0 := ⟨G626, G1104, G134, by decide +kernel, by decide +kernel, by decide +kernel⟩
theorem dX2_putText_7 : decode cX2_putText 7 = .ok (.if_icmp .ge 18, 3) := by decide +kernel
theorem dX2_putText_25 : decode cX2_putText 25 = .ok (.return_, 1) := by decide +kernel
theorem dX2_putText_10 : decode cX2_putText 10 = .ok (.aload_n 0, 1) := by decide +kernel
theorem dX2_putText_11 : decode cX2_putText 11 = .ok (.aload_n 1, 1) := by decide +kernel
theorem dX2_putText_12 : decode cX2_putText 12 = .ok (.iload_n 2, 1) := by decide +kernel
theorem dX2_putText_13 : decode cX2_putText 13 = .ok (.invokevirtual 67, 3) := by decide +kernel
theorem G1108 : Cond.code ⟨"java/lang/String", "charAt", "(I)C"⟩ prog_24_method_56_code 2 (some .char) ∈ GW := gw_i 1108 (by decide +kernel) rfl
theorem G1105 : Cond.methodLink "HookedCity$Label" 67 ⟨"java/lang/String", "charAt", "(I)C"⟩ ∈ GW := gw_i 1105 (by decide +kernel) rfl
theorem V_HookedCity_Label_67 : VL "HookedCity$Label" 67 yJ0_charAt_5068e cJ0_charAt_5068e 2 (some .char) 1 := ⟨G1108, G1105, G134, by decide +kernel, by decide +kernel, by decide +kernel⟩
theorem G1106 : Cond.instanceMethod ⟨"java/lang/String", "charAt", "(I)C"⟩ ∈ GW := gw_i 1106 (by decide +kernel) rfl
theorem G1107 : Cond.selects "java/lang/String" ⟨"java/lang/String", "charAt", "(I)C"⟩ ⟨"java/lang/String", "charAt", "(I)C"⟩ ∈ GW := gw_i 1107 (by decide +kernel) rfl
theorem dX2_putText_16 : decode cX2_putText 16 = .ok (.invokevirtual 58, 3) := by decide +kernel
theorem dX2_putText_19 : decode cX2_putText 19 = .ok (.iinc 2 1, 3) := by decide +kernel
theorem dX2_putText_22 : decode cX2_putText 22 = .ok (.goto (-20), 3) := by decide +kernel
theorem dX2_write_0 : decode cX2_write 0 = .ok (.aload_n 0, 1) := by decide +kernel
theorem dX2_write_1 : decode cX2_write 1 = .ok (.iconst 0, 1) := by decide +kernel
theorem dX2_write_2 : decode cX2_write 2 = .ok (.putfield 15, 3) := by decide +kernel
theorem dX2_write_5 : decode cX2_write 5 = .ok (.aload_n 0, 1) := by decide +kernel
theorem dX2_write_6 : decode cX2_write 6 = .ok (.aload_n 1, 1) := by decide +kernel
theorem dX2_write_7 : decode cX2_write 7 = .ok (.getfield 19, 3) := by decide +kernel
theorem N367 : Cond.fieldLinkNest "HookedCity$Label" 19 "HookedCity$Town" "names" "[J" "HookedCity" ∈ lw_tbl := List.mem_of_getElem? (i := 367) (by decide +kernel)
theorem dX2_write_10 : decode cX2_write 10 = .ok (.iload_n 3, 1) := by decide +kernel
theorem dX2_write_11 : decode cX2_write 11 = .ok (.laload, 1) := by decide +kernel
theorem dX2_write_12 : decode cX2_write 12 = .ok (.invokevirtual 25, 3) := by decide +kernel
theorem G1091 : Cond.code ⟨"HookedCity$Label", "putName", "(J)V"⟩ prog_4_method_3_code 5 none ∈ GW := gw_i 1091 (by decide +kernel) rfl
theorem G1088 : Cond.methodLink "HookedCity$Label" 25 ⟨"HookedCity$Label", "putName", "(J)V"⟩ ∈ GW := gw_i 1088 (by decide +kernel) rfl
theorem V_HookedCity_Label_25 : VL "HookedCity$Label" 25 yX2_putName cX2_putName 5 none 1 := ⟨G1091, G1088, G127, by decide +kernel, by decide +kernel, by decide +kernel⟩
theorem G1090 : Cond.instanceMethod ⟨"HookedCity$Label", "putName", "(J)V"⟩ ∈ GW := gw_i 1090 (by decide +kernel) rfl
theorem G26 : Cond.selects "HookedCity$Label" ⟨"HookedCity$Label", "putName", "(J)V"⟩ ⟨"HookedCity$Label", "putName", "(J)V"⟩ ∈ GW := gw_i 26 (by decide +kernel) rfl
theorem dX2_write_15 : decode cX2_write 15 = .ok (.aload_n 2, 1) := by decide +kernel
theorem dX2_write_16 : decode cX2_write 16 = .ok (.getfield 29, 3) := by decide +kernel
theorem N221 : Cond.fieldLinkNest "HookedCity$Label" 29 "HookedCity$State" "into" "[I" "HookedCity" ∈ lw_tbl := List.mem_of_getElem? (i := 221) (by decide +kernel)
theorem dX2_write_19 : decode cX2_write 19 = .ok (.iload_n 3, 1) := by decide +kernel
theorem dX2_write_20 : decode cX2_write 20 = .ok (.iaload, 1) := by decide +kernel
theorem dX2_write_21 : decode cX2_write 21 = .ok (.istore 4, 2) := by decide +kernel
theorem dX2_write_23 : decode cX2_write 23 = .ok (.iload 4, 2) := by decide +kernel
theorem dX2_write_25 : decode cX2_write 25 = .ok (.iconst (-1), 1) := by decide +kernel
theorem dX2_write_26 : decode cX2_write 26 = .ok (.if_icmp .ne 12, 3) := by decide +kernel
theorem dX2_write_38 : decode cX2_write 38 = .ok (.aload_n 0, 1) := by decide +kernel
theorem dX2_write_39 : decode cX2_write 39 = .ok (.ldc 40, 2) := by decide +kernel
theorem dX2_write_41 : decode cX2_write 41 = .ok (.invokevirtual 36, 3) := by decide +kernel
theorem G1103 : Cond.code ⟨"HookedCity$Label", "putText", "(Ljava/lang/String;)V"⟩ prog_4_method_4_code 3 none ∈ GW := gw_i 1103 (by decide +kernel) rfl
theorem G1100 : Cond.methodLink "HookedCity$Label" 36 ⟨"HookedCity$Label", "putText", "(Ljava/lang/String;)V"⟩ ∈ GW := gw_i 1100 (by decide +kernel) rfl
theorem V_HookedCity_Label_36 : VL "HookedCity$Label" 36 yX2_putText cX2_putText 3 none 1 := ⟨G1103, G1100, G127, by decide +kernel, by decide +kernel, by decide +kernel⟩
theorem G1102 : Cond.instanceMethod ⟨"HookedCity$Label", "putText", "(Ljava/lang/String;)V"⟩ ∈ GW := gw_i 1102 (by decide +kernel) rfl
theorem G28 : Cond.selects "HookedCity$Label" ⟨"HookedCity$Label", "putText", "(Ljava/lang/String;)V"⟩ ⟨"HookedCity$Label", "putText", "(Ljava/lang/String;)V"⟩ ∈ GW := gw_i 28 (by decide +kernel) rfl
theorem dX2_write_44 : decode cX2_write 44 = .ok (.aload_n 0, 1) := by decide +kernel
theorem dX2_write_45 : decode cX2_write 45 = .ok (.aload_n 1, 1) := by decide +kernel
theorem dX2_write_46 : decode cX2_write 46 = .ok (.getfield 19, 3) := by decide +kernel
theorem dX2_write_49 : decode cX2_write 49 = .ok (.iload 4, 2) := by decide +kernel
theorem dX2_write_51 : decode cX2_write 51 = .ok (.laload, 1) := by decide +kernel
theorem dX2_write_52 : decode cX2_write 52 = .ok (.invokevirtual 25, 3) := by decide +kernel
theorem dX2_write_55 : decode cX2_write 55 = .ok (.aload_n 2, 1) := by decide +kernel
theorem dX2_write_56 : decode cX2_write 56 = .ok (.getfield 42, 3) := by decide +kernel
theorem N216 : Cond.fieldLinkNest "HookedCity$Label" 42 "HookedCity$State" "left" "[I" "HookedCity" ∈ lw_tbl := List.mem_of_getElem? (i := 216) (by decide +kernel)
theorem dX2_write_59 : decode cX2_write 59 = .ok (.iload_n 3, 1) := by decide +kernel
theorem dX2_write_60 : decode cX2_write 60 = .ok (.iaload, 1) := by decide +kernel
theorem dX2_write_61 : decode cX2_write 61 = .ok (.ifCond .ne 12, 3) := by decide +kernel
theorem dX2_write_73 : decode cX2_write 73 = .ok (.aload_n 2, 1) := by decide +kernel
theorem dX2_write_74 : decode cX2_write 74 = .ok (.getfield 47, 3) := by decide +kernel
theorem N225 : Cond.fieldLinkNest "HookedCity$Label" 47 "HookedCity$State" "from" "[I" "HookedCity" ∈ lw_tbl := List.mem_of_getElem? (i := 225) (by decide +kernel)
theorem dX2_write_77 : decode cX2_write 77 = .ok (.iload_n 3, 1) := by decide +kernel
theorem dX2_write_78 : decode cX2_write 78 = .ok (.iaload, 1) := by decide +kernel
theorem dX2_write_79 : decode cX2_write 79 = .ok (.iconst (-1), 1) := by decide +kernel
theorem dX2_write_80 : decode cX2_write 80 = .ok (.if_icmp .ne 9, 3) := by decide +kernel
theorem dX2_write_89 : decode cX2_write 89 = .ok (.aload_n 0, 1) := by decide +kernel
theorem dX2_write_90 : decode cX2_write 90 = .ok (.getfield 15, 3) := by decide +kernel
theorem dX2_write_93 : decode cX2_write 93 = .ok (.ireturn, 1) := by decide +kernel
theorem dX2_write_83 : decode cX2_write 83 = .ok (.aload_n 0, 1) := by decide +kernel
theorem dX2_write_84 : decode cX2_write 84 = .ok (.ldc 50, 2) := by decide +kernel
theorem dX2_write_86 : decode cX2_write 86 = .ok (.invokevirtual 36, 3) := by decide +kernel
theorem dX2_write_64 : decode cX2_write 64 = .ok (.aload_n 0, 1) := by decide +kernel
theorem dX2_write_65 : decode cX2_write 65 = .ok (.ldc 45, 2) := by decide +kernel
theorem dX2_write_67 : decode cX2_write 67 = .ok (.invokevirtual 36, 3) := by decide +kernel
theorem dX2_write_70 : decode cX2_write 70 = .ok (.goto 19, 3) := by decide +kernel
theorem dX2_write_29 : decode cX2_write 29 = .ok (.aload_n 0, 1) := by decide +kernel
theorem dX2_write_30 : decode cX2_write 30 = .ok (.ldc 34, 2) := by decide +kernel
theorem dX2_write_32 : decode cX2_write 32 = .ok (.invokevirtual 36, 3) := by decide +kernel
theorem dX2_write_35 : decode cX2_write 35 = .ok (.goto 20, 3) := by decide +kernel
set_option maxRecDepth 100000 in
set_option maxHeartbeats 4000000 in
theorem c298_X2_put (l : Launch) (D : va_G) (T : Nat → ClassId) (sz : Nat) (a0 : Nat) (x0 : Int) (a1 : Nat) (x1 : Int) (f0 : Nat → Int32) (x0_a : (-2147483648) ≤ x0) (x0_b : x0 ≤ 2147483647) (x1_a : 0 ≤ x1) (x1_b : x1 ≤ 23) : Met l yX2_put (Cond.code yX2_put cX2_put 2 none :: GW) (Rm 0 0 0) (cPre [.ref a0, .int (iI x0)] D T [(a0, .inr (2, [.ref a1, .int (iI x1)])), (a1, .inl (T 0, 23, .inl f0))] sz) (qV D [(a0, .inr (2, [.ref a1, .int (iI x1)])), (a1, .inl (T 0, 23, .inl f0))] sz (fun (u : Int × (Nat → Int32)) => 0 ≤ u.1 ∧ u.1 ≤ 23) (fun u => [(a0, .inr (2, [.ref a1, .int (iI u.1)])), (a1, .inl (T 0, 23, .inl u.2))])) 0 0 (va_A [(a0, .inr (2, [.ref a1, .int (iI x1)])), (a1, .inl (T 0, 23, .inl f0))] sz) := by
  refine e_V (by decide) (Nat.le_of_ble_eq_true rfl) ?_
  intro p e s m args below meth c A Q ls M hin w ret hl
  have hx := M.1.1
  have hb := M.1.2.1
  have hl : lv_has ls 2 [(0, .ref a0), (1, .int (iI x0))] := hl
  refine lv_aload_n hx hb dX2_put_0 rfl (lv_at hl 0 rfl) ?_
  refine r_get (v := .int (iI x1)) M w 0 1 clX2 rfl (by decide) G350 rfl rfl dX2_put_1 ?_
  refine lv_bipush (v := iI 23) hx hb dX2_put_4 (by decide +kernel) ?_
  refine lv_icmp_ge (tgt := 29) hx hb dX2_put_6 (by decide) (fun c_1 => ?_) (fun c_1 => ?_)
  · replace c_1 := (iI_le (by decide) (by decide) (Int.le_trans (by decide) x1_a) (Int.le_trans x1_b (by decide))).mp c_1
    exact ret (x1, f0) _ _ _ _ _ [0, 1] dX2_put_29 ⟨x1_a, x1_b⟩ w (by decide) rfl
  · replace c_1 : x1 < 23 := Int.not_le.mp (fun h => c_1 ((iI_le (by decide) (by decide) (Int.le_trans (by decide) x1_a) (Int.le_trans x1_b (by decide))).mpr h))
    refine lv_aload_n hx hb dX2_put_9 rfl (lv_at hl 0 rfl) ?_
    refine r_get (v := .ref a1) M w 0 0 clX2 rfl (by decide) G348 rfl rfl dX2_put_10 ?_
    refine lv_aload_n hx hb dX2_put_13 rfl (lv_at hl 0 rfl) ?_
    refine r_get (v := .int (iI x1)) M w 0 1 clX2 rfl (by decide) G350 rfl rfl dX2_put_14 ?_
    refine lv_iload_n hx hb dX2_put_17 rfl (lv_at hl 1 rfl) ?_
    refine r_iast (ws' := [(a0, .inr (2, [.ref a1, .int (iI x1)])), (a1, .inl (T 0, 23, .inl (upd f0 (Int32.toNatClampNeg (iI x1)) (iI x0))))]) M w 1 rfl (iI_in (by omega) (by omega) (by decide)) rfl dX2_put_18 (fun H locs w => ?_)
    refine lv_aload_n hx hb dX2_put_19 rfl (lv_at hl 0 rfl) ?_
    refine lv_dup hx hb dX2_put_20 rfl ?_
    refine r_get (v := .int (iI x1)) M w 0 1 clX2 rfl (by decide) G350 rfl rfl dX2_put_21 ?_
    refine lv_iconst (v := iI 1) hx hb dX2_put_24 (by decide +kernel) ?_
    refine r_iadd (v := iI (x1 + 1)) M (iI_add _ _) dX2_put_25 ?_
    refine r_put (ws' := [(a0, .inr (2, [.ref a1, .int (iI (x1 + 1))])), (a1, .inl (T 0, 23, .inl (upd f0 (Int32.toNatClampNeg (iI x1)) (iI x0))))]) M w 0 1 clX2 rfl (by decide) G350 rfl rfl rfl rfl (Nat.le_of_ble_eq_true rfl) rfl dX2_put_26 (fun H locs w => ?_)
    exact ret ((x1 + 1), (upd f0 (Int32.toNatClampNeg (iI x1)) (iI x0))) _ _ _ _ _ [0, 1] dX2_put_29 ⟨(show 0 ≤ (x1 + 1) from by omega), (show (x1 + 1) ≤ 23 from by omega)⟩ w (by decide) rfl
set_option maxRecDepth 100000 in
set_option maxHeartbeats 4000000 in
theorem c299_X2_putName (l : Launch) (D : va_G) (T : Nat → ClassId) (sz : Nat) (a0 : Nat) (y0 : Int64) (a1 : Nat) (x0 : Int) (f0 : Nat → Int32) (x0_a : 0 ≤ x0) (x0_b : x0 ≤ 23) : Met l yX2_putName (Cond.code yX2_putName cX2_putName 5 none :: GW) (Rm 1 0 0) (cPre [.ref a0, .long y0] D T [(a0, .inr (2, [.ref a1, .int (iI x0)])), (a1, .inl (T 0, 23, .inl f0))] sz) (qV D [(a0, .inr (2, [.ref a1, .int (iI x0)])), (a1, .inl (T 0, 23, .inl f0))] sz (fun (u : Int × (Nat → Int32)) => 0 ≤ u.1 ∧ u.1 ≤ 23) (fun u => [(a0, .inr (2, [.ref a1, .int (iI u.1)])), (a1, .inl (T 0, 23, .inl u.2))])) 0 0 (va_A [(a0, .inr (2, [.ref a1, .int (iI x0)])), (a1, .inl (T 0, 23, .inl f0))] sz) := by
  refine e_V (by decide) (Nat.le_of_ble_eq_true rfl) ?_
  intro p e s m args below meth c A Q ls M hin w ret hl
  have hx := M.1.1
  have hb := M.1.2.1
  have hl : lv_has ls 5 [(0, .ref a0), (1, .long y0)] := hl
  refine lv_iconst (v := iI 0) hx hb dX2_putName_0 (by decide +kernel) ?_
  refine lv_istore_n (lv' := [(3, .int (iI 0)), (0, .ref a0), (1, .long y0)]) hx hb dX2_putName_1 rfl hl (by decide) rfl (fun ls hl => ?_)
  have loop1 : ∀ (k1 : Nat) (z1 : Int) (ff2 : Nat → Int32) (z3 : Int) (H : Heap) (locs : List Loc) (ls : Array Slot), 0 ≤ z1 → z1 ≤ 23 → 0 ≤ z3 → z3 ≤ 7 → ((7 - z3) : Int).toNat < k1 → WD D A s.heap [(a0, .inr (2, [.ref a1, .int (iI z1)])), (a1, .inl (T 0, 23, .inl ff2))] H locs → lv_has ls 5 [(3, .int (iI z3)), (0, .ref a0), (1, .long y0)] → W p l e (Rm 1 0 0) s m args below meth c H locs 0 0 Q (F0 m 2 ls []) := by
    intro k1
    induction k1 with
    | zero => intro z1 ff2 z3 H locs ls z1_a z1_b z3_a z3_b hm; exact absurd hm (Nat.not_lt_zero _)
    | succ k1 ih1 =>
      intro z1 ff2 z3 H locs ls z1_a z1_b z3_a z3_b hm1 w hl
      refine lv_iload_n hx hb dX2_putName_2 rfl (lv_at hl 0 rfl) ?_
      refine lv_bipush (v := iI 7) hx hb dX2_putName_3 (by decide +kernel) ?_
      refine lv_icmp_ge (tgt := 32) hx hb dX2_putName_5 (by decide) (fun c_4 => ?_) (fun c_4 => ?_)
      · replace c_4 := (iI_le (by decide) (by decide) (Int.le_trans (by decide) z3_a) (Int.le_trans z3_b (by decide))).mp c_4
        exact ret (z1, ff2) _ _ _ _ _ [0, 1] dX2_putName_32 ⟨z1_a, z1_b⟩ w (by decide) rfl
      · replace c_4 : z3 < 7 := Int.not_le.mp (fun h => c_4 ((iI_le (by decide) (by decide) (Int.le_trans (by decide) z3_a) (Int.le_trans z3_b (by decide))).mpr h))
        refine lv_lload_n hx hb dX2_putName_8 rfl (lv_at hl 2 rfl) ?_
        refine lv_iload_n hx hb dX2_putName_9 rfl (lv_at hl 0 rfl) ?_
        refine k_I (ce := 0) (sl := 0) (rest := []) (wr := [(a0, .inr (2, [.ref a1, .int (iI z1)])), (a1, .inl (T 0, 23, .inl ff2))]) (r_S (f := 0) [] M w V_HookedCity_Label_54 G1093 (c268_X8_letterOf l D T _ y0 z3 (by omega) (by omega)) rfl (by decide) rfl hl.1 rfl (Nat.le_of_ble_eq_true rfl) dX2_putName_10 (by decide) (by decide) (by decide) (by decide)) w [] [0, 1] rfl rfl (by decide) (by decide) rfl rfl (fun v z5 H locs hp w => ?_)
        have hv : iI z5 = v := hp.1
        subst hv
        have z5_a : (-2147483648) ≤ z5 := hp.2.1
        have z5_b : z5 ≤ 2147483647 := hp.2.2
        have w : WD D A s.heap [(a0, .inr (2, [.ref a1, .int (iI z1)])), (a1, .inl (T 0, 23, .inl ff2))] H locs := w
        refine lv_istore (lv' := [(4, .int (iI z5)), (3, .int (iI z3)), (0, .ref a0), (1, .long y0)]) hx hb dX2_putName_13 hl (by decide) rfl (fun ls hl => ?_)
        refine lv_iload hx hb dX2_putName_15 (lv_at hl 0 rfl) ?_
        refine lv_if_eq (tgt := 26) hx hb dX2_putName_17 (by decide) (fun c_6 => ?_) (fun c_6 => ?_)
        · replace c_6 := (iz_eq (Int.le_trans (by decide) z5_a) (Int.le_trans z5_b (by decide))).mp c_6
          refine lv_iinc (v := iI (z3 + 1)) (lv' := [(3, .int (iI (z3 + 1))), (4, .int (iI z5)), (0, .ref a0), (1, .long y0)]) hx hb dX2_putName_26 hl (k := 1) rfl (ii_inc (by decide +kernel)) (by decide) rfl (fun ls hl => ?_)
          refine lv_goto (tgt := 2) hx hb dX2_putName_29 (by decide) ?_
          exact ih1 z1 ff2 (z3 + 1) _ _ _ z1_a z1_b (by omega) (by omega) (by omega) w (lv_sub hl [0, 2, 3] rfl)
        · replace c_6 : ¬ z5 = 0 := fun h => c_6 ((iz_eq (Int.le_trans (by decide) z5_a) (Int.le_trans z5_b (by decide))).mpr h)
          refine lv_aload_n hx hb dX2_putName_20 rfl (lv_at hl 2 rfl) ?_
          refine lv_iload hx hb dX2_putName_21 (lv_at hl 0 rfl) ?_
          refine k_V (ce := 0) (sl := 0) (rest := []) (wr := []) (r_V (f := 0) [0, 1] M w V_HookedCity_Label_58 G1097 G27 (c298_X2_put l D T _ a0 z5 a1 z1 ff2 z5_a z5_b z1_a z1_b) 0 clX2 rfl rfl (by decide) rfl hl.1 rfl (Nat.le_of_ble_eq_true rfl) dX2_putName_23 (by decide) (by decide) (by decide) (by decide)) w [0, 1] [] rfl rfl (by decide) (by decide) rfl rfl (fun u H locs hp w => ?_)
          obtain ⟨z7, ff8⟩ := u
          have z7_a : 0 ≤ z7 := hp.1
          have z7_b : z7 ≤ 23 := hp.2
          have w : WD D A s.heap [(a0, .inr (2, [.ref a1, .int (iI z7)])), (a1, .inl (T 0, 23, .inl ff8))] H locs := w
          refine lv_iinc (v := iI (z3 + 1)) (lv' := [(3, .int (iI (z3 + 1))), (4, .int (iI z5)), (0, .ref a0), (1, .long y0)]) hx hb dX2_putName_26 hl (k := 1) rfl (ii_inc (by decide +kernel)) (by decide) rfl (fun ls hl => ?_)
          refine lv_goto (tgt := 2) hx hb dX2_putName_29 (by decide) ?_
          exact ih1 z7 ff8 (z3 + 1) _ _ _ z7_a z7_b (by omega) (by omega) (by omega) w (lv_sub hl [0, 2, 3] rfl)
  exact loop1 ((7 : Int).toNat + 1) x0 f0 0 _ _ _ x0_a x0_b (by decide) (by decide) (Nat.lt_succ_self _) w (lv_sub hl [0, 1, 2] rfl)
set_option maxRecDepth 100000 in
set_option maxHeartbeats 4000000 in
theorem c300_J0_coder_7d493 (l : Launch) (D : va_G) (T : Nat → ClassId) (sz : Nat) : Met l yJ0_coder_7d493 (Cond.code yJ0_coder_7d493 cJ0_coder_7d493 1 (some .byte) :: GW) (Rm 0 0 0) (cPre [.ref (T (50 + 2))] D T [] sz) (qI D [] sz (fun (v : Int32) (u : Int) => iI u = v ∧ (-128) ≤ u ∧ u ≤ 127 ∧ ((u = 0))) (fun u => [])) 0 0 (va_A [] sz) := by
  refine e_B (by decide) (Nat.le_of_ble_eq_true rfl) ?_
  intro p e s m args below meth c A Q ls M hin w ret hl
  have hx := M.1.1
  have hb := M.1.2.1
  have hl : lv_has ls 1 [(0, .ref (T (50 + 2)))] := hl
  refine r_getCS M w G621 dJ0_coder_7d493_0 ?_
  refine lv_if_eq (tgt := 13) hx hb dJ0_coder_7d493_3 (by decide) (fun c => absurd c (by decide +kernel)) (fun _ => ?_)
  refine lv_aload_n hx hb dJ0_coder_7d493_6 rfl (lv_at hl 0 rfl) ?_
  refine r_scod M w 2 rfl G2085 dJ0_coder_7d493_7 ?_
  refine lv_goto (tgt := 14) hx hb dJ0_coder_7d493_10 (by decide) ?_
  exact ret _ 0 _ _ _ _ _ [] dJ0_coder_7d493_14 (by decide +kernel) ⟨rfl, (show (-128) ≤ 0 from by decide), (show (0 : Int) ≤ 127 from by decide), rfl⟩ w (by decide) rfl
set_option maxRecDepth 100000 in
set_option maxHeartbeats 4000000 in
theorem c301_J0_length_8abf5 (l : Launch) (D : va_G) (T : Nat → ClassId) (sz : Nat) : Met l yJ0_length_8abf5 (Cond.code yJ0_length_8abf5 cJ0_length_8abf5 1 (some .int) :: GW) (Rm 1 0 0) (cPre [.ref (T (50 + 2))] D T [] sz) (qI D [] sz (fun (v : Int32) (u : Int) => iI u = v ∧ (-2147483648) ≤ u ∧ u ≤ 2147483647 ∧ ((u = 4))) (fun u => [])) 0 0 (va_A [] sz) := by
  refine e_I (by decide) (Nat.le_of_ble_eq_true rfl) ?_
  intro p e s m args below meth c A Q ls M hin w ret hl
  have hx := M.1.1
  have hb := M.1.2.1
  have hl : lv_has ls 1 [(0, .ref (T (50 + 2)))] := hl
  refine lv_aload_n hx hb dJ0_length_8abf5_0 rfl (lv_at hl 0 rfl) ?_
  refine r_sval M w 2 rfl G2086 dJ0_length_8abf5_1 ?_
  refine r_slen M w 2 rfl (z := 4) (by decide +kernel) dJ0_length_8abf5_4 ?_
  refine lv_aload_n hx hb dJ0_length_8abf5_5 rfl (lv_at hl 0 rfl) ?_
  refine k_I (ce := 0) (sl := 0) (rest := [.int (iI 4)]) (wr := []) (r_VT (f := 0) [] M w V_java_lang_String_335 G628 G629 (c300_J0_coder_7d493 l D T _) (M.2.2.2.2.2.2.1.2 2 _ rfl).1 rfl (by decide) rfl hl.1 rfl (Nat.le_of_ble_eq_true rfl) dJ0_length_8abf5_6 (by decide) (by decide) (by decide) (by decide)) w [] [] rfl rfl (by decide) (by decide) rfl rfl (fun v z1 H locs hp w => ?_)
  have hv : iI z1 = v := hp.1
  subst hv
  have z1_a : (-128) ≤ z1 := hp.2.1
  have z1_b : z1 ≤ 127 := hp.2.2.1
  have w : WD D A s.heap [] H locs := w
  rcases hp.2.2.2 with hr
  · subst hr
    refine r_ishr (v := iI 4) M (by decide +kernel) dJ0_length_8abf5_9 ?_
    exact ret _ 4 _ _ _ _ _ [] dJ0_length_8abf5_10 ⟨rfl, (show (-2147483648) ≤ 4 from by decide), (show (4 : Int) ≤ 2147483647 from by decide), rfl⟩ w (by decide) rfl
set_option maxRecDepth 100000 in
set_option maxHeartbeats 4000000 in
theorem c302_J0_isLatin1_aae02 (l : Launch) (D : va_G) (T : Nat → ClassId) (sz : Nat) : Met l yJ0_isLatin1_aae02 (Cond.code yJ0_isLatin1_aae02 cJ0_isLatin1_aae02 1 (some .boolean) :: GW) (Rm 0 0 0) (cPre [.ref (T (50 + 2))] D T [] sz) (qI D [] sz (fun (v : Int32) (u : Int) => iI u = v ∧ 0 ≤ u ∧ u ≤ 1 ∧ ((u = 1))) (fun u => [])) 0 0 (va_A [] sz) := by
  refine e_Z (by decide) (Nat.le_of_ble_eq_true rfl) ?_
  intro p e s m args below meth c A Q ls M hin w ret hl
  have hx := M.1.1
  have hb := M.1.2.1
  have hl : lv_has ls 1 [(0, .ref (T (50 + 2)))] := hl
  refine r_getCS M w G621 dJ0_isLatin1_aae02_0 ?_
  refine lv_if_eq (tgt := 17) hx hb dJ0_isLatin1_aae02_3 (by decide) (fun c => absurd c (by decide +kernel)) (fun _ => ?_)
  refine lv_aload_n hx hb dJ0_isLatin1_aae02_6 rfl (lv_at hl 0 rfl) ?_
  refine r_scod M w 2 rfl G2085 dJ0_isLatin1_aae02_7 ?_
  refine lv_if_ne (tgt := 17) hx hb dJ0_isLatin1_aae02_10 (by decide) (fun c => absurd (by decide +kernel) c) (fun _ => ?_)
  refine lv_iconst (v := iI 1) hx hb dJ0_isLatin1_aae02_13 (by decide +kernel) ?_
  refine lv_goto (tgt := 18) hx hb dJ0_isLatin1_aae02_14 (by decide) ?_
  exact ret _ 1 _ _ _ _ _ [] dJ0_isLatin1_aae02_18 (by decide +kernel) ⟨rfl, (show (0 : Int) ≤ 1 from by decide), (show (1 : Int) ≤ 1 from by decide), rfl⟩ w (by decide) rfl
set_option maxRecDepth 100000 in
set_option maxHeartbeats 4000000 in
theorem c303_J3_checkIndex_8e157 (l : Launch) (D : va_G) (T : Nat → ClassId) (sz : Nat) (x0 : Int) (x0_a : 0 ≤ x0) (x0_b : x0 ≤ 3) : Met l yJ3_checkIndex_8e157 (Cond.code yJ3_checkIndex_8e157 cJ3_checkIndex_8e157 3 (some .int) :: GW) (Rm 0 0 0) (cPre [.int (iI x0), .int (iI 4), .null] D T [] sz) (qI D [] sz (fun (v : Int32) (u : Int) => iI u = v ∧ (-2147483648) ≤ u ∧ u ≤ 2147483647 ∧ ((0 ≤ x0 ∧ x0 < 4 ∧ u = x0))) (fun u => [])) 0 0 (va_A [] sz) := by
  refine e_I (by decide) (Nat.le_of_ble_eq_true rfl) ?_
  intro p e s m args below meth c A Q ls M hin w ret hl
  have hx := M.1.1
  have hb := M.1.2.1
  have hl : lv_has ls 3 [(0, .int (iI x0)), (1, .int (iI 4)), (2, .null)] := hl
  refine lv_iload_n hx hb dJ3_checkIndex_8e157_0 rfl (lv_at hl 0 rfl) ?_
  refine lv_if_lt (tgt := 9) hx hb dJ3_checkIndex_8e157_1 (by decide) (fun c_1 => ?_) (fun c_1 => ?_)
  · replace c_1 := (iz_lt (Int.le_trans (by decide) x0_a) (Int.le_trans x0_b (by decide))).mp c_1
    exfalso; omega
  · replace c_1 : 0 ≤ x0 := Int.not_lt.mp (fun h => c_1 ((iz_lt (Int.le_trans (by decide) x0_a) (Int.le_trans x0_b (by decide))).mpr h))
    refine lv_iload_n hx hb dJ3_checkIndex_8e157_4 rfl (lv_at hl 0 rfl) ?_
    refine lv_iload_n hx hb dJ3_checkIndex_8e157_5 rfl (lv_at hl 1 rfl) ?_
    refine lv_icmp_lt (tgt := 16) hx hb dJ3_checkIndex_8e157_6 (by decide) (fun c_2 => ?_) (fun c_2 => ?_)
    · replace c_2 := (iI_lt (Int.le_trans (by decide) x0_a) (Int.le_trans x0_b (by decide)) (by decide) (by decide)).mp c_2
      refine lv_iload_n hx hb dJ3_checkIndex_8e157_16 rfl (lv_at hl 0 rfl) ?_
      exact ret _ x0 _ _ _ _ _ [] dJ3_checkIndex_8e157_17 ⟨rfl, (show (-2147483648) ≤ x0 from by omega), (show x0 ≤ 2147483647 from by omega), ⟨c_1, c_2, rfl⟩⟩ w (by decide) rfl
    · replace c_2 : 4 ≤ x0 := Int.not_lt.mp (fun h => c_2 ((iI_lt (Int.le_trans (by decide) x0_a) (Int.le_trans x0_b (by decide)) (by decide) (by decide)).mpr h))
      exfalso; omega
set_option maxRecDepth 100000 in
set_option maxHeartbeats 4000000 in
theorem c304_J3_checkIndex_8e157 (l : Launch) (D : va_G) (T : Nat → ClassId) (sz : Nat) (x0 : Int) (a0 : Nat) (x0_a : 0 ≤ x0) (x0_b : x0 ≤ 3) : Met l yJ3_checkIndex_8e157 (Cond.code yJ3_checkIndex_8e157 cJ3_checkIndex_8e157 3 (some .int) :: GW) (Rm 0 0 0) (cPre [.int (iI x0), .int (iI 4), .ref a0] D T [] sz) (qI D [] sz (fun (v : Int32) (u : Int) => iI u = v ∧ (-2147483648) ≤ u ∧ u ≤ 2147483647 ∧ ((0 ≤ x0 ∧ x0 < 4 ∧ u = x0))) (fun u => [])) 0 0 (va_A [] sz) := by
  refine e_I (by decide) (Nat.le_of_ble_eq_true rfl) ?_
  intro p e s m args below meth c A Q ls M hin w ret hl
  have hx := M.1.1
  have hb := M.1.2.1
  have hl : lv_has ls 3 [(0, .int (iI x0)), (1, .int (iI 4)), (2, .ref a0)] := hl
  refine lv_iload_n hx hb dJ3_checkIndex_8e157_0 rfl (lv_at hl 0 rfl) ?_
  refine lv_if_lt (tgt := 9) hx hb dJ3_checkIndex_8e157_1 (by decide) (fun c_1 => ?_) (fun c_1 => ?_)
  · replace c_1 := (iz_lt (Int.le_trans (by decide) x0_a) (Int.le_trans x0_b (by decide))).mp c_1
    exfalso; omega
  · replace c_1 : 0 ≤ x0 := Int.not_lt.mp (fun h => c_1 ((iz_lt (Int.le_trans (by decide) x0_a) (Int.le_trans x0_b (by decide))).mpr h))
    refine lv_iload_n hx hb dJ3_checkIndex_8e157_4 rfl (lv_at hl 0 rfl) ?_
    refine lv_iload_n hx hb dJ3_checkIndex_8e157_5 rfl (lv_at hl 1 rfl) ?_
    refine lv_icmp_lt (tgt := 16) hx hb dJ3_checkIndex_8e157_6 (by decide) (fun c_2 => ?_) (fun c_2 => ?_)
    · replace c_2 := (iI_lt (Int.le_trans (by decide) x0_a) (Int.le_trans x0_b (by decide)) (by decide) (by decide)).mp c_2
      refine lv_iload_n hx hb dJ3_checkIndex_8e157_16 rfl (lv_at hl 0 rfl) ?_
      exact ret _ x0 _ _ _ _ _ [] dJ3_checkIndex_8e157_17 ⟨rfl, (show (-2147483648) ≤ x0 from by omega), (show x0 ≤ 2147483647 from by omega), ⟨c_1, c_2, rfl⟩⟩ w (by decide) rfl
    · replace c_2 : 4 ≤ x0 := Int.not_lt.mp (fun h => c_2 ((iI_lt (Int.le_trans (by decide) x0_a) (Int.le_trans x0_b (by decide)) (by decide) (by decide)).mpr h))
      exfalso; omega
set_option maxRecDepth 100000 in
set_option maxHeartbeats 4000000 in
theorem c305_J0_checkIndex_df160 (l : Launch) (D : va_G) (T : Nat → ClassId) (sz : Nat) (x0 : Int) (x0_a : 0 ≤ x0) (x0_b : x0 ≤ 3) : Met l yJ0_checkIndex_df160 (Cond.code yJ0_checkIndex_df160 cJ0_checkIndex_df160 2 none :: GW) (Rm 1 0 0) (cPre [.int (iI x0), .int (iI 4)] D T [] sz) (qV D [] sz (fun (u : Unit) => True) (fun u => [])) 0 0 (va_A [] sz) := by
  refine e_V (by decide) (Nat.le_of_ble_eq_true rfl) ?_
  intro p e s m args below meth c A Q ls M hin w ret hl
  have hx := M.1.1
  have hb := M.1.2.1
  have hl : lv_has ls 2 [(0, .int (iI x0)), (1, .int (iI 4))] := hl
  refine lv_iload_n hx hb dJ0_checkIndex_df160_0 rfl (lv_at hl 0 rfl) ?_
  refine lv_iload_n hx hb dJ0_checkIndex_df160_1 rfl (lv_at hl 1 rfl) ?_
  refine r_getSF M w G664 dJ0_checkIndex_df160_2 ?_ (fun qq1 => ?_)
  · refine k_I (ce := 0) (sl := 0) (rest := []) (wr := []) (r_S (f := 0) [] M w V_java_lang_String_1059 G1116 (c303_J3_checkIndex_8e157 l D T _ x0 x0_a x0_b) rfl (by decide) rfl hl.1 rfl (Nat.le_of_ble_eq_true rfl) dJ0_checkIndex_df160_5 (by decide) (by decide) (by decide) (by decide)) w [] [] rfl rfl (by decide) (by decide) rfl rfl (fun v z2 H locs hp w => ?_)
    have hv : iI z2 = v := hp.1
    subst hv
    have z2_a : (-2147483648) ≤ z2 := hp.2.1
    have z2_b : z2 ≤ 2147483647 := hp.2.2.1
    have w : WD D A s.heap [] H locs := w
    rcases hp.2.2.2 with ⟨c_3, c_4, hr⟩
    · subst z2
      refine lv_pop hx hb dJ0_checkIndex_df160_8 rfl ?_
      exact ret () _ _ _ _ _ [] dJ0_checkIndex_df160_9 trivial w (by decide) rfl
  · refine k_I (ce := 0) (sl := 0) (rest := []) (wr := []) (r_S (f := 0) [] M w V_java_lang_String_1059 G1116 (c304_J3_checkIndex_8e157 l D T _ x0 qq1 x0_a x0_b) rfl (by decide) rfl hl.1 rfl (Nat.le_of_ble_eq_true rfl) dJ0_checkIndex_df160_5 (by decide) (by decide) (by decide) (by decide)) w [] [] rfl rfl (by decide) (by decide) rfl rfl (fun v z5 H locs hp w => ?_)
    have hv : iI z5 = v := hp.1
    subst hv
    have z5_a : (-2147483648) ≤ z5 := hp.2.1
    have z5_b : z5 ≤ 2147483647 := hp.2.2.1
    have w : WD D A s.heap [] H locs := w
    rcases hp.2.2.2 with ⟨c_6, c_7, hr⟩
    · subst z5
      refine lv_pop hx hb dJ0_checkIndex_df160_8 rfl ?_
      exact ret () _ _ _ _ _ [] dJ0_checkIndex_df160_9 trivial w (by decide) rfl
set_option maxRecDepth 100000 in
set_option maxHeartbeats 4000000 in
theorem c306_J1_charAt_3b067 (l : Launch) (D : va_G) (T : Nat → ClassId) (sz : Nat) (x0 : Int) (x0_a : 0 ≤ x0) (x0_b : x0 ≤ 3) : Met l yJ1_charAt_3b067 (Cond.code yJ1_charAt_3b067 cJ1_charAt_3b067 2 (some .char) :: GW) (Rm 2 0 0) (cPre [.ref (T (60 + 2)), .int (iI x0)] D T [] sz) (qI D [] sz (fun (v : Int32) (u : Int) => iI u = v ∧ 0 ≤ u ∧ u ≤ 65535) (fun u => [])) 0 0 (va_A [] sz) := by
  refine e_C (by decide) (Nat.le_of_ble_eq_true rfl) ?_
  intro p e s m args below meth c A Q ls M hin w ret hl
  have hx := M.1.1
  have hb := M.1.2.1
  have hl : lv_has ls 2 [(0, .ref (T (60 + 2))), (1, .int (iI x0))] := hl
  refine lv_iload_n hx hb dJ1_charAt_3b067_0 rfl (lv_at hl 1 rfl) ?_
  refine lv_aload_n hx hb dJ1_charAt_3b067_1 rfl (lv_at hl 0 rfl) ?_
  refine r_slen M w 2 rfl (z := 4) (by decide +kernel) dJ1_charAt_3b067_2 ?_
  refine k_V (ce := 0) (sl := 0) (rest := []) (wr := []) (r_S (f := 1) [] M w V_java_lang_StringLatin1_9 G1113 (c305_J0_checkIndex_df160 l D T _ x0 x0_a x0_b) rfl (by decide) rfl hl.1 rfl (Nat.le_of_ble_eq_true rfl) dJ1_charAt_3b067_3 (by decide) (by decide) (by decide) (by decide)) w [] [] rfl rfl (by decide) (by decide) rfl rfl (fun _ H locs hp w => ?_)
  have w : WD D A s.heap [] H locs := w
  refine lv_aload_n hx hb dJ1_charAt_3b067_6 rfl (lv_at hl 0 rfl) ?_
  refine lv_iload_n hx hb dJ1_charAt_3b067_7 rfl (lv_at hl 1 rfl) ?_
  refine r_sbyt M w 2 rfl (show vp_in (iI x0) 4 from (iI_in (by omega) (by omega) (by decide))) dJ1_charAt_3b067_8 (fun fr1 => ?_)
  refine b_any (fun z2 z2_a z2_b => ?_)
  refine lv_sipush (v := iI 255) hx hb dJ1_charAt_3b067_9 (by decide +kernel) ?_
  refine r_iand (v := _) M rfl dJ1_charAt_3b067_12 ?_
  refine b_rng (lo := 0) (hi := 255) (iand_r (by omega) (by omega)) (fun z3 z3_a z3_b => ?_)
  refine lv_i2c (v := _) hx hb dJ1_charAt_3b067_13 rfl ?_
  refine b_rng (lo := 0) (hi := 65535) (i2c_r _) (fun z4 z4_a z4_b => ?_)
  exact ret _ z4 _ _ _ _ _ [] dJ1_charAt_3b067_14 (nc_n (by omega) (by omega)) ⟨rfl, z4_a, z4_b⟩ w (by decide) rfl
set_option maxRecDepth 100000 in
set_option maxHeartbeats 4000000 in
theorem c307_J0_charAt_5068e (l : Launch) (D : va_G) (T : Nat → ClassId) (sz : Nat) (x0 : Int) (x0_a : 0 ≤ x0) (x0_b : x0 ≤ 3) : Met l yJ0_charAt_5068e (Cond.code yJ0_charAt_5068e cJ0_charAt_5068e 2 (some .char) :: GW) (Rm 3 0 0) (cPre [.ref (T (50 + 2)), .int (iI x0)] D T [] sz) (qI D [] sz (fun (v : Int32) (u : Int) => iI u = v ∧ 0 ≤ u ∧ u ≤ 65535) (fun u => [])) 0 0 (va_A [] sz) := by
  refine e_C (by decide) (Nat.le_of_ble_eq_true rfl) ?_
  intro p e s m args below meth c A Q ls M hin w ret hl
  have hx := M.1.1
  have hb := M.1.2.1
  have hl : lv_has ls 2 [(0, .ref (T (50 + 2))), (1, .int (iI x0))] := hl
  refine lv_aload_n hx hb dJ0_charAt_5068e_0 rfl (lv_at hl 0 rfl) ?_
  refine k_I (ce := 0) (sl := 0) (rest := []) (wr := []) (r_VT (f := 0) [] M w V_java_lang_String_492 G618 G619 (c302_J0_isLatin1_aae02 l D T _) (M.2.2.2.2.2.2.1.2 2 _ rfl).1 rfl (by decide) rfl hl.1 rfl (Nat.le_of_ble_eq_true rfl) dJ0_charAt_5068e_1 (by decide) (by decide) (by decide) (by decide)) w [] [] rfl rfl (by decide) (by decide) rfl rfl (fun v z1 H locs hp w => ?_)
  have hv : iI z1 = v := hp.1
  subst hv
  have z1_a : 0 ≤ z1 := hp.2.1
  have z1_b : z1 ≤ 1 := hp.2.2.1
  have w : WD D A s.heap [] H locs := w
  rcases hp.2.2.2 with hr
  · subst hr
    refine lv_if_eq (tgt := 16) hx hb dJ0_charAt_5068e_4 (by decide) (fun c => absurd c (by decide +kernel)) (fun _ => ?_)
    refine lv_aload_n hx hb dJ0_charAt_5068e_7 rfl (lv_at hl 0 rfl) ?_
    refine r_sval M w 2 rfl G2086 dJ0_charAt_5068e_8 ?_
    refine lv_iload_n hx hb dJ0_charAt_5068e_11 rfl (lv_at hl 1 rfl) ?_
    refine k_I (ce := 0) (sl := 0) (rest := []) (wr := []) (r_S (f := 2) [] M w V_java_lang_String_495 G1110 (c306_J1_charAt_3b067 l D T _ x0 x0_a x0_b) rfl (by decide) rfl hl.1 rfl (Nat.le_of_ble_eq_true rfl) dJ0_charAt_5068e_12 (by decide) (by decide) (by decide) (by decide)) w [] [] rfl rfl (by decide) (by decide) rfl rfl (fun v z2 H locs hp w => ?_)
    have hv : iI z2 = v := hp.1
    subst hv
    have z2_a : 0 ≤ z2 := hp.2.1
    have z2_b : z2 ≤ 65535 := hp.2.2
    have w : WD D A s.heap [] H locs := w
    exact ret _ z2 _ _ _ _ _ [] dJ0_charAt_5068e_15 (nc_n (by omega) (by omega)) ⟨rfl, z2_a, z2_b⟩ w (by decide) rfl
set_option maxRecDepth 100000 in
set_option maxHeartbeats 4000000 in
theorem c308_X2_putText (l : Launch) (D : va_G) (T : Nat → ClassId) (sz : Nat) (a0 : Nat) (a1 : Nat) (x0 : Int) (f0 : Nat → Int32) (x0_a : 0 ≤ x0) (x0_b : x0 ≤ 23) : Met l yX2_putText (Cond.code yX2_putText cX2_putText 3 none :: GW) (Rm 4 0 0) (cPre [.ref a0, .ref (T (50 + 2))] D T [(a0, .inr (2, [.ref a1, .int (iI x0)])), (a1, .inl (T 0, 23, .inl f0))] sz) (qV D [(a0, .inr (2, [.ref a1, .int (iI x0)])), (a1, .inl (T 0, 23, .inl f0))] sz (fun (u : Int × (Nat → Int32)) => 0 ≤ u.1 ∧ u.1 ≤ 23) (fun u => [(a0, .inr (2, [.ref a1, .int (iI u.1)])), (a1, .inl (T 0, 23, .inl u.2))])) 0 0 (va_A [(a0, .inr (2, [.ref a1, .int (iI x0)])), (a1, .inl (T 0, 23, .inl f0))] sz) := by
  refine e_V (by decide) (Nat.le_of_ble_eq_true rfl) ?_
  intro p e s m args below meth c A Q ls M hin w ret hl
  have hx := M.1.1
  have hb := M.1.2.1
  have hl : lv_has ls 3 [(0, .ref a0), (1, .ref (T (50 + 2)))] := hl
  refine lv_iconst (v := iI 0) hx hb dX2_putText_0 (by decide +kernel) ?_
  refine lv_istore_n (lv' := [(2, .int (iI 0)), (0, .ref a0), (1, .ref (T (50 + 2)))]) hx hb dX2_putText_1 rfl hl (by decide) rfl (fun ls hl => ?_)
  have loop1 : ∀ (k1 : Nat) (z1 : Int) (ff2 : Nat → Int32) (z3 : Int) (H : Heap) (locs : List Loc) (ls : Array Slot), 0 ≤ z1 → z1 ≤ 23 → 0 ≤ z3 → z3 ≤ 6 → ((6 - z3) : Int).toNat < k1 → WD D A s.heap [(a0, .inr (2, [.ref a1, .int (iI z1)])), (a1, .inl (T 0, 23, .inl ff2))] H locs → lv_has ls 3 [(2, .int (iI z3)), (0, .ref a0), (1, .ref (T (50 + 2)))] → W p l e (Rm 4 0 0) s m args below meth c H locs 0 0 Q (F0 m 2 ls []) := by
    intro k1
    induction k1 with
    | zero => intro z1 ff2 z3 H locs ls z1_a z1_b z3_a z3_b hm; exact absurd hm (Nat.not_lt_zero _)
    | succ k1 ih1 =>
      intro z1 ff2 z3 H locs ls z1_a z1_b z3_a z3_b hm1 w hl
      refine lv_iload_n hx hb dX2_putText_2 rfl (lv_at hl 0 rfl) ?_
      refine lv_aload_n hx hb dX2_putText_3 rfl (lv_at hl 2 rfl) ?_
      refine k_I (ce := 0) (sl := 0) (rest := [.int (iI z3)]) (wr := [(a0, .inr (2, [.ref a1, .int (iI z1)])), (a1, .inl (T 0, 23, .inl ff2))]) (r_VT (f := 1) [] M w V_HookedCity_Label_62 G624 G625 (c301_J0_length_8abf5 l D T _) (M.2.2.2.2.2.2.1.2 2 _ rfl).1 rfl (by decide) rfl hl.1 rfl (Nat.le_of_ble_eq_true rfl) dX2_putText_4 (by decide) (by decide) (by decide) (by decide)) w [] [0, 1] rfl rfl (by decide) (by decide) rfl rfl (fun v z4 H locs hp w => ?_)
      have hv : iI z4 = v := hp.1
      subst hv
      have z4_a : (-2147483648) ≤ z4 := hp.2.1
      have z4_b : z4 ≤ 2147483647 := hp.2.2.1
      have w : WD D A s.heap [(a0, .inr (2, [.ref a1, .int (iI z1)])), (a1, .inl (T 0, 23, .inl ff2))] H locs := w
      rcases hp.2.2.2 with hr
      · subst hr
        refine lv_icmp_ge (tgt := 25) hx hb dX2_putText_7 (by decide) (fun c_5 => ?_) (fun c_5 => ?_)
        · replace c_5 := (iI_le (by decide) (by decide) (Int.le_trans (by decide) z3_a) (Int.le_trans z3_b (by decide))).mp c_5
          exact ret (z1, ff2) _ _ _ _ _ [0, 1] dX2_putText_25 ⟨z1_a, z1_b⟩ w (by decide) rfl
        · replace c_5 : z3 < 4 := Int.not_le.mp (fun h => c_5 ((iI_le (by decide) (by decide) (Int.le_trans (by decide) z3_a) (Int.le_trans z3_b (by decide))).mpr h))
          refine lv_aload_n hx hb dX2_putText_10 rfl (lv_at hl 1 rfl) ?_
          refine lv_aload_n hx hb dX2_putText_11 rfl (lv_at hl 2 rfl) ?_
          refine lv_iload_n hx hb dX2_putText_12 rfl (lv_at hl 0 rfl) ?_
          refine k_I (ce := 0) (sl := 0) (rest := [.ref a0]) (wr := [(a0, .inr (2, [.ref a1, .int (iI z1)])), (a1, .inl (T 0, 23, .inl ff2))]) (r_VT (f := 3) [] M w V_HookedCity_Label_67 G1106 G1107 (c307_J0_charAt_5068e l D T _ z3 (by omega) (by omega)) (M.2.2.2.2.2.2.1.2 2 _ rfl).1 rfl (by decide) rfl hl.1 rfl (Nat.le_of_ble_eq_true rfl) dX2_putText_13 (by decide) (by decide) (by decide) (by decide)) w [] [0, 1] rfl rfl (by decide) (by decide) rfl rfl (fun v z6 H locs hp w => ?_)
          have hv : iI z6 = v := hp.1
          subst hv
          have z6_a : 0 ≤ z6 := hp.2.1
          have z6_b : z6 ≤ 65535 := hp.2.2
          have w : WD D A s.heap [(a0, .inr (2, [.ref a1, .int (iI z1)])), (a1, .inl (T 0, 23, .inl ff2))] H locs := w
          refine k_V (ce := 0) (sl := 0) (rest := []) (wr := []) (r_V (f := 0) [0, 1] M w V_HookedCity_Label_58 G1097 G27 (c298_X2_put l D T _ a0 z6 a1 z1 ff2 (by omega) (by omega) z1_a z1_b) 0 clX2 rfl rfl (by decide) rfl hl.1 rfl (Nat.le_of_ble_eq_true rfl) dX2_putText_16 (by decide) (by decide) (by decide) (by decide)) w [0, 1] [] rfl rfl (by decide) (by decide) rfl rfl (fun u H locs hp w => ?_)
          obtain ⟨z7, ff8⟩ := u
          have z7_a : 0 ≤ z7 := hp.1
          have z7_b : z7 ≤ 23 := hp.2
          have w : WD D A s.heap [(a0, .inr (2, [.ref a1, .int (iI z7)])), (a1, .inl (T 0, 23, .inl ff8))] H locs := w
          refine lv_iinc (v := iI (z3 + 1)) (lv' := [(2, .int (iI (z3 + 1))), (0, .ref a0), (1, .ref (T (50 + 2)))]) hx hb dX2_putText_19 hl (k := 0) rfl (ii_inc (by decide +kernel)) (by decide) rfl (fun ls hl => ?_)
          refine lv_goto (tgt := 2) hx hb dX2_putText_22 (by decide) ?_
          exact ih1 z7 ff8 (z3 + 1) _ _ _ z7_a z7_b (by omega) (by omega) (by omega) w (lv_sub hl [0, 1, 2] rfl)
  exact loop1 ((6 : Int).toNat + 1) x0 f0 0 _ _ _ x0_a x0_b (by decide) (by decide) (Nat.lt_succ_self _) w (lv_sub hl [0, 1, 2] rfl)
set_option maxRecDepth 100000 in
set_option maxHeartbeats 4000000 in
theorem c309_J0_coder_7d493 (l : Launch) (D : va_G) (T : Nat → ClassId) (sz : Nat) : Met l yJ0_coder_7d493 (Cond.code yJ0_coder_7d493 cJ0_coder_7d493 1 (some .byte) :: GW) (Rm 0 0 0) (cPre [.ref (T (50 + 4))] D T [] sz) (qI D [] sz (fun (v : Int32) (u : Int) => iI u = v ∧ (-128) ≤ u ∧ u ≤ 127 ∧ ((u = 0))) (fun u => [])) 0 0 (va_A [] sz) := by
  refine e_B (by decide) (Nat.le_of_ble_eq_true rfl) ?_
  intro p e s m args below meth c A Q ls M hin w ret hl
  have hx := M.1.1
  have hb := M.1.2.1
  have hl : lv_has ls 1 [(0, .ref (T (50 + 4)))] := hl
  refine r_getCS M w G621 dJ0_coder_7d493_0 ?_
  refine lv_if_eq (tgt := 13) hx hb dJ0_coder_7d493_3 (by decide) (fun c => absurd c (by decide +kernel)) (fun _ => ?_)
  refine lv_aload_n hx hb dJ0_coder_7d493_6 rfl (lv_at hl 0 rfl) ?_
  refine r_scod M w 4 rfl G2085 dJ0_coder_7d493_7 ?_
  refine lv_goto (tgt := 14) hx hb dJ0_coder_7d493_10 (by decide) ?_
  exact ret _ 0 _ _ _ _ _ [] dJ0_coder_7d493_14 (by decide +kernel) ⟨rfl, (show (-128) ≤ 0 from by decide), (show (0 : Int) ≤ 127 from by decide), rfl⟩ w (by decide) rfl
set_option maxRecDepth 100000 in
set_option maxHeartbeats 4000000 in
theorem c310_J0_length_8abf5 (l : Launch) (D : va_G) (T : Nat → ClassId) (sz : Nat) : Met l yJ0_length_8abf5 (Cond.code yJ0_length_8abf5 cJ0_length_8abf5 1 (some .int) :: GW) (Rm 1 0 0) (cPre [.ref (T (50 + 4))] D T [] sz) (qI D [] sz (fun (v : Int32) (u : Int) => iI u = v ∧ (-2147483648) ≤ u ∧ u ≤ 2147483647 ∧ ((u = 5))) (fun u => [])) 0 0 (va_A [] sz) := by
  refine e_I (by decide) (Nat.le_of_ble_eq_true rfl) ?_
  intro p e s m args below meth c A Q ls M hin w ret hl
  have hx := M.1.1
  have hb := M.1.2.1
  have hl : lv_has ls 1 [(0, .ref (T (50 + 4)))] := hl
  refine lv_aload_n hx hb dJ0_length_8abf5_0 rfl (lv_at hl 0 rfl) ?_
  refine r_sval M w 4 rfl G2086 dJ0_length_8abf5_1 ?_
  refine r_slen M w 4 rfl (z := 5) (by decide +kernel) dJ0_length_8abf5_4 ?_
  refine lv_aload_n hx hb dJ0_length_8abf5_5 rfl (lv_at hl 0 rfl) ?_
  refine k_I (ce := 0) (sl := 0) (rest := [.int (iI 5)]) (wr := []) (r_VT (f := 0) [] M w V_java_lang_String_335 G628 G629 (c309_J0_coder_7d493 l D T _) (M.2.2.2.2.2.2.1.2 4 _ rfl).1 rfl (by decide) rfl hl.1 rfl (Nat.le_of_ble_eq_true rfl) dJ0_length_8abf5_6 (by decide) (by decide) (by decide) (by decide)) w [] [] rfl rfl (by decide) (by decide) rfl rfl (fun v z1 H locs hp w => ?_)
  have hv : iI z1 = v := hp.1
  subst hv
  have z1_a : (-128) ≤ z1 := hp.2.1
  have z1_b : z1 ≤ 127 := hp.2.2.1
  have w : WD D A s.heap [] H locs := w
  rcases hp.2.2.2 with hr
  · subst hr
    refine r_ishr (v := iI 5) M (by decide +kernel) dJ0_length_8abf5_9 ?_
    exact ret _ 5 _ _ _ _ _ [] dJ0_length_8abf5_10 ⟨rfl, (show (-2147483648) ≤ 5 from by decide), (show (5 : Int) ≤ 2147483647 from by decide), rfl⟩ w (by decide) rfl
set_option maxRecDepth 100000 in
set_option maxHeartbeats 4000000 in
theorem c311_J0_isLatin1_aae02 (l : Launch) (D : va_G) (T : Nat → ClassId) (sz : Nat) : Met l yJ0_isLatin1_aae02 (Cond.code yJ0_isLatin1_aae02 cJ0_isLatin1_aae02 1 (some .boolean) :: GW) (Rm 0 0 0) (cPre [.ref (T (50 + 4))] D T [] sz) (qI D [] sz (fun (v : Int32) (u : Int) => iI u = v ∧ 0 ≤ u ∧ u ≤ 1 ∧ ((u = 1))) (fun u => [])) 0 0 (va_A [] sz) := by
  refine e_Z (by decide) (Nat.le_of_ble_eq_true rfl) ?_
  intro p e s m args below meth c A Q ls M hin w ret hl
  have hx := M.1.1
  have hb := M.1.2.1
  have hl : lv_has ls 1 [(0, .ref (T (50 + 4)))] := hl
  refine r_getCS M w G621 dJ0_isLatin1_aae02_0 ?_
  refine lv_if_eq (tgt := 17) hx hb dJ0_isLatin1_aae02_3 (by decide) (fun c => absurd c (by decide +kernel)) (fun _ => ?_)
  refine lv_aload_n hx hb dJ0_isLatin1_aae02_6 rfl (lv_at hl 0 rfl) ?_
  refine r_scod M w 4 rfl G2085 dJ0_isLatin1_aae02_7 ?_
  refine lv_if_ne (tgt := 17) hx hb dJ0_isLatin1_aae02_10 (by decide) (fun c => absurd (by decide +kernel) c) (fun _ => ?_)
  refine lv_iconst (v := iI 1) hx hb dJ0_isLatin1_aae02_13 (by decide +kernel) ?_
  refine lv_goto (tgt := 18) hx hb dJ0_isLatin1_aae02_14 (by decide) ?_
  exact ret _ 1 _ _ _ _ _ [] dJ0_isLatin1_aae02_18 (by decide +kernel) ⟨rfl, (show (0 : Int) ≤ 1 from by decide), (show (1 : Int) ≤ 1 from by decide), rfl⟩ w (by decide) rfl
set_option maxRecDepth 100000 in
set_option maxHeartbeats 4000000 in
theorem c312_J3_checkIndex_8e157 (l : Launch) (D : va_G) (T : Nat → ClassId) (sz : Nat) (x0 : Int) (x0_a : 0 ≤ x0) (x0_b : x0 ≤ 4) : Met l yJ3_checkIndex_8e157 (Cond.code yJ3_checkIndex_8e157 cJ3_checkIndex_8e157 3 (some .int) :: GW) (Rm 0 0 0) (cPre [.int (iI x0), .int (iI 5), .null] D T [] sz) (qI D [] sz (fun (v : Int32) (u : Int) => iI u = v ∧ (-2147483648) ≤ u ∧ u ≤ 2147483647 ∧ ((0 ≤ x0 ∧ x0 < 5 ∧ u = x0))) (fun u => [])) 0 0 (va_A [] sz) := by
  refine e_I (by decide) (Nat.le_of_ble_eq_true rfl) ?_
  intro p e s m args below meth c A Q ls M hin w ret hl
  have hx := M.1.1
  have hb := M.1.2.1
  have hl : lv_has ls 3 [(0, .int (iI x0)), (1, .int (iI 5)), (2, .null)] := hl
  refine lv_iload_n hx hb dJ3_checkIndex_8e157_0 rfl (lv_at hl 0 rfl) ?_
  refine lv_if_lt (tgt := 9) hx hb dJ3_checkIndex_8e157_1 (by decide) (fun c_1 => ?_) (fun c_1 => ?_)
  · replace c_1 := (iz_lt (Int.le_trans (by decide) x0_a) (Int.le_trans x0_b (by decide))).mp c_1
    exfalso; omega
  · replace c_1 : 0 ≤ x0 := Int.not_lt.mp (fun h => c_1 ((iz_lt (Int.le_trans (by decide) x0_a) (Int.le_trans x0_b (by decide))).mpr h))
    refine lv_iload_n hx hb dJ3_checkIndex_8e157_4 rfl (lv_at hl 0 rfl) ?_
    refine lv_iload_n hx hb dJ3_checkIndex_8e157_5 rfl (lv_at hl 1 rfl) ?_
    refine lv_icmp_lt (tgt := 16) hx hb dJ3_checkIndex_8e157_6 (by decide) (fun c_2 => ?_) (fun c_2 => ?_)
    · replace c_2 := (iI_lt (Int.le_trans (by decide) x0_a) (Int.le_trans x0_b (by decide)) (by decide) (by decide)).mp c_2
      refine lv_iload_n hx hb dJ3_checkIndex_8e157_16 rfl (lv_at hl 0 rfl) ?_
      exact ret _ x0 _ _ _ _ _ [] dJ3_checkIndex_8e157_17 ⟨rfl, (show (-2147483648) ≤ x0 from by omega), (show x0 ≤ 2147483647 from by omega), ⟨c_1, c_2, rfl⟩⟩ w (by decide) rfl
    · replace c_2 : 5 ≤ x0 := Int.not_lt.mp (fun h => c_2 ((iI_lt (Int.le_trans (by decide) x0_a) (Int.le_trans x0_b (by decide)) (by decide) (by decide)).mpr h))
      exfalso; omega
set_option maxRecDepth 100000 in
set_option maxHeartbeats 4000000 in
theorem c313_J3_checkIndex_8e157 (l : Launch) (D : va_G) (T : Nat → ClassId) (sz : Nat) (x0 : Int) (a0 : Nat) (x0_a : 0 ≤ x0) (x0_b : x0 ≤ 4) : Met l yJ3_checkIndex_8e157 (Cond.code yJ3_checkIndex_8e157 cJ3_checkIndex_8e157 3 (some .int) :: GW) (Rm 0 0 0) (cPre [.int (iI x0), .int (iI 5), .ref a0] D T [] sz) (qI D [] sz (fun (v : Int32) (u : Int) => iI u = v ∧ (-2147483648) ≤ u ∧ u ≤ 2147483647 ∧ ((0 ≤ x0 ∧ x0 < 5 ∧ u = x0))) (fun u => [])) 0 0 (va_A [] sz) := by
  refine e_I (by decide) (Nat.le_of_ble_eq_true rfl) ?_
  intro p e s m args below meth c A Q ls M hin w ret hl
  have hx := M.1.1
  have hb := M.1.2.1
  have hl : lv_has ls 3 [(0, .int (iI x0)), (1, .int (iI 5)), (2, .ref a0)] := hl
  refine lv_iload_n hx hb dJ3_checkIndex_8e157_0 rfl (lv_at hl 0 rfl) ?_
  refine lv_if_lt (tgt := 9) hx hb dJ3_checkIndex_8e157_1 (by decide) (fun c_1 => ?_) (fun c_1 => ?_)
  · replace c_1 := (iz_lt (Int.le_trans (by decide) x0_a) (Int.le_trans x0_b (by decide))).mp c_1
    exfalso; omega
  · replace c_1 : 0 ≤ x0 := Int.not_lt.mp (fun h => c_1 ((iz_lt (Int.le_trans (by decide) x0_a) (Int.le_trans x0_b (by decide))).mpr h))
    refine lv_iload_n hx hb dJ3_checkIndex_8e157_4 rfl (lv_at hl 0 rfl) ?_
    refine lv_iload_n hx hb dJ3_checkIndex_8e157_5 rfl (lv_at hl 1 rfl) ?_
    refine lv_icmp_lt (tgt := 16) hx hb dJ3_checkIndex_8e157_6 (by decide) (fun c_2 => ?_) (fun c_2 => ?_)
    · replace c_2 := (iI_lt (Int.le_trans (by decide) x0_a) (Int.le_trans x0_b (by decide)) (by decide) (by decide)).mp c_2
      refine lv_iload_n hx hb dJ3_checkIndex_8e157_16 rfl (lv_at hl 0 rfl) ?_
      exact ret _ x0 _ _ _ _ _ [] dJ3_checkIndex_8e157_17 ⟨rfl, (show (-2147483648) ≤ x0 from by omega), (show x0 ≤ 2147483647 from by omega), ⟨c_1, c_2, rfl⟩⟩ w (by decide) rfl
    · replace c_2 : 5 ≤ x0 := Int.not_lt.mp (fun h => c_2 ((iI_lt (Int.le_trans (by decide) x0_a) (Int.le_trans x0_b (by decide)) (by decide) (by decide)).mpr h))
      exfalso; omega
set_option maxRecDepth 100000 in
set_option maxHeartbeats 4000000 in
theorem c314_J0_checkIndex_df160 (l : Launch) (D : va_G) (T : Nat → ClassId) (sz : Nat) (x0 : Int) (x0_a : 0 ≤ x0) (x0_b : x0 ≤ 4) : Met l yJ0_checkIndex_df160 (Cond.code yJ0_checkIndex_df160 cJ0_checkIndex_df160 2 none :: GW) (Rm 1 0 0) (cPre [.int (iI x0), .int (iI 5)] D T [] sz) (qV D [] sz (fun (u : Unit) => True) (fun u => [])) 0 0 (va_A [] sz) := by
  refine e_V (by decide) (Nat.le_of_ble_eq_true rfl) ?_
  intro p e s m args below meth c A Q ls M hin w ret hl
  have hx := M.1.1
  have hb := M.1.2.1
  have hl : lv_has ls 2 [(0, .int (iI x0)), (1, .int (iI 5))] := hl
  refine lv_iload_n hx hb dJ0_checkIndex_df160_0 rfl (lv_at hl 0 rfl) ?_
  refine lv_iload_n hx hb dJ0_checkIndex_df160_1 rfl (lv_at hl 1 rfl) ?_
  refine r_getSF M w G664 dJ0_checkIndex_df160_2 ?_ (fun qq1 => ?_)
  · refine k_I (ce := 0) (sl := 0) (rest := []) (wr := []) (r_S (f := 0) [] M w V_java_lang_String_1059 G1116 (c312_J3_checkIndex_8e157 l D T _ x0 x0_a x0_b) rfl (by decide) rfl hl.1 rfl (Nat.le_of_ble_eq_true rfl) dJ0_checkIndex_df160_5 (by decide) (by decide) (by decide) (by decide)) w [] [] rfl rfl (by decide) (by decide) rfl rfl (fun v z2 H locs hp w => ?_)
    have hv : iI z2 = v := hp.1
    subst hv
    have z2_a : (-2147483648) ≤ z2 := hp.2.1
    have z2_b : z2 ≤ 2147483647 := hp.2.2.1
    have w : WD D A s.heap [] H locs := w
    rcases hp.2.2.2 with ⟨c_3, c_4, hr⟩
    · subst z2
      refine lv_pop hx hb dJ0_checkIndex_df160_8 rfl ?_
      exact ret () _ _ _ _ _ [] dJ0_checkIndex_df160_9 trivial w (by decide) rfl
  · refine k_I (ce := 0) (sl := 0) (rest := []) (wr := []) (r_S (f := 0) [] M w V_java_lang_String_1059 G1116 (c313_J3_checkIndex_8e157 l D T _ x0 qq1 x0_a x0_b) rfl (by decide) rfl hl.1 rfl (Nat.le_of_ble_eq_true rfl) dJ0_checkIndex_df160_5 (by decide) (by decide) (by decide) (by decide)) w [] [] rfl rfl (by decide) (by decide) rfl rfl (fun v z5 H locs hp w => ?_)
    have hv : iI z5 = v := hp.1
    subst hv
    have z5_a : (-2147483648) ≤ z5 := hp.2.1
    have z5_b : z5 ≤ 2147483647 := hp.2.2.1
    have w : WD D A s.heap [] H locs := w
    rcases hp.2.2.2 with ⟨c_6, c_7, hr⟩
    · subst z5
      refine lv_pop hx hb dJ0_checkIndex_df160_8 rfl ?_
      exact ret () _ _ _ _ _ [] dJ0_checkIndex_df160_9 trivial w (by decide) rfl
set_option maxRecDepth 100000 in
set_option maxHeartbeats 4000000 in
theorem c315_J1_charAt_3b067 (l : Launch) (D : va_G) (T : Nat → ClassId) (sz : Nat) (x0 : Int) (x0_a : 0 ≤ x0) (x0_b : x0 ≤ 4) : Met l yJ1_charAt_3b067 (Cond.code yJ1_charAt_3b067 cJ1_charAt_3b067 2 (some .char) :: GW) (Rm 2 0 0) (cPre [.ref (T (60 + 4)), .int (iI x0)] D T [] sz) (qI D [] sz (fun (v : Int32) (u : Int) => iI u = v ∧ 0 ≤ u ∧ u ≤ 65535) (fun u => [])) 0 0 (va_A [] sz) := by
  refine e_C (by decide) (Nat.le_of_ble_eq_true rfl) ?_
  intro p e s m args below meth c A Q ls M hin w ret hl
  have hx := M.1.1
  have hb := M.1.2.1
  have hl : lv_has ls 2 [(0, .ref (T (60 + 4))), (1, .int (iI x0))] := hl
  refine lv_iload_n hx hb dJ1_charAt_3b067_0 rfl (lv_at hl 1 rfl) ?_
  refine lv_aload_n hx hb dJ1_charAt_3b067_1 rfl (lv_at hl 0 rfl) ?_
  refine r_slen M w 4 rfl (z := 5) (by decide +kernel) dJ1_charAt_3b067_2 ?_
  refine k_V (ce := 0) (sl := 0) (rest := []) (wr := []) (r_S (f := 1) [] M w V_java_lang_StringLatin1_9 G1113 (c314_J0_checkIndex_df160 l D T _ x0 x0_a x0_b) rfl (by decide) rfl hl.1 rfl (Nat.le_of_ble_eq_true rfl) dJ1_charAt_3b067_3 (by decide) (by decide) (by decide) (by decide)) w [] [] rfl rfl (by decide) (by decide) rfl rfl (fun _ H locs hp w => ?_)
  have w : WD D A s.heap [] H locs := w
  refine lv_aload_n hx hb dJ1_charAt_3b067_6 rfl (lv_at hl 0 rfl) ?_
  refine lv_iload_n hx hb dJ1_charAt_3b067_7 rfl (lv_at hl 1 rfl) ?_
  refine r_sbyt M w 4 rfl (show vp_in (iI x0) 5 from (iI_in (by omega) (by omega) (by decide))) dJ1_charAt_3b067_8 (fun fr1 => ?_)
  refine b_any (fun z2 z2_a z2_b => ?_)
  refine lv_sipush (v := iI 255) hx hb dJ1_charAt_3b067_9 (by decide +kernel) ?_
  refine r_iand (v := _) M rfl dJ1_charAt_3b067_12 ?_
  refine b_rng (lo := 0) (hi := 255) (iand_r (by omega) (by omega)) (fun z3 z3_a z3_b => ?_)
  refine lv_i2c (v := _) hx hb dJ1_charAt_3b067_13 rfl ?_
  refine b_rng (lo := 0) (hi := 65535) (i2c_r _) (fun z4 z4_a z4_b => ?_)
  exact ret _ z4 _ _ _ _ _ [] dJ1_charAt_3b067_14 (nc_n (by omega) (by omega)) ⟨rfl, z4_a, z4_b⟩ w (by decide) rfl
set_option maxRecDepth 100000 in
set_option maxHeartbeats 4000000 in
theorem c316_J0_charAt_5068e (l : Launch) (D : va_G) (T : Nat → ClassId) (sz : Nat) (x0 : Int) (x0_a : 0 ≤ x0) (x0_b : x0 ≤ 4) : Met l yJ0_charAt_5068e (Cond.code yJ0_charAt_5068e cJ0_charAt_5068e 2 (some .char) :: GW) (Rm 3 0 0) (cPre [.ref (T (50 + 4)), .int (iI x0)] D T [] sz) (qI D [] sz (fun (v : Int32) (u : Int) => iI u = v ∧ 0 ≤ u ∧ u ≤ 65535) (fun u => [])) 0 0 (va_A [] sz) := by
  refine e_C (by decide) (Nat.le_of_ble_eq_true rfl) ?_
  intro p e s m args below meth c A Q ls M hin w ret hl
  have hx := M.1.1
  have hb := M.1.2.1
  have hl : lv_has ls 2 [(0, .ref (T (50 + 4))), (1, .int (iI x0))] := hl
  refine lv_aload_n hx hb dJ0_charAt_5068e_0 rfl (lv_at hl 0 rfl) ?_
  refine k_I (ce := 0) (sl := 0) (rest := []) (wr := []) (r_VT (f := 0) [] M w V_java_lang_String_492 G618 G619 (c311_J0_isLatin1_aae02 l D T _) (M.2.2.2.2.2.2.1.2 4 _ rfl).1 rfl (by decide) rfl hl.1 rfl (Nat.le_of_ble_eq_true rfl) dJ0_charAt_5068e_1 (by decide) (by decide) (by decide) (by decide)) w [] [] rfl rfl (by decide) (by decide) rfl rfl (fun v z1 H locs hp w => ?_)
  have hv : iI z1 = v := hp.1
  subst hv
  have z1_a : 0 ≤ z1 := hp.2.1
  have z1_b : z1 ≤ 1 := hp.2.2.1
  have w : WD D A s.heap [] H locs := w
  rcases hp.2.2.2 with hr
  · subst hr
    refine lv_if_eq (tgt := 16) hx hb dJ0_charAt_5068e_4 (by decide) (fun c => absurd c (by decide +kernel)) (fun _ => ?_)
    refine lv_aload_n hx hb dJ0_charAt_5068e_7 rfl (lv_at hl 0 rfl) ?_
    refine r_sval M w 4 rfl G2086 dJ0_charAt_5068e_8 ?_
    refine lv_iload_n hx hb dJ0_charAt_5068e_11 rfl (lv_at hl 1 rfl) ?_
    refine k_I (ce := 0) (sl := 0) (rest := []) (wr := []) (r_S (f := 2) [] M w V_java_lang_String_495 G1110 (c315_J1_charAt_3b067 l D T _ x0 x0_a x0_b) rfl (by decide) rfl hl.1 rfl (Nat.le_of_ble_eq_true rfl) dJ0_charAt_5068e_12 (by decide) (by decide) (by decide) (by decide)) w [] [] rfl rfl (by decide) (by decide) rfl rfl (fun v z2 H locs hp w => ?_)
    have hv : iI z2 = v := hp.1
    subst hv
    have z2_a : 0 ≤ z2 := hp.2.1
    have z2_b : z2 ≤ 65535 := hp.2.2
    have w : WD D A s.heap [] H locs := w
    exact ret _ z2 _ _ _ _ _ [] dJ0_charAt_5068e_15 (nc_n (by omega) (by omega)) ⟨rfl, z2_a, z2_b⟩ w (by decide) rfl
set_option maxRecDepth 100000 in
set_option maxHeartbeats 4000000 in
theorem c317_X2_putText (l : Launch) (D : va_G) (T : Nat → ClassId) (sz : Nat) (a0 : Nat) (a1 : Nat) (x0 : Int) (f0 : Nat → Int32) (x0_a : 0 ≤ x0) (x0_b : x0 ≤ 23) : Met l yX2_putText (Cond.code yX2_putText cX2_putText 3 none :: GW) (Rm 4 0 0) (cPre [.ref a0, .ref (T (50 + 4))] D T [(a0, .inr (2, [.ref a1, .int (iI x0)])), (a1, .inl (T 0, 23, .inl f0))] sz) (qV D [(a0, .inr (2, [.ref a1, .int (iI x0)])), (a1, .inl (T 0, 23, .inl f0))] sz (fun (u : Int × (Nat → Int32)) => 0 ≤ u.1 ∧ u.1 ≤ 23) (fun u => [(a0, .inr (2, [.ref a1, .int (iI u.1)])), (a1, .inl (T 0, 23, .inl u.2))])) 0 0 (va_A [(a0, .inr (2, [.ref a1, .int (iI x0)])), (a1, .inl (T 0, 23, .inl f0))] sz) := by
  refine e_V (by decide) (Nat.le_of_ble_eq_true rfl) ?_
  intro p e s m args below meth c A Q ls M hin w ret hl
  have hx := M.1.1
  have hb := M.1.2.1
  have hl : lv_has ls 3 [(0, .ref a0), (1, .ref (T (50 + 4)))] := hl
  refine lv_iconst (v := iI 0) hx hb dX2_putText_0 (by decide +kernel) ?_
  refine lv_istore_n (lv' := [(2, .int (iI 0)), (0, .ref a0), (1, .ref (T (50 + 4)))]) hx hb dX2_putText_1 rfl hl (by decide) rfl (fun ls hl => ?_)
  have loop1 : ∀ (k1 : Nat) (z1 : Int) (ff2 : Nat → Int32) (z3 : Int) (H : Heap) (locs : List Loc) (ls : Array Slot), 0 ≤ z1 → z1 ≤ 23 → 0 ≤ z3 → z3 ≤ 6 → ((6 - z3) : Int).toNat < k1 → WD D A s.heap [(a0, .inr (2, [.ref a1, .int (iI z1)])), (a1, .inl (T 0, 23, .inl ff2))] H locs → lv_has ls 3 [(2, .int (iI z3)), (0, .ref a0), (1, .ref (T (50 + 4)))] → W p l e (Rm 4 0 0) s m args below meth c H locs 0 0 Q (F0 m 2 ls []) := by
    intro k1
    induction k1 with
    | zero => intro z1 ff2 z3 H locs ls z1_a z1_b z3_a z3_b hm; exact absurd hm (Nat.not_lt_zero _)
    | succ k1 ih1 =>
      intro z1 ff2 z3 H locs ls z1_a z1_b z3_a z3_b hm1 w hl
      refine lv_iload_n hx hb dX2_putText_2 rfl (lv_at hl 0 rfl) ?_
      refine lv_aload_n hx hb dX2_putText_3 rfl (lv_at hl 2 rfl) ?_
      refine k_I (ce := 0) (sl := 0) (rest := [.int (iI z3)]) (wr := [(a0, .inr (2, [.ref a1, .int (iI z1)])), (a1, .inl (T 0, 23, .inl ff2))]) (r_VT (f := 1) [] M w V_HookedCity_Label_62 G624 G625 (c310_J0_length_8abf5 l D T _) (M.2.2.2.2.2.2.1.2 4 _ rfl).1 rfl (by decide) rfl hl.1 rfl (Nat.le_of_ble_eq_true rfl) dX2_putText_4 (by decide) (by decide) (by decide) (by decide)) w [] [0, 1] rfl rfl (by decide) (by decide) rfl rfl (fun v z4 H locs hp w => ?_)
      have hv : iI z4 = v := hp.1
      subst hv
      have z4_a : (-2147483648) ≤ z4 := hp.2.1
      have z4_b : z4 ≤ 2147483647 := hp.2.2.1
      have w : WD D A s.heap [(a0, .inr (2, [.ref a1, .int (iI z1)])), (a1, .inl (T 0, 23, .inl ff2))] H locs := w
      rcases hp.2.2.2 with hr
      · subst hr
        refine lv_icmp_ge (tgt := 25) hx hb dX2_putText_7 (by decide) (fun c_5 => ?_) (fun c_5 => ?_)
        · replace c_5 := (iI_le (by decide) (by decide) (Int.le_trans (by decide) z3_a) (Int.le_trans z3_b (by decide))).mp c_5
          exact ret (z1, ff2) _ _ _ _ _ [0, 1] dX2_putText_25 ⟨z1_a, z1_b⟩ w (by decide) rfl
        · replace c_5 : z3 < 5 := Int.not_le.mp (fun h => c_5 ((iI_le (by decide) (by decide) (Int.le_trans (by decide) z3_a) (Int.le_trans z3_b (by decide))).mpr h))
          refine lv_aload_n hx hb dX2_putText_10 rfl (lv_at hl 1 rfl) ?_
          refine lv_aload_n hx hb dX2_putText_11 rfl (lv_at hl 2 rfl) ?_
          refine lv_iload_n hx hb dX2_putText_12 rfl (lv_at hl 0 rfl) ?_
          refine k_I (ce := 0) (sl := 0) (rest := [.ref a0]) (wr := [(a0, .inr (2, [.ref a1, .int (iI z1)])), (a1, .inl (T 0, 23, .inl ff2))]) (r_VT (f := 3) [] M w V_HookedCity_Label_67 G1106 G1107 (c316_J0_charAt_5068e l D T _ z3 (by omega) (by omega)) (M.2.2.2.2.2.2.1.2 4 _ rfl).1 rfl (by decide) rfl hl.1 rfl (Nat.le_of_ble_eq_true rfl) dX2_putText_13 (by decide) (by decide) (by decide) (by decide)) w [] [0, 1] rfl rfl (by decide) (by decide) rfl rfl (fun v z6 H locs hp w => ?_)
          have hv : iI z6 = v := hp.1
          subst hv
          have z6_a : 0 ≤ z6 := hp.2.1
          have z6_b : z6 ≤ 65535 := hp.2.2
          have w : WD D A s.heap [(a0, .inr (2, [.ref a1, .int (iI z1)])), (a1, .inl (T 0, 23, .inl ff2))] H locs := w
          refine k_V (ce := 0) (sl := 0) (rest := []) (wr := []) (r_V (f := 0) [0, 1] M w V_HookedCity_Label_58 G1097 G27 (c298_X2_put l D T _ a0 z6 a1 z1 ff2 (by omega) (by omega) z1_a z1_b) 0 clX2 rfl rfl (by decide) rfl hl.1 rfl (Nat.le_of_ble_eq_true rfl) dX2_putText_16 (by decide) (by decide) (by decide) (by decide)) w [0, 1] [] rfl rfl (by decide) (by decide) rfl rfl (fun u H locs hp w => ?_)
          obtain ⟨z7, ff8⟩ := u
          have z7_a : 0 ≤ z7 := hp.1
          have z7_b : z7 ≤ 23 := hp.2
          have w : WD D A s.heap [(a0, .inr (2, [.ref a1, .int (iI z7)])), (a1, .inl (T 0, 23, .inl ff8))] H locs := w
          refine lv_iinc (v := iI (z3 + 1)) (lv' := [(2, .int (iI (z3 + 1))), (0, .ref a0), (1, .ref (T (50 + 4)))]) hx hb dX2_putText_19 hl (k := 0) rfl (ii_inc (by decide +kernel)) (by decide) rfl (fun ls hl => ?_)
          refine lv_goto (tgt := 2) hx hb dX2_putText_22 (by decide) ?_
          exact ih1 z7 ff8 (z3 + 1) _ _ _ z7_a z7_b (by omega) (by omega) (by omega) w (lv_sub hl [0, 1, 2] rfl)
  exact loop1 ((6 : Int).toNat + 1) x0 f0 0 _ _ _ x0_a x0_b (by decide) (by decide) (Nat.lt_succ_self _) w (lv_sub hl [0, 1, 2] rfl)
set_option maxRecDepth 100000 in
set_option maxHeartbeats 4000000 in
theorem c318_J0_coder_7d493 (l : Launch) (D : va_G) (T : Nat → ClassId) (sz : Nat) : Met l yJ0_coder_7d493 (Cond.code yJ0_coder_7d493 cJ0_coder_7d493 1 (some .byte) :: GW) (Rm 0 0 0) (cPre [.ref (T (50 + 3))] D T [] sz) (qI D [] sz (fun (v : Int32) (u : Int) => iI u = v ∧ (-128) ≤ u ∧ u ≤ 127 ∧ ((u = 0))) (fun u => [])) 0 0 (va_A [] sz) := by
  refine e_B (by decide) (Nat.le_of_ble_eq_true rfl) ?_
  intro p e s m args below meth c A Q ls M hin w ret hl
  have hx := M.1.1
  have hb := M.1.2.1
  have hl : lv_has ls 1 [(0, .ref (T (50 + 3)))] := hl
  refine r_getCS M w G621 dJ0_coder_7d493_0 ?_
  refine lv_if_eq (tgt := 13) hx hb dJ0_coder_7d493_3 (by decide) (fun c => absurd c (by decide +kernel)) (fun _ => ?_)
  refine lv_aload_n hx hb dJ0_coder_7d493_6 rfl (lv_at hl 0 rfl) ?_
  refine r_scod M w 3 rfl G2085 dJ0_coder_7d493_7 ?_
  refine lv_goto (tgt := 14) hx hb dJ0_coder_7d493_10 (by decide) ?_
  exact ret _ 0 _ _ _ _ _ [] dJ0_coder_7d493_14 (by decide +kernel) ⟨rfl, (show (-128) ≤ 0 from by decide), (show (0 : Int) ≤ 127 from by decide), rfl⟩ w (by decide) rfl
set_option maxRecDepth 100000 in
set_option maxHeartbeats 4000000 in
theorem c319_J0_length_8abf5 (l : Launch) (D : va_G) (T : Nat → ClassId) (sz : Nat) : Met l yJ0_length_8abf5 (Cond.code yJ0_length_8abf5 cJ0_length_8abf5 1 (some .int) :: GW) (Rm 1 0 0) (cPre [.ref (T (50 + 3))] D T [] sz) (qI D [] sz (fun (v : Int32) (u : Int) => iI u = v ∧ (-2147483648) ≤ u ∧ u ≤ 2147483647 ∧ ((u = 5))) (fun u => [])) 0 0 (va_A [] sz) := by
  refine e_I (by decide) (Nat.le_of_ble_eq_true rfl) ?_
  intro p e s m args below meth c A Q ls M hin w ret hl
  have hx := M.1.1
  have hb := M.1.2.1
  have hl : lv_has ls 1 [(0, .ref (T (50 + 3)))] := hl
  refine lv_aload_n hx hb dJ0_length_8abf5_0 rfl (lv_at hl 0 rfl) ?_
  refine r_sval M w 3 rfl G2086 dJ0_length_8abf5_1 ?_
  refine r_slen M w 3 rfl (z := 5) (by decide +kernel) dJ0_length_8abf5_4 ?_
  refine lv_aload_n hx hb dJ0_length_8abf5_5 rfl (lv_at hl 0 rfl) ?_
  refine k_I (ce := 0) (sl := 0) (rest := [.int (iI 5)]) (wr := []) (r_VT (f := 0) [] M w V_java_lang_String_335 G628 G629 (c318_J0_coder_7d493 l D T _) (M.2.2.2.2.2.2.1.2 3 _ rfl).1 rfl (by decide) rfl hl.1 rfl (Nat.le_of_ble_eq_true rfl) dJ0_length_8abf5_6 (by decide) (by decide) (by decide) (by decide)) w [] [] rfl rfl (by decide) (by decide) rfl rfl (fun v z1 H locs hp w => ?_)
  have hv : iI z1 = v := hp.1
  subst hv
  have z1_a : (-128) ≤ z1 := hp.2.1
  have z1_b : z1 ≤ 127 := hp.2.2.1
  have w : WD D A s.heap [] H locs := w
  rcases hp.2.2.2 with hr
  · subst hr
    refine r_ishr (v := iI 5) M (by decide +kernel) dJ0_length_8abf5_9 ?_
    exact ret _ 5 _ _ _ _ _ [] dJ0_length_8abf5_10 ⟨rfl, (show (-2147483648) ≤ 5 from by decide), (show (5 : Int) ≤ 2147483647 from by decide), rfl⟩ w (by decide) rfl
set_option maxRecDepth 100000 in
set_option maxHeartbeats 4000000 in
theorem c320_J0_isLatin1_aae02 (l : Launch) (D : va_G) (T : Nat → ClassId) (sz : Nat) : Met l yJ0_isLatin1_aae02 (Cond.code yJ0_isLatin1_aae02 cJ0_isLatin1_aae02 1 (some .boolean) :: GW) (Rm 0 0 0) (cPre [.ref (T (50 + 3))] D T [] sz) (qI D [] sz (fun (v : Int32) (u : Int) => iI u = v ∧ 0 ≤ u ∧ u ≤ 1 ∧ ((u = 1))) (fun u => [])) 0 0 (va_A [] sz) := by
  refine e_Z (by decide) (Nat.le_of_ble_eq_true rfl) ?_
  intro p e s m args below meth c A Q ls M hin w ret hl
  have hx := M.1.1
  have hb := M.1.2.1
  have hl : lv_has ls 1 [(0, .ref (T (50 + 3)))] := hl
  refine r_getCS M w G621 dJ0_isLatin1_aae02_0 ?_
  refine lv_if_eq (tgt := 17) hx hb dJ0_isLatin1_aae02_3 (by decide) (fun c => absurd c (by decide +kernel)) (fun _ => ?_)
  refine lv_aload_n hx hb dJ0_isLatin1_aae02_6 rfl (lv_at hl 0 rfl) ?_
  refine r_scod M w 3 rfl G2085 dJ0_isLatin1_aae02_7 ?_
  refine lv_if_ne (tgt := 17) hx hb dJ0_isLatin1_aae02_10 (by decide) (fun c => absurd (by decide +kernel) c) (fun _ => ?_)
  refine lv_iconst (v := iI 1) hx hb dJ0_isLatin1_aae02_13 (by decide +kernel) ?_
  refine lv_goto (tgt := 18) hx hb dJ0_isLatin1_aae02_14 (by decide) ?_
  exact ret _ 1 _ _ _ _ _ [] dJ0_isLatin1_aae02_18 (by decide +kernel) ⟨rfl, (show (0 : Int) ≤ 1 from by decide), (show (1 : Int) ≤ 1 from by decide), rfl⟩ w (by decide) rfl
set_option maxRecDepth 100000 in
set_option maxHeartbeats 4000000 in
theorem c321_J1_charAt_3b067 (l : Launch) (D : va_G) (T : Nat → ClassId) (sz : Nat) (x0 : Int) (x0_a : 0 ≤ x0) (x0_b : x0 ≤ 4) : Met l yJ1_charAt_3b067 (Cond.code yJ1_charAt_3b067 cJ1_charAt_3b067 2 (some .char) :: GW) (Rm 2 0 0) (cPre [.ref (T (60 + 3)), .int (iI x0)] D T [] sz) (qI D [] sz (fun (v : Int32) (u : Int) => iI u = v ∧ 0 ≤ u ∧ u ≤ 65535) (fun u => [])) 0 0 (va_A [] sz) := by
  refine e_C (by decide) (Nat.le_of_ble_eq_true rfl) ?_
  intro p e s m args below meth c A Q ls M hin w ret hl
  have hx := M.1.1
  have hb := M.1.2.1
  have hl : lv_has ls 2 [(0, .ref (T (60 + 3))), (1, .int (iI x0))] := hl
  refine lv_iload_n hx hb dJ1_charAt_3b067_0 rfl (lv_at hl 1 rfl) ?_
  refine lv_aload_n hx hb dJ1_charAt_3b067_1 rfl (lv_at hl 0 rfl) ?_
  refine r_slen M w 3 rfl (z := 5) (by decide +kernel) dJ1_charAt_3b067_2 ?_
  refine k_V (ce := 0) (sl := 0) (rest := []) (wr := []) (r_S (f := 1) [] M w V_java_lang_StringLatin1_9 G1113 (c314_J0_checkIndex_df160 l D T _ x0 x0_a x0_b) rfl (by decide) rfl hl.1 rfl (Nat.le_of_ble_eq_true rfl) dJ1_charAt_3b067_3 (by decide) (by decide) (by decide) (by decide)) w [] [] rfl rfl (by decide) (by decide) rfl rfl (fun _ H locs hp w => ?_)
  have w : WD D A s.heap [] H locs := w
  refine lv_aload_n hx hb dJ1_charAt_3b067_6 rfl (lv_at hl 0 rfl) ?_
  refine lv_iload_n hx hb dJ1_charAt_3b067_7 rfl (lv_at hl 1 rfl) ?_
  refine r_sbyt M w 3 rfl (show vp_in (iI x0) 5 from (iI_in (by omega) (by omega) (by decide))) dJ1_charAt_3b067_8 (fun fr1 => ?_)
  refine b_any (fun z2 z2_a z2_b => ?_)
  refine lv_sipush (v := iI 255) hx hb dJ1_charAt_3b067_9 (by decide +kernel) ?_
  refine r_iand (v := _) M rfl dJ1_charAt_3b067_12 ?_
  refine b_rng (lo := 0) (hi := 255) (iand_r (by omega) (by omega)) (fun z3 z3_a z3_b => ?_)
  refine lv_i2c (v := _) hx hb dJ1_charAt_3b067_13 rfl ?_
  refine b_rng (lo := 0) (hi := 65535) (i2c_r _) (fun z4 z4_a z4_b => ?_)
  exact ret _ z4 _ _ _ _ _ [] dJ1_charAt_3b067_14 (nc_n (by omega) (by omega)) ⟨rfl, z4_a, z4_b⟩ w (by decide) rfl
set_option maxRecDepth 100000 in
set_option maxHeartbeats 4000000 in
theorem c322_J0_charAt_5068e (l : Launch) (D : va_G) (T : Nat → ClassId) (sz : Nat) (x0 : Int) (x0_a : 0 ≤ x0) (x0_b : x0 ≤ 4) : Met l yJ0_charAt_5068e (Cond.code yJ0_charAt_5068e cJ0_charAt_5068e 2 (some .char) :: GW) (Rm 3 0 0) (cPre [.ref (T (50 + 3)), .int (iI x0)] D T [] sz) (qI D [] sz (fun (v : Int32) (u : Int) => iI u = v ∧ 0 ≤ u ∧ u ≤ 65535) (fun u => [])) 0 0 (va_A [] sz) := by
  refine e_C (by decide) (Nat.le_of_ble_eq_true rfl) ?_
  intro p e s m args below meth c A Q ls M hin w ret hl
  have hx := M.1.1
  have hb := M.1.2.1
  have hl : lv_has ls 2 [(0, .ref (T (50 + 3))), (1, .int (iI x0))] := hl
  refine lv_aload_n hx hb dJ0_charAt_5068e_0 rfl (lv_at hl 0 rfl) ?_
  refine k_I (ce := 0) (sl := 0) (rest := []) (wr := []) (r_VT (f := 0) [] M w V_java_lang_String_492 G618 G619 (c320_J0_isLatin1_aae02 l D T _) (M.2.2.2.2.2.2.1.2 3 _ rfl).1 rfl (by decide) rfl hl.1 rfl (Nat.le_of_ble_eq_true rfl) dJ0_charAt_5068e_1 (by decide) (by decide) (by decide) (by decide)) w [] [] rfl rfl (by decide) (by decide) rfl rfl (fun v z1 H locs hp w => ?_)
  have hv : iI z1 = v := hp.1
  subst hv
  have z1_a : 0 ≤ z1 := hp.2.1
  have z1_b : z1 ≤ 1 := hp.2.2.1
  have w : WD D A s.heap [] H locs := w
  rcases hp.2.2.2 with hr
  · subst hr
    refine lv_if_eq (tgt := 16) hx hb dJ0_charAt_5068e_4 (by decide) (fun c => absurd c (by decide +kernel)) (fun _ => ?_)
    refine lv_aload_n hx hb dJ0_charAt_5068e_7 rfl (lv_at hl 0 rfl) ?_
    refine r_sval M w 3 rfl G2086 dJ0_charAt_5068e_8 ?_
    refine lv_iload_n hx hb dJ0_charAt_5068e_11 rfl (lv_at hl 1 rfl) ?_
    refine k_I (ce := 0) (sl := 0) (rest := []) (wr := []) (r_S (f := 2) [] M w V_java_lang_String_495 G1110 (c321_J1_charAt_3b067 l D T _ x0 x0_a x0_b) rfl (by decide) rfl hl.1 rfl (Nat.le_of_ble_eq_true rfl) dJ0_charAt_5068e_12 (by decide) (by decide) (by decide) (by decide)) w [] [] rfl rfl (by decide) (by decide) rfl rfl (fun v z2 H locs hp w => ?_)
    have hv : iI z2 = v := hp.1
    subst hv
    have z2_a : 0 ≤ z2 := hp.2.1
    have z2_b : z2 ≤ 65535 := hp.2.2
    have w : WD D A s.heap [] H locs := w
    exact ret _ z2 _ _ _ _ _ [] dJ0_charAt_5068e_15 (nc_n (by omega) (by omega)) ⟨rfl, z2_a, z2_b⟩ w (by decide) rfl
set_option maxRecDepth 100000 in
set_option maxHeartbeats 4000000 in
theorem c323_X2_putText (l : Launch) (D : va_G) (T : Nat → ClassId) (sz : Nat) (a0 : Nat) (a1 : Nat) (x0 : Int) (f0 : Nat → Int32) (x0_a : 0 ≤ x0) (x0_b : x0 ≤ 23) : Met l yX2_putText (Cond.code yX2_putText cX2_putText 3 none :: GW) (Rm 4 0 0) (cPre [.ref a0, .ref (T (50 + 3))] D T [(a0, .inr (2, [.ref a1, .int (iI x0)])), (a1, .inl (T 0, 23, .inl f0))] sz) (qV D [(a0, .inr (2, [.ref a1, .int (iI x0)])), (a1, .inl (T 0, 23, .inl f0))] sz (fun (u : Int × (Nat → Int32)) => 0 ≤ u.1 ∧ u.1 ≤ 23) (fun u => [(a0, .inr (2, [.ref a1, .int (iI u.1)])), (a1, .inl (T 0, 23, .inl u.2))])) 0 0 (va_A [(a0, .inr (2, [.ref a1, .int (iI x0)])), (a1, .inl (T 0, 23, .inl f0))] sz) := by
  refine e_V (by decide) (Nat.le_of_ble_eq_true rfl) ?_
  intro p e s m args below meth c A Q ls M hin w ret hl
  have hx := M.1.1
  have hb := M.1.2.1
  have hl : lv_has ls 3 [(0, .ref a0), (1, .ref (T (50 + 3)))] := hl
  refine lv_iconst (v := iI 0) hx hb dX2_putText_0 (by decide +kernel) ?_
  refine lv_istore_n (lv' := [(2, .int (iI 0)), (0, .ref a0), (1, .ref (T (50 + 3)))]) hx hb dX2_putText_1 rfl hl (by decide) rfl (fun ls hl => ?_)
  have loop1 : ∀ (k1 : Nat) (z1 : Int) (ff2 : Nat → Int32) (z3 : Int) (H : Heap) (locs : List Loc) (ls : Array Slot), 0 ≤ z1 → z1 ≤ 23 → 0 ≤ z3 → z3 ≤ 6 → ((6 - z3) : Int).toNat < k1 → WD D A s.heap [(a0, .inr (2, [.ref a1, .int (iI z1)])), (a1, .inl (T 0, 23, .inl ff2))] H locs → lv_has ls 3 [(2, .int (iI z3)), (0, .ref a0), (1, .ref (T (50 + 3)))] → W p l e (Rm 4 0 0) s m args below meth c H locs 0 0 Q (F0 m 2 ls []) := by
    intro k1
    induction k1 with
    | zero => intro z1 ff2 z3 H locs ls z1_a z1_b z3_a z3_b hm; exact absurd hm (Nat.not_lt_zero _)
    | succ k1 ih1 =>
      intro z1 ff2 z3 H locs ls z1_a z1_b z3_a z3_b hm1 w hl
      refine lv_iload_n hx hb dX2_putText_2 rfl (lv_at hl 0 rfl) ?_
      refine lv_aload_n hx hb dX2_putText_3 rfl (lv_at hl 2 rfl) ?_
      refine k_I (ce := 0) (sl := 0) (rest := [.int (iI z3)]) (wr := [(a0, .inr (2, [.ref a1, .int (iI z1)])), (a1, .inl (T 0, 23, .inl ff2))]) (r_VT (f := 1) [] M w V_HookedCity_Label_62 G624 G625 (c319_J0_length_8abf5 l D T _) (M.2.2.2.2.2.2.1.2 3 _ rfl).1 rfl (by decide) rfl hl.1 rfl (Nat.le_of_ble_eq_true rfl) dX2_putText_4 (by decide) (by decide) (by decide) (by decide)) w [] [0, 1] rfl rfl (by decide) (by decide) rfl rfl (fun v z4 H locs hp w => ?_)
      have hv : iI z4 = v := hp.1
      subst hv
      have z4_a : (-2147483648) ≤ z4 := hp.2.1
      have z4_b : z4 ≤ 2147483647 := hp.2.2.1
      have w : WD D A s.heap [(a0, .inr (2, [.ref a1, .int (iI z1)])), (a1, .inl (T 0, 23, .inl ff2))] H locs := w
      rcases hp.2.2.2 with hr
      · subst hr
        refine lv_icmp_ge (tgt := 25) hx hb dX2_putText_7 (by decide) (fun c_5 => ?_) (fun c_5 => ?_)
        · replace c_5 := (iI_le (by decide) (by decide) (Int.le_trans (by decide) z3_a) (Int.le_trans z3_b (by decide))).mp c_5
          exact ret (z1, ff2) _ _ _ _ _ [0, 1] dX2_putText_25 ⟨z1_a, z1_b⟩ w (by decide) rfl
        · replace c_5 : z3 < 5 := Int.not_le.mp (fun h => c_5 ((iI_le (by decide) (by decide) (Int.le_trans (by decide) z3_a) (Int.le_trans z3_b (by decide))).mpr h))
          refine lv_aload_n hx hb dX2_putText_10 rfl (lv_at hl 1 rfl) ?_
          refine lv_aload_n hx hb dX2_putText_11 rfl (lv_at hl 2 rfl) ?_
          refine lv_iload_n hx hb dX2_putText_12 rfl (lv_at hl 0 rfl) ?_
          refine k_I (ce := 0) (sl := 0) (rest := [.ref a0]) (wr := [(a0, .inr (2, [.ref a1, .int (iI z1)])), (a1, .inl (T 0, 23, .inl ff2))]) (r_VT (f := 3) [] M w V_HookedCity_Label_67 G1106 G1107 (c322_J0_charAt_5068e l D T _ z3 (by omega) (by omega)) (M.2.2.2.2.2.2.1.2 3 _ rfl).1 rfl (by decide) rfl hl.1 rfl (Nat.le_of_ble_eq_true rfl) dX2_putText_13 (by decide) (by decide) (by decide) (by decide)) w [] [0, 1] rfl rfl (by decide) (by decide) rfl rfl (fun v z6 H locs hp w => ?_)
          have hv : iI z6 = v := hp.1
          subst hv
          have z6_a : 0 ≤ z6 := hp.2.1
          have z6_b : z6 ≤ 65535 := hp.2.2
          have w : WD D A s.heap [(a0, .inr (2, [.ref a1, .int (iI z1)])), (a1, .inl (T 0, 23, .inl ff2))] H locs := w
          refine k_V (ce := 0) (sl := 0) (rest := []) (wr := []) (r_V (f := 0) [0, 1] M w V_HookedCity_Label_58 G1097 G27 (c298_X2_put l D T _ a0 z6 a1 z1 ff2 (by omega) (by omega) z1_a z1_b) 0 clX2 rfl rfl (by decide) rfl hl.1 rfl (Nat.le_of_ble_eq_true rfl) dX2_putText_16 (by decide) (by decide) (by decide) (by decide)) w [0, 1] [] rfl rfl (by decide) (by decide) rfl rfl (fun u H locs hp w => ?_)
          obtain ⟨z7, ff8⟩ := u
          have z7_a : 0 ≤ z7 := hp.1
          have z7_b : z7 ≤ 23 := hp.2
          have w : WD D A s.heap [(a0, .inr (2, [.ref a1, .int (iI z7)])), (a1, .inl (T 0, 23, .inl ff8))] H locs := w
          refine lv_iinc (v := iI (z3 + 1)) (lv' := [(2, .int (iI (z3 + 1))), (0, .ref a0), (1, .ref (T (50 + 3)))]) hx hb dX2_putText_19 hl (k := 0) rfl (ii_inc (by decide +kernel)) (by decide) rfl (fun ls hl => ?_)
          refine lv_goto (tgt := 2) hx hb dX2_putText_22 (by decide) ?_
          exact ih1 z7 ff8 (z3 + 1) _ _ _ z7_a z7_b (by omega) (by omega) (by omega) w (lv_sub hl [0, 1, 2] rfl)
  exact loop1 ((6 : Int).toNat + 1) x0 f0 0 _ _ _ x0_a x0_b (by decide) (by decide) (Nat.lt_succ_self _) w (lv_sub hl [0, 1, 2] rfl)
set_option maxRecDepth 100000 in
set_option maxHeartbeats 4000000 in
theorem c324_J0_coder_7d493 (l : Launch) (D : va_G) (T : Nat → ClassId) (sz : Nat) : Met l yJ0_coder_7d493 (Cond.code yJ0_coder_7d493 cJ0_coder_7d493 1 (some .byte) :: GW) (Rm 0 0 0) (cPre [.ref (T (50 + 1))] D T [] sz) (qI D [] sz (fun (v : Int32) (u : Int) => iI u = v ∧ (-128) ≤ u ∧ u ≤ 127 ∧ ((u = 0))) (fun u => [])) 0 0 (va_A [] sz) := by
  refine e_B (by decide) (Nat.le_of_ble_eq_true rfl) ?_
  intro p e s m args below meth c A Q ls M hin w ret hl
  have hx := M.1.1
  have hb := M.1.2.1
  have hl : lv_has ls 1 [(0, .ref (T (50 + 1)))] := hl
  refine r_getCS M w G621 dJ0_coder_7d493_0 ?_
  refine lv_if_eq (tgt := 13) hx hb dJ0_coder_7d493_3 (by decide) (fun c => absurd c (by decide +kernel)) (fun _ => ?_)
  refine lv_aload_n hx hb dJ0_coder_7d493_6 rfl (lv_at hl 0 rfl) ?_
  refine r_scod M w 1 rfl G2085 dJ0_coder_7d493_7 ?_
  refine lv_goto (tgt := 14) hx hb dJ0_coder_7d493_10 (by decide) ?_
  exact ret _ 0 _ _ _ _ _ [] dJ0_coder_7d493_14 (by decide +kernel) ⟨rfl, (show (-128) ≤ 0 from by decide), (show (0 : Int) ≤ 127 from by decide), rfl⟩ w (by decide) rfl
set_option maxRecDepth 100000 in
set_option maxHeartbeats 4000000 in
theorem c325_J0_length_8abf5 (l : Launch) (D : va_G) (T : Nat → ClassId) (sz : Nat) : Met l yJ0_length_8abf5 (Cond.code yJ0_length_8abf5 cJ0_length_8abf5 1 (some .int) :: GW) (Rm 1 0 0) (cPre [.ref (T (50 + 1))] D T [] sz) (qI D [] sz (fun (v : Int32) (u : Int) => iI u = v ∧ (-2147483648) ≤ u ∧ u ≤ 2147483647 ∧ ((u = 5))) (fun u => [])) 0 0 (va_A [] sz) := by
  refine e_I (by decide) (Nat.le_of_ble_eq_true rfl) ?_
  intro p e s m args below meth c A Q ls M hin w ret hl
  have hx := M.1.1
  have hb := M.1.2.1
  have hl : lv_has ls 1 [(0, .ref (T (50 + 1)))] := hl
  refine lv_aload_n hx hb dJ0_length_8abf5_0 rfl (lv_at hl 0 rfl) ?_
  refine r_sval M w 1 rfl G2086 dJ0_length_8abf5_1 ?_
  refine r_slen M w 1 rfl (z := 5) (by decide +kernel) dJ0_length_8abf5_4 ?_
  refine lv_aload_n hx hb dJ0_length_8abf5_5 rfl (lv_at hl 0 rfl) ?_
  refine k_I (ce := 0) (sl := 0) (rest := [.int (iI 5)]) (wr := []) (r_VT (f := 0) [] M w V_java_lang_String_335 G628 G629 (c324_J0_coder_7d493 l D T _) (M.2.2.2.2.2.2.1.2 1 _ rfl).1 rfl (by decide) rfl hl.1 rfl (Nat.le_of_ble_eq_true rfl) dJ0_length_8abf5_6 (by decide) (by decide) (by decide) (by decide)) w [] [] rfl rfl (by decide) (by decide) rfl rfl (fun v z1 H locs hp w => ?_)
  have hv : iI z1 = v := hp.1
  subst hv
  have z1_a : (-128) ≤ z1 := hp.2.1
  have z1_b : z1 ≤ 127 := hp.2.2.1
  have w : WD D A s.heap [] H locs := w
  rcases hp.2.2.2 with hr
  · subst hr
    refine r_ishr (v := iI 5) M (by decide +kernel) dJ0_length_8abf5_9 ?_
    exact ret _ 5 _ _ _ _ _ [] dJ0_length_8abf5_10 ⟨rfl, (show (-2147483648) ≤ 5 from by decide), (show (5 : Int) ≤ 2147483647 from by decide), rfl⟩ w (by decide) rfl
set_option maxRecDepth 100000 in
set_option maxHeartbeats 4000000 in
theorem c326_J0_isLatin1_aae02 (l : Launch) (D : va_G) (T : Nat → ClassId) (sz : Nat) : Met l yJ0_isLatin1_aae02 (Cond.code yJ0_isLatin1_aae02 cJ0_isLatin1_aae02 1 (some .boolean) :: GW) (Rm 0 0 0) (cPre [.ref (T (50 + 1))] D T [] sz) (qI D [] sz (fun (v : Int32) (u : Int) => iI u = v ∧ 0 ≤ u ∧ u ≤ 1 ∧ ((u = 1))) (fun u => [])) 0 0 (va_A [] sz) := by
  refine e_Z (by decide) (Nat.le_of_ble_eq_true rfl) ?_
  intro p e s m args below meth c A Q ls M hin w ret hl
  have hx := M.1.1
  have hb := M.1.2.1
  have hl : lv_has ls 1 [(0, .ref (T (50 + 1)))] := hl
  refine r_getCS M w G621 dJ0_isLatin1_aae02_0 ?_
  refine lv_if_eq (tgt := 17) hx hb dJ0_isLatin1_aae02_3 (by decide) (fun c => absurd c (by decide +kernel)) (fun _ => ?_)
  refine lv_aload_n hx hb dJ0_isLatin1_aae02_6 rfl (lv_at hl 0 rfl) ?_
  refine r_scod M w 1 rfl G2085 dJ0_isLatin1_aae02_7 ?_
  refine lv_if_ne (tgt := 17) hx hb dJ0_isLatin1_aae02_10 (by decide) (fun c => absurd (by decide +kernel) c) (fun _ => ?_)
  refine lv_iconst (v := iI 1) hx hb dJ0_isLatin1_aae02_13 (by decide +kernel) ?_
  refine lv_goto (tgt := 18) hx hb dJ0_isLatin1_aae02_14 (by decide) ?_
  exact ret _ 1 _ _ _ _ _ [] dJ0_isLatin1_aae02_18 (by decide +kernel) ⟨rfl, (show (0 : Int) ≤ 1 from by decide), (show (1 : Int) ≤ 1 from by decide), rfl⟩ w (by decide) rfl
set_option maxRecDepth 100000 in
set_option maxHeartbeats 4000000 in
theorem c327_J1_charAt_3b067 (l : Launch) (D : va_G) (T : Nat → ClassId) (sz : Nat) (x0 : Int) (x0_a : 0 ≤ x0) (x0_b : x0 ≤ 4) : Met l yJ1_charAt_3b067 (Cond.code yJ1_charAt_3b067 cJ1_charAt_3b067 2 (some .char) :: GW) (Rm 2 0 0) (cPre [.ref (T (60 + 1)), .int (iI x0)] D T [] sz) (qI D [] sz (fun (v : Int32) (u : Int) => iI u = v ∧ 0 ≤ u ∧ u ≤ 65535) (fun u => [])) 0 0 (va_A [] sz) := by
  refine e_C (by decide) (Nat.le_of_ble_eq_true rfl) ?_
  intro p e s m args below meth c A Q ls M hin w ret hl
  have hx := M.1.1
  have hb := M.1.2.1
  have hl : lv_has ls 2 [(0, .ref (T (60 + 1))), (1, .int (iI x0))] := hl
  refine lv_iload_n hx hb dJ1_charAt_3b067_0 rfl (lv_at hl 1 rfl) ?_
  refine lv_aload_n hx hb dJ1_charAt_3b067_1 rfl (lv_at hl 0 rfl) ?_
  refine r_slen M w 1 rfl (z := 5) (by decide +kernel) dJ1_charAt_3b067_2 ?_
  refine k_V (ce := 0) (sl := 0) (rest := []) (wr := []) (r_S (f := 1) [] M w V_java_lang_StringLatin1_9 G1113 (c314_J0_checkIndex_df160 l D T _ x0 x0_a x0_b) rfl (by decide) rfl hl.1 rfl (Nat.le_of_ble_eq_true rfl) dJ1_charAt_3b067_3 (by decide) (by decide) (by decide) (by decide)) w [] [] rfl rfl (by decide) (by decide) rfl rfl (fun _ H locs hp w => ?_)
  have w : WD D A s.heap [] H locs := w
  refine lv_aload_n hx hb dJ1_charAt_3b067_6 rfl (lv_at hl 0 rfl) ?_
  refine lv_iload_n hx hb dJ1_charAt_3b067_7 rfl (lv_at hl 1 rfl) ?_
  refine r_sbyt M w 1 rfl (show vp_in (iI x0) 5 from (iI_in (by omega) (by omega) (by decide))) dJ1_charAt_3b067_8 (fun fr1 => ?_)
  refine b_any (fun z2 z2_a z2_b => ?_)
  refine lv_sipush (v := iI 255) hx hb dJ1_charAt_3b067_9 (by decide +kernel) ?_
  refine r_iand (v := _) M rfl dJ1_charAt_3b067_12 ?_
  refine b_rng (lo := 0) (hi := 255) (iand_r (by omega) (by omega)) (fun z3 z3_a z3_b => ?_)
  refine lv_i2c (v := _) hx hb dJ1_charAt_3b067_13 rfl ?_
  refine b_rng (lo := 0) (hi := 65535) (i2c_r _) (fun z4 z4_a z4_b => ?_)
  exact ret _ z4 _ _ _ _ _ [] dJ1_charAt_3b067_14 (nc_n (by omega) (by omega)) ⟨rfl, z4_a, z4_b⟩ w (by decide) rfl
set_option maxRecDepth 100000 in
set_option maxHeartbeats 4000000 in
theorem c328_J0_charAt_5068e (l : Launch) (D : va_G) (T : Nat → ClassId) (sz : Nat) (x0 : Int) (x0_a : 0 ≤ x0) (x0_b : x0 ≤ 4) : Met l yJ0_charAt_5068e (Cond.code yJ0_charAt_5068e cJ0_charAt_5068e 2 (some .char) :: GW) (Rm 3 0 0) (cPre [.ref (T (50 + 1)), .int (iI x0)] D T [] sz) (qI D [] sz (fun (v : Int32) (u : Int) => iI u = v ∧ 0 ≤ u ∧ u ≤ 65535) (fun u => [])) 0 0 (va_A [] sz) := by
  refine e_C (by decide) (Nat.le_of_ble_eq_true rfl) ?_
  intro p e s m args below meth c A Q ls M hin w ret hl
  have hx := M.1.1
  have hb := M.1.2.1
  have hl : lv_has ls 2 [(0, .ref (T (50 + 1))), (1, .int (iI x0))] := hl
  refine lv_aload_n hx hb dJ0_charAt_5068e_0 rfl (lv_at hl 0 rfl) ?_
  refine k_I (ce := 0) (sl := 0) (rest := []) (wr := []) (r_VT (f := 0) [] M w V_java_lang_String_492 G618 G619 (c326_J0_isLatin1_aae02 l D T _) (M.2.2.2.2.2.2.1.2 1 _ rfl).1 rfl (by decide) rfl hl.1 rfl (Nat.le_of_ble_eq_true rfl) dJ0_charAt_5068e_1 (by decide) (by decide) (by decide) (by decide)) w [] [] rfl rfl (by decide) (by decide) rfl rfl (fun v z1 H locs hp w => ?_)
  have hv : iI z1 = v := hp.1
  subst hv
  have z1_a : 0 ≤ z1 := hp.2.1
  have z1_b : z1 ≤ 1 := hp.2.2.1
  have w : WD D A s.heap [] H locs := w
  rcases hp.2.2.2 with hr
  · subst hr
    refine lv_if_eq (tgt := 16) hx hb dJ0_charAt_5068e_4 (by decide) (fun c => absurd c (by decide +kernel)) (fun _ => ?_)
    refine lv_aload_n hx hb dJ0_charAt_5068e_7 rfl (lv_at hl 0 rfl) ?_
    refine r_sval M w 1 rfl G2086 dJ0_charAt_5068e_8 ?_
    refine lv_iload_n hx hb dJ0_charAt_5068e_11 rfl (lv_at hl 1 rfl) ?_
    refine k_I (ce := 0) (sl := 0) (rest := []) (wr := []) (r_S (f := 2) [] M w V_java_lang_String_495 G1110 (c327_J1_charAt_3b067 l D T _ x0 x0_a x0_b) rfl (by decide) rfl hl.1 rfl (Nat.le_of_ble_eq_true rfl) dJ0_charAt_5068e_12 (by decide) (by decide) (by decide) (by decide)) w [] [] rfl rfl (by decide) (by decide) rfl rfl (fun v z2 H locs hp w => ?_)
    have hv : iI z2 = v := hp.1
    subst hv
    have z2_a : 0 ≤ z2 := hp.2.1
    have z2_b : z2 ≤ 65535 := hp.2.2
    have w : WD D A s.heap [] H locs := w
    exact ret _ z2 _ _ _ _ _ [] dJ0_charAt_5068e_15 (nc_n (by omega) (by omega)) ⟨rfl, z2_a, z2_b⟩ w (by decide) rfl
set_option maxRecDepth 100000 in
set_option maxHeartbeats 4000000 in
theorem c329_X2_putText (l : Launch) (D : va_G) (T : Nat → ClassId) (sz : Nat) (a0 : Nat) (a1 : Nat) (x0 : Int) (f0 : Nat → Int32) (x0_a : 0 ≤ x0) (x0_b : x0 ≤ 23) : Met l yX2_putText (Cond.code yX2_putText cX2_putText 3 none :: GW) (Rm 4 0 0) (cPre [.ref a0, .ref (T (50 + 1))] D T [(a0, .inr (2, [.ref a1, .int (iI x0)])), (a1, .inl (T 0, 23, .inl f0))] sz) (qV D [(a0, .inr (2, [.ref a1, .int (iI x0)])), (a1, .inl (T 0, 23, .inl f0))] sz (fun (u : Int × (Nat → Int32)) => 0 ≤ u.1 ∧ u.1 ≤ 23) (fun u => [(a0, .inr (2, [.ref a1, .int (iI u.1)])), (a1, .inl (T 0, 23, .inl u.2))])) 0 0 (va_A [(a0, .inr (2, [.ref a1, .int (iI x0)])), (a1, .inl (T 0, 23, .inl f0))] sz) := by
  refine e_V (by decide) (Nat.le_of_ble_eq_true rfl) ?_
  intro p e s m args below meth c A Q ls M hin w ret hl
  have hx := M.1.1
  have hb := M.1.2.1
  have hl : lv_has ls 3 [(0, .ref a0), (1, .ref (T (50 + 1)))] := hl
  refine lv_iconst (v := iI 0) hx hb dX2_putText_0 (by decide +kernel) ?_
  refine lv_istore_n (lv' := [(2, .int (iI 0)), (0, .ref a0), (1, .ref (T (50 + 1)))]) hx hb dX2_putText_1 rfl hl (by decide) rfl (fun ls hl => ?_)
  have loop1 : ∀ (k1 : Nat) (z1 : Int) (ff2 : Nat → Int32) (z3 : Int) (H : Heap) (locs : List Loc) (ls : Array Slot), 0 ≤ z1 → z1 ≤ 23 → 0 ≤ z3 → z3 ≤ 6 → ((6 - z3) : Int).toNat < k1 → WD D A s.heap [(a0, .inr (2, [.ref a1, .int (iI z1)])), (a1, .inl (T 0, 23, .inl ff2))] H locs → lv_has ls 3 [(2, .int (iI z3)), (0, .ref a0), (1, .ref (T (50 + 1)))] → W p l e (Rm 4 0 0) s m args below meth c H locs 0 0 Q (F0 m 2 ls []) := by
    intro k1
    induction k1 with
    | zero => intro z1 ff2 z3 H locs ls z1_a z1_b z3_a z3_b hm; exact absurd hm (Nat.not_lt_zero _)
    | succ k1 ih1 =>
      intro z1 ff2 z3 H locs ls z1_a z1_b z3_a z3_b hm1 w hl
      refine lv_iload_n hx hb dX2_putText_2 rfl (lv_at hl 0 rfl) ?_
      refine lv_aload_n hx hb dX2_putText_3 rfl (lv_at hl 2 rfl) ?_
      refine k_I (ce := 0) (sl := 0) (rest := [.int (iI z3)]) (wr := [(a0, .inr (2, [.ref a1, .int (iI z1)])), (a1, .inl (T 0, 23, .inl ff2))]) (r_VT (f := 1) [] M w V_HookedCity_Label_62 G624 G625 (c325_J0_length_8abf5 l D T _) (M.2.2.2.2.2.2.1.2 1 _ rfl).1 rfl (by decide) rfl hl.1 rfl (Nat.le_of_ble_eq_true rfl) dX2_putText_4 (by decide) (by decide) (by decide) (by decide)) w [] [0, 1] rfl rfl (by decide) (by decide) rfl rfl (fun v z4 H locs hp w => ?_)
      have hv : iI z4 = v := hp.1
      subst hv
      have z4_a : (-2147483648) ≤ z4 := hp.2.1
      have z4_b : z4 ≤ 2147483647 := hp.2.2.1
      have w : WD D A s.heap [(a0, .inr (2, [.ref a1, .int (iI z1)])), (a1, .inl (T 0, 23, .inl ff2))] H locs := w
      rcases hp.2.2.2 with hr
      · subst hr
        refine lv_icmp_ge (tgt := 25) hx hb dX2_putText_7 (by decide) (fun c_5 => ?_) (fun c_5 => ?_)
        · replace c_5 := (iI_le (by decide) (by decide) (Int.le_trans (by decide) z3_a) (Int.le_trans z3_b (by decide))).mp c_5
          exact ret (z1, ff2) _ _ _ _ _ [0, 1] dX2_putText_25 ⟨z1_a, z1_b⟩ w (by decide) rfl
        · replace c_5 : z3 < 5 := Int.not_le.mp (fun h => c_5 ((iI_le (by decide) (by decide) (Int.le_trans (by decide) z3_a) (Int.le_trans z3_b (by decide))).mpr h))
          refine lv_aload_n hx hb dX2_putText_10 rfl (lv_at hl 1 rfl) ?_
          refine lv_aload_n hx hb dX2_putText_11 rfl (lv_at hl 2 rfl) ?_
          refine lv_iload_n hx hb dX2_putText_12 rfl (lv_at hl 0 rfl) ?_
          refine k_I (ce := 0) (sl := 0) (rest := [.ref a0]) (wr := [(a0, .inr (2, [.ref a1, .int (iI z1)])), (a1, .inl (T 0, 23, .inl ff2))]) (r_VT (f := 3) [] M w V_HookedCity_Label_67 G1106 G1107 (c328_J0_charAt_5068e l D T _ z3 (by omega) (by omega)) (M.2.2.2.2.2.2.1.2 1 _ rfl).1 rfl (by decide) rfl hl.1 rfl (Nat.le_of_ble_eq_true rfl) dX2_putText_13 (by decide) (by decide) (by decide) (by decide)) w [] [0, 1] rfl rfl (by decide) (by decide) rfl rfl (fun v z6 H locs hp w => ?_)
          have hv : iI z6 = v := hp.1
          subst hv
          have z6_a : 0 ≤ z6 := hp.2.1
          have z6_b : z6 ≤ 65535 := hp.2.2
          have w : WD D A s.heap [(a0, .inr (2, [.ref a1, .int (iI z1)])), (a1, .inl (T 0, 23, .inl ff2))] H locs := w
          refine k_V (ce := 0) (sl := 0) (rest := []) (wr := []) (r_V (f := 0) [0, 1] M w V_HookedCity_Label_58 G1097 G27 (c298_X2_put l D T _ a0 z6 a1 z1 ff2 (by omega) (by omega) z1_a z1_b) 0 clX2 rfl rfl (by decide) rfl hl.1 rfl (Nat.le_of_ble_eq_true rfl) dX2_putText_16 (by decide) (by decide) (by decide) (by decide)) w [0, 1] [] rfl rfl (by decide) (by decide) rfl rfl (fun u H locs hp w => ?_)
          obtain ⟨z7, ff8⟩ := u
          have z7_a : 0 ≤ z7 := hp.1
          have z7_b : z7 ≤ 23 := hp.2
          have w : WD D A s.heap [(a0, .inr (2, [.ref a1, .int (iI z7)])), (a1, .inl (T 0, 23, .inl ff8))] H locs := w
          refine lv_iinc (v := iI (z3 + 1)) (lv' := [(2, .int (iI (z3 + 1))), (0, .ref a0), (1, .ref (T (50 + 1)))]) hx hb dX2_putText_19 hl (k := 0) rfl (ii_inc (by decide +kernel)) (by decide) rfl (fun ls hl => ?_)
          refine lv_goto (tgt := 2) hx hb dX2_putText_22 (by decide) ?_
          exact ih1 z7 ff8 (z3 + 1) _ _ _ z7_a z7_b (by omega) (by omega) (by omega) w (lv_sub hl [0, 1, 2] rfl)
  exact loop1 ((6 : Int).toNat + 1) x0 f0 0 _ _ _ x0_a x0_b (by decide) (by decide) (Nat.lt_succ_self _) w (lv_sub hl [0, 1, 2] rfl)
set_option maxRecDepth 100000 in
set_option maxHeartbeats 4000000 in
theorem c330_X2_write (l : Launch) (D : va_G) (T : Nat → ClassId) (sz : Nat) (a0 : Nat) (a1 : Nat) (a2 : Nat) (x0 : Int) (a3 : Nat) (x1 : Int) (a4 : Nat) (a5 : Nat) (a6 : Nat) (a7 : Nat) (a8 : Nat) (a9 : Nat) (a10 : Nat) (a11 : Nat) (a12 : Nat) (x2 : Int) (x3 : Int) (x4 : Int) (x5 : Int) (x6 : Int) (x7 : Int) (x8 : Int) (x9 : Int) (x10 : Int) (a13 : Nat) (a14 : Nat) (a15 : Nat) (a16 : Nat) (r0 : Int32) (r1 : Int32) (r2 : Int32) (r3 : Int32) (f0 : Nat → Int32) (h0 : Nat → Int64) (f1 : Nat → Int32) (f2 : Int → Int) (f3 : Int → Int) (x0_a : 0 ≤ x0) (x0_b : x0 ≤ 8) (x1_a : 0 ≤ x1) (x1_b : x1 ≤ 23) (x2_a : 0 ≤ x2) (x2_b : x2 ≤ 9) (x3_a : 0 ≤ x3) (x3_b : x3 ≤ 3) (x4_a : 0 ≤ x4) (x4_b : x4 ≤ 900) (x5_a : (-2147483648) ≤ x5) (x5_b : x5 ≤ 2147483647) (x6_a : (-2147483648) ≤ x6) (x6_b : x6 ≤ 2147483647) (x7_a : (-2147483648) ≤ x7) (x7_b : x7 ≤ 2147483647) (x8_a : 0 ≤ x8) (x8_b : x8 ≤ 1) (x9_a : 0 ≤ x9) (x9_b : x9 ≤ 1) (x10_a : 0 ≤ x10) (x10_b : x10 ≤ 1) (f2_h : rng (-1) 8 f2) (f3_h : rng (-1) 8 f3) : Met l yX2_write (Cond.code yX2_write cX2_write 5 (some .int) :: GW) (Rm 5 0 0) (cPre [.ref a0, .ref a1, .ref a2, .int (iI x0)] D T [(a0, .inr (2, [.ref a3, .int (iI x1)])), (a1, .inr (9, [.ref a4, .ref a5, .ref a6, .ref a7, .ref a8, .ref a9, .ref a10, .ref a11, .ref a12, .int (iI x2), .int (iI x3), .int (iI x4), .int (iI x5), .int (iI x6), .int (iI x7), .int (iI x8), .int (iI x9), .int (iI x10)])), (a2, .inr (7, [.ref a13, .ref a14, .ref a15, .ref a16, .int r0, .int r1, .int r2, .int r3])), (a3, .inl (T 0, 23, .inl f0)), (a4, .inl (T 1, 9, .inr (.inl h0))), (a13, .inl (T 0, 9, .inl f1)), (a14, .inl (T 0, 9, .inl (cI f2))), (a15, .inl (T 0, 9, .inl (cI f3)))] sz) (qI D [(a0, .inr (2, [.ref a3, .int (iI x1)])), (a1, .inr (9, [.ref a4, .ref a5, .ref a6, .ref a7, .ref a8, .ref a9, .ref a10, .ref a11, .ref a12, .int (iI x2), .int (iI x3), .int (iI x4), .int (iI x5), .int (iI x6), .int (iI x7), .int (iI x8), .int (iI x9), .int (iI x10)])), (a2, .inr (7, [.ref a13, .ref a14, .ref a15, .ref a16, .int r0, .int r1, .int r2, .int r3])), (a3, .inl (T 0, 23, .inl f0)), (a4, .inl (T 1, 9, .inr (.inl h0))), (a13, .inl (T 0, 9, .inl f1)), (a14, .inl (T 0, 9, .inl (cI f2))), (a15, .inl (T 0, 9, .inl (cI f3)))] sz (fun (v : Int32) (u : Int × Int × (Nat → Int32)) => iI u.1 = v ∧ (-2147483648) ≤ u.1 ∧ u.1 ≤ 2147483647 ∧ 0 ≤ u.2.1 ∧ u.2.1 ≤ 23) (fun u => [(a0, .inr (2, [.ref a3, .int (iI u.2.1)])), (a1, .inr (9, [.ref a4, .ref a5, .ref a6, .ref a7, .ref a8, .ref a9, .ref a10, .ref a11, .ref a12, .int (iI x2), .int (iI x3), .int (iI x4), .int (iI x5), .int (iI x6), .int (iI x7), .int (iI x8), .int (iI x9), .int (iI x10)])), (a2, .inr (7, [.ref a13, .ref a14, .ref a15, .ref a16, .int r0, .int r1, .int r2, .int r3])), (a3, .inl (T 0, 23, .inl u.2.2)), (a4, .inl (T 1, 9, .inr (.inl h0))), (a13, .inl (T 0, 9, .inl f1)), (a14, .inl (T 0, 9, .inl (cI f2))), (a15, .inl (T 0, 9, .inl (cI f3)))])) 0 0 (va_A [(a0, .inr (2, [.ref a3, .int (iI x1)])), (a1, .inr (9, [.ref a4, .ref a5, .ref a6, .ref a7, .ref a8, .ref a9, .ref a10, .ref a11, .ref a12, .int (iI x2), .int (iI x3), .int (iI x4), .int (iI x5), .int (iI x6), .int (iI x7), .int (iI x8), .int (iI x9), .int (iI x10)])), (a2, .inr (7, [.ref a13, .ref a14, .ref a15, .ref a16, .int r0, .int r1, .int r2, .int r3])), (a3, .inl (T 0, 23, .inl f0)), (a4, .inl (T 1, 9, .inr (.inl h0))), (a13, .inl (T 0, 9, .inl f1)), (a14, .inl (T 0, 9, .inl (cI f2))), (a15, .inl (T 0, 9, .inl (cI f3)))] sz) := by
  refine e_I (by decide) (Nat.le_of_ble_eq_true rfl) ?_
  intro p e s m args below meth c A Q ls M hin w ret hl
  have hx := M.1.1
  have hb := M.1.2.1
  have hl : lv_has ls 5 [(0, .ref a0), (1, .ref a1), (2, .ref a2), (3, .int (iI x0))] := hl
  refine lv_aload_n hx hb dX2_write_0 rfl (lv_at hl 0 rfl) ?_
  refine lv_iconst (v := iI 0) hx hb dX2_write_1 (by decide +kernel) ?_
  refine r_put (ws' := [(a0, .inr (2, [.ref a3, .int (iI 0)])), (a1, .inr (9, [.ref a4, .ref a5, .ref a6, .ref a7, .ref a8, .ref a9, .ref a10, .ref a11, .ref a12, .int (iI x2), .int (iI x3), .int (iI x4), .int (iI x5), .int (iI x6), .int (iI x7), .int (iI x8), .int (iI x9), .int (iI x10)])), (a2, .inr (7, [.ref a13, .ref a14, .ref a15, .ref a16, .int r0, .int r1, .int r2, .int r3])), (a3, .inl (T 0, 23, .inl f0)), (a4, .inl (T 1, 9, .inr (.inl h0))), (a13, .inl (T 0, 9, .inl f1)), (a14, .inl (T 0, 9, .inl (cI f2))), (a15, .inl (T 0, 9, .inl (cI f3)))]) M w 0 1 clX2 rfl (by decide) G350 rfl rfl rfl rfl (Nat.le_of_ble_eq_true rfl) rfl dX2_write_2 (fun H locs w => ?_)
  refine lv_aload_n hx hb dX2_write_5 rfl (lv_at hl 0 rfl) ?_
  refine lv_aload_n hx hb dX2_write_6 rfl (lv_at hl 1 rfl) ?_
  refine r_getN (v := .ref a4) M w 1 0 clX9 rfl (by decide) N367 rfl rfl dX2_write_7 ?_
  refine lv_iload_n hx hb dX2_write_10 rfl (lv_at hl 3 rfl) ?_
  refine r_lald (v := _) M w 4 rfl (iI_in (by omega) (by omega) (by decide)) rfl dX2_write_11 ?_
  refine b_anyl (fun fy1 => ?_)
  refine k_V (ce := 0) (sl := 0) (rest := []) (wr := [(a1, .inr (9, [.ref a4, .ref a5, .ref a6, .ref a7, .ref a8, .ref a9, .ref a10, .ref a11, .ref a12, .int (iI x2), .int (iI x3), .int (iI x4), .int (iI x5), .int (iI x6), .int (iI x7), .int (iI x8), .int (iI x9), .int (iI x10)])), (a2, .inr (7, [.ref a13, .ref a14, .ref a15, .ref a16, .int r0, .int r1, .int r2, .int r3])), (a4, .inl (T 1, 9, .inr (.inl h0))), (a13, .inl (T 0, 9, .inl f1)), (a14, .inl (T 0, 9, .inl (cI f2))), (a15, .inl (T 0, 9, .inl (cI f3)))]) (r_V (f := 1) [0, 3] M w V_HookedCity_Label_25 G1090 G26 (c299_X2_putName l D T _ a0 fy1 a3 0 f0 (by decide) (by decide)) 0 clX2 rfl rfl (by decide) rfl hl.1 rfl (Nat.le_of_ble_eq_true rfl) dX2_write_12 (by decide) (by decide) (by decide) (by decide)) w [0, 3] [1, 2, 4, 5, 6, 7] rfl rfl (by decide) (by decide) rfl rfl (fun u H locs hp w => ?_)
  obtain ⟨z2, ff3⟩ := u
  have z2_a : 0 ≤ z2 := hp.1
  have z2_b : z2 ≤ 23 := hp.2
  have w : WD D A s.heap [(a1, .inr (9, [.ref a4, .ref a5, .ref a6, .ref a7, .ref a8, .ref a9, .ref a10, .ref a11, .ref a12, .int (iI x2), .int (iI x3), .int (iI x4), .int (iI x5), .int (iI x6), .int (iI x7), .int (iI x8), .int (iI x9), .int (iI x10)])), (a2, .inr (7, [.ref a13, .ref a14, .ref a15, .ref a16, .int r0, .int r1, .int r2, .int r3])), (a4, .inl (T 1, 9, .inr (.inl h0))), (a13, .inl (T 0, 9, .inl f1)), (a14, .inl (T 0, 9, .inl (cI f2))), (a15, .inl (T 0, 9, .inl (cI f3))), (a0, .inr (2, [.ref a3, .int (iI z2)])), (a3, .inl (T 0, 23, .inl ff3))] H locs := w
  refine lv_aload_n hx hb dX2_write_15 rfl (lv_at hl 2 rfl) ?_
  refine r_getN (v := .ref a14) M w 1 1 clX7 rfl (by decide) N221 rfl rfl dX2_write_16 ?_
  refine lv_iload_n hx hb dX2_write_19 rfl (lv_at hl 3 rfl) ?_
  refine r_iald (v := iI (f2 x0)) M w 4 rfl (iI_in (by omega) (by omega) (by decide)) (cI_at (by omega) (by omega)) dX2_write_20 ?_
  have hh4 : (-1) ≤ (f2 x0) ∧ (f2 x0) ≤ 8 := f2_h x0
  refine lv_istore (lv' := [(4, .int (iI (f2 x0))), (0, .ref a0), (1, .ref a1), (2, .ref a2), (3, .int (iI x0))]) hx hb dX2_write_21 hl (by decide) rfl (fun ls hl => ?_)
  refine lv_iload hx hb dX2_write_23 (lv_at hl 0 rfl) ?_
  refine lv_iconst (v := iI (-1)) hx hb dX2_write_25 (by decide +kernel) ?_
  refine lv_icmp_ne (tgt := 38) hx hb dX2_write_26 (by decide) (fun c_5 => ?_) (fun c_5 => ?_)
  · replace c_5 : ¬ (f2 x0) = (-1) := fun h => c_5 ((iI_eq (by omega) (by omega) (by decide) (by decide)).mpr h)
    refine lv_aload_n hx hb dX2_write_38 rfl (lv_at hl 1 rfl) ?_
    refine r_ldcS M 2 rfl dX2_write_39 ?_
    refine k_V (ce := 0) (sl := 0) (rest := []) (wr := [(a1, .inr (9, [.ref a4, .ref a5, .ref a6, .ref a7, .ref a8, .ref a9, .ref a10, .ref a11, .ref a12, .int (iI x2), .int (iI x3), .int (iI x4), .int (iI x5), .int (iI x6), .int (iI x7), .int (iI x8), .int (iI x9), .int (iI x10)])), (a2, .inr (7, [.ref a13, .ref a14, .ref a15, .ref a16, .int r0, .int r1, .int r2, .int r3])), (a4, .inl (T 1, 9, .inr (.inl h0))), (a13, .inl (T 0, 9, .inl f1)), (a14, .inl (T 0, 9, .inl (cI f2))), (a15, .inl (T 0, 9, .inl (cI f3)))]) (r_V (f := 4) [6, 7] M w V_HookedCity_Label_36 G1102 G28 (c308_X2_putText l D T _ a0 a3 z2 ff3 z2_a z2_b) 6 clX2 rfl rfl (by decide) rfl hl.1 rfl (Nat.le_of_ble_eq_true rfl) dX2_write_41 (by decide) (by decide) (by decide) (by decide)) w [6, 7] [0, 1, 2, 3, 4, 5] rfl rfl (by decide) (by decide) rfl rfl (fun u H locs hp w => ?_)
    obtain ⟨z6, ff7⟩ := u
    have z6_a : 0 ≤ z6 := hp.1
    have z6_b : z6 ≤ 23 := hp.2
    have w : WD D A s.heap [(a1, .inr (9, [.ref a4, .ref a5, .ref a6, .ref a7, .ref a8, .ref a9, .ref a10, .ref a11, .ref a12, .int (iI x2), .int (iI x3), .int (iI x4), .int (iI x5), .int (iI x6), .int (iI x7), .int (iI x8), .int (iI x9), .int (iI x10)])), (a2, .inr (7, [.ref a13, .ref a14, .ref a15, .ref a16, .int r0, .int r1, .int r2, .int r3])), (a4, .inl (T 1, 9, .inr (.inl h0))), (a13, .inl (T 0, 9, .inl f1)), (a14, .inl (T 0, 9, .inl (cI f2))), (a15, .inl (T 0, 9, .inl (cI f3))), (a0, .inr (2, [.ref a3, .int (iI z6)])), (a3, .inl (T 0, 23, .inl ff7))] H locs := w
    refine lv_aload_n hx hb dX2_write_44 rfl (lv_at hl 1 rfl) ?_
    refine lv_aload_n hx hb dX2_write_45 rfl (lv_at hl 2 rfl) ?_
    refine r_getN (v := .ref a4) M w 0 0 clX9 rfl (by decide) N367 rfl rfl dX2_write_46 ?_
    refine lv_iload hx hb dX2_write_49 (lv_at hl 0 rfl) ?_
    refine r_lald (v := _) M w 2 rfl (iI_in (by omega) (by omega) (by decide)) rfl dX2_write_51 ?_
    refine b_anyl (fun fy8 => ?_)
    refine k_V (ce := 0) (sl := 0) (rest := []) (wr := [(a1, .inr (9, [.ref a4, .ref a5, .ref a6, .ref a7, .ref a8, .ref a9, .ref a10, .ref a11, .ref a12, .int (iI x2), .int (iI x3), .int (iI x4), .int (iI x5), .int (iI x6), .int (iI x7), .int (iI x8), .int (iI x9), .int (iI x10)])), (a2, .inr (7, [.ref a13, .ref a14, .ref a15, .ref a16, .int r0, .int r1, .int r2, .int r3])), (a4, .inl (T 1, 9, .inr (.inl h0))), (a13, .inl (T 0, 9, .inl f1)), (a14, .inl (T 0, 9, .inl (cI f2))), (a15, .inl (T 0, 9, .inl (cI f3)))]) (r_V (f := 1) [6, 7] M w V_HookedCity_Label_25 G1090 G26 (c299_X2_putName l D T _ a0 fy8 a3 z6 ff7 z6_a z6_b) 6 clX2 rfl rfl (by decide) rfl hl.1 rfl (Nat.le_of_ble_eq_true rfl) dX2_write_52 (by decide) (by decide) (by decide) (by decide)) w [6, 7] [0, 1, 2, 3, 4, 5] rfl rfl (by decide) (by decide) rfl rfl (fun u H locs hp w => ?_)
    obtain ⟨z9, ff10⟩ := u
    have z9_a : 0 ≤ z9 := hp.1
    have z9_b : z9 ≤ 23 := hp.2
    have w : WD D A s.heap [(a1, .inr (9, [.ref a4, .ref a5, .ref a6, .ref a7, .ref a8, .ref a9, .ref a10, .ref a11, .ref a12, .int (iI x2), .int (iI x3), .int (iI x4), .int (iI x5), .int (iI x6), .int (iI x7), .int (iI x8), .int (iI x9), .int (iI x10)])), (a2, .inr (7, [.ref a13, .ref a14, .ref a15, .ref a16, .int r0, .int r1, .int r2, .int r3])), (a4, .inl (T 1, 9, .inr (.inl h0))), (a13, .inl (T 0, 9, .inl f1)), (a14, .inl (T 0, 9, .inl (cI f2))), (a15, .inl (T 0, 9, .inl (cI f3))), (a0, .inr (2, [.ref a3, .int (iI z9)])), (a3, .inl (T 0, 23, .inl ff10))] H locs := w
    refine lv_aload_n hx hb dX2_write_55 rfl (lv_at hl 3 rfl) ?_
    refine r_getN (v := .ref a13) M w 1 0 clX7 rfl (by decide) N216 rfl rfl dX2_write_56 ?_
    refine lv_iload_n hx hb dX2_write_59 rfl (lv_at hl 4 rfl) ?_
    refine r_iald (v := _) M w 3 rfl (iI_in (by omega) (by omega) (by decide)) rfl dX2_write_60 ?_
    refine b_any (fun z11 z11_a z11_b => ?_)
    refine lv_if_ne (tgt := 73) hx hb dX2_write_61 (by decide) (fun c_12 => ?_) (fun c_12 => ?_)
    · replace c_12 : ¬ z11 = 0 := fun h => c_12 ((iz_eq (Int.le_trans (by decide) z11_a) (Int.le_trans z11_b (by decide))).mpr h)
      refine lv_aload_n hx hb dX2_write_73 rfl (lv_at hl 3 rfl) ?_
      refine r_getN (v := .ref a15) M w 1 2 clX7 rfl (by decide) N225 rfl rfl dX2_write_74 ?_
      refine lv_iload_n hx hb dX2_write_77 rfl (lv_at hl 4 rfl) ?_
      refine r_iald (v := iI (f3 x0)) M w 5 rfl (iI_in (by omega) (by omega) (by decide)) (cI_at (by omega) (by omega)) dX2_write_78 ?_
      have hh13 : (-1) ≤ (f3 x0) ∧ (f3 x0) ≤ 8 := f3_h x0
      refine lv_iconst (v := iI (-1)) hx hb dX2_write_79 (by decide +kernel) ?_
      refine lv_icmp_ne (tgt := 89) hx hb dX2_write_80 (by decide) (fun c_14 => ?_) (fun c_14 => ?_)
      · replace c_14 : ¬ (f3 x0) = (-1) := fun h => c_14 ((iI_eq (by omega) (by omega) (by decide) (by decide)).mpr h)
        refine lv_aload_n hx hb dX2_write_89 rfl (lv_at hl 1 rfl) ?_
        refine r_get (v := .int (iI z9)) M w 6 1 clX2 rfl (by decide) G350 rfl rfl dX2_write_90 ?_
        exact ret _ (z9, z9, ff10) _ _ _ _ _ [6, 0, 1, 7, 2, 3, 4, 5] dX2_write_93 ⟨rfl, (show (-2147483648) ≤ z9 from by omega), (show z9 ≤ 2147483647 from by omega), z9_a, z9_b⟩ w (by decide) rfl
      · replace c_14 := (iI_eq (by omega) (by omega) (by decide) (by decide)).mp c_14
        refine lv_aload_n hx hb dX2_write_83 rfl (lv_at hl 1 rfl) ?_
        refine r_ldcS M 4 rfl dX2_write_84 ?_
        refine k_V (ce := 0) (sl := 0) (rest := []) (wr := [(a1, .inr (9, [.ref a4, .ref a5, .ref a6, .ref a7, .ref a8, .ref a9, .ref a10, .ref a11, .ref a12, .int (iI x2), .int (iI x3), .int (iI x4), .int (iI x5), .int (iI x6), .int (iI x7), .int (iI x8), .int (iI x9), .int (iI x10)])), (a2, .inr (7, [.ref a13, .ref a14, .ref a15, .ref a16, .int r0, .int r1, .int r2, .int r3])), (a4, .inl (T 1, 9, .inr (.inl h0))), (a13, .inl (T 0, 9, .inl f1)), (a14, .inl (T 0, 9, .inl (cI f2))), (a15, .inl (T 0, 9, .inl (cI f3)))]) (r_V (f := 4) [6, 7] M w V_HookedCity_Label_36 G1102 G28 (c317_X2_putText l D T _ a0 a3 z9 ff10 z9_a z9_b) 6 clX2 rfl rfl (by decide) rfl hl.1 rfl (Nat.le_of_ble_eq_true rfl) dX2_write_86 (by decide) (by decide) (by decide) (by decide)) w [6, 7] [0, 1, 2, 3, 4, 5] rfl rfl (by decide) (by decide) rfl rfl (fun u H locs hp w => ?_)
        obtain ⟨z15, ff16⟩ := u
        have z15_a : 0 ≤ z15 := hp.1
        have z15_b : z15 ≤ 23 := hp.2
        have w : WD D A s.heap [(a1, .inr (9, [.ref a4, .ref a5, .ref a6, .ref a7, .ref a8, .ref a9, .ref a10, .ref a11, .ref a12, .int (iI x2), .int (iI x3), .int (iI x4), .int (iI x5), .int (iI x6), .int (iI x7), .int (iI x8), .int (iI x9), .int (iI x10)])), (a2, .inr (7, [.ref a13, .ref a14, .ref a15, .ref a16, .int r0, .int r1, .int r2, .int r3])), (a4, .inl (T 1, 9, .inr (.inl h0))), (a13, .inl (T 0, 9, .inl f1)), (a14, .inl (T 0, 9, .inl (cI f2))), (a15, .inl (T 0, 9, .inl (cI f3))), (a0, .inr (2, [.ref a3, .int (iI z15)])), (a3, .inl (T 0, 23, .inl ff16))] H locs := w
        refine lv_aload_n hx hb dX2_write_89 rfl (lv_at hl 1 rfl) ?_
        refine r_get (v := .int (iI z15)) M w 6 1 clX2 rfl (by decide) G350 rfl rfl dX2_write_90 ?_
        exact ret _ (z15, z15, ff16) _ _ _ _ _ [6, 0, 1, 7, 2, 3, 4, 5] dX2_write_93 ⟨rfl, (show (-2147483648) ≤ z15 from by omega), (show z15 ≤ 2147483647 from by omega), z15_a, z15_b⟩ w (by decide) rfl
    · replace c_12 := (iz_eq (Int.le_trans (by decide) z11_a) (Int.le_trans z11_b (by decide))).mp c_12
      refine lv_aload_n hx hb dX2_write_64 rfl (lv_at hl 1 rfl) ?_
      refine r_ldcS M 3 rfl dX2_write_65 ?_
      refine k_V (ce := 0) (sl := 0) (rest := []) (wr := [(a1, .inr (9, [.ref a4, .ref a5, .ref a6, .ref a7, .ref a8, .ref a9, .ref a10, .ref a11, .ref a12, .int (iI x2), .int (iI x3), .int (iI x4), .int (iI x5), .int (iI x6), .int (iI x7), .int (iI x8), .int (iI x9), .int (iI x10)])), (a2, .inr (7, [.ref a13, .ref a14, .ref a15, .ref a16, .int r0, .int r1, .int r2, .int r3])), (a4, .inl (T 1, 9, .inr (.inl h0))), (a13, .inl (T 0, 9, .inl f1)), (a14, .inl (T 0, 9, .inl (cI f2))), (a15, .inl (T 0, 9, .inl (cI f3)))]) (r_V (f := 4) [6, 7] M w V_HookedCity_Label_36 G1102 G28 (c323_X2_putText l D T _ a0 a3 z9 ff10 z9_a z9_b) 6 clX2 rfl rfl (by decide) rfl hl.1 rfl (Nat.le_of_ble_eq_true rfl) dX2_write_67 (by decide) (by decide) (by decide) (by decide)) w [6, 7] [0, 1, 2, 3, 4, 5] rfl rfl (by decide) (by decide) rfl rfl (fun u H locs hp w => ?_)
      obtain ⟨z17, ff18⟩ := u
      have z17_a : 0 ≤ z17 := hp.1
      have z17_b : z17 ≤ 23 := hp.2
      have w : WD D A s.heap [(a1, .inr (9, [.ref a4, .ref a5, .ref a6, .ref a7, .ref a8, .ref a9, .ref a10, .ref a11, .ref a12, .int (iI x2), .int (iI x3), .int (iI x4), .int (iI x5), .int (iI x6), .int (iI x7), .int (iI x8), .int (iI x9), .int (iI x10)])), (a2, .inr (7, [.ref a13, .ref a14, .ref a15, .ref a16, .int r0, .int r1, .int r2, .int r3])), (a4, .inl (T 1, 9, .inr (.inl h0))), (a13, .inl (T 0, 9, .inl f1)), (a14, .inl (T 0, 9, .inl (cI f2))), (a15, .inl (T 0, 9, .inl (cI f3))), (a0, .inr (2, [.ref a3, .int (iI z17)])), (a3, .inl (T 0, 23, .inl ff18))] H locs := w
      refine lv_goto (tgt := 89) hx hb dX2_write_70 (by decide) ?_
      refine lv_aload_n hx hb dX2_write_89 rfl (lv_at hl 1 rfl) ?_
      refine r_get (v := .int (iI z17)) M w 6 1 clX2 rfl (by decide) G350 rfl rfl dX2_write_90 ?_
      exact ret _ (z17, z17, ff18) _ _ _ _ _ [6, 0, 1, 7, 2, 3, 4, 5] dX2_write_93 ⟨rfl, (show (-2147483648) ≤ z17 from by omega), (show z17 ≤ 2147483647 from by omega), z17_a, z17_b⟩ w (by decide) rfl
  · replace c_5 := (iI_eq (by omega) (by omega) (by decide) (by decide)).mp c_5
    refine lv_aload_n hx hb dX2_write_29 rfl (lv_at hl 1 rfl) ?_
    refine r_ldcS M 1 rfl dX2_write_30 ?_
    refine k_V (ce := 0) (sl := 0) (rest := []) (wr := [(a1, .inr (9, [.ref a4, .ref a5, .ref a6, .ref a7, .ref a8, .ref a9, .ref a10, .ref a11, .ref a12, .int (iI x2), .int (iI x3), .int (iI x4), .int (iI x5), .int (iI x6), .int (iI x7), .int (iI x8), .int (iI x9), .int (iI x10)])), (a2, .inr (7, [.ref a13, .ref a14, .ref a15, .ref a16, .int r0, .int r1, .int r2, .int r3])), (a4, .inl (T 1, 9, .inr (.inl h0))), (a13, .inl (T 0, 9, .inl f1)), (a14, .inl (T 0, 9, .inl (cI f2))), (a15, .inl (T 0, 9, .inl (cI f3)))]) (r_V (f := 4) [6, 7] M w V_HookedCity_Label_36 G1102 G28 (c329_X2_putText l D T _ a0 a3 z2 ff3 z2_a z2_b) 6 clX2 rfl rfl (by decide) rfl hl.1 rfl (Nat.le_of_ble_eq_true rfl) dX2_write_32 (by decide) (by decide) (by decide) (by decide)) w [6, 7] [0, 1, 2, 3, 4, 5] rfl rfl (by decide) (by decide) rfl rfl (fun u H locs hp w => ?_)
    obtain ⟨z19, ff20⟩ := u
    have z19_a : 0 ≤ z19 := hp.1
    have z19_b : z19 ≤ 23 := hp.2
    have w : WD D A s.heap [(a1, .inr (9, [.ref a4, .ref a5, .ref a6, .ref a7, .ref a8, .ref a9, .ref a10, .ref a11, .ref a12, .int (iI x2), .int (iI x3), .int (iI x4), .int (iI x5), .int (iI x6), .int (iI x7), .int (iI x8), .int (iI x9), .int (iI x10)])), (a2, .inr (7, [.ref a13, .ref a14, .ref a15, .ref a16, .int r0, .int r1, .int r2, .int r3])), (a4, .inl (T 1, 9, .inr (.inl h0))), (a13, .inl (T 0, 9, .inl f1)), (a14, .inl (T 0, 9, .inl (cI f2))), (a15, .inl (T 0, 9, .inl (cI f3))), (a0, .inr (2, [.ref a3, .int (iI z19)])), (a3, .inl (T 0, 23, .inl ff20))] H locs := w
    refine lv_goto (tgt := 55) hx hb dX2_write_35 (by decide) ?_
    refine lv_aload_n hx hb dX2_write_55 rfl (lv_at hl 3 rfl) ?_
    refine r_getN (v := .ref a13) M w 1 0 clX7 rfl (by decide) N216 rfl rfl dX2_write_56 ?_
    refine lv_iload_n hx hb dX2_write_59 rfl (lv_at hl 4 rfl) ?_
    refine r_iald (v := _) M w 3 rfl (iI_in (by omega) (by omega) (by decide)) rfl dX2_write_60 ?_
    refine b_any (fun z21 z21_a z21_b => ?_)
    refine lv_if_ne (tgt := 73) hx hb dX2_write_61 (by decide) (fun c_22 => ?_) (fun c_22 => ?_)
    · replace c_22 : ¬ z21 = 0 := fun h => c_22 ((iz_eq (Int.le_trans (by decide) z21_a) (Int.le_trans z21_b (by decide))).mpr h)
      refine lv_aload_n hx hb dX2_write_73 rfl (lv_at hl 3 rfl) ?_
      refine r_getN (v := .ref a15) M w 1 2 clX7 rfl (by decide) N225 rfl rfl dX2_write_74 ?_
      refine lv_iload_n hx hb dX2_write_77 rfl (lv_at hl 4 rfl) ?_
      refine r_iald (v := iI (f3 x0)) M w 5 rfl (iI_in (by omega) (by omega) (by decide)) (cI_at (by omega) (by omega)) dX2_write_78 ?_
      have hh23 : (-1) ≤ (f3 x0) ∧ (f3 x0) ≤ 8 := f3_h x0
      refine lv_iconst (v := iI (-1)) hx hb dX2_write_79 (by decide +kernel) ?_
      refine lv_icmp_ne (tgt := 89) hx hb dX2_write_80 (by decide) (fun c_24 => ?_) (fun c_24 => ?_)
      · replace c_24 : ¬ (f3 x0) = (-1) := fun h => c_24 ((iI_eq (by omega) (by omega) (by decide) (by decide)).mpr h)
        refine lv_aload_n hx hb dX2_write_89 rfl (lv_at hl 1 rfl) ?_
        refine r_get (v := .int (iI z19)) M w 6 1 clX2 rfl (by decide) G350 rfl rfl dX2_write_90 ?_
        exact ret _ (z19, z19, ff20) _ _ _ _ _ [6, 0, 1, 7, 2, 3, 4, 5] dX2_write_93 ⟨rfl, (show (-2147483648) ≤ z19 from by omega), (show z19 ≤ 2147483647 from by omega), z19_a, z19_b⟩ w (by decide) rfl
      · replace c_24 := (iI_eq (by omega) (by omega) (by decide) (by decide)).mp c_24
        refine lv_aload_n hx hb dX2_write_83 rfl (lv_at hl 1 rfl) ?_
        refine r_ldcS M 4 rfl dX2_write_84 ?_
        refine k_V (ce := 0) (sl := 0) (rest := []) (wr := [(a1, .inr (9, [.ref a4, .ref a5, .ref a6, .ref a7, .ref a8, .ref a9, .ref a10, .ref a11, .ref a12, .int (iI x2), .int (iI x3), .int (iI x4), .int (iI x5), .int (iI x6), .int (iI x7), .int (iI x8), .int (iI x9), .int (iI x10)])), (a2, .inr (7, [.ref a13, .ref a14, .ref a15, .ref a16, .int r0, .int r1, .int r2, .int r3])), (a4, .inl (T 1, 9, .inr (.inl h0))), (a13, .inl (T 0, 9, .inl f1)), (a14, .inl (T 0, 9, .inl (cI f2))), (a15, .inl (T 0, 9, .inl (cI f3)))]) (r_V (f := 4) [6, 7] M w V_HookedCity_Label_36 G1102 G28 (c317_X2_putText l D T _ a0 a3 z19 ff20 z19_a z19_b) 6 clX2 rfl rfl (by decide) rfl hl.1 rfl (Nat.le_of_ble_eq_true rfl) dX2_write_86 (by decide) (by decide) (by decide) (by decide)) w [6, 7] [0, 1, 2, 3, 4, 5] rfl rfl (by decide) (by decide) rfl rfl (fun u H locs hp w => ?_)
        obtain ⟨z25, ff26⟩ := u
        have z25_a : 0 ≤ z25 := hp.1
        have z25_b : z25 ≤ 23 := hp.2
        have w : WD D A s.heap [(a1, .inr (9, [.ref a4, .ref a5, .ref a6, .ref a7, .ref a8, .ref a9, .ref a10, .ref a11, .ref a12, .int (iI x2), .int (iI x3), .int (iI x4), .int (iI x5), .int (iI x6), .int (iI x7), .int (iI x8), .int (iI x9), .int (iI x10)])), (a2, .inr (7, [.ref a13, .ref a14, .ref a15, .ref a16, .int r0, .int r1, .int r2, .int r3])), (a4, .inl (T 1, 9, .inr (.inl h0))), (a13, .inl (T 0, 9, .inl f1)), (a14, .inl (T 0, 9, .inl (cI f2))), (a15, .inl (T 0, 9, .inl (cI f3))), (a0, .inr (2, [.ref a3, .int (iI z25)])), (a3, .inl (T 0, 23, .inl ff26))] H locs := w
        refine lv_aload_n hx hb dX2_write_89 rfl (lv_at hl 1 rfl) ?_
        refine r_get (v := .int (iI z25)) M w 6 1 clX2 rfl (by decide) G350 rfl rfl dX2_write_90 ?_
        exact ret _ (z25, z25, ff26) _ _ _ _ _ [6, 0, 1, 7, 2, 3, 4, 5] dX2_write_93 ⟨rfl, (show (-2147483648) ≤ z25 from by omega), (show z25 ≤ 2147483647 from by omega), z25_a, z25_b⟩ w (by decide) rfl
    · replace c_22 := (iz_eq (Int.le_trans (by decide) z21_a) (Int.le_trans z21_b (by decide))).mp c_22
      refine lv_aload_n hx hb dX2_write_64 rfl (lv_at hl 1 rfl) ?_
      refine r_ldcS M 3 rfl dX2_write_65 ?_
      refine k_V (ce := 0) (sl := 0) (rest := []) (wr := [(a1, .inr (9, [.ref a4, .ref a5, .ref a6, .ref a7, .ref a8, .ref a9, .ref a10, .ref a11, .ref a12, .int (iI x2), .int (iI x3), .int (iI x4), .int (iI x5), .int (iI x6), .int (iI x7), .int (iI x8), .int (iI x9), .int (iI x10)])), (a2, .inr (7, [.ref a13, .ref a14, .ref a15, .ref a16, .int r0, .int r1, .int r2, .int r3])), (a4, .inl (T 1, 9, .inr (.inl h0))), (a13, .inl (T 0, 9, .inl f1)), (a14, .inl (T 0, 9, .inl (cI f2))), (a15, .inl (T 0, 9, .inl (cI f3)))]) (r_V (f := 4) [6, 7] M w V_HookedCity_Label_36 G1102 G28 (c323_X2_putText l D T _ a0 a3 z19 ff20 z19_a z19_b) 6 clX2 rfl rfl (by decide) rfl hl.1 rfl (Nat.le_of_ble_eq_true rfl) dX2_write_67 (by decide) (by decide) (by decide) (by decide)) w [6, 7] [0, 1, 2, 3, 4, 5] rfl rfl (by decide) (by decide) rfl rfl (fun u H locs hp w => ?_)
      obtain ⟨z27, ff28⟩ := u
      have z27_a : 0 ≤ z27 := hp.1
      have z27_b : z27 ≤ 23 := hp.2
      have w : WD D A s.heap [(a1, .inr (9, [.ref a4, .ref a5, .ref a6, .ref a7, .ref a8, .ref a9, .ref a10, .ref a11, .ref a12, .int (iI x2), .int (iI x3), .int (iI x4), .int (iI x5), .int (iI x6), .int (iI x7), .int (iI x8), .int (iI x9), .int (iI x10)])), (a2, .inr (7, [.ref a13, .ref a14, .ref a15, .ref a16, .int r0, .int r1, .int r2, .int r3])), (a4, .inl (T 1, 9, .inr (.inl h0))), (a13, .inl (T 0, 9, .inl f1)), (a14, .inl (T 0, 9, .inl (cI f2))), (a15, .inl (T 0, 9, .inl (cI f3))), (a0, .inr (2, [.ref a3, .int (iI z27)])), (a3, .inl (T 0, 23, .inl ff28))] H locs := w
      refine lv_goto (tgt := 89) hx hb dX2_write_70 (by decide) ?_
      refine lv_aload_n hx hb dX2_write_89 rfl (lv_at hl 1 rfl) ?_
      refine r_get (v := .int (iI z27)) M w 6 1 clX2 rfl (by decide) G350 rfl rfl dX2_write_90 ?_
      exact ret _ (z27, z27, ff28) _ _ _ _ _ [6, 0, 1, 7, 2, 3, 4, 5] dX2_write_93 ⟨rfl, (show (-2147483648) ≤ z27 from by omega), (show z27 ≤ 2147483647 from by omega), z27_a, z27_b⟩ w (by decide) rfl
