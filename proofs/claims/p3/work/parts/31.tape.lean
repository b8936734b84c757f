theorem dX8_append_0 : decode cX8_append 0 = .ok (.bipush 24, 2) := by decide +kernel
theorem dX8_append_2 : decode cX8_append 2 = .ok (.istore_n 2, 1) := by decide +kernel
theorem dX8_append_3 : decode cX8_append 3 = .ok (.iload_n 2, 1) := by decide +kernel
theorem dX8_append_4 : decode cX8_append 4 = .ok (.ifCond .lt 45, 3) := by decide +kernel
theorem dX8_append_49 : decode cX8_append 49 = .ok (.return_, 1) := by decide +kernel
theorem dX8_append_7 : decode cX8_append 7 = .ok (.aload_n 0, 1) := by decide +kernel
theorem dX8_append_8 : decode cX8_append 8 = .ok (.getfield 15, 3) := by decide +kernel
theorem G162 : Cond.fieldLink "HookedCity$Tape" 15 "HookedCity$Tape" "length" "I" ∈ GW := gw_i 162 (by decide +kernel) rfl
theorem dX8_append_11 : decode cX8_append 11 = .ok (.sipush 940, 3) := by decide +kernel
theorem dX8_append_14 : decode cX8_append 14 = .ok (.if_icmp .ge 35, 3) := by decide +kernel
theorem dX8_append_17 : decode cX8_append 17 = .ok (.aload_n 0, 1) := by decide +kernel
theorem dX8_append_18 : decode cX8_append 18 = .ok (.getfield 11, 3) := by decide +kernel
theorem G160 : Cond.fieldLink "HookedCity$Tape" 11 "HookedCity$Tape" "bytes" "[I" ∈ GW := gw_i 160 (by decide +kernel) rfl
theorem dX8_append_21 : decode cX8_append 21 = .ok (.aload_n 0, 1) := by decide +kernel
theorem dX8_append_22 : decode cX8_append 22 = .ok (.getfield 15, 3) := by decide +kernel
theorem dX8_append_25 : decode cX8_append 25 = .ok (.iload_n 1, 1) := by decide +kernel
theorem dX8_append_26 : decode cX8_append 26 = .ok (.iload_n 2, 1) := by decide +kernel
theorem dX8_append_27 : decode cX8_append 27 = .ok (.iushr, 1) := by decide +kernel
theorem dX8_append_28 : decode cX8_append 28 = .ok (.sipush 255, 3) := by decide +kernel
theorem dX8_append_31 : decode cX8_append 31 = .ok (.iand, 1) := by decide +kernel
theorem dX8_append_32 : decode cX8_append 32 = .ok (.iastore, 1) := by decide +kernel
theorem dX8_append_33 : decode cX8_append 33 = .ok (.aload_n 0, 1) := by decide +kernel
theorem dX8_append_34 : decode cX8_append 34 = .ok (.dup, 1) := by decide +kernel
theorem dX8_append_35 : decode cX8_append 35 = .ok (.getfield 15, 3) := by decide +kernel
theorem dX8_append_38 : decode cX8_append 38 = .ok (.iconst 1, 1) := by decide +kernel
theorem dX8_append_39 : decode cX8_append 39 = .ok (.iadd, 1) := by decide +kernel
theorem dX8_append_40 : decode cX8_append 40 = .ok (.putfield 15, 3) := by decide +kernel
theorem dX8_append_43 : decode cX8_append 43 = .ok (.iinc 2 (-8), 3) := by decide +kernel
theorem dX8_append_46 : decode cX8_append 46 = .ok (.goto (-43), 3) := by decide +kernel
theorem dX8_take_0 : decode cX8_take 0 = .ok (.aload_n 0, 1) := by decide +kernel
theorem dX8_take_1 : decode cX8_take 1 = .ok (.getfield 15, 3) := by decide +kernel
theorem dX8_take_4 : decode cX8_take 4 = .ok (.bipush 20, 2) := by decide +kernel
theorem dX8_take_6 : decode cX8_take 6 = .ok (.iadd, 1) := by decide +kernel
theorem dX8_take_7 : decode cX8_take 7 = .ok (.sipush 940, 3) := by decide +kernel
theorem dX8_take_10 : decode cX8_take 10 = .ok (.if_icmp .le 5, 3) := by decide +kernel
theorem dX8_take_15 : decode cX8_take 15 = .ok (.aload_n 0, 1) := by decide +kernel
theorem dX8_take_16 : decode cX8_take 16 = .ok (.iload_n 1, 1) := by decide +kernel
theorem dX8_take_17 : decode cX8_take 17 = .ok (.invokevirtual 51, 3) := by decide +kernel
theorem G560 : Cond.code ⟨"HookedCity$Tape", "append", "(I)V"⟩ prog_10_method_3_code 3 none ∈ GW := gw_i 560 (by decide +kernel) rfl
theorem G557 : Cond.methodLink "HookedCity$Tape" 51 ⟨"HookedCity$Tape", "append", "(I)V"⟩ ∈ GW := gw_i 557 (by decide +kernel) rfl
theorem G120 : Cond.initialized "HookedCity$Tape" ∈ GW := gw_i 120 (by decide +kernel) rfl
theorem V_HookedCity_Tape_51 : VL "HookedCity$Tape" 51 yX8_append cX8_append 3 none 1 := ⟨G560, G557, G120, by decide +kernel, by decide +kernel, by decide +kernel⟩
theorem G559 : Cond.instanceMethod ⟨"HookedCity$Tape", "append", "(I)V"⟩ ∈ GW := gw_i 559 (by decide +kernel) rfl
theorem G0 : Cond.selects "HookedCity$Tape" ⟨"HookedCity$Tape", "append", "(I)V"⟩ ⟨"HookedCity$Tape", "append", "(I)V"⟩ ∈ GW := gw_i 0 (by decide +kernel) rfl
theorem dX8_take_20 : decode cX8_take 20 = .ok (.aload_n 0, 1) := by decide +kernel
theorem dX8_take_21 : decode cX8_take 21 = .ok (.iload_n 2, 1) := by decide +kernel
theorem dX8_take_22 : decode cX8_take 22 = .ok (.invokevirtual 51, 3) := by decide +kernel
theorem dX8_take_25 : decode cX8_take 25 = .ok (.aload_n 0, 1) := by decide +kernel
theorem dX8_take_26 : decode cX8_take 26 = .ok (.iload_n 3, 1) := by decide +kernel
theorem dX8_take_27 : decode cX8_take 27 = .ok (.invokevirtual 51, 3) := by decide +kernel
theorem dX8_take_30 : decode cX8_take 30 = .ok (.aload_n 0, 1) := by decide +kernel
theorem dX8_take_31 : decode cX8_take 31 = .ok (.iload 4, 2) := by decide +kernel
theorem dX8_take_33 : decode cX8_take 33 = .ok (.invokevirtual 51, 3) := by decide +kernel
theorem dX8_take_36 : decode cX8_take 36 = .ok (.aload_n 0, 1) := by decide +kernel
theorem dX8_take_37 : decode cX8_take 37 = .ok (.iload 5, 2) := by decide +kernel
theorem dX8_take_39 : decode cX8_take 39 = .ok (.invokevirtual 51, 3) := by decide +kernel
theorem dX8_take_42 : decode cX8_take 42 = .ok (.aload_n 0, 1) := by decide +kernel
theorem dX8_take_43 : decode cX8_take 43 = .ok (.getfield 15, 3) := by decide +kernel
theorem dX8_take_46 : decode cX8_take 46 = .ok (.ireturn, 1) := by decide +kernel
theorem dX8_take_13 : decode cX8_take 13 = .ok (.iconst (-1), 1) := by decide +kernel
theorem dX8_take_14 : decode cX8_take 14 = .ok (.ireturn, 1) := by decide +kernel
theorem dX8_cut_0 : decode cX8_cut 0 = .ok (.iload_n 1, 1) := by decide +kernel
theorem dX8_cut_1 : decode cX8_cut 1 = .ok (.ifCond .lt 11, 3) := by decide +kernel
theorem dX8_cut_12 : decode cX8_cut 12 = .ok (.iconst 0, 1) := by decide +kernel
theorem dX8_cut_13 : decode cX8_cut 13 = .ok (.ireturn, 1) := by decide +kernel
theorem dX8_cut_4 : decode cX8_cut 4 = .ok (.iload_n 1, 1) := by decide +kernel
theorem dX8_cut_5 : decode cX8_cut 5 = .ok (.aload_n 0, 1) := by decide +kernel
theorem dX8_cut_6 : decode cX8_cut 6 = .ok (.getfield 15, 3) := by decide +kernel
theorem dX8_cut_9 : decode cX8_cut 9 = .ok (.if_icmp .le 5, 3) := by decide +kernel
theorem dX8_cut_14 : decode cX8_cut 14 = .ok (.aload_n 0, 1) := by decide +kernel
theorem dX8_cut_15 : decode cX8_cut 15 = .ok (.iload_n 1, 1) := by decide +kernel
theorem dX8_cut_16 : decode cX8_cut 16 = .ok (.putfield 15, 3) := by decide +kernel
theorem dX8_cut_19 : decode cX8_cut 19 = .ok (.iconst 1, 1) := by decide +kernel
theorem dX8_cut_20 : decode cX8_cut 20 = .ok (.ireturn, 1) := by decide +kernel
theorem dX8_empty_0 : decode cX8_empty 0 = .ok (.aload_n 0, 1) := by decide +kernel
theorem dX8_empty_1 : decode cX8_empty 1 = .ok (.iconst 0, 1) := by decide +kernel
theorem dX8_empty_2 : decode cX8_empty 2 = .ok (.putfield 15, 3) := by decide +kernel
theorem dX8_empty_5 : decode cX8_empty 5 = .ok (.return_, 1) := by decide +kernel
theorem dX8_isLetter_0 : decode cX8_isLetter 0 = .ok (.iload_n 0, 1) := by decide +kernel
theorem dX8_isLetter_1 : decode cX8_isLetter 1 = .ok (.bipush 97, 2) := by decide +kernel
theorem dX8_isLetter_3 : decode cX8_isLetter 3 = .ok (.if_icmp .lt 13, 3) := by decide +kernel
theorem dX8_isLetter_16 : decode cX8_isLetter 16 = .ok (.iconst 0, 1) := by decide +kernel
theorem dX8_isLetter_17 : decode cX8_isLetter 17 = .ok (.ireturn, 1) := by decide +kernel
theorem dX8_isLetter_6 : decode cX8_isLetter 6 = .ok (.iload_n 0, 1) := by decide +kernel
theorem dX8_isLetter_7 : decode cX8_isLetter 7 = .ok (.bipush 122, 2) := by decide +kernel
theorem dX8_isLetter_9 : decode cX8_isLetter 9 = .ok (.if_icmp .gt 7, 3) := by decide +kernel
theorem dX8_isLetter_12 : decode cX8_isLetter 12 = .ok (.iconst 1, 1) := by decide +kernel
theorem dX8_isLetter_13 : decode cX8_isLetter 13 = .ok (.goto 4, 3) := by decide +kernel
theorem dX8_isDigit_0 : decode cX8_isDigit 0 = .ok (.iload_n 0, 1) := by decide +kernel
theorem dX8_isDigit_1 : decode cX8_isDigit 1 = .ok (.bipush 48, 2) := by decide +kernel
theorem dX8_isDigit_3 : decode cX8_isDigit 3 = .ok (.if_icmp .lt 13, 3) := by decide +kernel
theorem dX8_isDigit_16 : decode cX8_isDigit 16 = .ok (.iconst 0, 1) := by decide +kernel
theorem dX8_isDigit_17 : decode cX8_isDigit 17 = .ok (.ireturn, 1) := by decide +kernel
theorem dX8_isDigit_6 : decode cX8_isDigit 6 = .ok (.iload_n 0, 1) := by decide +kernel
theorem dX8_isDigit_7 : decode cX8_isDigit 7 = .ok (.bipush 57, 2) := by decide +kernel
theorem dX8_isDigit_9 : decode cX8_isDigit 9 = .ok (.if_icmp .gt 7, 3) := by decide +kernel
theorem dX8_isDigit_12 : decode cX8_isDigit 12 = .ok (.iconst 1, 1) := by decide +kernel
theorem dX8_isDigit_13 : decode cX8_isDigit 13 = .ok (.goto 4, 3) := by decide +kernel
theorem dJ0_isLatin1_aae02_0 : decode cJ0_isLatin1_aae02 0 = .ok (.getstatic 38, 3) := by decide +kernel
theorem G621 : Cond.fieldLink "java/lang/String" 38 "java/lang/String" "COMPACT_STRINGS" "Z" ∈ GW := gw_i 621 (by decide +kernel) rfl
theorem dJ0_isLatin1_aae02_3 : decode cJ0_isLatin1_aae02 3 = .ok (.ifCond .eq 14, 3) := by decide +kernel
theorem dJ0_isLatin1_aae02_6 : decode cJ0_isLatin1_aae02 6 = .ok (.aload_n 0, 1) := by decide +kernel
theorem dJ0_isLatin1_aae02_7 : decode cJ0_isLatin1_aae02 7 = .ok (.getfield 15, 3) := by decide +kernel
theorem G2085 : Cond.fieldLink "java/lang/String" 15 "java/lang/String" "coder" "B" ∈ GW := gw_i 2085 (by decide +kernel) rfl
theorem dJ0_isLatin1_aae02_10 : decode cJ0_isLatin1_aae02 10 = .ok (.ifCond .ne 7, 3) := by decide +kernel
theorem dJ0_isLatin1_aae02_13 : decode cJ0_isLatin1_aae02 13 = .ok (.iconst 1, 1) := by decide +kernel
theorem dJ0_isLatin1_aae02_14 : decode cJ0_isLatin1_aae02 14 = .ok (.goto 4, 3) := by decide +kernel
theorem dJ0_isLatin1_aae02_18 : decode cJ0_isLatin1_aae02 18 = .ok (.ireturn, 1) := by decide +kernel
theorem dJ0_coder_7d493_0 : decode cJ0_coder_7d493 0 = .ok (.getstatic 38, 3) := by decide +kernel
theorem dJ0_coder_7d493_3 : decode cJ0_coder_7d493 3 = .ok (.ifCond .eq 10, 3) := by decide +kernel
theorem dJ0_coder_7d493_6 : decode cJ0_coder_7d493 6 = .ok (.aload_n 0, 1) := by decide +kernel
theorem dJ0_coder_7d493_7 : decode cJ0_coder_7d493 7 = .ok (.getfield 15, 3) := by decide +kernel
theorem dJ0_coder_7d493_10 : decode cJ0_coder_7d493 10 = .ok (.goto 4, 3) := by decide +kernel
theorem dJ0_coder_7d493_14 : decode cJ0_coder_7d493 14 = .ok (.ireturn, 1) := by decide +kernel
theorem dJ0_length_8abf5_0 : decode cJ0_length_8abf5 0 = .ok (.aload_n 0, 1) := by decide +kernel
theorem dJ0_length_8abf5_1 : decode cJ0_length_8abf5 1 = .ok (.getfield 9, 3) := by decide +kernel
theorem G2086 : Cond.fieldLink "java/lang/String" 9 "java/lang/String" "value" "[B" ∈ GW := gw_i 2086 (by decide +kernel) rfl
theorem dJ0_length_8abf5_4 : decode cJ0_length_8abf5 4 = .ok (.arraylength, 1) := by decide +kernel
theorem dJ0_length_8abf5_5 : decode cJ0_length_8abf5 5 = .ok (.aload_n 0, 1) := by decide +kernel
theorem dJ0_length_8abf5_6 : decode cJ0_length_8abf5 6 = .ok (.invokevirtual 335, 3) := by decide +kernel
theorem G630 : Cond.code ⟨"java/lang/String", "coder", "()B"⟩ prog_24_method_152_code 1 (some .byte) ∈ GW := gw_i 630 (by decide +kernel) rfl
theorem G627 : Cond.methodLink "java/lang/String" 335 ⟨"java/lang/String", "coder", "()B"⟩ ∈ GW := gw_i 627 (by decide +kernel) rfl
theorem G134 : Cond.initialized "java/lang/String" ∈ GW := gw_i 134 (by decide +kernel) rfl
theorem V_java_lang_String_335 : VL "java/lang/String" 335 yJ0_coder_7d493 cJ0_coder_7d493 1 (some .byte) 0 := ⟨G630, G627, G134, by decide +kernel, by decide +kernel, by decide +kernel⟩
theorem G628 : Cond.instanceMethod ⟨"java/lang/String", "coder", "()B"⟩ ∈ GW := gw_i 628 (by decide +kernel) rfl
theorem G629 : Cond.selects "java/lang/String" ⟨"java/lang/String", "coder", "()B"⟩ ⟨"java/lang/String", "coder", "()B"⟩ ∈ GW := gw_i 629 (by decide +kernel) rfl
theorem dJ0_length_8abf5_9 : decode cJ0_length_8abf5 9 = .ok (.ishr, 1) := by decide +kernel
theorem dJ0_length_8abf5_10 : decode cJ0_length_8abf5 10 = .ok (.ireturn, 1) := by decide +kernel
theorem dJ1_canEncode_9a6ad_0 : decode cJ1_canEncode_9a6ad 0 = .ok (.iload_n 0, 1) := by decide +kernel
theorem dJ1_canEncode_9a6ad_1 : decode cJ1_canEncode_9a6ad 1 = .ok (.ifCond .lt 14, 3) := by decide +kernel
theorem dJ1_canEncode_9a6ad_15 : decode cJ1_canEncode_9a6ad 15 = .ok (.iconst 0, 1) := by decide +kernel
theorem dJ1_canEncode_9a6ad_16 : decode cJ1_canEncode_9a6ad 16 = .ok (.ireturn, 1) := by decide +kernel
theorem dJ1_canEncode_9a6ad_4 : decode cJ1_canEncode_9a6ad 4 = .ok (.iload_n 0, 1) := by decide +kernel
theorem dJ1_canEncode_9a6ad_5 : decode cJ1_canEncode_9a6ad 5 = .ok (.sipush 255, 3) := by decide +kernel
theorem dJ1_canEncode_9a6ad_8 : decode cJ1_canEncode_9a6ad 8 = .ok (.if_icmp .gt 7, 3) := by decide +kernel
theorem dJ1_canEncode_9a6ad_11 : decode cJ1_canEncode_9a6ad 11 = .ok (.iconst 1, 1) := by decide +kernel
theorem dJ1_canEncode_9a6ad_12 : decode cJ1_canEncode_9a6ad 12 = .ok (.goto 4, 3) := by decide +kernel
theorem dJ1_indexOfChar_4cfef_0 : decode cJ1_indexOfChar_4cfef 0 = .ok (.iload_n 1, 1) := by decide +kernel
theorem dJ1_indexOfChar_4cfef_1 : decode cJ1_indexOfChar_4cfef 1 = .ok (.i2b, 1) := by decide +kernel
theorem dJ1_indexOfChar_4cfef_2 : decode cJ1_indexOfChar_4cfef 2 = .ok (.istore 4, 2) := by decide +kernel
theorem dJ1_indexOfChar_4cfef_4 : decode cJ1_indexOfChar_4cfef 4 = .ok (.iload_n 2, 1) := by decide +kernel
theorem dJ1_indexOfChar_4cfef_5 : decode cJ1_indexOfChar_4cfef 5 = .ok (.istore 5, 2) := by decide +kernel
theorem dJ1_indexOfChar_4cfef_7 : decode cJ1_indexOfChar_4cfef 7 = .ok (.iload 5, 2) := by decide +kernel
theorem dJ1_indexOfChar_4cfef_9 : decode cJ1_indexOfChar_4cfef 9 = .ok (.iload_n 3, 1) := by decide +kernel
theorem dJ1_indexOfChar_4cfef_10 : decode cJ1_indexOfChar_4cfef 10 = .ok (.if_icmp .ge 21, 3) := by decide +kernel
theorem dJ1_indexOfChar_4cfef_31 : decode cJ1_indexOfChar_4cfef 31 = .ok (.iconst (-1), 1) := by decide +kernel
theorem dJ1_indexOfChar_4cfef_32 : decode cJ1_indexOfChar_4cfef 32 = .ok (.ireturn, 1) := by decide +kernel
theorem dJ1_indexOfChar_4cfef_13 : decode cJ1_indexOfChar_4cfef 13 = .ok (.aload_n 0, 1) := by decide +kernel
theorem dJ1_indexOfChar_4cfef_14 : decode cJ1_indexOfChar_4cfef 14 = .ok (.iload 5, 2) := by decide +kernel
theorem dJ1_indexOfChar_4cfef_16 : decode cJ1_indexOfChar_4cfef 16 = .ok (.baload, 1) := by decide +kernel
theorem dJ1_indexOfChar_4cfef_17 : decode cJ1_indexOfChar_4cfef 17 = .ok (.iload 4, 2) := by decide +kernel
theorem dJ1_indexOfChar_4cfef_19 : decode cJ1_indexOfChar_4cfef 19 = .ok (.if_icmp .ne 6, 3) := by decide +kernel
theorem dJ1_indexOfChar_4cfef_25 : decode cJ1_indexOfChar_4cfef 25 = .ok (.iinc 5 1, 3) := by decide +kernel
theorem dJ1_indexOfChar_4cfef_28 : decode cJ1_indexOfChar_4cfef 28 = .ok (.goto (-21), 3) := by decide +kernel
theorem dJ1_indexOfChar_4cfef_22 : decode cJ1_indexOfChar_4cfef 22 = .ok (.iload 5, 2) := by decide +kernel
theorem dJ1_indexOfChar_4cfef_24 : decode cJ1_indexOfChar_4cfef 24 = .ok (.ireturn, 1) := by decide +kernel
theorem dJ1_indexOf_4cfef_0 : decode cJ1_indexOf_4cfef 0 = .ok (.iload_n 1, 1) := by decide +kernel
theorem dJ1_indexOf_4cfef_1 : decode cJ1_indexOf_4cfef 1 = .ok (.invokestatic 88, 3) := by decide +kernel
theorem G636 : Cond.code ⟨"java/lang/StringLatin1", "canEncode", "(I)Z"⟩ prog_25_method_4_code 1 (some .boolean) ∈ GW := gw_i 636 (by decide +kernel) rfl
theorem G634 : Cond.methodLink "java/lang/StringLatin1" 88 ⟨"java/lang/StringLatin1", "canEncode", "(I)Z"⟩ ∈ GW := gw_i 634 (by decide +kernel) rfl
theorem G135 : Cond.initialized "java/lang/StringLatin1" ∈ GW := gw_i 135 (by decide +kernel) rfl
theorem V_java_lang_StringLatin1_88 : VL "java/lang/StringLatin1" 88 yJ1_canEncode_9a6ad cJ1_canEncode_9a6ad 1 (some .boolean) 1 := ⟨G636, G634, G135, by decide +kernel, by decide +kernel, by decide +kernel⟩
theorem G635 : Cond.static ⟨"java/lang/StringLatin1", "canEncode", "(I)Z"⟩ ∈ GW := gw_i 635 (by decide +kernel) rfl
theorem dJ1_indexOf_4cfef_4 : decode cJ1_indexOf_4cfef 4 = .ok (.ifCond .ne 5, 3) := by decide +kernel
theorem dJ1_indexOf_4cfef_7 : decode cJ1_indexOf_4cfef 7 = .ok (.iconst (-1), 1) := by decide +kernel
theorem dJ1_indexOf_4cfef_8 : decode cJ1_indexOf_4cfef 8 = .ok (.ireturn, 1) := by decide +kernel
theorem dJ1_indexOf_4cfef_9 : decode cJ1_indexOf_4cfef 9 = .ok (.iload_n 2, 1) := by decide +kernel
theorem dJ1_indexOf_4cfef_10 : decode cJ1_indexOf_4cfef 10 = .ok (.iconst 0, 1) := by decide +kernel
theorem dJ1_indexOf_4cfef_11 : decode cJ1_indexOf_4cfef 11 = .ok (.invokestatic 92, 3) := by decide +kernel
theorem G637 : Cond.methodLink "java/lang/StringLatin1" 92 ⟨"java/lang/Math", "max", "(II)I"⟩ ∈ GW := gw_i 637 (by decide +kernel) rfl
theorem G638 : Cond.static ⟨"java/lang/Math", "max", "(II)I"⟩ ∈ GW := gw_i 638 (by decide +kernel) rfl
theorem G136 : Cond.initialized "java/lang/Math" ∈ GW := gw_i 136 (by decide +kernel) rfl
theorem G639 : Cond.code ⟨"java/lang/Math", "max", "(II)I"⟩ prog_22_method_65_code 2 (some .int) ∈ GW := gw_i 639 (by decide +kernel) rfl
theorem dJ1_indexOf_4cfef_14 : decode cJ1_indexOf_4cfef 14 = .ok (.istore_n 2, 1) := by decide +kernel
theorem dJ1_indexOf_4cfef_15 : decode cJ1_indexOf_4cfef 15 = .ok (.iload_n 3, 1) := by decide +kernel
theorem dJ1_indexOf_4cfef_16 : decode cJ1_indexOf_4cfef 16 = .ok (.aload_n 0, 1) := by decide +kernel
theorem dJ1_indexOf_4cfef_17 : decode cJ1_indexOf_4cfef 17 = .ok (.arraylength, 1) := by decide +kernel
theorem dJ1_indexOf_4cfef_18 : decode cJ1_indexOf_4cfef 18 = .ok (.invokestatic 38, 3) := by decide +kernel
theorem G640 : Cond.methodLink "java/lang/StringLatin1" 38 ⟨"java/lang/Math", "min", "(II)I"⟩ ∈ GW := gw_i 640 (by decide +kernel) rfl
theorem G641 : Cond.static ⟨"java/lang/Math", "min", "(II)I"⟩ ∈ GW := gw_i 641 (by decide +kernel) rfl
theorem G642 : Cond.code ⟨"java/lang/Math", "min", "(II)I"⟩ prog_22_method_69_code 2 (some .int) ∈ GW := gw_i 642 (by decide +kernel) rfl
theorem dJ1_indexOf_4cfef_21 : decode cJ1_indexOf_4cfef 21 = .ok (.istore_n 3, 1) := by decide +kernel
theorem dJ1_indexOf_4cfef_22 : decode cJ1_indexOf_4cfef 22 = .ok (.iload_n 2, 1) := by decide +kernel
theorem dJ1_indexOf_4cfef_23 : decode cJ1_indexOf_4cfef 23 = .ok (.iload_n 3, 1) := by decide +kernel
theorem dJ1_indexOf_4cfef_24 : decode cJ1_indexOf_4cfef 24 = .ok (.if_icmp .lt 5, 3) := by decide +kernel
theorem dJ1_indexOf_4cfef_29 : decode cJ1_indexOf_4cfef 29 = .ok (.aload_n 0, 1) := by decide +kernel
theorem dJ1_indexOf_4cfef_30 : decode cJ1_indexOf_4cfef 30 = .ok (.iload_n 1, 1) := by decide +kernel
theorem dJ1_indexOf_4cfef_31 : decode cJ1_indexOf_4cfef 31 = .ok (.iload_n 2, 1) := by decide +kernel
theorem dJ1_indexOf_4cfef_32 : decode cJ1_indexOf_4cfef 32 = .ok (.iload_n 3, 1) := by decide +kernel
theorem dJ1_indexOf_4cfef_33 : decode cJ1_indexOf_4cfef 33 = .ok (.invokestatic 95, 3) := by decide +kernel
theorem G645 : Cond.code ⟨"java/lang/StringLatin1", "indexOfChar", "([BIII)I"⟩ prog_25_method_23_code 6 (some .int) ∈ GW := gw_i 645 (by decide +kernel) rfl
theorem G643 : Cond.methodLink "java/lang/StringLatin1" 95 ⟨"java/lang/StringLatin1", "indexOfChar", "([BIII)I"⟩ ∈ GW := gw_i 643 (by decide +kernel) rfl
theorem V_java_lang_StringLatin1_95 : VL "java/lang/StringLatin1" 95 yJ1_indexOfChar_4cfef cJ1_indexOfChar_4cfef 6 (some .int) 4 := ⟨G645, G643, G135, by decide +kernel, by decide +kernel, by decide +kernel⟩
theorem G644 : Cond.static ⟨"java/lang/StringLatin1", "indexOfChar", "([BIII)I"⟩ ∈ GW := gw_i 644 (by decide +kernel) rfl
theorem dJ1_indexOf_4cfef_36 : decode cJ1_indexOf_4cfef 36 = .ok (.ireturn, 1) := by decide +kernel
theorem dJ0_indexOf_7cf53_0 : decode cJ0_indexOf_7cf53 0 = .ok (.aload_n 0, 1) := by decide +kernel
theorem dJ0_indexOf_7cf53_1 : decode cJ0_indexOf_7cf53 1 = .ok (.invokevirtual 492, 3) := by decide +kernel
theorem G620 : Cond.code ⟨"java/lang/String", "isLatin1", "()Z"⟩ prog_24_method_154_code 1 (some .boolean) ∈ GW := gw_i 620 (by decide +kernel) rfl
theorem G617 : Cond.methodLink "java/lang/String" 492 ⟨"java/lang/String", "isLatin1", "()Z"⟩ ∈ GW := gw_i 617 (by decide +kernel) rfl
theorem V_java_lang_String_492 : VL "java/lang/String" 492 yJ0_isLatin1_aae02 cJ0_isLatin1_aae02 1 (some .boolean) 0 := ⟨G620, G617, G134, by decide +kernel, by decide +kernel, by decide +kernel⟩
theorem G618 : Cond.instanceMethod ⟨"java/lang/String", "isLatin1", "()Z"⟩ ∈ GW := gw_i 618 (by decide +kernel) rfl
theorem G619 : Cond.selects "java/lang/String" ⟨"java/lang/String", "isLatin1", "()Z"⟩ ⟨"java/lang/String", "isLatin1", "()Z"⟩ ∈ GW := gw_i 619 (by decide +kernel) rfl
theorem dJ0_indexOf_7cf53_4 : decode cJ0_indexOf_7cf53 4 = .ok (.ifCond .eq 19, 3) := by decide +kernel
theorem dJ0_indexOf_7cf53_7 : decode cJ0_indexOf_7cf53 7 = .ok (.aload_n 0, 1) := by decide +kernel
theorem dJ0_indexOf_7cf53_8 : decode cJ0_indexOf_7cf53 8 = .ok (.getfield 9, 3) := by decide +kernel
theorem dJ0_indexOf_7cf53_11 : decode cJ0_indexOf_7cf53 11 = .ok (.iload_n 1, 1) := by decide +kernel
theorem dJ0_indexOf_7cf53_12 : decode cJ0_indexOf_7cf53 12 = .ok (.iload_n 2, 1) := by decide +kernel
theorem dJ0_indexOf_7cf53_13 : decode cJ0_indexOf_7cf53 13 = .ok (.aload_n 0, 1) := by decide +kernel
theorem dJ0_indexOf_7cf53_14 : decode cJ0_indexOf_7cf53 14 = .ok (.invokevirtual 505, 3) := by decide +kernel
theorem G626 : Cond.code ⟨"java/lang/String", "length", "()I"⟩ prog_24_method_54_code 1 (some .int) ∈ GW := gw_i 626 (by decide +kernel) rfl
theorem G623 : Cond.methodLink "java/lang/String" 505 ⟨"java/lang/String", "length", "()I"⟩ ∈ GW := gw_i 623 (by decide +kernel) rfl
theorem V_java_lang_String_505 : VL "java/lang/String" 505 yJ0_length_8abf5 cJ0_length_8abf5 1 (some .int) 0 := ⟨G626, G623, G134, by decide +kernel, by decide +kernel, by decide +kernel⟩
theorem G624 : Cond.instanceMethod ⟨"java/lang/String", "length", "()I"⟩ ∈ GW := gw_i 624 (by decide +kernel) rfl
theorem G625 : Cond.selects "java/lang/String" ⟨"java/lang/String", "length", "()I"⟩ ⟨"java/lang/String", "length", "()I"⟩ ∈ GW := gw_i 625 (by decide +kernel) rfl
theorem dJ0_indexOf_7cf53_17 : decode cJ0_indexOf_7cf53 17 = .ok (.invokestatic 637, 3) := by decide +kernel
theorem G633 : Cond.code ⟨"java/lang/StringLatin1", "indexOf", "([BIII)I"⟩ prog_25_method_22_code 4 (some .int) ∈ GW := gw_i 633 (by decide +kernel) rfl
theorem G631 : Cond.methodLink "java/lang/String" 637 ⟨"java/lang/StringLatin1", "indexOf", "([BIII)I"⟩ ∈ GW := gw_i 631 (by decide +kernel) rfl
theorem V_java_lang_String_637 : VL "java/lang/String" 637 yJ1_indexOf_4cfef cJ1_indexOf_4cfef 4 (some .int) 4 := ⟨G633, G631, G135, by decide +kernel, by decide +kernel, by decide +kernel⟩
theorem G632 : Cond.static ⟨"java/lang/StringLatin1", "indexOf", "([BIII)I"⟩ ∈ GW := gw_i 632 (by decide +kernel) rfl
theorem dJ0_indexOf_7cf53_20 : decode cJ0_indexOf_7cf53 20 = .ok (.goto 16, 3) := by decide +kernel
theorem dJ0_indexOf_7cf53_36 : decode cJ0_indexOf_7cf53 36 = .ok (.ireturn, 1) := by decide +kernel
theorem dJ0_indexOf_0f7a4_0 : decode cJ0_indexOf_0f7a4 0 = .ok (.aload_n 0, 1) := by decide +kernel
theorem dJ0_indexOf_0f7a4_1 : decode cJ0_indexOf_0f7a4 1 = .ok (.iload_n 1, 1) := by decide +kernel
theorem dJ0_indexOf_0f7a4_2 : decode cJ0_indexOf_0f7a4 2 = .ok (.iconst 0, 1) := by decide +kernel
theorem dJ0_indexOf_0f7a4_3 : decode cJ0_indexOf_0f7a4 3 = .ok (.invokevirtual 633, 3) := by decide +kernel
theorem G616 : Cond.code ⟨"java/lang/String", "indexOf", "(II)I"⟩ prog_24_method_80_code 3 (some .int) ∈ GW := gw_i 616 (by decide +kernel) rfl
theorem G613 : Cond.methodLink "java/lang/String" 633 ⟨"java/lang/String", "indexOf", "(II)I"⟩ ∈ GW := gw_i 613 (by decide +kernel) rfl
theorem V_java_lang_String_633 : VL "java/lang/String" 633 yJ0_indexOf_7cf53 cJ0_indexOf_7cf53 3 (some .int) 2 := ⟨G616, G613, G134, by decide +kernel, by decide +kernel, by decide +kernel⟩
theorem G614 : Cond.instanceMethod ⟨"java/lang/String", "indexOf", "(II)I"⟩ ∈ GW := gw_i 614 (by decide +kernel) rfl
theorem G615 : Cond.selects "java/lang/String" ⟨"java/lang/String", "indexOf", "(II)I"⟩ ⟨"java/lang/String", "indexOf", "(II)I"⟩ ∈ GW := gw_i 615 (by decide +kernel) rfl
theorem dJ0_indexOf_0f7a4_6 : decode cJ0_indexOf_0f7a4 6 = .ok (.ireturn, 1) := by decide +kernel
theorem dX10_spelt_0 : decode cX10_spelt 0 = .ok (.iconst 0, 1) := by decide +kernel
theorem dX10_spelt_1 : decode cX10_spelt 1 = .ok (.istore_n 2, 1) := by decide +kernel
theorem dX10_spelt_2 : decode cX10_spelt 2 = .ok (.iload_n 2, 1) := by decide +kernel
theorem dX10_spelt_3 : decode cX10_spelt 3 = .ok (.getstatic 137, 3) := by decide +kernel
theorem G606 : Cond.fieldLink "HookedCity$Word" 137 "HookedCity$Word" "ALL" "[LHookedCity$Word;" ∈ GW := gw_i 606 (by decide +kernel) rfl
theorem dX10_spelt_6 : decode cX10_spelt 6 = .ok (.arraylength, 1) := by decide +kernel
theorem dX10_spelt_7 : decode cX10_spelt 7 = .ok (.if_icmp .ge 28, 3) := by decide +kernel
theorem dX10_spelt_35 : decode cX10_spelt 35 = .ok (.aconst_null, 1) := by decide +kernel
theorem dX10_spelt_36 : decode cX10_spelt 36 = .ok (.areturn, 1) := by decide +kernel
theorem dX10_spelt_10 : decode cX10_spelt 10 = .ok (.getstatic 137, 3) := by decide +kernel
theorem dX10_spelt_13 : decode cX10_spelt 13 = .ok (.iload_n 2, 1) := by decide +kernel
theorem dX10_spelt_14 : decode cX10_spelt 14 = .ok (.aaload, 1) := by decide +kernel
theorem dX10_spelt_15 : decode cX10_spelt 15 = .ok (.getfield 113, 3) := by decide +kernel
theorem G2084 : Cond.fieldLink "HookedCity$Word" 113 "HookedCity$Word" "letters" "J" ∈ GW := gw_i 2084 (by decide +kernel) rfl
theorem dX10_spelt_18 : decode cX10_spelt 18 = .ok (.lload_n 0, 1) := by decide +kernel
theorem dX10_spelt_19 : decode cX10_spelt 19 = .ok (.lcmp, 1) := by decide +kernel
theorem dX10_spelt_20 : decode cX10_spelt 20 = .ok (.ifCond .ne 9, 3) := by decide +kernel
theorem dX10_spelt_29 : decode cX10_spelt 29 = .ok (.iinc 2 1, 3) := by decide +kernel
theorem dX10_spelt_32 : decode cX10_spelt 32 = .ok (.goto (-30), 3) := by decide +kernel
theorem dX10_spelt_23 : decode cX10_spelt 23 = .ok (.getstatic 137, 3) := by decide +kernel
theorem dX10_spelt_26 : decode cX10_spelt 26 = .ok (.iload_n 2, 1) := by decide +kernel
theorem dX10_spelt_27 : decode cX10_spelt 27 = .ok (.aaload, 1) := by decide +kernel
theorem dX10_spelt_28 : decode cX10_spelt 28 = .ok (.areturn, 1) := by decide +kernel
theorem dX8_longer_0 : decode cX8_longer 0 = .ok (.lload_n 0, 1) := by decide +kernel
theorem dX8_longer_1 : decode cX8_longer 1 = .ok (.iconst 5, 1) := by decide +kernel
theorem dX8_longer_2 : decode cX8_longer 2 = .ok (.lshl, 1) := by decide +kernel
theorem dX8_longer_3 : decode cX8_longer 3 = .ok (.iload_n 2, 1) := by decide +kernel
theorem dX8_longer_4 : decode cX8_longer 4 = .ok (.bipush 97, 2) := by decide +kernel
theorem dX8_longer_6 : decode cX8_longer 6 = .ok (.isub, 1) := by decide +kernel
theorem dX8_longer_7 : decode cX8_longer 7 = .ok (.iconst 1, 1) := by decide +kernel
theorem dX8_longer_8 : decode cX8_longer 8 = .ok (.iadd, 1) := by decide +kernel
theorem dX8_longer_9 : decode cX8_longer 9 = .ok (.i2l, 1) := by decide +kernel
theorem dX8_longer_10 : decode cX8_longer 10 = .ok (.lor, 1) := by decide +kernel
theorem dX8_longer_11 : decode cX8_longer 11 = .ok (.lreturn, 1) := by decide +kernel
theorem dX8_readRun_0 : decode cX8_readRun 0 = .ok (.iconst 0, 1) := by decide +kernel
theorem dX8_readRun_1 : decode cX8_readRun 1 = .ok (.istore_n 1, 1) := by decide +kernel
theorem dX8_readRun_2 : decode cX8_readRun 2 = .ok (.iconst 0, 1) := by decide +kernel
theorem dX8_readRun_3 : decode cX8_readRun 3 = .ok (.istore_n 2, 1) := by decide +kernel
theorem dX8_readRun_4 : decode cX8_readRun 4 = .ok (.aload_n 0, 1) := by decide +kernel
theorem dX8_readRun_5 : decode cX8_readRun 5 = .ok (.lconst 0, 1) := by decide +kernel
theorem dX8_readRun_6 : decode cX8_readRun 6 = .ok (.putfield 35, 3) := by decide +kernel
theorem G174 : Cond.fieldLink "HookedCity$Tape" 35 "HookedCity$Tape" "name" "J" ∈ GW := gw_i 174 (by decide +kernel) rfl
theorem dX8_readRun_9 : decode cX8_readRun 9 = .ok (.aload_n 0, 1) := by decide +kernel
theorem dX8_readRun_10 : decode cX8_readRun 10 = .ok (.iconst 0, 1) := by decide +kernel
theorem dX8_readRun_11 : decode cX8_readRun 11 = .ok (.putfield 39, 3) := by decide +kernel
theorem G176 : Cond.fieldLink "HookedCity$Tape" 39 "HookedCity$Tape" "number" "I" ∈ GW := gw_i 176 (by decide +kernel) rfl
theorem dX8_readRun_14 : decode cX8_readRun 14 = .ok (.aload_n 0, 1) := by decide +kernel
theorem dX8_readRun_15 : decode cX8_readRun 15 = .ok (.getfield 22, 3) := by decide +kernel
theorem G166 : Cond.fieldLink "HookedCity$Tape" 22 "HookedCity$Tape" "next" "I" ∈ GW := gw_i 166 (by decide +kernel) rfl
theorem dX8_readRun_18 : decode cX8_readRun 18 = .ok (.aload_n 0, 1) := by decide +kernel
theorem dX8_readRun_19 : decode cX8_readRun 19 = .ok (.getfield 15, 3) := by decide +kernel
theorem dX8_readRun_22 : decode cX8_readRun 22 = .ok (.if_icmp .ge 77, 3) := by decide +kernel
theorem dX8_readRun_99 : decode cX8_readRun 99 = .ok (.aload_n 0, 1) := by decide +kernel
theorem dX8_readRun_100 : decode cX8_readRun 100 = .ok (.iconst 1, 1) := by decide +kernel
theorem dX8_readRun_101 : decode cX8_readRun 101 = .ok (.putfield 28, 3) := by decide +kernel
theorem G168 : Cond.fieldLink "HookedCity$Tape" 28 "HookedCity$Tape" "token" "I" ∈ GW := gw_i 168 (by decide +kernel) rfl
theorem dX8_readRun_104 : decode cX8_readRun 104 = .ok (.iload_n 2, 1) := by decide +kernel
theorem dX8_readRun_105 : decode cX8_readRun 105 = .ok (.ifCond .ne 39, 3) := by decide +kernel
theorem dX8_readRun_144 : decode cX8_readRun 144 = .ok (.iload_n 1, 1) := by decide +kernel
theorem dX8_readRun_145 : decode cX8_readRun 145 = .ok (.ifCond .ne 13, 3) := by decide +kernel
theorem dX8_readRun_158 : decode cX8_readRun 158 = .ok (.return_, 1) := by decide +kernel
theorem dX8_readRun_148 : decode cX8_readRun 148 = .ok (.iload_n 2, 1) := by decide +kernel
theorem dX8_readRun_149 : decode cX8_readRun 149 = .ok (.iconst 3, 1) := by decide +kernel
theorem dX8_readRun_150 : decode cX8_readRun 150 = .ok (.if_icmp .gt 8, 3) := by decide +kernel
theorem dX8_readRun_153 : decode cX8_readRun 153 = .ok (.aload_n 0, 1) := by decide +kernel
theorem dX8_readRun_154 : decode cX8_readRun 154 = .ok (.iconst 4, 1) := by decide +kernel
theorem dX8_readRun_155 : decode cX8_readRun 155 = .ok (.putfield 28, 3) := by decide +kernel
theorem dX8_readRun_108 : decode cX8_readRun 108 = .ok (.iload_n 1, 1) := by decide +kernel
theorem dX8_readRun_109 : decode cX8_readRun 109 = .ok (.bipush 7, 2) := by decide +kernel
theorem dX8_readRun_111 : decode cX8_readRun 111 = .ok (.if_icmp .gt 33, 3) := by decide +kernel
theorem dX8_readRun_114 : decode cX8_readRun 114 = .ok (.aload_n 0, 1) := by decide +kernel
theorem dX8_readRun_115 : decode cX8_readRun 115 = .ok (.aload_n 0, 1) := by decide +kernel
theorem dX8_readRun_116 : decode cX8_readRun 116 = .ok (.getfield 35, 3) := by decide +kernel
theorem dX8_readRun_119 : decode cX8_readRun 119 = .ok (.invokestatic 80, 3) := by decide +kernel
theorem G605 : Cond.code ⟨"HookedCity$Word", "spelt", "(J)LHookedCity$Word;"⟩ prog_12_method_6_code 3 (some (.object "HookedCity$Word")) ∈ GW := gw_i 605 (by decide +kernel) rfl
theorem G603 : Cond.methodLink "HookedCity$Tape" 80 ⟨"HookedCity$Word", "spelt", "(J)LHookedCity$Word;"⟩ ∈ GW := gw_i 603 (by decide +kernel) rfl
theorem G133 : Cond.initialized "HookedCity$Word" ∈ GW := gw_i 133 (by decide +kernel) rfl
theorem V_HookedCity_Tape_80 : VL "HookedCity$Tape" 80 yX10_spelt cX10_spelt 3 (some (.object "HookedCity$Word")) 1 := ⟨G605, G603, G133, by decide +kernel, by decide +kernel, by decide +kernel⟩
theorem G604 : Cond.static ⟨"HookedCity$Word", "spelt", "(J)LHookedCity$Word;"⟩ ∈ GW := gw_i 604 (by decide +kernel) rfl
theorem dX8_readRun_122 : decode cX8_readRun 122 = .ok (.putfield 31, 3) := by decide +kernel
theorem G170 : Cond.fieldLink "HookedCity$Tape" 31 "HookedCity$Tape" "word" "LHookedCity$Word;" ∈ GW := gw_i 170 (by decide +kernel) rfl
theorem dX8_readRun_125 : decode cX8_readRun 125 = .ok (.aload_n 0, 1) := by decide +kernel
theorem dX8_readRun_126 : decode cX8_readRun 126 = .ok (.aload_n 0, 1) := by decide +kernel
theorem dX8_readRun_127 : decode cX8_readRun 127 = .ok (.getfield 31, 3) := by decide +kernel
theorem dX8_readRun_130 : decode cX8_readRun 130 = .ok (.ifnonnull 7, 3) := by decide +kernel
theorem dX8_readRun_133 : decode cX8_readRun 133 = .ok (.iconst 3, 1) := by decide +kernel
theorem dX8_readRun_134 : decode cX8_readRun 134 = .ok (.goto 4, 3) := by decide +kernel
theorem dX8_readRun_138 : decode cX8_readRun 138 = .ok (.putfield 28, 3) := by decide +kernel
theorem dX8_readRun_141 : decode cX8_readRun 141 = .ok (.goto 17, 3) := by decide +kernel
theorem dX8_readRun_137 : decode cX8_readRun 137 = .ok (.iconst 2, 1) := by decide +kernel
theorem dX8_readRun_25 : decode cX8_readRun 25 = .ok (.aload_n 0, 1) := by decide +kernel
theorem dX8_readRun_26 : decode cX8_readRun 26 = .ok (.getfield 11, 3) := by decide +kernel
theorem dX8_readRun_29 : decode cX8_readRun 29 = .ok (.aload_n 0, 1) := by decide +kernel
theorem dX8_readRun_30 : decode cX8_readRun 30 = .ok (.getfield 22, 3) := by decide +kernel
theorem dX8_readRun_33 : decode cX8_readRun 33 = .ok (.iaload, 1) := by decide +kernel
theorem dX8_readRun_34 : decode cX8_readRun 34 = .ok (.istore_n 3, 1) := by decide +kernel
theorem dX8_readRun_35 : decode cX8_readRun 35 = .ok (.iload_n 3, 1) := by decide +kernel
theorem dX8_readRun_36 : decode cX8_readRun 36 = .ok (.invokestatic 58, 3) := by decide +kernel
theorem G592 : Cond.code ⟨"HookedCity$Tape", "isLetter", "(I)Z"⟩ prog_10_method_11_code 1 (some .boolean) ∈ GW := gw_i 592 (by decide +kernel) rfl
theorem G590 : Cond.methodLink "HookedCity$Tape" 58 ⟨"HookedCity$Tape", "isLetter", "(I)Z"⟩ ∈ GW := gw_i 590 (by decide +kernel) rfl
theorem V_HookedCity_Tape_58 : VL "HookedCity$Tape" 58 yX8_isLetter cX8_isLetter 1 (some .boolean) 1 := ⟨G592, G590, G120, by decide +kernel, by decide +kernel, by decide +kernel⟩
theorem G591 : Cond.static ⟨"HookedCity$Tape", "isLetter", "(I)Z"⟩ ∈ GW := gw_i 591 (by decide +kernel) rfl
theorem dX8_readRun_39 : decode cX8_readRun 39 = .ok (.ifCond .eq 21, 3) := by decide +kernel
theorem dX8_readRun_60 : decode cX8_readRun 60 = .ok (.iload_n 3, 1) := by decide +kernel
theorem dX8_readRun_61 : decode cX8_readRun 61 = .ok (.invokestatic 62, 3) := by decide +kernel
theorem G595 : Cond.code ⟨"HookedCity$Tape", "isDigit", "(I)Z"⟩ prog_10_method_12_code 1 (some .boolean) ∈ GW := gw_i 595 (by decide +kernel) rfl
theorem G593 : Cond.methodLink "HookedCity$Tape" 62 ⟨"HookedCity$Tape", "isDigit", "(I)Z"⟩ ∈ GW := gw_i 593 (by decide +kernel) rfl
theorem V_HookedCity_Tape_62 : VL "HookedCity$Tape" 62 yX8_isDigit cX8_isDigit 1 (some .boolean) 1 := ⟨G595, G593, G120, by decide +kernel, by decide +kernel, by decide +kernel⟩
theorem G594 : Cond.static ⟨"HookedCity$Tape", "isDigit", "(I)Z"⟩ ∈ GW := gw_i 594 (by decide +kernel) rfl
theorem dX8_readRun_64 : decode cX8_readRun 64 = .ok (.ifCond .eq 35, 3) := by decide +kernel
theorem dX8_readRun_67 : decode cX8_readRun 67 = .ok (.iinc 2 1, 3) := by decide +kernel
theorem dX8_readRun_70 : decode cX8_readRun 70 = .ok (.aload_n 0, 1) := by decide +kernel
theorem dX8_readRun_71 : decode cX8_readRun 71 = .ok (.aload_n 0, 1) := by decide +kernel
theorem dX8_readRun_72 : decode cX8_readRun 72 = .ok (.getfield 39, 3) := by decide +kernel
theorem dX8_readRun_75 : decode cX8_readRun 75 = .ok (.bipush 10, 2) := by decide +kernel
theorem dX8_readRun_77 : decode cX8_readRun 77 = .ok (.imul, 1) := by decide +kernel
theorem dX8_readRun_78 : decode cX8_readRun 78 = .ok (.iload_n 3, 1) := by decide +kernel
theorem dX8_readRun_79 : decode cX8_readRun 79 = .ok (.iadd, 1) := by decide +kernel
theorem dX8_readRun_80 : decode cX8_readRun 80 = .ok (.bipush 48, 2) := by decide +kernel
theorem dX8_readRun_82 : decode cX8_readRun 82 = .ok (.isub, 1) := by decide +kernel
theorem dX8_readRun_83 : decode cX8_readRun 83 = .ok (.putfield 39, 3) := by decide +kernel
theorem dX8_readRun_86 : decode cX8_readRun 86 = .ok (.aload_n 0, 1) := by decide +kernel
theorem dX8_readRun_87 : decode cX8_readRun 87 = .ok (.dup, 1) := by decide +kernel
theorem dX8_readRun_88 : decode cX8_readRun 88 = .ok (.getfield 22, 3) := by decide +kernel
theorem dX8_readRun_91 : decode cX8_readRun 91 = .ok (.iconst 1, 1) := by decide +kernel
theorem dX8_readRun_92 : decode cX8_readRun 92 = .ok (.iadd, 1) := by decide +kernel
theorem dX8_readRun_93 : decode cX8_readRun 93 = .ok (.putfield 22, 3) := by decide +kernel
theorem dX8_readRun_96 : decode cX8_readRun 96 = .ok (.goto (-82), 3) := by decide +kernel
theorem dX8_readRun_42 : decode cX8_readRun 42 = .ok (.iinc 1 1, 3) := by decide +kernel
theorem dX8_readRun_45 : decode cX8_readRun 45 = .ok (.aload_n 0, 1) := by decide +kernel
theorem dX8_readRun_46 : decode cX8_readRun 46 = .ok (.aload_n 0, 1) := by decide +kernel
theorem dX8_readRun_47 : decode cX8_readRun 47 = .ok (.getfield 35, 3) := by decide +kernel
theorem dX8_readRun_50 : decode cX8_readRun 50 = .ok (.iload_n 3, 1) := by decide +kernel
theorem dX8_readRun_51 : decode cX8_readRun 51 = .ok (.invokestatic 76, 3) := by decide +kernel
theorem G602 : Cond.code ⟨"HookedCity$Tape", "longer", "(JI)J"⟩ prog_10_method_9_code 3 (some .long) ∈ GW := gw_i 602 (by decide +kernel) rfl
theorem G600 : Cond.methodLink "HookedCity$Tape" 76 ⟨"HookedCity$Tape", "longer", "(JI)J"⟩ ∈ GW := gw_i 600 (by decide +kernel) rfl
theorem V_HookedCity_Tape_76 : VL "HookedCity$Tape" 76 yX8_longer cX8_longer 3 (some .long) 2 := ⟨G602, G600, G120, by decide +kernel, by decide +kernel, by decide +kernel⟩
theorem G601 : Cond.static ⟨"HookedCity$Tape", "longer", "(JI)J"⟩ ∈ GW := gw_i 601 (by decide +kernel) rfl
theorem dX8_readRun_54 : decode cX8_readRun 54 = .ok (.putfield 35, 3) := by decide +kernel
theorem dX8_readRun_57 : decode cX8_readRun 57 = .ok (.goto 29, 3) := by decide +kernel
theorem dX8_step_0 : decode cX8_step 0 = .ok (.aload_n 0, 1) := by decide +kernel
theorem dX8_step_1 : decode cX8_step 1 = .ok (.getfield 22, 3) := by decide +kernel
theorem dX8_step_4 : decode cX8_step 4 = .ok (.aload_n 0, 1) := by decide +kernel
theorem dX8_step_5 : decode cX8_step 5 = .ok (.getfield 15, 3) := by decide +kernel
theorem dX8_step_8 : decode cX8_step 8 = .ok (.if_icmp .ge 44, 3) := by decide +kernel
theorem dX8_step_52 : decode cX8_step 52 = .ok (.aload_n 0, 1) := by decide +kernel
theorem dX8_step_53 : decode cX8_step 53 = .ok (.aload_n 0, 1) := by decide +kernel
theorem dX8_step_54 : decode cX8_step 54 = .ok (.getfield 22, 3) := by decide +kernel
theorem dX8_step_57 : decode cX8_step 57 = .ok (.putfield 25, 3) := by decide +kernel
theorem G167 : Cond.fieldLink "HookedCity$Tape" 25 "HookedCity$Tape" "place" "I" ∈ GW := gw_i 167 (by decide +kernel) rfl
theorem dX8_step_60 : decode cX8_step 60 = .ok (.aload_n 0, 1) := by decide +kernel
theorem dX8_step_61 : decode cX8_step 61 = .ok (.aconst_null, 1) := by decide +kernel
theorem dX8_step_62 : decode cX8_step 62 = .ok (.putfield 31, 3) := by decide +kernel
theorem dX8_step_65 : decode cX8_step 65 = .ok (.aload_n 0, 1) := by decide +kernel
theorem dX8_step_66 : decode cX8_step 66 = .ok (.getfield 15, 3) := by decide +kernel
theorem dX8_step_69 : decode cX8_step 69 = .ok (.aload_n 0, 1) := by decide +kernel
theorem dX8_step_70 : decode cX8_step 70 = .ok (.getfield 19, 3) := by decide +kernel
theorem G165 : Cond.fieldLink "HookedCity$Tape" 19 "HookedCity$Tape" "limit" "I" ∈ GW := gw_i 165 (by decide +kernel) rfl
theorem dX8_step_73 : decode cX8_step 73 = .ok (.if_icmp .le 30, 3) := by decide +kernel
theorem dX8_step_103 : decode cX8_step 103 = .ok (.aload_n 0, 1) := by decide +kernel
theorem dX8_step_104 : decode cX8_step 104 = .ok (.getfield 22, 3) := by decide +kernel
theorem dX8_step_107 : decode cX8_step 107 = .ok (.aload_n 0, 1) := by decide +kernel
theorem dX8_step_108 : decode cX8_step 108 = .ok (.getfield 15, 3) := by decide +kernel
theorem dX8_step_111 : decode cX8_step 111 = .ok (.if_icmp .lt 11, 3) := by decide +kernel
theorem dX8_step_114 : decode cX8_step 114 = .ok (.aload_n 0, 1) := by decide +kernel
theorem dX8_step_115 : decode cX8_step 115 = .ok (.iconst 0, 1) := by decide +kernel
theorem dX8_step_116 : decode cX8_step 116 = .ok (.putfield 28, 3) := by decide +kernel
theorem dX8_step_119 : decode cX8_step 119 = .ok (.goto 85, 3) := by decide +kernel
theorem dX8_step_204 : decode cX8_step 204 = .ok (.return_, 1) := by decide +kernel
theorem dX8_step_76 : decode cX8_step 76 = .ok (.aload_n 0, 1) := by decide +kernel
theorem dX8_step_77 : decode cX8_step 77 = .ok (.getfield 22, 3) := by decide +kernel
theorem dX8_step_80 : decode cX8_step 80 = .ok (.aload_n 0, 1) := by decide +kernel
theorem dX8_step_81 : decode cX8_step 81 = .ok (.getfield 19, 3) := by decide +kernel
theorem dX8_step_84 : decode cX8_step 84 = .ok (.if_icmp .lt 19, 3) := by decide +kernel
theorem dX8_step_87 : decode cX8_step 87 = .ok (.aload_n 0, 1) := by decide +kernel
theorem dX8_step_88 : decode cX8_step 88 = .ok (.aload_n 0, 1) := by decide +kernel
theorem dX8_step_89 : decode cX8_step 89 = .ok (.getfield 19, 3) := by decide +kernel
theorem dX8_step_92 : decode cX8_step 92 = .ok (.putfield 25, 3) := by decide +kernel
theorem dX8_step_95 : decode cX8_step 95 = .ok (.aload_n 0, 1) := by decide +kernel
theorem dX8_step_96 : decode cX8_step 96 = .ok (.iconst 1, 1) := by decide +kernel
theorem dX8_step_97 : decode cX8_step 97 = .ok (.putfield 28, 3) := by decide +kernel
theorem dX8_step_100 : decode cX8_step 100 = .ok (.goto 104, 3) := by decide +kernel
theorem dX8_step_11 : decode cX8_step 11 = .ok (.aload_n 0, 1) := by decide +kernel
theorem dX8_step_12 : decode cX8_step 12 = .ok (.getfield 11, 3) := by decide +kernel
theorem dX8_step_15 : decode cX8_step 15 = .ok (.aload_n 0, 1) := by decide +kernel
theorem dX8_step_16 : decode cX8_step 16 = .ok (.getfield 22, 3) := by decide +kernel
theorem dX8_step_19 : decode cX8_step 19 = .ok (.iaload, 1) := by decide +kernel
theorem dX8_step_20 : decode cX8_step 20 = .ok (.bipush 32, 2) := by decide +kernel
theorem dX8_step_22 : decode cX8_step 22 = .ok (.if_icmp .eq 17, 3) := by decide +kernel
theorem dX8_step_39 : decode cX8_step 39 = .ok (.aload_n 0, 1) := by decide +kernel
theorem dX8_step_40 : decode cX8_step 40 = .ok (.dup, 1) := by decide +kernel
theorem dX8_step_41 : decode cX8_step 41 = .ok (.getfield 22, 3) := by decide +kernel
theorem dX8_step_44 : decode cX8_step 44 = .ok (.iconst 1, 1) := by decide +kernel
theorem dX8_step_45 : decode cX8_step 45 = .ok (.iadd, 1) := by decide +kernel
theorem dX8_step_46 : decode cX8_step 46 = .ok (.putfield 22, 3) := by decide +kernel
theorem dX8_step_49 : decode cX8_step 49 = .ok (.goto (-49), 3) := by decide +kernel
theorem dX8_step_25 : decode cX8_step 25 = .ok (.aload_n 0, 1) := by decide +kernel
theorem dX8_step_26 : decode cX8_step 26 = .ok (.getfield 11, 3) := by decide +kernel
theorem dX8_step_29 : decode cX8_step 29 = .ok (.aload_n 0, 1) := by decide +kernel
theorem dX8_step_30 : decode cX8_step 30 = .ok (.getfield 22, 3) := by decide +kernel
theorem dX8_step_33 : decode cX8_step 33 = .ok (.iaload, 1) := by decide +kernel
theorem dX8_step_34 : decode cX8_step 34 = .ok (.bipush 10, 2) := by decide +kernel
theorem dX8_step_36 : decode cX8_step 36 = .ok (.if_icmp .ne 16, 3) := by decide +kernel
theorem dX8_step_122 : decode cX8_step 122 = .ok (.aload_n 0, 1) := by decide +kernel
theorem dX8_step_123 : decode cX8_step 123 = .ok (.getfield 11, 3) := by decide +kernel
theorem dX8_step_126 : decode cX8_step 126 = .ok (.aload_n 0, 1) := by decide +kernel
theorem dX8_step_127 : decode cX8_step 127 = .ok (.getfield 22, 3) := by decide +kernel
theorem dX8_step_130 : decode cX8_step 130 = .ok (.iaload, 1) := by decide +kernel
theorem dX8_step_131 : decode cX8_step 131 = .ok (.invokestatic 58, 3) := by decide +kernel
theorem dX8_step_134 : decode cX8_step 134 = .ok (.ifCond .ne 18, 3) := by decide +kernel
theorem dX8_step_137 : decode cX8_step 137 = .ok (.aload_n 0, 1) := by decide +kernel
theorem dX8_step_138 : decode cX8_step 138 = .ok (.getfield 11, 3) := by decide +kernel
theorem dX8_step_141 : decode cX8_step 141 = .ok (.aload_n 0, 1) := by decide +kernel
theorem dX8_step_142 : decode cX8_step 142 = .ok (.getfield 22, 3) := by decide +kernel
theorem dX8_step_145 : decode cX8_step 145 = .ok (.iaload, 1) := by decide +kernel
theorem dX8_step_146 : decode cX8_step 146 = .ok (.invokestatic 62, 3) := by decide +kernel
theorem dX8_step_149 : decode cX8_step 149 = .ok (.ifCond .eq 10, 3) := by decide +kernel
theorem dX8_step_159 : decode cX8_step 159 = .ok (.aload_n 0, 1) := by decide +kernel
theorem dX8_step_160 : decode cX8_step 160 = .ok (.aload_n 0, 1) := by decide +kernel
theorem dX8_step_161 : decode cX8_step 161 = .ok (.getfield 11, 3) := by decide +kernel
theorem dX8_step_164 : decode cX8_step 164 = .ok (.aload_n 0, 1) := by decide +kernel
theorem dX8_step_165 : decode cX8_step 165 = .ok (.getfield 22, 3) := by decide +kernel
theorem dX8_step_168 : decode cX8_step 168 = .ok (.iaload, 1) := by decide +kernel
theorem dX8_step_169 : decode cX8_step 169 = .ok (.putfield 42, 3) := by decide +kernel
theorem G177 : Cond.fieldLink "HookedCity$Tape" 42 "HookedCity$Tape" "mark" "I" ∈ GW := gw_i 177 (by decide +kernel) rfl
theorem dX8_step_172 : decode cX8_step 172 = .ok (.aload_n 0, 1) := by decide +kernel
theorem dX8_step_173 : decode cX8_step 173 = .ok (.ldc 68, 2) := by decide +kernel
theorem dX8_step_175 : decode cX8_step 175 = .ok (.aload_n 0, 1) := by decide +kernel
theorem dX8_step_176 : decode cX8_step 176 = .ok (.getfield 42, 3) := by decide +kernel
theorem dX8_step_179 : decode cX8_step 179 = .ok (.i2c, 1) := by decide +kernel
theorem dX8_step_180 : decode cX8_step 180 = .ok (.invokevirtual 70, 3) := by decide +kernel
theorem G612 : Cond.code ⟨"java/lang/String", "indexOf", "(I)I"⟩ prog_24_method_79_code 2 (some .int) ∈ GW := gw_i 612 (by decide +kernel) rfl
theorem G609 : Cond.methodLink "HookedCity$Tape" 70 ⟨"java/lang/String", "indexOf", "(I)I"⟩ ∈ GW := gw_i 609 (by decide +kernel) rfl
theorem V_HookedCity_Tape_70 : VL "HookedCity$Tape" 70 yJ0_indexOf_0f7a4 cJ0_indexOf_0f7a4 2 (some .int) 1 := ⟨G612, G609, G134, by decide +kernel, by decide +kernel, by decide +kernel⟩
theorem G610 : Cond.instanceMethod ⟨"java/lang/String", "indexOf", "(I)I"⟩ ∈ GW := gw_i 610 (by decide +kernel) rfl
theorem G611 : Cond.selects "java/lang/String" ⟨"java/lang/String", "indexOf", "(I)I"⟩ ⟨"java/lang/String", "indexOf", "(I)I"⟩ ∈ GW := gw_i 611 (by decide +kernel) rfl
theorem dX8_step_183 : decode cX8_step 183 = .ok (.ifCond .lt 7, 3) := by decide +kernel
theorem dX8_step_190 : decode cX8_step 190 = .ok (.iconst 1, 1) := by decide +kernel
theorem dX8_step_191 : decode cX8_step 191 = .ok (.putfield 28, 3) := by decide +kernel
theorem dX8_step_194 : decode cX8_step 194 = .ok (.aload_n 0, 1) := by decide +kernel
theorem dX8_step_195 : decode cX8_step 195 = .ok (.dup, 1) := by decide +kernel
theorem dX8_step_196 : decode cX8_step 196 = .ok (.getfield 22, 3) := by decide +kernel
theorem dX8_step_199 : decode cX8_step 199 = .ok (.iconst 1, 1) := by decide +kernel
theorem dX8_step_200 : decode cX8_step 200 = .ok (.iadd, 1) := by decide +kernel
theorem dX8_step_201 : decode cX8_step 201 = .ok (.putfield 22, 3) := by decide +kernel
theorem dX8_step_186 : decode cX8_step 186 = .ok (.iconst 5, 1) := by decide +kernel
theorem dX8_step_187 : decode cX8_step 187 = .ok (.goto 4, 3) := by decide +kernel
theorem dX8_step_152 : decode cX8_step 152 = .ok (.aload_n 0, 1) := by decide +kernel
theorem dX8_step_153 : decode cX8_step 153 = .ok (.invokevirtual 65, 3) := by decide +kernel
theorem G599 : Cond.code ⟨"HookedCity$Tape", "readRun", "()V"⟩ prog_10_method_8_code 4 none ∈ GW := gw_i 599 (by decide +kernel) rfl
theorem G596 : Cond.methodLink "HookedCity$Tape" 65 ⟨"HookedCity$Tape", "readRun", "()V"⟩ ∈ GW := gw_i 596 (by decide +kernel) rfl
theorem V_HookedCity_Tape_65 : VL "HookedCity$Tape" 65 yX8_readRun cX8_readRun 4 none 0 := ⟨G599, G596, G120, by decide +kernel, by decide +kernel, by decide +kernel⟩
theorem G598 : Cond.instanceMethod ⟨"HookedCity$Tape", "readRun", "()V"⟩ ∈ GW := gw_i 598 (by decide +kernel) rfl
theorem G2 : Cond.selects "HookedCity$Tape" ⟨"HookedCity$Tape", "readRun", "()V"⟩ ⟨"HookedCity$Tape", "readRun", "()V"⟩ ∈ GW := gw_i 2 (by decide +kernel) rfl
theorem dX8_step_156 : decode cX8_step 156 = .ok (.goto 48, 3) := by decide +kernel
theorem dX8_open_0 : decode cX8_open 0 = .ok (.aload_n 0, 1) := by decide +kernel
theorem dX8_open_1 : decode cX8_open 1 = .ok (.iload_n 1, 1) := by decide +kernel
theorem dX8_open_2 : decode cX8_open 2 = .ok (.putfield 19, 3) := by decide +kernel
theorem dX8_open_5 : decode cX8_open 5 = .ok (.aload_n 0, 1) := by decide +kernel
theorem dX8_open_6 : decode cX8_open 6 = .ok (.iconst 0, 1) := by decide +kernel
theorem dX8_open_7 : decode cX8_open 7 = .ok (.putfield 22, 3) := by decide +kernel
theorem dX8_open_10 : decode cX8_open 10 = .ok (.aload_n 0, 1) := by decide +kernel
theorem dX8_open_11 : decode cX8_open 11 = .ok (.iconst 0, 1) := by decide +kernel
theorem dX8_open_12 : decode cX8_open 12 = .ok (.putfield 45, 3) := by decide +kernel
theorem G179 : Cond.fieldLink "HookedCity$Tape" 45 "HookedCity$Tape" "faultKind" "I" ∈ GW := gw_i 179 (by decide +kernel) rfl
theorem dX8_open_15 : decode cX8_open 15 = .ok (.aload_n 0, 1) := by decide +kernel
theorem dX8_open_16 : decode cX8_open 16 = .ok (.iconst 0, 1) := by decide +kernel
theorem dX8_open_17 : decode cX8_open 17 = .ok (.putfield 48, 3) := by decide +kernel
theorem G181 : Cond.fieldLink "HookedCity$Tape" 48 "HookedCity$Tape" "faultPlace" "I" ∈ GW := gw_i 181 (by decide +kernel) rfl
theorem dX8_open_20 : decode cX8_open 20 = .ok (.aload_n 0, 1) := by decide +kernel
theorem dX8_open_21 : decode cX8_open 21 = .ok (.invokevirtual 55, 3) := by decide +kernel
theorem G589 : Cond.code ⟨"HookedCity$Tape", "step", "()V"⟩ prog_10_method_7_code 1 none ∈ GW := gw_i 589 (by decide +kernel) rfl
theorem G586 : Cond.methodLink "HookedCity$Tape" 55 ⟨"HookedCity$Tape", "step", "()V"⟩ ∈ GW := gw_i 586 (by decide +kernel) rfl
theorem V_HookedCity_Tape_55 : VL "HookedCity$Tape" 55 yX8_step cX8_step 1 none 0 := ⟨G589, G586, G120, by decide +kernel, by decide +kernel, by decide +kernel⟩
theorem G587 : Cond.instanceMethod ⟨"HookedCity$Tape", "step", "()V"⟩ ∈ GW := gw_i 587 (by decide +kernel) rfl
theorem G588 : Cond.selects "HookedCity$Tape" ⟨"HookedCity$Tape", "step", "()V"⟩ ⟨"HookedCity$Tape", "step", "()V"⟩ ∈ GW := gw_i 588 (by decide +kernel) rfl
theorem dX8_open_24 : decode cX8_open 24 = .ok (.return_, 1) := by decide +kernel
theorem dX8_letterOf_0 : decode cX8_letterOf 0 = .ok (.lload_n 0, 1) := by decide +kernel
theorem dX8_letterOf_1 : decode cX8_letterOf 1 = .ok (.bipush 6, 2) := by decide +kernel
theorem dX8_letterOf_3 : decode cX8_letterOf 3 = .ok (.iload_n 2, 1) := by decide +kernel
theorem dX8_letterOf_4 : decode cX8_letterOf 4 = .ok (.isub, 1) := by decide +kernel
theorem dX8_letterOf_5 : decode cX8_letterOf 5 = .ok (.iconst 5, 1) := by decide +kernel
theorem dX8_letterOf_6 : decode cX8_letterOf 6 = .ok (.imul, 1) := by decide +kernel
theorem dX8_letterOf_7 : decode cX8_letterOf 7 = .ok (.lushr, 1) := by decide +kernel
theorem dX8_letterOf_8 : decode cX8_letterOf 8 = .ok (.l2i, 1) := by decide +kernel
theorem dX8_letterOf_9 : decode cX8_letterOf 9 = .ok (.bipush 31, 2) := by decide +kernel
theorem dX8_letterOf_11 : decode cX8_letterOf 11 = .ok (.iand, 1) := by decide +kernel
theorem dX8_letterOf_12 : decode cX8_letterOf 12 = .ok (.istore_n 3, 1) := by decide +kernel
theorem dX8_letterOf_13 : decode cX8_letterOf 13 = .ok (.iload_n 3, 1) := by decide +kernel
theorem dX8_letterOf_14 : decode cX8_letterOf 14 = .ok (.ifCond .ne 7, 3) := by decide +kernel
theorem dX8_letterOf_21 : decode cX8_letterOf 21 = .ok (.bipush 97, 2) := by decide +kernel
theorem dX8_letterOf_23 : decode cX8_letterOf 23 = .ok (.iload_n 3, 1) := by decide +kernel
theorem dX8_letterOf_24 : decode cX8_letterOf 24 = .ok (.iadd, 1) := by decide +kernel
theorem dX8_letterOf_25 : decode cX8_letterOf 25 = .ok (.iconst 1, 1) := by decide +kernel
theorem dX8_letterOf_26 : decode cX8_letterOf 26 = .ok (.isub, 1) := by decide +kernel
theorem dX8_letterOf_27 : decode cX8_letterOf 27 = .ok (.ireturn, 1) := by decide +kernel
theorem dX8_letterOf_17 : decode cX8_letterOf 17 = .ok (.iconst 0, 1) := by decide +kernel
theorem dX8_letterOf_18 : decode cX8_letterOf 18 = .ok (.goto 9, 3) := by decide +kernel
theorem dX8_atEnd_0 : decode cX8_atEnd 0 = .ok (.aload_n 0, 1) := by decide +kernel
theorem dX8_atEnd_1 : decode cX8_atEnd 1 = .ok (.getfield 28, 3) := by decide +kernel
theorem dX8_atEnd_4 : decode cX8_atEnd 4 = .ok (.ifCond .ne 7, 3) := by decide +kernel
theorem dX8_atEnd_11 : decode cX8_atEnd 11 = .ok (.iconst 0, 1) := by decide +kernel
theorem dX8_atEnd_12 : decode cX8_atEnd 12 = .ok (.ireturn, 1) := by decide +kernel
theorem dX8_atEnd_7 : decode cX8_atEnd 7 = .ok (.iconst 1, 1) := by decide +kernel
theorem dX8_atEnd_8 : decode cX8_atEnd 8 = .ok (.goto 4, 3) := by decide +kernel
theorem dX8_atMark_0 : decode cX8_atMark 0 = .ok (.aload_n 0, 1) := by decide +kernel
theorem dX8_atMark_1 : decode cX8_atMark 1 = .ok (.getfield 28, 3) := by decide +kernel
theorem dX8_atMark_4 : decode cX8_atMark 4 = .ok (.iconst 5, 1) := by decide +kernel
theorem dX8_atMark_5 : decode cX8_atMark 5 = .ok (.if_icmp .ne 15, 3) := by decide +kernel
theorem dX8_atMark_20 : decode cX8_atMark 20 = .ok (.iconst 0, 1) := by decide +kernel
theorem dX8_atMark_21 : decode cX8_atMark 21 = .ok (.ireturn, 1) := by decide +kernel
theorem dX8_atMark_8 : decode cX8_atMark 8 = .ok (.aload_n 0, 1) := by decide +kernel
theorem dX8_atMark_9 : decode cX8_atMark 9 = .ok (.getfield 42, 3) := by decide +kernel
theorem dX8_atMark_12 : decode cX8_atMark 12 = .ok (.iload_n 1, 1) := by decide +kernel
theorem dX8_atMark_13 : decode cX8_atMark 13 = .ok (.if_icmp .ne 7, 3) := by decide +kernel
theorem dX8_atMark_16 : decode cX8_atMark 16 = .ok (.iconst 1, 1) := by decide +kernel
theorem dX8_atMark_17 : decode cX8_atMark 17 = .ok (.goto 4, 3) := by decide +kernel
theorem dX8_fail_0 : decode cX8_fail 0 = .ok (.aload_n 0, 1) := by decide +kernel
theorem dX8_fail_1 : decode cX8_fail 1 = .ok (.iload_n 1, 1) := by decide +kernel
theorem dX8_fail_2 : decode cX8_fail 2 = .ok (.putfield 45, 3) := by decide +kernel
theorem dX8_fail_5 : decode cX8_fail 5 = .ok (.aload_n 0, 1) := by decide +kernel
theorem dX8_fail_6 : decode cX8_fail 6 = .ok (.aload_n 0, 1) := by decide +kernel
theorem dX8_fail_7 : decode cX8_fail 7 = .ok (.getfield 25, 3) := by decide +kernel
theorem dX8_fail_10 : decode cX8_fail 10 = .ok (.putfield 48, 3) := by decide +kernel
theorem dX8_fail_13 : decode cX8_fail 13 = .ok (.iconst 0, 1) := by decide +kernel
theorem dX8_fail_14 : decode cX8_fail 14 = .ok (.ireturn, 1) := by decide +kernel
theorem dX8_pass_0 : decode cX8_pass 0 = .ok (.aload_n 0, 1) := by decide +kernel
theorem dX8_pass_1 : decode cX8_pass 1 = .ok (.iload_n 1, 1) := by decide +kernel
theorem dX8_pass_2 : decode cX8_pass 2 = .ok (.invokevirtual 86, 3) := by decide +kernel
theorem G785 : Cond.code ⟨"HookedCity$Tape", "atMark", "(C)Z"⟩ prog_10_method_14_code 2 (some .boolean) ∈ GW := gw_i 785 (by decide +kernel) rfl
theorem G782 : Cond.methodLink "HookedCity$Tape" 86 ⟨"HookedCity$Tape", "atMark", "(C)Z"⟩ ∈ GW := gw_i 782 (by decide +kernel) rfl
theorem V_HookedCity_Tape_86 : VL "HookedCity$Tape" 86 yX8_atMark cX8_atMark 2 (some .boolean) 1 := ⟨G785, G782, G120, by decide +kernel, by decide +kernel, by decide +kernel⟩
theorem G783 : Cond.instanceMethod ⟨"HookedCity$Tape", "atMark", "(C)Z"⟩ ∈ GW := gw_i 783 (by decide +kernel) rfl
theorem G784 : Cond.selects "HookedCity$Tape" ⟨"HookedCity$Tape", "atMark", "(C)Z"⟩ ⟨"HookedCity$Tape", "atMark", "(C)Z"⟩ ∈ GW := gw_i 784 (by decide +kernel) rfl
theorem dX8_pass_5 : decode cX8_pass 5 = .ok (.ifCond .ne 9, 3) := by decide +kernel
theorem dX8_pass_14 : decode cX8_pass 14 = .ok (.aload_n 0, 1) := by decide +kernel
theorem dX8_pass_15 : decode cX8_pass 15 = .ok (.invokevirtual 55, 3) := by decide +kernel
theorem dX8_pass_18 : decode cX8_pass 18 = .ok (.iconst 1, 1) := by decide +kernel
theorem dX8_pass_19 : decode cX8_pass 19 = .ok (.ireturn, 1) := by decide +kernel
theorem dX8_pass_8 : decode cX8_pass 8 = .ok (.aload_n 0, 1) := by decide +kernel
theorem dX8_pass_9 : decode cX8_pass 9 = .ok (.iconst 1, 1) := by decide +kernel
theorem dX8_pass_10 : decode cX8_pass 10 = .ok (.invokevirtual 90, 3) := by decide +kernel
theorem G712 : Cond.code ⟨"HookedCity$Tape", "fail", "(I)Z"⟩ prog_10_method_15_code 2 (some .boolean) ∈ GW := gw_i 712 (by decide +kernel) rfl
theorem G729 : Cond.methodLink "HookedCity$Tape" 90 ⟨"HookedCity$Tape", "fail", "(I)Z"⟩ ∈ GW := gw_i 729 (by decide +kernel) rfl
theorem V_HookedCity_Tape_90 : VL "HookedCity$Tape" 90 yX8_fail cX8_fail 2 (some .boolean) 1 := ⟨G712, G729, G120, by decide +kernel, by decide +kernel, by decide +kernel⟩
theorem G710 : Cond.instanceMethod ⟨"HookedCity$Tape", "fail", "(I)Z"⟩ ∈ GW := gw_i 710 (by decide +kernel) rfl
theorem G711 : Cond.selects "HookedCity$Tape" ⟨"HookedCity$Tape", "fail", "(I)Z"⟩ ⟨"HookedCity$Tape", "fail", "(I)Z"⟩ ∈ GW := gw_i 711 (by decide +kernel) rfl
theorem dX8_pass_13 : decode cX8_pass 13 = .ok (.ireturn, 1) := by decide +kernel
theorem dX8_numberAt_0 : decode cX8_numberAt 0 = .ok (.aload_n 0, 1) := by decide +kernel
theorem dX8_numberAt_1 : decode cX8_numberAt 1 = .ok (.getfield 28, 3) := by decide +kernel
theorem dX8_numberAt_4 : decode cX8_numberAt 4 = .ok (.iconst 4, 1) := by decide +kernel
theorem dX8_numberAt_5 : decode cX8_numberAt 5 = .ok (.if_icmp .eq 11, 3) := by decide +kernel
theorem dX8_numberAt_16 : decode cX8_numberAt 16 = .ok (.aload_n 0, 1) := by decide +kernel
theorem dX8_numberAt_17 : decode cX8_numberAt 17 = .ok (.getfield 39, 3) := by decide +kernel
theorem dX8_numberAt_20 : decode cX8_numberAt 20 = .ok (.iload_n 1, 1) := by decide +kernel
theorem dX8_numberAt_21 : decode cX8_numberAt 21 = .ok (.if_icmp .lt 11, 3) := by decide +kernel
theorem dX8_numberAt_32 : decode cX8_numberAt 32 = .ok (.aload_n 0, 1) := by decide +kernel
theorem dX8_numberAt_33 : decode cX8_numberAt 33 = .ok (.iconst 2, 1) := by decide +kernel
theorem dX8_numberAt_34 : decode cX8_numberAt 34 = .ok (.invokevirtual 90, 3) := by decide +kernel
theorem dX8_numberAt_37 : decode cX8_numberAt 37 = .ok (.pop, 1) := by decide +kernel
theorem dX8_numberAt_38 : decode cX8_numberAt 38 = .ok (.iconst (-1), 1) := by decide +kernel
theorem dX8_numberAt_39 : decode cX8_numberAt 39 = .ok (.ireturn, 1) := by decide +kernel
theorem dX8_numberAt_24 : decode cX8_numberAt 24 = .ok (.aload_n 0, 1) := by decide +kernel
theorem dX8_numberAt_25 : decode cX8_numberAt 25 = .ok (.getfield 39, 3) := by decide +kernel
theorem dX8_numberAt_28 : decode cX8_numberAt 28 = .ok (.iload_n 2, 1) := by decide +kernel
theorem dX8_numberAt_29 : decode cX8_numberAt 29 = .ok (.if_icmp .le 11, 3) := by decide +kernel
theorem dX8_numberAt_40 : decode cX8_numberAt 40 = .ok (.aload_n 0, 1) := by decide +kernel
theorem dX8_numberAt_41 : decode cX8_numberAt 41 = .ok (.getfield 39, 3) := by decide +kernel
theorem dX8_numberAt_44 : decode cX8_numberAt 44 = .ok (.ireturn, 1) := by decide +kernel
theorem dX8_numberAt_8 : decode cX8_numberAt 8 = .ok (.aload_n 0, 1) := by decide +kernel
theorem dX8_numberAt_9 : decode cX8_numberAt 9 = .ok (.iconst 1, 1) := by decide +kernel
theorem dX8_numberAt_10 : decode cX8_numberAt 10 = .ok (.invokevirtual 90, 3) := by decide +kernel
theorem dX8_numberAt_13 : decode cX8_numberAt 13 = .ok (.pop, 1) := by decide +kernel
theorem dX8_numberAt_14 : decode cX8_numberAt 14 = .ok (.iconst (-1), 1) := by decide +kernel
theorem dX8_numberAt_15 : decode cX8_numberAt 15 = .ok (.ireturn, 1) := by decide +kernel
set_option maxRecDepth 100000 in
set_option maxHeartbeats 4000000 in
theorem c221_X8_append (l : Launch) (D : va_G) (T : Nat → ClassId) (sz : Nat) (a0 : Nat) (x0 : Int) (a1 : Nat) (x1 : Int) (r0 : Int32) (x2 : Int) (r1 : Int32) (r2 : Int32) (o0 : Option Nat) (y0 : Int64) (r3 : Int32) (r4 : Int32) (r5 : Int32) (r6 : Int32) (f0 : Nat → Int32) (x0_a : (-2147483648) ≤ x0) (x0_b : x0 ≤ 2147483647) (x1_a : 0 ≤ x1) (x1_b : x1 ≤ 936) (x2_a : 0 ≤ x2) (x2_b : x2 ≤ 940) (o0_h : wok T o0) : Met l yX8_append (Cond.code yX8_append cX8_append 3 none :: GW) (Rm 0 0 0) (cPre [.ref a0, .int (iI x0)] D T [(a0, .inr (8, [.ref a1, .int (iI x1), .int r0, .int (iI x2), .int r1, .int r2, (va_rf o0), .long y0, .int r3, .int r4, .int r5, .int r6])), (a1, .inl (T 0, 940, .inl f0))] sz) (qV D [(a0, .inr (8, [.ref a1, .int (iI x1), .int r0, .int (iI x2), .int r1, .int r2, (va_rf o0), .long y0, .int r3, .int r4, .int r5, .int r6])), (a1, .inl (T 0, 940, .inl f0))] sz (fun (u : Int × (Nat → Int32)) => 0 ≤ u.1 ∧ u.1 ≤ 940 ∧ 0 ≤ ((x1 + 4) - u.1) ∧ 0 ≤ ((u.1 - 4) - x1)) (fun u => [(a0, .inr (8, [.ref a1, .int (iI u.1), .int r0, .int (iI x2), .int r1, .int r2, (va_rf o0), .long y0, .int r3, .int r4, .int r5, .int r6])), (a1, .inl (T 0, 940, .inl u.2))])) 0 0 (va_A [(a0, .inr (8, [.ref a1, .int (iI x1), .int r0, .int (iI x2), .int r1, .int r2, (va_rf o0), .long y0, .int r3, .int r4, .int r5, .int r6])), (a1, .inl (T 0, 940, .inl f0))] sz) := by
  refine e_V (by decide) (Nat.le_of_ble_eq_true rfl) ?_
  intro p e s m args below meth c A Q ls M hin w ret hl
  have hx := M.1.1
  have hb := M.1.2.1
  have hl : lv_has ls 3 [(0, .ref a0), (1, .int (iI x0))] := hl
  refine lv_bipush (v := iI 24) hx hb dX8_append_0 (by decide +kernel) ?_
  refine lv_istore_n (lv' := [(2, .int (iI 24)), (0, .ref a0), (1, .int (iI x0))]) hx hb dX8_append_2 rfl hl (by decide) rfl (fun ls hl => ?_)
  have loop1 : ∀ (k1 : Nat) (z1 : Int) (ff2 : Nat → Int32) (z3 : Int) (H : Heap) (locs : List Loc) (ls : Array Slot), 0 ≤ z1 → z1 ≤ 940 → (-8) ≤ z3 → z3 ≤ 24 → 0 ≤ (((24 - z3) - (z1 * 8)) + (x1 * 8)) → 0 ≤ (z1 - x1) → 0 ≤ (((z3 - 24) + (z1 * 8)) - (x1 * 8)) → ((z3 + 8) : Int).toNat < k1 → WD D A s.heap [(a0, .inr (8, [.ref a1, .int (iI z1), .int r0, .int (iI x2), .int r1, .int r2, (va_rf o0), .long y0, .int r3, .int r4, .int r5, .int r6])), (a1, .inl (T 0, 940, .inl ff2))] H locs → lv_has ls 3 [(2, .int (iI z3)), (0, .ref a0), (1, .int (iI x0))] → W p l e (Rm 0 0 0) s m args below meth c H locs 0 0 Q (F0 m 3 ls []) := by
    intro k1
    induction k1 with
    | zero => intro z1 ff2 z3 H locs ls z1_a z1_b z3_a z3_b q1_0 q1_1 q1_2 hm; exact absurd hm (Nat.not_lt_zero _)
    | succ k1 ih1 =>
      intro z1 ff2 z3 H locs ls z1_a z1_b z3_a z3_b q1_0 q1_1 q1_2 hm1 w hl
      refine lv_iload_n hx hb dX8_append_3 rfl (lv_at hl 0 rfl) ?_
      refine lv_if_lt (tgt := 49) hx hb dX8_append_4 (by decide) (fun c_4 => ?_) (fun c_4 => ?_)
      · replace c_4 := (iz_lt (Int.le_trans (by decide) z3_a) (Int.le_trans z3_b (by decide))).mp c_4
        exact ret (z1, ff2) _ _ _ _ _ [0, 1] dX8_append_49 ⟨z1_a, z1_b, (show 0 ≤ ((x1 + 4) - z1) from by omega), (show 0 ≤ ((z1 - 4) - x1) from by omega)⟩ w (by decide) rfl
      · replace c_4 : 0 ≤ z3 := Int.not_lt.mp (fun h => c_4 ((iz_lt (Int.le_trans (by decide) z3_a) (Int.le_trans z3_b (by decide))).mpr h))
        refine lv_aload_n hx hb dX8_append_7 rfl (lv_at hl 1 rfl) ?_
        refine r_get (v := .int (iI z1)) M w 0 1 clX8 rfl (by decide) G162 rfl rfl dX8_append_8 ?_
        refine lv_sipush (v := iI 940) hx hb dX8_append_11 (by decide +kernel) ?_
        refine lv_icmp_ge (tgt := 49) hx hb dX8_append_14 (by decide) (fun c_5 => ?_) (fun c_5 => ?_)
        · replace c_5 := (iI_le (by decide) (by decide) (Int.le_trans (by decide) z1_a) (Int.le_trans z1_b (by decide))).mp c_5
          exfalso; omega
        · replace c_5 : z1 < 940 := Int.not_le.mp (fun h => c_5 ((iI_le (by decide) (by decide) (Int.le_trans (by decide) z1_a) (Int.le_trans z1_b (by decide))).mpr h))
          refine lv_aload_n hx hb dX8_append_17 rfl (lv_at hl 1 rfl) ?_
          refine r_get (v := .ref a1) M w 0 0 clX8 rfl (by decide) G160 rfl rfl dX8_append_18 ?_
          refine lv_aload_n hx hb dX8_append_21 rfl (lv_at hl 1 rfl) ?_
          refine r_get (v := .int (iI z1)) M w 0 1 clX8 rfl (by decide) G162 rfl rfl dX8_append_22 ?_
          refine lv_iload_n hx hb dX8_append_25 rfl (lv_at hl 2 rfl) ?_
          refine lv_iload_n hx hb dX8_append_26 rfl (lv_at hl 0 rfl) ?_
          refine r_iushr (v := _) M rfl dX8_append_27 ?_
          refine b_any (fun z6 z6_a z6_b => ?_)
          refine lv_sipush (v := iI 255) hx hb dX8_append_28 (by decide +kernel) ?_
          refine r_iand (v := _) M rfl dX8_append_31 ?_
          refine b_rng (lo := 0) (hi := 255) (iand_r (by omega) (by omega)) (fun z7 z7_a z7_b => ?_)
          refine r_iast (ws' := [(a0, .inr (8, [.ref a1, .int (iI z1), .int r0, .int (iI x2), .int r1, .int r2, (va_rf o0), .long y0, .int r3, .int r4, .int r5, .int r6])), (a1, .inl (T 0, 940, .inl (upd ff2 (Int32.toNatClampNeg (iI z1)) (iI z7))))]) M w 1 rfl (iI_in (by omega) (by omega) (by decide)) rfl dX8_append_32 (fun H locs w => ?_)
          refine lv_aload_n hx hb dX8_append_33 rfl (lv_at hl 1 rfl) ?_
          refine lv_dup hx hb dX8_append_34 rfl ?_
          refine r_get (v := .int (iI z1)) M w 0 1 clX8 rfl (by decide) G162 rfl rfl dX8_append_35 ?_
          refine lv_iconst (v := iI 1) hx hb dX8_append_38 (by decide +kernel) ?_
          refine r_iadd (v := iI (z1 + 1)) M (iI_add _ _) dX8_append_39 ?_
          refine r_put (ws' := [(a0, .inr (8, [.ref a1, .int (iI (z1 + 1)), .int r0, .int (iI x2), .int r1, .int r2, (va_rf o0), .long y0, .int r3, .int r4, .int r5, .int r6])), (a1, .inl (T 0, 940, .inl (upd ff2 (Int32.toNatClampNeg (iI z1)) (iI z7))))]) M w 0 1 clX8 rfl (by decide) G162 rfl rfl rfl rfl (Nat.le_of_ble_eq_true rfl) rfl dX8_append_40 (fun H locs w => ?_)
          refine lv_iinc (v := iI (z3 + (-8))) (lv' := [(2, .int (iI (z3 + (-8)))), (0, .ref a0), (1, .int (iI x0))]) hx hb dX8_append_43 hl (k := 0) rfl (ii_inc (by decide +kernel)) (by decide) rfl (fun ls hl => ?_)
          refine lv_goto (tgt := 3) hx hb dX8_append_46 (by decide) ?_
          exact ih1 (z1 + 1) (upd ff2 (Int32.toNatClampNeg (iI z1)) (iI z7)) (z3 + (-8)) _ _ _ (by omega) (by omega) (by omega) (by omega) (by omega) (by omega) (by omega) (by omega) w (lv_sub hl [0, 1, 2] rfl)
  exact loop1 ((32 : Int).toNat + 1) x1 f0 24 _ _ _ (by omega) (by omega) (by decide) (by decide) (by omega) (by omega) (by omega) (Nat.lt_succ_self _) w (lv_sub hl [0, 1, 2] rfl)
set_option maxRecDepth 100000 in
set_option maxHeartbeats 4000000 in
theorem c222_X8_take (l : Launch) (D : va_G) (T : Nat → ClassId) (sz : Nat) (a0 : Nat) (x0 : Int) (x1 : Int) (x2 : Int) (x3 : Int) (x4 : Int) (a1 : Nat) (x5 : Int) (r0 : Int32) (x6 : Int) (r1 : Int32) (r2 : Int32) (o0 : Option Nat) (y0 : Int64) (r3 : Int32) (r4 : Int32) (r5 : Int32) (r6 : Int32) (f0 : Nat → Int32) (x0_a : (-2147483648) ≤ x0) (x0_b : x0 ≤ 2147483647) (x1_a : (-2147483648) ≤ x1) (x1_b : x1 ≤ 2147483647) (x2_a : (-2147483648) ≤ x2) (x2_b : x2 ≤ 2147483647) (x3_a : (-2147483648) ≤ x3) (x3_b : x3 ≤ 2147483647) (x4_a : (-2147483648) ≤ x4) (x4_b : x4 ≤ 2147483647) (x5_a : 0 ≤ x5) (x5_b : x5 ≤ 940) (x6_a : 0 ≤ x6) (x6_b : x6 ≤ 940) (o0_h : wok T o0) : Met l yX8_take (Cond.code yX8_take cX8_take 6 (some .int) :: GW) (Rm 1 0 0) (cPre [.ref a0, .int (iI x0), .int (iI x1), .int (iI x2), .int (iI x3), .int (iI x4)] D T [(a0, .inr (8, [.ref a1, .int (iI x5), .int r0, .int (iI x6), .int r1, .int r2, (va_rf o0), .long y0, .int r3, .int r4, .int r5, .int r6])), (a1, .inl (T 0, 940, .inl f0))] sz) (qI D [(a0, .inr (8, [.ref a1, .int (iI x5), .int r0, .int (iI x6), .int r1, .int r2, (va_rf o0), .long y0, .int r3, .int r4, .int r5, .int r6])), (a1, .inl (T 0, 940, .inl f0))] sz (fun (v : Int32) (u : Int × Int × (Nat → Int32)) => iI u.1 = v ∧ (-2147483648) ≤ u.1 ∧ u.1 ≤ 2147483647 ∧ 0 ≤ u.2.1 ∧ u.2.1 ≤ 940 ∧ (fdT u.1 x5 u.2.1)) (fun u => [(a0, .inr (8, [.ref a1, .int (iI u.2.1), .int r0, .int (iI x6), .int r1, .int r2, (va_rf o0), .long y0, .int r3, .int r4, .int r5, .int r6])), (a1, .inl (T 0, 940, .inl u.2.2))])) 0 0 (va_A [(a0, .inr (8, [.ref a1, .int (iI x5), .int r0, .int (iI x6), .int r1, .int r2, (va_rf o0), .long y0, .int r3, .int r4, .int r5, .int r6])), (a1, .inl (T 0, 940, .inl f0))] sz) := by
  refine e_I (by decide) (Nat.le_of_ble_eq_true rfl) ?_
  intro p e s m args below meth c A Q ls M hin w ret hl
  have hx := M.1.1
  have hb := M.1.2.1
  have hl : lv_has ls 6 [(0, .ref a0), (1, .int (iI x0)), (2, .int (iI x1)), (3, .int (iI x2)), (4, .int (iI x3)), (5, .int (iI x4))] := hl
  refine lv_aload_n hx hb dX8_take_0 rfl (lv_at hl 0 rfl) ?_
  refine r_get (v := .int (iI x5)) M w 0 1 clX8 rfl (by decide) G162 rfl rfl dX8_take_1 ?_
  refine lv_bipush (v := iI 20) hx hb dX8_take_4 (by decide +kernel) ?_
  refine r_iadd (v := iI (x5 + 20)) M (iI_add _ _) dX8_take_6 ?_
  refine lv_sipush (v := iI 940) hx hb dX8_take_7 (by decide +kernel) ?_
  refine lv_icmp_le (tgt := 15) hx hb dX8_take_10 (by decide) (fun c_1 => ?_) (fun c_1 => ?_)
  · replace c_1 := (iI_le (by omega) (by omega) (by decide) (by decide)).mp c_1
    refine lv_aload_n hx hb dX8_take_15 rfl (lv_at hl 0 rfl) ?_
    refine lv_iload_n hx hb dX8_take_16 rfl (lv_at hl 1 rfl) ?_
    refine k_V (ce := 0) (sl := 0) (rest := []) (wr := []) (r_V (f := 0) [0, 1] M w V_HookedCity_Tape_51 G559 G0 (c221_X8_append l D T _ a0 x0 a1 x5 r0 x6 r1 r2 o0 y0 r3 r4 r5 r6 f0 x0_a x0_b (by omega) (by omega) x6_a x6_b o0_h) 0 clX8 rfl rfl (by decide) rfl hl.1 rfl (Nat.le_of_ble_eq_true rfl) dX8_take_17 (by decide) (by decide) (by decide) (by decide)) w [0, 1] [] rfl rfl (by decide) (by decide) rfl rfl (fun u H locs hp w => ?_)
    obtain ⟨z2, ff3⟩ := u
    have z2_a : 0 ≤ z2 := hp.1
    have z2_b : z2 ≤ 940 := hp.2.1
    have ee4 : 0 ≤ ((x5 + 4) - z2) := hp.2.2.1
    have ee5 : 0 ≤ ((z2 - 4) - x5) := hp.2.2.2
    have w : WD D A s.heap [(a0, .inr (8, [.ref a1, .int (iI z2), .int r0, .int (iI x6), .int r1, .int r2, (va_rf o0), .long y0, .int r3, .int r4, .int r5, .int r6])), (a1, .inl (T 0, 940, .inl ff3))] H locs := w
    refine lv_aload_n hx hb dX8_take_20 rfl (lv_at hl 0 rfl) ?_
    refine lv_iload_n hx hb dX8_take_21 rfl (lv_at hl 2 rfl) ?_
    refine k_V (ce := 0) (sl := 0) (rest := []) (wr := []) (r_V (f := 0) [0, 1] M w V_HookedCity_Tape_51 G559 G0 (c221_X8_append l D T _ a0 x1 a1 z2 r0 x6 r1 r2 o0 y0 r3 r4 r5 r6 ff3 x1_a x1_b (by omega) (by omega) x6_a x6_b o0_h) 0 clX8 rfl rfl (by decide) rfl hl.1 rfl (Nat.le_of_ble_eq_true rfl) dX8_take_22 (by decide) (by decide) (by decide) (by decide)) w [0, 1] [] rfl rfl (by decide) (by decide) rfl rfl (fun u H locs hp w => ?_)
    obtain ⟨z6, ff7⟩ := u
    have z6_a : 0 ≤ z6 := hp.1
    have z6_b : z6 ≤ 940 := hp.2.1
    have ee8 : 0 ≤ ((z2 + 4) - z6) := hp.2.2.1
    have ee9 : 0 ≤ ((z6 - 4) - z2) := hp.2.2.2
    have w : WD D A s.heap [(a0, .inr (8, [.ref a1, .int (iI z6), .int r0, .int (iI x6), .int r1, .int r2, (va_rf o0), .long y0, .int r3, .int r4, .int r5, .int r6])), (a1, .inl (T 0, 940, .inl ff7))] H locs := w
    refine lv_aload_n hx hb dX8_take_25 rfl (lv_at hl 0 rfl) ?_
    refine lv_iload_n hx hb dX8_take_26 rfl (lv_at hl 3 rfl) ?_
    refine k_V (ce := 0) (sl := 0) (rest := []) (wr := []) (r_V (f := 0) [0, 1] M w V_HookedCity_Tape_51 G559 G0 (c221_X8_append l D T _ a0 x2 a1 z6 r0 x6 r1 r2 o0 y0 r3 r4 r5 r6 ff7 x2_a x2_b (by omega) (by omega) x6_a x6_b o0_h) 0 clX8 rfl rfl (by decide) rfl hl.1 rfl (Nat.le_of_ble_eq_true rfl) dX8_take_27 (by decide) (by decide) (by decide) (by decide)) w [0, 1] [] rfl rfl (by decide) (by decide) rfl rfl (fun u H locs hp w => ?_)
    obtain ⟨z10, ff11⟩ := u
    have z10_a : 0 ≤ z10 := hp.1
    have z10_b : z10 ≤ 940 := hp.2.1
    have ee12 : 0 ≤ ((z6 + 4) - z10) := hp.2.2.1
    have ee13 : 0 ≤ ((z10 - 4) - z6) := hp.2.2.2
    have w : WD D A s.heap [(a0, .inr (8, [.ref a1, .int (iI z10), .int r0, .int (iI x6), .int r1, .int r2, (va_rf o0), .long y0, .int r3, .int r4, .int r5, .int r6])), (a1, .inl (T 0, 940, .inl ff11))] H locs := w
    refine lv_aload_n hx hb dX8_take_30 rfl (lv_at hl 0 rfl) ?_
    refine lv_iload hx hb dX8_take_31 (lv_at hl 4 rfl) ?_
    refine k_V (ce := 0) (sl := 0) (rest := []) (wr := []) (r_V (f := 0) [0, 1] M w V_HookedCity_Tape_51 G559 G0 (c221_X8_append l D T _ a0 x3 a1 z10 r0 x6 r1 r2 o0 y0 r3 r4 r5 r6 ff11 x3_a x3_b (by omega) (by omega) x6_a x6_b o0_h) 0 clX8 rfl rfl (by decide) rfl hl.1 rfl (Nat.le_of_ble_eq_true rfl) dX8_take_33 (by decide) (by decide) (by decide) (by decide)) w [0, 1] [] rfl rfl (by decide) (by decide) rfl rfl (fun u H locs hp w => ?_)
    obtain ⟨z14, ff15⟩ := u
    have z14_a : 0 ≤ z14 := hp.1
    have z14_b : z14 ≤ 940 := hp.2.1
    have ee16 : 0 ≤ ((z10 + 4) - z14) := hp.2.2.1
    have ee17 : 0 ≤ ((z14 - 4) - z10) := hp.2.2.2
    have w : WD D A s.heap [(a0, .inr (8, [.ref a1, .int (iI z14), .int r0, .int (iI x6), .int r1, .int r2, (va_rf o0), .long y0, .int r3, .int r4, .int r5, .int r6])), (a1, .inl (T 0, 940, .inl ff15))] H locs := w
    refine lv_aload_n hx hb dX8_take_36 rfl (lv_at hl 0 rfl) ?_
    refine lv_iload hx hb dX8_take_37 (lv_at hl 5 rfl) ?_
    refine k_V (ce := 0) (sl := 0) (rest := []) (wr := []) (r_V (f := 0) [0, 1] M w V_HookedCity_Tape_51 G559 G0 (c221_X8_append l D T _ a0 x4 a1 z14 r0 x6 r1 r2 o0 y0 r3 r4 r5 r6 ff15 x4_a x4_b (by omega) (by omega) x6_a x6_b o0_h) 0 clX8 rfl rfl (by decide) rfl hl.1 rfl (Nat.le_of_ble_eq_true rfl) dX8_take_39 (by decide) (by decide) (by decide) (by decide)) w [0, 1] [] rfl rfl (by decide) (by decide) rfl rfl (fun u H locs hp w => ?_)
    obtain ⟨z18, ff19⟩ := u
    have z18_a : 0 ≤ z18 := hp.1
    have z18_b : z18 ≤ 940 := hp.2.1
    have ee20 : 0 ≤ ((z14 + 4) - z18) := hp.2.2.1
    have ee21 : 0 ≤ ((z18 - 4) - z14) := hp.2.2.2
    have w : WD D A s.heap [(a0, .inr (8, [.ref a1, .int (iI z18), .int r0, .int (iI x6), .int r1, .int r2, (va_rf o0), .long y0, .int r3, .int r4, .int r5, .int r6])), (a1, .inl (T 0, 940, .inl ff19))] H locs := w
    refine lv_aload_n hx hb dX8_take_42 rfl (lv_at hl 0 rfl) ?_
    refine r_get (v := .int (iI z18)) M w 0 1 clX8 rfl (by decide) G162 rfl rfl dX8_take_43 ?_
    exact ret _ (z18, z18, ff19) _ _ _ _ _ [0, 1] dX8_take_46 ⟨rfl, (show (-2147483648) ≤ z18 from by omega), (show z18 ≤ 2147483647 from by omega), z18_a, z18_b, (show fdT z18 x5 z18 from (by unfold fdT; omega))⟩ w (by decide) rfl
  · replace c_1 : 940 < (x5 + 20) := Int.not_le.mp (fun h => c_1 ((iI_le (by omega) (by omega) (by decide) (by decide)).mpr h))
    refine lv_iconst (v := iI (-1)) hx hb dX8_take_13 (by decide +kernel) ?_
    exact ret _ ((-1), x5, f0) _ _ _ _ _ [0, 1] dX8_take_14 ⟨rfl, (show (-2147483648) ≤ (-1) from by decide), (show ((-1) : Int) ≤ 2147483647 from by decide), x5_a, x5_b, (show fdT (-1) x5 x5 from (by unfold fdT; omega))⟩ w (by decide) rfl
set_option maxRecDepth 100000 in
set_option maxHeartbeats 4000000 in
theorem c223_X8_cut (l : Launch) (D : va_G) (T : Nat → ClassId) (sz : Nat) (a0 : Nat) (x0 : Int) (a1 : Nat) (x1 : Int) (r0 : Int32) (x2 : Int) (r1 : Int32) (r2 : Int32) (o0 : Option Nat) (y0 : Int64) (r3 : Int32) (r4 : Int32) (r5 : Int32) (r6 : Int32) (x0_a : (-2147483648) ≤ x0) (x0_b : x0 ≤ 2147483647) (x1_a : 0 ≤ x1) (x1_b : x1 ≤ 940) (x2_a : 0 ≤ x2) (x2_b : x2 ≤ 940) (o0_h : wok T o0) : Met l yX8_cut (Cond.code yX8_cut cX8_cut 2 (some .boolean) :: GW) (Rm 0 0 0) (cPre [.ref a0, .int (iI x0)] D T [(a0, .inr (8, [.ref a1, .int (iI x1), .int r0, .int (iI x2), .int r1, .int r2, (va_rf o0), .long y0, .int r3, .int r4, .int r5, .int r6]))] sz) (qI D [(a0, .inr (8, [.ref a1, .int (iI x1), .int r0, .int (iI x2), .int r1, .int r2, (va_rf o0), .long y0, .int r3, .int r4, .int r5, .int r6]))] sz (fun (v : Int32) (u : Int × Int) => iI u.1 = v ∧ 0 ≤ u.1 ∧ u.1 ≤ 1 ∧ 0 ≤ u.2 ∧ u.2 ≤ 940 ∧ (enT u.1 x0 x1 u.2)) (fun u => [(a0, .inr (8, [.ref a1, .int (iI u.2), .int r0, .int (iI x2), .int r1, .int r2, (va_rf o0), .long y0, .int r3, .int r4, .int r5, .int r6]))])) 0 0 (va_A [(a0, .inr (8, [.ref a1, .int (iI x1), .int r0, .int (iI x2), .int r1, .int r2, (va_rf o0), .long y0, .int r3, .int r4, .int r5, .int r6]))] sz) := by
  refine e_Z (by decide) (Nat.le_of_ble_eq_true rfl) ?_
  intro p e s m args below meth c A Q ls M hin w ret hl
  have hx := M.1.1
  have hb := M.1.2.1
  have hl : lv_has ls 2 [(0, .ref a0), (1, .int (iI x0))] := hl
  refine lv_iload_n hx hb dX8_cut_0 rfl (lv_at hl 1 rfl) ?_
  refine lv_if_lt (tgt := 12) hx hb dX8_cut_1 (by decide) (fun c_1 => ?_) (fun c_1 => ?_)
  · replace c_1 := (iz_lt (Int.le_trans (by decide) x0_a) (Int.le_trans x0_b (by decide))).mp c_1
    refine lv_iconst (v := iI 0) hx hb dX8_cut_12 (by decide +kernel) ?_
    exact ret _ (0, x1) _ _ _ _ _ [0] dX8_cut_13 (by decide +kernel) ⟨rfl, (show (0 : Int) ≤ 0 from by decide), (show (0 : Int) ≤ 1 from by decide), x1_a, x1_b, (show enT 0 x0 x1 x1 from (by unfold enT; omega))⟩ w (by decide) rfl
  · replace c_1 : 0 ≤ x0 := Int.not_lt.mp (fun h => c_1 ((iz_lt (Int.le_trans (by decide) x0_a) (Int.le_trans x0_b (by decide))).mpr h))
    refine lv_iload_n hx hb dX8_cut_4 rfl (lv_at hl 1 rfl) ?_
    refine lv_aload_n hx hb dX8_cut_5 rfl (lv_at hl 0 rfl) ?_
    refine r_get (v := .int (iI x1)) M w 0 1 clX8 rfl (by decide) G162 rfl rfl dX8_cut_6 ?_
    refine lv_icmp_le (tgt := 14) hx hb dX8_cut_9 (by decide) (fun c_2 => ?_) (fun c_2 => ?_)
    · replace c_2 := (iI_le (Int.le_trans (by decide) x0_a) (Int.le_trans x0_b (by decide)) (Int.le_trans (by decide) x1_a) (Int.le_trans x1_b (by decide))).mp c_2
      refine lv_aload_n hx hb dX8_cut_14 rfl (lv_at hl 0 rfl) ?_
      refine lv_iload_n hx hb dX8_cut_15 rfl (lv_at hl 1 rfl) ?_
      refine r_put (ws' := [(a0, .inr (8, [.ref a1, .int (iI x0), .int r0, .int (iI x2), .int r1, .int r2, (va_rf o0), .long y0, .int r3, .int r4, .int r5, .int r6]))]) M w 0 1 clX8 rfl (by decide) G162 rfl rfl rfl rfl (Nat.le_of_ble_eq_true rfl) rfl dX8_cut_16 (fun H locs w => ?_)
      refine lv_iconst (v := iI 1) hx hb dX8_cut_19 (by decide +kernel) ?_
      exact ret _ (1, x0) _ _ _ _ _ [0] dX8_cut_20 (by decide +kernel) ⟨rfl, (show (0 : Int) ≤ 1 from by decide), (show (1 : Int) ≤ 1 from by decide), (show 0 ≤ x0 from by omega), (show x0 ≤ 940 from by omega), (show enT 1 x0 x1 x0 from (by unfold enT; omega))⟩ w (by decide) rfl
    · replace c_2 : x1 < x0 := Int.not_le.mp (fun h => c_2 ((iI_le (Int.le_trans (by decide) x0_a) (Int.le_trans x0_b (by decide)) (Int.le_trans (by decide) x1_a) (Int.le_trans x1_b (by decide))).mpr h))
      refine lv_iconst (v := iI 0) hx hb dX8_cut_12 (by decide +kernel) ?_
      exact ret _ (0, x1) _ _ _ _ _ [0] dX8_cut_13 (by decide +kernel) ⟨rfl, (show (0 : Int) ≤ 0 from by decide), (show (0 : Int) ≤ 1 from by decide), x1_a, x1_b, (show enT 0 x0 x1 x1 from (by unfold enT; omega))⟩ w (by decide) rfl
set_option maxRecDepth 100000 in
set_option maxHeartbeats 4000000 in
theorem c224_X8_empty (l : Launch) (D : va_G) (T : Nat → ClassId) (sz : Nat) (a0 : Nat) (a1 : Nat) (x0 : Int) (r0 : Int32) (x1 : Int) (r1 : Int32) (r2 : Int32) (o0 : Option Nat) (y0 : Int64) (r3 : Int32) (r4 : Int32) (r5 : Int32) (r6 : Int32) (x0_a : 0 ≤ x0) (x0_b : x0 ≤ 940) (x1_a : 0 ≤ x1) (x1_b : x1 ≤ 940) (o0_h : wok T o0) : Met l yX8_empty (Cond.code yX8_empty cX8_empty 1 none :: GW) (Rm 0 0 0) (cPre [.ref a0] D T [(a0, .inr (8, [.ref a1, .int (iI x0), .int r0, .int (iI x1), .int r1, .int r2, (va_rf o0), .long y0, .int r3, .int r4, .int r5, .int r6]))] sz) (qV D [(a0, .inr (8, [.ref a1, .int (iI x0), .int r0, .int (iI x1), .int r1, .int r2, (va_rf o0), .long y0, .int r3, .int r4, .int r5, .int r6]))] sz (fun (u : Int) => 0 ≤ u ∧ u ≤ 940 ∧ 0 ≤ (0 - u)) (fun u => [(a0, .inr (8, [.ref a1, .int (iI u), .int r0, .int (iI x1), .int r1, .int r2, (va_rf o0), .long y0, .int r3, .int r4, .int r5, .int r6]))])) 0 0 (va_A [(a0, .inr (8, [.ref a1, .int (iI x0), .int r0, .int (iI x1), .int r1, .int r2, (va_rf o0), .long y0, .int r3, .int r4, .int r5, .int r6]))] sz) := by
  refine e_V (by decide) (Nat.le_of_ble_eq_true rfl) ?_
  intro p e s m args below meth c A Q ls M hin w ret hl
  have hx := M.1.1
  have hb := M.1.2.1
  have hl : lv_has ls 1 [(0, .ref a0)] := hl
  refine lv_aload_n hx hb dX8_empty_0 rfl (lv_at hl 0 rfl) ?_
  refine lv_iconst (v := iI 0) hx hb dX8_empty_1 (by decide +kernel) ?_
  refine r_put (ws' := [(a0, .inr (8, [.ref a1, .int (iI 0), .int r0, .int (iI x1), .int r1, .int r2, (va_rf o0), .long y0, .int r3, .int r4, .int r5, .int r6]))]) M w 0 1 clX8 rfl (by decide) G162 rfl rfl rfl rfl (Nat.le_of_ble_eq_true rfl) rfl dX8_empty_2 (fun H locs w => ?_)
  exact ret 0 _ _ _ _ _ [0] dX8_empty_5 ⟨(show (0 : Int) ≤ 0 from by decide), (show (0 : Int) ≤ 940 from by decide), (show 0 ≤ (0 - 0) from by omega)⟩ w (by decide) rfl
set_option maxRecDepth 100000 in
set_option maxHeartbeats 4000000 in
theorem c225_X8_isLetter (l : Launch) (D : va_G) (T : Nat → ClassId) (sz : Nat) (x0 : Int) (x0_a : (-2147483648) ≤ x0) (x0_b : x0 ≤ 2147483647) : Met l yX8_isLetter (Cond.code yX8_isLetter cX8_isLetter 1 (some .boolean) :: GW) (Rm 0 0 0) (cPre [.int (iI x0)] D T [] sz) (qI D [] sz (fun (v : Int32) (u : Int) => iI u = v ∧ 0 ≤ u ∧ u ≤ 1 ∧ ((x0 < 97 ∧ u = 0) ∨ (97 ≤ x0 ∧ 122 < x0 ∧ u = 0) ∨ (97 ≤ x0 ∧ x0 ≤ 122 ∧ u = 1))) (fun u => [])) 0 0 (va_A [] sz) := by
  refine e_Z (by decide) (Nat.le_of_ble_eq_true rfl) ?_
  intro p e s m args below meth c A Q ls M hin w ret hl
  have hx := M.1.1
  have hb := M.1.2.1
  have hl : lv_has ls 1 [(0, .int (iI x0))] := hl
  refine lv_iload_n hx hb dX8_isLetter_0 rfl (lv_at hl 0 rfl) ?_
  refine lv_bipush (v := iI 97) hx hb dX8_isLetter_1 (by decide +kernel) ?_
  refine lv_icmp_lt (tgt := 16) hx hb dX8_isLetter_3 (by decide) (fun c_1 => ?_) (fun c_1 => ?_)
  · replace c_1 := (iI_lt (Int.le_trans (by decide) x0_a) (Int.le_trans x0_b (by decide)) (by decide) (by decide)).mp c_1
    refine lv_iconst (v := iI 0) hx hb dX8_isLetter_16 (by decide +kernel) ?_
    exact ret _ 0 _ _ _ _ _ [] dX8_isLetter_17 (by decide +kernel) ⟨rfl, (show (0 : Int) ≤ 0 from by decide), (show (0 : Int) ≤ 1 from by decide), (Or.inl ⟨c_1, rfl⟩)⟩ w (by decide) rfl
  · replace c_1 : 97 ≤ x0 := Int.not_lt.mp (fun h => c_1 ((iI_lt (Int.le_trans (by decide) x0_a) (Int.le_trans x0_b (by decide)) (by decide) (by decide)).mpr h))
    refine lv_iload_n hx hb dX8_isLetter_6 rfl (lv_at hl 0 rfl) ?_
    refine lv_bipush (v := iI 122) hx hb dX8_isLetter_7 (by decide +kernel) ?_
    refine lv_icmp_gt (tgt := 16) hx hb dX8_isLetter_9 (by decide) (fun c_2 => ?_) (fun c_2 => ?_)
    · replace c_2 := (iI_lt (by decide) (by decide) (Int.le_trans (by decide) x0_a) (Int.le_trans x0_b (by decide))).mp c_2
      refine lv_iconst (v := iI 0) hx hb dX8_isLetter_16 (by decide +kernel) ?_
      exact ret _ 0 _ _ _ _ _ [] dX8_isLetter_17 (by decide +kernel) ⟨rfl, (show (0 : Int) ≤ 0 from by decide), (show (0 : Int) ≤ 1 from by decide), (Or.inr (Or.inl ⟨c_1, c_2, rfl⟩))⟩ w (by decide) rfl
    · replace c_2 : x0 ≤ 122 := Int.not_lt.mp (fun h => c_2 ((iI_lt (by decide) (by decide) (Int.le_trans (by decide) x0_a) (Int.le_trans x0_b (by decide))).mpr h))
      refine lv_iconst (v := iI 1) hx hb dX8_isLetter_12 (by decide +kernel) ?_
      refine lv_goto (tgt := 17) hx hb dX8_isLetter_13 (by decide) ?_
      exact ret _ 1 _ _ _ _ _ [] dX8_isLetter_17 (by decide +kernel) ⟨rfl, (show (0 : Int) ≤ 1 from by decide), (show (1 : Int) ≤ 1 from by decide), (Or.inr (Or.inr (⟨c_1, c_2, rfl⟩)))⟩ w (by decide) rfl
set_option maxRecDepth 100000 in
set_option maxHeartbeats 4000000 in
theorem c226_X8_isDigit (l : Launch) (D : va_G) (T : Nat → ClassId) (sz : Nat) (x0 : Int) (x0_a : (-2147483648) ≤ x0) (x0_b : x0 ≤ 2147483647) : Met l yX8_isDigit (Cond.code yX8_isDigit cX8_isDigit 1 (some .boolean) :: GW) (Rm 0 0 0) (cPre [.int (iI x0)] D T [] sz) (qI D [] sz (fun (v : Int32) (u : Int) => iI u = v ∧ 0 ≤ u ∧ u ≤ 1 ∧ ((x0 < 48 ∧ u = 0) ∨ (48 ≤ x0 ∧ 57 < x0 ∧ u = 0) ∨ (48 ≤ x0 ∧ x0 ≤ 57 ∧ u = 1))) (fun u => [])) 0 0 (va_A [] sz) := by
  refine e_Z (by decide) (Nat.le_of_ble_eq_true rfl) ?_
  intro p e s m args below meth c A Q ls M hin w ret hl
  have hx := M.1.1
  have hb := M.1.2.1
  have hl : lv_has ls 1 [(0, .int (iI x0))] := hl
  refine lv_iload_n hx hb dX8_isDigit_0 rfl (lv_at hl 0 rfl) ?_
  refine lv_bipush (v := iI 48) hx hb dX8_isDigit_1 (by decide +kernel) ?_
  refine lv_icmp_lt (tgt := 16) hx hb dX8_isDigit_3 (by decide) (fun c_1 => ?_) (fun c_1 => ?_)
  · replace c_1 := (iI_lt (Int.le_trans (by decide) x0_a) (Int.le_trans x0_b (by decide)) (by decide) (by decide)).mp c_1
    refine lv_iconst (v := iI 0) hx hb dX8_isDigit_16 (by decide +kernel) ?_
    exact ret _ 0 _ _ _ _ _ [] dX8_isDigit_17 (by decide +kernel) ⟨rfl, (show (0 : Int) ≤ 0 from by decide), (show (0 : Int) ≤ 1 from by decide), (Or.inl ⟨c_1, rfl⟩)⟩ w (by decide) rfl
  · replace c_1 : 48 ≤ x0 := Int.not_lt.mp (fun h => c_1 ((iI_lt (Int.le_trans (by decide) x0_a) (Int.le_trans x0_b (by decide)) (by decide) (by decide)).mpr h))
    refine lv_iload_n hx hb dX8_isDigit_6 rfl (lv_at hl 0 rfl) ?_
    refine lv_bipush (v := iI 57) hx hb dX8_isDigit_7 (by decide +kernel) ?_
    refine lv_icmp_gt (tgt := 16) hx hb dX8_isDigit_9 (by decide) (fun c_2 => ?_) (fun c_2 => ?_)
    · replace c_2 := (iI_lt (by decide) (by decide) (Int.le_trans (by decide) x0_a) (Int.le_trans x0_b (by decide))).mp c_2
      refine lv_iconst (v := iI 0) hx hb dX8_isDigit_16 (by decide +kernel) ?_
      exact ret _ 0 _ _ _ _ _ [] dX8_isDigit_17 (by decide +kernel) ⟨rfl, (show (0 : Int) ≤ 0 from by decide), (show (0 : Int) ≤ 1 from by decide), (Or.inr (Or.inl ⟨c_1, c_2, rfl⟩))⟩ w (by decide) rfl
    · replace c_2 : x0 ≤ 57 := Int.not_lt.mp (fun h => c_2 ((iI_lt (by decide) (by decide) (Int.le_trans (by decide) x0_a) (Int.le_trans x0_b (by decide))).mpr h))
      refine lv_iconst (v := iI 1) hx hb dX8_isDigit_12 (by decide +kernel) ?_
      refine lv_goto (tgt := 17) hx hb dX8_isDigit_13 (by decide) ?_
      exact ret _ 1 _ _ _ _ _ [] dX8_isDigit_17 (by decide +kernel) ⟨rfl, (show (0 : Int) ≤ 1 from by decide), (show (1 : Int) ≤ 1 from by decide), (Or.inr (Or.inr (⟨c_1, c_2, rfl⟩)))⟩ w (by decide) rfl
set_option maxRecDepth 100000 in
set_option maxHeartbeats 4000000 in
theorem c227_J0_isLatin1_aae02 (l : Launch) (D : va_G) (T : Nat → ClassId) (sz : Nat) : Met l yJ0_isLatin1_aae02 (Cond.code yJ0_isLatin1_aae02 cJ0_isLatin1_aae02 1 (some .boolean) :: GW) (Rm 0 0 0) (cPre [.ref (T (50 + 0))] D T [] sz) (qI D [] sz (fun (v : Int32) (u : Int) => iI u = v ∧ 0 ≤ u ∧ u ≤ 1 ∧ ((u = 1))) (fun u => [])) 0 0 (va_A [] sz) := by
  refine e_Z (by decide) (Nat.le_of_ble_eq_true rfl) ?_
  intro p e s m args below meth c A Q ls M hin w ret hl
  have hx := M.1.1
  have hb := M.1.2.1
  have hl : lv_has ls 1 [(0, .ref (T (50 + 0)))] := hl
  refine r_getCS M w G621 dJ0_isLatin1_aae02_0 ?_
  refine lv_if_eq (tgt := 17) hx hb dJ0_isLatin1_aae02_3 (by decide) (fun c => absurd c (by decide +kernel)) (fun _ => ?_)
  refine lv_aload_n hx hb dJ0_isLatin1_aae02_6 rfl (lv_at hl 0 rfl) ?_
  refine r_scod M w 0 rfl G2085 dJ0_isLatin1_aae02_7 ?_
  refine lv_if_ne (tgt := 17) hx hb dJ0_isLatin1_aae02_10 (by decide) (fun c => absurd (by decide +kernel) c) (fun _ => ?_)
  refine lv_iconst (v := iI 1) hx hb dJ0_isLatin1_aae02_13 (by decide +kernel) ?_
  refine lv_goto (tgt := 18) hx hb dJ0_isLatin1_aae02_14 (by decide) ?_
  exact ret _ 1 _ _ _ _ _ [] dJ0_isLatin1_aae02_18 (by decide +kernel) ⟨rfl, (show (0 : Int) ≤ 1 from by decide), (show (1 : Int) ≤ 1 from by decide), rfl⟩ w (by decide) rfl
set_option maxRecDepth 100000 in
set_option maxHeartbeats 4000000 in
theorem c228_J0_coder_7d493 (l : Launch) (D : va_G) (T : Nat → ClassId) (sz : Nat) : Met l yJ0_coder_7d493 (Cond.code yJ0_coder_7d493 cJ0_coder_7d493 1 (some .byte) :: GW) (Rm 0 0 0) (cPre [.ref (T (50 + 0))] D T [] sz) (qI D [] sz (fun (v : Int32) (u : Int) => iI u = v ∧ (-128) ≤ u ∧ u ≤ 127 ∧ ((u = 0))) (fun u => [])) 0 0 (va_A [] sz) := by
  refine e_B (by decide) (Nat.le_of_ble_eq_true rfl) ?_
  intro p e s m args below meth c A Q ls M hin w ret hl
  have hx := M.1.1
  have hb := M.1.2.1
  have hl : lv_has ls 1 [(0, .ref (T (50 + 0)))] := hl
  refine r_getCS M w G621 dJ0_coder_7d493_0 ?_
  refine lv_if_eq (tgt := 13) hx hb dJ0_coder_7d493_3 (by decide) (fun c => absurd c (by decide +kernel)) (fun _ => ?_)
  refine lv_aload_n hx hb dJ0_coder_7d493_6 rfl (lv_at hl 0 rfl) ?_
  refine r_scod M w 0 rfl G2085 dJ0_coder_7d493_7 ?_
  refine lv_goto (tgt := 14) hx hb dJ0_coder_7d493_10 (by decide) ?_
  exact ret _ 0 _ _ _ _ _ [] dJ0_coder_7d493_14 (by decide +kernel) ⟨rfl, (show (-128) ≤ 0 from by decide), (show (0 : Int) ≤ 127 from by decide), rfl⟩ w (by decide) rfl
set_option maxRecDepth 100000 in
set_option maxHeartbeats 4000000 in
theorem c229_J0_length_8abf5 (l : Launch) (D : va_G) (T : Nat → ClassId) (sz : Nat) : Met l yJ0_length_8abf5 (Cond.code yJ0_length_8abf5 cJ0_length_8abf5 1 (some .int) :: GW) (Rm 1 0 0) (cPre [.ref (T (50 + 0))] D T [] sz) (qI D [] sz (fun (v : Int32) (u : Int) => iI u = v ∧ (-2147483648) ≤ u ∧ u ≤ 2147483647 ∧ ((u = 6))) (fun u => [])) 0 0 (va_A [] sz) := by
  refine e_I (by decide) (Nat.le_of_ble_eq_true rfl) ?_
  intro p e s m args below meth c A Q ls M hin w ret hl
  have hx := M.1.1
  have hb := M.1.2.1
  have hl : lv_has ls 1 [(0, .ref (T (50 + 0)))] := hl
  refine lv_aload_n hx hb dJ0_length_8abf5_0 rfl (lv_at hl 0 rfl) ?_
  refine r_sval M w 0 rfl G2086 dJ0_length_8abf5_1 ?_
  refine r_slen M w 0 rfl (z := 6) (by decide +kernel) dJ0_length_8abf5_4 ?_
  refine lv_aload_n hx hb dJ0_length_8abf5_5 rfl (lv_at hl 0 rfl) ?_
  refine k_I (ce := 0) (sl := 0) (rest := [.int (iI 6)]) (wr := []) (r_VT (f := 0) [] M w V_java_lang_String_335 G628 G629 (c228_J0_coder_7d493 l D T _) (M.2.2.2.2.2.2.1.2 0 _ rfl).1 rfl (by decide) rfl hl.1 rfl (Nat.le_of_ble_eq_true rfl) dJ0_length_8abf5_6 (by decide) (by decide) (by decide) (by decide)) w [] [] rfl rfl (by decide) (by decide) rfl rfl (fun v z1 H locs hp w => ?_)
  have hv : iI z1 = v := hp.1
  subst hv
  have z1_a : (-128) ≤ z1 := hp.2.1
  have z1_b : z1 ≤ 127 := hp.2.2.1
  have w : WD D A s.heap [] H locs := w
  rcases hp.2.2.2 with hr
  · subst hr
    refine r_ishr (v := iI 6) M (by decide +kernel) dJ0_length_8abf5_9 ?_
    exact ret _ 6 _ _ _ _ _ [] dJ0_length_8abf5_10 ⟨rfl, (show (-2147483648) ≤ 6 from by decide), (show (6 : Int) ≤ 2147483647 from by decide), rfl⟩ w (by decide) rfl
set_option maxRecDepth 100000 in
set_option maxHeartbeats 4000000 in
theorem c230_J1_canEncode_9a6ad (l : Launch) (D : va_G) (T : Nat → ClassId) (sz : Nat) (x0 : Int) (x0_a : (-2147483648) ≤ x0) (x0_b : x0 ≤ 2147483647) : Met l yJ1_canEncode_9a6ad (Cond.code yJ1_canEncode_9a6ad cJ1_canEncode_9a6ad 1 (some .boolean) :: GW) (Rm 0 0 0) (cPre [.int (iI x0)] D T [] sz) (qI D [] sz (fun (v : Int32) (u : Int) => iI u = v ∧ 0 ≤ u ∧ u ≤ 1 ∧ ((x0 < 0 ∧ u = 0) ∨ (0 ≤ x0 ∧ 255 < x0 ∧ u = 0) ∨ (0 ≤ x0 ∧ x0 ≤ 255 ∧ u = 1))) (fun u => [])) 0 0 (va_A [] sz) := by
  refine e_Z (by decide) (Nat.le_of_ble_eq_true rfl) ?_
  intro p e s m args below meth c A Q ls M hin w ret hl
  have hx := M.1.1
  have hb := M.1.2.1
  have hl : lv_has ls 1 [(0, .int (iI x0))] := hl
  refine lv_iload_n hx hb dJ1_canEncode_9a6ad_0 rfl (lv_at hl 0 rfl) ?_
  refine lv_if_lt (tgt := 15) hx hb dJ1_canEncode_9a6ad_1 (by decide) (fun c_1 => ?_) (fun c_1 => ?_)
  · replace c_1 := (iz_lt (Int.le_trans (by decide) x0_a) (Int.le_trans x0_b (by decide))).mp c_1
    refine lv_iconst (v := iI 0) hx hb dJ1_canEncode_9a6ad_15 (by decide +kernel) ?_
    exact ret _ 0 _ _ _ _ _ [] dJ1_canEncode_9a6ad_16 (by decide +kernel) ⟨rfl, (show (0 : Int) ≤ 0 from by decide), (show (0 : Int) ≤ 1 from by decide), (Or.inl ⟨c_1, rfl⟩)⟩ w (by decide) rfl
  · replace c_1 : 0 ≤ x0 := Int.not_lt.mp (fun h => c_1 ((iz_lt (Int.le_trans (by decide) x0_a) (Int.le_trans x0_b (by decide))).mpr h))
    refine lv_iload_n hx hb dJ1_canEncode_9a6ad_4 rfl (lv_at hl 0 rfl) ?_
    refine lv_sipush (v := iI 255) hx hb dJ1_canEncode_9a6ad_5 (by decide +kernel) ?_
    refine lv_icmp_gt (tgt := 15) hx hb dJ1_canEncode_9a6ad_8 (by decide) (fun c_2 => ?_) (fun c_2 => ?_)
    · replace c_2 := (iI_lt (by decide) (by decide) (Int.le_trans (by decide) x0_a) (Int.le_trans x0_b (by decide))).mp c_2
      refine lv_iconst (v := iI 0) hx hb dJ1_canEncode_9a6ad_15 (by decide +kernel) ?_
      exact ret _ 0 _ _ _ _ _ [] dJ1_canEncode_9a6ad_16 (by decide +kernel) ⟨rfl, (show (0 : Int) ≤ 0 from by decide), (show (0 : Int) ≤ 1 from by decide), (Or.inr (Or.inl ⟨c_1, c_2, rfl⟩))⟩ w (by decide) rfl
    · replace c_2 : x0 ≤ 255 := Int.not_lt.mp (fun h => c_2 ((iI_lt (by decide) (by decide) (Int.le_trans (by decide) x0_a) (Int.le_trans x0_b (by decide))).mpr h))
      refine lv_iconst (v := iI 1) hx hb dJ1_canEncode_9a6ad_11 (by decide +kernel) ?_
      refine lv_goto (tgt := 16) hx hb dJ1_canEncode_9a6ad_12 (by decide) ?_
      exact ret _ 1 _ _ _ _ _ [] dJ1_canEncode_9a6ad_16 (by decide +kernel) ⟨rfl, (show (0 : Int) ≤ 1 from by decide), (show (1 : Int) ≤ 1 from by decide), (Or.inr (Or.inr (⟨c_1, c_2, rfl⟩)))⟩ w (by decide) rfl
set_option maxRecDepth 100000 in
set_option maxHeartbeats 4000000 in
theorem c231_J1_indexOfChar_4cfef (l : Launch) (D : va_G) (T : Nat → ClassId) (sz : Nat) (x0 : Int) (x0_a : (-2147483648) ≤ x0) (x0_b : x0 ≤ 2147483647) : Met l yJ1_indexOfChar_4cfef (Cond.code yJ1_indexOfChar_4cfef cJ1_indexOfChar_4cfef 6 (some .int) :: GW) (Rm 0 0 0) (cPre [.ref (T (60 + 0)), .int (iI x0), .int (iI 0), .int (iI 6)] D T [] sz) (qI D [] sz (fun (v : Int32) (u : Int) => iI u = v ∧ (-2147483648) ≤ u ∧ u ≤ 2147483647) (fun u => [])) 0 0 (va_A [] sz) := by
  refine e_I (by decide) (Nat.le_of_ble_eq_true rfl) ?_
  intro p e s m args below meth c A Q ls M hin w ret hl
  have hx := M.1.1
  have hb := M.1.2.1
  have hl : lv_has ls 6 [(0, .ref (T (60 + 0))), (1, .int (iI x0)), (2, .int (iI 0)), (3, .int (iI 6))] := hl
  refine lv_iload_n hx hb dJ1_indexOfChar_4cfef_0 rfl (lv_at hl 1 rfl) ?_
  refine lv_i2b (v := _) hx hb dJ1_indexOfChar_4cfef_1 rfl ?_
  refine b_any (fun z1 z1_a z1_b => ?_)
  refine lv_istore (lv' := [(4, .int (iI z1)), (0, .ref (T (60 + 0))), (1, .int (iI x0)), (2, .int (iI 0)), (3, .int (iI 6))]) hx hb dJ1_indexOfChar_4cfef_2 hl (by decide) rfl (fun ls hl => ?_)
  refine lv_iload_n hx hb dJ1_indexOfChar_4cfef_4 rfl (lv_at hl 3 rfl) ?_
  refine lv_istore (lv' := [(5, .int (iI 0)), (4, .int (iI z1)), (0, .ref (T (60 + 0))), (1, .int (iI x0)), (2, .int (iI 0)), (3, .int (iI 6))]) hx hb dJ1_indexOfChar_4cfef_5 hl (by decide) rfl (fun ls hl => ?_)
  have loop1 : ∀ (k1 : Nat) (z2 : Int) (H : Heap) (locs : List Loc) (ls : Array Slot), 0 ≤ z2 → z2 ≤ 2147483647 → ((6 - z2) : Int).toNat < k1 → WD D A s.heap [] H locs → lv_has ls 6 [(5, .int (iI z2)), (4, .int (iI z1)), (0, .ref (T (60 + 0))), (1, .int (iI x0)), (2, .int (iI 0)), (3, .int (iI 6))] → W p l e (Rm 0 0 0) s m args below meth c H locs 0 0 Q (F0 m 7 ls []) := by
    intro k1
    induction k1 with
    | zero => intro z2 H locs ls z2_a z2_b hm; exact absurd hm (Nat.not_lt_zero _)
    | succ k1 ih1 =>
      intro z2 H locs ls z2_a z2_b hm1 w hl
      refine lv_iload hx hb dJ1_indexOfChar_4cfef_7 (lv_at hl 0 rfl) ?_
      refine lv_iload_n hx hb dJ1_indexOfChar_4cfef_9 rfl (lv_at hl 5 rfl) ?_
      refine lv_icmp_ge (tgt := 31) hx hb dJ1_indexOfChar_4cfef_10 (by decide) (fun c_3 => ?_) (fun c_3 => ?_)
      · replace c_3 := (iI_le (by decide) (by decide) (Int.le_trans (by decide) z2_a) (Int.le_trans z2_b (by decide))).mp c_3
        refine lv_iconst (v := iI (-1)) hx hb dJ1_indexOfChar_4cfef_31 (by decide +kernel) ?_
        exact ret _ (-1) _ _ _ _ _ [] dJ1_indexOfChar_4cfef_32 ⟨rfl, (show (-2147483648) ≤ (-1) from by decide), (show ((-1) : Int) ≤ 2147483647 from by decide)⟩ w (by decide) rfl
      · replace c_3 : z2 < 6 := Int.not_le.mp (fun h => c_3 ((iI_le (by decide) (by decide) (Int.le_trans (by decide) z2_a) (Int.le_trans z2_b (by decide))).mpr h))
        refine lv_aload_n hx hb dJ1_indexOfChar_4cfef_13 rfl (lv_at hl 2 rfl) ?_
        refine lv_iload hx hb dJ1_indexOfChar_4cfef_14 (lv_at hl 0 rfl) ?_
        refine r_sbyt M w 0 rfl (show vp_in (iI z2) 6 from (iI_in (by omega) (by omega) (by decide))) dJ1_indexOfChar_4cfef_16 (fun fr4 => ?_)
        refine b_any (fun z5 z5_a z5_b => ?_)
        refine lv_iload hx hb dJ1_indexOfChar_4cfef_17 (lv_at hl 1 rfl) ?_
        refine lv_icmp_ne (tgt := 25) hx hb dJ1_indexOfChar_4cfef_19 (by decide) (fun c_6 => ?_) (fun c_6 => ?_)
        · replace c_6 : ¬ z5 = z1 := fun h => c_6 ((iI_eq (Int.le_trans (by decide) z5_a) (Int.le_trans z5_b (by decide)) (Int.le_trans (by decide) z1_a) (Int.le_trans z1_b (by decide))).mpr h)
          refine lv_iinc (v := iI (z2 + 1)) (lv' := [(5, .int (iI (z2 + 1))), (4, .int (iI z1)), (0, .ref (T (60 + 0))), (1, .int (iI x0)), (2, .int (iI 0)), (3, .int (iI 6))]) hx hb dJ1_indexOfChar_4cfef_25 hl (k := 0) rfl (ii_inc (by decide +kernel)) (by decide) rfl (fun ls hl => ?_)
          refine lv_goto (tgt := 7) hx hb dJ1_indexOfChar_4cfef_28 (by decide) ?_
          exact ih1 (z2 + 1) _ _ _ (by omega) (by omega) (by omega) w (lv_sub hl [0, 1, 2, 3, 4, 5] rfl)
        · replace c_6 := (iI_eq (Int.le_trans (by decide) z5_a) (Int.le_trans z5_b (by decide)) (Int.le_trans (by decide) z1_a) (Int.le_trans z1_b (by decide))).mp c_6
          refine lv_iload hx hb dJ1_indexOfChar_4cfef_22 (lv_at hl 0 rfl) ?_
          exact ret _ z2 _ _ _ _ _ [] dJ1_indexOfChar_4cfef_24 ⟨rfl, (show (-2147483648) ≤ z2 from by omega), (show z2 ≤ 2147483647 from by omega)⟩ w (by decide) rfl
  exact loop1 ((6 : Int).toNat + 1) 0 _ _ _ (by decide) (by decide) (Nat.lt_succ_self _) w (lv_sub hl [0, 1, 2, 3, 4, 5] rfl)
set_option maxRecDepth 100000 in
set_option maxHeartbeats 4000000 in
theorem c232_J1_indexOf_4cfef (l : Launch) (D : va_G) (T : Nat → ClassId) (sz : Nat) (x0 : Int) (x0_a : (-2147483648) ≤ x0) (x0_b : x0 ≤ 2147483647) : Met l yJ1_indexOf_4cfef (Cond.code yJ1_indexOf_4cfef cJ1_indexOf_4cfef 4 (some .int) :: GW) (Rm 1 0 0) (cPre [.ref (T (60 + 0)), .int (iI x0), .int (iI 0), .int (iI 6)] D T [] sz) (qI D [] sz (fun (v : Int32) (u : Int) => iI u = v ∧ (-2147483648) ≤ u ∧ u ≤ 2147483647 ∧ ((x0 < 0 ∧ u = (-1)) ∨ (0 ≤ x0 ∧ 255 < x0 ∧ u = (-1)) ∨ (0 ≤ x0 ∧ x0 ≤ 255))) (fun u => [])) 0 0 (va_A [] sz) := by
  refine e_I (by decide) (Nat.le_of_ble_eq_true rfl) ?_
  intro p e s m args below meth c A Q ls M hin w ret hl
  have hx := M.1.1
  have hb := M.1.2.1
  have hl : lv_has ls 4 [(0, .ref (T (60 + 0))), (1, .int (iI x0)), (2, .int (iI 0)), (3, .int (iI 6))] := hl
  refine lv_iload_n hx hb dJ1_indexOf_4cfef_0 rfl (lv_at hl 1 rfl) ?_
  refine k_I (ce := 0) (sl := 0) (rest := []) (wr := []) (r_S (f := 0) [] M w V_java_lang_StringLatin1_88 G635 (c230_J1_canEncode_9a6ad l D T _ x0 x0_a x0_b) rfl (by decide) rfl hl.1 rfl (Nat.le_of_ble_eq_true rfl) dJ1_indexOf_4cfef_1 (by decide) (by decide) (by decide) (by decide)) w [] [] rfl rfl (by decide) (by decide) rfl rfl (fun v z1 H locs hp w => ?_)
  have hv : iI z1 = v := hp.1
  subst hv
  have z1_a : 0 ≤ z1 := hp.2.1
  have z1_b : z1 ≤ 1 := hp.2.2.1
  have w : WD D A s.heap [] H locs := w
  rcases hp.2.2.2 with ⟨c_2, hr⟩ | ⟨c_3, c_4, hr⟩ | ⟨c_5, c_6, hr⟩
  · subst hr
    refine lv_if_ne (tgt := 9) hx hb dJ1_indexOf_4cfef_4 (by decide) (fun c => absurd (by decide +kernel) c) (fun _ => ?_)
    refine lv_iconst (v := iI (-1)) hx hb dJ1_indexOf_4cfef_7 (by decide +kernel) ?_
    exact ret _ (-1) _ _ _ _ _ [] dJ1_indexOf_4cfef_8 ⟨rfl, (show (-2147483648) ≤ (-1) from by decide), (show ((-1) : Int) ≤ 2147483647 from by decide), (Or.inl ⟨c_2, rfl⟩)⟩ w (by decide) rfl
  · subst hr
    refine lv_if_ne (tgt := 9) hx hb dJ1_indexOf_4cfef_4 (by decide) (fun c => absurd (by decide +kernel) c) (fun _ => ?_)
    refine lv_iconst (v := iI (-1)) hx hb dJ1_indexOf_4cfef_7 (by decide +kernel) ?_
    exact ret _ (-1) _ _ _ _ _ [] dJ1_indexOf_4cfef_8 ⟨rfl, (show (-2147483648) ≤ (-1) from by decide), (show ((-1) : Int) ≤ 2147483647 from by decide), (Or.inr (Or.inl ⟨c_3, c_4, rfl⟩))⟩ w (by decide) rfl
  · subst hr
    refine lv_if_ne (tgt := 9) hx hb dJ1_indexOf_4cfef_4 (by decide) (fun _ => ?_) (fun c => absurd c (by decide +kernel))
    refine lv_iload_n hx hb dJ1_indexOf_4cfef_9 rfl (lv_at hl 2 rfl) ?_
    refine lv_iconst (v := iI 0) hx hb dJ1_indexOf_4cfef_10 (by decide +kernel) ?_
    refine r_max (v := iI 0) M G637 G638 G136 G639 hl.1 (by decide) (Nat.le_of_ble_eq_true rfl) (by decide) (by decide) (by decide +kernel) dJ1_indexOf_4cfef_11 ?_
    refine lv_istore_n (lv' := [(2, .int (iI 0)), (0, .ref (T (60 + 0))), (1, .int (iI x0)), (3, .int (iI 6))]) hx hb dJ1_indexOf_4cfef_14 rfl hl (by decide) rfl (fun ls hl => ?_)
    refine lv_iload_n hx hb dJ1_indexOf_4cfef_15 rfl (lv_at hl 3 rfl) ?_
    refine lv_aload_n hx hb dJ1_indexOf_4cfef_16 rfl (lv_at hl 1 rfl) ?_
    refine r_slen M w 0 rfl (z := 6) (by decide +kernel) dJ1_indexOf_4cfef_17 ?_
    refine r_min (v := iI 6) M G640 G641 G136 G642 hl.1 (by decide) (Nat.le_of_ble_eq_true rfl) (by decide) (by decide) (by decide +kernel) dJ1_indexOf_4cfef_18 ?_
    refine lv_istore_n (lv' := [(3, .int (iI 6)), (2, .int (iI 0)), (0, .ref (T (60 + 0))), (1, .int (iI x0))]) hx hb dJ1_indexOf_4cfef_21 rfl hl (by decide) rfl (fun ls hl => ?_)
    refine lv_iload_n hx hb dJ1_indexOf_4cfef_22 rfl (lv_at hl 1 rfl) ?_
    refine lv_iload_n hx hb dJ1_indexOf_4cfef_23 rfl (lv_at hl 0 rfl) ?_
    refine lv_icmp_lt (tgt := 29) hx hb dJ1_indexOf_4cfef_24 (by decide) (fun _ => ?_) (fun c => absurd (by decide +kernel) c)
    refine lv_aload_n hx hb dJ1_indexOf_4cfef_29 rfl (lv_at hl 2 rfl) ?_
    refine lv_iload_n hx hb dJ1_indexOf_4cfef_30 rfl (lv_at hl 3 rfl) ?_
    refine lv_iload_n hx hb dJ1_indexOf_4cfef_31 rfl (lv_at hl 1 rfl) ?_
    refine lv_iload_n hx hb dJ1_indexOf_4cfef_32 rfl (lv_at hl 0 rfl) ?_
    refine k_I (ce := 0) (sl := 0) (rest := []) (wr := []) (r_S (f := 0) [] M w V_java_lang_StringLatin1_95 G644 (c231_J1_indexOfChar_4cfef l D T _ x0 x0_a x0_b) rfl (by decide) rfl hl.1 rfl (Nat.le_of_ble_eq_true rfl) dJ1_indexOf_4cfef_33 (by decide) (by decide) (by decide) (by decide)) w [] [] rfl rfl (by decide) (by decide) rfl rfl (fun v z7 H locs hp w => ?_)
    have hv : iI z7 = v := hp.1
    subst hv
    have z7_a : (-2147483648) ≤ z7 := hp.2.1
    have z7_b : z7 ≤ 2147483647 := hp.2.2
    have w : WD D A s.heap [] H locs := w
    exact ret _ z7 _ _ _ _ _ [] dJ1_indexOf_4cfef_36 ⟨rfl, z7_a, z7_b, (Or.inr (Or.inr (⟨c_5, c_6⟩)))⟩ w (by decide) rfl
set_option maxRecDepth 100000 in
set_option maxHeartbeats 4000000 in
theorem c233_J0_indexOf_7cf53 (l : Launch) (D : va_G) (T : Nat → ClassId) (sz : Nat) (x0 : Int) (x0_a : (-2147483648) ≤ x0) (x0_b : x0 ≤ 2147483647) : Met l yJ0_indexOf_7cf53 (Cond.code yJ0_indexOf_7cf53 cJ0_indexOf_7cf53 3 (some .int) :: GW) (Rm 2 0 0) (cPre [.ref (T (50 + 0)), .int (iI x0), .int (iI 0)] D T [] sz) (qI D [] sz (fun (v : Int32) (u : Int) => iI u = v ∧ (-2147483648) ≤ u ∧ u ≤ 2147483647 ∧ ((x0 < 0 ∧ u = (-1)) ∨ (0 ≤ x0 ∧ 255 < x0 ∧ u = (-1)) ∨ (0 ≤ x0 ∧ x0 ≤ 255))) (fun u => [])) 0 0 (va_A [] sz) := by
  refine e_I (by decide) (Nat.le_of_ble_eq_true rfl) ?_
  intro p e s m args below meth c A Q ls M hin w ret hl
  have hx := M.1.1
  have hb := M.1.2.1
  have hl : lv_has ls 3 [(0, .ref (T (50 + 0))), (1, .int (iI x0)), (2, .int (iI 0))] := hl
  refine lv_aload_n hx hb dJ0_indexOf_7cf53_0 rfl (lv_at hl 0 rfl) ?_
  refine k_I (ce := 0) (sl := 0) (rest := []) (wr := []) (r_VT (f := 0) [] M w V_java_lang_String_492 G618 G619 (c227_J0_isLatin1_aae02 l D T _) (M.2.2.2.2.2.2.1.2 0 _ rfl).1 rfl (by decide) rfl hl.1 rfl (Nat.le_of_ble_eq_true rfl) dJ0_indexOf_7cf53_1 (by decide) (by decide) (by decide) (by decide)) w [] [] rfl rfl (by decide) (by decide) rfl rfl (fun v z1 H locs hp w => ?_)
  have hv : iI z1 = v := hp.1
  subst hv
  have z1_a : 0 ≤ z1 := hp.2.1
  have z1_b : z1 ≤ 1 := hp.2.2.1
  have w : WD D A s.heap [] H locs := w
  rcases hp.2.2.2 with hr
  · subst hr
    refine lv_if_eq (tgt := 23) hx hb dJ0_indexOf_7cf53_4 (by decide) (fun c => absurd c (by decide +kernel)) (fun _ => ?_)
    refine lv_aload_n hx hb dJ0_indexOf_7cf53_7 rfl (lv_at hl 0 rfl) ?_
    refine r_sval M w 0 rfl G2086 dJ0_indexOf_7cf53_8 ?_
    refine lv_iload_n hx hb dJ0_indexOf_7cf53_11 rfl (lv_at hl 1 rfl) ?_
    refine lv_iload_n hx hb dJ0_indexOf_7cf53_12 rfl (lv_at hl 2 rfl) ?_
    refine lv_aload_n hx hb dJ0_indexOf_7cf53_13 rfl (lv_at hl 0 rfl) ?_
    refine k_I (ce := 0) (sl := 0) (rest := [.int (iI 0), .int (iI x0), .ref (T (60 + 0))]) (wr := []) (r_VT (f := 1) [] M w V_java_lang_String_505 G624 G625 (c229_J0_length_8abf5 l D T _) (M.2.2.2.2.2.2.1.2 0 _ rfl).1 rfl (by decide) rfl hl.1 rfl (Nat.le_of_ble_eq_true rfl) dJ0_indexOf_7cf53_14 (by decide) (by decide) (by decide) (by decide)) w [] [] rfl rfl (by decide) (by decide) rfl rfl (fun v z2 H locs hp w => ?_)
    have hv : iI z2 = v := hp.1
    subst hv
    have z2_a : (-2147483648) ≤ z2 := hp.2.1
    have z2_b : z2 ≤ 2147483647 := hp.2.2.1
    have w : WD D A s.heap [] H locs := w
    rcases hp.2.2.2 with hr
    · subst hr
      refine k_I (ce := 0) (sl := 0) (rest := []) (wr := []) (r_S (f := 1) [] M w V_java_lang_String_637 G632 (c232_J1_indexOf_4cfef l D T _ x0 x0_a x0_b) rfl (by decide) rfl hl.1 rfl (Nat.le_of_ble_eq_true rfl) dJ0_indexOf_7cf53_17 (by decide) (by decide) (by decide) (by decide)) w [] [] rfl rfl (by decide) (by decide) rfl rfl (fun v z3 H locs hp w => ?_)
      have hv : iI z3 = v := hp.1
      subst hv
      have z3_a : (-2147483648) ≤ z3 := hp.2.1
      have z3_b : z3 ≤ 2147483647 := hp.2.2.1
      have w : WD D A s.heap [] H locs := w
      rcases hp.2.2.2 with ⟨c_4, hr⟩ | ⟨c_5, c_6, hr⟩ | ⟨c_7, c_8⟩
      · subst hr
        refine lv_goto (tgt := 36) hx hb dJ0_indexOf_7cf53_20 (by decide) ?_
        exact ret _ (-1) _ _ _ _ _ [] dJ0_indexOf_7cf53_36 ⟨rfl, (show (-2147483648) ≤ (-1) from by decide), (show ((-1) : Int) ≤ 2147483647 from by decide), (Or.inl ⟨c_4, rfl⟩)⟩ w (by decide) rfl
      · subst hr
        refine lv_goto (tgt := 36) hx hb dJ0_indexOf_7cf53_20 (by decide) ?_
        exact ret _ (-1) _ _ _ _ _ [] dJ0_indexOf_7cf53_36 ⟨rfl, (show (-2147483648) ≤ (-1) from by decide), (show ((-1) : Int) ≤ 2147483647 from by decide), (Or.inr (Or.inl ⟨c_5, c_6, rfl⟩))⟩ w (by decide) rfl
      · refine lv_goto (tgt := 36) hx hb dJ0_indexOf_7cf53_20 (by decide) ?_
        exact ret _ z3 _ _ _ _ _ [] dJ0_indexOf_7cf53_36 ⟨rfl, z3_a, z3_b, (Or.inr (Or.inr (⟨c_7, c_8⟩)))⟩ w (by decide) rfl
set_option maxRecDepth 100000 in
set_option maxHeartbeats 4000000 in
theorem c234_J0_indexOf_0f7a4 (l : Launch) (D : va_G) (T : Nat → ClassId) (sz : Nat) (x0 : Int) (x0_a : (-2147483648) ≤ x0) (x0_b : x0 ≤ 2147483647) : Met l yJ0_indexOf_0f7a4 (Cond.code yJ0_indexOf_0f7a4 cJ0_indexOf_0f7a4 2 (some .int) :: GW) (Rm 3 0 0) (cPre [.ref (T (50 + 0)), .int (iI x0)] D T [] sz) (qI D [] sz (fun (v : Int32) (u : Int) => iI u = v ∧ (-2147483648) ≤ u ∧ u ≤ 2147483647 ∧ ((x0 < 0 ∧ u = (-1)) ∨ (0 ≤ x0 ∧ 255 < x0 ∧ u = (-1)) ∨ (0 ≤ x0 ∧ x0 ≤ 255))) (fun u => [])) 0 0 (va_A [] sz) := by
  refine e_I (by decide) (Nat.le_of_ble_eq_true rfl) ?_
  intro p e s m args below meth c A Q ls M hin w ret hl
  have hx := M.1.1
  have hb := M.1.2.1
  have hl : lv_has ls 2 [(0, .ref (T (50 + 0))), (1, .int (iI x0))] := hl
  refine lv_aload_n hx hb dJ0_indexOf_0f7a4_0 rfl (lv_at hl 0 rfl) ?_
  refine lv_iload_n hx hb dJ0_indexOf_0f7a4_1 rfl (lv_at hl 1 rfl) ?_
  refine lv_iconst (v := iI 0) hx hb dJ0_indexOf_0f7a4_2 (by decide +kernel) ?_
  refine k_I (ce := 0) (sl := 0) (rest := []) (wr := []) (r_VT (f := 2) [] M w V_java_lang_String_633 G614 G615 (c233_J0_indexOf_7cf53 l D T _ x0 x0_a x0_b) (M.2.2.2.2.2.2.1.2 0 _ rfl).1 rfl (by decide) rfl hl.1 rfl (Nat.le_of_ble_eq_true rfl) dJ0_indexOf_0f7a4_3 (by decide) (by decide) (by decide) (by decide)) w [] [] rfl rfl (by decide) (by decide) rfl rfl (fun v z1 H locs hp w => ?_)
  have hv : iI z1 = v := hp.1
  subst hv
  have z1_a : (-2147483648) ≤ z1 := hp.2.1
  have z1_b : z1 ≤ 2147483647 := hp.2.2.1
  have w : WD D A s.heap [] H locs := w
  rcases hp.2.2.2 with ⟨c_2, hr⟩ | ⟨c_3, c_4, hr⟩ | ⟨c_5, c_6⟩
  · subst hr
    exact ret _ (-1) _ _ _ _ _ [] dJ0_indexOf_0f7a4_6 ⟨rfl, (show (-2147483648) ≤ (-1) from by decide), (show ((-1) : Int) ≤ 2147483647 from by decide), (Or.inl ⟨c_2, rfl⟩)⟩ w (by decide) rfl
  · subst hr
    exact ret _ (-1) _ _ _ _ _ [] dJ0_indexOf_0f7a4_6 ⟨rfl, (show (-2147483648) ≤ (-1) from by decide), (show ((-1) : Int) ≤ 2147483647 from by decide), (Or.inr (Or.inl ⟨c_3, c_4, rfl⟩))⟩ w (by decide) rfl
  · exact ret _ z1 _ _ _ _ _ [] dJ0_indexOf_0f7a4_6 ⟨rfl, z1_a, z1_b, (Or.inr (Or.inr (⟨c_5, c_6⟩)))⟩ w (by decide) rfl
set_option maxRecDepth 100000 in
set_option maxHeartbeats 4000000 in
theorem c235_X10_spelt (l : Launch) (D : va_G) (T : Nat → ClassId) (sz : Nat) (y0 : Int64) : Met l yX10_spelt (Cond.code yX10_spelt cX10_spelt 3 (some (.object "HookedCity$Word")) :: GW) (Rm 0 0 0) (cPre [.long y0] D T [] sz) (qQ D [] sz (fun (v : Option Nat) (u : Option Nat) => u = v ∧ wok T u) (fun u => [])) 0 0 (va_A [] sz) := by
  refine e_Q (by decide) (Nat.le_of_ble_eq_true rfl) ?_
  intro p e s m args below meth c A Q ls M hin w ret hl
  have hx := M.1.1
  have hb := M.1.2.1
  have hl : lv_has ls 3 [(0, .long y0)] := hl
  refine lv_iconst (v := iI 0) hx hb dX10_spelt_0 (by decide +kernel) ?_
  refine lv_istore_n (lv' := [(2, .int (iI 0)), (0, .long y0)]) hx hb dX10_spelt_1 rfl hl (by decide) rfl (fun ls hl => ?_)
  have loop1 : ∀ (k1 : Nat) (z1 : Int) (H : Heap) (locs : List Loc) (ls : Array Slot), 0 ≤ z1 → z1 ≤ 27 → ((27 - z1) : Int).toNat < k1 → WD D A s.heap [] H locs → lv_has ls 3 [(2, .int (iI z1)), (0, .long y0)] → W p l e (Rm 0 0 0) s m args below meth c H locs 0 0 Q (F0 m 2 ls []) := by
    intro k1
    induction k1 with
    | zero => intro z1 H locs ls z1_a z1_b hm; exact absurd hm (Nat.not_lt_zero _)
    | succ k1 ih1 =>
      intro z1 H locs ls z1_a z1_b hm1 w hl
      refine lv_iload_n hx hb dX10_spelt_2 rfl (lv_at hl 0 rfl) ?_
      refine r_getAll M w G606 dX10_spelt_3 ?_
      refine r_allLen M w dX10_spelt_6 ?_
      refine lv_icmp_ge (tgt := 35) hx hb dX10_spelt_7 (by decide) (fun c_2 => ?_) (fun c_2 => ?_)
      · replace c_2 := (iI_le (by decide) (by decide) (Int.le_trans (by decide) z1_a) (Int.le_trans z1_b (by decide))).mp c_2
        refine lv_null hx hb dX10_spelt_35 ?_
        exact ret none none _ _ _ _ _ [] dX10_spelt_36 ⟨rfl, wok_n⟩ w (by decide) rfl
      · replace c_2 : z1 < 27 := Int.not_le.mp (fun h => c_2 ((iI_le (by decide) (by decide) (Int.le_trans (by decide) z1_a) (Int.le_trans z1_b (by decide))).mpr h))
        refine r_getAll M w G606 dX10_spelt_10 ?_
        refine lv_iload_n hx hb dX10_spelt_13 rfl (lv_at hl 0 rfl) ?_
        refine r_allAt M w (by omega) (by omega) dX10_spelt_14 (fun qq3 qq3_h => ?_)
        refine r_wlet M w qq3_h G2084 dX10_spelt_15 (fun fy4 => ?_)
        refine lv_lload_n hx hb dX10_spelt_18 rfl (lv_at hl 1 rfl) ?_
        refine r_lcmp (v := _) M rfl dX10_spelt_19 ?_
        refine b_any (fun z5 z5_a z5_b => ?_)
        refine lv_if_ne (tgt := 29) hx hb dX10_spelt_20 (by decide) (fun c_6 => ?_) (fun c_6 => ?_)
        · replace c_6 : ¬ z5 = 0 := fun h => c_6 ((iz_eq (Int.le_trans (by decide) z5_a) (Int.le_trans z5_b (by decide))).mpr h)
          refine lv_iinc (v := iI (z1 + 1)) (lv' := [(2, .int (iI (z1 + 1))), (0, .long y0)]) hx hb dX10_spelt_29 hl (k := 0) rfl (ii_inc (by decide +kernel)) (by decide) rfl (fun ls hl => ?_)
          refine lv_goto (tgt := 2) hx hb dX10_spelt_32 (by decide) ?_
          exact ih1 (z1 + 1) _ _ _ (by omega) (by omega) (by omega) w (lv_sub hl [0, 1] rfl)
        · replace c_6 := (iz_eq (Int.le_trans (by decide) z5_a) (Int.le_trans z5_b (by decide))).mp c_6
          refine r_getAll M w G606 dX10_spelt_23 ?_
          refine lv_iload_n hx hb dX10_spelt_26 rfl (lv_at hl 0 rfl) ?_
          refine r_allAt M w (by omega) (by omega) dX10_spelt_27 (fun qq7 qq7_h => ?_)
          exact ret (some qq7) (some qq7) _ _ _ _ _ [] dX10_spelt_28 ⟨rfl, qq7_h⟩ w (by decide) rfl
  exact loop1 ((27 : Int).toNat + 1) 0 _ _ _ (by decide) (by decide) (Nat.lt_succ_self _) w (lv_sub hl [0, 1] rfl)
set_option maxRecDepth 100000 in
set_option maxHeartbeats 4000000 in
theorem c236_X8_longer (l : Launch) (D : va_G) (T : Nat → ClassId) (sz : Nat) (y0 : Int64) (x0 : Int) (x0_a : (-2147483648) ≤ x0) (x0_b : x0 ≤ 2147483647) : Met l yX8_longer (Cond.code yX8_longer cX8_longer 3 (some .long) :: GW) (Rm 0 0 0) (cPre [.long y0, .int (iI x0)] D T [] sz) (qL D [] sz (fun (v : Int64) (u : Unit) => True) (fun u => [])) 0 0 (va_A [] sz) := by
  refine e_L (by decide) (Nat.le_of_ble_eq_true rfl) ?_
  intro p e s m args below meth c A Q ls M hin w ret hl
  have hx := M.1.1
  have hb := M.1.2.1
  have hl : lv_has ls 3 [(0, .long y0), (2, .int (iI x0))] := hl
  refine lv_lload_n hx hb dX8_longer_0 rfl (lv_at hl 0 rfl) ?_
  refine lv_iconst (v := iI 5) hx hb dX8_longer_1 (by decide +kernel) ?_
  refine lv_lshl (v := _) hx hb dX8_longer_2 rfl ?_
  refine b_anyl (fun fy1 => ?_)
  refine lv_iload_n hx hb dX8_longer_3 rfl (lv_at hl 1 rfl) ?_
  refine lv_bipush (v := iI 97) hx hb dX8_longer_4 (by decide +kernel) ?_
  refine r_isub (v := _) M rfl dX8_longer_6 ?_
  refine b_any (fun z2 z2_a z2_b => ?_)
  refine lv_iconst (v := iI 1) hx hb dX8_longer_7 (by decide +kernel) ?_
  refine r_iadd (v := _) M rfl dX8_longer_8 ?_
  refine b_any (fun z3 z3_a z3_b => ?_)
  refine lv_i2l (v := _) hx hb dX8_longer_9 rfl ?_
  refine b_anyl (fun fy4 => ?_)
  refine r_lor (v := _) M rfl dX8_longer_10 ?_
  refine b_anyl (fun fy5 => ?_)
  exact ret _ () _ _ _ _ _ [] dX8_longer_11 trivial w (by decide) rfl
set_option maxRecDepth 100000 in
set_option maxHeartbeats 4000000 in
theorem c237_X8_readRun (l : Launch) (D : va_G) (T : Nat → ClassId) (sz : Nat) (a0 : Nat) (a1 : Nat) (x0 : Int) (r0 : Int32) (x1 : Int) (r1 : Int32) (r2 : Int32) (o0 : Option Nat) (y0 : Int64) (r3 : Int32) (r4 : Int32) (r5 : Int32) (r6 : Int32) (f0 : Nat → Int32) (x0_a : 0 ≤ x0) (x0_b : x0 ≤ 940) (x1_a : 0 ≤ x1) (x1_b : x1 ≤ 940) (o0_h : wok T o0) : Met l yX8_readRun (Cond.code yX8_readRun cX8_readRun 4 none :: GW) (Rm 1 0 0) (cPre [.ref a0] D T [(a0, .inr (8, [.ref a1, .int (iI x0), .int r0, .int (iI x1), .int r1, .int r2, (va_rf o0), .long y0, .int r3, .int r4, .int r5, .int r6])), (a1, .inl (T 0, 940, .inl f0))] sz) (qV D [(a0, .inr (8, [.ref a1, .int (iI x0), .int r0, .int (iI x1), .int r1, .int r2, (va_rf o0), .long y0, .int r3, .int r4, .int r5, .int r6])), (a1, .inl (T 0, 940, .inl f0))] sz (fun (u : Int × Int32 × Option Nat × Int64 × Int32) => 0 ≤ u.1 ∧ u.1 ≤ 940 ∧ wok T u.2.2.1) (fun u => [(a0, .inr (8, [.ref a1, .int (iI x0), .int r0, .int (iI u.1), .int r1, .int u.2.1, (va_rf u.2.2.1), .long u.2.2.2.1, .int u.2.2.2.2, .int r4, .int r5, .int r6])), (a1, .inl (T 0, 940, .inl f0))])) 0 0 (va_A [(a0, .inr (8, [.ref a1, .int (iI x0), .int r0, .int (iI x1), .int r1, .int r2, (va_rf o0), .long y0, .int r3, .int r4, .int r5, .int r6])), (a1, .inl (T 0, 940, .inl f0))] sz) := by
  refine e_V (by decide) (Nat.le_of_ble_eq_true rfl) ?_
  intro p e s m args below meth c A Q ls M hin w ret hl
  have hx := M.1.1
  have hb := M.1.2.1
  have hl : lv_has ls 4 [(0, .ref a0)] := hl
  refine lv_iconst (v := iI 0) hx hb dX8_readRun_0 (by decide +kernel) ?_
  refine lv_istore_n (lv' := [(1, .int (iI 0)), (0, .ref a0)]) hx hb dX8_readRun_1 rfl hl (by decide) rfl (fun ls hl => ?_)
  refine lv_iconst (v := iI 0) hx hb dX8_readRun_2 (by decide +kernel) ?_
  refine lv_istore_n (lv' := [(2, .int (iI 0)), (1, .int (iI 0)), (0, .ref a0)]) hx hb dX8_readRun_3 rfl hl (by decide) rfl (fun ls hl => ?_)
  refine lv_aload_n hx hb dX8_readRun_4 rfl (lv_at hl 2 rfl) ?_
  refine lv_lconst (v := 0) hx hb dX8_readRun_5 (by decide) ?_
  refine r_put (ws' := [(a0, .inr (8, [.ref a1, .int (iI x0), .int r0, .int (iI x1), .int r1, .int r2, (va_rf o0), .long 0, .int r3, .int r4, .int r5, .int r6])), (a1, .inl (T 0, 940, .inl f0))]) M w 0 7 clX8 rfl (by decide) G174 rfl rfl rfl rfl (Nat.le_of_ble_eq_true rfl) rfl dX8_readRun_6 (fun H locs w => ?_)
  refine lv_aload_n hx hb dX8_readRun_9 rfl (lv_at hl 2 rfl) ?_
  refine lv_iconst (v := iI 0) hx hb dX8_readRun_10 (by decide +kernel) ?_
  refine r_put (ws' := [(a0, .inr (8, [.ref a1, .int (iI x0), .int r0, .int (iI x1), .int r1, .int r2, (va_rf o0), .long 0, .int (iI 0), .int r4, .int r5, .int r6])), (a1, .inl (T 0, 940, .inl f0))]) M w 0 8 clX8 rfl (by decide) G176 rfl rfl rfl rfl (Nat.le_of_ble_eq_true rfl) rfl dX8_readRun_11 (fun H locs w => ?_)
  have loop1 : ∀ (k1 : Nat) (z1 : Int) (fy2 : Int64) (fr3 : Int32) (z4 : Int) (z5 : Int) (H : Heap) (locs : List Loc) (ls : Array Slot), 0 ≤ z1 → z1 ≤ 940 → 0 ≤ z4 → z4 ≤ 940 → 0 ≤ z5 → z5 ≤ 940 → 0 ≤ ((z1 - z5) - z4) → ((x0 - z1) : Int).toNat < k1 → WD D A s.heap [(a0, .inr (8, [.ref a1, .int (iI x0), .int r0, .int (iI z1), .int r1, .int r2, (va_rf o0), .long fy2, .int fr3, .int r4, .int r5, .int r6])), (a1, .inl (T 0, 940, .inl f0))] H locs → lv_has ls 4 [(2, .int (iI z4)), (1, .int (iI z5)), (0, .ref a0)] → W p l e (Rm 1 0 0) s m args below meth c H locs 0 0 Q (F0 m 14 ls []) := by
    intro k1
    induction k1 with
    | zero => intro z1 fy2 fr3 z4 z5 H locs ls z1_a z1_b z4_a z4_b z5_a z5_b q1_0 hm; exact absurd hm (Nat.not_lt_zero _)
    | succ k1 ih1 =>
      intro z1 fy2 fr3 z4 z5 H locs ls z1_a z1_b z4_a z4_b z5_a z5_b q1_0 hm1 w hl
      refine lv_aload_n hx hb dX8_readRun_14 rfl (lv_at hl 2 rfl) ?_
      refine r_get (v := .int (iI z1)) M w 0 3 clX8 rfl (by decide) G166 rfl rfl dX8_readRun_15 ?_
      refine lv_aload_n hx hb dX8_readRun_18 rfl (lv_at hl 2 rfl) ?_
      refine r_get (v := .int (iI x0)) M w 0 1 clX8 rfl (by decide) G162 rfl rfl dX8_readRun_19 ?_
      refine lv_icmp_ge (tgt := 99) hx hb dX8_readRun_22 (by decide) (fun c_6 => ?_) (fun c_6 => ?_)
      · replace c_6 := (iI_le (Int.le_trans (by decide) x0_a) (Int.le_trans x0_b (by decide)) (Int.le_trans (by decide) z1_a) (Int.le_trans z1_b (by decide))).mp c_6
        refine lv_aload_n hx hb dX8_readRun_99 rfl (lv_at hl 2 rfl) ?_
        refine lv_iconst (v := iI 1) hx hb dX8_readRun_100 (by decide +kernel) ?_
        refine r_put (ws' := [(a0, .inr (8, [.ref a1, .int (iI x0), .int r0, .int (iI z1), .int r1, .int (iI 1), (va_rf o0), .long fy2, .int fr3, .int r4, .int r5, .int r6])), (a1, .inl (T 0, 940, .inl f0))]) M w 0 5 clX8 rfl (by decide) G168 rfl rfl rfl rfl (Nat.le_of_ble_eq_true rfl) rfl dX8_readRun_101 (fun H locs w => ?_)
        refine lv_iload_n hx hb dX8_readRun_104 rfl (lv_at hl 0 rfl) ?_
        refine lv_if_ne (tgt := 144) hx hb dX8_readRun_105 (by decide) (fun c_7 => ?_) (fun c_7 => ?_)
        · replace c_7 : ¬ z4 = 0 := fun h => c_7 ((iz_eq (Int.le_trans (by decide) z4_a) (Int.le_trans z4_b (by decide))).mpr h)
          refine lv_iload_n hx hb dX8_readRun_144 rfl (lv_at hl 1 rfl) ?_
          refine lv_if_ne (tgt := 158) hx hb dX8_readRun_145 (by decide) (fun c_8 => ?_) (fun c_8 => ?_)
          · replace c_8 : ¬ z5 = 0 := fun h => c_8 ((iz_eq (Int.le_trans (by decide) z5_a) (Int.le_trans z5_b (by decide))).mpr h)
            exact ret (z1, (iI 1), o0, fy2, fr3) _ _ _ _ _ [0, 1] dX8_readRun_158 ⟨z1_a, z1_b, o0_h⟩ w (by decide) rfl
          · replace c_8 := (iz_eq (Int.le_trans (by decide) z5_a) (Int.le_trans z5_b (by decide))).mp c_8
            refine lv_iload_n hx hb dX8_readRun_148 rfl (lv_at hl 0 rfl) ?_
            refine lv_iconst (v := iI 3) hx hb dX8_readRun_149 (by decide +kernel) ?_
            refine lv_icmp_gt (tgt := 158) hx hb dX8_readRun_150 (by decide) (fun c_9 => ?_) (fun c_9 => ?_)
            · replace c_9 := (iI_lt (by decide) (by decide) (Int.le_trans (by decide) z4_a) (Int.le_trans z4_b (by decide))).mp c_9
              exact ret (z1, (iI 1), o0, fy2, fr3) _ _ _ _ _ [0, 1] dX8_readRun_158 ⟨z1_a, z1_b, o0_h⟩ w (by decide) rfl
            · replace c_9 : z4 ≤ 3 := Int.not_lt.mp (fun h => c_9 ((iI_lt (by decide) (by decide) (Int.le_trans (by decide) z4_a) (Int.le_trans z4_b (by decide))).mpr h))
              refine lv_aload_n hx hb dX8_readRun_153 rfl (lv_at hl 2 rfl) ?_
              refine lv_iconst (v := iI 4) hx hb dX8_readRun_154 (by decide +kernel) ?_
              refine r_put (ws' := [(a0, .inr (8, [.ref a1, .int (iI x0), .int r0, .int (iI z1), .int r1, .int (iI 4), (va_rf o0), .long fy2, .int fr3, .int r4, .int r5, .int r6])), (a1, .inl (T 0, 940, .inl f0))]) M w 0 5 clX8 rfl (by decide) G168 rfl rfl rfl rfl (Nat.le_of_ble_eq_true rfl) rfl dX8_readRun_155 (fun H locs w => ?_)
              exact ret (z1, (iI 4), o0, fy2, fr3) _ _ _ _ _ [0, 1] dX8_readRun_158 ⟨z1_a, z1_b, o0_h⟩ w (by decide) rfl
        · replace c_7 := (iz_eq (Int.le_trans (by decide) z4_a) (Int.le_trans z4_b (by decide))).mp c_7
          refine lv_iload_n hx hb dX8_readRun_108 rfl (lv_at hl 1 rfl) ?_
          refine lv_bipush (v := iI 7) hx hb dX8_readRun_109 (by decide +kernel) ?_
          refine lv_icmp_gt (tgt := 144) hx hb dX8_readRun_111 (by decide) (fun c_10 => ?_) (fun c_10 => ?_)
          · replace c_10 := (iI_lt (by decide) (by decide) (Int.le_trans (by decide) z5_a) (Int.le_trans z5_b (by decide))).mp c_10
            refine lv_iload_n hx hb dX8_readRun_144 rfl (lv_at hl 1 rfl) ?_
            refine lv_if_ne (tgt := 158) hx hb dX8_readRun_145 (by decide) (fun c_11 => ?_) (fun c_11 => ?_)
            · replace c_11 : ¬ z5 = 0 := fun h => c_11 ((iz_eq (Int.le_trans (by decide) z5_a) (Int.le_trans z5_b (by decide))).mpr h)
              exact ret (z1, (iI 1), o0, fy2, fr3) _ _ _ _ _ [0, 1] dX8_readRun_158 ⟨z1_a, z1_b, o0_h⟩ w (by decide) rfl
            · replace c_11 := (iz_eq (Int.le_trans (by decide) z5_a) (Int.le_trans z5_b (by decide))).mp c_11
              exfalso; omega
          · replace c_10 : z5 ≤ 7 := Int.not_lt.mp (fun h => c_10 ((iI_lt (by decide) (by decide) (Int.le_trans (by decide) z5_a) (Int.le_trans z5_b (by decide))).mpr h))
            refine lv_aload_n hx hb dX8_readRun_114 rfl (lv_at hl 2 rfl) ?_
            refine lv_aload_n hx hb dX8_readRun_115 rfl (lv_at hl 2 rfl) ?_
            refine r_get (v := .long fy2) M w 0 7 clX8 rfl (by decide) G174 rfl rfl dX8_readRun_116 ?_
            refine k_Q (ce := 0) (sl := 0) (rest := [.ref a0]) (wr := [(a0, .inr (8, [.ref a1, .int (iI x0), .int r0, .int (iI z1), .int r1, .int (iI 1), (va_rf o0), .long fy2, .int fr3, .int r4, .int r5, .int r6])), (a1, .inl (T 0, 940, .inl f0))]) (r_S (f := 0) [] M w V_HookedCity_Tape_80 G604 (c235_X10_spelt l D T _ fy2) rfl (by decide) rfl hl.1 rfl (Nat.le_of_ble_eq_true rfl) dX8_readRun_119 (by decide) (by decide) (by decide) (by decide)) w [] [0, 1] rfl rfl (by decide) (by decide) rfl rfl (fun v fo12 H locs hp w => ?_)
            have hv : fo12 = v := hp.1
            subst hv
            have fo12_h : wok T fo12 := hp.2
            have w : WD D A s.heap [(a0, .inr (8, [.ref a1, .int (iI x0), .int r0, .int (iI z1), .int r1, .int (iI 1), (va_rf o0), .long fy2, .int fr3, .int r4, .int r5, .int r6])), (a1, .inl (T 0, 940, .inl f0))] H locs := w
            cases fo12 with
            | none =>
              refine r_put (ws' := [(a0, .inr (8, [.ref a1, .int (iI x0), .int r0, .int (iI z1), .int r1, .int (iI 1), .null, .long fy2, .int fr3, .int r4, .int r5, .int r6])), (a1, .inl (T 0, 940, .inl f0))]) M w 0 6 clX8 rfl (by decide) G170 rfl rfl rfl rfl (Nat.le_of_ble_eq_true rfl) rfl dX8_readRun_122 (fun H locs w => ?_)
              refine lv_aload_n hx hb dX8_readRun_125 rfl (lv_at hl 2 rfl) ?_
              refine lv_aload_n hx hb dX8_readRun_126 rfl (lv_at hl 2 rfl) ?_
              refine r_get (v := .null) M w 0 6 clX8 rfl (by decide) G170 rfl rfl dX8_readRun_127 ?_
              refine lv_ifnonnullN hx hb dX8_readRun_130 ?_
              refine lv_iconst (v := iI 3) hx hb dX8_readRun_133 (by decide +kernel) ?_
              refine lv_goto (tgt := 138) hx hb dX8_readRun_134 (by decide) ?_
              refine r_put (ws' := [(a0, .inr (8, [.ref a1, .int (iI x0), .int r0, .int (iI z1), .int r1, .int (iI 3), .null, .long fy2, .int fr3, .int r4, .int r5, .int r6])), (a1, .inl (T 0, 940, .inl f0))]) M w 0 5 clX8 rfl (by decide) G168 rfl rfl rfl rfl (Nat.le_of_ble_eq_true rfl) rfl dX8_readRun_138 (fun H locs w => ?_)
              refine lv_goto (tgt := 158) hx hb dX8_readRun_141 (by decide) ?_
              exact ret (z1, (iI 3), none, fy2, fr3) _ _ _ _ _ [0, 1] dX8_readRun_158 ⟨z1_a, z1_b, wok_n⟩ w (by decide) rfl
            | some qq13 =>
              refine r_put (ws' := [(a0, .inr (8, [.ref a1, .int (iI x0), .int r0, .int (iI z1), .int r1, .int (iI 1), .ref qq13, .long fy2, .int fr3, .int r4, .int r5, .int r6])), (a1, .inl (T 0, 940, .inl f0))]) M w 0 6 clX8 rfl (by decide) G170 rfl rfl rfl rfl (Nat.le_of_ble_eq_true rfl) rfl dX8_readRun_122 (fun H locs w => ?_)
              refine lv_aload_n hx hb dX8_readRun_125 rfl (lv_at hl 2 rfl) ?_
              refine lv_aload_n hx hb dX8_readRun_126 rfl (lv_at hl 2 rfl) ?_
              refine r_get (v := .ref qq13) M w 0 6 clX8 rfl (by decide) G170 rfl rfl dX8_readRun_127 ?_
              refine lv_ifnonnull (tgt := 137) hx hb dX8_readRun_130 (by decide) ?_
              refine lv_iconst (v := iI 2) hx hb dX8_readRun_137 (by decide +kernel) ?_
              refine r_put (ws' := [(a0, .inr (8, [.ref a1, .int (iI x0), .int r0, .int (iI z1), .int r1, .int (iI 2), .ref qq13, .long fy2, .int fr3, .int r4, .int r5, .int r6])), (a1, .inl (T 0, 940, .inl f0))]) M w 0 5 clX8 rfl (by decide) G168 rfl rfl rfl rfl (Nat.le_of_ble_eq_true rfl) rfl dX8_readRun_138 (fun H locs w => ?_)
              refine lv_goto (tgt := 158) hx hb dX8_readRun_141 (by decide) ?_
              exact ret (z1, (iI 2), (some qq13), fy2, fr3) _ _ _ _ _ [0, 1] dX8_readRun_158 ⟨z1_a, z1_b, fo12_h⟩ w (by decide) rfl
      · replace c_6 : z1 < x0 := Int.not_le.mp (fun h => c_6 ((iI_le (Int.le_trans (by decide) x0_a) (Int.le_trans x0_b (by decide)) (Int.le_trans (by decide) z1_a) (Int.le_trans z1_b (by decide))).mpr h))
        refine lv_aload_n hx hb dX8_readRun_25 rfl (lv_at hl 2 rfl) ?_
        refine r_get (v := .ref a1) M w 0 0 clX8 rfl (by decide) G160 rfl rfl dX8_readRun_26 ?_
        refine lv_aload_n hx hb dX8_readRun_29 rfl (lv_at hl 2 rfl) ?_
        refine r_get (v := .int (iI z1)) M w 0 3 clX8 rfl (by decide) G166 rfl rfl dX8_readRun_30 ?_
        refine r_iald (v := _) M w 1 rfl (iI_in (by omega) (by omega) (by decide)) rfl dX8_readRun_33 ?_
        refine b_any (fun z14 z14_a z14_b => ?_)
        refine lv_istore_n (lv' := [(3, .int (iI z14)), (2, .int (iI z4)), (1, .int (iI z5)), (0, .ref a0)]) hx hb dX8_readRun_34 rfl hl (by decide) rfl (fun ls hl => ?_)
        refine lv_iload_n hx hb dX8_readRun_35 rfl (lv_at hl 0 rfl) ?_
        refine k_I (ce := 0) (sl := 0) (rest := []) (wr := [(a0, .inr (8, [.ref a1, .int (iI x0), .int r0, .int (iI z1), .int r1, .int r2, (va_rf o0), .long fy2, .int fr3, .int r4, .int r5, .int r6])), (a1, .inl (T 0, 940, .inl f0))]) (r_S (f := 0) [] M w V_HookedCity_Tape_58 G591 (c225_X8_isLetter l D T _ z14 z14_a z14_b) rfl (by decide) rfl hl.1 rfl (Nat.le_of_ble_eq_true rfl) dX8_readRun_36 (by decide) (by decide) (by decide) (by decide)) w [] [0, 1] rfl rfl (by decide) (by decide) rfl rfl (fun v z15 H locs hp w => ?_)
        have hv : iI z15 = v := hp.1
        subst hv
        have z15_a : 0 ≤ z15 := hp.2.1
        have z15_b : z15 ≤ 1 := hp.2.2.1
        have w : WD D A s.heap [(a0, .inr (8, [.ref a1, .int (iI x0), .int r0, .int (iI z1), .int r1, .int r2, (va_rf o0), .long fy2, .int fr3, .int r4, .int r5, .int r6])), (a1, .inl (T 0, 940, .inl f0))] H locs := w
        rcases hp.2.2.2 with ⟨c_16, hr⟩ | ⟨c_17, c_18, hr⟩ | ⟨c_19, c_20, hr⟩
        · subst hr
          refine lv_if_eq (tgt := 60) hx hb dX8_readRun_39 (by decide) (fun _ => ?_) (fun c => absurd (by decide +kernel) c)
          refine lv_iload_n hx hb dX8_readRun_60 rfl (lv_at hl 0 rfl) ?_
          refine k_I (ce := 0) (sl := 0) (rest := []) (wr := [(a0, .inr (8, [.ref a1, .int (iI x0), .int r0, .int (iI z1), .int r1, .int r2, (va_rf o0), .long fy2, .int fr3, .int r4, .int r5, .int r6])), (a1, .inl (T 0, 940, .inl f0))]) (r_S (f := 0) [] M w V_HookedCity_Tape_62 G594 (c226_X8_isDigit l D T _ z14 z14_a z14_b) rfl (by decide) rfl hl.1 rfl (Nat.le_of_ble_eq_true rfl) dX8_readRun_61 (by decide) (by decide) (by decide) (by decide)) w [] [0, 1] rfl rfl (by decide) (by decide) rfl rfl (fun v z21 H locs hp w => ?_)
          have hv : iI z21 = v := hp.1
          subst hv
          have z21_a : 0 ≤ z21 := hp.2.1
          have z21_b : z21 ≤ 1 := hp.2.2.1
          have w : WD D A s.heap [(a0, .inr (8, [.ref a1, .int (iI x0), .int r0, .int (iI z1), .int r1, .int r2, (va_rf o0), .long fy2, .int fr3, .int r4, .int r5, .int r6])), (a1, .inl (T 0, 940, .inl f0))] H locs := w
          rcases hp.2.2.2 with ⟨c_22, hr⟩ | ⟨c_23, c_24, hr⟩ | ⟨c_25, c_26, hr⟩
          · subst hr
            refine lv_if_eq (tgt := 99) hx hb dX8_readRun_64 (by decide) (fun _ => ?_) (fun c => absurd (by decide +kernel) c)
            refine lv_aload_n hx hb dX8_readRun_99 rfl (lv_at hl 3 rfl) ?_
            refine lv_iconst (v := iI 1) hx hb dX8_readRun_100 (by decide +kernel) ?_
            refine r_put (ws' := [(a0, .inr (8, [.ref a1, .int (iI x0), .int r0, .int (iI z1), .int r1, .int (iI 1), (va_rf o0), .long fy2, .int fr3, .int r4, .int r5, .int r6])), (a1, .inl (T 0, 940, .inl f0))]) M w 0 5 clX8 rfl (by decide) G168 rfl rfl rfl rfl (Nat.le_of_ble_eq_true rfl) rfl dX8_readRun_101 (fun H locs w => ?_)
            refine lv_iload_n hx hb dX8_readRun_104 rfl (lv_at hl 1 rfl) ?_
            refine lv_if_ne (tgt := 144) hx hb dX8_readRun_105 (by decide) (fun c_27 => ?_) (fun c_27 => ?_)
            · replace c_27 : ¬ z4 = 0 := fun h => c_27 ((iz_eq (Int.le_trans (by decide) z4_a) (Int.le_trans z4_b (by decide))).mpr h)
              refine lv_iload_n hx hb dX8_readRun_144 rfl (lv_at hl 2 rfl) ?_
              refine lv_if_ne (tgt := 158) hx hb dX8_readRun_145 (by decide) (fun c_28 => ?_) (fun c_28 => ?_)
              · replace c_28 : ¬ z5 = 0 := fun h => c_28 ((iz_eq (Int.le_trans (by decide) z5_a) (Int.le_trans z5_b (by decide))).mpr h)
                exact ret (z1, (iI 1), o0, fy2, fr3) _ _ _ _ _ [0, 1] dX8_readRun_158 ⟨z1_a, z1_b, o0_h⟩ w (by decide) rfl
              · replace c_28 := (iz_eq (Int.le_trans (by decide) z5_a) (Int.le_trans z5_b (by decide))).mp c_28
                refine lv_iload_n hx hb dX8_readRun_148 rfl (lv_at hl 1 rfl) ?_
                refine lv_iconst (v := iI 3) hx hb dX8_readRun_149 (by decide +kernel) ?_
                refine lv_icmp_gt (tgt := 158) hx hb dX8_readRun_150 (by decide) (fun c_29 => ?_) (fun c_29 => ?_)
                · replace c_29 := (iI_lt (by decide) (by decide) (Int.le_trans (by decide) z4_a) (Int.le_trans z4_b (by decide))).mp c_29
                  exact ret (z1, (iI 1), o0, fy2, fr3) _ _ _ _ _ [0, 1] dX8_readRun_158 ⟨z1_a, z1_b, o0_h⟩ w (by decide) rfl
                · replace c_29 : z4 ≤ 3 := Int.not_lt.mp (fun h => c_29 ((iI_lt (by decide) (by decide) (Int.le_trans (by decide) z4_a) (Int.le_trans z4_b (by decide))).mpr h))
                  refine lv_aload_n hx hb dX8_readRun_153 rfl (lv_at hl 3 rfl) ?_
                  refine lv_iconst (v := iI 4) hx hb dX8_readRun_154 (by decide +kernel) ?_
                  refine r_put (ws' := [(a0, .inr (8, [.ref a1, .int (iI x0), .int r0, .int (iI z1), .int r1, .int (iI 4), (va_rf o0), .long fy2, .int fr3, .int r4, .int r5, .int r6])), (a1, .inl (T 0, 940, .inl f0))]) M w 0 5 clX8 rfl (by decide) G168 rfl rfl rfl rfl (Nat.le_of_ble_eq_true rfl) rfl dX8_readRun_155 (fun H locs w => ?_)
                  exact ret (z1, (iI 4), o0, fy2, fr3) _ _ _ _ _ [0, 1] dX8_readRun_158 ⟨z1_a, z1_b, o0_h⟩ w (by decide) rfl
            · replace c_27 := (iz_eq (Int.le_trans (by decide) z4_a) (Int.le_trans z4_b (by decide))).mp c_27
              refine lv_iload_n hx hb dX8_readRun_108 rfl (lv_at hl 2 rfl) ?_
              refine lv_bipush (v := iI 7) hx hb dX8_readRun_109 (by decide +kernel) ?_
              refine lv_icmp_gt (tgt := 144) hx hb dX8_readRun_111 (by decide) (fun c_30 => ?_) (fun c_30 => ?_)
              · replace c_30 := (iI_lt (by decide) (by decide) (Int.le_trans (by decide) z5_a) (Int.le_trans z5_b (by decide))).mp c_30
                refine lv_iload_n hx hb dX8_readRun_144 rfl (lv_at hl 2 rfl) ?_
                refine lv_if_ne (tgt := 158) hx hb dX8_readRun_145 (by decide) (fun c_31 => ?_) (fun c_31 => ?_)
                · replace c_31 : ¬ z5 = 0 := fun h => c_31 ((iz_eq (Int.le_trans (by decide) z5_a) (Int.le_trans z5_b (by decide))).mpr h)
                  exact ret (z1, (iI 1), o0, fy2, fr3) _ _ _ _ _ [0, 1] dX8_readRun_158 ⟨z1_a, z1_b, o0_h⟩ w (by decide) rfl
                · replace c_31 := (iz_eq (Int.le_trans (by decide) z5_a) (Int.le_trans z5_b (by decide))).mp c_31
                  exfalso; omega
              · replace c_30 : z5 ≤ 7 := Int.not_lt.mp (fun h => c_30 ((iI_lt (by decide) (by decide) (Int.le_trans (by decide) z5_a) (Int.le_trans z5_b (by decide))).mpr h))
                refine lv_aload_n hx hb dX8_readRun_114 rfl (lv_at hl 3 rfl) ?_
                refine lv_aload_n hx hb dX8_readRun_115 rfl (lv_at hl 3 rfl) ?_
                refine r_get (v := .long fy2) M w 0 7 clX8 rfl (by decide) G174 rfl rfl dX8_readRun_116 ?_
                refine k_Q (ce := 0) (sl := 0) (rest := [.ref a0]) (wr := [(a0, .inr (8, [.ref a1, .int (iI x0), .int r0, .int (iI z1), .int r1, .int (iI 1), (va_rf o0), .long fy2, .int fr3, .int r4, .int r5, .int r6])), (a1, .inl (T 0, 940, .inl f0))]) (r_S (f := 0) [] M w V_HookedCity_Tape_80 G604 (c235_X10_spelt l D T _ fy2) rfl (by decide) rfl hl.1 rfl (Nat.le_of_ble_eq_true rfl) dX8_readRun_119 (by decide) (by decide) (by decide) (by decide)) w [] [0, 1] rfl rfl (by decide) (by decide) rfl rfl (fun v fo32 H locs hp w => ?_)
                have hv : fo32 = v := hp.1
                subst hv
                have fo32_h : wok T fo32 := hp.2
                have w : WD D A s.heap [(a0, .inr (8, [.ref a1, .int (iI x0), .int r0, .int (iI z1), .int r1, .int (iI 1), (va_rf o0), .long fy2, .int fr3, .int r4, .int r5, .int r6])), (a1, .inl (T 0, 940, .inl f0))] H locs := w
                cases fo32 with
                | none =>
                  refine r_put (ws' := [(a0, .inr (8, [.ref a1, .int (iI x0), .int r0, .int (iI z1), .int r1, .int (iI 1), .null, .long fy2, .int fr3, .int r4, .int r5, .int r6])), (a1, .inl (T 0, 940, .inl f0))]) M w 0 6 clX8 rfl (by decide) G170 rfl rfl rfl rfl (Nat.le_of_ble_eq_true rfl) rfl dX8_readRun_122 (fun H locs w => ?_)
                  refine lv_aload_n hx hb dX8_readRun_125 rfl (lv_at hl 3 rfl) ?_
                  refine lv_aload_n hx hb dX8_readRun_126 rfl (lv_at hl 3 rfl) ?_
                  refine r_get (v := .null) M w 0 6 clX8 rfl (by decide) G170 rfl rfl dX8_readRun_127 ?_
                  refine lv_ifnonnullN hx hb dX8_readRun_130 ?_
                  refine lv_iconst (v := iI 3) hx hb dX8_readRun_133 (by decide +kernel) ?_
                  refine lv_goto (tgt := 138) hx hb dX8_readRun_134 (by decide) ?_
                  refine r_put (ws' := [(a0, .inr (8, [.ref a1, .int (iI x0), .int r0, .int (iI z1), .int r1, .int (iI 3), .null, .long fy2, .int fr3, .int r4, .int r5, .int r6])), (a1, .inl (T 0, 940, .inl f0))]) M w 0 5 clX8 rfl (by decide) G168 rfl rfl rfl rfl (Nat.le_of_ble_eq_true rfl) rfl dX8_readRun_138 (fun H locs w => ?_)
                  refine lv_goto (tgt := 158) hx hb dX8_readRun_141 (by decide) ?_
                  exact ret (z1, (iI 3), none, fy2, fr3) _ _ _ _ _ [0, 1] dX8_readRun_158 ⟨z1_a, z1_b, wok_n⟩ w (by decide) rfl
                | some qq33 =>
                  refine r_put (ws' := [(a0, .inr (8, [.ref a1, .int (iI x0), .int r0, .int (iI z1), .int r1, .int (iI 1), .ref qq33, .long fy2, .int fr3, .int r4, .int r5, .int r6])), (a1, .inl (T 0, 940, .inl f0))]) M w 0 6 clX8 rfl (by decide) G170 rfl rfl rfl rfl (Nat.le_of_ble_eq_true rfl) rfl dX8_readRun_122 (fun H locs w => ?_)
                  refine lv_aload_n hx hb dX8_readRun_125 rfl (lv_at hl 3 rfl) ?_
                  refine lv_aload_n hx hb dX8_readRun_126 rfl (lv_at hl 3 rfl) ?_
                  refine r_get (v := .ref qq33) M w 0 6 clX8 rfl (by decide) G170 rfl rfl dX8_readRun_127 ?_
                  refine lv_ifnonnull (tgt := 137) hx hb dX8_readRun_130 (by decide) ?_
                  refine lv_iconst (v := iI 2) hx hb dX8_readRun_137 (by decide +kernel) ?_
                  refine r_put (ws' := [(a0, .inr (8, [.ref a1, .int (iI x0), .int r0, .int (iI z1), .int r1, .int (iI 2), .ref qq33, .long fy2, .int fr3, .int r4, .int r5, .int r6])), (a1, .inl (T 0, 940, .inl f0))]) M w 0 5 clX8 rfl (by decide) G168 rfl rfl rfl rfl (Nat.le_of_ble_eq_true rfl) rfl dX8_readRun_138 (fun H locs w => ?_)
                  refine lv_goto (tgt := 158) hx hb dX8_readRun_141 (by decide) ?_
                  exact ret (z1, (iI 2), (some qq33), fy2, fr3) _ _ _ _ _ [0, 1] dX8_readRun_158 ⟨z1_a, z1_b, fo32_h⟩ w (by decide) rfl
          · subst hr
            refine lv_if_eq (tgt := 99) hx hb dX8_readRun_64 (by decide) (fun _ => ?_) (fun c => absurd (by decide +kernel) c)
            refine lv_aload_n hx hb dX8_readRun_99 rfl (lv_at hl 3 rfl) ?_
            refine lv_iconst (v := iI 1) hx hb dX8_readRun_100 (by decide +kernel) ?_
            refine r_put (ws' := [(a0, .inr (8, [.ref a1, .int (iI x0), .int r0, .int (iI z1), .int r1, .int (iI 1), (va_rf o0), .long fy2, .int fr3, .int r4, .int r5, .int r6])), (a1, .inl (T 0, 940, .inl f0))]) M w 0 5 clX8 rfl (by decide) G168 rfl rfl rfl rfl (Nat.le_of_ble_eq_true rfl) rfl dX8_readRun_101 (fun H locs w => ?_)
            refine lv_iload_n hx hb dX8_readRun_104 rfl (lv_at hl 1 rfl) ?_
            refine lv_if_ne (tgt := 144) hx hb dX8_readRun_105 (by decide) (fun c_34 => ?_) (fun c_34 => ?_)
            · replace c_34 : ¬ z4 = 0 := fun h => c_34 ((iz_eq (Int.le_trans (by decide) z4_a) (Int.le_trans z4_b (by decide))).mpr h)
              refine lv_iload_n hx hb dX8_readRun_144 rfl (lv_at hl 2 rfl) ?_
              refine lv_if_ne (tgt := 158) hx hb dX8_readRun_145 (by decide) (fun c_35 => ?_) (fun c_35 => ?_)
              · replace c_35 : ¬ z5 = 0 := fun h => c_35 ((iz_eq (Int.le_trans (by decide) z5_a) (Int.le_trans z5_b (by decide))).mpr h)
                exact ret (z1, (iI 1), o0, fy2, fr3) _ _ _ _ _ [0, 1] dX8_readRun_158 ⟨z1_a, z1_b, o0_h⟩ w (by decide) rfl
              · replace c_35 := (iz_eq (Int.le_trans (by decide) z5_a) (Int.le_trans z5_b (by decide))).mp c_35
                refine lv_iload_n hx hb dX8_readRun_148 rfl (lv_at hl 1 rfl) ?_
                refine lv_iconst (v := iI 3) hx hb dX8_readRun_149 (by decide +kernel) ?_
                refine lv_icmp_gt (tgt := 158) hx hb dX8_readRun_150 (by decide) (fun c_36 => ?_) (fun c_36 => ?_)
                · replace c_36 := (iI_lt (by decide) (by decide) (Int.le_trans (by decide) z4_a) (Int.le_trans z4_b (by decide))).mp c_36
                  exact ret (z1, (iI 1), o0, fy2, fr3) _ _ _ _ _ [0, 1] dX8_readRun_158 ⟨z1_a, z1_b, o0_h⟩ w (by decide) rfl
                · replace c_36 : z4 ≤ 3 := Int.not_lt.mp (fun h => c_36 ((iI_lt (by decide) (by decide) (Int.le_trans (by decide) z4_a) (Int.le_trans z4_b (by decide))).mpr h))
                  refine lv_aload_n hx hb dX8_readRun_153 rfl (lv_at hl 3 rfl) ?_
                  refine lv_iconst (v := iI 4) hx hb dX8_readRun_154 (by decide +kernel) ?_
                  refine r_put (ws' := [(a0, .inr (8, [.ref a1, .int (iI x0), .int r0, .int (iI z1), .int r1, .int (iI 4), (va_rf o0), .long fy2, .int fr3, .int r4, .int r5, .int r6])), (a1, .inl (T 0, 940, .inl f0))]) M w 0 5 clX8 rfl (by decide) G168 rfl rfl rfl rfl (Nat.le_of_ble_eq_true rfl) rfl dX8_readRun_155 (fun H locs w => ?_)
                  exact ret (z1, (iI 4), o0, fy2, fr3) _ _ _ _ _ [0, 1] dX8_readRun_158 ⟨z1_a, z1_b, o0_h⟩ w (by decide) rfl
            · replace c_34 := (iz_eq (Int.le_trans (by decide) z4_a) (Int.le_trans z4_b (by decide))).mp c_34
              refine lv_iload_n hx hb dX8_readRun_108 rfl (lv_at hl 2 rfl) ?_
              refine lv_bipush (v := iI 7) hx hb dX8_readRun_109 (by decide +kernel) ?_
              refine lv_icmp_gt (tgt := 144) hx hb dX8_readRun_111 (by decide) (fun c_37 => ?_) (fun c_37 => ?_)
              · replace c_37 := (iI_lt (by decide) (by decide) (Int.le_trans (by decide) z5_a) (Int.le_trans z5_b (by decide))).mp c_37
                refine lv_iload_n hx hb dX8_readRun_144 rfl (lv_at hl 2 rfl) ?_
                refine lv_if_ne (tgt := 158) hx hb dX8_readRun_145 (by decide) (fun c_38 => ?_) (fun c_38 => ?_)
                · replace c_38 : ¬ z5 = 0 := fun h => c_38 ((iz_eq (Int.le_trans (by decide) z5_a) (Int.le_trans z5_b (by decide))).mpr h)
                  exact ret (z1, (iI 1), o0, fy2, fr3) _ _ _ _ _ [0, 1] dX8_readRun_158 ⟨z1_a, z1_b, o0_h⟩ w (by decide) rfl
                · replace c_38 := (iz_eq (Int.le_trans (by decide) z5_a) (Int.le_trans z5_b (by decide))).mp c_38
                  exfalso; omega
              · replace c_37 : z5 ≤ 7 := Int.not_lt.mp (fun h => c_37 ((iI_lt (by decide) (by decide) (Int.le_trans (by decide) z5_a) (Int.le_trans z5_b (by decide))).mpr h))
                refine lv_aload_n hx hb dX8_readRun_114 rfl (lv_at hl 3 rfl) ?_
                refine lv_aload_n hx hb dX8_readRun_115 rfl (lv_at hl 3 rfl) ?_
                refine r_get (v := .long fy2) M w 0 7 clX8 rfl (by decide) G174 rfl rfl dX8_readRun_116 ?_
                refine k_Q (ce := 0) (sl := 0) (rest := [.ref a0]) (wr := [(a0, .inr (8, [.ref a1, .int (iI x0), .int r0, .int (iI z1), .int r1, .int (iI 1), (va_rf o0), .long fy2, .int fr3, .int r4, .int r5, .int r6])), (a1, .inl (T 0, 940, .inl f0))]) (r_S (f := 0) [] M w V_HookedCity_Tape_80 G604 (c235_X10_spelt l D T _ fy2) rfl (by decide) rfl hl.1 rfl (Nat.le_of_ble_eq_true rfl) dX8_readRun_119 (by decide) (by decide) (by decide) (by decide)) w [] [0, 1] rfl rfl (by decide) (by decide) rfl rfl (fun v fo39 H locs hp w => ?_)
                have hv : fo39 = v := hp.1
                subst hv
                have fo39_h : wok T fo39 := hp.2
                have w : WD D A s.heap [(a0, .inr (8, [.ref a1, .int (iI x0), .int r0, .int (iI z1), .int r1, .int (iI 1), (va_rf o0), .long fy2, .int fr3, .int r4, .int r5, .int r6])), (a1, .inl (T 0, 940, .inl f0))] H locs := w
                cases fo39 with
                | none =>
                  refine r_put (ws' := [(a0, .inr (8, [.ref a1, .int (iI x0), .int r0, .int (iI z1), .int r1, .int (iI 1), .null, .long fy2, .int fr3, .int r4, .int r5, .int r6])), (a1, .inl (T 0, 940, .inl f0))]) M w 0 6 clX8 rfl (by decide) G170 rfl rfl rfl rfl (Nat.le_of_ble_eq_true rfl) rfl dX8_readRun_122 (fun H locs w => ?_)
                  refine lv_aload_n hx hb dX8_readRun_125 rfl (lv_at hl 3 rfl) ?_
                  refine lv_aload_n hx hb dX8_readRun_126 rfl (lv_at hl 3 rfl) ?_
                  refine r_get (v := .null) M w 0 6 clX8 rfl (by decide) G170 rfl rfl dX8_readRun_127 ?_
                  refine lv_ifnonnullN hx hb dX8_readRun_130 ?_
                  refine lv_iconst (v := iI 3) hx hb dX8_readRun_133 (by decide +kernel) ?_
                  refine lv_goto (tgt := 138) hx hb dX8_readRun_134 (by decide) ?_
                  refine r_put (ws' := [(a0, .inr (8, [.ref a1, .int (iI x0), .int r0, .int (iI z1), .int r1, .int (iI 3), .null, .long fy2, .int fr3, .int r4, .int r5, .int r6])), (a1, .inl (T 0, 940, .inl f0))]) M w 0 5 clX8 rfl (by decide) G168 rfl rfl rfl rfl (Nat.le_of_ble_eq_true rfl) rfl dX8_readRun_138 (fun H locs w => ?_)
                  refine lv_goto (tgt := 158) hx hb dX8_readRun_141 (by decide) ?_
                  exact ret (z1, (iI 3), none, fy2, fr3) _ _ _ _ _ [0, 1] dX8_readRun_158 ⟨z1_a, z1_b, wok_n⟩ w (by decide) rfl
                | some qq40 =>
                  refine r_put (ws' := [(a0, .inr (8, [.ref a1, .int (iI x0), .int r0, .int (iI z1), .int r1, .int (iI 1), .ref qq40, .long fy2, .int fr3, .int r4, .int r5, .int r6])), (a1, .inl (T 0, 940, .inl f0))]) M w 0 6 clX8 rfl (by decide) G170 rfl rfl rfl rfl (Nat.le_of_ble_eq_true rfl) rfl dX8_readRun_122 (fun H locs w => ?_)
                  refine lv_aload_n hx hb dX8_readRun_125 rfl (lv_at hl 3 rfl) ?_
                  refine lv_aload_n hx hb dX8_readRun_126 rfl (lv_at hl 3 rfl) ?_
                  refine r_get (v := .ref qq40) M w 0 6 clX8 rfl (by decide) G170 rfl rfl dX8_readRun_127 ?_
                  refine lv_ifnonnull (tgt := 137) hx hb dX8_readRun_130 (by decide) ?_
                  refine lv_iconst (v := iI 2) hx hb dX8_readRun_137 (by decide +kernel) ?_
                  refine r_put (ws' := [(a0, .inr (8, [.ref a1, .int (iI x0), .int r0, .int (iI z1), .int r1, .int (iI 2), .ref qq40, .long fy2, .int fr3, .int r4, .int r5, .int r6])), (a1, .inl (T 0, 940, .inl f0))]) M w 0 5 clX8 rfl (by decide) G168 rfl rfl rfl rfl (Nat.le_of_ble_eq_true rfl) rfl dX8_readRun_138 (fun H locs w => ?_)
                  refine lv_goto (tgt := 158) hx hb dX8_readRun_141 (by decide) ?_
                  exact ret (z1, (iI 2), (some qq40), fy2, fr3) _ _ _ _ _ [0, 1] dX8_readRun_158 ⟨z1_a, z1_b, fo39_h⟩ w (by decide) rfl
          · subst hr
            refine lv_if_eq (tgt := 99) hx hb dX8_readRun_64 (by decide) (fun c => absurd c (by decide +kernel)) (fun _ => ?_)
            refine lv_iinc (v := iI (z4 + 1)) (lv' := [(2, .int (iI (z4 + 1))), (3, .int (iI z14)), (1, .int (iI z5)), (0, .ref a0)]) hx hb dX8_readRun_67 hl (k := 1) rfl (ii_inc (by decide +kernel)) (by decide) rfl (fun ls hl => ?_)
            refine lv_aload_n hx hb dX8_readRun_70 rfl (lv_at hl 3 rfl) ?_
            refine lv_aload_n hx hb dX8_readRun_71 rfl (lv_at hl 3 rfl) ?_
            refine r_get (v := .int fr3) M w 0 8 clX8 rfl (by decide) G176 rfl rfl dX8_readRun_72 ?_
            refine b_any (fun z41 z41_a z41_b => ?_)
            refine lv_bipush (v := iI 10) hx hb dX8_readRun_75 (by decide +kernel) ?_
            refine r_imul (v := _) M rfl dX8_readRun_77 ?_
            refine b_any (fun z42 z42_a z42_b => ?_)
            refine lv_iload_n hx hb dX8_readRun_78 rfl (lv_at hl 1 rfl) ?_
            refine r_iadd (v := _) M rfl dX8_readRun_79 ?_
            refine b_any (fun z43 z43_a z43_b => ?_)
            refine lv_bipush (v := iI 48) hx hb dX8_readRun_80 (by decide +kernel) ?_
            refine r_isub (v := _) M rfl dX8_readRun_82 ?_
            refine b_any (fun z44 z44_a z44_b => ?_)
            refine r_put (ws' := [(a0, .inr (8, [.ref a1, .int (iI x0), .int r0, .int (iI z1), .int r1, .int r2, (va_rf o0), .long fy2, .int (iI z44), .int r4, .int r5, .int r6])), (a1, .inl (T 0, 940, .inl f0))]) M w 0 8 clX8 rfl (by decide) G176 rfl rfl rfl rfl (Nat.le_of_ble_eq_true rfl) rfl dX8_readRun_83 (fun H locs w => ?_)
            refine lv_aload_n hx hb dX8_readRun_86 rfl (lv_at hl 3 rfl) ?_
            refine lv_dup hx hb dX8_readRun_87 rfl ?_
            refine r_get (v := .int (iI z1)) M w 0 3 clX8 rfl (by decide) G166 rfl rfl dX8_readRun_88 ?_
            refine lv_iconst (v := iI 1) hx hb dX8_readRun_91 (by decide +kernel) ?_
            refine r_iadd (v := iI (z1 + 1)) M (iI_add _ _) dX8_readRun_92 ?_
            refine r_put (ws' := [(a0, .inr (8, [.ref a1, .int (iI x0), .int r0, .int (iI (z1 + 1)), .int r1, .int r2, (va_rf o0), .long fy2, .int (iI z44), .int r4, .int r5, .int r6])), (a1, .inl (T 0, 940, .inl f0))]) M w 0 3 clX8 rfl (by decide) G166 rfl rfl rfl rfl (Nat.le_of_ble_eq_true rfl) rfl dX8_readRun_93 (fun H locs w => ?_)
            refine lv_goto (tgt := 14) hx hb dX8_readRun_96 (by decide) ?_
            exact ih1 (z1 + 1) fy2 (iI z44) (z4 + 1) z5 _ _ _ (by omega) (by omega) (by omega) (by omega) z5_a z5_b (by omega) (by omega) w (lv_sub hl [0, 2, 3] rfl)
        · subst hr
          refine lv_if_eq (tgt := 60) hx hb dX8_readRun_39 (by decide) (fun _ => ?_) (fun c => absurd (by decide +kernel) c)
          refine lv_iload_n hx hb dX8_readRun_60 rfl (lv_at hl 0 rfl) ?_
          refine k_I (ce := 0) (sl := 0) (rest := []) (wr := [(a0, .inr (8, [.ref a1, .int (iI x0), .int r0, .int (iI z1), .int r1, .int r2, (va_rf o0), .long fy2, .int fr3, .int r4, .int r5, .int r6])), (a1, .inl (T 0, 940, .inl f0))]) (r_S (f := 0) [] M w V_HookedCity_Tape_62 G594 (c226_X8_isDigit l D T _ z14 z14_a z14_b) rfl (by decide) rfl hl.1 rfl (Nat.le_of_ble_eq_true rfl) dX8_readRun_61 (by decide) (by decide) (by decide) (by decide)) w [] [0, 1] rfl rfl (by decide) (by decide) rfl rfl (fun v z45 H locs hp w => ?_)
          have hv : iI z45 = v := hp.1
          subst hv
          have z45_a : 0 ≤ z45 := hp.2.1
          have z45_b : z45 ≤ 1 := hp.2.2.1
          have w : WD D A s.heap [(a0, .inr (8, [.ref a1, .int (iI x0), .int r0, .int (iI z1), .int r1, .int r2, (va_rf o0), .long fy2, .int fr3, .int r4, .int r5, .int r6])), (a1, .inl (T 0, 940, .inl f0))] H locs := w
          rcases hp.2.2.2 with ⟨c_46, hr⟩ | ⟨c_47, c_48, hr⟩ | ⟨c_49, c_50, hr⟩
          · exfalso; omega
          · subst hr
            refine lv_if_eq (tgt := 99) hx hb dX8_readRun_64 (by decide) (fun _ => ?_) (fun c => absurd (by decide +kernel) c)
            refine lv_aload_n hx hb dX8_readRun_99 rfl (lv_at hl 3 rfl) ?_
            refine lv_iconst (v := iI 1) hx hb dX8_readRun_100 (by decide +kernel) ?_
            refine r_put (ws' := [(a0, .inr (8, [.ref a1, .int (iI x0), .int r0, .int (iI z1), .int r1, .int (iI 1), (va_rf o0), .long fy2, .int fr3, .int r4, .int r5, .int r6])), (a1, .inl (T 0, 940, .inl f0))]) M w 0 5 clX8 rfl (by decide) G168 rfl rfl rfl rfl (Nat.le_of_ble_eq_true rfl) rfl dX8_readRun_101 (fun H locs w => ?_)
            refine lv_iload_n hx hb dX8_readRun_104 rfl (lv_at hl 1 rfl) ?_
            refine lv_if_ne (tgt := 144) hx hb dX8_readRun_105 (by decide) (fun c_51 => ?_) (fun c_51 => ?_)
            · replace c_51 : ¬ z4 = 0 := fun h => c_51 ((iz_eq (Int.le_trans (by decide) z4_a) (Int.le_trans z4_b (by decide))).mpr h)
              refine lv_iload_n hx hb dX8_readRun_144 rfl (lv_at hl 2 rfl) ?_
              refine lv_if_ne (tgt := 158) hx hb dX8_readRun_145 (by decide) (fun c_52 => ?_) (fun c_52 => ?_)
              · replace c_52 : ¬ z5 = 0 := fun h => c_52 ((iz_eq (Int.le_trans (by decide) z5_a) (Int.le_trans z5_b (by decide))).mpr h)
                exact ret (z1, (iI 1), o0, fy2, fr3) _ _ _ _ _ [0, 1] dX8_readRun_158 ⟨z1_a, z1_b, o0_h⟩ w (by decide) rfl
              · replace c_52 := (iz_eq (Int.le_trans (by decide) z5_a) (Int.le_trans z5_b (by decide))).mp c_52
                refine lv_iload_n hx hb dX8_readRun_148 rfl (lv_at hl 1 rfl) ?_
                refine lv_iconst (v := iI 3) hx hb dX8_readRun_149 (by decide +kernel) ?_
                refine lv_icmp_gt (tgt := 158) hx hb dX8_readRun_150 (by decide) (fun c_53 => ?_) (fun c_53 => ?_)
                · replace c_53 := (iI_lt (by decide) (by decide) (Int.le_trans (by decide) z4_a) (Int.le_trans z4_b (by decide))).mp c_53
                  exact ret (z1, (iI 1), o0, fy2, fr3) _ _ _ _ _ [0, 1] dX8_readRun_158 ⟨z1_a, z1_b, o0_h⟩ w (by decide) rfl
                · replace c_53 : z4 ≤ 3 := Int.not_lt.mp (fun h => c_53 ((iI_lt (by decide) (by decide) (Int.le_trans (by decide) z4_a) (Int.le_trans z4_b (by decide))).mpr h))
                  refine lv_aload_n hx hb dX8_readRun_153 rfl (lv_at hl 3 rfl) ?_
                  refine lv_iconst (v := iI 4) hx hb dX8_readRun_154 (by decide +kernel) ?_
                  refine r_put (ws' := [(a0, .inr (8, [.ref a1, .int (iI x0), .int r0, .int (iI z1), .int r1, .int (iI 4), (va_rf o0), .long fy2, .int fr3, .int r4, .int r5, .int r6])), (a1, .inl (T 0, 940, .inl f0))]) M w 0 5 clX8 rfl (by decide) G168 rfl rfl rfl rfl (Nat.le_of_ble_eq_true rfl) rfl dX8_readRun_155 (fun H locs w => ?_)
                  exact ret (z1, (iI 4), o0, fy2, fr3) _ _ _ _ _ [0, 1] dX8_readRun_158 ⟨z1_a, z1_b, o0_h⟩ w (by decide) rfl
            · replace c_51 := (iz_eq (Int.le_trans (by decide) z4_a) (Int.le_trans z4_b (by decide))).mp c_51
              refine lv_iload_n hx hb dX8_readRun_108 rfl (lv_at hl 2 rfl) ?_
              refine lv_bipush (v := iI 7) hx hb dX8_readRun_109 (by decide +kernel) ?_
              refine lv_icmp_gt (tgt := 144) hx hb dX8_readRun_111 (by decide) (fun c_54 => ?_) (fun c_54 => ?_)
              · replace c_54 := (iI_lt (by decide) (by decide) (Int.le_trans (by decide) z5_a) (Int.le_trans z5_b (by decide))).mp c_54
                refine lv_iload_n hx hb dX8_readRun_144 rfl (lv_at hl 2 rfl) ?_
                refine lv_if_ne (tgt := 158) hx hb dX8_readRun_145 (by decide) (fun c_55 => ?_) (fun c_55 => ?_)
                · replace c_55 : ¬ z5 = 0 := fun h => c_55 ((iz_eq (Int.le_trans (by decide) z5_a) (Int.le_trans z5_b (by decide))).mpr h)
                  exact ret (z1, (iI 1), o0, fy2, fr3) _ _ _ _ _ [0, 1] dX8_readRun_158 ⟨z1_a, z1_b, o0_h⟩ w (by decide) rfl
                · replace c_55 := (iz_eq (Int.le_trans (by decide) z5_a) (Int.le_trans z5_b (by decide))).mp c_55
                  exfalso; omega
              · replace c_54 : z5 ≤ 7 := Int.not_lt.mp (fun h => c_54 ((iI_lt (by decide) (by decide) (Int.le_trans (by decide) z5_a) (Int.le_trans z5_b (by decide))).mpr h))
                refine lv_aload_n hx hb dX8_readRun_114 rfl (lv_at hl 3 rfl) ?_
                refine lv_aload_n hx hb dX8_readRun_115 rfl (lv_at hl 3 rfl) ?_
                refine r_get (v := .long fy2) M w 0 7 clX8 rfl (by decide) G174 rfl rfl dX8_readRun_116 ?_
                refine k_Q (ce := 0) (sl := 0) (rest := [.ref a0]) (wr := [(a0, .inr (8, [.ref a1, .int (iI x0), .int r0, .int (iI z1), .int r1, .int (iI 1), (va_rf o0), .long fy2, .int fr3, .int r4, .int r5, .int r6])), (a1, .inl (T 0, 940, .inl f0))]) (r_S (f := 0) [] M w V_HookedCity_Tape_80 G604 (c235_X10_spelt l D T _ fy2) rfl (by decide) rfl hl.1 rfl (Nat.le_of_ble_eq_true rfl) dX8_readRun_119 (by decide) (by decide) (by decide) (by decide)) w [] [0, 1] rfl rfl (by decide) (by decide) rfl rfl (fun v fo56 H locs hp w => ?_)
                have hv : fo56 = v := hp.1
                subst hv
                have fo56_h : wok T fo56 := hp.2
                have w : WD D A s.heap [(a0, .inr (8, [.ref a1, .int (iI x0), .int r0, .int (iI z1), .int r1, .int (iI 1), (va_rf o0), .long fy2, .int fr3, .int r4, .int r5, .int r6])), (a1, .inl (T 0, 940, .inl f0))] H locs := w
                cases fo56 with
                | none =>
                  refine r_put (ws' := [(a0, .inr (8, [.ref a1, .int (iI x0), .int r0, .int (iI z1), .int r1, .int (iI 1), .null, .long fy2, .int fr3, .int r4, .int r5, .int r6])), (a1, .inl (T 0, 940, .inl f0))]) M w 0 6 clX8 rfl (by decide) G170 rfl rfl rfl rfl (Nat.le_of_ble_eq_true rfl) rfl dX8_readRun_122 (fun H locs w => ?_)
                  refine lv_aload_n hx hb dX8_readRun_125 rfl (lv_at hl 3 rfl) ?_
                  refine lv_aload_n hx hb dX8_readRun_126 rfl (lv_at hl 3 rfl) ?_
                  refine r_get (v := .null) M w 0 6 clX8 rfl (by decide) G170 rfl rfl dX8_readRun_127 ?_
                  refine lv_ifnonnullN hx hb dX8_readRun_130 ?_
                  refine lv_iconst (v := iI 3) hx hb dX8_readRun_133 (by decide +kernel) ?_
                  refine lv_goto (tgt := 138) hx hb dX8_readRun_134 (by decide) ?_
                  refine r_put (ws' := [(a0, .inr (8, [.ref a1, .int (iI x0), .int r0, .int (iI z1), .int r1, .int (iI 3), .null, .long fy2, .int fr3, .int r4, .int r5, .int r6])), (a1, .inl (T 0, 940, .inl f0))]) M w 0 5 clX8 rfl (by decide) G168 rfl rfl rfl rfl (Nat.le_of_ble_eq_true rfl) rfl dX8_readRun_138 (fun H locs w => ?_)
                  refine lv_goto (tgt := 158) hx hb dX8_readRun_141 (by decide) ?_
                  exact ret (z1, (iI 3), none, fy2, fr3) _ _ _ _ _ [0, 1] dX8_readRun_158 ⟨z1_a, z1_b, wok_n⟩ w (by decide) rfl
                | some qq57 =>
                  refine r_put (ws' := [(a0, .inr (8, [.ref a1, .int (iI x0), .int r0, .int (iI z1), .int r1, .int (iI 1), .ref qq57, .long fy2, .int fr3, .int r4, .int r5, .int r6])), (a1, .inl (T 0, 940, .inl f0))]) M w 0 6 clX8 rfl (by decide) G170 rfl rfl rfl rfl (Nat.le_of_ble_eq_true rfl) rfl dX8_readRun_122 (fun H locs w => ?_)
                  refine lv_aload_n hx hb dX8_readRun_125 rfl (lv_at hl 3 rfl) ?_
                  refine lv_aload_n hx hb dX8_readRun_126 rfl (lv_at hl 3 rfl) ?_
                  refine r_get (v := .ref qq57) M w 0 6 clX8 rfl (by decide) G170 rfl rfl dX8_readRun_127 ?_
                  refine lv_ifnonnull (tgt := 137) hx hb dX8_readRun_130 (by decide) ?_
                  refine lv_iconst (v := iI 2) hx hb dX8_readRun_137 (by decide +kernel) ?_
                  refine r_put (ws' := [(a0, .inr (8, [.ref a1, .int (iI x0), .int r0, .int (iI z1), .int r1, .int (iI 2), .ref qq57, .long fy2, .int fr3, .int r4, .int r5, .int r6])), (a1, .inl (T 0, 940, .inl f0))]) M w 0 5 clX8 rfl (by decide) G168 rfl rfl rfl rfl (Nat.le_of_ble_eq_true rfl) rfl dX8_readRun_138 (fun H locs w => ?_)
                  refine lv_goto (tgt := 158) hx hb dX8_readRun_141 (by decide) ?_
                  exact ret (z1, (iI 2), (some qq57), fy2, fr3) _ _ _ _ _ [0, 1] dX8_readRun_158 ⟨z1_a, z1_b, fo56_h⟩ w (by decide) rfl
          · exfalso; omega
        · subst hr
          refine lv_if_eq (tgt := 60) hx hb dX8_readRun_39 (by decide) (fun c => absurd c (by decide +kernel)) (fun _ => ?_)
          refine lv_iinc (v := iI (z5 + 1)) (lv' := [(1, .int (iI (z5 + 1))), (3, .int (iI z14)), (2, .int (iI z4)), (0, .ref a0)]) hx hb dX8_readRun_42 hl (k := 2) rfl (ii_inc (by decide +kernel)) (by decide) rfl (fun ls hl => ?_)
          refine lv_aload_n hx hb dX8_readRun_45 rfl (lv_at hl 3 rfl) ?_
          refine lv_aload_n hx hb dX8_readRun_46 rfl (lv_at hl 3 rfl) ?_
          refine r_get (v := .long fy2) M w 0 7 clX8 rfl (by decide) G174 rfl rfl dX8_readRun_47 ?_
          refine lv_iload_n hx hb dX8_readRun_50 rfl (lv_at hl 1 rfl) ?_
          refine k_L (ce := 0) (sl := 0) (rest := [.ref a0]) (wr := [(a0, .inr (8, [.ref a1, .int (iI x0), .int r0, .int (iI z1), .int r1, .int r2, (va_rf o0), .long fy2, .int fr3, .int r4, .int r5, .int r6])), (a1, .inl (T 0, 940, .inl f0))]) (r_S (f := 0) [] M w V_HookedCity_Tape_76 G601 (c236_X8_longer l D T _ fy2 z14 z14_a z14_b) rfl (by decide) rfl hl.1 rfl (Nat.le_of_ble_eq_true rfl) dX8_readRun_51 (by decide) (by decide) (by decide) (by decide)) w [] [0, 1] rfl rfl (by decide) (by decide) rfl rfl (fun fy58 _ H locs hp w => ?_)
          have w : WD D A s.heap [(a0, .inr (8, [.ref a1, .int (iI x0), .int r0, .int (iI z1), .int r1, .int r2, (va_rf o0), .long fy2, .int fr3, .int r4, .int r5, .int r6])), (a1, .inl (T 0, 940, .inl f0))] H locs := w
          refine r_put (ws' := [(a0, .inr (8, [.ref a1, .int (iI x0), .int r0, .int (iI z1), .int r1, .int r2, (va_rf o0), .long fy58, .int fr3, .int r4, .int r5, .int r6])), (a1, .inl (T 0, 940, .inl f0))]) M w 0 7 clX8 rfl (by decide) G174 rfl rfl rfl rfl (Nat.le_of_ble_eq_true rfl) rfl dX8_readRun_54 (fun H locs w => ?_)
          refine lv_goto (tgt := 86) hx hb dX8_readRun_57 (by decide) ?_
          refine lv_aload_n hx hb dX8_readRun_86 rfl (lv_at hl 3 rfl) ?_
          refine lv_dup hx hb dX8_readRun_87 rfl ?_
          refine r_get (v := .int (iI z1)) M w 0 3 clX8 rfl (by decide) G166 rfl rfl dX8_readRun_88 ?_
          refine lv_iconst (v := iI 1) hx hb dX8_readRun_91 (by decide +kernel) ?_
          refine r_iadd (v := iI (z1 + 1)) M (iI_add _ _) dX8_readRun_92 ?_
          refine r_put (ws' := [(a0, .inr (8, [.ref a1, .int (iI x0), .int r0, .int (iI (z1 + 1)), .int r1, .int r2, (va_rf o0), .long fy58, .int fr3, .int r4, .int r5, .int r6])), (a1, .inl (T 0, 940, .inl f0))]) M w 0 3 clX8 rfl (by decide) G166 rfl rfl rfl rfl (Nat.le_of_ble_eq_true rfl) rfl dX8_readRun_93 (fun H locs w => ?_)
          refine lv_goto (tgt := 14) hx hb dX8_readRun_96 (by decide) ?_
          exact ih1 (z1 + 1) fy58 fr3 z4 (z5 + 1) _ _ _ (by omega) (by omega) z4_a z4_b (by omega) (by omega) (by omega) (by omega) w (lv_sub hl [2, 0, 3] rfl)
  exact loop1 (((x0 - x1) : Int).toNat + 1) x1 0 (iI 0) 0 0 _ _ _ x1_a x1_b (by decide) (by decide) (by decide) (by decide) (by omega) (Nat.lt_succ_self _) w (lv_sub hl [0, 1, 2] rfl)
set_option maxRecDepth 100000 in
set_option maxHeartbeats 4000000 in
theorem c238_X8_step (l : Launch) (D : va_G) (T : Nat → ClassId) (sz : Nat) (a0 : Nat) (a1 : Nat) (x0 : Int) (r0 : Int32) (x1 : Int) (r1 : Int32) (r2 : Int32) (o0 : Option Nat) (y0 : Int64) (r3 : Int32) (r4 : Int32) (r5 : Int32) (r6 : Int32) (f0 : Nat → Int32) (x0_a : 0 ≤ x0) (x0_b : x0 ≤ 940) (x1_a : 0 ≤ x1) (x1_b : x1 ≤ 940) (o0_h : wok T o0) : Met l yX8_step (Cond.code yX8_step cX8_step 1 none :: GW) (Rm 4 0 0) (cPre [.ref a0] D T [(a0, .inr (8, [.ref a1, .int (iI x0), .int r0, .int (iI x1), .int r1, .int r2, (va_rf o0), .long y0, .int r3, .int r4, .int r5, .int r6])), (a1, .inl (T 0, 940, .inl f0))] sz) (qV D [(a0, .inr (8, [.ref a1, .int (iI x0), .int r0, .int (iI x1), .int r1, .int r2, (va_rf o0), .long y0, .int r3, .int r4, .int r5, .int r6])), (a1, .inl (T 0, 940, .inl f0))] sz (fun (u : Int × Int32 × Int32 × Option Nat × Int64 × Int32 × Int32) => 0 ≤ u.1 ∧ u.1 ≤ 940 ∧ wok T u.2.2.2.1) (fun u => [(a0, .inr (8, [.ref a1, .int (iI x0), .int r0, .int (iI u.1), .int u.2.1, .int u.2.2.1, (va_rf u.2.2.2.1), .long u.2.2.2.2.1, .int u.2.2.2.2.2.1, .int u.2.2.2.2.2.2, .int r5, .int r6])), (a1, .inl (T 0, 940, .inl f0))])) 0 0 (va_A [(a0, .inr (8, [.ref a1, .int (iI x0), .int r0, .int (iI x1), .int r1, .int r2, (va_rf o0), .long y0, .int r3, .int r4, .int r5, .int r6])), (a1, .inl (T 0, 940, .inl f0))] sz) := by
  refine e_V (by decide) (Nat.le_of_ble_eq_true rfl) ?_
  intro p e s m args below meth c A Q ls M hin w ret hl
  have hx := M.1.1
  have hb := M.1.2.1
  have hl : lv_has ls 1 [(0, .ref a0)] := hl
  have loop1 : ∀ (k1 : Nat) (z1 : Int) (H : Heap) (locs : List Loc) (ls : Array Slot), 0 ≤ z1 → z1 ≤ 940 → ((x0 - z1) : Int).toNat < k1 → WD D A s.heap [(a0, .inr (8, [.ref a1, .int (iI x0), .int r0, .int (iI z1), .int r1, .int r2, (va_rf o0), .long y0, .int r3, .int r4, .int r5, .int r6])), (a1, .inl (T 0, 940, .inl f0))] H locs → lv_has ls 1 [(0, .ref a0)] → W p l e (Rm 4 0 0) s m args below meth c H locs 0 0 Q (F0 m 0 ls []) := by
    intro k1
    induction k1 with
    | zero => intro z1 H locs ls z1_a z1_b hm; exact absurd hm (Nat.not_lt_zero _)
    | succ k1 ih1 =>
      intro z1 H locs ls z1_a z1_b hm1 w hl
      refine lv_aload_n hx hb dX8_step_0 rfl (lv_at hl 0 rfl) ?_
      refine r_get (v := .int (iI z1)) M w 0 3 clX8 rfl (by decide) G166 rfl rfl dX8_step_1 ?_
      refine lv_aload_n hx hb dX8_step_4 rfl (lv_at hl 0 rfl) ?_
      refine r_get (v := .int (iI x0)) M w 0 1 clX8 rfl (by decide) G162 rfl rfl dX8_step_5 ?_
      refine lv_icmp_ge (tgt := 52) hx hb dX8_step_8 (by decide) (fun c_2 => ?_) (fun c_2 => ?_)
      · replace c_2 := (iI_le (Int.le_trans (by decide) x0_a) (Int.le_trans x0_b (by decide)) (Int.le_trans (by decide) z1_a) (Int.le_trans z1_b (by decide))).mp c_2
        refine lv_aload_n hx hb dX8_step_52 rfl (lv_at hl 0 rfl) ?_
        refine lv_aload_n hx hb dX8_step_53 rfl (lv_at hl 0 rfl) ?_
        refine r_get (v := .int (iI z1)) M w 0 3 clX8 rfl (by decide) G166 rfl rfl dX8_step_54 ?_
        refine r_put (ws' := [(a0, .inr (8, [.ref a1, .int (iI x0), .int r0, .int (iI z1), .int (iI z1), .int r2, (va_rf o0), .long y0, .int r3, .int r4, .int r5, .int r6])), (a1, .inl (T 0, 940, .inl f0))]) M w 0 4 clX8 rfl (by decide) G167 rfl rfl rfl rfl (Nat.le_of_ble_eq_true rfl) rfl dX8_step_57 (fun H locs w => ?_)
        refine lv_aload_n hx hb dX8_step_60 rfl (lv_at hl 0 rfl) ?_
        refine lv_null hx hb dX8_step_61 ?_
        refine r_put (ws' := [(a0, .inr (8, [.ref a1, .int (iI x0), .int r0, .int (iI z1), .int (iI z1), .int r2, .null, .long y0, .int r3, .int r4, .int r5, .int r6])), (a1, .inl (T 0, 940, .inl f0))]) M w 0 6 clX8 rfl (by decide) G170 rfl rfl rfl rfl (Nat.le_of_ble_eq_true rfl) rfl dX8_step_62 (fun H locs w => ?_)
        refine lv_aload_n hx hb dX8_step_65 rfl (lv_at hl 0 rfl) ?_
        refine r_get (v := .int (iI x0)) M w 0 1 clX8 rfl (by decide) G162 rfl rfl dX8_step_66 ?_
        refine lv_aload_n hx hb dX8_step_69 rfl (lv_at hl 0 rfl) ?_
        refine r_get (v := .int r0) M w 0 2 clX8 rfl (by decide) G165 rfl rfl dX8_step_70 ?_
        refine b_any (fun z3 z3_a z3_b => ?_)
        refine lv_icmp_le (tgt := 103) hx hb dX8_step_73 (by decide) (fun c_4 => ?_) (fun c_4 => ?_)
        · replace c_4 := (iI_le (Int.le_trans (by decide) x0_a) (Int.le_trans x0_b (by decide)) (Int.le_trans (by decide) z3_a) (Int.le_trans z3_b (by decide))).mp c_4
          refine lv_aload_n hx hb dX8_step_103 rfl (lv_at hl 0 rfl) ?_
          refine r_get (v := .int (iI z1)) M w 0 3 clX8 rfl (by decide) G166 rfl rfl dX8_step_104 ?_
          refine lv_aload_n hx hb dX8_step_107 rfl (lv_at hl 0 rfl) ?_
          refine r_get (v := .int (iI x0)) M w 0 1 clX8 rfl (by decide) G162 rfl rfl dX8_step_108 ?_
          refine lv_icmp_lt (tgt := 122) hx hb dX8_step_111 (by decide) (fun c_5 => ?_) (fun c_5 => ?_)
          · replace c_5 := (iI_lt (Int.le_trans (by decide) z1_a) (Int.le_trans z1_b (by decide)) (Int.le_trans (by decide) x0_a) (Int.le_trans x0_b (by decide))).mp c_5
            exfalso; omega
          · replace c_5 : x0 ≤ z1 := Int.not_lt.mp (fun h => c_5 ((iI_lt (Int.le_trans (by decide) z1_a) (Int.le_trans z1_b (by decide)) (Int.le_trans (by decide) x0_a) (Int.le_trans x0_b (by decide))).mpr h))
            refine lv_aload_n hx hb dX8_step_114 rfl (lv_at hl 0 rfl) ?_
            refine lv_iconst (v := iI 0) hx hb dX8_step_115 (by decide +kernel) ?_
            refine r_put (ws' := [(a0, .inr (8, [.ref a1, .int (iI x0), .int r0, .int (iI z1), .int (iI z1), .int (iI 0), .null, .long y0, .int r3, .int r4, .int r5, .int r6])), (a1, .inl (T 0, 940, .inl f0))]) M w 0 5 clX8 rfl (by decide) G168 rfl rfl rfl rfl (Nat.le_of_ble_eq_true rfl) rfl dX8_step_116 (fun H locs w => ?_)
            refine lv_goto (tgt := 204) hx hb dX8_step_119 (by decide) ?_
            exact ret (z1, (iI z1), (iI 0), none, y0, r3, r4) _ _ _ _ _ [0, 1] dX8_step_204 ⟨z1_a, z1_b, wok_n⟩ w (by decide) rfl
        · replace c_4 : z3 < x0 := Int.not_le.mp (fun h => c_4 ((iI_le (Int.le_trans (by decide) x0_a) (Int.le_trans x0_b (by decide)) (Int.le_trans (by decide) z3_a) (Int.le_trans z3_b (by decide))).mpr h))
          refine lv_aload_n hx hb dX8_step_76 rfl (lv_at hl 0 rfl) ?_
          refine r_get (v := .int (iI z1)) M w 0 3 clX8 rfl (by decide) G166 rfl rfl dX8_step_77 ?_
          refine lv_aload_n hx hb dX8_step_80 rfl (lv_at hl 0 rfl) ?_
          refine r_get (v := .int r0) M w 0 2 clX8 rfl (by decide) G165 rfl rfl dX8_step_81 ?_
          refine b_any (fun z6 z6_a z6_b => ?_)
          refine lv_icmp_lt (tgt := 103) hx hb dX8_step_84 (by decide) (fun c_7 => ?_) (fun c_7 => ?_)
          · replace c_7 := (iI_lt (Int.le_trans (by decide) z1_a) (Int.le_trans z1_b (by decide)) (Int.le_trans (by decide) z6_a) (Int.le_trans z6_b (by decide))).mp c_7
            refine lv_aload_n hx hb dX8_step_103 rfl (lv_at hl 0 rfl) ?_
            refine r_get (v := .int (iI z1)) M w 0 3 clX8 rfl (by decide) G166 rfl rfl dX8_step_104 ?_
            refine lv_aload_n hx hb dX8_step_107 rfl (lv_at hl 0 rfl) ?_
            refine r_get (v := .int (iI x0)) M w 0 1 clX8 rfl (by decide) G162 rfl rfl dX8_step_108 ?_
            refine lv_icmp_lt (tgt := 122) hx hb dX8_step_111 (by decide) (fun c_8 => ?_) (fun c_8 => ?_)
            · replace c_8 := (iI_lt (Int.le_trans (by decide) z1_a) (Int.le_trans z1_b (by decide)) (Int.le_trans (by decide) x0_a) (Int.le_trans x0_b (by decide))).mp c_8
              exfalso; omega
            · replace c_8 : x0 ≤ z1 := Int.not_lt.mp (fun h => c_8 ((iI_lt (Int.le_trans (by decide) z1_a) (Int.le_trans z1_b (by decide)) (Int.le_trans (by decide) x0_a) (Int.le_trans x0_b (by decide))).mpr h))
              refine lv_aload_n hx hb dX8_step_114 rfl (lv_at hl 0 rfl) ?_
              refine lv_iconst (v := iI 0) hx hb dX8_step_115 (by decide +kernel) ?_
              refine r_put (ws' := [(a0, .inr (8, [.ref a1, .int (iI x0), .int r0, .int (iI z1), .int (iI z1), .int (iI 0), .null, .long y0, .int r3, .int r4, .int r5, .int r6])), (a1, .inl (T 0, 940, .inl f0))]) M w 0 5 clX8 rfl (by decide) G168 rfl rfl rfl rfl (Nat.le_of_ble_eq_true rfl) rfl dX8_step_116 (fun H locs w => ?_)
              refine lv_goto (tgt := 204) hx hb dX8_step_119 (by decide) ?_
              exact ret (z1, (iI z1), (iI 0), none, y0, r3, r4) _ _ _ _ _ [0, 1] dX8_step_204 ⟨z1_a, z1_b, wok_n⟩ w (by decide) rfl
          · replace c_7 : z6 ≤ z1 := Int.not_lt.mp (fun h => c_7 ((iI_lt (Int.le_trans (by decide) z1_a) (Int.le_trans z1_b (by decide)) (Int.le_trans (by decide) z6_a) (Int.le_trans z6_b (by decide))).mpr h))
            refine lv_aload_n hx hb dX8_step_87 rfl (lv_at hl 0 rfl) ?_
            refine lv_aload_n hx hb dX8_step_88 rfl (lv_at hl 0 rfl) ?_
            refine r_get (v := .int r0) M w 0 2 clX8 rfl (by decide) G165 rfl rfl dX8_step_89 ?_
            refine b_any (fun z9 z9_a z9_b => ?_)
            refine r_put (ws' := [(a0, .inr (8, [.ref a1, .int (iI x0), .int r0, .int (iI z1), .int (iI z9), .int r2, .null, .long y0, .int r3, .int r4, .int r5, .int r6])), (a1, .inl (T 0, 940, .inl f0))]) M w 0 4 clX8 rfl (by decide) G167 rfl rfl rfl rfl (Nat.le_of_ble_eq_true rfl) rfl dX8_step_92 (fun H locs w => ?_)
            refine lv_aload_n hx hb dX8_step_95 rfl (lv_at hl 0 rfl) ?_
            refine lv_iconst (v := iI 1) hx hb dX8_step_96 (by decide +kernel) ?_
            refine r_put (ws' := [(a0, .inr (8, [.ref a1, .int (iI x0), .int r0, .int (iI z1), .int (iI z9), .int (iI 1), .null, .long y0, .int r3, .int r4, .int r5, .int r6])), (a1, .inl (T 0, 940, .inl f0))]) M w 0 5 clX8 rfl (by decide) G168 rfl rfl rfl rfl (Nat.le_of_ble_eq_true rfl) rfl dX8_step_97 (fun H locs w => ?_)
            refine lv_goto (tgt := 204) hx hb dX8_step_100 (by decide) ?_
            exact ret (z1, (iI z9), (iI 1), none, y0, r3, r4) _ _ _ _ _ [0, 1] dX8_step_204 ⟨z1_a, z1_b, wok_n⟩ w (by decide) rfl
      · replace c_2 : z1 < x0 := Int.not_le.mp (fun h => c_2 ((iI_le (Int.le_trans (by decide) x0_a) (Int.le_trans x0_b (by decide)) (Int.le_trans (by decide) z1_a) (Int.le_trans z1_b (by decide))).mpr h))
        refine lv_aload_n hx hb dX8_step_11 rfl (lv_at hl 0 rfl) ?_
        refine r_get (v := .ref a1) M w 0 0 clX8 rfl (by decide) G160 rfl rfl dX8_step_12 ?_
        refine lv_aload_n hx hb dX8_step_15 rfl (lv_at hl 0 rfl) ?_
        refine r_get (v := .int (iI z1)) M w 0 3 clX8 rfl (by decide) G166 rfl rfl dX8_step_16 ?_
        refine r_iald (v := _) M w 1 rfl (iI_in (by omega) (by omega) (by decide)) rfl dX8_step_19 ?_
        refine b_any (fun z10 z10_a z10_b => ?_)
        refine lv_bipush (v := iI 32) hx hb dX8_step_20 (by decide +kernel) ?_
        refine lv_icmp_eq (tgt := 39) hx hb dX8_step_22 (by decide) (fun c_11 => ?_) (fun c_11 => ?_)
        · replace c_11 := (iI_eq (Int.le_trans (by decide) z10_a) (Int.le_trans z10_b (by decide)) (by decide) (by decide)).mp c_11
          refine lv_aload_n hx hb dX8_step_39 rfl (lv_at hl 0 rfl) ?_
          refine lv_dup hx hb dX8_step_40 rfl ?_
          refine r_get (v := .int (iI z1)) M w 0 3 clX8 rfl (by decide) G166 rfl rfl dX8_step_41 ?_
          refine lv_iconst (v := iI 1) hx hb dX8_step_44 (by decide +kernel) ?_
          refine r_iadd (v := iI (z1 + 1)) M (iI_add _ _) dX8_step_45 ?_
          refine r_put (ws' := [(a0, .inr (8, [.ref a1, .int (iI x0), .int r0, .int (iI (z1 + 1)), .int r1, .int r2, (va_rf o0), .long y0, .int r3, .int r4, .int r5, .int r6])), (a1, .inl (T 0, 940, .inl f0))]) M w 0 3 clX8 rfl (by decide) G166 rfl rfl rfl rfl (Nat.le_of_ble_eq_true rfl) rfl dX8_step_46 (fun H locs w => ?_)
          refine lv_goto (tgt := 0) hx hb dX8_step_49 (by decide) ?_
          exact ih1 (z1 + 1) _ _ _ (by omega) (by omega) (by omega) w (lv_sub hl [0] rfl)
        · replace c_11 : ¬ z10 = 32 := fun h => c_11 ((iI_eq (Int.le_trans (by decide) z10_a) (Int.le_trans z10_b (by decide)) (by decide) (by decide)).mpr h)
          refine lv_aload_n hx hb dX8_step_25 rfl (lv_at hl 0 rfl) ?_
          refine r_get (v := .ref a1) M w 0 0 clX8 rfl (by decide) G160 rfl rfl dX8_step_26 ?_
          refine lv_aload_n hx hb dX8_step_29 rfl (lv_at hl 0 rfl) ?_
          refine r_get (v := .int (iI z1)) M w 0 3 clX8 rfl (by decide) G166 rfl rfl dX8_step_30 ?_
          refine r_iald (v := _) M w 1 rfl (iI_in (by omega) (by omega) (by decide)) rfl dX8_step_33 ?_
          refine b_any (fun z12 z12_a z12_b => ?_)
          refine lv_bipush (v := iI 10) hx hb dX8_step_34 (by decide +kernel) ?_
          refine lv_icmp_ne (tgt := 52) hx hb dX8_step_36 (by decide) (fun c_13 => ?_) (fun c_13 => ?_)
          · replace c_13 : ¬ z12 = 10 := fun h => c_13 ((iI_eq (Int.le_trans (by decide) z12_a) (Int.le_trans z12_b (by decide)) (by decide) (by decide)).mpr h)
            refine lv_aload_n hx hb dX8_step_52 rfl (lv_at hl 0 rfl) ?_
            refine lv_aload_n hx hb dX8_step_53 rfl (lv_at hl 0 rfl) ?_
            refine r_get (v := .int (iI z1)) M w 0 3 clX8 rfl (by decide) G166 rfl rfl dX8_step_54 ?_
            refine r_put (ws' := [(a0, .inr (8, [.ref a1, .int (iI x0), .int r0, .int (iI z1), .int (iI z1), .int r2, (va_rf o0), .long y0, .int r3, .int r4, .int r5, .int r6])), (a1, .inl (T 0, 940, .inl f0))]) M w 0 4 clX8 rfl (by decide) G167 rfl rfl rfl rfl (Nat.le_of_ble_eq_true rfl) rfl dX8_step_57 (fun H locs w => ?_)
            refine lv_aload_n hx hb dX8_step_60 rfl (lv_at hl 0 rfl) ?_
            refine lv_null hx hb dX8_step_61 ?_
            refine r_put (ws' := [(a0, .inr (8, [.ref a1, .int (iI x0), .int r0, .int (iI z1), .int (iI z1), .int r2, .null, .long y0, .int r3, .int r4, .int r5, .int r6])), (a1, .inl (T 0, 940, .inl f0))]) M w 0 6 clX8 rfl (by decide) G170 rfl rfl rfl rfl (Nat.le_of_ble_eq_true rfl) rfl dX8_step_62 (fun H locs w => ?_)
            refine lv_aload_n hx hb dX8_step_65 rfl (lv_at hl 0 rfl) ?_
            refine r_get (v := .int (iI x0)) M w 0 1 clX8 rfl (by decide) G162 rfl rfl dX8_step_66 ?_
            refine lv_aload_n hx hb dX8_step_69 rfl (lv_at hl 0 rfl) ?_
            refine r_get (v := .int r0) M w 0 2 clX8 rfl (by decide) G165 rfl rfl dX8_step_70 ?_
            refine b_any (fun z14 z14_a z14_b => ?_)
            refine lv_icmp_le (tgt := 103) hx hb dX8_step_73 (by decide) (fun c_15 => ?_) (fun c_15 => ?_)
            · replace c_15 := (iI_le (Int.le_trans (by decide) x0_a) (Int.le_trans x0_b (by decide)) (Int.le_trans (by decide) z14_a) (Int.le_trans z14_b (by decide))).mp c_15
              refine lv_aload_n hx hb dX8_step_103 rfl (lv_at hl 0 rfl) ?_
              refine r_get (v := .int (iI z1)) M w 0 3 clX8 rfl (by decide) G166 rfl rfl dX8_step_104 ?_
              refine lv_aload_n hx hb dX8_step_107 rfl (lv_at hl 0 rfl) ?_
              refine r_get (v := .int (iI x0)) M w 0 1 clX8 rfl (by decide) G162 rfl rfl dX8_step_108 ?_
              refine lv_icmp_lt (tgt := 122) hx hb dX8_step_111 (by decide) (fun c_16 => ?_) (fun c_16 => ?_)
              · replace c_16 := (iI_lt (Int.le_trans (by decide) z1_a) (Int.le_trans z1_b (by decide)) (Int.le_trans (by decide) x0_a) (Int.le_trans x0_b (by decide))).mp c_16
                refine lv_aload_n hx hb dX8_step_122 rfl (lv_at hl 0 rfl) ?_
                refine r_get (v := .ref a1) M w 0 0 clX8 rfl (by decide) G160 rfl rfl dX8_step_123 ?_
                refine lv_aload_n hx hb dX8_step_126 rfl (lv_at hl 0 rfl) ?_
                refine r_get (v := .int (iI z1)) M w 0 3 clX8 rfl (by decide) G166 rfl rfl dX8_step_127 ?_
                refine r_iald (v := _) M w 1 rfl (iI_in (by omega) (by omega) (by decide)) rfl dX8_step_130 ?_
                refine b_any (fun z17 z17_a z17_b => ?_)
                refine k_I (ce := 0) (sl := 0) (rest := []) (wr := [(a0, .inr (8, [.ref a1, .int (iI x0), .int r0, .int (iI z1), .int (iI z1), .int r2, .null, .long y0, .int r3, .int r4, .int r5, .int r6])), (a1, .inl (T 0, 940, .inl f0))]) (r_S (f := 0) [] M w V_HookedCity_Tape_58 G591 (c225_X8_isLetter l D T _ z17 z17_a z17_b) rfl (by decide) rfl hl.1 rfl (Nat.le_of_ble_eq_true rfl) dX8_step_131 (by decide) (by decide) (by decide) (by decide)) w [] [0, 1] rfl rfl (by decide) (by decide) rfl rfl (fun v z18 H locs hp w => ?_)
                have hv : iI z18 = v := hp.1
                subst hv
                have z18_a : 0 ≤ z18 := hp.2.1
                have z18_b : z18 ≤ 1 := hp.2.2.1
                have w : WD D A s.heap [(a0, .inr (8, [.ref a1, .int (iI x0), .int r0, .int (iI z1), .int (iI z1), .int r2, .null, .long y0, .int r3, .int r4, .int r5, .int r6])), (a1, .inl (T 0, 940, .inl f0))] H locs := w
                rcases hp.2.2.2 with ⟨c_19, hr⟩ | ⟨c_20, c_21, hr⟩ | ⟨c_22, c_23, hr⟩
                · subst hr
                  refine lv_if_ne (tgt := 152) hx hb dX8_step_134 (by decide) (fun c => absurd (by decide +kernel) c) (fun _ => ?_)
                  refine lv_aload_n hx hb dX8_step_137 rfl (lv_at hl 0 rfl) ?_
                  refine r_get (v := .ref a1) M w 0 0 clX8 rfl (by decide) G160 rfl rfl dX8_step_138 ?_
                  refine lv_aload_n hx hb dX8_step_141 rfl (lv_at hl 0 rfl) ?_
                  refine r_get (v := .int (iI z1)) M w 0 3 clX8 rfl (by decide) G166 rfl rfl dX8_step_142 ?_
                  refine r_iald (v := _) M w 1 rfl (iI_in (by omega) (by omega) (by decide)) rfl dX8_step_145 ?_
                  refine b_any (fun z24 z24_a z24_b => ?_)
                  refine k_I (ce := 0) (sl := 0) (rest := []) (wr := [(a0, .inr (8, [.ref a1, .int (iI x0), .int r0, .int (iI z1), .int (iI z1), .int r2, .null, .long y0, .int r3, .int r4, .int r5, .int r6])), (a1, .inl (T 0, 940, .inl f0))]) (r_S (f := 0) [] M w V_HookedCity_Tape_62 G594 (c226_X8_isDigit l D T _ z24 z24_a z24_b) rfl (by decide) rfl hl.1 rfl (Nat.le_of_ble_eq_true rfl) dX8_step_146 (by decide) (by decide) (by decide) (by decide)) w [] [0, 1] rfl rfl (by decide) (by decide) rfl rfl (fun v z25 H locs hp w => ?_)
                  have hv : iI z25 = v := hp.1
                  subst hv
                  have z25_a : 0 ≤ z25 := hp.2.1
                  have z25_b : z25 ≤ 1 := hp.2.2.1
                  have w : WD D A s.heap [(a0, .inr (8, [.ref a1, .int (iI x0), .int r0, .int (iI z1), .int (iI z1), .int r2, .null, .long y0, .int r3, .int r4, .int r5, .int r6])), (a1, .inl (T 0, 940, .inl f0))] H locs := w
                  rcases hp.2.2.2 with ⟨c_26, hr⟩ | ⟨c_27, c_28, hr⟩ | ⟨c_29, c_30, hr⟩
                  · subst hr
                    refine lv_if_eq (tgt := 159) hx hb dX8_step_149 (by decide) (fun _ => ?_) (fun c => absurd (by decide +kernel) c)
                    refine lv_aload_n hx hb dX8_step_159 rfl (lv_at hl 0 rfl) ?_
                    refine lv_aload_n hx hb dX8_step_160 rfl (lv_at hl 0 rfl) ?_
                    refine r_get (v := .ref a1) M w 0 0 clX8 rfl (by decide) G160 rfl rfl dX8_step_161 ?_
                    refine lv_aload_n hx hb dX8_step_164 rfl (lv_at hl 0 rfl) ?_
                    refine r_get (v := .int (iI z1)) M w 0 3 clX8 rfl (by decide) G166 rfl rfl dX8_step_165 ?_
                    refine r_iald (v := _) M w 1 rfl (iI_in (by omega) (by omega) (by decide)) rfl dX8_step_168 ?_
                    refine b_any (fun z31 z31_a z31_b => ?_)
                    refine r_put (ws' := [(a0, .inr (8, [.ref a1, .int (iI x0), .int r0, .int (iI z1), .int (iI z1), .int r2, .null, .long y0, .int r3, .int (iI z31), .int r5, .int r6])), (a1, .inl (T 0, 940, .inl f0))]) M w 0 9 clX8 rfl (by decide) G177 rfl rfl rfl rfl (Nat.le_of_ble_eq_true rfl) rfl dX8_step_169 (fun H locs w => ?_)
                    refine lv_aload_n hx hb dX8_step_172 rfl (lv_at hl 0 rfl) ?_
                    refine r_ldcS M 0 rfl dX8_step_173 ?_
                    refine lv_aload_n hx hb dX8_step_175 rfl (lv_at hl 0 rfl) ?_
                    refine r_get (v := .int (iI z31)) M w 0 9 clX8 rfl (by decide) G177 rfl rfl dX8_step_176 ?_
                    refine lv_i2c (v := _) hx hb dX8_step_179 rfl ?_
                    refine b_rng (lo := 0) (hi := 65535) (i2c_r _) (fun z32 z32_a z32_b => ?_)
                    refine k_I (ce := 0) (sl := 0) (rest := [.ref a0]) (wr := [(a0, .inr (8, [.ref a1, .int (iI x0), .int r0, .int (iI z1), .int (iI z1), .int r2, .null, .long y0, .int r3, .int (iI z31), .int r5, .int r6])), (a1, .inl (T 0, 940, .inl f0))]) (r_VT (f := 3) [] M w V_HookedCity_Tape_70 G610 G611 (c234_J0_indexOf_0f7a4 l D T _ z32 (by omega) (by omega)) (M.2.2.2.2.2.2.1.2 0 _ rfl).1 rfl (by decide) rfl hl.1 rfl (Nat.le_of_ble_eq_true rfl) dX8_step_180 (by decide) (by decide) (by decide) (by decide)) w [] [0, 1] rfl rfl (by decide) (by decide) rfl rfl (fun v z33 H locs hp w => ?_)
                    have hv : iI z33 = v := hp.1
                    subst hv
                    have z33_a : (-2147483648) ≤ z33 := hp.2.1
                    have z33_b : z33 ≤ 2147483647 := hp.2.2.1
                    have w : WD D A s.heap [(a0, .inr (8, [.ref a1, .int (iI x0), .int r0, .int (iI z1), .int (iI z1), .int r2, .null, .long y0, .int r3, .int (iI z31), .int r5, .int r6])), (a1, .inl (T 0, 940, .inl f0))] H locs := w
                    rcases hp.2.2.2 with ⟨c_34, hr⟩ | ⟨c_35, c_36, hr⟩ | ⟨c_37, c_38⟩
                    · exfalso; omega
                    · subst hr
                      refine lv_if_lt (tgt := 190) hx hb dX8_step_183 (by decide) (fun _ => ?_) (fun c => absurd (by decide +kernel) c)
                      refine lv_iconst (v := iI 1) hx hb dX8_step_190 (by decide +kernel) ?_
                      refine r_put (ws' := [(a0, .inr (8, [.ref a1, .int (iI x0), .int r0, .int (iI z1), .int (iI z1), .int (iI 1), .null, .long y0, .int r3, .int (iI z31), .int r5, .int r6])), (a1, .inl (T 0, 940, .inl f0))]) M w 0 5 clX8 rfl (by decide) G168 rfl rfl rfl rfl (Nat.le_of_ble_eq_true rfl) rfl dX8_step_191 (fun H locs w => ?_)
                      refine lv_aload_n hx hb dX8_step_194 rfl (lv_at hl 0 rfl) ?_
                      refine lv_dup hx hb dX8_step_195 rfl ?_
                      refine r_get (v := .int (iI z1)) M w 0 3 clX8 rfl (by decide) G166 rfl rfl dX8_step_196 ?_
                      refine lv_iconst (v := iI 1) hx hb dX8_step_199 (by decide +kernel) ?_
                      refine r_iadd (v := iI (z1 + 1)) M (iI_add _ _) dX8_step_200 ?_
                      refine r_put (ws' := [(a0, .inr (8, [.ref a1, .int (iI x0), .int r0, .int (iI (z1 + 1)), .int (iI z1), .int (iI 1), .null, .long y0, .int r3, .int (iI z31), .int r5, .int r6])), (a1, .inl (T 0, 940, .inl f0))]) M w 0 3 clX8 rfl (by decide) G166 rfl rfl rfl rfl (Nat.le_of_ble_eq_true rfl) rfl dX8_step_201 (fun H locs w => ?_)
                      exact ret ((z1 + 1), (iI z1), (iI 1), none, y0, r3, (iI z31)) _ _ _ _ _ [0, 1] dX8_step_204 ⟨(show 0 ≤ (z1 + 1) from by omega), (show (z1 + 1) ≤ 940 from by omega), wok_n⟩ w (by decide) rfl
                    · refine lv_if_lt (tgt := 190) hx hb dX8_step_183 (by decide) (fun c_39 => ?_) (fun c_39 => ?_)
                      · replace c_39 := (iz_lt (Int.le_trans (by decide) z33_a) (Int.le_trans z33_b (by decide))).mp c_39
                        refine lv_iconst (v := iI 1) hx hb dX8_step_190 (by decide +kernel) ?_
                        refine r_put (ws' := [(a0, .inr (8, [.ref a1, .int (iI x0), .int r0, .int (iI z1), .int (iI z1), .int (iI 1), .null, .long y0, .int r3, .int (iI z31), .int r5, .int r6])), (a1, .inl (T 0, 940, .inl f0))]) M w 0 5 clX8 rfl (by decide) G168 rfl rfl rfl rfl (Nat.le_of_ble_eq_true rfl) rfl dX8_step_191 (fun H locs w => ?_)
                        refine lv_aload_n hx hb dX8_step_194 rfl (lv_at hl 0 rfl) ?_
                        refine lv_dup hx hb dX8_step_195 rfl ?_
                        refine r_get (v := .int (iI z1)) M w 0 3 clX8 rfl (by decide) G166 rfl rfl dX8_step_196 ?_
                        refine lv_iconst (v := iI 1) hx hb dX8_step_199 (by decide +kernel) ?_
                        refine r_iadd (v := iI (z1 + 1)) M (iI_add _ _) dX8_step_200 ?_
                        refine r_put (ws' := [(a0, .inr (8, [.ref a1, .int (iI x0), .int r0, .int (iI (z1 + 1)), .int (iI z1), .int (iI 1), .null, .long y0, .int r3, .int (iI z31), .int r5, .int r6])), (a1, .inl (T 0, 940, .inl f0))]) M w 0 3 clX8 rfl (by decide) G166 rfl rfl rfl rfl (Nat.le_of_ble_eq_true rfl) rfl dX8_step_201 (fun H locs w => ?_)
                        exact ret ((z1 + 1), (iI z1), (iI 1), none, y0, r3, (iI z31)) _ _ _ _ _ [0, 1] dX8_step_204 ⟨(show 0 ≤ (z1 + 1) from by omega), (show (z1 + 1) ≤ 940 from by omega), wok_n⟩ w (by decide) rfl
                      · replace c_39 : 0 ≤ z33 := Int.not_lt.mp (fun h => c_39 ((iz_lt (Int.le_trans (by decide) z33_a) (Int.le_trans z33_b (by decide))).mpr h))
                        refine lv_iconst (v := iI 5) hx hb dX8_step_186 (by decide +kernel) ?_
                        refine lv_goto (tgt := 191) hx hb dX8_step_187 (by decide) ?_
                        refine r_put (ws' := [(a0, .inr (8, [.ref a1, .int (iI x0), .int r0, .int (iI z1), .int (iI z1), .int (iI 5), .null, .long y0, .int r3, .int (iI z31), .int r5, .int r6])), (a1, .inl (T 0, 940, .inl f0))]) M w 0 5 clX8 rfl (by decide) G168 rfl rfl rfl rfl (Nat.le_of_ble_eq_true rfl) rfl dX8_step_191 (fun H locs w => ?_)
                        refine lv_aload_n hx hb dX8_step_194 rfl (lv_at hl 0 rfl) ?_
                        refine lv_dup hx hb dX8_step_195 rfl ?_
                        refine r_get (v := .int (iI z1)) M w 0 3 clX8 rfl (by decide) G166 rfl rfl dX8_step_196 ?_
                        refine lv_iconst (v := iI 1) hx hb dX8_step_199 (by decide +kernel) ?_
                        refine r_iadd (v := iI (z1 + 1)) M (iI_add _ _) dX8_step_200 ?_
                        refine r_put (ws' := [(a0, .inr (8, [.ref a1, .int (iI x0), .int r0, .int (iI (z1 + 1)), .int (iI z1), .int (iI 5), .null, .long y0, .int r3, .int (iI z31), .int r5, .int r6])), (a1, .inl (T 0, 940, .inl f0))]) M w 0 3 clX8 rfl (by decide) G166 rfl rfl rfl rfl (Nat.le_of_ble_eq_true rfl) rfl dX8_step_201 (fun H locs w => ?_)
                        exact ret ((z1 + 1), (iI z1), (iI 5), none, y0, r3, (iI z31)) _ _ _ _ _ [0, 1] dX8_step_204 ⟨(show 0 ≤ (z1 + 1) from by omega), (show (z1 + 1) ≤ 940 from by omega), wok_n⟩ w (by decide) rfl
                  · subst hr
                    refine lv_if_eq (tgt := 159) hx hb dX8_step_149 (by decide) (fun _ => ?_) (fun c => absurd (by decide +kernel) c)
                    refine lv_aload_n hx hb dX8_step_159 rfl (lv_at hl 0 rfl) ?_
                    refine lv_aload_n hx hb dX8_step_160 rfl (lv_at hl 0 rfl) ?_
                    refine r_get (v := .ref a1) M w 0 0 clX8 rfl (by decide) G160 rfl rfl dX8_step_161 ?_
                    refine lv_aload_n hx hb dX8_step_164 rfl (lv_at hl 0 rfl) ?_
                    refine r_get (v := .int (iI z1)) M w 0 3 clX8 rfl (by decide) G166 rfl rfl dX8_step_165 ?_
                    refine r_iald (v := _) M w 1 rfl (iI_in (by omega) (by omega) (by decide)) rfl dX8_step_168 ?_
                    refine b_any (fun z40 z40_a z40_b => ?_)
                    refine r_put (ws' := [(a0, .inr (8, [.ref a1, .int (iI x0), .int r0, .int (iI z1), .int (iI z1), .int r2, .null, .long y0, .int r3, .int (iI z40), .int r5, .int r6])), (a1, .inl (T 0, 940, .inl f0))]) M w 0 9 clX8 rfl (by decide) G177 rfl rfl rfl rfl (Nat.le_of_ble_eq_true rfl) rfl dX8_step_169 (fun H locs w => ?_)
                    refine lv_aload_n hx hb dX8_step_172 rfl (lv_at hl 0 rfl) ?_
                    refine r_ldcS M 0 rfl dX8_step_173 ?_
                    refine lv_aload_n hx hb dX8_step_175 rfl (lv_at hl 0 rfl) ?_
                    refine r_get (v := .int (iI z40)) M w 0 9 clX8 rfl (by decide) G177 rfl rfl dX8_step_176 ?_
                    refine lv_i2c (v := _) hx hb dX8_step_179 rfl ?_
                    refine b_rng (lo := 0) (hi := 65535) (i2c_r _) (fun z41 z41_a z41_b => ?_)
                    refine k_I (ce := 0) (sl := 0) (rest := [.ref a0]) (wr := [(a0, .inr (8, [.ref a1, .int (iI x0), .int r0, .int (iI z1), .int (iI z1), .int r2, .null, .long y0, .int r3, .int (iI z40), .int r5, .int r6])), (a1, .inl (T 0, 940, .inl f0))]) (r_VT (f := 3) [] M w V_HookedCity_Tape_70 G610 G611 (c234_J0_indexOf_0f7a4 l D T _ z41 (by omega) (by omega)) (M.2.2.2.2.2.2.1.2 0 _ rfl).1 rfl (by decide) rfl hl.1 rfl (Nat.le_of_ble_eq_true rfl) dX8_step_180 (by decide) (by decide) (by decide) (by decide)) w [] [0, 1] rfl rfl (by decide) (by decide) rfl rfl (fun v z42 H locs hp w => ?_)
                    have hv : iI z42 = v := hp.1
                    subst hv
                    have z42_a : (-2147483648) ≤ z42 := hp.2.1
                    have z42_b : z42 ≤ 2147483647 := hp.2.2.1
                    have w : WD D A s.heap [(a0, .inr (8, [.ref a1, .int (iI x0), .int r0, .int (iI z1), .int (iI z1), .int r2, .null, .long y0, .int r3, .int (iI z40), .int r5, .int r6])), (a1, .inl (T 0, 940, .inl f0))] H locs := w
                    rcases hp.2.2.2 with ⟨c_43, hr⟩ | ⟨c_44, c_45, hr⟩ | ⟨c_46, c_47⟩
                    · exfalso; omega
                    · subst hr
                      refine lv_if_lt (tgt := 190) hx hb dX8_step_183 (by decide) (fun _ => ?_) (fun c => absurd (by decide +kernel) c)
                      refine lv_iconst (v := iI 1) hx hb dX8_step_190 (by decide +kernel) ?_
                      refine r_put (ws' := [(a0, .inr (8, [.ref a1, .int (iI x0), .int r0, .int (iI z1), .int (iI z1), .int (iI 1), .null, .long y0, .int r3, .int (iI z40), .int r5, .int r6])), (a1, .inl (T 0, 940, .inl f0))]) M w 0 5 clX8 rfl (by decide) G168 rfl rfl rfl rfl (Nat.le_of_ble_eq_true rfl) rfl dX8_step_191 (fun H locs w => ?_)
                      refine lv_aload_n hx hb dX8_step_194 rfl (lv_at hl 0 rfl) ?_
                      refine lv_dup hx hb dX8_step_195 rfl ?_
                      refine r_get (v := .int (iI z1)) M w 0 3 clX8 rfl (by decide) G166 rfl rfl dX8_step_196 ?_
                      refine lv_iconst (v := iI 1) hx hb dX8_step_199 (by decide +kernel) ?_
                      refine r_iadd (v := iI (z1 + 1)) M (iI_add _ _) dX8_step_200 ?_
                      refine r_put (ws' := [(a0, .inr (8, [.ref a1, .int (iI x0), .int r0, .int (iI (z1 + 1)), .int (iI z1), .int (iI 1), .null, .long y0, .int r3, .int (iI z40), .int r5, .int r6])), (a1, .inl (T 0, 940, .inl f0))]) M w 0 3 clX8 rfl (by decide) G166 rfl rfl rfl rfl (Nat.le_of_ble_eq_true rfl) rfl dX8_step_201 (fun H locs w => ?_)
                      exact ret ((z1 + 1), (iI z1), (iI 1), none, y0, r3, (iI z40)) _ _ _ _ _ [0, 1] dX8_step_204 ⟨(show 0 ≤ (z1 + 1) from by omega), (show (z1 + 1) ≤ 940 from by omega), wok_n⟩ w (by decide) rfl
                    · refine lv_if_lt (tgt := 190) hx hb dX8_step_183 (by decide) (fun c_48 => ?_) (fun c_48 => ?_)
                      · replace c_48 := (iz_lt (Int.le_trans (by decide) z42_a) (Int.le_trans z42_b (by decide))).mp c_48
                        refine lv_iconst (v := iI 1) hx hb dX8_step_190 (by decide +kernel) ?_
                        refine r_put (ws' := [(a0, .inr (8, [.ref a1, .int (iI x0), .int r0, .int (iI z1), .int (iI z1), .int (iI 1), .null, .long y0, .int r3, .int (iI z40), .int r5, .int r6])), (a1, .inl (T 0, 940, .inl f0))]) M w 0 5 clX8 rfl (by decide) G168 rfl rfl rfl rfl (Nat.le_of_ble_eq_true rfl) rfl dX8_step_191 (fun H locs w => ?_)
                        refine lv_aload_n hx hb dX8_step_194 rfl (lv_at hl 0 rfl) ?_
                        refine lv_dup hx hb dX8_step_195 rfl ?_
                        refine r_get (v := .int (iI z1)) M w 0 3 clX8 rfl (by decide) G166 rfl rfl dX8_step_196 ?_
                        refine lv_iconst (v := iI 1) hx hb dX8_step_199 (by decide +kernel) ?_
                        refine r_iadd (v := iI (z1 + 1)) M (iI_add _ _) dX8_step_200 ?_
                        refine r_put (ws' := [(a0, .inr (8, [.ref a1, .int (iI x0), .int r0, .int (iI (z1 + 1)), .int (iI z1), .int (iI 1), .null, .long y0, .int r3, .int (iI z40), .int r5, .int r6])), (a1, .inl (T 0, 940, .inl f0))]) M w 0 3 clX8 rfl (by decide) G166 rfl rfl rfl rfl (Nat.le_of_ble_eq_true rfl) rfl dX8_step_201 (fun H locs w => ?_)
                        exact ret ((z1 + 1), (iI z1), (iI 1), none, y0, r3, (iI z40)) _ _ _ _ _ [0, 1] dX8_step_204 ⟨(show 0 ≤ (z1 + 1) from by omega), (show (z1 + 1) ≤ 940 from by omega), wok_n⟩ w (by decide) rfl
                      · replace c_48 : 0 ≤ z42 := Int.not_lt.mp (fun h => c_48 ((iz_lt (Int.le_trans (by decide) z42_a) (Int.le_trans z42_b (by decide))).mpr h))
                        refine lv_iconst (v := iI 5) hx hb dX8_step_186 (by decide +kernel) ?_
                        refine lv_goto (tgt := 191) hx hb dX8_step_187 (by decide) ?_
                        refine r_put (ws' := [(a0, .inr (8, [.ref a1, .int (iI x0), .int r0, .int (iI z1), .int (iI z1), .int (iI 5), .null, .long y0, .int r3, .int (iI z40), .int r5, .int r6])), (a1, .inl (T 0, 940, .inl f0))]) M w 0 5 clX8 rfl (by decide) G168 rfl rfl rfl rfl (Nat.le_of_ble_eq_true rfl) rfl dX8_step_191 (fun H locs w => ?_)
                        refine lv_aload_n hx hb dX8_step_194 rfl (lv_at hl 0 rfl) ?_
                        refine lv_dup hx hb dX8_step_195 rfl ?_
                        refine r_get (v := .int (iI z1)) M w 0 3 clX8 rfl (by decide) G166 rfl rfl dX8_step_196 ?_
                        refine lv_iconst (v := iI 1) hx hb dX8_step_199 (by decide +kernel) ?_
                        refine r_iadd (v := iI (z1 + 1)) M (iI_add _ _) dX8_step_200 ?_
                        refine r_put (ws' := [(a0, .inr (8, [.ref a1, .int (iI x0), .int r0, .int (iI (z1 + 1)), .int (iI z1), .int (iI 5), .null, .long y0, .int r3, .int (iI z40), .int r5, .int r6])), (a1, .inl (T 0, 940, .inl f0))]) M w 0 3 clX8 rfl (by decide) G166 rfl rfl rfl rfl (Nat.le_of_ble_eq_true rfl) rfl dX8_step_201 (fun H locs w => ?_)
                        exact ret ((z1 + 1), (iI z1), (iI 5), none, y0, r3, (iI z40)) _ _ _ _ _ [0, 1] dX8_step_204 ⟨(show 0 ≤ (z1 + 1) from by omega), (show (z1 + 1) ≤ 940 from by omega), wok_n⟩ w (by decide) rfl
                  · subst hr
                    refine lv_if_eq (tgt := 159) hx hb dX8_step_149 (by decide) (fun c => absurd c (by decide +kernel)) (fun _ => ?_)
                    refine lv_aload_n hx hb dX8_step_152 rfl (lv_at hl 0 rfl) ?_
                    refine k_V (ce := 0) (sl := 0) (rest := []) (wr := []) (r_V (f := 1) [0, 1] M w V_HookedCity_Tape_65 G598 G2 (c237_X8_readRun l D T _ a0 a1 x0 r0 z1 (iI z1) r2 none y0 r3 r4 r5 r6 f0 x0_a x0_b z1_a z1_b wok_n) 0 clX8 rfl rfl (by decide) rfl hl.1 rfl (Nat.le_of_ble_eq_true rfl) dX8_step_153 (by decide) (by decide) (by decide) (by decide)) w [0, 1] [] rfl rfl (by decide) (by decide) rfl rfl (fun u H locs hp w => ?_)
                    obtain ⟨z49, fr50, fo51, fy52, fr53⟩ := u
                    have z49_a : 0 ≤ z49 := hp.1
                    have z49_b : z49 ≤ 940 := hp.2.1
                    have fo51_h : wok T fo51 := hp.2.2
                    have w : WD D A s.heap [(a0, .inr (8, [.ref a1, .int (iI x0), .int r0, .int (iI z49), .int (iI z1), .int fr50, (va_rf fo51), .long fy52, .int fr53, .int r4, .int r5, .int r6])), (a1, .inl (T 0, 940, .inl f0))] H locs := w
                    refine lv_goto (tgt := 204) hx hb dX8_step_156 (by decide) ?_
                    exact ret (z49, (iI z1), fr50, fo51, fy52, fr53, r4) _ _ _ _ _ [0, 1] dX8_step_204 ⟨z49_a, z49_b, fo51_h⟩ w (by decide) rfl
                · subst hr
                  refine lv_if_ne (tgt := 152) hx hb dX8_step_134 (by decide) (fun c => absurd (by decide +kernel) c) (fun _ => ?_)
                  refine lv_aload_n hx hb dX8_step_137 rfl (lv_at hl 0 rfl) ?_
                  refine r_get (v := .ref a1) M w 0 0 clX8 rfl (by decide) G160 rfl rfl dX8_step_138 ?_
                  refine lv_aload_n hx hb dX8_step_141 rfl (lv_at hl 0 rfl) ?_
                  refine r_get (v := .int (iI z1)) M w 0 3 clX8 rfl (by decide) G166 rfl rfl dX8_step_142 ?_
                  refine r_iald (v := _) M w 1 rfl (iI_in (by omega) (by omega) (by decide)) rfl dX8_step_145 ?_
                  refine b_any (fun z54 z54_a z54_b => ?_)
                  refine k_I (ce := 0) (sl := 0) (rest := []) (wr := [(a0, .inr (8, [.ref a1, .int (iI x0), .int r0, .int (iI z1), .int (iI z1), .int r2, .null, .long y0, .int r3, .int r4, .int r5, .int r6])), (a1, .inl (T 0, 940, .inl f0))]) (r_S (f := 0) [] M w V_HookedCity_Tape_62 G594 (c226_X8_isDigit l D T _ z54 z54_a z54_b) rfl (by decide) rfl hl.1 rfl (Nat.le_of_ble_eq_true rfl) dX8_step_146 (by decide) (by decide) (by decide) (by decide)) w [] [0, 1] rfl rfl (by decide) (by decide) rfl rfl (fun v z55 H locs hp w => ?_)
                  have hv : iI z55 = v := hp.1
                  subst hv
                  have z55_a : 0 ≤ z55 := hp.2.1
                  have z55_b : z55 ≤ 1 := hp.2.2.1
                  have w : WD D A s.heap [(a0, .inr (8, [.ref a1, .int (iI x0), .int r0, .int (iI z1), .int (iI z1), .int r2, .null, .long y0, .int r3, .int r4, .int r5, .int r6])), (a1, .inl (T 0, 940, .inl f0))] H locs := w
                  rcases hp.2.2.2 with ⟨c_56, hr⟩ | ⟨c_57, c_58, hr⟩ | ⟨c_59, c_60, hr⟩
                  · subst hr
                    refine lv_if_eq (tgt := 159) hx hb dX8_step_149 (by decide) (fun _ => ?_) (fun c => absurd (by decide +kernel) c)
                    refine lv_aload_n hx hb dX8_step_159 rfl (lv_at hl 0 rfl) ?_
                    refine lv_aload_n hx hb dX8_step_160 rfl (lv_at hl 0 rfl) ?_
                    refine r_get (v := .ref a1) M w 0 0 clX8 rfl (by decide) G160 rfl rfl dX8_step_161 ?_
                    refine lv_aload_n hx hb dX8_step_164 rfl (lv_at hl 0 rfl) ?_
                    refine r_get (v := .int (iI z1)) M w 0 3 clX8 rfl (by decide) G166 rfl rfl dX8_step_165 ?_
                    refine r_iald (v := _) M w 1 rfl (iI_in (by omega) (by omega) (by decide)) rfl dX8_step_168 ?_
                    refine b_any (fun z61 z61_a z61_b => ?_)
                    refine r_put (ws' := [(a0, .inr (8, [.ref a1, .int (iI x0), .int r0, .int (iI z1), .int (iI z1), .int r2, .null, .long y0, .int r3, .int (iI z61), .int r5, .int r6])), (a1, .inl (T 0, 940, .inl f0))]) M w 0 9 clX8 rfl (by decide) G177 rfl rfl rfl rfl (Nat.le_of_ble_eq_true rfl) rfl dX8_step_169 (fun H locs w => ?_)
                    refine lv_aload_n hx hb dX8_step_172 rfl (lv_at hl 0 rfl) ?_
                    refine r_ldcS M 0 rfl dX8_step_173 ?_
                    refine lv_aload_n hx hb dX8_step_175 rfl (lv_at hl 0 rfl) ?_
                    refine r_get (v := .int (iI z61)) M w 0 9 clX8 rfl (by decide) G177 rfl rfl dX8_step_176 ?_
                    refine lv_i2c (v := _) hx hb dX8_step_179 rfl ?_
                    refine b_rng (lo := 0) (hi := 65535) (i2c_r _) (fun z62 z62_a z62_b => ?_)
                    refine k_I (ce := 0) (sl := 0) (rest := [.ref a0]) (wr := [(a0, .inr (8, [.ref a1, .int (iI x0), .int r0, .int (iI z1), .int (iI z1), .int r2, .null, .long y0, .int r3, .int (iI z61), .int r5, .int r6])), (a1, .inl (T 0, 940, .inl f0))]) (r_VT (f := 3) [] M w V_HookedCity_Tape_70 G610 G611 (c234_J0_indexOf_0f7a4 l D T _ z62 (by omega) (by omega)) (M.2.2.2.2.2.2.1.2 0 _ rfl).1 rfl (by decide) rfl hl.1 rfl (Nat.le_of_ble_eq_true rfl) dX8_step_180 (by decide) (by decide) (by decide) (by decide)) w [] [0, 1] rfl rfl (by decide) (by decide) rfl rfl (fun v z63 H locs hp w => ?_)
                    have hv : iI z63 = v := hp.1
                    subst hv
                    have z63_a : (-2147483648) ≤ z63 := hp.2.1
                    have z63_b : z63 ≤ 2147483647 := hp.2.2.1
                    have w : WD D A s.heap [(a0, .inr (8, [.ref a1, .int (iI x0), .int r0, .int (iI z1), .int (iI z1), .int r2, .null, .long y0, .int r3, .int (iI z61), .int r5, .int r6])), (a1, .inl (T 0, 940, .inl f0))] H locs := w
                    rcases hp.2.2.2 with ⟨c_64, hr⟩ | ⟨c_65, c_66, hr⟩ | ⟨c_67, c_68⟩
                    · exfalso; omega
                    · subst hr
                      refine lv_if_lt (tgt := 190) hx hb dX8_step_183 (by decide) (fun _ => ?_) (fun c => absurd (by decide +kernel) c)
                      refine lv_iconst (v := iI 1) hx hb dX8_step_190 (by decide +kernel) ?_
                      refine r_put (ws' := [(a0, .inr (8, [.ref a1, .int (iI x0), .int r0, .int (iI z1), .int (iI z1), .int (iI 1), .null, .long y0, .int r3, .int (iI z61), .int r5, .int r6])), (a1, .inl (T 0, 940, .inl f0))]) M w 0 5 clX8 rfl (by decide) G168 rfl rfl rfl rfl (Nat.le_of_ble_eq_true rfl) rfl dX8_step_191 (fun H locs w => ?_)
                      refine lv_aload_n hx hb dX8_step_194 rfl (lv_at hl 0 rfl) ?_
                      refine lv_dup hx hb dX8_step_195 rfl ?_
                      refine r_get (v := .int (iI z1)) M w 0 3 clX8 rfl (by decide) G166 rfl rfl dX8_step_196 ?_
                      refine lv_iconst (v := iI 1) hx hb dX8_step_199 (by decide +kernel) ?_
                      refine r_iadd (v := iI (z1 + 1)) M (iI_add _ _) dX8_step_200 ?_
                      refine r_put (ws' := [(a0, .inr (8, [.ref a1, .int (iI x0), .int r0, .int (iI (z1 + 1)), .int (iI z1), .int (iI 1), .null, .long y0, .int r3, .int (iI z61), .int r5, .int r6])), (a1, .inl (T 0, 940, .inl f0))]) M w 0 3 clX8 rfl (by decide) G166 rfl rfl rfl rfl (Nat.le_of_ble_eq_true rfl) rfl dX8_step_201 (fun H locs w => ?_)
                      exact ret ((z1 + 1), (iI z1), (iI 1), none, y0, r3, (iI z61)) _ _ _ _ _ [0, 1] dX8_step_204 ⟨(show 0 ≤ (z1 + 1) from by omega), (show (z1 + 1) ≤ 940 from by omega), wok_n⟩ w (by decide) rfl
                    · refine lv_if_lt (tgt := 190) hx hb dX8_step_183 (by decide) (fun c_69 => ?_) (fun c_69 => ?_)
                      · replace c_69 := (iz_lt (Int.le_trans (by decide) z63_a) (Int.le_trans z63_b (by decide))).mp c_69
                        refine lv_iconst (v := iI 1) hx hb dX8_step_190 (by decide +kernel) ?_
                        refine r_put (ws' := [(a0, .inr (8, [.ref a1, .int (iI x0), .int r0, .int (iI z1), .int (iI z1), .int (iI 1), .null, .long y0, .int r3, .int (iI z61), .int r5, .int r6])), (a1, .inl (T 0, 940, .inl f0))]) M w 0 5 clX8 rfl (by decide) G168 rfl rfl rfl rfl (Nat.le_of_ble_eq_true rfl) rfl dX8_step_191 (fun H locs w => ?_)
                        refine lv_aload_n hx hb dX8_step_194 rfl (lv_at hl 0 rfl) ?_
                        refine lv_dup hx hb dX8_step_195 rfl ?_
                        refine r_get (v := .int (iI z1)) M w 0 3 clX8 rfl (by decide) G166 rfl rfl dX8_step_196 ?_
                        refine lv_iconst (v := iI 1) hx hb dX8_step_199 (by decide +kernel) ?_
                        refine r_iadd (v := iI (z1 + 1)) M (iI_add _ _) dX8_step_200 ?_
                        refine r_put (ws' := [(a0, .inr (8, [.ref a1, .int (iI x0), .int r0, .int (iI (z1 + 1)), .int (iI z1), .int (iI 1), .null, .long y0, .int r3, .int (iI z61), .int r5, .int r6])), (a1, .inl (T 0, 940, .inl f0))]) M w 0 3 clX8 rfl (by decide) G166 rfl rfl rfl rfl (Nat.le_of_ble_eq_true rfl) rfl dX8_step_201 (fun H locs w => ?_)
                        exact ret ((z1 + 1), (iI z1), (iI 1), none, y0, r3, (iI z61)) _ _ _ _ _ [0, 1] dX8_step_204 ⟨(show 0 ≤ (z1 + 1) from by omega), (show (z1 + 1) ≤ 940 from by omega), wok_n⟩ w (by decide) rfl
                      · replace c_69 : 0 ≤ z63 := Int.not_lt.mp (fun h => c_69 ((iz_lt (Int.le_trans (by decide) z63_a) (Int.le_trans z63_b (by decide))).mpr h))
                        refine lv_iconst (v := iI 5) hx hb dX8_step_186 (by decide +kernel) ?_
                        refine lv_goto (tgt := 191) hx hb dX8_step_187 (by decide) ?_
                        refine r_put (ws' := [(a0, .inr (8, [.ref a1, .int (iI x0), .int r0, .int (iI z1), .int (iI z1), .int (iI 5), .null, .long y0, .int r3, .int (iI z61), .int r5, .int r6])), (a1, .inl (T 0, 940, .inl f0))]) M w 0 5 clX8 rfl (by decide) G168 rfl rfl rfl rfl (Nat.le_of_ble_eq_true rfl) rfl dX8_step_191 (fun H locs w => ?_)
                        refine lv_aload_n hx hb dX8_step_194 rfl (lv_at hl 0 rfl) ?_
                        refine lv_dup hx hb dX8_step_195 rfl ?_
                        refine r_get (v := .int (iI z1)) M w 0 3 clX8 rfl (by decide) G166 rfl rfl dX8_step_196 ?_
                        refine lv_iconst (v := iI 1) hx hb dX8_step_199 (by decide +kernel) ?_
                        refine r_iadd (v := iI (z1 + 1)) M (iI_add _ _) dX8_step_200 ?_
                        refine r_put (ws' := [(a0, .inr (8, [.ref a1, .int (iI x0), .int r0, .int (iI (z1 + 1)), .int (iI z1), .int (iI 5), .null, .long y0, .int r3, .int (iI z61), .int r5, .int r6])), (a1, .inl (T 0, 940, .inl f0))]) M w 0 3 clX8 rfl (by decide) G166 rfl rfl rfl rfl (Nat.le_of_ble_eq_true rfl) rfl dX8_step_201 (fun H locs w => ?_)
                        exact ret ((z1 + 1), (iI z1), (iI 5), none, y0, r3, (iI z61)) _ _ _ _ _ [0, 1] dX8_step_204 ⟨(show 0 ≤ (z1 + 1) from by omega), (show (z1 + 1) ≤ 940 from by omega), wok_n⟩ w (by decide) rfl
                  · subst hr
                    refine lv_if_eq (tgt := 159) hx hb dX8_step_149 (by decide) (fun _ => ?_) (fun c => absurd (by decide +kernel) c)
                    refine lv_aload_n hx hb dX8_step_159 rfl (lv_at hl 0 rfl) ?_
                    refine lv_aload_n hx hb dX8_step_160 rfl (lv_at hl 0 rfl) ?_
                    refine r_get (v := .ref a1) M w 0 0 clX8 rfl (by decide) G160 rfl rfl dX8_step_161 ?_
                    refine lv_aload_n hx hb dX8_step_164 rfl (lv_at hl 0 rfl) ?_
                    refine r_get (v := .int (iI z1)) M w 0 3 clX8 rfl (by decide) G166 rfl rfl dX8_step_165 ?_
                    refine r_iald (v := _) M w 1 rfl (iI_in (by omega) (by omega) (by decide)) rfl dX8_step_168 ?_
                    refine b_any (fun z70 z70_a z70_b => ?_)
                    refine r_put (ws' := [(a0, .inr (8, [.ref a1, .int (iI x0), .int r0, .int (iI z1), .int (iI z1), .int r2, .null, .long y0, .int r3, .int (iI z70), .int r5, .int r6])), (a1, .inl (T 0, 940, .inl f0))]) M w 0 9 clX8 rfl (by decide) G177 rfl rfl rfl rfl (Nat.le_of_ble_eq_true rfl) rfl dX8_step_169 (fun H locs w => ?_)
                    refine lv_aload_n hx hb dX8_step_172 rfl (lv_at hl 0 rfl) ?_
                    refine r_ldcS M 0 rfl dX8_step_173 ?_
                    refine lv_aload_n hx hb dX8_step_175 rfl (lv_at hl 0 rfl) ?_
                    refine r_get (v := .int (iI z70)) M w 0 9 clX8 rfl (by decide) G177 rfl rfl dX8_step_176 ?_
                    refine lv_i2c (v := _) hx hb dX8_step_179 rfl ?_
                    refine b_rng (lo := 0) (hi := 65535) (i2c_r _) (fun z71 z71_a z71_b => ?_)
                    refine k_I (ce := 0) (sl := 0) (rest := [.ref a0]) (wr := [(a0, .inr (8, [.ref a1, .int (iI x0), .int r0, .int (iI z1), .int (iI z1), .int r2, .null, .long y0, .int r3, .int (iI z70), .int r5, .int r6])), (a1, .inl (T 0, 940, .inl f0))]) (r_VT (f := 3) [] M w V_HookedCity_Tape_70 G610 G611 (c234_J0_indexOf_0f7a4 l D T _ z71 (by omega) (by omega)) (M.2.2.2.2.2.2.1.2 0 _ rfl).1 rfl (by decide) rfl hl.1 rfl (Nat.le_of_ble_eq_true rfl) dX8_step_180 (by decide) (by decide) (by decide) (by decide)) w [] [0, 1] rfl rfl (by decide) (by decide) rfl rfl (fun v z72 H locs hp w => ?_)
                    have hv : iI z72 = v := hp.1
                    subst hv
                    have z72_a : (-2147483648) ≤ z72 := hp.2.1
                    have z72_b : z72 ≤ 2147483647 := hp.2.2.1
                    have w : WD D A s.heap [(a0, .inr (8, [.ref a1, .int (iI x0), .int r0, .int (iI z1), .int (iI z1), .int r2, .null, .long y0, .int r3, .int (iI z70), .int r5, .int r6])), (a1, .inl (T 0, 940, .inl f0))] H locs := w
                    rcases hp.2.2.2 with ⟨c_73, hr⟩ | ⟨c_74, c_75, hr⟩ | ⟨c_76, c_77⟩
                    · exfalso; omega
                    · subst hr
                      refine lv_if_lt (tgt := 190) hx hb dX8_step_183 (by decide) (fun _ => ?_) (fun c => absurd (by decide +kernel) c)
                      refine lv_iconst (v := iI 1) hx hb dX8_step_190 (by decide +kernel) ?_
                      refine r_put (ws' := [(a0, .inr (8, [.ref a1, .int (iI x0), .int r0, .int (iI z1), .int (iI z1), .int (iI 1), .null, .long y0, .int r3, .int (iI z70), .int r5, .int r6])), (a1, .inl (T 0, 940, .inl f0))]) M w 0 5 clX8 rfl (by decide) G168 rfl rfl rfl rfl (Nat.le_of_ble_eq_true rfl) rfl dX8_step_191 (fun H locs w => ?_)
                      refine lv_aload_n hx hb dX8_step_194 rfl (lv_at hl 0 rfl) ?_
                      refine lv_dup hx hb dX8_step_195 rfl ?_
                      refine r_get (v := .int (iI z1)) M w 0 3 clX8 rfl (by decide) G166 rfl rfl dX8_step_196 ?_
                      refine lv_iconst (v := iI 1) hx hb dX8_step_199 (by decide +kernel) ?_
                      refine r_iadd (v := iI (z1 + 1)) M (iI_add _ _) dX8_step_200 ?_
                      refine r_put (ws' := [(a0, .inr (8, [.ref a1, .int (iI x0), .int r0, .int (iI (z1 + 1)), .int (iI z1), .int (iI 1), .null, .long y0, .int r3, .int (iI z70), .int r5, .int r6])), (a1, .inl (T 0, 940, .inl f0))]) M w 0 3 clX8 rfl (by decide) G166 rfl rfl rfl rfl (Nat.le_of_ble_eq_true rfl) rfl dX8_step_201 (fun H locs w => ?_)
                      exact ret ((z1 + 1), (iI z1), (iI 1), none, y0, r3, (iI z70)) _ _ _ _ _ [0, 1] dX8_step_204 ⟨(show 0 ≤ (z1 + 1) from by omega), (show (z1 + 1) ≤ 940 from by omega), wok_n⟩ w (by decide) rfl
                    · refine lv_if_lt (tgt := 190) hx hb dX8_step_183 (by decide) (fun c_78 => ?_) (fun c_78 => ?_)
                      · replace c_78 := (iz_lt (Int.le_trans (by decide) z72_a) (Int.le_trans z72_b (by decide))).mp c_78
                        refine lv_iconst (v := iI 1) hx hb dX8_step_190 (by decide +kernel) ?_
                        refine r_put (ws' := [(a0, .inr (8, [.ref a1, .int (iI x0), .int r0, .int (iI z1), .int (iI z1), .int (iI 1), .null, .long y0, .int r3, .int (iI z70), .int r5, .int r6])), (a1, .inl (T 0, 940, .inl f0))]) M w 0 5 clX8 rfl (by decide) G168 rfl rfl rfl rfl (Nat.le_of_ble_eq_true rfl) rfl dX8_step_191 (fun H locs w => ?_)
                        refine lv_aload_n hx hb dX8_step_194 rfl (lv_at hl 0 rfl) ?_
                        refine lv_dup hx hb dX8_step_195 rfl ?_
                        refine r_get (v := .int (iI z1)) M w 0 3 clX8 rfl (by decide) G166 rfl rfl dX8_step_196 ?_
                        refine lv_iconst (v := iI 1) hx hb dX8_step_199 (by decide +kernel) ?_
                        refine r_iadd (v := iI (z1 + 1)) M (iI_add _ _) dX8_step_200 ?_
                        refine r_put (ws' := [(a0, .inr (8, [.ref a1, .int (iI x0), .int r0, .int (iI (z1 + 1)), .int (iI z1), .int (iI 1), .null, .long y0, .int r3, .int (iI z70), .int r5, .int r6])), (a1, .inl (T 0, 940, .inl f0))]) M w 0 3 clX8 rfl (by decide) G166 rfl rfl rfl rfl (Nat.le_of_ble_eq_true rfl) rfl dX8_step_201 (fun H locs w => ?_)
                        exact ret ((z1 + 1), (iI z1), (iI 1), none, y0, r3, (iI z70)) _ _ _ _ _ [0, 1] dX8_step_204 ⟨(show 0 ≤ (z1 + 1) from by omega), (show (z1 + 1) ≤ 940 from by omega), wok_n⟩ w (by decide) rfl
                      · replace c_78 : 0 ≤ z72 := Int.not_lt.mp (fun h => c_78 ((iz_lt (Int.le_trans (by decide) z72_a) (Int.le_trans z72_b (by decide))).mpr h))
                        refine lv_iconst (v := iI 5) hx hb dX8_step_186 (by decide +kernel) ?_
                        refine lv_goto (tgt := 191) hx hb dX8_step_187 (by decide) ?_
                        refine r_put (ws' := [(a0, .inr (8, [.ref a1, .int (iI x0), .int r0, .int (iI z1), .int (iI z1), .int (iI 5), .null, .long y0, .int r3, .int (iI z70), .int r5, .int r6])), (a1, .inl (T 0, 940, .inl f0))]) M w 0 5 clX8 rfl (by decide) G168 rfl rfl rfl rfl (Nat.le_of_ble_eq_true rfl) rfl dX8_step_191 (fun H locs w => ?_)
                        refine lv_aload_n hx hb dX8_step_194 rfl (lv_at hl 0 rfl) ?_
                        refine lv_dup hx hb dX8_step_195 rfl ?_
                        refine r_get (v := .int (iI z1)) M w 0 3 clX8 rfl (by decide) G166 rfl rfl dX8_step_196 ?_
                        refine lv_iconst (v := iI 1) hx hb dX8_step_199 (by decide +kernel) ?_
                        refine r_iadd (v := iI (z1 + 1)) M (iI_add _ _) dX8_step_200 ?_
                        refine r_put (ws' := [(a0, .inr (8, [.ref a1, .int (iI x0), .int r0, .int (iI (z1 + 1)), .int (iI z1), .int (iI 5), .null, .long y0, .int r3, .int (iI z70), .int r5, .int r6])), (a1, .inl (T 0, 940, .inl f0))]) M w 0 3 clX8 rfl (by decide) G166 rfl rfl rfl rfl (Nat.le_of_ble_eq_true rfl) rfl dX8_step_201 (fun H locs w => ?_)
                        exact ret ((z1 + 1), (iI z1), (iI 5), none, y0, r3, (iI z70)) _ _ _ _ _ [0, 1] dX8_step_204 ⟨(show 0 ≤ (z1 + 1) from by omega), (show (z1 + 1) ≤ 940 from by omega), wok_n⟩ w (by decide) rfl
                  · subst hr
                    refine lv_if_eq (tgt := 159) hx hb dX8_step_149 (by decide) (fun c => absurd c (by decide +kernel)) (fun _ => ?_)
                    refine lv_aload_n hx hb dX8_step_152 rfl (lv_at hl 0 rfl) ?_
                    refine k_V (ce := 0) (sl := 0) (rest := []) (wr := []) (r_V (f := 1) [0, 1] M w V_HookedCity_Tape_65 G598 G2 (c237_X8_readRun l D T _ a0 a1 x0 r0 z1 (iI z1) r2 none y0 r3 r4 r5 r6 f0 x0_a x0_b z1_a z1_b wok_n) 0 clX8 rfl rfl (by decide) rfl hl.1 rfl (Nat.le_of_ble_eq_true rfl) dX8_step_153 (by decide) (by decide) (by decide) (by decide)) w [0, 1] [] rfl rfl (by decide) (by decide) rfl rfl (fun u H locs hp w => ?_)
                    obtain ⟨z79, fr80, fo81, fy82, fr83⟩ := u
                    have z79_a : 0 ≤ z79 := hp.1
                    have z79_b : z79 ≤ 940 := hp.2.1
                    have fo81_h : wok T fo81 := hp.2.2
                    have w : WD D A s.heap [(a0, .inr (8, [.ref a1, .int (iI x0), .int r0, .int (iI z79), .int (iI z1), .int fr80, (va_rf fo81), .long fy82, .int fr83, .int r4, .int r5, .int r6])), (a1, .inl (T 0, 940, .inl f0))] H locs := w
                    refine lv_goto (tgt := 204) hx hb dX8_step_156 (by decide) ?_
                    exact ret (z79, (iI z1), fr80, fo81, fy82, fr83, r4) _ _ _ _ _ [0, 1] dX8_step_204 ⟨z79_a, z79_b, fo81_h⟩ w (by decide) rfl
                · subst hr
                  refine lv_if_ne (tgt := 152) hx hb dX8_step_134 (by decide) (fun _ => ?_) (fun c => absurd c (by decide +kernel))
                  refine lv_aload_n hx hb dX8_step_152 rfl (lv_at hl 0 rfl) ?_
                  refine k_V (ce := 0) (sl := 0) (rest := []) (wr := []) (r_V (f := 1) [0, 1] M w V_HookedCity_Tape_65 G598 G2 (c237_X8_readRun l D T _ a0 a1 x0 r0 z1 (iI z1) r2 none y0 r3 r4 r5 r6 f0 x0_a x0_b z1_a z1_b wok_n) 0 clX8 rfl rfl (by decide) rfl hl.1 rfl (Nat.le_of_ble_eq_true rfl) dX8_step_153 (by decide) (by decide) (by decide) (by decide)) w [0, 1] [] rfl rfl (by decide) (by decide) rfl rfl (fun u H locs hp w => ?_)
                  obtain ⟨z84, fr85, fo86, fy87, fr88⟩ := u
                  have z84_a : 0 ≤ z84 := hp.1
                  have z84_b : z84 ≤ 940 := hp.2.1
                  have fo86_h : wok T fo86 := hp.2.2
                  have w : WD D A s.heap [(a0, .inr (8, [.ref a1, .int (iI x0), .int r0, .int (iI z84), .int (iI z1), .int fr85, (va_rf fo86), .long fy87, .int fr88, .int r4, .int r5, .int r6])), (a1, .inl (T 0, 940, .inl f0))] H locs := w
                  refine lv_goto (tgt := 204) hx hb dX8_step_156 (by decide) ?_
                  exact ret (z84, (iI z1), fr85, fo86, fy87, fr88, r4) _ _ _ _ _ [0, 1] dX8_step_204 ⟨z84_a, z84_b, fo86_h⟩ w (by decide) rfl
              · replace c_16 : x0 ≤ z1 := Int.not_lt.mp (fun h => c_16 ((iI_lt (Int.le_trans (by decide) z1_a) (Int.le_trans z1_b (by decide)) (Int.le_trans (by decide) x0_a) (Int.le_trans x0_b (by decide))).mpr h))
                exfalso; omega
            · replace c_15 : z14 < x0 := Int.not_le.mp (fun h => c_15 ((iI_le (Int.le_trans (by decide) x0_a) (Int.le_trans x0_b (by decide)) (Int.le_trans (by decide) z14_a) (Int.le_trans z14_b (by decide))).mpr h))
              refine lv_aload_n hx hb dX8_step_76 rfl (lv_at hl 0 rfl) ?_
              refine r_get (v := .int (iI z1)) M w 0 3 clX8 rfl (by decide) G166 rfl rfl dX8_step_77 ?_
              refine lv_aload_n hx hb dX8_step_80 rfl (lv_at hl 0 rfl) ?_
              refine r_get (v := .int r0) M w 0 2 clX8 rfl (by decide) G165 rfl rfl dX8_step_81 ?_
              refine b_any (fun z89 z89_a z89_b => ?_)
              refine lv_icmp_lt (tgt := 103) hx hb dX8_step_84 (by decide) (fun c_90 => ?_) (fun c_90 => ?_)
              · replace c_90 := (iI_lt (Int.le_trans (by decide) z1_a) (Int.le_trans z1_b (by decide)) (Int.le_trans (by decide) z89_a) (Int.le_trans z89_b (by decide))).mp c_90
                refine lv_aload_n hx hb dX8_step_103 rfl (lv_at hl 0 rfl) ?_
                refine r_get (v := .int (iI z1)) M w 0 3 clX8 rfl (by decide) G166 rfl rfl dX8_step_104 ?_
                refine lv_aload_n hx hb dX8_step_107 rfl (lv_at hl 0 rfl) ?_
                refine r_get (v := .int (iI x0)) M w 0 1 clX8 rfl (by decide) G162 rfl rfl dX8_step_108 ?_
                refine lv_icmp_lt (tgt := 122) hx hb dX8_step_111 (by decide) (fun c_91 => ?_) (fun c_91 => ?_)
                · replace c_91 := (iI_lt (Int.le_trans (by decide) z1_a) (Int.le_trans z1_b (by decide)) (Int.le_trans (by decide) x0_a) (Int.le_trans x0_b (by decide))).mp c_91
                  refine lv_aload_n hx hb dX8_step_122 rfl (lv_at hl 0 rfl) ?_
                  refine r_get (v := .ref a1) M w 0 0 clX8 rfl (by decide) G160 rfl rfl dX8_step_123 ?_
                  refine lv_aload_n hx hb dX8_step_126 rfl (lv_at hl 0 rfl) ?_
                  refine r_get (v := .int (iI z1)) M w 0 3 clX8 rfl (by decide) G166 rfl rfl dX8_step_127 ?_
                  refine r_iald (v := _) M w 1 rfl (iI_in (by omega) (by omega) (by decide)) rfl dX8_step_130 ?_
                  refine b_any (fun z92 z92_a z92_b => ?_)
                  refine k_I (ce := 0) (sl := 0) (rest := []) (wr := [(a0, .inr (8, [.ref a1, .int (iI x0), .int r0, .int (iI z1), .int (iI z1), .int r2, .null, .long y0, .int r3, .int r4, .int r5, .int r6])), (a1, .inl (T 0, 940, .inl f0))]) (r_S (f := 0) [] M w V_HookedCity_Tape_58 G591 (c225_X8_isLetter l D T _ z92 z92_a z92_b) rfl (by decide) rfl hl.1 rfl (Nat.le_of_ble_eq_true rfl) dX8_step_131 (by decide) (by decide) (by decide) (by decide)) w [] [0, 1] rfl rfl (by decide) (by decide) rfl rfl (fun v z93 H locs hp w => ?_)
                  have hv : iI z93 = v := hp.1
                  subst hv
                  have z93_a : 0 ≤ z93 := hp.2.1
                  have z93_b : z93 ≤ 1 := hp.2.2.1
                  have w : WD D A s.heap [(a0, .inr (8, [.ref a1, .int (iI x0), .int r0, .int (iI z1), .int (iI z1), .int r2, .null, .long y0, .int r3, .int r4, .int r5, .int r6])), (a1, .inl (T 0, 940, .inl f0))] H locs := w
                  rcases hp.2.2.2 with ⟨c_94, hr⟩ | ⟨c_95, c_96, hr⟩ | ⟨c_97, c_98, hr⟩
                  · subst hr
                    refine lv_if_ne (tgt := 152) hx hb dX8_step_134 (by decide) (fun c => absurd (by decide +kernel) c) (fun _ => ?_)
                    refine lv_aload_n hx hb dX8_step_137 rfl (lv_at hl 0 rfl) ?_
                    refine r_get (v := .ref a1) M w 0 0 clX8 rfl (by decide) G160 rfl rfl dX8_step_138 ?_
                    refine lv_aload_n hx hb dX8_step_141 rfl (lv_at hl 0 rfl) ?_
                    refine r_get (v := .int (iI z1)) M w 0 3 clX8 rfl (by decide) G166 rfl rfl dX8_step_142 ?_
                    refine r_iald (v := _) M w 1 rfl (iI_in (by omega) (by omega) (by decide)) rfl dX8_step_145 ?_
                    refine b_any (fun z99 z99_a z99_b => ?_)
                    refine k_I (ce := 0) (sl := 0) (rest := []) (wr := [(a0, .inr (8, [.ref a1, .int (iI x0), .int r0, .int (iI z1), .int (iI z1), .int r2, .null, .long y0, .int r3, .int r4, .int r5, .int r6])), (a1, .inl (T 0, 940, .inl f0))]) (r_S (f := 0) [] M w V_HookedCity_Tape_62 G594 (c226_X8_isDigit l D T _ z99 z99_a z99_b) rfl (by decide) rfl hl.1 rfl (Nat.le_of_ble_eq_true rfl) dX8_step_146 (by decide) (by decide) (by decide) (by decide)) w [] [0, 1] rfl rfl (by decide) (by decide) rfl rfl (fun v z100 H locs hp w => ?_)
                    have hv : iI z100 = v := hp.1
                    subst hv
                    have z100_a : 0 ≤ z100 := hp.2.1
                    have z100_b : z100 ≤ 1 := hp.2.2.1
                    have w : WD D A s.heap [(a0, .inr (8, [.ref a1, .int (iI x0), .int r0, .int (iI z1), .int (iI z1), .int r2, .null, .long y0, .int r3, .int r4, .int r5, .int r6])), (a1, .inl (T 0, 940, .inl f0))] H locs := w
                    rcases hp.2.2.2 with ⟨c_101, hr⟩ | ⟨c_102, c_103, hr⟩ | ⟨c_104, c_105, hr⟩
                    · subst hr
                      refine lv_if_eq (tgt := 159) hx hb dX8_step_149 (by decide) (fun _ => ?_) (fun c => absurd (by decide +kernel) c)
                      refine lv_aload_n hx hb dX8_step_159 rfl (lv_at hl 0 rfl) ?_
                      refine lv_aload_n hx hb dX8_step_160 rfl (lv_at hl 0 rfl) ?_
                      refine r_get (v := .ref a1) M w 0 0 clX8 rfl (by decide) G160 rfl rfl dX8_step_161 ?_
                      refine lv_aload_n hx hb dX8_step_164 rfl (lv_at hl 0 rfl) ?_
                      refine r_get (v := .int (iI z1)) M w 0 3 clX8 rfl (by decide) G166 rfl rfl dX8_step_165 ?_
                      refine r_iald (v := _) M w 1 rfl (iI_in (by omega) (by omega) (by decide)) rfl dX8_step_168 ?_
                      refine b_any (fun z106 z106_a z106_b => ?_)
                      refine r_put (ws' := [(a0, .inr (8, [.ref a1, .int (iI x0), .int r0, .int (iI z1), .int (iI z1), .int r2, .null, .long y0, .int r3, .int (iI z106), .int r5, .int r6])), (a1, .inl (T 0, 940, .inl f0))]) M w 0 9 clX8 rfl (by decide) G177 rfl rfl rfl rfl (Nat.le_of_ble_eq_true rfl) rfl dX8_step_169 (fun H locs w => ?_)
                      refine lv_aload_n hx hb dX8_step_172 rfl (lv_at hl 0 rfl) ?_
                      refine r_ldcS M 0 rfl dX8_step_173 ?_
                      refine lv_aload_n hx hb dX8_step_175 rfl (lv_at hl 0 rfl) ?_
                      refine r_get (v := .int (iI z106)) M w 0 9 clX8 rfl (by decide) G177 rfl rfl dX8_step_176 ?_
                      refine lv_i2c (v := _) hx hb dX8_step_179 rfl ?_
                      refine b_rng (lo := 0) (hi := 65535) (i2c_r _) (fun z107 z107_a z107_b => ?_)
                      refine k_I (ce := 0) (sl := 0) (rest := [.ref a0]) (wr := [(a0, .inr (8, [.ref a1, .int (iI x0), .int r0, .int (iI z1), .int (iI z1), .int r2, .null, .long y0, .int r3, .int (iI z106), .int r5, .int r6])), (a1, .inl (T 0, 940, .inl f0))]) (r_VT (f := 3) [] M w V_HookedCity_Tape_70 G610 G611 (c234_J0_indexOf_0f7a4 l D T _ z107 (by omega) (by omega)) (M.2.2.2.2.2.2.1.2 0 _ rfl).1 rfl (by decide) rfl hl.1 rfl (Nat.le_of_ble_eq_true rfl) dX8_step_180 (by decide) (by decide) (by decide) (by decide)) w [] [0, 1] rfl rfl (by decide) (by decide) rfl rfl (fun v z108 H locs hp w => ?_)
                      have hv : iI z108 = v := hp.1
                      subst hv
                      have z108_a : (-2147483648) ≤ z108 := hp.2.1
                      have z108_b : z108 ≤ 2147483647 := hp.2.2.1
                      have w : WD D A s.heap [(a0, .inr (8, [.ref a1, .int (iI x0), .int r0, .int (iI z1), .int (iI z1), .int r2, .null, .long y0, .int r3, .int (iI z106), .int r5, .int r6])), (a1, .inl (T 0, 940, .inl f0))] H locs := w
                      rcases hp.2.2.2 with ⟨c_109, hr⟩ | ⟨c_110, c_111, hr⟩ | ⟨c_112, c_113⟩
                      · exfalso; omega
                      · subst hr
                        refine lv_if_lt (tgt := 190) hx hb dX8_step_183 (by decide) (fun _ => ?_) (fun c => absurd (by decide +kernel) c)
                        refine lv_iconst (v := iI 1) hx hb dX8_step_190 (by decide +kernel) ?_
                        refine r_put (ws' := [(a0, .inr (8, [.ref a1, .int (iI x0), .int r0, .int (iI z1), .int (iI z1), .int (iI 1), .null, .long y0, .int r3, .int (iI z106), .int r5, .int r6])), (a1, .inl (T 0, 940, .inl f0))]) M w 0 5 clX8 rfl (by decide) G168 rfl rfl rfl rfl (Nat.le_of_ble_eq_true rfl) rfl dX8_step_191 (fun H locs w => ?_)
                        refine lv_aload_n hx hb dX8_step_194 rfl (lv_at hl 0 rfl) ?_
                        refine lv_dup hx hb dX8_step_195 rfl ?_
                        refine r_get (v := .int (iI z1)) M w 0 3 clX8 rfl (by decide) G166 rfl rfl dX8_step_196 ?_
                        refine lv_iconst (v := iI 1) hx hb dX8_step_199 (by decide +kernel) ?_
                        refine r_iadd (v := iI (z1 + 1)) M (iI_add _ _) dX8_step_200 ?_
                        refine r_put (ws' := [(a0, .inr (8, [.ref a1, .int (iI x0), .int r0, .int (iI (z1 + 1)), .int (iI z1), .int (iI 1), .null, .long y0, .int r3, .int (iI z106), .int r5, .int r6])), (a1, .inl (T 0, 940, .inl f0))]) M w 0 3 clX8 rfl (by decide) G166 rfl rfl rfl rfl (Nat.le_of_ble_eq_true rfl) rfl dX8_step_201 (fun H locs w => ?_)
                        exact ret ((z1 + 1), (iI z1), (iI 1), none, y0, r3, (iI z106)) _ _ _ _ _ [0, 1] dX8_step_204 ⟨(show 0 ≤ (z1 + 1) from by omega), (show (z1 + 1) ≤ 940 from by omega), wok_n⟩ w (by decide) rfl
                      · refine lv_if_lt (tgt := 190) hx hb dX8_step_183 (by decide) (fun c_114 => ?_) (fun c_114 => ?_)
                        · replace c_114 := (iz_lt (Int.le_trans (by decide) z108_a) (Int.le_trans z108_b (by decide))).mp c_114
                          refine lv_iconst (v := iI 1) hx hb dX8_step_190 (by decide +kernel) ?_
                          refine r_put (ws' := [(a0, .inr (8, [.ref a1, .int (iI x0), .int r0, .int (iI z1), .int (iI z1), .int (iI 1), .null, .long y0, .int r3, .int (iI z106), .int r5, .int r6])), (a1, .inl (T 0, 940, .inl f0))]) M w 0 5 clX8 rfl (by decide) G168 rfl rfl rfl rfl (Nat.le_of_ble_eq_true rfl) rfl dX8_step_191 (fun H locs w => ?_)
                          refine lv_aload_n hx hb dX8_step_194 rfl (lv_at hl 0 rfl) ?_
                          refine lv_dup hx hb dX8_step_195 rfl ?_
                          refine r_get (v := .int (iI z1)) M w 0 3 clX8 rfl (by decide) G166 rfl rfl dX8_step_196 ?_
                          refine lv_iconst (v := iI 1) hx hb dX8_step_199 (by decide +kernel) ?_
                          refine r_iadd (v := iI (z1 + 1)) M (iI_add _ _) dX8_step_200 ?_
                          refine r_put (ws' := [(a0, .inr (8, [.ref a1, .int (iI x0), .int r0, .int (iI (z1 + 1)), .int (iI z1), .int (iI 1), .null, .long y0, .int r3, .int (iI z106), .int r5, .int r6])), (a1, .inl (T 0, 940, .inl f0))]) M w 0 3 clX8 rfl (by decide) G166 rfl rfl rfl rfl (Nat.le_of_ble_eq_true rfl) rfl dX8_step_201 (fun H locs w => ?_)
                          exact ret ((z1 + 1), (iI z1), (iI 1), none, y0, r3, (iI z106)) _ _ _ _ _ [0, 1] dX8_step_204 ⟨(show 0 ≤ (z1 + 1) from by omega), (show (z1 + 1) ≤ 940 from by omega), wok_n⟩ w (by decide) rfl
                        · replace c_114 : 0 ≤ z108 := Int.not_lt.mp (fun h => c_114 ((iz_lt (Int.le_trans (by decide) z108_a) (Int.le_trans z108_b (by decide))).mpr h))
                          refine lv_iconst (v := iI 5) hx hb dX8_step_186 (by decide +kernel) ?_
                          refine lv_goto (tgt := 191) hx hb dX8_step_187 (by decide) ?_
                          refine r_put (ws' := [(a0, .inr (8, [.ref a1, .int (iI x0), .int r0, .int (iI z1), .int (iI z1), .int (iI 5), .null, .long y0, .int r3, .int (iI z106), .int r5, .int r6])), (a1, .inl (T 0, 940, .inl f0))]) M w 0 5 clX8 rfl (by decide) G168 rfl rfl rfl rfl (Nat.le_of_ble_eq_true rfl) rfl dX8_step_191 (fun H locs w => ?_)
                          refine lv_aload_n hx hb dX8_step_194 rfl (lv_at hl 0 rfl) ?_
                          refine lv_dup hx hb dX8_step_195 rfl ?_
                          refine r_get (v := .int (iI z1)) M w 0 3 clX8 rfl (by decide) G166 rfl rfl dX8_step_196 ?_
                          refine lv_iconst (v := iI 1) hx hb dX8_step_199 (by decide +kernel) ?_
                          refine r_iadd (v := iI (z1 + 1)) M (iI_add _ _) dX8_step_200 ?_
                          refine r_put (ws' := [(a0, .inr (8, [.ref a1, .int (iI x0), .int r0, .int (iI (z1 + 1)), .int (iI z1), .int (iI 5), .null, .long y0, .int r3, .int (iI z106), .int r5, .int r6])), (a1, .inl (T 0, 940, .inl f0))]) M w 0 3 clX8 rfl (by decide) G166 rfl rfl rfl rfl (Nat.le_of_ble_eq_true rfl) rfl dX8_step_201 (fun H locs w => ?_)
                          exact ret ((z1 + 1), (iI z1), (iI 5), none, y0, r3, (iI z106)) _ _ _ _ _ [0, 1] dX8_step_204 ⟨(show 0 ≤ (z1 + 1) from by omega), (show (z1 + 1) ≤ 940 from by omega), wok_n⟩ w (by decide) rfl
                    · subst hr
                      refine lv_if_eq (tgt := 159) hx hb dX8_step_149 (by decide) (fun _ => ?_) (fun c => absurd (by decide +kernel) c)
                      refine lv_aload_n hx hb dX8_step_159 rfl (lv_at hl 0 rfl) ?_
                      refine lv_aload_n hx hb dX8_step_160 rfl (lv_at hl 0 rfl) ?_
                      refine r_get (v := .ref a1) M w 0 0 clX8 rfl (by decide) G160 rfl rfl dX8_step_161 ?_
                      refine lv_aload_n hx hb dX8_step_164 rfl (lv_at hl 0 rfl) ?_
                      refine r_get (v := .int (iI z1)) M w 0 3 clX8 rfl (by decide) G166 rfl rfl dX8_step_165 ?_
                      refine r_iald (v := _) M w 1 rfl (iI_in (by omega) (by omega) (by decide)) rfl dX8_step_168 ?_
                      refine b_any (fun z115 z115_a z115_b => ?_)
                      refine r_put (ws' := [(a0, .inr (8, [.ref a1, .int (iI x0), .int r0, .int (iI z1), .int (iI z1), .int r2, .null, .long y0, .int r3, .int (iI z115), .int r5, .int r6])), (a1, .inl (T 0, 940, .inl f0))]) M w 0 9 clX8 rfl (by decide) G177 rfl rfl rfl rfl (Nat.le_of_ble_eq_true rfl) rfl dX8_step_169 (fun H locs w => ?_)
                      refine lv_aload_n hx hb dX8_step_172 rfl (lv_at hl 0 rfl) ?_
                      refine r_ldcS M 0 rfl dX8_step_173 ?_
                      refine lv_aload_n hx hb dX8_step_175 rfl (lv_at hl 0 rfl) ?_
                      refine r_get (v := .int (iI z115)) M w 0 9 clX8 rfl (by decide) G177 rfl rfl dX8_step_176 ?_
                      refine lv_i2c (v := _) hx hb dX8_step_179 rfl ?_
                      refine b_rng (lo := 0) (hi := 65535) (i2c_r _) (fun z116 z116_a z116_b => ?_)
                      refine k_I (ce := 0) (sl := 0) (rest := [.ref a0]) (wr := [(a0, .inr (8, [.ref a1, .int (iI x0), .int r0, .int (iI z1), .int (iI z1), .int r2, .null, .long y0, .int r3, .int (iI z115), .int r5, .int r6])), (a1, .inl (T 0, 940, .inl f0))]) (r_VT (f := 3) [] M w V_HookedCity_Tape_70 G610 G611 (c234_J0_indexOf_0f7a4 l D T _ z116 (by omega) (by omega)) (M.2.2.2.2.2.2.1.2 0 _ rfl).1 rfl (by decide) rfl hl.1 rfl (Nat.le_of_ble_eq_true rfl) dX8_step_180 (by decide) (by decide) (by decide) (by decide)) w [] [0, 1] rfl rfl (by decide) (by decide) rfl rfl (fun v z117 H locs hp w => ?_)
                      have hv : iI z117 = v := hp.1
                      subst hv
                      have z117_a : (-2147483648) ≤ z117 := hp.2.1
                      have z117_b : z117 ≤ 2147483647 := hp.2.2.1
                      have w : WD D A s.heap [(a0, .inr (8, [.ref a1, .int (iI x0), .int r0, .int (iI z1), .int (iI z1), .int r2, .null, .long y0, .int r3, .int (iI z115), .int r5, .int r6])), (a1, .inl (T 0, 940, .inl f0))] H locs := w
                      rcases hp.2.2.2 with ⟨c_118, hr⟩ | ⟨c_119, c_120, hr⟩ | ⟨c_121, c_122⟩
                      · exfalso; omega
                      · subst hr
                        refine lv_if_lt (tgt := 190) hx hb dX8_step_183 (by decide) (fun _ => ?_) (fun c => absurd (by decide +kernel) c)
                        refine lv_iconst (v := iI 1) hx hb dX8_step_190 (by decide +kernel) ?_
                        refine r_put (ws' := [(a0, .inr (8, [.ref a1, .int (iI x0), .int r0, .int (iI z1), .int (iI z1), .int (iI 1), .null, .long y0, .int r3, .int (iI z115), .int r5, .int r6])), (a1, .inl (T 0, 940, .inl f0))]) M w 0 5 clX8 rfl (by decide) G168 rfl rfl rfl rfl (Nat.le_of_ble_eq_true rfl) rfl dX8_step_191 (fun H locs w => ?_)
                        refine lv_aload_n hx hb dX8_step_194 rfl (lv_at hl 0 rfl) ?_
                        refine lv_dup hx hb dX8_step_195 rfl ?_
                        refine r_get (v := .int (iI z1)) M w 0 3 clX8 rfl (by decide) G166 rfl rfl dX8_step_196 ?_
                        refine lv_iconst (v := iI 1) hx hb dX8_step_199 (by decide +kernel) ?_
                        refine r_iadd (v := iI (z1 + 1)) M (iI_add _ _) dX8_step_200 ?_
                        refine r_put (ws' := [(a0, .inr (8, [.ref a1, .int (iI x0), .int r0, .int (iI (z1 + 1)), .int (iI z1), .int (iI 1), .null, .long y0, .int r3, .int (iI z115), .int r5, .int r6])), (a1, .inl (T 0, 940, .inl f0))]) M w 0 3 clX8 rfl (by decide) G166 rfl rfl rfl rfl (Nat.le_of_ble_eq_true rfl) rfl dX8_step_201 (fun H locs w => ?_)
                        exact ret ((z1 + 1), (iI z1), (iI 1), none, y0, r3, (iI z115)) _ _ _ _ _ [0, 1] dX8_step_204 ⟨(show 0 ≤ (z1 + 1) from by omega), (show (z1 + 1) ≤ 940 from by omega), wok_n⟩ w (by decide) rfl
                      · refine lv_if_lt (tgt := 190) hx hb dX8_step_183 (by decide) (fun c_123 => ?_) (fun c_123 => ?_)
                        · replace c_123 := (iz_lt (Int.le_trans (by decide) z117_a) (Int.le_trans z117_b (by decide))).mp c_123
                          refine lv_iconst (v := iI 1) hx hb dX8_step_190 (by decide +kernel) ?_
                          refine r_put (ws' := [(a0, .inr (8, [.ref a1, .int (iI x0), .int r0, .int (iI z1), .int (iI z1), .int (iI 1), .null, .long y0, .int r3, .int (iI z115), .int r5, .int r6])), (a1, .inl (T 0, 940, .inl f0))]) M w 0 5 clX8 rfl (by decide) G168 rfl rfl rfl rfl (Nat.le_of_ble_eq_true rfl) rfl dX8_step_191 (fun H locs w => ?_)
                          refine lv_aload_n hx hb dX8_step_194 rfl (lv_at hl 0 rfl) ?_
                          refine lv_dup hx hb dX8_step_195 rfl ?_
                          refine r_get (v := .int (iI z1)) M w 0 3 clX8 rfl (by decide) G166 rfl rfl dX8_step_196 ?_
                          refine lv_iconst (v := iI 1) hx hb dX8_step_199 (by decide +kernel) ?_
                          refine r_iadd (v := iI (z1 + 1)) M (iI_add _ _) dX8_step_200 ?_
                          refine r_put (ws' := [(a0, .inr (8, [.ref a1, .int (iI x0), .int r0, .int (iI (z1 + 1)), .int (iI z1), .int (iI 1), .null, .long y0, .int r3, .int (iI z115), .int r5, .int r6])), (a1, .inl (T 0, 940, .inl f0))]) M w 0 3 clX8 rfl (by decide) G166 rfl rfl rfl rfl (Nat.le_of_ble_eq_true rfl) rfl dX8_step_201 (fun H locs w => ?_)
                          exact ret ((z1 + 1), (iI z1), (iI 1), none, y0, r3, (iI z115)) _ _ _ _ _ [0, 1] dX8_step_204 ⟨(show 0 ≤ (z1 + 1) from by omega), (show (z1 + 1) ≤ 940 from by omega), wok_n⟩ w (by decide) rfl
                        · replace c_123 : 0 ≤ z117 := Int.not_lt.mp (fun h => c_123 ((iz_lt (Int.le_trans (by decide) z117_a) (Int.le_trans z117_b (by decide))).mpr h))
                          refine lv_iconst (v := iI 5) hx hb dX8_step_186 (by decide +kernel) ?_
                          refine lv_goto (tgt := 191) hx hb dX8_step_187 (by decide) ?_
                          refine r_put (ws' := [(a0, .inr (8, [.ref a1, .int (iI x0), .int r0, .int (iI z1), .int (iI z1), .int (iI 5), .null, .long y0, .int r3, .int (iI z115), .int r5, .int r6])), (a1, .inl (T 0, 940, .inl f0))]) M w 0 5 clX8 rfl (by decide) G168 rfl rfl rfl rfl (Nat.le_of_ble_eq_true rfl) rfl dX8_step_191 (fun H locs w => ?_)
                          refine lv_aload_n hx hb dX8_step_194 rfl (lv_at hl 0 rfl) ?_
                          refine lv_dup hx hb dX8_step_195 rfl ?_
                          refine r_get (v := .int (iI z1)) M w 0 3 clX8 rfl (by decide) G166 rfl rfl dX8_step_196 ?_
                          refine lv_iconst (v := iI 1) hx hb dX8_step_199 (by decide +kernel) ?_
                          refine r_iadd (v := iI (z1 + 1)) M (iI_add _ _) dX8_step_200 ?_
                          refine r_put (ws' := [(a0, .inr (8, [.ref a1, .int (iI x0), .int r0, .int (iI (z1 + 1)), .int (iI z1), .int (iI 5), .null, .long y0, .int r3, .int (iI z115), .int r5, .int r6])), (a1, .inl (T 0, 940, .inl f0))]) M w 0 3 clX8 rfl (by decide) G166 rfl rfl rfl rfl (Nat.le_of_ble_eq_true rfl) rfl dX8_step_201 (fun H locs w => ?_)
                          exact ret ((z1 + 1), (iI z1), (iI 5), none, y0, r3, (iI z115)) _ _ _ _ _ [0, 1] dX8_step_204 ⟨(show 0 ≤ (z1 + 1) from by omega), (show (z1 + 1) ≤ 940 from by omega), wok_n⟩ w (by decide) rfl
                    · subst hr
                      refine lv_if_eq (tgt := 159) hx hb dX8_step_149 (by decide) (fun c => absurd c (by decide +kernel)) (fun _ => ?_)
                      refine lv_aload_n hx hb dX8_step_152 rfl (lv_at hl 0 rfl) ?_
                      refine k_V (ce := 0) (sl := 0) (rest := []) (wr := []) (r_V (f := 1) [0, 1] M w V_HookedCity_Tape_65 G598 G2 (c237_X8_readRun l D T _ a0 a1 x0 r0 z1 (iI z1) r2 none y0 r3 r4 r5 r6 f0 x0_a x0_b z1_a z1_b wok_n) 0 clX8 rfl rfl (by decide) rfl hl.1 rfl (Nat.le_of_ble_eq_true rfl) dX8_step_153 (by decide) (by decide) (by decide) (by decide)) w [0, 1] [] rfl rfl (by decide) (by decide) rfl rfl (fun u H locs hp w => ?_)
                      obtain ⟨z124, fr125, fo126, fy127, fr128⟩ := u
                      have z124_a : 0 ≤ z124 := hp.1
                      have z124_b : z124 ≤ 940 := hp.2.1
                      have fo126_h : wok T fo126 := hp.2.2
                      have w : WD D A s.heap [(a0, .inr (8, [.ref a1, .int (iI x0), .int r0, .int (iI z124), .int (iI z1), .int fr125, (va_rf fo126), .long fy127, .int fr128, .int r4, .int r5, .int r6])), (a1, .inl (T 0, 940, .inl f0))] H locs := w
                      refine lv_goto (tgt := 204) hx hb dX8_step_156 (by decide) ?_
                      exact ret (z124, (iI z1), fr125, fo126, fy127, fr128, r4) _ _ _ _ _ [0, 1] dX8_step_204 ⟨z124_a, z124_b, fo126_h⟩ w (by decide) rfl
                  · subst hr
                    refine lv_if_ne (tgt := 152) hx hb dX8_step_134 (by decide) (fun c => absurd (by decide +kernel) c) (fun _ => ?_)
                    refine lv_aload_n hx hb dX8_step_137 rfl (lv_at hl 0 rfl) ?_
                    refine r_get (v := .ref a1) M w 0 0 clX8 rfl (by decide) G160 rfl rfl dX8_step_138 ?_
                    refine lv_aload_n hx hb dX8_step_141 rfl (lv_at hl 0 rfl) ?_
                    refine r_get (v := .int (iI z1)) M w 0 3 clX8 rfl (by decide) G166 rfl rfl dX8_step_142 ?_
                    refine r_iald (v := _) M w 1 rfl (iI_in (by omega) (by omega) (by decide)) rfl dX8_step_145 ?_
                    refine b_any (fun z129 z129_a z129_b => ?_)
                    refine k_I (ce := 0) (sl := 0) (rest := []) (wr := [(a0, .inr (8, [.ref a1, .int (iI x0), .int r0, .int (iI z1), .int (iI z1), .int r2, .null, .long y0, .int r3, .int r4, .int r5, .int r6])), (a1, .inl (T 0, 940, .inl f0))]) (r_S (f := 0) [] M w V_HookedCity_Tape_62 G594 (c226_X8_isDigit l D T _ z129 z129_a z129_b) rfl (by decide) rfl hl.1 rfl (Nat.le_of_ble_eq_true rfl) dX8_step_146 (by decide) (by decide) (by decide) (by decide)) w [] [0, 1] rfl rfl (by decide) (by decide) rfl rfl (fun v z130 H locs hp w => ?_)
                    have hv : iI z130 = v := hp.1
                    subst hv
                    have z130_a : 0 ≤ z130 := hp.2.1
                    have z130_b : z130 ≤ 1 := hp.2.2.1
                    have w : WD D A s.heap [(a0, .inr (8, [.ref a1, .int (iI x0), .int r0, .int (iI z1), .int (iI z1), .int r2, .null, .long y0, .int r3, .int r4, .int r5, .int r6])), (a1, .inl (T 0, 940, .inl f0))] H locs := w
                    rcases hp.2.2.2 with ⟨c_131, hr⟩ | ⟨c_132, c_133, hr⟩ | ⟨c_134, c_135, hr⟩
                    · subst hr
                      refine lv_if_eq (tgt := 159) hx hb dX8_step_149 (by decide) (fun _ => ?_) (fun c => absurd (by decide +kernel) c)
                      refine lv_aload_n hx hb dX8_step_159 rfl (lv_at hl 0 rfl) ?_
                      refine lv_aload_n hx hb dX8_step_160 rfl (lv_at hl 0 rfl) ?_
                      refine r_get (v := .ref a1) M w 0 0 clX8 rfl (by decide) G160 rfl rfl dX8_step_161 ?_
                      refine lv_aload_n hx hb dX8_step_164 rfl (lv_at hl 0 rfl) ?_
                      refine r_get (v := .int (iI z1)) M w 0 3 clX8 rfl (by decide) G166 rfl rfl dX8_step_165 ?_
                      refine r_iald (v := _) M w 1 rfl (iI_in (by omega) (by omega) (by decide)) rfl dX8_step_168 ?_
                      refine b_any (fun z136 z136_a z136_b => ?_)
                      refine r_put (ws' := [(a0, .inr (8, [.ref a1, .int (iI x0), .int r0, .int (iI z1), .int (iI z1), .int r2, .null, .long y0, .int r3, .int (iI z136), .int r5, .int r6])), (a1, .inl (T 0, 940, .inl f0))]) M w 0 9 clX8 rfl (by decide) G177 rfl rfl rfl rfl (Nat.le_of_ble_eq_true rfl) rfl dX8_step_169 (fun H locs w => ?_)
                      refine lv_aload_n hx hb dX8_step_172 rfl (lv_at hl 0 rfl) ?_
                      refine r_ldcS M 0 rfl dX8_step_173 ?_
                      refine lv_aload_n hx hb dX8_step_175 rfl (lv_at hl 0 rfl) ?_
                      refine r_get (v := .int (iI z136)) M w 0 9 clX8 rfl (by decide) G177 rfl rfl dX8_step_176 ?_
                      refine lv_i2c (v := _) hx hb dX8_step_179 rfl ?_
                      refine b_rng (lo := 0) (hi := 65535) (i2c_r _) (fun z137 z137_a z137_b => ?_)
                      refine k_I (ce := 0) (sl := 0) (rest := [.ref a0]) (wr := [(a0, .inr (8, [.ref a1, .int (iI x0), .int r0, .int (iI z1), .int (iI z1), .int r2, .null, .long y0, .int r3, .int (iI z136), .int r5, .int r6])), (a1, .inl (T 0, 940, .inl f0))]) (r_VT (f := 3) [] M w V_HookedCity_Tape_70 G610 G611 (c234_J0_indexOf_0f7a4 l D T _ z137 (by omega) (by omega)) (M.2.2.2.2.2.2.1.2 0 _ rfl).1 rfl (by decide) rfl hl.1 rfl (Nat.le_of_ble_eq_true rfl) dX8_step_180 (by decide) (by decide) (by decide) (by decide)) w [] [0, 1] rfl rfl (by decide) (by decide) rfl rfl (fun v z138 H locs hp w => ?_)
                      have hv : iI z138 = v := hp.1
                      subst hv
                      have z138_a : (-2147483648) ≤ z138 := hp.2.1
                      have z138_b : z138 ≤ 2147483647 := hp.2.2.1
                      have w : WD D A s.heap [(a0, .inr (8, [.ref a1, .int (iI x0), .int r0, .int (iI z1), .int (iI z1), .int r2, .null, .long y0, .int r3, .int (iI z136), .int r5, .int r6])), (a1, .inl (T 0, 940, .inl f0))] H locs := w
                      rcases hp.2.2.2 with ⟨c_139, hr⟩ | ⟨c_140, c_141, hr⟩ | ⟨c_142, c_143⟩
                      · exfalso; omega
                      · subst hr
                        refine lv_if_lt (tgt := 190) hx hb dX8_step_183 (by decide) (fun _ => ?_) (fun c => absurd (by decide +kernel) c)
                        refine lv_iconst (v := iI 1) hx hb dX8_step_190 (by decide +kernel) ?_
                        refine r_put (ws' := [(a0, .inr (8, [.ref a1, .int (iI x0), .int r0, .int (iI z1), .int (iI z1), .int (iI 1), .null, .long y0, .int r3, .int (iI z136), .int r5, .int r6])), (a1, .inl (T 0, 940, .inl f0))]) M w 0 5 clX8 rfl (by decide) G168 rfl rfl rfl rfl (Nat.le_of_ble_eq_true rfl) rfl dX8_step_191 (fun H locs w => ?_)
                        refine lv_aload_n hx hb dX8_step_194 rfl (lv_at hl 0 rfl) ?_
                        refine lv_dup hx hb dX8_step_195 rfl ?_
                        refine r_get (v := .int (iI z1)) M w 0 3 clX8 rfl (by decide) G166 rfl rfl dX8_step_196 ?_
                        refine lv_iconst (v := iI 1) hx hb dX8_step_199 (by decide +kernel) ?_
                        refine r_iadd (v := iI (z1 + 1)) M (iI_add _ _) dX8_step_200 ?_
                        refine r_put (ws' := [(a0, .inr (8, [.ref a1, .int (iI x0), .int r0, .int (iI (z1 + 1)), .int (iI z1), .int (iI 1), .null, .long y0, .int r3, .int (iI z136), .int r5, .int r6])), (a1, .inl (T 0, 940, .inl f0))]) M w 0 3 clX8 rfl (by decide) G166 rfl rfl rfl rfl (Nat.le_of_ble_eq_true rfl) rfl dX8_step_201 (fun H locs w => ?_)
                        exact ret ((z1 + 1), (iI z1), (iI 1), none, y0, r3, (iI z136)) _ _ _ _ _ [0, 1] dX8_step_204 ⟨(show 0 ≤ (z1 + 1) from by omega), (show (z1 + 1) ≤ 940 from by omega), wok_n⟩ w (by decide) rfl
                      · refine lv_if_lt (tgt := 190) hx hb dX8_step_183 (by decide) (fun c_144 => ?_) (fun c_144 => ?_)
                        · replace c_144 := (iz_lt (Int.le_trans (by decide) z138_a) (Int.le_trans z138_b (by decide))).mp c_144
                          refine lv_iconst (v := iI 1) hx hb dX8_step_190 (by decide +kernel) ?_
                          refine r_put (ws' := [(a0, .inr (8, [.ref a1, .int (iI x0), .int r0, .int (iI z1), .int (iI z1), .int (iI 1), .null, .long y0, .int r3, .int (iI z136), .int r5, .int r6])), (a1, .inl (T 0, 940, .inl f0))]) M w 0 5 clX8 rfl (by decide) G168 rfl rfl rfl rfl (Nat.le_of_ble_eq_true rfl) rfl dX8_step_191 (fun H locs w => ?_)
                          refine lv_aload_n hx hb dX8_step_194 rfl (lv_at hl 0 rfl) ?_
                          refine lv_dup hx hb dX8_step_195 rfl ?_
                          refine r_get (v := .int (iI z1)) M w 0 3 clX8 rfl (by decide) G166 rfl rfl dX8_step_196 ?_
                          refine lv_iconst (v := iI 1) hx hb dX8_step_199 (by decide +kernel) ?_
                          refine r_iadd (v := iI (z1 + 1)) M (iI_add _ _) dX8_step_200 ?_
                          refine r_put (ws' := [(a0, .inr (8, [.ref a1, .int (iI x0), .int r0, .int (iI (z1 + 1)), .int (iI z1), .int (iI 1), .null, .long y0, .int r3, .int (iI z136), .int r5, .int r6])), (a1, .inl (T 0, 940, .inl f0))]) M w 0 3 clX8 rfl (by decide) G166 rfl rfl rfl rfl (Nat.le_of_ble_eq_true rfl) rfl dX8_step_201 (fun H locs w => ?_)
                          exact ret ((z1 + 1), (iI z1), (iI 1), none, y0, r3, (iI z136)) _ _ _ _ _ [0, 1] dX8_step_204 ⟨(show 0 ≤ (z1 + 1) from by omega), (show (z1 + 1) ≤ 940 from by omega), wok_n⟩ w (by decide) rfl
                        · replace c_144 : 0 ≤ z138 := Int.not_lt.mp (fun h => c_144 ((iz_lt (Int.le_trans (by decide) z138_a) (Int.le_trans z138_b (by decide))).mpr h))
                          refine lv_iconst (v := iI 5) hx hb dX8_step_186 (by decide +kernel) ?_
                          refine lv_goto (tgt := 191) hx hb dX8_step_187 (by decide) ?_
                          refine r_put (ws' := [(a0, .inr (8, [.ref a1, .int (iI x0), .int r0, .int (iI z1), .int (iI z1), .int (iI 5), .null, .long y0, .int r3, .int (iI z136), .int r5, .int r6])), (a1, .inl (T 0, 940, .inl f0))]) M w 0 5 clX8 rfl (by decide) G168 rfl rfl rfl rfl (Nat.le_of_ble_eq_true rfl) rfl dX8_step_191 (fun H locs w => ?_)
                          refine lv_aload_n hx hb dX8_step_194 rfl (lv_at hl 0 rfl) ?_
                          refine lv_dup hx hb dX8_step_195 rfl ?_
                          refine r_get (v := .int (iI z1)) M w 0 3 clX8 rfl (by decide) G166 rfl rfl dX8_step_196 ?_
                          refine lv_iconst (v := iI 1) hx hb dX8_step_199 (by decide +kernel) ?_
                          refine r_iadd (v := iI (z1 + 1)) M (iI_add _ _) dX8_step_200 ?_
                          refine r_put (ws' := [(a0, .inr (8, [.ref a1, .int (iI x0), .int r0, .int (iI (z1 + 1)), .int (iI z1), .int (iI 5), .null, .long y0, .int r3, .int (iI z136), .int r5, .int r6])), (a1, .inl (T 0, 940, .inl f0))]) M w 0 3 clX8 rfl (by decide) G166 rfl rfl rfl rfl (Nat.le_of_ble_eq_true rfl) rfl dX8_step_201 (fun H locs w => ?_)
                          exact ret ((z1 + 1), (iI z1), (iI 5), none, y0, r3, (iI z136)) _ _ _ _ _ [0, 1] dX8_step_204 ⟨(show 0 ≤ (z1 + 1) from by omega), (show (z1 + 1) ≤ 940 from by omega), wok_n⟩ w (by decide) rfl
                    · subst hr
                      refine lv_if_eq (tgt := 159) hx hb dX8_step_149 (by decide) (fun _ => ?_) (fun c => absurd (by decide +kernel) c)
                      refine lv_aload_n hx hb dX8_step_159 rfl (lv_at hl 0 rfl) ?_
                      refine lv_aload_n hx hb dX8_step_160 rfl (lv_at hl 0 rfl) ?_
                      refine r_get (v := .ref a1) M w 0 0 clX8 rfl (by decide) G160 rfl rfl dX8_step_161 ?_
                      refine lv_aload_n hx hb dX8_step_164 rfl (lv_at hl 0 rfl) ?_
                      refine r_get (v := .int (iI z1)) M w 0 3 clX8 rfl (by decide) G166 rfl rfl dX8_step_165 ?_
                      refine r_iald (v := _) M w 1 rfl (iI_in (by omega) (by omega) (by decide)) rfl dX8_step_168 ?_
                      refine b_any (fun z145 z145_a z145_b => ?_)
                      refine r_put (ws' := [(a0, .inr (8, [.ref a1, .int (iI x0), .int r0, .int (iI z1), .int (iI z1), .int r2, .null, .long y0, .int r3, .int (iI z145), .int r5, .int r6])), (a1, .inl (T 0, 940, .inl f0))]) M w 0 9 clX8 rfl (by decide) G177 rfl rfl rfl rfl (Nat.le_of_ble_eq_true rfl) rfl dX8_step_169 (fun H locs w => ?_)
                      refine lv_aload_n hx hb dX8_step_172 rfl (lv_at hl 0 rfl) ?_
                      refine r_ldcS M 0 rfl dX8_step_173 ?_
                      refine lv_aload_n hx hb dX8_step_175 rfl (lv_at hl 0 rfl) ?_
                      refine r_get (v := .int (iI z145)) M w 0 9 clX8 rfl (by decide) G177 rfl rfl dX8_step_176 ?_
                      refine lv_i2c (v := _) hx hb dX8_step_179 rfl ?_
                      refine b_rng (lo := 0) (hi := 65535) (i2c_r _) (fun z146 z146_a z146_b => ?_)
                      refine k_I (ce := 0) (sl := 0) (rest := [.ref a0]) (wr := [(a0, .inr (8, [.ref a1, .int (iI x0), .int r0, .int (iI z1), .int (iI z1), .int r2, .null, .long y0, .int r3, .int (iI z145), .int r5, .int r6])), (a1, .inl (T 0, 940, .inl f0))]) (r_VT (f := 3) [] M w V_HookedCity_Tape_70 G610 G611 (c234_J0_indexOf_0f7a4 l D T _ z146 (by omega) (by omega)) (M.2.2.2.2.2.2.1.2 0 _ rfl).1 rfl (by decide) rfl hl.1 rfl (Nat.le_of_ble_eq_true rfl) dX8_step_180 (by decide) (by decide) (by decide) (by decide)) w [] [0, 1] rfl rfl (by decide) (by decide) rfl rfl (fun v z147 H locs hp w => ?_)
                      have hv : iI z147 = v := hp.1
                      subst hv
                      have z147_a : (-2147483648) ≤ z147 := hp.2.1
                      have z147_b : z147 ≤ 2147483647 := hp.2.2.1
                      have w : WD D A s.heap [(a0, .inr (8, [.ref a1, .int (iI x0), .int r0, .int (iI z1), .int (iI z1), .int r2, .null, .long y0, .int r3, .int (iI z145), .int r5, .int r6])), (a1, .inl (T 0, 940, .inl f0))] H locs := w
                      rcases hp.2.2.2 with ⟨c_148, hr⟩ | ⟨c_149, c_150, hr⟩ | ⟨c_151, c_152⟩
                      · exfalso; omega
                      · subst hr
                        refine lv_if_lt (tgt := 190) hx hb dX8_step_183 (by decide) (fun _ => ?_) (fun c => absurd (by decide +kernel) c)
                        refine lv_iconst (v := iI 1) hx hb dX8_step_190 (by decide +kernel) ?_
                        refine r_put (ws' := [(a0, .inr (8, [.ref a1, .int (iI x0), .int r0, .int (iI z1), .int (iI z1), .int (iI 1), .null, .long y0, .int r3, .int (iI z145), .int r5, .int r6])), (a1, .inl (T 0, 940, .inl f0))]) M w 0 5 clX8 rfl (by decide) G168 rfl rfl rfl rfl (Nat.le_of_ble_eq_true rfl) rfl dX8_step_191 (fun H locs w => ?_)
                        refine lv_aload_n hx hb dX8_step_194 rfl (lv_at hl 0 rfl) ?_
                        refine lv_dup hx hb dX8_step_195 rfl ?_
                        refine r_get (v := .int (iI z1)) M w 0 3 clX8 rfl (by decide) G166 rfl rfl dX8_step_196 ?_
                        refine lv_iconst (v := iI 1) hx hb dX8_step_199 (by decide +kernel) ?_
                        refine r_iadd (v := iI (z1 + 1)) M (iI_add _ _) dX8_step_200 ?_
                        refine r_put (ws' := [(a0, .inr (8, [.ref a1, .int (iI x0), .int r0, .int (iI (z1 + 1)), .int (iI z1), .int (iI 1), .null, .long y0, .int r3, .int (iI z145), .int r5, .int r6])), (a1, .inl (T 0, 940, .inl f0))]) M w 0 3 clX8 rfl (by decide) G166 rfl rfl rfl rfl (Nat.le_of_ble_eq_true rfl) rfl dX8_step_201 (fun H locs w => ?_)
                        exact ret ((z1 + 1), (iI z1), (iI 1), none, y0, r3, (iI z145)) _ _ _ _ _ [0, 1] dX8_step_204 ⟨(show 0 ≤ (z1 + 1) from by omega), (show (z1 + 1) ≤ 940 from by omega), wok_n⟩ w (by decide) rfl
                      · refine lv_if_lt (tgt := 190) hx hb dX8_step_183 (by decide) (fun c_153 => ?_) (fun c_153 => ?_)
                        · replace c_153 := (iz_lt (Int.le_trans (by decide) z147_a) (Int.le_trans z147_b (by decide))).mp c_153
                          refine lv_iconst (v := iI 1) hx hb dX8_step_190 (by decide +kernel) ?_
                          refine r_put (ws' := [(a0, .inr (8, [.ref a1, .int (iI x0), .int r0, .int (iI z1), .int (iI z1), .int (iI 1), .null, .long y0, .int r3, .int (iI z145), .int r5, .int r6])), (a1, .inl (T 0, 940, .inl f0))]) M w 0 5 clX8 rfl (by decide) G168 rfl rfl rfl rfl (Nat.le_of_ble_eq_true rfl) rfl dX8_step_191 (fun H locs w => ?_)
                          refine lv_aload_n hx hb dX8_step_194 rfl (lv_at hl 0 rfl) ?_
                          refine lv_dup hx hb dX8_step_195 rfl ?_
                          refine r_get (v := .int (iI z1)) M w 0 3 clX8 rfl (by decide) G166 rfl rfl dX8_step_196 ?_
                          refine lv_iconst (v := iI 1) hx hb dX8_step_199 (by decide +kernel) ?_
                          refine r_iadd (v := iI (z1 + 1)) M (iI_add _ _) dX8_step_200 ?_
                          refine r_put (ws' := [(a0, .inr (8, [.ref a1, .int (iI x0), .int r0, .int (iI (z1 + 1)), .int (iI z1), .int (iI 1), .null, .long y0, .int r3, .int (iI z145), .int r5, .int r6])), (a1, .inl (T 0, 940, .inl f0))]) M w 0 3 clX8 rfl (by decide) G166 rfl rfl rfl rfl (Nat.le_of_ble_eq_true rfl) rfl dX8_step_201 (fun H locs w => ?_)
                          exact ret ((z1 + 1), (iI z1), (iI 1), none, y0, r3, (iI z145)) _ _ _ _ _ [0, 1] dX8_step_204 ⟨(show 0 ≤ (z1 + 1) from by omega), (show (z1 + 1) ≤ 940 from by omega), wok_n⟩ w (by decide) rfl
                        · replace c_153 : 0 ≤ z147 := Int.not_lt.mp (fun h => c_153 ((iz_lt (Int.le_trans (by decide) z147_a) (Int.le_trans z147_b (by decide))).mpr h))
                          refine lv_iconst (v := iI 5) hx hb dX8_step_186 (by decide +kernel) ?_
                          refine lv_goto (tgt := 191) hx hb dX8_step_187 (by decide) ?_
                          refine r_put (ws' := [(a0, .inr (8, [.ref a1, .int (iI x0), .int r0, .int (iI z1), .int (iI z1), .int (iI 5), .null, .long y0, .int r3, .int (iI z145), .int r5, .int r6])), (a1, .inl (T 0, 940, .inl f0))]) M w 0 5 clX8 rfl (by decide) G168 rfl rfl rfl rfl (Nat.le_of_ble_eq_true rfl) rfl dX8_step_191 (fun H locs w => ?_)
                          refine lv_aload_n hx hb dX8_step_194 rfl (lv_at hl 0 rfl) ?_
                          refine lv_dup hx hb dX8_step_195 rfl ?_
                          refine r_get (v := .int (iI z1)) M w 0 3 clX8 rfl (by decide) G166 rfl rfl dX8_step_196 ?_
                          refine lv_iconst (v := iI 1) hx hb dX8_step_199 (by decide +kernel) ?_
                          refine r_iadd (v := iI (z1 + 1)) M (iI_add _ _) dX8_step_200 ?_
                          refine r_put (ws' := [(a0, .inr (8, [.ref a1, .int (iI x0), .int r0, .int (iI (z1 + 1)), .int (iI z1), .int (iI 5), .null, .long y0, .int r3, .int (iI z145), .int r5, .int r6])), (a1, .inl (T 0, 940, .inl f0))]) M w 0 3 clX8 rfl (by decide) G166 rfl rfl rfl rfl (Nat.le_of_ble_eq_true rfl) rfl dX8_step_201 (fun H locs w => ?_)
                          exact ret ((z1 + 1), (iI z1), (iI 5), none, y0, r3, (iI z145)) _ _ _ _ _ [0, 1] dX8_step_204 ⟨(show 0 ≤ (z1 + 1) from by omega), (show (z1 + 1) ≤ 940 from by omega), wok_n⟩ w (by decide) rfl
                    · subst hr
                      refine lv_if_eq (tgt := 159) hx hb dX8_step_149 (by decide) (fun c => absurd c (by decide +kernel)) (fun _ => ?_)
                      refine lv_aload_n hx hb dX8_step_152 rfl (lv_at hl 0 rfl) ?_
                      refine k_V (ce := 0) (sl := 0) (rest := []) (wr := []) (r_V (f := 1) [0, 1] M w V_HookedCity_Tape_65 G598 G2 (c237_X8_readRun l D T _ a0 a1 x0 r0 z1 (iI z1) r2 none y0 r3 r4 r5 r6 f0 x0_a x0_b z1_a z1_b wok_n) 0 clX8 rfl rfl (by decide) rfl hl.1 rfl (Nat.le_of_ble_eq_true rfl) dX8_step_153 (by decide) (by decide) (by decide) (by decide)) w [0, 1] [] rfl rfl (by decide) (by decide) rfl rfl (fun u H locs hp w => ?_)
                      obtain ⟨z154, fr155, fo156, fy157, fr158⟩ := u
                      have z154_a : 0 ≤ z154 := hp.1
                      have z154_b : z154 ≤ 940 := hp.2.1
                      have fo156_h : wok T fo156 := hp.2.2
                      have w : WD D A s.heap [(a0, .inr (8, [.ref a1, .int (iI x0), .int r0, .int (iI z154), .int (iI z1), .int fr155, (va_rf fo156), .long fy157, .int fr158, .int r4, .int r5, .int r6])), (a1, .inl (T 0, 940, .inl f0))] H locs := w
                      refine lv_goto (tgt := 204) hx hb dX8_step_156 (by decide) ?_
                      exact ret (z154, (iI z1), fr155, fo156, fy157, fr158, r4) _ _ _ _ _ [0, 1] dX8_step_204 ⟨z154_a, z154_b, fo156_h⟩ w (by decide) rfl
                  · subst hr
                    refine lv_if_ne (tgt := 152) hx hb dX8_step_134 (by decide) (fun _ => ?_) (fun c => absurd c (by decide +kernel))
                    refine lv_aload_n hx hb dX8_step_152 rfl (lv_at hl 0 rfl) ?_
                    refine k_V (ce := 0) (sl := 0) (rest := []) (wr := []) (r_V (f := 1) [0, 1] M w V_HookedCity_Tape_65 G598 G2 (c237_X8_readRun l D T _ a0 a1 x0 r0 z1 (iI z1) r2 none y0 r3 r4 r5 r6 f0 x0_a x0_b z1_a z1_b wok_n) 0 clX8 rfl rfl (by decide) rfl hl.1 rfl (Nat.le_of_ble_eq_true rfl) dX8_step_153 (by decide) (by decide) (by decide) (by decide)) w [0, 1] [] rfl rfl (by decide) (by decide) rfl rfl (fun u H locs hp w => ?_)
                    obtain ⟨z159, fr160, fo161, fy162, fr163⟩ := u
                    have z159_a : 0 ≤ z159 := hp.1
                    have z159_b : z159 ≤ 940 := hp.2.1
                    have fo161_h : wok T fo161 := hp.2.2
                    have w : WD D A s.heap [(a0, .inr (8, [.ref a1, .int (iI x0), .int r0, .int (iI z159), .int (iI z1), .int fr160, (va_rf fo161), .long fy162, .int fr163, .int r4, .int r5, .int r6])), (a1, .inl (T 0, 940, .inl f0))] H locs := w
                    refine lv_goto (tgt := 204) hx hb dX8_step_156 (by decide) ?_
                    exact ret (z159, (iI z1), fr160, fo161, fy162, fr163, r4) _ _ _ _ _ [0, 1] dX8_step_204 ⟨z159_a, z159_b, fo161_h⟩ w (by decide) rfl
                · replace c_91 : x0 ≤ z1 := Int.not_lt.mp (fun h => c_91 ((iI_lt (Int.le_trans (by decide) z1_a) (Int.le_trans z1_b (by decide)) (Int.le_trans (by decide) x0_a) (Int.le_trans x0_b (by decide))).mpr h))
                  exfalso; omega
              · replace c_90 : z89 ≤ z1 := Int.not_lt.mp (fun h => c_90 ((iI_lt (Int.le_trans (by decide) z1_a) (Int.le_trans z1_b (by decide)) (Int.le_trans (by decide) z89_a) (Int.le_trans z89_b (by decide))).mpr h))
                refine lv_aload_n hx hb dX8_step_87 rfl (lv_at hl 0 rfl) ?_
                refine lv_aload_n hx hb dX8_step_88 rfl (lv_at hl 0 rfl) ?_
                refine r_get (v := .int r0) M w 0 2 clX8 rfl (by decide) G165 rfl rfl dX8_step_89 ?_
                refine b_any (fun z164 z164_a z164_b => ?_)
                refine r_put (ws' := [(a0, .inr (8, [.ref a1, .int (iI x0), .int r0, .int (iI z1), .int (iI z164), .int r2, .null, .long y0, .int r3, .int r4, .int r5, .int r6])), (a1, .inl (T 0, 940, .inl f0))]) M w 0 4 clX8 rfl (by decide) G167 rfl rfl rfl rfl (Nat.le_of_ble_eq_true rfl) rfl dX8_step_92 (fun H locs w => ?_)
                refine lv_aload_n hx hb dX8_step_95 rfl (lv_at hl 0 rfl) ?_
                refine lv_iconst (v := iI 1) hx hb dX8_step_96 (by decide +kernel) ?_
                refine r_put (ws' := [(a0, .inr (8, [.ref a1, .int (iI x0), .int r0, .int (iI z1), .int (iI z164), .int (iI 1), .null, .long y0, .int r3, .int r4, .int r5, .int r6])), (a1, .inl (T 0, 940, .inl f0))]) M w 0 5 clX8 rfl (by decide) G168 rfl rfl rfl rfl (Nat.le_of_ble_eq_true rfl) rfl dX8_step_97 (fun H locs w => ?_)
                refine lv_goto (tgt := 204) hx hb dX8_step_100 (by decide) ?_
                exact ret (z1, (iI z164), (iI 1), none, y0, r3, r4) _ _ _ _ _ [0, 1] dX8_step_204 ⟨z1_a, z1_b, wok_n⟩ w (by decide) rfl
          · replace c_13 := (iI_eq (Int.le_trans (by decide) z12_a) (Int.le_trans z12_b (by decide)) (by decide) (by decide)).mp c_13
            refine lv_aload_n hx hb dX8_step_39 rfl (lv_at hl 0 rfl) ?_
            refine lv_dup hx hb dX8_step_40 rfl ?_
            refine r_get (v := .int (iI z1)) M w 0 3 clX8 rfl (by decide) G166 rfl rfl dX8_step_41 ?_
            refine lv_iconst (v := iI 1) hx hb dX8_step_44 (by decide +kernel) ?_
            refine r_iadd (v := iI (z1 + 1)) M (iI_add _ _) dX8_step_45 ?_
            refine r_put (ws' := [(a0, .inr (8, [.ref a1, .int (iI x0), .int r0, .int (iI (z1 + 1)), .int r1, .int r2, (va_rf o0), .long y0, .int r3, .int r4, .int r5, .int r6])), (a1, .inl (T 0, 940, .inl f0))]) M w 0 3 clX8 rfl (by decide) G166 rfl rfl rfl rfl (Nat.le_of_ble_eq_true rfl) rfl dX8_step_46 (fun H locs w => ?_)
            refine lv_goto (tgt := 0) hx hb dX8_step_49 (by decide) ?_
            exact ih1 (z1 + 1) _ _ _ (by omega) (by omega) (by omega) w (lv_sub hl [0] rfl)
  exact loop1 (((x0 - x1) : Int).toNat + 1) x1 _ _ _ x1_a x1_b (Nat.lt_succ_self _) w (lv_sub hl [0] rfl)
set_option maxRecDepth 100000 in
set_option maxHeartbeats 4000000 in
theorem c239_X8_open (l : Launch) (D : va_G) (T : Nat → ClassId) (sz : Nat) (a0 : Nat) (x0 : Int) (a1 : Nat) (x1 : Int) (r0 : Int32) (x2 : Int) (r1 : Int32) (r2 : Int32) (o0 : Option Nat) (y0 : Int64) (r3 : Int32) (r4 : Int32) (r5 : Int32) (r6 : Int32) (f0 : Nat → Int32) (x0_a : (-2147483648) ≤ x0) (x0_b : x0 ≤ 2147483647) (x1_a : 0 ≤ x1) (x1_b : x1 ≤ 940) (x2_a : 0 ≤ x2) (x2_b : x2 ≤ 940) (o0_h : wok T o0) : Met l yX8_open (Cond.code yX8_open cX8_open 2 none :: GW) (Rm 5 0 0) (cPre [.ref a0, .int (iI x0)] D T [(a0, .inr (8, [.ref a1, .int (iI x1), .int r0, .int (iI x2), .int r1, .int r2, (va_rf o0), .long y0, .int r3, .int r4, .int r5, .int r6])), (a1, .inl (T 0, 940, .inl f0))] sz) (qV D [(a0, .inr (8, [.ref a1, .int (iI x1), .int r0, .int (iI x2), .int r1, .int r2, (va_rf o0), .long y0, .int r3, .int r4, .int r5, .int r6])), (a1, .inl (T 0, 940, .inl f0))] sz (fun (u : Int32 × Int × Int32 × Int32 × Option Nat × Int64 × Int32 × Int32 × Int32 × Int32) => 0 ≤ u.2.1 ∧ u.2.1 ≤ 940 ∧ wok T u.2.2.2.2.1) (fun u => [(a0, .inr (8, [.ref a1, .int (iI x1), .int u.1, .int (iI u.2.1), .int u.2.2.1, .int u.2.2.2.1, (va_rf u.2.2.2.2.1), .long u.2.2.2.2.2.1, .int u.2.2.2.2.2.2.1, .int u.2.2.2.2.2.2.2.1, .int u.2.2.2.2.2.2.2.2.1, .int u.2.2.2.2.2.2.2.2.2])), (a1, .inl (T 0, 940, .inl f0))])) 0 0 (va_A [(a0, .inr (8, [.ref a1, .int (iI x1), .int r0, .int (iI x2), .int r1, .int r2, (va_rf o0), .long y0, .int r3, .int r4, .int r5, .int r6])), (a1, .inl (T 0, 940, .inl f0))] sz) := by
  refine e_V (by decide) (Nat.le_of_ble_eq_true rfl) ?_
  intro p e s m args below meth c A Q ls M hin w ret hl
  have hx := M.1.1
  have hb := M.1.2.1
  have hl : lv_has ls 2 [(0, .ref a0), (1, .int (iI x0))] := hl
  refine lv_aload_n hx hb dX8_open_0 rfl (lv_at hl 0 rfl) ?_
  refine lv_iload_n hx hb dX8_open_1 rfl (lv_at hl 1 rfl) ?_
  refine r_put (ws' := [(a0, .inr (8, [.ref a1, .int (iI x1), .int (iI x0), .int (iI x2), .int r1, .int r2, (va_rf o0), .long y0, .int r3, .int r4, .int r5, .int r6])), (a1, .inl (T 0, 940, .inl f0))]) M w 0 2 clX8 rfl (by decide) G165 rfl rfl rfl rfl (Nat.le_of_ble_eq_true rfl) rfl dX8_open_2 (fun H locs w => ?_)
  refine lv_aload_n hx hb dX8_open_5 rfl (lv_at hl 0 rfl) ?_
  refine lv_iconst (v := iI 0) hx hb dX8_open_6 (by decide +kernel) ?_
  refine r_put (ws' := [(a0, .inr (8, [.ref a1, .int (iI x1), .int (iI x0), .int (iI 0), .int r1, .int r2, (va_rf o0), .long y0, .int r3, .int r4, .int r5, .int r6])), (a1, .inl (T 0, 940, .inl f0))]) M w 0 3 clX8 rfl (by decide) G166 rfl rfl rfl rfl (Nat.le_of_ble_eq_true rfl) rfl dX8_open_7 (fun H locs w => ?_)
  refine lv_aload_n hx hb dX8_open_10 rfl (lv_at hl 0 rfl) ?_
  refine lv_iconst (v := iI 0) hx hb dX8_open_11 (by decide +kernel) ?_
  refine r_put (ws' := [(a0, .inr (8, [.ref a1, .int (iI x1), .int (iI x0), .int (iI 0), .int r1, .int r2, (va_rf o0), .long y0, .int r3, .int r4, .int (iI 0), .int r6])), (a1, .inl (T 0, 940, .inl f0))]) M w 0 10 clX8 rfl (by decide) G179 rfl rfl rfl rfl (Nat.le_of_ble_eq_true rfl) rfl dX8_open_12 (fun H locs w => ?_)
  refine lv_aload_n hx hb dX8_open_15 rfl (lv_at hl 0 rfl) ?_
  refine lv_iconst (v := iI 0) hx hb dX8_open_16 (by decide +kernel) ?_
  refine r_put (ws' := [(a0, .inr (8, [.ref a1, .int (iI x1), .int (iI x0), .int (iI 0), .int r1, .int r2, (va_rf o0), .long y0, .int r3, .int r4, .int (iI 0), .int (iI 0)])), (a1, .inl (T 0, 940, .inl f0))]) M w 0 11 clX8 rfl (by decide) G181 rfl rfl rfl rfl (Nat.le_of_ble_eq_true rfl) rfl dX8_open_17 (fun H locs w => ?_)
  refine lv_aload_n hx hb dX8_open_20 rfl (lv_at hl 0 rfl) ?_
  refine k_V (ce := 0) (sl := 0) (rest := []) (wr := []) (r_V (f := 4) [0, 1] M w V_HookedCity_Tape_55 G587 G588 (c238_X8_step l D T _ a0 a1 x1 (iI x0) 0 r1 r2 o0 y0 r3 r4 (iI 0) (iI 0) f0 x1_a x1_b (by decide) (by decide) o0_h) 0 clX8 rfl rfl (by decide) rfl hl.1 rfl (Nat.le_of_ble_eq_true rfl) dX8_open_21 (by decide) (by decide) (by decide) (by decide)) w [0, 1] [] rfl rfl (by decide) (by decide) rfl rfl (fun u H locs hp w => ?_)
  obtain ⟨z1, fr2, fr3, fo4, fy5, fr6, fr7⟩ := u
  have z1_a : 0 ≤ z1 := hp.1
  have z1_b : z1 ≤ 940 := hp.2.1
  have fo4_h : wok T fo4 := hp.2.2
  have w : WD D A s.heap [(a0, .inr (8, [.ref a1, .int (iI x1), .int (iI x0), .int (iI z1), .int fr2, .int fr3, (va_rf fo4), .long fy5, .int fr6, .int fr7, .int (iI 0), .int (iI 0)])), (a1, .inl (T 0, 940, .inl f0))] H locs := w
  exact ret ((iI x0), z1, fr2, fr3, fo4, fy5, fr6, fr7, (iI 0), (iI 0)) _ _ _ _ _ [0, 1] dX8_open_24 ⟨z1_a, z1_b, fo4_h⟩ w (by decide) rfl
set_option maxRecDepth 100000 in
set_option maxHeartbeats 4000000 in
theorem c240_X8_letterOf (l : Launch) (D : va_G) (T : Nat → ClassId) (sz : Nat) (y0 : Int64) (x0 : Int) (x0_a : (-2147483648) ≤ x0) (x0_b : x0 ≤ 2147483647) : Met l yX8_letterOf (Cond.code yX8_letterOf cX8_letterOf 4 (some .int) :: GW) (Rm 0 0 0) (cPre [.long y0, .int (iI x0)] D T [] sz) (qI D [] sz (fun (v : Int32) (u : Int) => iI u = v ∧ (-2147483648) ≤ u ∧ u ≤ 2147483647) (fun u => [])) 0 0 (va_A [] sz) := by
  refine e_I (by decide) (Nat.le_of_ble_eq_true rfl) ?_
  intro p e s m args below meth c A Q ls M hin w ret hl
  have hx := M.1.1
  have hb := M.1.2.1
  have hl : lv_has ls 4 [(0, .long y0), (2, .int (iI x0))] := hl
  refine lv_lload_n hx hb dX8_letterOf_0 rfl (lv_at hl 0 rfl) ?_
  refine lv_bipush (v := iI 6) hx hb dX8_letterOf_1 (by decide +kernel) ?_
  refine lv_iload_n hx hb dX8_letterOf_3 rfl (lv_at hl 1 rfl) ?_
  refine r_isub (v := _) M rfl dX8_letterOf_4 ?_
  refine b_any (fun z1 z1_a z1_b => ?_)
  refine lv_iconst (v := iI 5) hx hb dX8_letterOf_5 (by decide +kernel) ?_
  refine r_imul (v := _) M rfl dX8_letterOf_6 ?_
  refine b_any (fun z2 z2_a z2_b => ?_)
  refine lv_lushr (v := _) hx hb dX8_letterOf_7 rfl ?_
  refine b_anyl (fun fy3 => ?_)
  refine lv_l2i (v := _) hx hb dX8_letterOf_8 rfl ?_
  refine b_any (fun z4 z4_a z4_b => ?_)
  refine lv_bipush (v := iI 31) hx hb dX8_letterOf_9 (by decide +kernel) ?_
  refine r_iand (v := _) M rfl dX8_letterOf_11 ?_
  refine b_rng (lo := 0) (hi := 31) (iand_r (by omega) (by omega)) (fun z5 z5_a z5_b => ?_)
  refine lv_istore_n (lv' := [(3, .int (iI z5)), (0, .long y0), (2, .int (iI x0))]) hx hb dX8_letterOf_12 rfl hl (by decide) rfl (fun ls hl => ?_)
  refine lv_iload_n hx hb dX8_letterOf_13 rfl (lv_at hl 0 rfl) ?_
  refine lv_if_ne (tgt := 21) hx hb dX8_letterOf_14 (by decide) (fun c_6 => ?_) (fun c_6 => ?_)
  · replace c_6 : ¬ z5 = 0 := fun h => c_6 ((iz_eq (Int.le_trans (by decide) z5_a) (Int.le_trans z5_b (by decide))).mpr h)
    refine lv_bipush (v := iI 97) hx hb dX8_letterOf_21 (by decide +kernel) ?_
    refine lv_iload_n hx hb dX8_letterOf_23 rfl (lv_at hl 0 rfl) ?_
    refine r_iadd (v := iI (97 + z5)) M (iI_add _ _) dX8_letterOf_24 ?_
    refine lv_iconst (v := iI 1) hx hb dX8_letterOf_25 (by decide +kernel) ?_
    refine r_isub (v := iI ((97 + z5) - 1)) M (iI_sub _ _) dX8_letterOf_26 ?_
    exact ret _ ((97 + z5) - 1) _ _ _ _ _ [] dX8_letterOf_27 ⟨rfl, (show (-2147483648) ≤ ((97 + z5) - 1) from by omega), (show ((97 + z5) - 1) ≤ 2147483647 from by omega)⟩ w (by decide) rfl
  · replace c_6 := (iz_eq (Int.le_trans (by decide) z5_a) (Int.le_trans z5_b (by decide))).mp c_6
    refine lv_iconst (v := iI 0) hx hb dX8_letterOf_17 (by decide +kernel) ?_
    refine lv_goto (tgt := 27) hx hb dX8_letterOf_18 (by decide) ?_
    exact ret _ 0 _ _ _ _ _ [] dX8_letterOf_27 ⟨rfl, (show (-2147483648) ≤ 0 from by decide), (show (0 : Int) ≤ 2147483647 from by decide)⟩ w (by decide) rfl
set_option maxRecDepth 100000 in
set_option maxHeartbeats 4000000 in
theorem c241_X8_atEnd (l : Launch) (D : va_G) (T : Nat → ClassId) (sz : Nat) (a0 : Nat) (a1 : Nat) (x0 : Int) (r0 : Int32) (x1 : Int) (r1 : Int32) (r2 : Int32) (o0 : Option Nat) (y0 : Int64) (r3 : Int32) (r4 : Int32) (r5 : Int32) (r6 : Int32) (x0_a : 0 ≤ x0) (x0_b : x0 ≤ 940) (x1_a : 0 ≤ x1) (x1_b : x1 ≤ 940) (o0_h : wok T o0) : Met l yX8_atEnd (Cond.code yX8_atEnd cX8_atEnd 1 (some .boolean) :: GW) (Rm 0 0 0) (cPre [.ref a0] D T [(a0, .inr (8, [.ref a1, .int (iI x0), .int r0, .int (iI x1), .int r1, .int r2, (va_rf o0), .long y0, .int r3, .int r4, .int r5, .int r6]))] sz) (qI D [(a0, .inr (8, [.ref a1, .int (iI x0), .int r0, .int (iI x1), .int r1, .int r2, (va_rf o0), .long y0, .int r3, .int r4, .int r5, .int r6]))] sz (fun (v : Int32) (u : Int) => iI u = v ∧ 0 ≤ u ∧ u ≤ 1) (fun u => [(a0, .inr (8, [.ref a1, .int (iI x0), .int r0, .int (iI x1), .int r1, .int r2, (va_rf o0), .long y0, .int r3, .int r4, .int r5, .int r6]))])) 0 0 (va_A [(a0, .inr (8, [.ref a1, .int (iI x0), .int r0, .int (iI x1), .int r1, .int r2, (va_rf o0), .long y0, .int r3, .int r4, .int r5, .int r6]))] sz) := by
  refine e_Z (by decide) (Nat.le_of_ble_eq_true rfl) ?_
  intro p e s m args below meth c A Q ls M hin w ret hl
  have hx := M.1.1
  have hb := M.1.2.1
  have hl : lv_has ls 1 [(0, .ref a0)] := hl
  refine lv_aload_n hx hb dX8_atEnd_0 rfl (lv_at hl 0 rfl) ?_
  refine r_get (v := .int r2) M w 0 5 clX8 rfl (by decide) G168 rfl rfl dX8_atEnd_1 ?_
  refine b_any (fun z1 z1_a z1_b => ?_)
  refine lv_if_ne (tgt := 11) hx hb dX8_atEnd_4 (by decide) (fun c_2 => ?_) (fun c_2 => ?_)
  · replace c_2 : ¬ z1 = 0 := fun h => c_2 ((iz_eq (Int.le_trans (by decide) z1_a) (Int.le_trans z1_b (by decide))).mpr h)
    refine lv_iconst (v := iI 0) hx hb dX8_atEnd_11 (by decide +kernel) ?_
    exact ret _ 0 _ _ _ _ _ [0] dX8_atEnd_12 (by decide +kernel) ⟨rfl, (show (0 : Int) ≤ 0 from by decide), (show (0 : Int) ≤ 1 from by decide)⟩ w (by decide) rfl
  · replace c_2 := (iz_eq (Int.le_trans (by decide) z1_a) (Int.le_trans z1_b (by decide))).mp c_2
    refine lv_iconst (v := iI 1) hx hb dX8_atEnd_7 (by decide +kernel) ?_
    refine lv_goto (tgt := 12) hx hb dX8_atEnd_8 (by decide) ?_
    exact ret _ 1 _ _ _ _ _ [0] dX8_atEnd_12 (by decide +kernel) ⟨rfl, (show (0 : Int) ≤ 1 from by decide), (show (1 : Int) ≤ 1 from by decide)⟩ w (by decide) rfl
set_option maxRecDepth 100000 in
set_option maxHeartbeats 4000000 in
theorem c242_X8_atMark (l : Launch) (D : va_G) (T : Nat → ClassId) (sz : Nat) (a0 : Nat) (x0 : Int) (a1 : Nat) (x1 : Int) (r0 : Int32) (x2 : Int) (r1 : Int32) (r2 : Int32) (o0 : Option Nat) (y0 : Int64) (r3 : Int32) (r4 : Int32) (r5 : Int32) (r6 : Int32) (x0_a : (-2147483648) ≤ x0) (x0_b : x0 ≤ 2147483647) (x1_a : 0 ≤ x1) (x1_b : x1 ≤ 940) (x2_a : 0 ≤ x2) (x2_b : x2 ≤ 940) (o0_h : wok T o0) : Met l yX8_atMark (Cond.code yX8_atMark cX8_atMark 2 (some .boolean) :: GW) (Rm 0 0 0) (cPre [.ref a0, .int (iI x0)] D T [(a0, .inr (8, [.ref a1, .int (iI x1), .int r0, .int (iI x2), .int r1, .int r2, (va_rf o0), .long y0, .int r3, .int r4, .int r5, .int r6]))] sz) (qI D [(a0, .inr (8, [.ref a1, .int (iI x1), .int r0, .int (iI x2), .int r1, .int r2, (va_rf o0), .long y0, .int r3, .int r4, .int r5, .int r6]))] sz (fun (v : Int32) (u : Int) => iI u = v ∧ 0 ≤ u ∧ u ≤ 1) (fun u => [(a0, .inr (8, [.ref a1, .int (iI x1), .int r0, .int (iI x2), .int r1, .int r2, (va_rf o0), .long y0, .int r3, .int r4, .int r5, .int r6]))])) 0 0 (va_A [(a0, .inr (8, [.ref a1, .int (iI x1), .int r0, .int (iI x2), .int r1, .int r2, (va_rf o0), .long y0, .int r3, .int r4, .int r5, .int r6]))] sz) := by
  refine e_Z (by decide) (Nat.le_of_ble_eq_true rfl) ?_
  intro p e s m args below meth c A Q ls M hin w ret hl
  have hx := M.1.1
  have hb := M.1.2.1
  have hl : lv_has ls 2 [(0, .ref a0), (1, .int (iI x0))] := hl
  refine lv_aload_n hx hb dX8_atMark_0 rfl (lv_at hl 0 rfl) ?_
  refine r_get (v := .int r2) M w 0 5 clX8 rfl (by decide) G168 rfl rfl dX8_atMark_1 ?_
  refine b_any (fun z1 z1_a z1_b => ?_)
  refine lv_iconst (v := iI 5) hx hb dX8_atMark_4 (by decide +kernel) ?_
  refine lv_icmp_ne (tgt := 20) hx hb dX8_atMark_5 (by decide) (fun c_2 => ?_) (fun c_2 => ?_)
  · replace c_2 : ¬ z1 = 5 := fun h => c_2 ((iI_eq (Int.le_trans (by decide) z1_a) (Int.le_trans z1_b (by decide)) (by decide) (by decide)).mpr h)
    refine lv_iconst (v := iI 0) hx hb dX8_atMark_20 (by decide +kernel) ?_
    exact ret _ 0 _ _ _ _ _ [0] dX8_atMark_21 (by decide +kernel) ⟨rfl, (show (0 : Int) ≤ 0 from by decide), (show (0 : Int) ≤ 1 from by decide)⟩ w (by decide) rfl
  · replace c_2 := (iI_eq (Int.le_trans (by decide) z1_a) (Int.le_trans z1_b (by decide)) (by decide) (by decide)).mp c_2
    refine lv_aload_n hx hb dX8_atMark_8 rfl (lv_at hl 0 rfl) ?_
    refine r_get (v := .int r4) M w 0 9 clX8 rfl (by decide) G177 rfl rfl dX8_atMark_9 ?_
    refine b_any (fun z3 z3_a z3_b => ?_)
    refine lv_iload_n hx hb dX8_atMark_12 rfl (lv_at hl 1 rfl) ?_
    refine lv_icmp_ne (tgt := 20) hx hb dX8_atMark_13 (by decide) (fun c_4 => ?_) (fun c_4 => ?_)
    · replace c_4 : ¬ z3 = x0 := fun h => c_4 ((iI_eq (Int.le_trans (by decide) z3_a) (Int.le_trans z3_b (by decide)) (Int.le_trans (by decide) x0_a) (Int.le_trans x0_b (by decide))).mpr h)
      refine lv_iconst (v := iI 0) hx hb dX8_atMark_20 (by decide +kernel) ?_
      exact ret _ 0 _ _ _ _ _ [0] dX8_atMark_21 (by decide +kernel) ⟨rfl, (show (0 : Int) ≤ 0 from by decide), (show (0 : Int) ≤ 1 from by decide)⟩ w (by decide) rfl
    · replace c_4 := (iI_eq (Int.le_trans (by decide) z3_a) (Int.le_trans z3_b (by decide)) (Int.le_trans (by decide) x0_a) (Int.le_trans x0_b (by decide))).mp c_4
      refine lv_iconst (v := iI 1) hx hb dX8_atMark_16 (by decide +kernel) ?_
      refine lv_goto (tgt := 21) hx hb dX8_atMark_17 (by decide) ?_
      exact ret _ 1 _ _ _ _ _ [0] dX8_atMark_21 (by decide +kernel) ⟨rfl, (show (0 : Int) ≤ 1 from by decide), (show (1 : Int) ≤ 1 from by decide)⟩ w (by decide) rfl
set_option maxRecDepth 100000 in
set_option maxHeartbeats 4000000 in
theorem c243_X8_fail (l : Launch) (D : va_G) (T : Nat → ClassId) (sz : Nat) (a0 : Nat) (x0 : Int) (a1 : Nat) (x1 : Int) (r0 : Int32) (x2 : Int) (r1 : Int32) (r2 : Int32) (o0 : Option Nat) (y0 : Int64) (r3 : Int32) (r4 : Int32) (r5 : Int32) (r6 : Int32) (x0_a : (-2147483648) ≤ x0) (x0_b : x0 ≤ 2147483647) (x1_a : 0 ≤ x1) (x1_b : x1 ≤ 940) (x2_a : 0 ≤ x2) (x2_b : x2 ≤ 940) (o0_h : wok T o0) : Met l yX8_fail (Cond.code yX8_fail cX8_fail 2 (some .boolean) :: GW) (Rm 0 0 0) (cPre [.ref a0, .int (iI x0)] D T [(a0, .inr (8, [.ref a1, .int (iI x1), .int r0, .int (iI x2), .int r1, .int r2, (va_rf o0), .long y0, .int r3, .int r4, .int r5, .int r6]))] sz) (qI D [(a0, .inr (8, [.ref a1, .int (iI x1), .int r0, .int (iI x2), .int r1, .int r2, (va_rf o0), .long y0, .int r3, .int r4, .int r5, .int r6]))] sz (fun (v : Int32) (u : Int × Int32 × Int32) => iI u.1 = v ∧ 0 ≤ u.1 ∧ u.1 ≤ 1 ∧ ((u.1 = 0))) (fun u => [(a0, .inr (8, [.ref a1, .int (iI x1), .int r0, .int (iI x2), .int r1, .int r2, (va_rf o0), .long y0, .int r3, .int r4, .int u.2.1, .int u.2.2]))])) 0 0 (va_A [(a0, .inr (8, [.ref a1, .int (iI x1), .int r0, .int (iI x2), .int r1, .int r2, (va_rf o0), .long y0, .int r3, .int r4, .int r5, .int r6]))] sz) := by
  refine e_Z (by decide) (Nat.le_of_ble_eq_true rfl) ?_
  intro p e s m args below meth c A Q ls M hin w ret hl
  have hx := M.1.1
  have hb := M.1.2.1
  have hl : lv_has ls 2 [(0, .ref a0), (1, .int (iI x0))] := hl
  refine lv_aload_n hx hb dX8_fail_0 rfl (lv_at hl 0 rfl) ?_
  refine lv_iload_n hx hb dX8_fail_1 rfl (lv_at hl 1 rfl) ?_
  refine r_put (ws' := [(a0, .inr (8, [.ref a1, .int (iI x1), .int r0, .int (iI x2), .int r1, .int r2, (va_rf o0), .long y0, .int r3, .int r4, .int (iI x0), .int r6]))]) M w 0 10 clX8 rfl (by decide) G179 rfl rfl rfl rfl (Nat.le_of_ble_eq_true rfl) rfl dX8_fail_2 (fun H locs w => ?_)
  refine lv_aload_n hx hb dX8_fail_5 rfl (lv_at hl 0 rfl) ?_
  refine lv_aload_n hx hb dX8_fail_6 rfl (lv_at hl 0 rfl) ?_
  refine r_get (v := .int r1) M w 0 4 clX8 rfl (by decide) G167 rfl rfl dX8_fail_7 ?_
  refine b_any (fun z1 z1_a z1_b => ?_)
  refine r_put (ws' := [(a0, .inr (8, [.ref a1, .int (iI x1), .int r0, .int (iI x2), .int r1, .int r2, (va_rf o0), .long y0, .int r3, .int r4, .int (iI x0), .int (iI z1)]))]) M w 0 11 clX8 rfl (by decide) G181 rfl rfl rfl rfl (Nat.le_of_ble_eq_true rfl) rfl dX8_fail_10 (fun H locs w => ?_)
  refine lv_iconst (v := iI 0) hx hb dX8_fail_13 (by decide +kernel) ?_
  exact ret _ (0, (iI x0), (iI z1)) _ _ _ _ _ [0] dX8_fail_14 (by decide +kernel) ⟨rfl, (show (0 : Int) ≤ 0 from by decide), (show (0 : Int) ≤ 1 from by decide), rfl⟩ w (by decide) rfl
set_option maxRecDepth 100000 in
set_option maxHeartbeats 4000000 in
theorem c244_X8_pass (l : Launch) (D : va_G) (T : Nat → ClassId) (sz : Nat) (a0 : Nat) (x0 : Int) (a1 : Nat) (x1 : Int) (r0 : Int32) (x2 : Int) (r1 : Int32) (r2 : Int32) (o0 : Option Nat) (y0 : Int64) (r3 : Int32) (r4 : Int32) (r5 : Int32) (r6 : Int32) (f0 : Nat → Int32) (x0_a : (-2147483648) ≤ x0) (x0_b : x0 ≤ 2147483647) (x1_a : 0 ≤ x1) (x1_b : x1 ≤ 940) (x2_a : 0 ≤ x2) (x2_b : x2 ≤ 940) (o0_h : wok T o0) : Met l yX8_pass (Cond.code yX8_pass cX8_pass 2 (some .boolean) :: GW) (Rm 5 0 0) (cPre [.ref a0, .int (iI x0)] D T [(a0, .inr (8, [.ref a1, .int (iI x1), .int r0, .int (iI x2), .int r1, .int r2, (va_rf o0), .long y0, .int r3, .int r4, .int r5, .int r6])), (a1, .inl (T 0, 940, .inl f0))] sz) (qI D [(a0, .inr (8, [.ref a1, .int (iI x1), .int r0, .int (iI x2), .int r1, .int r2, (va_rf o0), .long y0, .int r3, .int r4, .int r5, .int r6])), (a1, .inl (T 0, 940, .inl f0))] sz (fun (v : Int32) (u : Int × Int × Int32 × Int32 × Option Nat × Int64 × Int32 × Int32 × Int32 × Int32) => iI u.1 = v ∧ 0 ≤ u.1 ∧ u.1 ≤ 1 ∧ 0 ≤ u.2.1 ∧ u.2.1 ≤ 940 ∧ wok T u.2.2.2.2.1) (fun u => [(a0, .inr (8, [.ref a1, .int (iI x1), .int r0, .int (iI u.2.1), .int u.2.2.1, .int u.2.2.2.1, (va_rf u.2.2.2.2.1), .long u.2.2.2.2.2.1, .int u.2.2.2.2.2.2.1, .int u.2.2.2.2.2.2.2.1, .int u.2.2.2.2.2.2.2.2.1, .int u.2.2.2.2.2.2.2.2.2])), (a1, .inl (T 0, 940, .inl f0))])) 0 0 (va_A [(a0, .inr (8, [.ref a1, .int (iI x1), .int r0, .int (iI x2), .int r1, .int r2, (va_rf o0), .long y0, .int r3, .int r4, .int r5, .int r6])), (a1, .inl (T 0, 940, .inl f0))] sz) := by
  refine e_Z (by decide) (Nat.le_of_ble_eq_true rfl) ?_
  intro p e s m args below meth c A Q ls M hin w ret hl
  have hx := M.1.1
  have hb := M.1.2.1
  have hl : lv_has ls 2 [(0, .ref a0), (1, .int (iI x0))] := hl
  refine lv_aload_n hx hb dX8_pass_0 rfl (lv_at hl 0 rfl) ?_
  refine lv_iload_n hx hb dX8_pass_1 rfl (lv_at hl 1 rfl) ?_
  refine k_I (ce := 0) (sl := 0) (rest := []) (wr := [(a1, .inl (T 0, 940, .inl f0))]) (r_V (f := 0) [0] M w V_HookedCity_Tape_86 G783 G784 (c242_X8_atMark l D T _ a0 x0 a1 x1 r0 x2 r1 r2 o0 y0 r3 r4 r5 r6 x0_a x0_b x1_a x1_b x2_a x2_b o0_h) 0 clX8 rfl rfl (by decide) rfl hl.1 rfl (Nat.le_of_ble_eq_true rfl) dX8_pass_2 (by decide) (by decide) (by decide) (by decide)) w [0] [1] rfl rfl (by decide) (by decide) rfl rfl (fun v z1 H locs hp w => ?_)
  have hv : iI z1 = v := hp.1
  subst hv
  have z1_a : 0 ≤ z1 := hp.2.1
  have z1_b : z1 ≤ 1 := hp.2.2
  have w : WD D A s.heap [(a1, .inl (T 0, 940, .inl f0)), (a0, .inr (8, [.ref a1, .int (iI x1), .int r0, .int (iI x2), .int r1, .int r2, (va_rf o0), .long y0, .int r3, .int r4, .int r5, .int r6]))] H locs := w
  refine lv_if_ne (tgt := 14) hx hb dX8_pass_5 (by decide) (fun c_2 => ?_) (fun c_2 => ?_)
  · replace c_2 : ¬ z1 = 0 := fun h => c_2 ((iz_eq (Int.le_trans (by decide) z1_a) (Int.le_trans z1_b (by decide))).mpr h)
    refine lv_aload_n hx hb dX8_pass_14 rfl (lv_at hl 0 rfl) ?_
    refine k_V (ce := 0) (sl := 0) (rest := []) (wr := []) (r_V (f := 4) [1, 0] M w V_HookedCity_Tape_55 G587 G588 (c238_X8_step l D T _ a0 a1 x1 r0 x2 r1 r2 o0 y0 r3 r4 r5 r6 f0 x1_a x1_b x2_a x2_b o0_h) 1 clX8 rfl rfl (by decide) rfl hl.1 rfl (Nat.le_of_ble_eq_true rfl) dX8_pass_15 (by decide) (by decide) (by decide) (by decide)) w [1, 0] [] rfl rfl (by decide) (by decide) rfl rfl (fun u H locs hp w => ?_)
    obtain ⟨z3, fr4, fr5, fo6, fy7, fr8, fr9⟩ := u
    have z3_a : 0 ≤ z3 := hp.1
    have z3_b : z3 ≤ 940 := hp.2.1
    have fo6_h : wok T fo6 := hp.2.2
    have w : WD D A s.heap [(a0, .inr (8, [.ref a1, .int (iI x1), .int r0, .int (iI z3), .int fr4, .int fr5, (va_rf fo6), .long fy7, .int fr8, .int fr9, .int r5, .int r6])), (a1, .inl (T 0, 940, .inl f0))] H locs := w
    refine lv_iconst (v := iI 1) hx hb dX8_pass_18 (by decide +kernel) ?_
    exact ret _ (1, z3, fr4, fr5, fo6, fy7, fr8, fr9, r5, r6) _ _ _ _ _ [0, 1] dX8_pass_19 (by decide +kernel) ⟨rfl, (show (0 : Int) ≤ 1 from by decide), (show (1 : Int) ≤ 1 from by decide), z3_a, z3_b, fo6_h⟩ w (by decide) rfl
  · replace c_2 := (iz_eq (Int.le_trans (by decide) z1_a) (Int.le_trans z1_b (by decide))).mp c_2
    refine lv_aload_n hx hb dX8_pass_8 rfl (lv_at hl 0 rfl) ?_
    refine lv_iconst (v := iI 1) hx hb dX8_pass_9 (by decide +kernel) ?_
    refine k_I (ce := 0) (sl := 0) (rest := []) (wr := [(a1, .inl (T 0, 940, .inl f0))]) (r_V (f := 0) [1] M w V_HookedCity_Tape_90 G710 G711 (c243_X8_fail l D T _ a0 1 a1 x1 r0 x2 r1 r2 o0 y0 r3 r4 r5 r6 (by decide) (by decide) x1_a x1_b x2_a x2_b o0_h) 1 clX8 rfl rfl (by decide) rfl hl.1 rfl (Nat.le_of_ble_eq_true rfl) dX8_pass_10 (by decide) (by decide) (by decide) (by decide)) w [1] [0] rfl rfl (by decide) (by decide) rfl rfl (fun v u H locs hp w => ?_)
    obtain ⟨z10, fr11, fr12⟩ := u
    have hv : iI z10 = v := hp.1
    subst hv
    have z10_a : 0 ≤ z10 := hp.2.1
    have z10_b : z10 ≤ 1 := hp.2.2.1
    have w : WD D A s.heap [(a1, .inl (T 0, 940, .inl f0)), (a0, .inr (8, [.ref a1, .int (iI x1), .int r0, .int (iI x2), .int r1, .int r2, (va_rf o0), .long y0, .int r3, .int r4, .int fr11, .int fr12]))] H locs := w
    rcases hp.2.2.2 with hr
    · subst hr
      exact ret _ (0, x2, r1, r2, o0, y0, r3, r4, fr11, fr12) _ _ _ _ _ [1, 0] dX8_pass_13 (by decide +kernel) ⟨rfl, (show (0 : Int) ≤ 0 from by decide), (show (0 : Int) ≤ 1 from by decide), x2_a, x2_b, o0_h⟩ w (by decide) rfl
set_option maxRecDepth 100000 in
set_option maxHeartbeats 4000000 in
theorem c245_X8_numberAt (l : Launch) (D : va_G) (T : Nat → ClassId) (sz : Nat) (a0 : Nat) (x0 : Int) (x1 : Int) (a1 : Nat) (x2 : Int) (r0 : Int32) (x3 : Int) (r1 : Int32) (r2 : Int32) (o0 : Option Nat) (y0 : Int64) (r3 : Int32) (r4 : Int32) (r5 : Int32) (r6 : Int32) (x0_a : (-2147483648) ≤ x0) (x0_b : x0 ≤ 2147483647) (x1_a : (-2147483648) ≤ x1) (x1_b : x1 ≤ 2147483647) (x2_a : 0 ≤ x2) (x2_b : x2 ≤ 940) (x3_a : 0 ≤ x3) (x3_b : x3 ≤ 940) (o0_h : wok T o0) : Met l yX8_numberAt (Cond.code yX8_numberAt cX8_numberAt 3 (some .int) :: GW) (Rm 1 0 0) (cPre [.ref a0, .int (iI x0), .int (iI x1)] D T [(a0, .inr (8, [.ref a1, .int (iI x2), .int r0, .int (iI x3), .int r1, .int r2, (va_rf o0), .long y0, .int r3, .int r4, .int r5, .int r6]))] sz) (qI D [(a0, .inr (8, [.ref a1, .int (iI x2), .int r0, .int (iI x3), .int r1, .int r2, (va_rf o0), .long y0, .int r3, .int r4, .int r5, .int r6]))] sz (fun (v : Int32) (u : Int × Int32 × Int32) => iI u.1 = v ∧ (-2147483648) ≤ u.1 ∧ u.1 ≤ 2147483647) (fun u => [(a0, .inr (8, [.ref a1, .int (iI x2), .int r0, .int (iI x3), .int r1, .int r2, (va_rf o0), .long y0, .int r3, .int r4, .int u.2.1, .int u.2.2]))])) 0 0 (va_A [(a0, .inr (8, [.ref a1, .int (iI x2), .int r0, .int (iI x3), .int r1, .int r2, (va_rf o0), .long y0, .int r3, .int r4, .int r5, .int r6]))] sz) := by
  refine e_I (by decide) (Nat.le_of_ble_eq_true rfl) ?_
  intro p e s m args below meth c A Q ls M hin w ret hl
  have hx := M.1.1
  have hb := M.1.2.1
  have hl : lv_has ls 3 [(0, .ref a0), (1, .int (iI x0)), (2, .int (iI x1))] := hl
  refine lv_aload_n hx hb dX8_numberAt_0 rfl (lv_at hl 0 rfl) ?_
  refine r_get (v := .int r2) M w 0 5 clX8 rfl (by decide) G168 rfl rfl dX8_numberAt_1 ?_
  refine b_any (fun z1 z1_a z1_b => ?_)
  refine lv_iconst (v := iI 4) hx hb dX8_numberAt_4 (by decide +kernel) ?_
  refine lv_icmp_eq (tgt := 16) hx hb dX8_numberAt_5 (by decide) (fun c_2 => ?_) (fun c_2 => ?_)
  · replace c_2 := (iI_eq (Int.le_trans (by decide) z1_a) (Int.le_trans z1_b (by decide)) (by decide) (by decide)).mp c_2
    refine lv_aload_n hx hb dX8_numberAt_16 rfl (lv_at hl 0 rfl) ?_
    refine r_get (v := .int r3) M w 0 8 clX8 rfl (by decide) G176 rfl rfl dX8_numberAt_17 ?_
    refine b_any (fun z3 z3_a z3_b => ?_)
    refine lv_iload_n hx hb dX8_numberAt_20 rfl (lv_at hl 1 rfl) ?_
    refine lv_icmp_lt (tgt := 32) hx hb dX8_numberAt_21 (by decide) (fun c_4 => ?_) (fun c_4 => ?_)
    · replace c_4 := (iI_lt (Int.le_trans (by decide) z3_a) (Int.le_trans z3_b (by decide)) (Int.le_trans (by decide) x0_a) (Int.le_trans x0_b (by decide))).mp c_4
      refine lv_aload_n hx hb dX8_numberAt_32 rfl (lv_at hl 0 rfl) ?_
      refine lv_iconst (v := iI 2) hx hb dX8_numberAt_33 (by decide +kernel) ?_
      refine k_I (ce := 0) (sl := 0) (rest := []) (wr := []) (r_V (f := 0) [0] M w V_HookedCity_Tape_90 G710 G711 (c243_X8_fail l D T _ a0 2 a1 x2 r0 x3 r1 r2 o0 y0 r3 r4 r5 r6 (by decide) (by decide) x2_a x2_b x3_a x3_b o0_h) 0 clX8 rfl rfl (by decide) rfl hl.1 rfl (Nat.le_of_ble_eq_true rfl) dX8_numberAt_34 (by decide) (by decide) (by decide) (by decide)) w [0] [] rfl rfl (by decide) (by decide) rfl rfl (fun v u H locs hp w => ?_)
      obtain ⟨z5, fr6, fr7⟩ := u
      have hv : iI z5 = v := hp.1
      subst hv
      have z5_a : 0 ≤ z5 := hp.2.1
      have z5_b : z5 ≤ 1 := hp.2.2.1
      have w : WD D A s.heap [(a0, .inr (8, [.ref a1, .int (iI x2), .int r0, .int (iI x3), .int r1, .int r2, (va_rf o0), .long y0, .int r3, .int r4, .int fr6, .int fr7]))] H locs := w
      rcases hp.2.2.2 with hr
      · subst hr
        refine lv_pop hx hb dX8_numberAt_37 rfl ?_
        refine lv_iconst (v := iI (-1)) hx hb dX8_numberAt_38 (by decide +kernel) ?_
        exact ret _ ((-1), fr6, fr7) _ _ _ _ _ [0] dX8_numberAt_39 ⟨rfl, (show (-2147483648) ≤ (-1) from by decide), (show ((-1) : Int) ≤ 2147483647 from by decide)⟩ w (by decide) rfl
    · replace c_4 : x0 ≤ z3 := Int.not_lt.mp (fun h => c_4 ((iI_lt (Int.le_trans (by decide) z3_a) (Int.le_trans z3_b (by decide)) (Int.le_trans (by decide) x0_a) (Int.le_trans x0_b (by decide))).mpr h))
      refine lv_aload_n hx hb dX8_numberAt_24 rfl (lv_at hl 0 rfl) ?_
      refine r_get (v := .int r3) M w 0 8 clX8 rfl (by decide) G176 rfl rfl dX8_numberAt_25 ?_
      refine b_any (fun z8 z8_a z8_b => ?_)
      refine lv_iload_n hx hb dX8_numberAt_28 rfl (lv_at hl 2 rfl) ?_
      refine lv_icmp_le (tgt := 40) hx hb dX8_numberAt_29 (by decide) (fun c_9 => ?_) (fun c_9 => ?_)
      · replace c_9 := (iI_le (Int.le_trans (by decide) z8_a) (Int.le_trans z8_b (by decide)) (Int.le_trans (by decide) x1_a) (Int.le_trans x1_b (by decide))).mp c_9
        refine lv_aload_n hx hb dX8_numberAt_40 rfl (lv_at hl 0 rfl) ?_
        refine r_get (v := .int r3) M w 0 8 clX8 rfl (by decide) G176 rfl rfl dX8_numberAt_41 ?_
        refine b_any (fun z10 z10_a z10_b => ?_)
        exact ret _ (z10, r5, r6) _ _ _ _ _ [0] dX8_numberAt_44 ⟨rfl, z10_a, z10_b⟩ w (by decide) rfl
      · replace c_9 : x1 < z8 := Int.not_le.mp (fun h => c_9 ((iI_le (Int.le_trans (by decide) z8_a) (Int.le_trans z8_b (by decide)) (Int.le_trans (by decide) x1_a) (Int.le_trans x1_b (by decide))).mpr h))
        refine lv_aload_n hx hb dX8_numberAt_32 rfl (lv_at hl 0 rfl) ?_
        refine lv_iconst (v := iI 2) hx hb dX8_numberAt_33 (by decide +kernel) ?_
        refine k_I (ce := 0) (sl := 0) (rest := []) (wr := []) (r_V (f := 0) [0] M w V_HookedCity_Tape_90 G710 G711 (c243_X8_fail l D T _ a0 2 a1 x2 r0 x3 r1 r2 o0 y0 r3 r4 r5 r6 (by decide) (by decide) x2_a x2_b x3_a x3_b o0_h) 0 clX8 rfl rfl (by decide) rfl hl.1 rfl (Nat.le_of_ble_eq_true rfl) dX8_numberAt_34 (by decide) (by decide) (by decide) (by decide)) w [0] [] rfl rfl (by decide) (by decide) rfl rfl (fun v u H locs hp w => ?_)
        obtain ⟨z11, fr12, fr13⟩ := u
        have hv : iI z11 = v := hp.1
        subst hv
        have z11_a : 0 ≤ z11 := hp.2.1
        have z11_b : z11 ≤ 1 := hp.2.2.1
        have w : WD D A s.heap [(a0, .inr (8, [.ref a1, .int (iI x2), .int r0, .int (iI x3), .int r1, .int r2, (va_rf o0), .long y0, .int r3, .int r4, .int fr12, .int fr13]))] H locs := w
        rcases hp.2.2.2 with hr
        · subst hr
          refine lv_pop hx hb dX8_numberAt_37 rfl ?_
          refine lv_iconst (v := iI (-1)) hx hb dX8_numberAt_38 (by decide +kernel) ?_
          exact ret _ ((-1), fr12, fr13) _ _ _ _ _ [0] dX8_numberAt_39 ⟨rfl, (show (-2147483648) ≤ (-1) from by decide), (show ((-1) : Int) ≤ 2147483647 from by decide)⟩ w (by decide) rfl
  · replace c_2 : ¬ z1 = 4 := fun h => c_2 ((iI_eq (Int.le_trans (by decide) z1_a) (Int.le_trans z1_b (by decide)) (by decide) (by decide)).mpr h)
    refine lv_aload_n hx hb dX8_numberAt_8 rfl (lv_at hl 0 rfl) ?_
    refine lv_iconst (v := iI 1) hx hb dX8_numberAt_9 (by decide +kernel) ?_
    refine k_I (ce := 0) (sl := 0) (rest := []) (wr := []) (r_V (f := 0) [0] M w V_HookedCity_Tape_90 G710 G711 (c243_X8_fail l D T _ a0 1 a1 x2 r0 x3 r1 r2 o0 y0 r3 r4 r5 r6 (by decide) (by decide) x2_a x2_b x3_a x3_b o0_h) 0 clX8 rfl rfl (by decide) rfl hl.1 rfl (Nat.le_of_ble_eq_true rfl) dX8_numberAt_10 (by decide) (by decide) (by decide) (by decide)) w [0] [] rfl rfl (by decide) (by decide) rfl rfl (fun v u H locs hp w => ?_)
    obtain ⟨z14, fr15, fr16⟩ := u
    have hv : iI z14 = v := hp.1
    subst hv
    have z14_a : 0 ≤ z14 := hp.2.1
    have z14_b : z14 ≤ 1 := hp.2.2.1
    have w : WD D A s.heap [(a0, .inr (8, [.ref a1, .int (iI x2), .int r0, .int (iI x3), .int r1, .int r2, (va_rf o0), .long y0, .int r3, .int r4, .int fr15, .int fr16]))] H locs := w
    rcases hp.2.2.2 with hr
    · subst hr
      refine lv_pop hx hb dX8_numberAt_13 rfl ?_
      refine lv_iconst (v := iI (-1)) hx hb dX8_numberAt_14 (by decide +kernel) ?_
      exact ret _ ((-1), fr15, fr16) _ _ _ _ _ [0] dX8_numberAt_15 ⟨rfl, (show (-2147483648) ≤ (-1) from by decide), (show ((-1) : Int) ≤ 2147483647 from by decide)⟩ w (by decide) rfl
