theorem dX6_isAsTold_0 : decode cX6_isAsTold 0 = .ok (.aload_n 0, 1) := by decide +kernel
theorem dX6_isAsTold_1 : decode cX6_isAsTold 1 = .ok (.getfield 39, 3) := by decide +kernel
theorem N163 : Cond.fieldLinkNest "HookedCity$Slipped" 39 "HookedCity$Tape" "length" "I" "HookedCity" ∈ lw_tbl := List.mem_of_getElem? (i := 163) (by decide +kernel)
theorem dX6_isAsTold_4 : decode cX6_isAsTold 4 = .ok (.iconst 2, 1) := by decide +kernel
theorem dX6_isAsTold_5 : decode cX6_isAsTold 5 = .ok (.if_icmp .lt 21, 3) := by decide +kernel
theorem dX6_isAsTold_26 : decode cX6_isAsTold 26 = .ok (.iconst 0, 1) := by decide +kernel
theorem dX6_isAsTold_27 : decode cX6_isAsTold 27 = .ok (.ireturn, 1) := by decide +kernel
theorem dX6_judge_0 : decode cX6_judge 0 = .ok (.aload_n 1, 1) := by decide +kernel
theorem dX6_judge_1 : decode cX6_judge 1 = .ok (.iload_n 2, 1) := by decide +kernel
theorem dX6_judge_2 : decode cX6_judge 2 = .ok (.invokestatic 18, 3) := by decide +kernel
theorem G1005 : Cond.code ⟨"HookedCity$Slipped", "isAsTold", "(LHookedCity$Tape;I)Z"⟩ prog_8_method_3_code 4 (some .boolean) ∈ GW := gw_i 1005 (by decide +kernel) rfl
theorem G1003 : Cond.methodLink "HookedCity$Slipped" 18 ⟨"HookedCity$Slipped", "isAsTold", "(LHookedCity$Tape;I)Z"⟩ ∈ GW := gw_i 1003 (by decide +kernel) rfl
theorem V_HookedCity_Slipped_18 : VL "HookedCity$Slipped" 18 yX6_isAsTold cX6_isAsTold 4 (some .boolean) 2 := ⟨G1005, G1003, G125, by decide +kernel, by decide +kernel, by decide +kernel⟩
theorem G1004 : Cond.static ⟨"HookedCity$Slipped", "isAsTold", "(LHookedCity$Tape;I)Z"⟩ ∈ GW := gw_i 1004 (by decide +kernel) rfl
theorem dX6_judge_5 : decode cX6_judge 5 = .ok (.ifCond .ne 5, 3) := by decide +kernel
theorem dX6_judge_8 : decode cX6_judge 8 = .ok (.iconst (-1), 1) := by decide +kernel
theorem dX6_judge_9 : decode cX6_judge 9 = .ok (.ireturn, 1) := by decide +kernel
theorem dX11_slips_0 : decode cX11_slips 0 = .ok (.aload_n 0, 1) := by decide +kernel
theorem dX11_slips_1 : decode cX11_slips 1 = .ok (.getfield 43, 3) := by decide +kernel
theorem dX11_slips_4 : decode cX11_slips 4 = .ok (.aload_n 0, 1) := by decide +kernel
theorem dX11_slips_5 : decode cX11_slips 5 = .ok (.getfield 10, 3) := by decide +kernel
theorem dX11_slips_8 : decode cX11_slips 8 = .ok (.aload_n 0, 1) := by decide +kernel
theorem dX11_slips_9 : decode cX11_slips 9 = .ok (.getfield 74, 3) := by decide +kernel
theorem dX11_slips_12 : decode cX11_slips 12 = .ok (.getfield 257, 3) := by decide +kernel
theorem dX11_slips_15 : decode cX11_slips 15 = .ok (.invokevirtual 260, 3) := by decide +kernel
theorem G1002 : Cond.code ⟨"HookedCity$Slipped", "judge", "(LHookedCity$Tape;I)I"⟩ prog_8_method_2_code 5 (some .int) ∈ GW := gw_i 1002 (by decide +kernel) rfl
theorem G999 : Cond.methodLink "HookedCity" 260 ⟨"HookedCity$Slipped", "judge", "(LHookedCity$Tape;I)I"⟩ ∈ GW := gw_i 999 (by decide +kernel) rfl
theorem V_HookedCity_260 : VL "HookedCity" 260 yX6_judge cX6_judge 5 (some .int) 2 := ⟨G1002, G999, G125, by decide +kernel, by decide +kernel, by decide +kernel⟩
theorem G1000 : Cond.instanceMethod ⟨"HookedCity$Slipped", "judge", "(LHookedCity$Tape;I)I"⟩ ∈ GW := gw_i 1000 (by decide +kernel) rfl
theorem G1001 : Cond.selects "HookedCity$Slipped" ⟨"HookedCity$Slipped", "judge", "(LHookedCity$Tape;I)I"⟩ ⟨"HookedCity$Slipped", "judge", "(LHookedCity$Tape;I)I"⟩ ∈ GW := gw_i 1001 (by decide +kernel) rfl
theorem dX11_slips_18 : decode cX11_slips 18 = .ok (.istore_n 1, 1) := by decide +kernel
theorem dX11_slips_19 : decode cX11_slips 19 = .ok (.aload_n 0, 1) := by decide +kernel
theorem dX11_slips_20 : decode cX11_slips 20 = .ok (.getfield 10, 3) := by decide +kernel
theorem dX11_slips_23 : decode cX11_slips 23 = .ok (.invokevirtual 115, 3) := by decide +kernel
theorem dX11_slips_26 : decode cX11_slips 26 = .ok (.iload_n 1, 1) := by decide +kernel
theorem dX11_slips_27 : decode cX11_slips 27 = .ok (.ireturn, 1) := by decide +kernel
theorem dX12_slips_0 : decode cX12_slips 0 = .ok (.aload_n 0, 1) := by decide +kernel
theorem dX12_slips_1 : decode cX12_slips 1 = .ok (.iconst 0, 1) := by decide +kernel
theorem dX12_slips_2 : decode cX12_slips 2 = .ok (.putfield 1, 3) := by decide +kernel
theorem dX12_slips_5 : decode cX12_slips 5 = .ok (.aload_n 0, 1) := by decide +kernel
theorem dX12_slips_6 : decode cX12_slips 6 = .ok (.invokevirtual 89, 3) := by decide +kernel
theorem dX12_slips_9 : decode cX12_slips 9 = .ok (.istore_n 1, 1) := by decide +kernel
theorem dX12_slips_10 : decode cX12_slips 10 = .ok (.iload_n 1, 1) := by decide +kernel
theorem dX12_slips_11 : decode cX12_slips 11 = .ok (.iconst 2, 1) := by decide +kernel
theorem dX12_slips_12 : decode cX12_slips 12 = .ok (.irem, 1) := by decide +kernel
theorem dX12_slips_13 : decode cX12_slips 13 = .ok (.ifCond .ne 15, 3) := by decide +kernel
theorem dX12_slips_16 : decode cX12_slips 16 = .ok (.iload_n 1, 1) := by decide +kernel
theorem dX12_slips_17 : decode cX12_slips 17 = .ok (.iconst 2, 1) := by decide +kernel
theorem dX12_slips_18 : decode cX12_slips 18 = .ok (.idiv, 1) := by decide +kernel
theorem dX12_slips_19 : decode cX12_slips 19 = .ok (.iconst 1, 1) := by decide +kernel
theorem dX12_slips_20 : decode cX12_slips 20 = .ok (.bipush 8, 2) := by decide +kernel
theorem dX12_slips_22 : decode cX12_slips 22 = .ok (.invokestatic 75, 3) := by decide +kernel
theorem dX12_slips_25 : decode cX12_slips 25 = .ok (.ifCond .ne 5, 3) := by decide +kernel
theorem dX12_slips_28 : decode cX12_slips 28 = .ok (.iconst (-1), 1) := by decide +kernel
theorem dX12_slips_29 : decode cX12_slips 29 = .ok (.ireturn, 1) := by decide +kernel
theorem dX11_slipLeast_0 : decode cX11_slipLeast 0 = .ok (.aload_n 0, 1) := by decide +kernel
theorem dX11_slipLeast_1 : decode cX11_slipLeast 1 = .ok (.getfield 43, 3) := by decide +kernel
theorem dX11_slipLeast_4 : decode cX11_slipLeast 4 = .ok (.getfield 264, 3) := by decide +kernel
theorem N316 : Cond.fieldLinkNest "HookedCity" 264 "HookedCity$Slipped" "least" "I" "HookedCity" ∈ lw_tbl := List.mem_of_getElem? (i := 316) (by decide +kernel)
theorem dX11_slipLeast_7 : decode cX11_slipLeast 7 = .ok (.ireturn, 1) := by decide +kernel
theorem dX12_slipLeast_0 : decode cX12_slipLeast 0 = .ok (.aload_n 0, 1) := by decide +kernel
theorem dX12_slipLeast_1 : decode cX12_slipLeast 1 = .ok (.iconst 0, 1) := by decide +kernel
theorem dX12_slipLeast_2 : decode cX12_slipLeast 2 = .ok (.putfield 1, 3) := by decide +kernel
theorem dX12_slipLeast_5 : decode cX12_slipLeast 5 = .ok (.aload_n 0, 1) := by decide +kernel
theorem dX12_slipLeast_6 : decode cX12_slipLeast 6 = .ok (.getfield 145, 3) := by decide +kernel
theorem dX12_slipLeast_9 : decode cX12_slipLeast 9 = .ok (.ireturn, 1) := by decide +kernel
theorem dX11_turn_0 : decode cX11_turn 0 = .ok (.aload_n 0, 1) := by decide +kernel
theorem dX11_turn_1 : decode cX11_turn 1 = .ok (.getfield 43, 3) := by decide +kernel
theorem dX11_turn_4 : decode cX11_turn 4 = .ok (.getfield 267, 3) := by decide +kernel
theorem N318 : Cond.fieldLinkNest "HookedCity" 267 "HookedCity$Slipped" "next" "I" "HookedCity" ∈ lw_tbl := List.mem_of_getElem? (i := 318) (by decide +kernel)
theorem dX11_turn_7 : decode cX11_turn 7 = .ok (.ireturn, 1) := by decide +kernel
theorem dX12_turn_0 : decode cX12_turn 0 = .ok (.aload_n 0, 1) := by decide +kernel
theorem dX12_turn_1 : decode cX12_turn 1 = .ok (.iconst 0, 1) := by decide +kernel
theorem dX12_turn_2 : decode cX12_turn 2 = .ok (.putfield 1, 3) := by decide +kernel
theorem dX12_turn_5 : decode cX12_turn 5 = .ok (.aload_n 0, 1) := by decide +kernel
theorem dX12_turn_6 : decode cX12_turn 6 = .ok (.getfield 148, 3) := by decide +kernel
theorem dX12_turn_9 : decode cX12_turn 9 = .ok (.ireturn, 1) := by decide +kernel
theorem dX11_way_0 : decode cX11_way 0 = .ok (.aload_n 0, 1) := by decide +kernel
theorem dX11_way_1 : decode cX11_way 1 = .ok (.iload_n 1, 1) := by decide +kernel
theorem dX11_way_2 : decode cX11_way 2 = .ok (.invokevirtual 134, 3) := by decide +kernel
theorem dX11_way_5 : decode cX11_way 5 = .ok (.ifCond .eq 27, 3) := by decide +kernel
theorem dX11_way_32 : decode cX11_way 32 = .ok (.iconst (-1), 1) := by decide +kernel
theorem dX11_way_33 : decode cX11_way 33 = .ok (.ireturn, 1) := by decide +kernel
theorem dX12_way_0 : decode cX12_way 0 = .ok (.aload_n 0, 1) := by decide +kernel
theorem dX12_way_1 : decode cX12_way 1 = .ok (.iconst 0, 1) := by decide +kernel
theorem dX12_way_2 : decode cX12_way 2 = .ok (.putfield 1, 3) := by decide +kernel
theorem dX12_way_5 : decode cX12_way 5 = .ok (.aload_n 0, 1) := by decide +kernel
theorem dX12_way_6 : decode cX12_way 6 = .ok (.iload_n 1, 1) := by decide +kernel
theorem dX12_way_7 : decode cX12_way 7 = .ok (.invokevirtual 240, 3) := by decide +kernel
theorem dX12_way_10 : decode cX12_way 10 = .ok (.ifCond .eq 11, 3) := by decide +kernel
theorem dX12_way_21 : decode cX12_way 21 = .ok (.iconst (-1), 1) := by decide +kernel
theorem dX12_way_22 : decode cX12_way 22 = .ok (.ireturn, 1) := by decide +kernel
theorem dX11_wayAt_0 : decode cX11_wayAt 0 = .ok (.iload_n 1, 1) := by decide +kernel
theorem dX11_wayAt_1 : decode cX11_wayAt 1 = .ok (.ifCond .lt 26, 3) := by decide +kernel
theorem dX11_wayAt_27 : decode cX11_wayAt 27 = .ok (.iconst (-1), 1) := by decide +kernel
theorem dX11_wayAt_28 : decode cX11_wayAt 28 = .ok (.ireturn, 1) := by decide +kernel
theorem dX11_wayAt_4 : decode cX11_wayAt 4 = .ok (.iload_n 1, 1) := by decide +kernel
theorem dX11_wayAt_5 : decode cX11_wayAt 5 = .ok (.aload_n 0, 1) := by decide +kernel
theorem dX11_wayAt_6 : decode cX11_wayAt 6 = .ok (.getfield 50, 3) := by decide +kernel
theorem dX11_wayAt_9 : decode cX11_wayAt 9 = .ok (.getfield 272, 3) := by decide +kernel
theorem N334 : Cond.fieldLinkNest "HookedCity" 272 "HookedCity$Path" "length" "I" "HookedCity" ∈ lw_tbl := List.mem_of_getElem? (i := 334) (by decide +kernel)
theorem dX11_wayAt_12 : decode cX11_wayAt 12 = .ok (.if_icmp .ge 15, 3) := by decide +kernel
theorem dX12_wayAt_0 : decode cX12_wayAt 0 = .ok (.aload_n 0, 1) := by decide +kernel
theorem dX12_wayAt_1 : decode cX12_wayAt 1 = .ok (.iconst 0, 1) := by decide +kernel
theorem dX12_wayAt_2 : decode cX12_wayAt 2 = .ok (.putfield 1, 3) := by decide +kernel
theorem dX12_wayAt_5 : decode cX12_wayAt 5 = .ok (.iload_n 1, 1) := by decide +kernel
theorem dX12_wayAt_6 : decode cX12_wayAt 6 = .ok (.iconst 0, 1) := by decide +kernel
theorem dX12_wayAt_7 : decode cX12_wayAt 7 = .ok (.aload_n 0, 1) := by decide +kernel
theorem dX12_wayAt_8 : decode cX12_wayAt 8 = .ok (.getfield 335, 3) := by decide +kernel
theorem G1504 : Cond.fieldLink "HookedCityModel" 335 "HookedCityModel" "pathMany" "I" ∈ GW := gw_i 1504 (by decide +kernel) rfl
theorem dX12_wayAt_11 : decode cX12_wayAt 11 = .ok (.iconst 1, 1) := by decide +kernel
theorem dX12_wayAt_12 : decode cX12_wayAt 12 = .ok (.isub, 1) := by decide +kernel
theorem dX12_wayAt_13 : decode cX12_wayAt 13 = .ok (.invokestatic 75, 3) := by decide +kernel
theorem dX12_wayAt_16 : decode cX12_wayAt 16 = .ok (.ifCond .eq 12, 3) := by decide +kernel
theorem dX12_wayAt_28 : decode cX12_wayAt 28 = .ok (.iconst (-1), 1) := by decide +kernel
theorem dX12_wayAt_29 : decode cX12_wayAt 29 = .ok (.ireturn, 1) := by decide +kernel
theorem dX11_lasts_0 : decode cX11_lasts 0 = .ok (.aload_n 0, 1) := by decide +kernel
theorem dX11_lasts_1 : decode cX11_lasts 1 = .ok (.iload_n 1, 1) := by decide +kernel
theorem dX11_lasts_2 : decode cX11_lasts 2 = .ok (.invokevirtual 134, 3) := by decide +kernel
theorem dX11_lasts_5 : decode cX11_lasts 5 = .ok (.ifCond .eq 18, 3) := by decide +kernel
theorem dX11_lasts_23 : decode cX11_lasts 23 = .ok (.iconst (-1), 1) := by decide +kernel
theorem dX11_lasts_24 : decode cX11_lasts 24 = .ok (.ireturn, 1) := by decide +kernel
theorem dX12_lasts_0 : decode cX12_lasts 0 = .ok (.aload_n 0, 1) := by decide +kernel
theorem dX12_lasts_1 : decode cX12_lasts 1 = .ok (.iconst 0, 1) := by decide +kernel
theorem dX12_lasts_2 : decode cX12_lasts 2 = .ok (.putfield 1, 3) := by decide +kernel
theorem dX12_lasts_5 : decode cX12_lasts 5 = .ok (.aload_n 0, 1) := by decide +kernel
theorem dX12_lasts_6 : decode cX12_lasts 6 = .ok (.iload_n 1, 1) := by decide +kernel
theorem dX12_lasts_7 : decode cX12_lasts 7 = .ok (.invokevirtual 240, 3) := by decide +kernel
theorem dX12_lasts_10 : decode cX12_lasts 10 = .ok (.ifCond .eq 11, 3) := by decide +kernel
theorem dX12_lasts_21 : decode cX12_lasts 21 = .ok (.iconst (-1), 1) := by decide +kernel
theorem dX12_lasts_22 : decode cX12_lasts 22 = .ok (.ireturn, 1) := by decide +kernel
theorem dX11_near_0 : decode cX11_near 0 = .ok (.aload_n 0, 1) := by decide +kernel
theorem dX11_near_1 : decode cX11_near 1 = .ok (.iload_n 1, 1) := by decide +kernel
theorem dX11_near_2 : decode cX11_near 2 = .ok (.invokevirtual 134, 3) := by decide +kernel
theorem dX11_near_5 : decode cX11_near 5 = .ok (.ifCond .eq 15, 3) := by decide +kernel
theorem dX11_near_20 : decode cX11_near 20 = .ok (.iconst (-1), 1) := by decide +kernel
theorem dX11_near_21 : decode cX11_near 21 = .ok (.ireturn, 1) := by decide +kernel
theorem dX12_near_0 : decode cX12_near 0 = .ok (.aload_n 0, 1) := by decide +kernel
theorem dX12_near_1 : decode cX12_near 1 = .ok (.iconst 0, 1) := by decide +kernel
theorem dX12_near_2 : decode cX12_near 2 = .ok (.putfield 1, 3) := by decide +kernel
theorem dX12_near_5 : decode cX12_near 5 = .ok (.aload_n 0, 1) := by decide +kernel
theorem dX12_near_6 : decode cX12_near 6 = .ok (.iload_n 1, 1) := by decide +kernel
theorem dX12_near_7 : decode cX12_near 7 = .ok (.invokevirtual 240, 3) := by decide +kernel
theorem dX12_near_10 : decode cX12_near 10 = .ok (.ifCond .eq 15, 3) := by decide +kernel
theorem dX12_near_25 : decode cX12_near 25 = .ok (.iconst (-1), 1) := by decide +kernel
theorem dX12_near_26 : decode cX12_near 26 = .ok (.ireturn, 1) := by decide +kernel
theorem dX11_could_0 : decode cX11_could 0 = .ok (.aload_n 0, 1) := by decide +kernel
theorem dX11_could_1 : decode cX11_could 1 = .ok (.iload_n 1, 1) := by decide +kernel
theorem dX11_could_2 : decode cX11_could 2 = .ok (.invokevirtual 134, 3) := by decide +kernel
theorem dX11_could_5 : decode cX11_could 5 = .ok (.ifCond .eq 18, 3) := by decide +kernel
theorem dX11_could_23 : decode cX11_could 23 = .ok (.iconst (-1), 1) := by decide +kernel
theorem dX11_could_24 : decode cX11_could 24 = .ok (.ireturn, 1) := by decide +kernel
theorem dX12_could_0 : decode cX12_could 0 = .ok (.aload_n 0, 1) := by decide +kernel
theorem dX12_could_1 : decode cX12_could 1 = .ok (.iconst 0, 1) := by decide +kernel
theorem dX12_could_2 : decode cX12_could 2 = .ok (.putfield 1, 3) := by decide +kernel
theorem dX12_could_5 : decode cX12_could 5 = .ok (.aload_n 0, 1) := by decide +kernel
theorem dX12_could_6 : decode cX12_could 6 = .ok (.iload_n 1, 1) := by decide +kernel
theorem dX12_could_7 : decode cX12_could 7 = .ok (.invokevirtual 240, 3) := by decide +kernel
theorem dX12_could_10 : decode cX12_could 10 = .ok (.ifCond .ne 5, 3) := by decide +kernel
theorem dX12_could_13 : decode cX12_could 13 = .ok (.iconst (-1), 1) := by decide +kernel
theorem dX12_could_14 : decode cX12_could 14 = .ok (.ireturn, 1) := by decide +kernel
theorem dX11_card_0 : decode cX11_card 0 = .ok (.aload_n 0, 1) := by decide +kernel
theorem dX11_card_1 : decode cX11_card 1 = .ok (.iload_n 1, 1) := by decide +kernel
theorem dX11_card_2 : decode cX11_card 2 = .ok (.invokevirtual 134, 3) := by decide +kernel
theorem dX11_card_5 : decode cX11_card 5 = .ok (.ifCond .eq 22, 3) := by decide +kernel
theorem dX11_card_27 : decode cX11_card 27 = .ok (.iconst (-1), 1) := by decide +kernel
theorem dX11_card_28 : decode cX11_card 28 = .ok (.ireturn, 1) := by decide +kernel
theorem dX12_card_0 : decode cX12_card 0 = .ok (.aload_n 0, 1) := by decide +kernel
theorem dX12_card_1 : decode cX12_card 1 = .ok (.iconst 0, 1) := by decide +kernel
theorem dX12_card_2 : decode cX12_card 2 = .ok (.putfield 1, 3) := by decide +kernel
theorem dX12_card_5 : decode cX12_card 5 = .ok (.aload_n 0, 1) := by decide +kernel
theorem dX12_card_6 : decode cX12_card 6 = .ok (.iload_n 1, 1) := by decide +kernel
theorem dX12_card_7 : decode cX12_card 7 = .ok (.invokevirtual 240, 3) := by decide +kernel
theorem dX12_card_10 : decode cX12_card 10 = .ok (.ifCond .ne 5, 3) := by decide +kernel
theorem dX12_card_13 : decode cX12_card 13 = .ok (.iconst (-1), 1) := by decide +kernel
theorem dX12_card_14 : decode cX12_card 14 = .ok (.ireturn, 1) := by decide +kernel
theorem dX11_byteAt_0 : decode cX11_byteAt 0 = .ok (.iload_n 1, 1) := by decide +kernel
theorem dX11_byteAt_1 : decode cX11_byteAt 1 = .ok (.ifCond .lt 26, 3) := by decide +kernel
theorem dX11_byteAt_27 : decode cX11_byteAt 27 = .ok (.iconst (-1), 1) := by decide +kernel
theorem dX11_byteAt_28 : decode cX11_byteAt 28 = .ok (.ireturn, 1) := by decide +kernel
theorem dX11_byteAt_4 : decode cX11_byteAt 4 = .ok (.iload_n 1, 1) := by decide +kernel
theorem dX11_byteAt_5 : decode cX11_byteAt 5 = .ok (.aload_n 0, 1) := by decide +kernel
theorem dX11_byteAt_6 : decode cX11_byteAt 6 = .ok (.getfield 57, 3) := by decide +kernel
theorem dX11_byteAt_9 : decode cX11_byteAt 9 = .ok (.getfield 291, 3) := by decide +kernel
theorem N351 : Cond.fieldLinkNest "HookedCity" 291 "HookedCity$Label" "length" "I" "HookedCity" ∈ lw_tbl := List.mem_of_getElem? (i := 351) (by decide +kernel)
theorem dX11_byteAt_12 : decode cX11_byteAt 12 = .ok (.if_icmp .ge 15, 3) := by decide +kernel
theorem dX12_byteAt_0 : decode cX12_byteAt 0 = .ok (.aload_n 0, 1) := by decide +kernel
theorem dX12_byteAt_1 : decode cX12_byteAt 1 = .ok (.iconst 0, 1) := by decide +kernel
theorem dX12_byteAt_2 : decode cX12_byteAt 2 = .ok (.putfield 1, 3) := by decide +kernel
theorem dX12_byteAt_5 : decode cX12_byteAt 5 = .ok (.iload_n 1, 1) := by decide +kernel
theorem dX12_byteAt_6 : decode cX12_byteAt 6 = .ok (.iconst 0, 1) := by decide +kernel
theorem dX12_byteAt_7 : decode cX12_byteAt 7 = .ok (.aload_n 0, 1) := by decide +kernel
theorem dX12_byteAt_8 : decode cX12_byteAt 8 = .ok (.getfield 338, 3) := by decide +kernel
theorem G1506 : Cond.fieldLink "HookedCityModel" 338 "HookedCityModel" "texts" "I" ∈ GW := gw_i 1506 (by decide +kernel) rfl
theorem dX12_byteAt_11 : decode cX12_byteAt 11 = .ok (.iconst 1, 1) := by decide +kernel
theorem dX12_byteAt_12 : decode cX12_byteAt 12 = .ok (.isub, 1) := by decide +kernel
theorem dX12_byteAt_13 : decode cX12_byteAt 13 = .ok (.invokestatic 75, 3) := by decide +kernel
theorem dX12_byteAt_16 : decode cX12_byteAt 16 = .ok (.ifCond .eq 12, 3) := by decide +kernel
theorem dX12_byteAt_28 : decode cX12_byteAt 28 = .ok (.iconst (-1), 1) := by decide +kernel
theorem dX12_byteAt_29 : decode cX12_byteAt 29 = .ok (.ireturn, 1) := by decide +kernel
theorem dX11_drawn_0 : decode cX11_drawn 0 = .ok (.iload_n 1, 1) := by decide +kernel
theorem dX11_drawn_1 : decode cX11_drawn 1 = .ok (.iconst 1, 1) := by decide +kernel
theorem dX11_drawn_2 : decode cX11_drawn 2 = .ok (.if_icmp .lt 19, 3) := by decide +kernel
theorem dX11_drawn_21 : decode cX11_drawn 21 = .ok (.iconst (-1), 1) := by decide +kernel
theorem dX11_drawn_22 : decode cX11_drawn 22 = .ok (.ireturn, 1) := by decide +kernel
theorem dX11_drawn_5 : decode cX11_drawn 5 = .ok (.iload_n 1, 1) := by decide +kernel
theorem dX11_drawn_6 : decode cX11_drawn 6 = .ok (.bipush 60, 2) := by decide +kernel
theorem dX11_drawn_8 : decode cX11_drawn 8 = .ok (.if_icmp .gt 13, 3) := by decide +kernel
theorem dX11_drawn_11 : decode cX11_drawn 11 = .ok (.aload_n 0, 1) := by decide +kernel
theorem dX11_drawn_12 : decode cX11_drawn 12 = .ok (.getfield 74, 3) := by decide +kernel
theorem dX11_drawn_15 : decode cX11_drawn 15 = .ok (.getfield 295, 3) := by decide +kernel
theorem dX11_drawn_18 : decode cX11_drawn 18 = .ok (.ifCond .ne 5, 3) := by decide +kernel
theorem dX12_isIn_10 : decode cX12_isIn 10 = .ok (.iconst 1, 1) := by decide +kernel
theorem dX12_isIn_11 : decode cX12_isIn 11 = .ok (.goto 4, 3) := by decide +kernel
theorem dX12_drawn_0 : decode cX12_drawn 0 = .ok (.aload_n 0, 1) := by decide +kernel
theorem dX12_drawn_1 : decode cX12_drawn 1 = .ok (.iconst 0, 1) := by decide +kernel
theorem dX12_drawn_2 : decode cX12_drawn 2 = .ok (.putfield 1, 3) := by decide +kernel
theorem dX12_drawn_5 : decode cX12_drawn 5 = .ok (.iload_n 1, 1) := by decide +kernel
theorem dX12_drawn_6 : decode cX12_drawn 6 = .ok (.iconst 1, 1) := by decide +kernel
theorem dX12_drawn_7 : decode cX12_drawn 7 = .ok (.bipush 60, 2) := by decide +kernel
theorem dX12_drawn_9 : decode cX12_drawn 9 = .ok (.invokestatic 75, 3) := by decide +kernel
theorem dX12_drawn_12 : decode cX12_drawn 12 = .ok (.ifCond .eq 12, 3) := by decide +kernel
theorem dX12_drawn_24 : decode cX12_drawn 24 = .ok (.iconst (-1), 1) := by decide +kernel
theorem dX12_drawn_25 : decode cX12_drawn 25 = .ok (.ireturn, 1) := by decide +kernel
theorem dX12_drawn_15 : decode cX12_drawn 15 = .ok (.aload_n 0, 1) := by decide +kernel
theorem dX12_drawn_16 : decode cX12_drawn 16 = .ok (.getfield 98, 3) := by decide +kernel
theorem dX12_drawn_19 : decode cX12_drawn 19 = .ok (.iconst 1, 1) := by decide +kernel
theorem dX12_drawn_20 : decode cX12_drawn 20 = .ok (.iaload, 1) := by decide +kernel
theorem dX12_drawn_21 : decode cX12_drawn 21 = .ok (.ifCond .ne 5, 3) := by decide +kernel
theorem dX11_odds_0 : decode cX11_odds 0 = .ok (.aload_n 0, 1) := by decide +kernel
theorem dX11_odds_1 : decode cX11_odds 1 = .ok (.iload_n 1, 1) := by decide +kernel
theorem dX11_odds_2 : decode cX11_odds 2 = .ok (.invokevirtual 134, 3) := by decide +kernel
theorem dX11_odds_5 : decode cX11_odds 5 = .ok (.ifCond .eq 24, 3) := by decide +kernel
theorem dX11_odds_29 : decode cX11_odds 29 = .ok (.iconst (-1), 1) := by decide +kernel
theorem dX11_odds_30 : decode cX11_odds 30 = .ok (.ireturn, 1) := by decide +kernel
theorem dX12_odds_0 : decode cX12_odds 0 = .ok (.aload_n 0, 1) := by decide +kernel
theorem dX12_odds_1 : decode cX12_odds 1 = .ok (.iconst 0, 1) := by decide +kernel
theorem dX12_odds_2 : decode cX12_odds 2 = .ok (.putfield 1, 3) := by decide +kernel
theorem dX12_odds_5 : decode cX12_odds 5 = .ok (.aload_n 0, 1) := by decide +kernel
theorem dX12_odds_6 : decode cX12_odds 6 = .ok (.iload_n 1, 1) := by decide +kernel
theorem dX12_odds_7 : decode cX12_odds 7 = .ok (.invokevirtual 240, 3) := by decide +kernel
theorem dX12_odds_10 : decode cX12_odds 10 = .ok (.ifCond .eq 22, 3) := by decide +kernel
theorem dX12_odds_32 : decode cX12_odds 32 = .ok (.iconst (-1), 1) := by decide +kernel
theorem dX12_odds_33 : decode cX12_odds 33 = .ok (.ireturn, 1) := by decide +kernel
set_option maxRecDepth 100000 in
set_option maxHeartbeats 4000000 in
theorem c96_X6_isAsTold (l : Launch) (D : va_G) (T : Nat → ClassId) (sz : Nat) (a0 a1 : Nat) : Met l yX6_isAsTold (Cond.code yX6_isAsTold cX6_isAsTold 4 (some .boolean) :: GW) (Rm 0 0 0) (cPre [.ref a0, .int 0] D T [(a0, .inr (8, [.ref a1, .int 0, .int 0, .int 0, .int 0, .int 0, .null, .long 0, .int 0, .int 0, .int 0, .int 0]))] sz) (qI D [(a0, .inr (8, [.ref a1, .int 0, .int 0, .int 0, .int 0, .int 0, .null, .long 0, .int 0, .int 0, .int 0, .int 0]))] sz (fun (v : Int32) (u : Unit) => (0 : Int32) = v) (fun u => [(a0, .inr (8, [.ref a1, .int 0, .int 0, .int 0, .int 0, .int 0, .null, .long 0, .int 0, .int 0, .int 0, .int 0]))])) 0 0 (va_A [(a0, .inr (8, [.ref a1, .int 0, .int 0, .int 0, .int 0, .int 0, .null, .long 0, .int 0, .int 0, .int 0, .int 0]))] sz) := by
  refine e_Z (by decide) (Nat.le_of_ble_eq_true rfl) ?_
  intro p e s m args below meth c A Q ls M hin w ret hl
  have hx := M.1.1
  have hb := M.1.2.1
  have hl : lv_has ls 4 [(0, .ref a0), (1, .int 0)] := hl
  refine lv_aload_n hx hb dX6_isAsTold_0 rfl (lv_at hl 0 rfl) ?_
  refine r_getN (v := .int 0) M w 0 1 clX8 rfl (by decide) N163 rfl rfl dX6_isAsTold_1 ?_
  refine lv_iconst (v := 2) hx hb dX6_isAsTold_4 (by decide) ?_
  refine lv_icmp_lt (tgt := 26) hx hb dX6_isAsTold_5 (by decide) (fun _ => ?_) (fun c => absurd (by decide +kernel) c)
  refine lv_iconst (v := 0) hx hb dX6_isAsTold_26 (by decide) ?_
  exact ret _ () _ _ _ _ _ [0] dX6_isAsTold_27 (by decide +kernel) rfl w (by decide) rfl
set_option maxRecDepth 100000 in
set_option maxHeartbeats 4000000 in
theorem c97_X6_judge (l : Launch) (D : va_G) (T : Nat → ClassId) (sz : Nat) (a0 a1 a2 : Nat) : Met l yX6_judge (Cond.code yX6_judge cX6_judge 5 (some .int) :: GW) (Rm 1 0 0) (cPre [.ref a0, .ref a1, .int 0] D T [(a1, .inr (8, [.ref a2, .int 0, .int 0, .int 0, .int 0, .int 0, .null, .long 0, .int 0, .int 0, .int 0, .int 0]))] sz) (qI D [(a1, .inr (8, [.ref a2, .int 0, .int 0, .int 0, .int 0, .int 0, .null, .long 0, .int 0, .int 0, .int 0, .int 0]))] sz (fun (v : Int32) (u : Unit) => (-1 : Int32) = v) (fun u => [(a1, .inr (8, [.ref a2, .int 0, .int 0, .int 0, .int 0, .int 0, .null, .long 0, .int 0, .int 0, .int 0, .int 0]))])) 0 0 (va_A [(a1, .inr (8, [.ref a2, .int 0, .int 0, .int 0, .int 0, .int 0, .null, .long 0, .int 0, .int 0, .int 0, .int 0]))] sz) := by
  refine e_I (by decide) (Nat.le_of_ble_eq_true rfl) ?_
  intro p e s m args below meth c A Q ls M hin w ret hl
  have hx := M.1.1
  have hb := M.1.2.1
  have hl : lv_has ls 5 [(0, .ref a0), (1, .ref a1), (2, .int 0)] := hl
  refine lv_aload_n hx hb dX6_judge_0 rfl (lv_at hl 1 rfl) ?_
  refine lv_iload_n hx hb dX6_judge_1 rfl (lv_at hl 2 rfl) ?_
  refine k_I (ce := 0) (sl := 0) (rest := []) (wr := []) (r_S (f := 0) [0] M w V_HookedCity_Slipped_18 G1004 (c96_X6_isAsTold l D T _ a1 a2) rfl (by decide) rfl hl.1 rfl (Nat.le_of_ble_eq_true rfl) dX6_judge_2 (by decide) (by decide) (by decide) (by decide)) w [0] [] rfl rfl (by decide) (by decide) rfl rfl (fun v _ H locs hp w => ?_)
  have hp : (0 : Int32) = v := hp
  subst hp
  have w : WD D A s.heap [(a1, .inr (8, [.ref a2, .int 0, .int 0, .int 0, .int 0, .int 0, .null, .long 0, .int 0, .int 0, .int 0, .int 0]))] H locs := w
  refine lv_if_ne (tgt := 10) hx hb dX6_judge_5 (by decide) (fun c => absurd (by decide +kernel) c) (fun _ => ?_)
  refine lv_iconst (v := (-1)) hx hb dX6_judge_8 (by decide) ?_
  exact ret _ () _ _ _ _ _ [0] dX6_judge_9 rfl w (by decide) rfl
set_option maxRecDepth 100000 in
set_option maxHeartbeats 4000000 in
theorem c98_X8_empty (l : Launch) (D : va_G) (T : Nat → ClassId) (sz : Nat) (a0 a1 : Nat) : Met l yX8_empty (Cond.code yX8_empty cX8_empty 1 none :: GW) (Rm 0 0 0) (cPre [.ref a0] D T [(a0, .inr (8, [.ref a1, .int 0, .int 0, .int 0, .int 0, .int 0, .null, .long 0, .int 0, .int 0, .int 0, .int 0]))] sz) (qV D [(a0, .inr (8, [.ref a1, .int 0, .int 0, .int 0, .int 0, .int 0, .null, .long 0, .int 0, .int 0, .int 0, .int 0]))] sz (fun (u : Unit) => True) (fun u => [(a0, .inr (8, [.ref a1, .int 0, .int 0, .int 0, .int 0, .int 0, .null, .long 0, .int 0, .int 0, .int 0, .int 0]))])) 0 0 (va_A [(a0, .inr (8, [.ref a1, .int 0, .int 0, .int 0, .int 0, .int 0, .null, .long 0, .int 0, .int 0, .int 0, .int 0]))] sz) := by
  refine e_V (by decide) (Nat.le_of_ble_eq_true rfl) ?_
  intro p e s m args below meth c A Q ls M hin w ret hl
  have hx := M.1.1
  have hb := M.1.2.1
  have hl : lv_has ls 1 [(0, .ref a0)] := hl
  refine lv_aload_n hx hb dX8_empty_0 rfl (lv_at hl 0 rfl) ?_
  refine lv_iconst (v := 0) hx hb dX8_empty_1 (by decide) ?_
  refine r_put (ws' := [(a0, .inr (8, [.ref a1, .int 0, .int 0, .int 0, .int 0, .int 0, .null, .long 0, .int 0, .int 0, .int 0, .int 0]))]) M w 0 1 clX8 rfl (by decide) G162 rfl rfl rfl rfl (Nat.le_of_ble_eq_true rfl) rfl dX8_empty_2 (fun H locs w => ?_)
  exact ret () _ _ _ _ _ [0] dX8_empty_5 trivial w (by decide) rfl
set_option maxRecDepth 100000 in
set_option maxHeartbeats 4000000 in
theorem c99_X11_slips (l : Launch) (D : va_G) (T : Nat → ClassId) (sz : Nat) (a0 a1 a2 a3 a4 a5 a6 a7 a8 a9 a10 a11 a12 a13 a14 a15 a16 a17 a18 a19 a20 a21 a22 a23 a24 : Nat) : Met l yX11_slips (Cond.code yX11_slips cX11_slips 2 (some .int) :: GW) (Rm 2 0 0) (cPre [.ref a0] D T [(a0, .inr (10, [.ref a1, .ref a2, .ref a3, .ref a4, .ref a5, .ref a6, .ref a7, .ref a8, .ref a9, .ref a10, .ref a11, .ref a12, .ref a13, .ref a14, .int 0, .int 0, .int 0])), (a1, .inr (8, [.ref a15, .int 0, .int 0, .int 0, .int 0, .int 0, .null, .long 0, .int 0, .int 0, .int 0, .int 0])), (a6, .inr (6, [.int (-1), .int (-1)])), (a11, .inr (9, [.ref a16, .ref a17, .ref a18, .ref a19, .ref a20, .ref a21, .ref a22, .ref a23, .ref a24, .int 0, .int 0, .int 0, .int 0, .int 12, .int 1, .int 0, .int 0, .int 0]))] sz) (qI D [(a0, .inr (10, [.ref a1, .ref a2, .ref a3, .ref a4, .ref a5, .ref a6, .ref a7, .ref a8, .ref a9, .ref a10, .ref a11, .ref a12, .ref a13, .ref a14, .int 0, .int 0, .int 0])), (a1, .inr (8, [.ref a15, .int 0, .int 0, .int 0, .int 0, .int 0, .null, .long 0, .int 0, .int 0, .int 0, .int 0])), (a6, .inr (6, [.int (-1), .int (-1)])), (a11, .inr (9, [.ref a16, .ref a17, .ref a18, .ref a19, .ref a20, .ref a21, .ref a22, .ref a23, .ref a24, .int 0, .int 0, .int 0, .int 0, .int 12, .int 1, .int 0, .int 0, .int 0]))] sz (fun (v : Int32) (u : Unit) => (-1 : Int32) = v) (fun u => [])) 0 0 (va_A [(a0, .inr (10, [.ref a1, .ref a2, .ref a3, .ref a4, .ref a5, .ref a6, .ref a7, .ref a8, .ref a9, .ref a10, .ref a11, .ref a12, .ref a13, .ref a14, .int 0, .int 0, .int 0])), (a1, .inr (8, [.ref a15, .int 0, .int 0, .int 0, .int 0, .int 0, .null, .long 0, .int 0, .int 0, .int 0, .int 0])), (a6, .inr (6, [.int (-1), .int (-1)])), (a11, .inr (9, [.ref a16, .ref a17, .ref a18, .ref a19, .ref a20, .ref a21, .ref a22, .ref a23, .ref a24, .int 0, .int 0, .int 0, .int 0, .int 12, .int 1, .int 0, .int 0, .int 0]))] sz) := by
  refine e_I (by decide) (Nat.le_of_ble_eq_true rfl) ?_
  intro p e s m args below meth c A Q ls M hin w ret hl
  have hx := M.1.1
  have hb := M.1.2.1
  have hl : lv_has ls 2 [(0, .ref a0)] := hl
  refine lv_aload_n hx hb dX11_slips_0 rfl (lv_at hl 0 rfl) ?_
  refine r_get (v := .ref a6) M w 0 5 clX11 rfl (by decide) G502 rfl rfl dX11_slips_1 ?_
  refine lv_aload_n hx hb dX11_slips_4 rfl (lv_at hl 0 rfl) ?_
  refine r_get (v := .ref a1) M w 0 0 clX11 rfl (by decide) G497 rfl rfl dX11_slips_5 ?_
  refine lv_aload_n hx hb dX11_slips_8 rfl (lv_at hl 0 rfl) ?_
  refine r_get (v := .ref a11) M w 0 10 clX11 rfl (by decide) G507 rfl rfl dX11_slips_9 ?_
  refine r_getN (v := .int 0) M w 3 9 clX9 rfl (by decide) N392 rfl rfl dX11_slips_12 ?_
  refine k_I (ce := 0) (sl := 0) (rest := []) (wr := [(a0, .inr (10, [.ref a1, .ref a2, .ref a3, .ref a4, .ref a5, .ref a6, .ref a7, .ref a8, .ref a9, .ref a10, .ref a11, .ref a12, .ref a13, .ref a14, .int 0, .int 0, .int 0])), (a6, .inr (6, [.int (-1), .int (-1)])), (a11, .inr (9, [.ref a16, .ref a17, .ref a18, .ref a19, .ref a20, .ref a21, .ref a22, .ref a23, .ref a24, .int 0, .int 0, .int 0, .int 0, .int 12, .int 1, .int 0, .int 0, .int 0]))]) (r_V (f := 1) [1] M w V_HookedCity_260 G1000 G1001 (c97_X6_judge l D T _ a6 a1 a15) 2 clX6 rfl rfl (by decide) rfl hl.1 rfl (Nat.le_of_ble_eq_true rfl) dX11_slips_15 (by decide) (by decide) (by decide) (by decide)) w [1] [0, 2, 3] rfl rfl (by decide) (by decide) rfl rfl (fun v _ H locs hp w => ?_)
  have hp : (-1 : Int32) = v := hp
  subst hp
  have w : WD D A s.heap [(a0, .inr (10, [.ref a1, .ref a2, .ref a3, .ref a4, .ref a5, .ref a6, .ref a7, .ref a8, .ref a9, .ref a10, .ref a11, .ref a12, .ref a13, .ref a14, .int 0, .int 0, .int 0])), (a6, .inr (6, [.int (-1), .int (-1)])), (a11, .inr (9, [.ref a16, .ref a17, .ref a18, .ref a19, .ref a20, .ref a21, .ref a22, .ref a23, .ref a24, .int 0, .int 0, .int 0, .int 0, .int 12, .int 1, .int 0, .int 0, .int 0])), (a1, .inr (8, [.ref a15, .int 0, .int 0, .int 0, .int 0, .int 0, .null, .long 0, .int 0, .int 0, .int 0, .int 0]))] H locs := w
  refine lv_istore_n (lv' := [(1, .int (-1)), (0, .ref a0)]) hx hb dX11_slips_18 rfl hl (by decide) rfl (fun ls hl => ?_)
  refine lv_aload_n hx hb dX11_slips_19 rfl (lv_at hl 1 rfl) ?_
  refine r_get (v := .ref a1) M w 0 0 clX11 rfl (by decide) G497 rfl rfl dX11_slips_20 ?_
  refine k_V (ce := 0) (sl := 0) (rest := []) (wr := [(a0, .inr (10, [.ref a1, .ref a2, .ref a3, .ref a4, .ref a5, .ref a6, .ref a7, .ref a8, .ref a9, .ref a10, .ref a11, .ref a12, .ref a13, .ref a14, .int 0, .int 0, .int 0])), (a6, .inr (6, [.int (-1), .int (-1)])), (a11, .inr (9, [.ref a16, .ref a17, .ref a18, .ref a19, .ref a20, .ref a21, .ref a22, .ref a23, .ref a24, .int 0, .int 0, .int 0, .int 0, .int 12, .int 1, .int 0, .int 0, .int 0]))]) (r_V (f := 0) [3] M w V_HookedCity_115 G787 G788 (c98_X8_empty l D T _ a1 a15) 3 clX8 rfl rfl (by decide) rfl hl.1 rfl (Nat.le_of_ble_eq_true rfl) dX11_slips_23 (by decide) (by decide) (by decide) (by decide)) w [3] [0, 1, 2] rfl rfl (by decide) (by decide) rfl rfl (fun _ H locs hp w => ?_)
  have w : WD D A s.heap [(a0, .inr (10, [.ref a1, .ref a2, .ref a3, .ref a4, .ref a5, .ref a6, .ref a7, .ref a8, .ref a9, .ref a10, .ref a11, .ref a12, .ref a13, .ref a14, .int 0, .int 0, .int 0])), (a6, .inr (6, [.int (-1), .int (-1)])), (a11, .inr (9, [.ref a16, .ref a17, .ref a18, .ref a19, .ref a20, .ref a21, .ref a22, .ref a23, .ref a24, .int 0, .int 0, .int 0, .int 0, .int 12, .int 1, .int 0, .int 0, .int 0])), (a1, .inr (8, [.ref a15, .int 0, .int 0, .int 0, .int 0, .int 0, .null, .long 0, .int 0, .int 0, .int 0, .int 0]))] H locs := w
  refine lv_iload_n hx hb dX11_slips_26 rfl (lv_at hl 0 rfl) ?_
  exact ret _ () _ _ _ _ _ [] dX11_slips_27 rfl w (by decide) rfl
set_option maxRecDepth 100000 in
set_option maxHeartbeats 4000000 in
theorem c100_X12_isIn (l : Launch) (D : va_G) (T : Nat → ClassId) (sz : Nat) : Met l yX12_isIn (Cond.code yX12_isIn cX12_isIn 3 (some .boolean) :: GW) (Rm 0 0 0) (cPre [.int 0, .int 1, .int 8] D T [] sz) (qI D [] sz (fun (v : Int32) (u : Unit) => (0 : Int32) = v) (fun u => [])) 0 0 (va_A [] sz) := by
  refine e_Z (by decide) (Nat.le_of_ble_eq_true rfl) ?_
  intro p e s m args below meth c A Q ls M hin w ret hl
  have hx := M.1.1
  have hb := M.1.2.1
  have hl : lv_has ls 3 [(0, .int 0), (1, .int 1), (2, .int 8)] := hl
  refine lv_iload_n hx hb dX12_isIn_0 rfl (lv_at hl 0 rfl) ?_
  refine lv_iload_n hx hb dX12_isIn_1 rfl (lv_at hl 1 rfl) ?_
  refine lv_icmp_lt (tgt := 14) hx hb dX12_isIn_2 (by decide) (fun _ => ?_) (fun c => absurd (by decide +kernel) c)
  refine lv_iconst (v := 0) hx hb dX12_isIn_14 (by decide) ?_
  exact ret _ () _ _ _ _ _ [] dX12_isIn_15 (by decide +kernel) rfl w (by decide) rfl
set_option maxRecDepth 100000 in
set_option maxHeartbeats 4000000 in
theorem c101_X12_slips (l : Launch) (D : va_G) (T : Nat → ClassId) (sz : Nat) (a0 a1 a2 a3 a4 a5 a6 a7 a8 a9 a10 a11 a12 a13 a14 a15 a16 a17 a18 a19 a20 a21 a22 : Nat) : Met l yX12_slips (Cond.code yX12_slips cX12_slips 6 (some .int) :: GW) (Rm 1 0 0) (cPre [.ref a0] D T [(a0, .inr (11, [.int 0, .ref a1, .int 0, .int 0, .int 0, .int 0, .int 0, .int 0, .int 0, .int 0, .int 0, .int 0, .long 0, .int 0, .ref a2, .ref a3, .ref a4, .ref a5, .ref a6, .ref a7, .ref a8, .ref a9, .ref a10, .ref a11, .int 0, .ref a12, .ref a13, .ref a14, .ref a15, .int 0, .int 0, .int 0, .ref a16, .int (-1), .int (-1), .ref a17, .ref a18, .int 0, .ref a19, .int 0, .int 0, .ref a20, .ref a21, .int 0, .int 0, .ref a22, .int 0, .int 0, .int 0, .int 0]))] sz) (qI D [(a0, .inr (11, [.int 0, .ref a1, .int 0, .int 0, .int 0, .int 0, .int 0, .int 0, .int 0, .int 0, .int 0, .int 0, .long 0, .int 0, .ref a2, .ref a3, .ref a4, .ref a5, .ref a6, .ref a7, .ref a8, .ref a9, .ref a10, .ref a11, .int 0, .ref a12, .ref a13, .ref a14, .ref a15, .int 0, .int 0, .int 0, .ref a16, .int (-1), .int (-1), .ref a17, .ref a18, .int 0, .ref a19, .int 0, .int 0, .ref a20, .ref a21, .int 0, .int 0, .ref a22, .int 0, .int 0, .int 0, .int 0]))] sz (fun (v : Int32) (u : Unit) => (-1 : Int32) = v) (fun u => [])) 0 0 (va_A [(a0, .inr (11, [.int 0, .ref a1, .int 0, .int 0, .int 0, .int 0, .int 0, .int 0, .int 0, .int 0, .int 0, .int 0, .long 0, .int 0, .ref a2, .ref a3, .ref a4, .ref a5, .ref a6, .ref a7, .ref a8, .ref a9, .ref a10, .ref a11, .int 0, .ref a12, .ref a13, .ref a14, .ref a15, .int 0, .int 0, .int 0, .ref a16, .int (-1), .int (-1), .ref a17, .ref a18, .int 0, .ref a19, .int 0, .int 0, .ref a20, .ref a21, .int 0, .int 0, .ref a22, .int 0, .int 0, .int 0, .int 0]))] sz) := by
  refine e_I (by decide) (Nat.le_of_ble_eq_true rfl) ?_
  intro p e s m args below meth c A Q ls M hin w ret hl
  have hx := M.1.1
  have hb := M.1.2.1
  have hl : lv_has ls 6 [(0, .ref a0)] := hl
  refine lv_aload_n hx hb dX12_slips_0 rfl (lv_at hl 0 rfl) ?_
  refine lv_iconst (v := 0) hx hb dX12_slips_1 (by decide) ?_
  refine r_put (ws' := [(a0, .inr (11, [.int 0, .ref a1, .int 0, .int 0, .int 0, .int 0, .int 0, .int 0, .int 0, .int 0, .int 0, .int 0, .long 0, .int 0, .ref a2, .ref a3, .ref a4, .ref a5, .ref a6, .ref a7, .ref a8, .ref a9, .ref a10, .ref a11, .int 0, .ref a12, .ref a13, .ref a14, .ref a15, .int 0, .int 0, .int 0, .ref a16, .int (-1), .int (-1), .ref a17, .ref a18, .int 0, .ref a19, .int 0, .int 0, .ref a20, .ref a21, .int 0, .int 0, .ref a22, .int 0, .int 0, .int 0, .int 0]))]) M w 0 0 clX12 rfl (by decide) G1467 rfl rfl rfl rfl (Nat.le_of_ble_eq_true rfl) rfl dX12_slips_2 (fun H locs w => ?_)
  refine lv_aload_n hx hb dX12_slips_5 rfl (lv_at hl 0 rfl) ?_
  refine k_I (ce := 0) (sl := 0) (rest := []) (wr := []) (r_V (f := 0) [0] M w V_HookedCityModel_89 G1629 G48 (c43_X12_take l D T _ a0 a1 a2 a3 a4 a5 a6 a7 a8 a9 a10 a11 a12 a13 a14 a15 a16 a17 a18 a19 a20 a21 a22) 0 clX12 rfl rfl (by decide) rfl hl.1 rfl (Nat.le_of_ble_eq_true rfl) dX12_slips_6 (by decide) (by decide) (by decide) (by decide)) w [0] [] rfl rfl (by decide) (by decide) rfl rfl (fun v _ H locs hp w => ?_)
  have hp : (0 : Int32) = v := hp
  subst hp
  have w : WD D A s.heap [(a0, .inr (11, [.int 0, .ref a1, .int 0, .int 0, .int 0, .int 0, .int 0, .int 0, .int 0, .int 0, .int 0, .int 0, .long 0, .int 0, .ref a2, .ref a3, .ref a4, .ref a5, .ref a6, .ref a7, .ref a8, .ref a9, .ref a10, .ref a11, .int 0, .ref a12, .ref a13, .ref a14, .ref a15, .int 0, .int 0, .int 0, .ref a16, .int (-1), .int (-1), .ref a17, .ref a18, .int 0, .ref a19, .int 0, .int 0, .ref a20, .ref a21, .int 0, .int 0, .ref a22, .int 0, .int 0, .int 0, .int 0]))] H locs := w
  refine lv_istore_n (lv' := [(1, .int 0), (0, .ref a0)]) hx hb dX12_slips_9 rfl hl (by decide) rfl (fun ls hl => ?_)
  refine lv_iload_n hx hb dX12_slips_10 rfl (lv_at hl 0 rfl) ?_
  refine lv_iconst (v := 2) hx hb dX12_slips_11 (by decide) ?_
  refine r_irem (v := (0 : Int32)) M (by decide +kernel) (by decide) dX12_slips_12 ?_
  refine lv_if_ne (tgt := 28) hx hb dX12_slips_13 (by decide) (fun c => absurd (by decide +kernel) c) (fun _ => ?_)
  refine lv_iload_n hx hb dX12_slips_16 rfl (lv_at hl 0 rfl) ?_
  refine lv_iconst (v := 2) hx hb dX12_slips_17 (by decide) ?_
  refine r_idiv (v := (0 : Int32)) M (by decide +kernel) (by decide) dX12_slips_18 ?_
  refine lv_iconst (v := 1) hx hb dX12_slips_19 (by decide) ?_
  refine lv_bipush (v := 8) hx hb dX12_slips_20 (by decide) ?_
  refine k_I (ce := 0) (sl := 0) (rest := []) (wr := [(a0, .inr (11, [.int 0, .ref a1, .int 0, .int 0, .int 0, .int 0, .int 0, .int 0, .int 0, .int 0, .int 0, .int 0, .long 0, .int 0, .ref a2, .ref a3, .ref a4, .ref a5, .ref a6, .ref a7, .ref a8, .ref a9, .ref a10, .ref a11, .int 0, .ref a12, .ref a13, .ref a14, .ref a15, .int 0, .int 0, .int 0, .ref a16, .int (-1), .int (-1), .ref a17, .ref a18, .int 0, .ref a19, .int 0, .int 0, .ref a20, .ref a21, .int 0, .int 0, .ref a22, .int 0, .int 0, .int 0, .int 0]))]) (r_S (f := 0) [] M w V_HookedCityModel_75 G1697 (c100_X12_isIn l D T _) rfl (by decide) rfl hl.1 rfl (Nat.le_of_ble_eq_true rfl) dX12_slips_22 (by decide) (by decide) (by decide) (by decide)) w [] [0] rfl rfl (by decide) (by decide) rfl rfl (fun v _ H locs hp w => ?_)
  have hp : (0 : Int32) = v := hp
  subst hp
  have w : WD D A s.heap [(a0, .inr (11, [.int 0, .ref a1, .int 0, .int 0, .int 0, .int 0, .int 0, .int 0, .int 0, .int 0, .int 0, .int 0, .long 0, .int 0, .ref a2, .ref a3, .ref a4, .ref a5, .ref a6, .ref a7, .ref a8, .ref a9, .ref a10, .ref a11, .int 0, .ref a12, .ref a13, .ref a14, .ref a15, .int 0, .int 0, .int 0, .ref a16, .int (-1), .int (-1), .ref a17, .ref a18, .int 0, .ref a19, .int 0, .int 0, .ref a20, .ref a21, .int 0, .int 0, .ref a22, .int 0, .int 0, .int 0, .int 0]))] H locs := w
  refine lv_if_ne (tgt := 30) hx hb dX12_slips_25 (by decide) (fun c => absurd (by decide +kernel) c) (fun _ => ?_)
  refine lv_iconst (v := (-1)) hx hb dX12_slips_28 (by decide) ?_
  exact ret _ () _ _ _ _ _ [] dX12_slips_29 rfl w (by decide) rfl
set_option maxRecDepth 100000 in
set_option maxHeartbeats 4000000 in
theorem c102_X11_slipLeast (l : Launch) (D : va_G) (T : Nat → ClassId) (sz : Nat) (a0 a1 a2 a3 a4 a5 a6 a7 a8 a9 a10 a11 a12 a13 a14 : Nat) : Met l yX11_slipLeast (Cond.code yX11_slipLeast cX11_slipLeast 1 (some .int) :: GW) (Rm 0 0 0) (cPre [.ref a0] D T [(a0, .inr (10, [.ref a1, .ref a2, .ref a3, .ref a4, .ref a5, .ref a6, .ref a7, .ref a8, .ref a9, .ref a10, .ref a11, .ref a12, .ref a13, .ref a14, .int 0, .int 0, .int 0])), (a6, .inr (6, [.int (-1), .int (-1)]))] sz) (qI D [(a0, .inr (10, [.ref a1, .ref a2, .ref a3, .ref a4, .ref a5, .ref a6, .ref a7, .ref a8, .ref a9, .ref a10, .ref a11, .ref a12, .ref a13, .ref a14, .int 0, .int 0, .int 0])), (a6, .inr (6, [.int (-1), .int (-1)]))] sz (fun (v : Int32) (u : Unit) => (-1 : Int32) = v) (fun u => [])) 0 0 (va_A [(a0, .inr (10, [.ref a1, .ref a2, .ref a3, .ref a4, .ref a5, .ref a6, .ref a7, .ref a8, .ref a9, .ref a10, .ref a11, .ref a12, .ref a13, .ref a14, .int 0, .int 0, .int 0])), (a6, .inr (6, [.int (-1), .int (-1)]))] sz) := by
  refine e_I (by decide) (Nat.le_of_ble_eq_true rfl) ?_
  intro p e s m args below meth c A Q ls M hin w ret hl
  have hx := M.1.1
  have hb := M.1.2.1
  have hl : lv_has ls 1 [(0, .ref a0)] := hl
  refine lv_aload_n hx hb dX11_slipLeast_0 rfl (lv_at hl 0 rfl) ?_
  refine r_get (v := .ref a6) M w 0 5 clX11 rfl (by decide) G502 rfl rfl dX11_slipLeast_1 ?_
  refine r_getN (v := .int (-1)) M w 1 0 clX6 rfl (by decide) N316 rfl rfl dX11_slipLeast_4 ?_
  exact ret _ () _ _ _ _ _ [] dX11_slipLeast_7 rfl w (by decide) rfl
set_option maxRecDepth 100000 in
set_option maxHeartbeats 4000000 in
theorem c103_X12_slipLeast (l : Launch) (D : va_G) (T : Nat → ClassId) (sz : Nat) (a0 a1 a2 a3 a4 a5 a6 a7 a8 a9 a10 a11 a12 a13 a14 a15 a16 a17 a18 a19 a20 a21 a22 : Nat) : Met l yX12_slipLeast (Cond.code yX12_slipLeast cX12_slipLeast 1 (some .int) :: GW) (Rm 0 0 0) (cPre [.ref a0] D T [(a0, .inr (11, [.int 0, .ref a1, .int 0, .int 0, .int 0, .int 0, .int 0, .int 0, .int 0, .int 0, .int 0, .int 0, .long 0, .int 0, .ref a2, .ref a3, .ref a4, .ref a5, .ref a6, .ref a7, .ref a8, .ref a9, .ref a10, .ref a11, .int 0, .ref a12, .ref a13, .ref a14, .ref a15, .int 0, .int 0, .int 0, .ref a16, .int (-1), .int (-1), .ref a17, .ref a18, .int 0, .ref a19, .int 0, .int 0, .ref a20, .ref a21, .int 0, .int 0, .ref a22, .int 0, .int 0, .int 0, .int 0]))] sz) (qI D [(a0, .inr (11, [.int 0, .ref a1, .int 0, .int 0, .int 0, .int 0, .int 0, .int 0, .int 0, .int 0, .int 0, .int 0, .long 0, .int 0, .ref a2, .ref a3, .ref a4, .ref a5, .ref a6, .ref a7, .ref a8, .ref a9, .ref a10, .ref a11, .int 0, .ref a12, .ref a13, .ref a14, .ref a15, .int 0, .int 0, .int 0, .ref a16, .int (-1), .int (-1), .ref a17, .ref a18, .int 0, .ref a19, .int 0, .int 0, .ref a20, .ref a21, .int 0, .int 0, .ref a22, .int 0, .int 0, .int 0, .int 0]))] sz (fun (v : Int32) (u : Unit) => (-1 : Int32) = v) (fun u => [])) 0 0 (va_A [(a0, .inr (11, [.int 0, .ref a1, .int 0, .int 0, .int 0, .int 0, .int 0, .int 0, .int 0, .int 0, .int 0, .int 0, .long 0, .int 0, .ref a2, .ref a3, .ref a4, .ref a5, .ref a6, .ref a7, .ref a8, .ref a9, .ref a10, .ref a11, .int 0, .ref a12, .ref a13, .ref a14, .ref a15, .int 0, .int 0, .int 0, .ref a16, .int (-1), .int (-1), .ref a17, .ref a18, .int 0, .ref a19, .int 0, .int 0, .ref a20, .ref a21, .int 0, .int 0, .ref a22, .int 0, .int 0, .int 0, .int 0]))] sz) := by
  refine e_I (by decide) (Nat.le_of_ble_eq_true rfl) ?_
  intro p e s m args below meth c A Q ls M hin w ret hl
  have hx := M.1.1
  have hb := M.1.2.1
  have hl : lv_has ls 1 [(0, .ref a0)] := hl
  refine lv_aload_n hx hb dX12_slipLeast_0 rfl (lv_at hl 0 rfl) ?_
  refine lv_iconst (v := 0) hx hb dX12_slipLeast_1 (by decide) ?_
  refine r_put (ws' := [(a0, .inr (11, [.int 0, .ref a1, .int 0, .int 0, .int 0, .int 0, .int 0, .int 0, .int 0, .int 0, .int 0, .int 0, .long 0, .int 0, .ref a2, .ref a3, .ref a4, .ref a5, .ref a6, .ref a7, .ref a8, .ref a9, .ref a10, .ref a11, .int 0, .ref a12, .ref a13, .ref a14, .ref a15, .int 0, .int 0, .int 0, .ref a16, .int (-1), .int (-1), .ref a17, .ref a18, .int 0, .ref a19, .int 0, .int 0, .ref a20, .ref a21, .int 0, .int 0, .ref a22, .int 0, .int 0, .int 0, .int 0]))]) M w 0 0 clX12 rfl (by decide) G1467 rfl rfl rfl rfl (Nat.le_of_ble_eq_true rfl) rfl dX12_slipLeast_2 (fun H locs w => ?_)
  refine lv_aload_n hx hb dX12_slipLeast_5 rfl (lv_at hl 0 rfl) ?_
  refine r_get (v := .int (-1)) M w 0 33 clX12 rfl (by decide) G1500 rfl rfl dX12_slipLeast_6 ?_
  exact ret _ () _ _ _ _ _ [] dX12_slipLeast_9 rfl w (by decide) rfl
set_option maxRecDepth 100000 in
set_option maxHeartbeats 4000000 in
theorem c104_X11_turn (l : Launch) (D : va_G) (T : Nat → ClassId) (sz : Nat) (a0 a1 a2 a3 a4 a5 a6 a7 a8 a9 a10 a11 a12 a13 a14 : Nat) : Met l yX11_turn (Cond.code yX11_turn cX11_turn 1 (some .int) :: GW) (Rm 0 0 0) (cPre [.ref a0] D T [(a0, .inr (10, [.ref a1, .ref a2, .ref a3, .ref a4, .ref a5, .ref a6, .ref a7, .ref a8, .ref a9, .ref a10, .ref a11, .ref a12, .ref a13, .ref a14, .int 0, .int 0, .int 0])), (a6, .inr (6, [.int (-1), .int (-1)]))] sz) (qI D [(a0, .inr (10, [.ref a1, .ref a2, .ref a3, .ref a4, .ref a5, .ref a6, .ref a7, .ref a8, .ref a9, .ref a10, .ref a11, .ref a12, .ref a13, .ref a14, .int 0, .int 0, .int 0])), (a6, .inr (6, [.int (-1), .int (-1)]))] sz (fun (v : Int32) (u : Unit) => (-1 : Int32) = v) (fun u => [])) 0 0 (va_A [(a0, .inr (10, [.ref a1, .ref a2, .ref a3, .ref a4, .ref a5, .ref a6, .ref a7, .ref a8, .ref a9, .ref a10, .ref a11, .ref a12, .ref a13, .ref a14, .int 0, .int 0, .int 0])), (a6, .inr (6, [.int (-1), .int (-1)]))] sz) := by
  refine e_I (by decide) (Nat.le_of_ble_eq_true rfl) ?_
  intro p e s m args below meth c A Q ls M hin w ret hl
  have hx := M.1.1
  have hb := M.1.2.1
  have hl : lv_has ls 1 [(0, .ref a0)] := hl
  refine lv_aload_n hx hb dX11_turn_0 rfl (lv_at hl 0 rfl) ?_
  refine r_get (v := .ref a6) M w 0 5 clX11 rfl (by decide) G502 rfl rfl dX11_turn_1 ?_
  refine r_getN (v := .int (-1)) M w 1 1 clX6 rfl (by decide) N318 rfl rfl dX11_turn_4 ?_
  exact ret _ () _ _ _ _ _ [] dX11_turn_7 rfl w (by decide) rfl
set_option maxRecDepth 100000 in
set_option maxHeartbeats 4000000 in
theorem c105_X12_turn (l : Launch) (D : va_G) (T : Nat → ClassId) (sz : Nat) (a0 a1 a2 a3 a4 a5 a6 a7 a8 a9 a10 a11 a12 a13 a14 a15 a16 a17 a18 a19 a20 a21 a22 : Nat) : Met l yX12_turn (Cond.code yX12_turn cX12_turn 1 (some .int) :: GW) (Rm 0 0 0) (cPre [.ref a0] D T [(a0, .inr (11, [.int 0, .ref a1, .int 0, .int 0, .int 0, .int 0, .int 0, .int 0, .int 0, .int 0, .int 0, .int 0, .long 0, .int 0, .ref a2, .ref a3, .ref a4, .ref a5, .ref a6, .ref a7, .ref a8, .ref a9, .ref a10, .ref a11, .int 0, .ref a12, .ref a13, .ref a14, .ref a15, .int 0, .int 0, .int 0, .ref a16, .int (-1), .int (-1), .ref a17, .ref a18, .int 0, .ref a19, .int 0, .int 0, .ref a20, .ref a21, .int 0, .int 0, .ref a22, .int 0, .int 0, .int 0, .int 0]))] sz) (qI D [(a0, .inr (11, [.int 0, .ref a1, .int 0, .int 0, .int 0, .int 0, .int 0, .int 0, .int 0, .int 0, .int 0, .int 0, .long 0, .int 0, .ref a2, .ref a3, .ref a4, .ref a5, .ref a6, .ref a7, .ref a8, .ref a9, .ref a10, .ref a11, .int 0, .ref a12, .ref a13, .ref a14, .ref a15, .int 0, .int 0, .int 0, .ref a16, .int (-1), .int (-1), .ref a17, .ref a18, .int 0, .ref a19, .int 0, .int 0, .ref a20, .ref a21, .int 0, .int 0, .ref a22, .int 0, .int 0, .int 0, .int 0]))] sz (fun (v : Int32) (u : Unit) => (-1 : Int32) = v) (fun u => [])) 0 0 (va_A [(a0, .inr (11, [.int 0, .ref a1, .int 0, .int 0, .int 0, .int 0, .int 0, .int 0, .int 0, .int 0, .int 0, .int 0, .long 0, .int 0, .ref a2, .ref a3, .ref a4, .ref a5, .ref a6, .ref a7, .ref a8, .ref a9, .ref a10, .ref a11, .int 0, .ref a12, .ref a13, .ref a14, .ref a15, .int 0, .int 0, .int 0, .ref a16, .int (-1), .int (-1), .ref a17, .ref a18, .int 0, .ref a19, .int 0, .int 0, .ref a20, .ref a21, .int 0, .int 0, .ref a22, .int 0, .int 0, .int 0, .int 0]))] sz) := by
  refine e_I (by decide) (Nat.le_of_ble_eq_true rfl) ?_
  intro p e s m args below meth c A Q ls M hin w ret hl
  have hx := M.1.1
  have hb := M.1.2.1
  have hl : lv_has ls 1 [(0, .ref a0)] := hl
  refine lv_aload_n hx hb dX12_turn_0 rfl (lv_at hl 0 rfl) ?_
  refine lv_iconst (v := 0) hx hb dX12_turn_1 (by decide) ?_
  refine r_put (ws' := [(a0, .inr (11, [.int 0, .ref a1, .int 0, .int 0, .int 0, .int 0, .int 0, .int 0, .int 0, .int 0, .int 0, .int 0, .long 0, .int 0, .ref a2, .ref a3, .ref a4, .ref a5, .ref a6, .ref a7, .ref a8, .ref a9, .ref a10, .ref a11, .int 0, .ref a12, .ref a13, .ref a14, .ref a15, .int 0, .int 0, .int 0, .ref a16, .int (-1), .int (-1), .ref a17, .ref a18, .int 0, .ref a19, .int 0, .int 0, .ref a20, .ref a21, .int 0, .int 0, .ref a22, .int 0, .int 0, .int 0, .int 0]))]) M w 0 0 clX12 rfl (by decide) G1467 rfl rfl rfl rfl (Nat.le_of_ble_eq_true rfl) rfl dX12_turn_2 (fun H locs w => ?_)
  refine lv_aload_n hx hb dX12_turn_5 rfl (lv_at hl 0 rfl) ?_
  refine r_get (v := .int (-1)) M w 0 34 clX12 rfl (by decide) G1501 rfl rfl dX12_turn_6 ?_
  exact ret _ () _ _ _ _ _ [] dX12_turn_9 rfl w (by decide) rfl
set_option maxRecDepth 100000 in
set_option maxHeartbeats 4000000 in
theorem c106_X11_way (l : Launch) (D : va_G) (T : Nat → ClassId) (sz : Nat) (a0 a1 a2 a3 a4 a5 a6 a7 a8 a9 a10 a11 a12 a13 a14 a15 a16 a17 a18 a19 a20 a21 a22 a23 : Nat) (x0 : Int32) (x1 : Int32) : Met l yX11_way (Cond.code yX11_way cX11_way 3 (some .int) :: GW) (Rm 1 0 0) (cPre [.ref a0, .int x0, .int x1] D T [(a0, .inr (10, [.ref a1, .ref a2, .ref a3, .ref a4, .ref a5, .ref a6, .ref a7, .ref a8, .ref a9, .ref a10, .ref a11, .ref a12, .ref a13, .ref a14, .int 0, .int 0, .int 0])), (a11, .inr (9, [.ref a15, .ref a16, .ref a17, .ref a18, .ref a19, .ref a20, .ref a21, .ref a22, .ref a23, .int 0, .int 0, .int 0, .int 0, .int 12, .int 1, .int 0, .int 0, .int 0]))] sz) (qI D [(a0, .inr (10, [.ref a1, .ref a2, .ref a3, .ref a4, .ref a5, .ref a6, .ref a7, .ref a8, .ref a9, .ref a10, .ref a11, .ref a12, .ref a13, .ref a14, .int 0, .int 0, .int 0])), (a11, .inr (9, [.ref a15, .ref a16, .ref a17, .ref a18, .ref a19, .ref a20, .ref a21, .ref a22, .ref a23, .int 0, .int 0, .int 0, .int 0, .int 12, .int 1, .int 0, .int 0, .int 0]))] sz (fun (v : Int32) (u : Unit) => (-1 : Int32) = v) (fun u => [])) 0 0 (va_A [(a0, .inr (10, [.ref a1, .ref a2, .ref a3, .ref a4, .ref a5, .ref a6, .ref a7, .ref a8, .ref a9, .ref a10, .ref a11, .ref a12, .ref a13, .ref a14, .int 0, .int 0, .int 0])), (a11, .inr (9, [.ref a15, .ref a16, .ref a17, .ref a18, .ref a19, .ref a20, .ref a21, .ref a22, .ref a23, .int 0, .int 0, .int 0, .int 0, .int 12, .int 1, .int 0, .int 0, .int 0]))] sz) := by
  refine e_I (by decide) (Nat.le_of_ble_eq_true rfl) ?_
  intro p e s m args below meth c A Q ls M hin w ret hl
  have hx := M.1.1
  have hb := M.1.2.1
  have hl : lv_has ls 3 [(0, .ref a0), (1, .int x0), (2, .int x1)] := hl
  refine lv_aload_n hx hb dX11_way_0 rfl (lv_at hl 0 rfl) ?_
  refine lv_iload_n hx hb dX11_way_1 rfl (lv_at hl 1 rfl) ?_
  refine k_I (ce := 0) (sl := 0) (rest := []) (wr := []) (r_V (f := 0) [0, 1] M w V_HookedCity_134 G841 G16 (c70_X11_isPerson l D T _ a0 a1 a2 a3 a4 a5 a6 a7 a8 a9 a10 a11 a12 a13 a14 a15 a16 a17 a18 a19 a20 a21 a22 a23 x0) 0 clX11 rfl rfl (by decide) rfl hl.1 rfl (Nat.le_of_ble_eq_true rfl) dX11_way_2 (by decide) (by decide) (by decide) (by decide)) w [0, 1] [] rfl rfl (by decide) (by decide) rfl rfl (fun v _ H locs hp w => ?_)
  have hp : (0 : Int32) = v := hp
  subst hp
  have w : WD D A s.heap [(a0, .inr (10, [.ref a1, .ref a2, .ref a3, .ref a4, .ref a5, .ref a6, .ref a7, .ref a8, .ref a9, .ref a10, .ref a11, .ref a12, .ref a13, .ref a14, .int 0, .int 0, .int 0])), (a11, .inr (9, [.ref a15, .ref a16, .ref a17, .ref a18, .ref a19, .ref a20, .ref a21, .ref a22, .ref a23, .int 0, .int 0, .int 0, .int 0, .int 12, .int 1, .int 0, .int 0, .int 0]))] H locs := w
  refine lv_if_eq (tgt := 32) hx hb dX11_way_5 (by decide) (fun _ => ?_) (fun c => absurd (by decide +kernel) c)
  refine lv_iconst (v := (-1)) hx hb dX11_way_32 (by decide) ?_
  exact ret _ () _ _ _ _ _ [] dX11_way_33 rfl w (by decide) rfl
set_option maxRecDepth 100000 in
set_option maxHeartbeats 4000000 in
theorem c107_X12_way (l : Launch) (D : va_G) (T : Nat → ClassId) (sz : Nat) (a0 a1 a2 a3 a4 a5 a6 a7 a8 a9 a10 a11 a12 a13 a14 a15 a16 a17 a18 a19 a20 a21 a22 : Nat) (x0 : Int32) (x1 : Int32) : Met l yX12_way (Cond.code yX12_way cX12_way 6 (some .int) :: GW) (Rm 2 0 0) (cPre [.ref a0, .int x0, .int x1] D T [(a0, .inr (11, [.int 0, .ref a1, .int 0, .int 0, .int 0, .int 0, .int 0, .int 0, .int 0, .int 0, .int 0, .int 0, .long 0, .int 0, .ref a2, .ref a3, .ref a4, .ref a5, .ref a6, .ref a7, .ref a8, .ref a9, .ref a10, .ref a11, .int 0, .ref a12, .ref a13, .ref a14, .ref a15, .int 0, .int 0, .int 0, .ref a16, .int (-1), .int (-1), .ref a17, .ref a18, .int 0, .ref a19, .int 0, .int 0, .ref a20, .ref a21, .int 0, .int 0, .ref a22, .int 0, .int 0, .int 0, .int 0])), (a2, .inl (T 0, 329, .inl cn45))] sz) (qI D [(a0, .inr (11, [.int 0, .ref a1, .int 0, .int 0, .int 0, .int 0, .int 0, .int 0, .int 0, .int 0, .int 0, .int 0, .long 0, .int 0, .ref a2, .ref a3, .ref a4, .ref a5, .ref a6, .ref a7, .ref a8, .ref a9, .ref a10, .ref a11, .int 0, .ref a12, .ref a13, .ref a14, .ref a15, .int 0, .int 0, .int 0, .ref a16, .int (-1), .int (-1), .ref a17, .ref a18, .int 0, .ref a19, .int 0, .int 0, .ref a20, .ref a21, .int 0, .int 0, .ref a22, .int 0, .int 0, .int 0, .int 0])), (a2, .inl (T 0, 329, .inl cn45))] sz (fun (v : Int32) (u : Unit) => (-1 : Int32) = v) (fun u => [])) 0 0 (va_A [(a0, .inr (11, [.int 0, .ref a1, .int 0, .int 0, .int 0, .int 0, .int 0, .int 0, .int 0, .int 0, .int 0, .int 0, .long 0, .int 0, .ref a2, .ref a3, .ref a4, .ref a5, .ref a6, .ref a7, .ref a8, .ref a9, .ref a10, .ref a11, .int 0, .ref a12, .ref a13, .ref a14, .ref a15, .int 0, .int 0, .int 0, .ref a16, .int (-1), .int (-1), .ref a17, .ref a18, .int 0, .ref a19, .int 0, .int 0, .ref a20, .ref a21, .int 0, .int 0, .ref a22, .int 0, .int 0, .int 0, .int 0])), (a2, .inl (T 0, 329, .inl cn45))] sz) := by
  refine e_I (by decide) (Nat.le_of_ble_eq_true rfl) ?_
  intro p e s m args below meth c A Q ls M hin w ret hl
  have hx := M.1.1
  have hb := M.1.2.1
  have hl : lv_has ls 6 [(0, .ref a0), (1, .int x0), (2, .int x1)] := hl
  refine lv_aload_n hx hb dX12_way_0 rfl (lv_at hl 0 rfl) ?_
  refine lv_iconst (v := 0) hx hb dX12_way_1 (by decide) ?_
  refine r_put (ws' := [(a0, .inr (11, [.int 0, .ref a1, .int 0, .int 0, .int 0, .int 0, .int 0, .int 0, .int 0, .int 0, .int 0, .int 0, .long 0, .int 0, .ref a2, .ref a3, .ref a4, .ref a5, .ref a6, .ref a7, .ref a8, .ref a9, .ref a10, .ref a11, .int 0, .ref a12, .ref a13, .ref a14, .ref a15, .int 0, .int 0, .int 0, .ref a16, .int (-1), .int (-1), .ref a17, .ref a18, .int 0, .ref a19, .int 0, .int 0, .ref a20, .ref a21, .int 0, .int 0, .ref a22, .int 0, .int 0, .int 0, .int 0])), (a2, .inl (T 0, 329, .inl cn45))]) M w 0 0 clX12 rfl (by decide) G1467 rfl rfl rfl rfl (Nat.le_of_ble_eq_true rfl) rfl dX12_way_2 (fun H locs w => ?_)
  refine lv_aload_n hx hb dX12_way_5 rfl (lv_at hl 0 rfl) ?_
  refine lv_iload_n hx hb dX12_way_6 rfl (lv_at hl 1 rfl) ?_
  refine k_I (ce := 0) (sl := 0) (rest := []) (wr := []) (r_V (f := 1) [0, 1] M w V_HookedCityModel_240 G1740 G68 (c72_X12_isPerson l D T _ a0 a1 a2 a3 a4 a5 a6 a7 a8 a9 a10 a11 a12 a13 a14 a15 a16 a17 a18 a19 a20 a21 a22 x0) 0 clX12 rfl rfl (by decide) rfl hl.1 rfl (Nat.le_of_ble_eq_true rfl) dX12_way_7 (by decide) (by decide) (by decide) (by decide)) w [0, 1] [] rfl rfl (by decide) (by decide) rfl rfl (fun v _ H locs hp w => ?_)
  have hp : (0 : Int32) = v := hp
  subst hp
  have w : WD D A s.heap [(a0, .inr (11, [.int 0, .ref a1, .int 0, .int 0, .int 0, .int 0, .int 0, .int 0, .int 0, .int 0, .int 0, .int 0, .long 0, .int 0, .ref a2, .ref a3, .ref a4, .ref a5, .ref a6, .ref a7, .ref a8, .ref a9, .ref a10, .ref a11, .int 0, .ref a12, .ref a13, .ref a14, .ref a15, .int 0, .int 0, .int 0, .ref a16, .int (-1), .int (-1), .ref a17, .ref a18, .int 0, .ref a19, .int 0, .int 0, .ref a20, .ref a21, .int 0, .int 0, .ref a22, .int 0, .int 0, .int 0, .int 0])), (a2, .inl (T 0, 329, .inl cn45))] H locs := w
  refine lv_if_eq (tgt := 21) hx hb dX12_way_10 (by decide) (fun _ => ?_) (fun c => absurd (by decide +kernel) c)
  refine lv_iconst (v := (-1)) hx hb dX12_way_21 (by decide) ?_
  exact ret _ () _ _ _ _ _ [] dX12_way_22 rfl w (by decide) rfl
set_option maxRecDepth 100000 in
set_option maxHeartbeats 4000000 in
theorem c108_X11_wayAt (l : Launch) (D : va_G) (T : Nat → ClassId) (sz : Nat) (a0 a1 a2 a3 a4 a5 a6 a7 a8 a9 a10 a11 a12 a13 a14 a15 a16 : Nat) (x0 : Int32) : Met l yX11_wayAt (Cond.code yX11_wayAt cX11_wayAt 2 (some .int) :: GW) (Rm 0 0 0) (cPre [.ref a0, .int x0] D T [(a0, .inr (10, [.ref a1, .ref a2, .ref a3, .ref a4, .ref a5, .ref a6, .ref a7, .ref a8, .ref a9, .ref a10, .ref a11, .ref a12, .ref a13, .ref a14, .int 0, .int 0, .int 0])), (a7, .inr (4, [.ref a15, .ref a16, .int 0]))] sz) (qI D [(a0, .inr (10, [.ref a1, .ref a2, .ref a3, .ref a4, .ref a5, .ref a6, .ref a7, .ref a8, .ref a9, .ref a10, .ref a11, .ref a12, .ref a13, .ref a14, .int 0, .int 0, .int 0])), (a7, .inr (4, [.ref a15, .ref a16, .int 0]))] sz (fun (v : Int32) (u : Unit) => (-1 : Int32) = v) (fun u => [])) 0 0 (va_A [(a0, .inr (10, [.ref a1, .ref a2, .ref a3, .ref a4, .ref a5, .ref a6, .ref a7, .ref a8, .ref a9, .ref a10, .ref a11, .ref a12, .ref a13, .ref a14, .int 0, .int 0, .int 0])), (a7, .inr (4, [.ref a15, .ref a16, .int 0]))] sz) := by
  refine e_I (by decide) (Nat.le_of_ble_eq_true rfl) ?_
  intro p e s m args below meth c A Q ls M hin w ret hl
  have hx := M.1.1
  have hb := M.1.2.1
  have hl : lv_has ls 2 [(0, .ref a0), (1, .int x0)] := hl
  refine lv_iload_n hx hb dX11_wayAt_0 rfl (lv_at hl 1 rfl) ?_
  refine lv_if_lt (tgt := 27) hx hb dX11_wayAt_1 (by decide) (fun c_1 => ?_) (fun c_1 => ?_)
  · refine lv_iconst (v := (-1)) hx hb dX11_wayAt_27 (by decide) ?_
    exact ret _ () _ _ _ _ _ [] dX11_wayAt_28 rfl w (by decide) rfl
  · refine lv_iload_n hx hb dX11_wayAt_4 rfl (lv_at hl 1 rfl) ?_
    refine lv_aload_n hx hb dX11_wayAt_5 rfl (lv_at hl 0 rfl) ?_
    refine r_get (v := .ref a7) M w 0 6 clX11 rfl (by decide) G503 rfl rfl dX11_wayAt_6 ?_
    refine r_getN (v := .int 0) M w 1 2 clX4 rfl (by decide) N334 rfl rfl dX11_wayAt_9 ?_
    refine lv_icmp_ge (tgt := 27) hx hb dX11_wayAt_12 (by decide) (fun c_2 => ?_) (fun c_2 => ?_)
    · refine lv_iconst (v := (-1)) hx hb dX11_wayAt_27 (by decide) ?_
      exact ret _ () _ _ _ _ _ [] dX11_wayAt_28 rfl w (by decide) rfl
    · exfalso
      simp only [fa_lt, fa_le, fa_eq] at c_1 c_2
      have e0 : (0 : Int32).toInt = 0 := (by decide)
      omega
set_option maxRecDepth 100000 in
set_option maxHeartbeats 4000000 in
theorem c109_X12_wayAt (l : Launch) (D : va_G) (T : Nat → ClassId) (sz : Nat) (a0 a1 a2 a3 a4 a5 a6 a7 a8 a9 a10 a11 a12 a13 a14 a15 a16 a17 a18 a19 a20 a21 a22 : Nat) (x0 : Int32) : Met l yX12_wayAt (Cond.code yX12_wayAt cX12_wayAt 2 (some .int) :: GW) (Rm 1 0 0) (cPre [.ref a0, .int x0] D T [(a0, .inr (11, [.int 0, .ref a1, .int 0, .int 0, .int 0, .int 0, .int 0, .int 0, .int 0, .int 0, .int 0, .int 0, .long 0, .int 0, .ref a2, .ref a3, .ref a4, .ref a5, .ref a6, .ref a7, .ref a8, .ref a9, .ref a10, .ref a11, .int 0, .ref a12, .ref a13, .ref a14, .ref a15, .int 0, .int 0, .int 0, .ref a16, .int (-1), .int (-1), .ref a17, .ref a18, .int 0, .ref a19, .int 0, .int 0, .ref a20, .ref a21, .int 0, .int 0, .ref a22, .int 0, .int 0, .int 0, .int 0]))] sz) (qI D [(a0, .inr (11, [.int 0, .ref a1, .int 0, .int 0, .int 0, .int 0, .int 0, .int 0, .int 0, .int 0, .int 0, .int 0, .long 0, .int 0, .ref a2, .ref a3, .ref a4, .ref a5, .ref a6, .ref a7, .ref a8, .ref a9, .ref a10, .ref a11, .int 0, .ref a12, .ref a13, .ref a14, .ref a15, .int 0, .int 0, .int 0, .ref a16, .int (-1), .int (-1), .ref a17, .ref a18, .int 0, .ref a19, .int 0, .int 0, .ref a20, .ref a21, .int 0, .int 0, .ref a22, .int 0, .int 0, .int 0, .int 0]))] sz (fun (v : Int32) (u : Unit) => (-1 : Int32) = v) (fun u => [])) 0 0 (va_A [(a0, .inr (11, [.int 0, .ref a1, .int 0, .int 0, .int 0, .int 0, .int 0, .int 0, .int 0, .int 0, .int 0, .int 0, .long 0, .int 0, .ref a2, .ref a3, .ref a4, .ref a5, .ref a6, .ref a7, .ref a8, .ref a9, .ref a10, .ref a11, .int 0, .ref a12, .ref a13, .ref a14, .ref a15, .int 0, .int 0, .int 0, .ref a16, .int (-1), .int (-1), .ref a17, .ref a18, .int 0, .ref a19, .int 0, .int 0, .ref a20, .ref a21, .int 0, .int 0, .ref a22, .int 0, .int 0, .int 0, .int 0]))] sz) := by
  refine e_I (by decide) (Nat.le_of_ble_eq_true rfl) ?_
  intro p e s m args below meth c A Q ls M hin w ret hl
  have hx := M.1.1
  have hb := M.1.2.1
  have hl : lv_has ls 2 [(0, .ref a0), (1, .int x0)] := hl
  refine lv_aload_n hx hb dX12_wayAt_0 rfl (lv_at hl 0 rfl) ?_
  refine lv_iconst (v := 0) hx hb dX12_wayAt_1 (by decide) ?_
  refine r_put (ws' := [(a0, .inr (11, [.int 0, .ref a1, .int 0, .int 0, .int 0, .int 0, .int 0, .int 0, .int 0, .int 0, .int 0, .int 0, .long 0, .int 0, .ref a2, .ref a3, .ref a4, .ref a5, .ref a6, .ref a7, .ref a8, .ref a9, .ref a10, .ref a11, .int 0, .ref a12, .ref a13, .ref a14, .ref a15, .int 0, .int 0, .int 0, .ref a16, .int (-1), .int (-1), .ref a17, .ref a18, .int 0, .ref a19, .int 0, .int 0, .ref a20, .ref a21, .int 0, .int 0, .ref a22, .int 0, .int 0, .int 0, .int 0]))]) M w 0 0 clX12 rfl (by decide) G1467 rfl rfl rfl rfl (Nat.le_of_ble_eq_true rfl) rfl dX12_wayAt_2 (fun H locs w => ?_)
  refine lv_iload_n hx hb dX12_wayAt_5 rfl (lv_at hl 1 rfl) ?_
  refine lv_iconst (v := 0) hx hb dX12_wayAt_6 (by decide) ?_
  refine lv_aload_n hx hb dX12_wayAt_7 rfl (lv_at hl 0 rfl) ?_
  refine r_get (v := .int 0) M w 0 37 clX12 rfl (by decide) G1504 rfl rfl dX12_wayAt_8 ?_
  refine lv_iconst (v := 1) hx hb dX12_wayAt_11 (by decide) ?_
  refine r_isub (v := (-1 : Int32)) M (by decide +kernel) dX12_wayAt_12 ?_
  refine k_I (ce := 0) (sl := 0) (rest := []) (wr := [(a0, .inr (11, [.int 0, .ref a1, .int 0, .int 0, .int 0, .int 0, .int 0, .int 0, .int 0, .int 0, .int 0, .int 0, .long 0, .int 0, .ref a2, .ref a3, .ref a4, .ref a5, .ref a6, .ref a7, .ref a8, .ref a9, .ref a10, .ref a11, .int 0, .ref a12, .ref a13, .ref a14, .ref a15, .int 0, .int 0, .int 0, .ref a16, .int (-1), .int (-1), .ref a17, .ref a18, .int 0, .ref a19, .int 0, .int 0, .ref a20, .ref a21, .int 0, .int 0, .ref a22, .int 0, .int 0, .int 0, .int 0]))]) (r_S (f := 0) [] M w V_HookedCityModel_75 G1697 (c53_X12_isIn l D T _ x0) rfl (by decide) rfl hl.1 rfl (Nat.le_of_ble_eq_true rfl) dX12_wayAt_13 (by decide) (by decide) (by decide) (by decide)) w [] [0] rfl rfl (by decide) (by decide) rfl rfl (fun v _ H locs hp w => ?_)
  have hp : (0 : Int32) = v := hp
  subst hp
  have w : WD D A s.heap [(a0, .inr (11, [.int 0, .ref a1, .int 0, .int 0, .int 0, .int 0, .int 0, .int 0, .int 0, .int 0, .int 0, .int 0, .long 0, .int 0, .ref a2, .ref a3, .ref a4, .ref a5, .ref a6, .ref a7, .ref a8, .ref a9, .ref a10, .ref a11, .int 0, .ref a12, .ref a13, .ref a14, .ref a15, .int 0, .int 0, .int 0, .ref a16, .int (-1), .int (-1), .ref a17, .ref a18, .int 0, .ref a19, .int 0, .int 0, .ref a20, .ref a21, .int 0, .int 0, .ref a22, .int 0, .int 0, .int 0, .int 0]))] H locs := w
  refine lv_if_eq (tgt := 28) hx hb dX12_wayAt_16 (by decide) (fun _ => ?_) (fun c => absurd (by decide +kernel) c)
  refine lv_iconst (v := (-1)) hx hb dX12_wayAt_28 (by decide) ?_
  exact ret _ () _ _ _ _ _ [] dX12_wayAt_29 rfl w (by decide) rfl
set_option maxRecDepth 100000 in
set_option maxHeartbeats 4000000 in
theorem c110_X11_lasts (l : Launch) (D : va_G) (T : Nat → ClassId) (sz : Nat) (a0 a1 a2 a3 a4 a5 a6 a7 a8 a9 a10 a11 a12 a13 a14 a15 a16 a17 a18 a19 a20 a21 a22 a23 : Nat) (x0 : Int32) : Met l yX11_lasts (Cond.code yX11_lasts cX11_lasts 2 (some .int) :: GW) (Rm 1 0 0) (cPre [.ref a0, .int x0] D T [(a0, .inr (10, [.ref a1, .ref a2, .ref a3, .ref a4, .ref a5, .ref a6, .ref a7, .ref a8, .ref a9, .ref a10, .ref a11, .ref a12, .ref a13, .ref a14, .int 0, .int 0, .int 0])), (a11, .inr (9, [.ref a15, .ref a16, .ref a17, .ref a18, .ref a19, .ref a20, .ref a21, .ref a22, .ref a23, .int 0, .int 0, .int 0, .int 0, .int 12, .int 1, .int 0, .int 0, .int 0]))] sz) (qI D [(a0, .inr (10, [.ref a1, .ref a2, .ref a3, .ref a4, .ref a5, .ref a6, .ref a7, .ref a8, .ref a9, .ref a10, .ref a11, .ref a12, .ref a13, .ref a14, .int 0, .int 0, .int 0])), (a11, .inr (9, [.ref a15, .ref a16, .ref a17, .ref a18, .ref a19, .ref a20, .ref a21, .ref a22, .ref a23, .int 0, .int 0, .int 0, .int 0, .int 12, .int 1, .int 0, .int 0, .int 0]))] sz (fun (v : Int32) (u : Unit) => (-1 : Int32) = v) (fun u => [])) 0 0 (va_A [(a0, .inr (10, [.ref a1, .ref a2, .ref a3, .ref a4, .ref a5, .ref a6, .ref a7, .ref a8, .ref a9, .ref a10, .ref a11, .ref a12, .ref a13, .ref a14, .int 0, .int 0, .int 0])), (a11, .inr (9, [.ref a15, .ref a16, .ref a17, .ref a18, .ref a19, .ref a20, .ref a21, .ref a22, .ref a23, .int 0, .int 0, .int 0, .int 0, .int 12, .int 1, .int 0, .int 0, .int 0]))] sz) := by
  refine e_I (by decide) (Nat.le_of_ble_eq_true rfl) ?_
  intro p e s m args below meth c A Q ls M hin w ret hl
  have hx := M.1.1
  have hb := M.1.2.1
  have hl : lv_has ls 2 [(0, .ref a0), (1, .int x0)] := hl
  refine lv_aload_n hx hb dX11_lasts_0 rfl (lv_at hl 0 rfl) ?_
  refine lv_iload_n hx hb dX11_lasts_1 rfl (lv_at hl 1 rfl) ?_
  refine k_I (ce := 0) (sl := 0) (rest := []) (wr := []) (r_V (f := 0) [0, 1] M w V_HookedCity_134 G841 G16 (c70_X11_isPerson l D T _ a0 a1 a2 a3 a4 a5 a6 a7 a8 a9 a10 a11 a12 a13 a14 a15 a16 a17 a18 a19 a20 a21 a22 a23 x0) 0 clX11 rfl rfl (by decide) rfl hl.1 rfl (Nat.le_of_ble_eq_true rfl) dX11_lasts_2 (by decide) (by decide) (by decide) (by decide)) w [0, 1] [] rfl rfl (by decide) (by decide) rfl rfl (fun v _ H locs hp w => ?_)
  have hp : (0 : Int32) = v := hp
  subst hp
  have w : WD D A s.heap [(a0, .inr (10, [.ref a1, .ref a2, .ref a3, .ref a4, .ref a5, .ref a6, .ref a7, .ref a8, .ref a9, .ref a10, .ref a11, .ref a12, .ref a13, .ref a14, .int 0, .int 0, .int 0])), (a11, .inr (9, [.ref a15, .ref a16, .ref a17, .ref a18, .ref a19, .ref a20, .ref a21, .ref a22, .ref a23, .int 0, .int 0, .int 0, .int 0, .int 12, .int 1, .int 0, .int 0, .int 0]))] H locs := w
  refine lv_if_eq (tgt := 23) hx hb dX11_lasts_5 (by decide) (fun _ => ?_) (fun c => absurd (by decide +kernel) c)
  refine lv_iconst (v := (-1)) hx hb dX11_lasts_23 (by decide) ?_
  exact ret _ () _ _ _ _ _ [] dX11_lasts_24 rfl w (by decide) rfl
set_option maxRecDepth 100000 in
set_option maxHeartbeats 4000000 in
theorem c111_X12_lasts (l : Launch) (D : va_G) (T : Nat → ClassId) (sz : Nat) (a0 a1 a2 a3 a4 a5 a6 a7 a8 a9 a10 a11 a12 a13 a14 a15 a16 a17 a18 a19 a20 a21 a22 : Nat) (x0 : Int32) : Met l yX12_lasts (Cond.code yX12_lasts cX12_lasts 4 (some .int) :: GW) (Rm 2 0 0) (cPre [.ref a0, .int x0] D T [(a0, .inr (11, [.int 0, .ref a1, .int 0, .int 0, .int 0, .int 0, .int 0, .int 0, .int 0, .int 0, .int 0, .int 0, .long 0, .int 0, .ref a2, .ref a3, .ref a4, .ref a5, .ref a6, .ref a7, .ref a8, .ref a9, .ref a10, .ref a11, .int 0, .ref a12, .ref a13, .ref a14, .ref a15, .int 0, .int 0, .int 0, .ref a16, .int (-1), .int (-1), .ref a17, .ref a18, .int 0, .ref a19, .int 0, .int 0, .ref a20, .ref a21, .int 0, .int 0, .ref a22, .int 0, .int 0, .int 0, .int 0])), (a2, .inl (T 0, 329, .inl cn45))] sz) (qI D [(a0, .inr (11, [.int 0, .ref a1, .int 0, .int 0, .int 0, .int 0, .int 0, .int 0, .int 0, .int 0, .int 0, .int 0, .long 0, .int 0, .ref a2, .ref a3, .ref a4, .ref a5, .ref a6, .ref a7, .ref a8, .ref a9, .ref a10, .ref a11, .int 0, .ref a12, .ref a13, .ref a14, .ref a15, .int 0, .int 0, .int 0, .ref a16, .int (-1), .int (-1), .ref a17, .ref a18, .int 0, .ref a19, .int 0, .int 0, .ref a20, .ref a21, .int 0, .int 0, .ref a22, .int 0, .int 0, .int 0, .int 0])), (a2, .inl (T 0, 329, .inl cn45))] sz (fun (v : Int32) (u : Unit) => (-1 : Int32) = v) (fun u => [])) 0 0 (va_A [(a0, .inr (11, [.int 0, .ref a1, .int 0, .int 0, .int 0, .int 0, .int 0, .int 0, .int 0, .int 0, .int 0, .int 0, .long 0, .int 0, .ref a2, .ref a3, .ref a4, .ref a5, .ref a6, .ref a7, .ref a8, .ref a9, .ref a10, .ref a11, .int 0, .ref a12, .ref a13, .ref a14, .ref a15, .int 0, .int 0, .int 0, .ref a16, .int (-1), .int (-1), .ref a17, .ref a18, .int 0, .ref a19, .int 0, .int 0, .ref a20, .ref a21, .int 0, .int 0, .ref a22, .int 0, .int 0, .int 0, .int 0])), (a2, .inl (T 0, 329, .inl cn45))] sz) := by
  refine e_I (by decide) (Nat.le_of_ble_eq_true rfl) ?_
  intro p e s m args below meth c A Q ls M hin w ret hl
  have hx := M.1.1
  have hb := M.1.2.1
  have hl : lv_has ls 4 [(0, .ref a0), (1, .int x0)] := hl
  refine lv_aload_n hx hb dX12_lasts_0 rfl (lv_at hl 0 rfl) ?_
  refine lv_iconst (v := 0) hx hb dX12_lasts_1 (by decide) ?_
  refine r_put (ws' := [(a0, .inr (11, [.int 0, .ref a1, .int 0, .int 0, .int 0, .int 0, .int 0, .int 0, .int 0, .int 0, .int 0, .int 0, .long 0, .int 0, .ref a2, .ref a3, .ref a4, .ref a5, .ref a6, .ref a7, .ref a8, .ref a9, .ref a10, .ref a11, .int 0, .ref a12, .ref a13, .ref a14, .ref a15, .int 0, .int 0, .int 0, .ref a16, .int (-1), .int (-1), .ref a17, .ref a18, .int 0, .ref a19, .int 0, .int 0, .ref a20, .ref a21, .int 0, .int 0, .ref a22, .int 0, .int 0, .int 0, .int 0])), (a2, .inl (T 0, 329, .inl cn45))]) M w 0 0 clX12 rfl (by decide) G1467 rfl rfl rfl rfl (Nat.le_of_ble_eq_true rfl) rfl dX12_lasts_2 (fun H locs w => ?_)
  refine lv_aload_n hx hb dX12_lasts_5 rfl (lv_at hl 0 rfl) ?_
  refine lv_iload_n hx hb dX12_lasts_6 rfl (lv_at hl 1 rfl) ?_
  refine k_I (ce := 0) (sl := 0) (rest := []) (wr := []) (r_V (f := 1) [0, 1] M w V_HookedCityModel_240 G1740 G68 (c72_X12_isPerson l D T _ a0 a1 a2 a3 a4 a5 a6 a7 a8 a9 a10 a11 a12 a13 a14 a15 a16 a17 a18 a19 a20 a21 a22 x0) 0 clX12 rfl rfl (by decide) rfl hl.1 rfl (Nat.le_of_ble_eq_true rfl) dX12_lasts_7 (by decide) (by decide) (by decide) (by decide)) w [0, 1] [] rfl rfl (by decide) (by decide) rfl rfl (fun v _ H locs hp w => ?_)
  have hp : (0 : Int32) = v := hp
  subst hp
  have w : WD D A s.heap [(a0, .inr (11, [.int 0, .ref a1, .int 0, .int 0, .int 0, .int 0, .int 0, .int 0, .int 0, .int 0, .int 0, .int 0, .long 0, .int 0, .ref a2, .ref a3, .ref a4, .ref a5, .ref a6, .ref a7, .ref a8, .ref a9, .ref a10, .ref a11, .int 0, .ref a12, .ref a13, .ref a14, .ref a15, .int 0, .int 0, .int 0, .ref a16, .int (-1), .int (-1), .ref a17, .ref a18, .int 0, .ref a19, .int 0, .int 0, .ref a20, .ref a21, .int 0, .int 0, .ref a22, .int 0, .int 0, .int 0, .int 0])), (a2, .inl (T 0, 329, .inl cn45))] H locs := w
  refine lv_if_eq (tgt := 21) hx hb dX12_lasts_10 (by decide) (fun _ => ?_) (fun c => absurd (by decide +kernel) c)
  refine lv_iconst (v := (-1)) hx hb dX12_lasts_21 (by decide) ?_
  exact ret _ () _ _ _ _ _ [] dX12_lasts_22 rfl w (by decide) rfl
set_option maxRecDepth 100000 in
set_option maxHeartbeats 4000000 in
theorem c112_X11_near (l : Launch) (D : va_G) (T : Nat → ClassId) (sz : Nat) (a0 a1 a2 a3 a4 a5 a6 a7 a8 a9 a10 a11 a12 a13 a14 a15 a16 a17 a18 a19 a20 a21 a22 a23 : Nat) (x0 : Int32) : Met l yX11_near (Cond.code yX11_near cX11_near 2 (some .int) :: GW) (Rm 1 0 0) (cPre [.ref a0, .int x0] D T [(a0, .inr (10, [.ref a1, .ref a2, .ref a3, .ref a4, .ref a5, .ref a6, .ref a7, .ref a8, .ref a9, .ref a10, .ref a11, .ref a12, .ref a13, .ref a14, .int 0, .int 0, .int 0])), (a11, .inr (9, [.ref a15, .ref a16, .ref a17, .ref a18, .ref a19, .ref a20, .ref a21, .ref a22, .ref a23, .int 0, .int 0, .int 0, .int 0, .int 12, .int 1, .int 0, .int 0, .int 0]))] sz) (qI D [(a0, .inr (10, [.ref a1, .ref a2, .ref a3, .ref a4, .ref a5, .ref a6, .ref a7, .ref a8, .ref a9, .ref a10, .ref a11, .ref a12, .ref a13, .ref a14, .int 0, .int 0, .int 0])), (a11, .inr (9, [.ref a15, .ref a16, .ref a17, .ref a18, .ref a19, .ref a20, .ref a21, .ref a22, .ref a23, .int 0, .int 0, .int 0, .int 0, .int 12, .int 1, .int 0, .int 0, .int 0]))] sz (fun (v : Int32) (u : Unit) => (-1 : Int32) = v) (fun u => [])) 0 0 (va_A [(a0, .inr (10, [.ref a1, .ref a2, .ref a3, .ref a4, .ref a5, .ref a6, .ref a7, .ref a8, .ref a9, .ref a10, .ref a11, .ref a12, .ref a13, .ref a14, .int 0, .int 0, .int 0])), (a11, .inr (9, [.ref a15, .ref a16, .ref a17, .ref a18, .ref a19, .ref a20, .ref a21, .ref a22, .ref a23, .int 0, .int 0, .int 0, .int 0, .int 12, .int 1, .int 0, .int 0, .int 0]))] sz) := by
  refine e_I (by decide) (Nat.le_of_ble_eq_true rfl) ?_
  intro p e s m args below meth c A Q ls M hin w ret hl
  have hx := M.1.1
  have hb := M.1.2.1
  have hl : lv_has ls 2 [(0, .ref a0), (1, .int x0)] := hl
  refine lv_aload_n hx hb dX11_near_0 rfl (lv_at hl 0 rfl) ?_
  refine lv_iload_n hx hb dX11_near_1 rfl (lv_at hl 1 rfl) ?_
  refine k_I (ce := 0) (sl := 0) (rest := []) (wr := []) (r_V (f := 0) [0, 1] M w V_HookedCity_134 G841 G16 (c70_X11_isPerson l D T _ a0 a1 a2 a3 a4 a5 a6 a7 a8 a9 a10 a11 a12 a13 a14 a15 a16 a17 a18 a19 a20 a21 a22 a23 x0) 0 clX11 rfl rfl (by decide) rfl hl.1 rfl (Nat.le_of_ble_eq_true rfl) dX11_near_2 (by decide) (by decide) (by decide) (by decide)) w [0, 1] [] rfl rfl (by decide) (by decide) rfl rfl (fun v _ H locs hp w => ?_)
  have hp : (0 : Int32) = v := hp
  subst hp
  have w : WD D A s.heap [(a0, .inr (10, [.ref a1, .ref a2, .ref a3, .ref a4, .ref a5, .ref a6, .ref a7, .ref a8, .ref a9, .ref a10, .ref a11, .ref a12, .ref a13, .ref a14, .int 0, .int 0, .int 0])), (a11, .inr (9, [.ref a15, .ref a16, .ref a17, .ref a18, .ref a19, .ref a20, .ref a21, .ref a22, .ref a23, .int 0, .int 0, .int 0, .int 0, .int 12, .int 1, .int 0, .int 0, .int 0]))] H locs := w
  refine lv_if_eq (tgt := 20) hx hb dX11_near_5 (by decide) (fun _ => ?_) (fun c => absurd (by decide +kernel) c)
  refine lv_iconst (v := (-1)) hx hb dX11_near_20 (by decide) ?_
  exact ret _ () _ _ _ _ _ [] dX11_near_21 rfl w (by decide) rfl
set_option maxRecDepth 100000 in
set_option maxHeartbeats 4000000 in
theorem c113_X12_near (l : Launch) (D : va_G) (T : Nat → ClassId) (sz : Nat) (a0 a1 a2 a3 a4 a5 a6 a7 a8 a9 a10 a11 a12 a13 a14 a15 a16 a17 a18 a19 a20 a21 a22 : Nat) (x0 : Int32) : Met l yX12_near (Cond.code yX12_near cX12_near 2 (some .int) :: GW) (Rm 2 0 0) (cPre [.ref a0, .int x0] D T [(a0, .inr (11, [.int 0, .ref a1, .int 0, .int 0, .int 0, .int 0, .int 0, .int 0, .int 0, .int 0, .int 0, .int 0, .long 0, .int 0, .ref a2, .ref a3, .ref a4, .ref a5, .ref a6, .ref a7, .ref a8, .ref a9, .ref a10, .ref a11, .int 0, .ref a12, .ref a13, .ref a14, .ref a15, .int 0, .int 0, .int 0, .ref a16, .int (-1), .int (-1), .ref a17, .ref a18, .int 0, .ref a19, .int 0, .int 0, .ref a20, .ref a21, .int 0, .int 0, .ref a22, .int 0, .int 0, .int 0, .int 0])), (a2, .inl (T 0, 329, .inl cn45))] sz) (qI D [(a0, .inr (11, [.int 0, .ref a1, .int 0, .int 0, .int 0, .int 0, .int 0, .int 0, .int 0, .int 0, .int 0, .int 0, .long 0, .int 0, .ref a2, .ref a3, .ref a4, .ref a5, .ref a6, .ref a7, .ref a8, .ref a9, .ref a10, .ref a11, .int 0, .ref a12, .ref a13, .ref a14, .ref a15, .int 0, .int 0, .int 0, .ref a16, .int (-1), .int (-1), .ref a17, .ref a18, .int 0, .ref a19, .int 0, .int 0, .ref a20, .ref a21, .int 0, .int 0, .ref a22, .int 0, .int 0, .int 0, .int 0])), (a2, .inl (T 0, 329, .inl cn45))] sz (fun (v : Int32) (u : Unit) => (-1 : Int32) = v) (fun u => [])) 0 0 (va_A [(a0, .inr (11, [.int 0, .ref a1, .int 0, .int 0, .int 0, .int 0, .int 0, .int 0, .int 0, .int 0, .int 0, .int 0, .long 0, .int 0, .ref a2, .ref a3, .ref a4, .ref a5, .ref a6, .ref a7, .ref a8, .ref a9, .ref a10, .ref a11, .int 0, .ref a12, .ref a13, .ref a14, .ref a15, .int 0, .int 0, .int 0, .ref a16, .int (-1), .int (-1), .ref a17, .ref a18, .int 0, .ref a19, .int 0, .int 0, .ref a20, .ref a21, .int 0, .int 0, .ref a22, .int 0, .int 0, .int 0, .int 0])), (a2, .inl (T 0, 329, .inl cn45))] sz) := by
  refine e_I (by decide) (Nat.le_of_ble_eq_true rfl) ?_
  intro p e s m args below meth c A Q ls M hin w ret hl
  have hx := M.1.1
  have hb := M.1.2.1
  have hl : lv_has ls 2 [(0, .ref a0), (1, .int x0)] := hl
  refine lv_aload_n hx hb dX12_near_0 rfl (lv_at hl 0 rfl) ?_
  refine lv_iconst (v := 0) hx hb dX12_near_1 (by decide) ?_
  refine r_put (ws' := [(a0, .inr (11, [.int 0, .ref a1, .int 0, .int 0, .int 0, .int 0, .int 0, .int 0, .int 0, .int 0, .int 0, .int 0, .long 0, .int 0, .ref a2, .ref a3, .ref a4, .ref a5, .ref a6, .ref a7, .ref a8, .ref a9, .ref a10, .ref a11, .int 0, .ref a12, .ref a13, .ref a14, .ref a15, .int 0, .int 0, .int 0, .ref a16, .int (-1), .int (-1), .ref a17, .ref a18, .int 0, .ref a19, .int 0, .int 0, .ref a20, .ref a21, .int 0, .int 0, .ref a22, .int 0, .int 0, .int 0, .int 0])), (a2, .inl (T 0, 329, .inl cn45))]) M w 0 0 clX12 rfl (by decide) G1467 rfl rfl rfl rfl (Nat.le_of_ble_eq_true rfl) rfl dX12_near_2 (fun H locs w => ?_)
  refine lv_aload_n hx hb dX12_near_5 rfl (lv_at hl 0 rfl) ?_
  refine lv_iload_n hx hb dX12_near_6 rfl (lv_at hl 1 rfl) ?_
  refine k_I (ce := 0) (sl := 0) (rest := []) (wr := []) (r_V (f := 1) [0, 1] M w V_HookedCityModel_240 G1740 G68 (c72_X12_isPerson l D T _ a0 a1 a2 a3 a4 a5 a6 a7 a8 a9 a10 a11 a12 a13 a14 a15 a16 a17 a18 a19 a20 a21 a22 x0) 0 clX12 rfl rfl (by decide) rfl hl.1 rfl (Nat.le_of_ble_eq_true rfl) dX12_near_7 (by decide) (by decide) (by decide) (by decide)) w [0, 1] [] rfl rfl (by decide) (by decide) rfl rfl (fun v _ H locs hp w => ?_)
  have hp : (0 : Int32) = v := hp
  subst hp
  have w : WD D A s.heap [(a0, .inr (11, [.int 0, .ref a1, .int 0, .int 0, .int 0, .int 0, .int 0, .int 0, .int 0, .int 0, .int 0, .int 0, .long 0, .int 0, .ref a2, .ref a3, .ref a4, .ref a5, .ref a6, .ref a7, .ref a8, .ref a9, .ref a10, .ref a11, .int 0, .ref a12, .ref a13, .ref a14, .ref a15, .int 0, .int 0, .int 0, .ref a16, .int (-1), .int (-1), .ref a17, .ref a18, .int 0, .ref a19, .int 0, .int 0, .ref a20, .ref a21, .int 0, .int 0, .ref a22, .int 0, .int 0, .int 0, .int 0])), (a2, .inl (T 0, 329, .inl cn45))] H locs := w
  refine lv_if_eq (tgt := 25) hx hb dX12_near_10 (by decide) (fun _ => ?_) (fun c => absurd (by decide +kernel) c)
  refine lv_iconst (v := (-1)) hx hb dX12_near_25 (by decide) ?_
  exact ret _ () _ _ _ _ _ [] dX12_near_26 rfl w (by decide) rfl
set_option maxRecDepth 100000 in
set_option maxHeartbeats 4000000 in
theorem c114_X11_could (l : Launch) (D : va_G) (T : Nat → ClassId) (sz : Nat) (a0 a1 a2 a3 a4 a5 a6 a7 a8 a9 a10 a11 a12 a13 a14 a15 a16 a17 a18 a19 a20 a21 a22 a23 : Nat) (x0 : Int32) : Met l yX11_could (Cond.code yX11_could cX11_could 2 (some .int) :: GW) (Rm 1 0 0) (cPre [.ref a0, .int x0] D T [(a0, .inr (10, [.ref a1, .ref a2, .ref a3, .ref a4, .ref a5, .ref a6, .ref a7, .ref a8, .ref a9, .ref a10, .ref a11, .ref a12, .ref a13, .ref a14, .int 0, .int 0, .int 0])), (a11, .inr (9, [.ref a15, .ref a16, .ref a17, .ref a18, .ref a19, .ref a20, .ref a21, .ref a22, .ref a23, .int 0, .int 0, .int 0, .int 0, .int 12, .int 1, .int 0, .int 0, .int 0]))] sz) (qI D [(a0, .inr (10, [.ref a1, .ref a2, .ref a3, .ref a4, .ref a5, .ref a6, .ref a7, .ref a8, .ref a9, .ref a10, .ref a11, .ref a12, .ref a13, .ref a14, .int 0, .int 0, .int 0])), (a11, .inr (9, [.ref a15, .ref a16, .ref a17, .ref a18, .ref a19, .ref a20, .ref a21, .ref a22, .ref a23, .int 0, .int 0, .int 0, .int 0, .int 12, .int 1, .int 0, .int 0, .int 0]))] sz (fun (v : Int32) (u : Unit) => (-1 : Int32) = v) (fun u => [])) 0 0 (va_A [(a0, .inr (10, [.ref a1, .ref a2, .ref a3, .ref a4, .ref a5, .ref a6, .ref a7, .ref a8, .ref a9, .ref a10, .ref a11, .ref a12, .ref a13, .ref a14, .int 0, .int 0, .int 0])), (a11, .inr (9, [.ref a15, .ref a16, .ref a17, .ref a18, .ref a19, .ref a20, .ref a21, .ref a22, .ref a23, .int 0, .int 0, .int 0, .int 0, .int 12, .int 1, .int 0, .int 0, .int 0]))] sz) := by
  refine e_I (by decide) (Nat.le_of_ble_eq_true rfl) ?_
  intro p e s m args below meth c A Q ls M hin w ret hl
  have hx := M.1.1
  have hb := M.1.2.1
  have hl : lv_has ls 2 [(0, .ref a0), (1, .int x0)] := hl
  refine lv_aload_n hx hb dX11_could_0 rfl (lv_at hl 0 rfl) ?_
  refine lv_iload_n hx hb dX11_could_1 rfl (lv_at hl 1 rfl) ?_
  refine k_I (ce := 0) (sl := 0) (rest := []) (wr := []) (r_V (f := 0) [0, 1] M w V_HookedCity_134 G841 G16 (c70_X11_isPerson l D T _ a0 a1 a2 a3 a4 a5 a6 a7 a8 a9 a10 a11 a12 a13 a14 a15 a16 a17 a18 a19 a20 a21 a22 a23 x0) 0 clX11 rfl rfl (by decide) rfl hl.1 rfl (Nat.le_of_ble_eq_true rfl) dX11_could_2 (by decide) (by decide) (by decide) (by decide)) w [0, 1] [] rfl rfl (by decide) (by decide) rfl rfl (fun v _ H locs hp w => ?_)
  have hp : (0 : Int32) = v := hp
  subst hp
  have w : WD D A s.heap [(a0, .inr (10, [.ref a1, .ref a2, .ref a3, .ref a4, .ref a5, .ref a6, .ref a7, .ref a8, .ref a9, .ref a10, .ref a11, .ref a12, .ref a13, .ref a14, .int 0, .int 0, .int 0])), (a11, .inr (9, [.ref a15, .ref a16, .ref a17, .ref a18, .ref a19, .ref a20, .ref a21, .ref a22, .ref a23, .int 0, .int 0, .int 0, .int 0, .int 12, .int 1, .int 0, .int 0, .int 0]))] H locs := w
  refine lv_if_eq (tgt := 23) hx hb dX11_could_5 (by decide) (fun _ => ?_) (fun c => absurd (by decide +kernel) c)
  refine lv_iconst (v := (-1)) hx hb dX11_could_23 (by decide) ?_
  exact ret _ () _ _ _ _ _ [] dX11_could_24 rfl w (by decide) rfl
set_option maxRecDepth 100000 in
set_option maxHeartbeats 4000000 in
theorem c115_X12_could (l : Launch) (D : va_G) (T : Nat → ClassId) (sz : Nat) (a0 a1 a2 a3 a4 a5 a6 a7 a8 a9 a10 a11 a12 a13 a14 a15 a16 a17 a18 a19 a20 a21 a22 : Nat) (x0 : Int32) : Met l yX12_could (Cond.code yX12_could cX12_could 4 (some .int) :: GW) (Rm 2 0 0) (cPre [.ref a0, .int x0] D T [(a0, .inr (11, [.int 0, .ref a1, .int 0, .int 0, .int 0, .int 0, .int 0, .int 0, .int 0, .int 0, .int 0, .int 0, .long 0, .int 0, .ref a2, .ref a3, .ref a4, .ref a5, .ref a6, .ref a7, .ref a8, .ref a9, .ref a10, .ref a11, .int 0, .ref a12, .ref a13, .ref a14, .ref a15, .int 0, .int 0, .int 0, .ref a16, .int (-1), .int (-1), .ref a17, .ref a18, .int 0, .ref a19, .int 0, .int 0, .ref a20, .ref a21, .int 0, .int 0, .ref a22, .int 0, .int 0, .int 0, .int 0])), (a2, .inl (T 0, 329, .inl cn45))] sz) (qI D [(a0, .inr (11, [.int 0, .ref a1, .int 0, .int 0, .int 0, .int 0, .int 0, .int 0, .int 0, .int 0, .int 0, .int 0, .long 0, .int 0, .ref a2, .ref a3, .ref a4, .ref a5, .ref a6, .ref a7, .ref a8, .ref a9, .ref a10, .ref a11, .int 0, .ref a12, .ref a13, .ref a14, .ref a15, .int 0, .int 0, .int 0, .ref a16, .int (-1), .int (-1), .ref a17, .ref a18, .int 0, .ref a19, .int 0, .int 0, .ref a20, .ref a21, .int 0, .int 0, .ref a22, .int 0, .int 0, .int 0, .int 0])), (a2, .inl (T 0, 329, .inl cn45))] sz (fun (v : Int32) (u : Unit) => (-1 : Int32) = v) (fun u => [])) 0 0 (va_A [(a0, .inr (11, [.int 0, .ref a1, .int 0, .int 0, .int 0, .int 0, .int 0, .int 0, .int 0, .int 0, .int 0, .int 0, .long 0, .int 0, .ref a2, .ref a3, .ref a4, .ref a5, .ref a6, .ref a7, .ref a8, .ref a9, .ref a10, .ref a11, .int 0, .ref a12, .ref a13, .ref a14, .ref a15, .int 0, .int 0, .int 0, .ref a16, .int (-1), .int (-1), .ref a17, .ref a18, .int 0, .ref a19, .int 0, .int 0, .ref a20, .ref a21, .int 0, .int 0, .ref a22, .int 0, .int 0, .int 0, .int 0])), (a2, .inl (T 0, 329, .inl cn45))] sz) := by
  refine e_I (by decide) (Nat.le_of_ble_eq_true rfl) ?_
  intro p e s m args below meth c A Q ls M hin w ret hl
  have hx := M.1.1
  have hb := M.1.2.1
  have hl : lv_has ls 4 [(0, .ref a0), (1, .int x0)] := hl
  refine lv_aload_n hx hb dX12_could_0 rfl (lv_at hl 0 rfl) ?_
  refine lv_iconst (v := 0) hx hb dX12_could_1 (by decide) ?_
  refine r_put (ws' := [(a0, .inr (11, [.int 0, .ref a1, .int 0, .int 0, .int 0, .int 0, .int 0, .int 0, .int 0, .int 0, .int 0, .int 0, .long 0, .int 0, .ref a2, .ref a3, .ref a4, .ref a5, .ref a6, .ref a7, .ref a8, .ref a9, .ref a10, .ref a11, .int 0, .ref a12, .ref a13, .ref a14, .ref a15, .int 0, .int 0, .int 0, .ref a16, .int (-1), .int (-1), .ref a17, .ref a18, .int 0, .ref a19, .int 0, .int 0, .ref a20, .ref a21, .int 0, .int 0, .ref a22, .int 0, .int 0, .int 0, .int 0])), (a2, .inl (T 0, 329, .inl cn45))]) M w 0 0 clX12 rfl (by decide) G1467 rfl rfl rfl rfl (Nat.le_of_ble_eq_true rfl) rfl dX12_could_2 (fun H locs w => ?_)
  refine lv_aload_n hx hb dX12_could_5 rfl (lv_at hl 0 rfl) ?_
  refine lv_iload_n hx hb dX12_could_6 rfl (lv_at hl 1 rfl) ?_
  refine k_I (ce := 0) (sl := 0) (rest := []) (wr := []) (r_V (f := 1) [0, 1] M w V_HookedCityModel_240 G1740 G68 (c72_X12_isPerson l D T _ a0 a1 a2 a3 a4 a5 a6 a7 a8 a9 a10 a11 a12 a13 a14 a15 a16 a17 a18 a19 a20 a21 a22 x0) 0 clX12 rfl rfl (by decide) rfl hl.1 rfl (Nat.le_of_ble_eq_true rfl) dX12_could_7 (by decide) (by decide) (by decide) (by decide)) w [0, 1] [] rfl rfl (by decide) (by decide) rfl rfl (fun v _ H locs hp w => ?_)
  have hp : (0 : Int32) = v := hp
  subst hp
  have w : WD D A s.heap [(a0, .inr (11, [.int 0, .ref a1, .int 0, .int 0, .int 0, .int 0, .int 0, .int 0, .int 0, .int 0, .int 0, .int 0, .long 0, .int 0, .ref a2, .ref a3, .ref a4, .ref a5, .ref a6, .ref a7, .ref a8, .ref a9, .ref a10, .ref a11, .int 0, .ref a12, .ref a13, .ref a14, .ref a15, .int 0, .int 0, .int 0, .ref a16, .int (-1), .int (-1), .ref a17, .ref a18, .int 0, .ref a19, .int 0, .int 0, .ref a20, .ref a21, .int 0, .int 0, .ref a22, .int 0, .int 0, .int 0, .int 0])), (a2, .inl (T 0, 329, .inl cn45))] H locs := w
  refine lv_if_ne (tgt := 15) hx hb dX12_could_10 (by decide) (fun c => absurd (by decide +kernel) c) (fun _ => ?_)
  refine lv_iconst (v := (-1)) hx hb dX12_could_13 (by decide) ?_
  exact ret _ () _ _ _ _ _ [] dX12_could_14 rfl w (by decide) rfl
set_option maxRecDepth 100000 in
set_option maxHeartbeats 4000000 in
theorem c116_X11_card (l : Launch) (D : va_G) (T : Nat → ClassId) (sz : Nat) (a0 a1 a2 a3 a4 a5 a6 a7 a8 a9 a10 a11 a12 a13 a14 a15 a16 a17 a18 a19 a20 a21 a22 a23 : Nat) (x0 : Int32) : Met l yX11_card (Cond.code yX11_card cX11_card 2 (some .int) :: GW) (Rm 1 0 0) (cPre [.ref a0, .int x0] D T [(a0, .inr (10, [.ref a1, .ref a2, .ref a3, .ref a4, .ref a5, .ref a6, .ref a7, .ref a8, .ref a9, .ref a10, .ref a11, .ref a12, .ref a13, .ref a14, .int 0, .int 0, .int 0])), (a11, .inr (9, [.ref a15, .ref a16, .ref a17, .ref a18, .ref a19, .ref a20, .ref a21, .ref a22, .ref a23, .int 0, .int 0, .int 0, .int 0, .int 12, .int 1, .int 0, .int 0, .int 0]))] sz) (qI D [(a0, .inr (10, [.ref a1, .ref a2, .ref a3, .ref a4, .ref a5, .ref a6, .ref a7, .ref a8, .ref a9, .ref a10, .ref a11, .ref a12, .ref a13, .ref a14, .int 0, .int 0, .int 0])), (a11, .inr (9, [.ref a15, .ref a16, .ref a17, .ref a18, .ref a19, .ref a20, .ref a21, .ref a22, .ref a23, .int 0, .int 0, .int 0, .int 0, .int 12, .int 1, .int 0, .int 0, .int 0]))] sz (fun (v : Int32) (u : Unit) => (-1 : Int32) = v) (fun u => [])) 0 0 (va_A [(a0, .inr (10, [.ref a1, .ref a2, .ref a3, .ref a4, .ref a5, .ref a6, .ref a7, .ref a8, .ref a9, .ref a10, .ref a11, .ref a12, .ref a13, .ref a14, .int 0, .int 0, .int 0])), (a11, .inr (9, [.ref a15, .ref a16, .ref a17, .ref a18, .ref a19, .ref a20, .ref a21, .ref a22, .ref a23, .int 0, .int 0, .int 0, .int 0, .int 12, .int 1, .int 0, .int 0, .int 0]))] sz) := by
  refine e_I (by decide) (Nat.le_of_ble_eq_true rfl) ?_
  intro p e s m args below meth c A Q ls M hin w ret hl
  have hx := M.1.1
  have hb := M.1.2.1
  have hl : lv_has ls 2 [(0, .ref a0), (1, .int x0)] := hl
  refine lv_aload_n hx hb dX11_card_0 rfl (lv_at hl 0 rfl) ?_
  refine lv_iload_n hx hb dX11_card_1 rfl (lv_at hl 1 rfl) ?_
  refine k_I (ce := 0) (sl := 0) (rest := []) (wr := []) (r_V (f := 0) [0, 1] M w V_HookedCity_134 G841 G16 (c70_X11_isPerson l D T _ a0 a1 a2 a3 a4 a5 a6 a7 a8 a9 a10 a11 a12 a13 a14 a15 a16 a17 a18 a19 a20 a21 a22 a23 x0) 0 clX11 rfl rfl (by decide) rfl hl.1 rfl (Nat.le_of_ble_eq_true rfl) dX11_card_2 (by decide) (by decide) (by decide) (by decide)) w [0, 1] [] rfl rfl (by decide) (by decide) rfl rfl (fun v _ H locs hp w => ?_)
  have hp : (0 : Int32) = v := hp
  subst hp
  have w : WD D A s.heap [(a0, .inr (10, [.ref a1, .ref a2, .ref a3, .ref a4, .ref a5, .ref a6, .ref a7, .ref a8, .ref a9, .ref a10, .ref a11, .ref a12, .ref a13, .ref a14, .int 0, .int 0, .int 0])), (a11, .inr (9, [.ref a15, .ref a16, .ref a17, .ref a18, .ref a19, .ref a20, .ref a21, .ref a22, .ref a23, .int 0, .int 0, .int 0, .int 0, .int 12, .int 1, .int 0, .int 0, .int 0]))] H locs := w
  refine lv_if_eq (tgt := 27) hx hb dX11_card_5 (by decide) (fun _ => ?_) (fun c => absurd (by decide +kernel) c)
  refine lv_iconst (v := (-1)) hx hb dX11_card_27 (by decide) ?_
  exact ret _ () _ _ _ _ _ [] dX11_card_28 rfl w (by decide) rfl
set_option maxRecDepth 100000 in
set_option maxHeartbeats 4000000 in
theorem c117_X12_card (l : Launch) (D : va_G) (T : Nat → ClassId) (sz : Nat) (a0 a1 a2 a3 a4 a5 a6 a7 a8 a9 a10 a11 a12 a13 a14 a15 a16 a17 a18 a19 a20 a21 a22 : Nat) (x0 : Int32) : Met l yX12_card (Cond.code yX12_card cX12_card 2 (some .int) :: GW) (Rm 2 0 0) (cPre [.ref a0, .int x0] D T [(a0, .inr (11, [.int 0, .ref a1, .int 0, .int 0, .int 0, .int 0, .int 0, .int 0, .int 0, .int 0, .int 0, .int 0, .long 0, .int 0, .ref a2, .ref a3, .ref a4, .ref a5, .ref a6, .ref a7, .ref a8, .ref a9, .ref a10, .ref a11, .int 0, .ref a12, .ref a13, .ref a14, .ref a15, .int 0, .int 0, .int 0, .ref a16, .int (-1), .int (-1), .ref a17, .ref a18, .int 0, .ref a19, .int 0, .int 0, .ref a20, .ref a21, .int 0, .int 0, .ref a22, .int 0, .int 0, .int 0, .int 0])), (a2, .inl (T 0, 329, .inl cn45))] sz) (qI D [(a0, .inr (11, [.int 0, .ref a1, .int 0, .int 0, .int 0, .int 0, .int 0, .int 0, .int 0, .int 0, .int 0, .int 0, .long 0, .int 0, .ref a2, .ref a3, .ref a4, .ref a5, .ref a6, .ref a7, .ref a8, .ref a9, .ref a10, .ref a11, .int 0, .ref a12, .ref a13, .ref a14, .ref a15, .int 0, .int 0, .int 0, .ref a16, .int (-1), .int (-1), .ref a17, .ref a18, .int 0, .ref a19, .int 0, .int 0, .ref a20, .ref a21, .int 0, .int 0, .ref a22, .int 0, .int 0, .int 0, .int 0])), (a2, .inl (T 0, 329, .inl cn45))] sz (fun (v : Int32) (u : Unit) => (-1 : Int32) = v) (fun u => [])) 0 0 (va_A [(a0, .inr (11, [.int 0, .ref a1, .int 0, .int 0, .int 0, .int 0, .int 0, .int 0, .int 0, .int 0, .int 0, .int 0, .long 0, .int 0, .ref a2, .ref a3, .ref a4, .ref a5, .ref a6, .ref a7, .ref a8, .ref a9, .ref a10, .ref a11, .int 0, .ref a12, .ref a13, .ref a14, .ref a15, .int 0, .int 0, .int 0, .ref a16, .int (-1), .int (-1), .ref a17, .ref a18, .int 0, .ref a19, .int 0, .int 0, .ref a20, .ref a21, .int 0, .int 0, .ref a22, .int 0, .int 0, .int 0, .int 0])), (a2, .inl (T 0, 329, .inl cn45))] sz) := by
  refine e_I (by decide) (Nat.le_of_ble_eq_true rfl) ?_
  intro p e s m args below meth c A Q ls M hin w ret hl
  have hx := M.1.1
  have hb := M.1.2.1
  have hl : lv_has ls 2 [(0, .ref a0), (1, .int x0)] := hl
  refine lv_aload_n hx hb dX12_card_0 rfl (lv_at hl 0 rfl) ?_
  refine lv_iconst (v := 0) hx hb dX12_card_1 (by decide) ?_
  refine r_put (ws' := [(a0, .inr (11, [.int 0, .ref a1, .int 0, .int 0, .int 0, .int 0, .int 0, .int 0, .int 0, .int 0, .int 0, .int 0, .long 0, .int 0, .ref a2, .ref a3, .ref a4, .ref a5, .ref a6, .ref a7, .ref a8, .ref a9, .ref a10, .ref a11, .int 0, .ref a12, .ref a13, .ref a14, .ref a15, .int 0, .int 0, .int 0, .ref a16, .int (-1), .int (-1), .ref a17, .ref a18, .int 0, .ref a19, .int 0, .int 0, .ref a20, .ref a21, .int 0, .int 0, .ref a22, .int 0, .int 0, .int 0, .int 0])), (a2, .inl (T 0, 329, .inl cn45))]) M w 0 0 clX12 rfl (by decide) G1467 rfl rfl rfl rfl (Nat.le_of_ble_eq_true rfl) rfl dX12_card_2 (fun H locs w => ?_)
  refine lv_aload_n hx hb dX12_card_5 rfl (lv_at hl 0 rfl) ?_
  refine lv_iload_n hx hb dX12_card_6 rfl (lv_at hl 1 rfl) ?_
  refine k_I (ce := 0) (sl := 0) (rest := []) (wr := []) (r_V (f := 1) [0, 1] M w V_HookedCityModel_240 G1740 G68 (c72_X12_isPerson l D T _ a0 a1 a2 a3 a4 a5 a6 a7 a8 a9 a10 a11 a12 a13 a14 a15 a16 a17 a18 a19 a20 a21 a22 x0) 0 clX12 rfl rfl (by decide) rfl hl.1 rfl (Nat.le_of_ble_eq_true rfl) dX12_card_7 (by decide) (by decide) (by decide) (by decide)) w [0, 1] [] rfl rfl (by decide) (by decide) rfl rfl (fun v _ H locs hp w => ?_)
  have hp : (0 : Int32) = v := hp
  subst hp
  have w : WD D A s.heap [(a0, .inr (11, [.int 0, .ref a1, .int 0, .int 0, .int 0, .int 0, .int 0, .int 0, .int 0, .int 0, .int 0, .int 0, .long 0, .int 0, .ref a2, .ref a3, .ref a4, .ref a5, .ref a6, .ref a7, .ref a8, .ref a9, .ref a10, .ref a11, .int 0, .ref a12, .ref a13, .ref a14, .ref a15, .int 0, .int 0, .int 0, .ref a16, .int (-1), .int (-1), .ref a17, .ref a18, .int 0, .ref a19, .int 0, .int 0, .ref a20, .ref a21, .int 0, .int 0, .ref a22, .int 0, .int 0, .int 0, .int 0])), (a2, .inl (T 0, 329, .inl cn45))] H locs := w
  refine lv_if_ne (tgt := 15) hx hb dX12_card_10 (by decide) (fun c => absurd (by decide +kernel) c) (fun _ => ?_)
  refine lv_iconst (v := (-1)) hx hb dX12_card_13 (by decide) ?_
  exact ret _ () _ _ _ _ _ [] dX12_card_14 rfl w (by decide) rfl
set_option maxRecDepth 100000 in
set_option maxHeartbeats 4000000 in
theorem c118_X11_byteAt (l : Launch) (D : va_G) (T : Nat → ClassId) (sz : Nat) (a0 a1 a2 a3 a4 a5 a6 a7 a8 a9 a10 a11 a12 a13 a14 a15 : Nat) (x0 : Int32) : Met l yX11_byteAt (Cond.code yX11_byteAt cX11_byteAt 2 (some .int) :: GW) (Rm 0 0 0) (cPre [.ref a0, .int x0] D T [(a0, .inr (10, [.ref a1, .ref a2, .ref a3, .ref a4, .ref a5, .ref a6, .ref a7, .ref a8, .ref a9, .ref a10, .ref a11, .ref a12, .ref a13, .ref a14, .int 0, .int 0, .int 0])), (a8, .inr (2, [.ref a15, .int 0]))] sz) (qI D [(a0, .inr (10, [.ref a1, .ref a2, .ref a3, .ref a4, .ref a5, .ref a6, .ref a7, .ref a8, .ref a9, .ref a10, .ref a11, .ref a12, .ref a13, .ref a14, .int 0, .int 0, .int 0])), (a8, .inr (2, [.ref a15, .int 0]))] sz (fun (v : Int32) (u : Unit) => (-1 : Int32) = v) (fun u => [])) 0 0 (va_A [(a0, .inr (10, [.ref a1, .ref a2, .ref a3, .ref a4, .ref a5, .ref a6, .ref a7, .ref a8, .ref a9, .ref a10, .ref a11, .ref a12, .ref a13, .ref a14, .int 0, .int 0, .int 0])), (a8, .inr (2, [.ref a15, .int 0]))] sz) := by
  refine e_I (by decide) (Nat.le_of_ble_eq_true rfl) ?_
  intro p e s m args below meth c A Q ls M hin w ret hl
  have hx := M.1.1
  have hb := M.1.2.1
  have hl : lv_has ls 2 [(0, .ref a0), (1, .int x0)] := hl
  refine lv_iload_n hx hb dX11_byteAt_0 rfl (lv_at hl 1 rfl) ?_
  refine lv_if_lt (tgt := 27) hx hb dX11_byteAt_1 (by decide) (fun c_1 => ?_) (fun c_1 => ?_)
  · refine lv_iconst (v := (-1)) hx hb dX11_byteAt_27 (by decide) ?_
    exact ret _ () _ _ _ _ _ [] dX11_byteAt_28 rfl w (by decide) rfl
  · refine lv_iload_n hx hb dX11_byteAt_4 rfl (lv_at hl 1 rfl) ?_
    refine lv_aload_n hx hb dX11_byteAt_5 rfl (lv_at hl 0 rfl) ?_
    refine r_get (v := .ref a8) M w 0 7 clX11 rfl (by decide) G504 rfl rfl dX11_byteAt_6 ?_
    refine r_getN (v := .int 0) M w 1 1 clX2 rfl (by decide) N351 rfl rfl dX11_byteAt_9 ?_
    refine lv_icmp_ge (tgt := 27) hx hb dX11_byteAt_12 (by decide) (fun c_2 => ?_) (fun c_2 => ?_)
    · refine lv_iconst (v := (-1)) hx hb dX11_byteAt_27 (by decide) ?_
      exact ret _ () _ _ _ _ _ [] dX11_byteAt_28 rfl w (by decide) rfl
    · exfalso
      simp only [fa_lt, fa_le, fa_eq] at c_1 c_2
      have e0 : (0 : Int32).toInt = 0 := (by decide)
      omega
set_option maxRecDepth 100000 in
set_option maxHeartbeats 4000000 in
theorem c119_X12_byteAt (l : Launch) (D : va_G) (T : Nat → ClassId) (sz : Nat) (a0 a1 a2 a3 a4 a5 a6 a7 a8 a9 a10 a11 a12 a13 a14 a15 a16 a17 a18 a19 a20 a21 a22 : Nat) (x0 : Int32) : Met l yX12_byteAt (Cond.code yX12_byteAt cX12_byteAt 2 (some .int) :: GW) (Rm 1 0 0) (cPre [.ref a0, .int x0] D T [(a0, .inr (11, [.int 0, .ref a1, .int 0, .int 0, .int 0, .int 0, .int 0, .int 0, .int 0, .int 0, .int 0, .int 0, .long 0, .int 0, .ref a2, .ref a3, .ref a4, .ref a5, .ref a6, .ref a7, .ref a8, .ref a9, .ref a10, .ref a11, .int 0, .ref a12, .ref a13, .ref a14, .ref a15, .int 0, .int 0, .int 0, .ref a16, .int (-1), .int (-1), .ref a17, .ref a18, .int 0, .ref a19, .int 0, .int 0, .ref a20, .ref a21, .int 0, .int 0, .ref a22, .int 0, .int 0, .int 0, .int 0]))] sz) (qI D [(a0, .inr (11, [.int 0, .ref a1, .int 0, .int 0, .int 0, .int 0, .int 0, .int 0, .int 0, .int 0, .int 0, .int 0, .long 0, .int 0, .ref a2, .ref a3, .ref a4, .ref a5, .ref a6, .ref a7, .ref a8, .ref a9, .ref a10, .ref a11, .int 0, .ref a12, .ref a13, .ref a14, .ref a15, .int 0, .int 0, .int 0, .ref a16, .int (-1), .int (-1), .ref a17, .ref a18, .int 0, .ref a19, .int 0, .int 0, .ref a20, .ref a21, .int 0, .int 0, .ref a22, .int 0, .int 0, .int 0, .int 0]))] sz (fun (v : Int32) (u : Unit) => (-1 : Int32) = v) (fun u => [])) 0 0 (va_A [(a0, .inr (11, [.int 0, .ref a1, .int 0, .int 0, .int 0, .int 0, .int 0, .int 0, .int 0, .int 0, .int 0, .int 0, .long 0, .int 0, .ref a2, .ref a3, .ref a4, .ref a5, .ref a6, .ref a7, .ref a8, .ref a9, .ref a10, .ref a11, .int 0, .ref a12, .ref a13, .ref a14, .ref a15, .int 0, .int 0, .int 0, .ref a16, .int (-1), .int (-1), .ref a17, .ref a18, .int 0, .ref a19, .int 0, .int 0, .ref a20, .ref a21, .int 0, .int 0, .ref a22, .int 0, .int 0, .int 0, .int 0]))] sz) := by
  refine e_I (by decide) (Nat.le_of_ble_eq_true rfl) ?_
  intro p e s m args below meth c A Q ls M hin w ret hl
  have hx := M.1.1
  have hb := M.1.2.1
  have hl : lv_has ls 2 [(0, .ref a0), (1, .int x0)] := hl
  refine lv_aload_n hx hb dX12_byteAt_0 rfl (lv_at hl 0 rfl) ?_
  refine lv_iconst (v := 0) hx hb dX12_byteAt_1 (by decide) ?_
  refine r_put (ws' := [(a0, .inr (11, [.int 0, .ref a1, .int 0, .int 0, .int 0, .int 0, .int 0, .int 0, .int 0, .int 0, .int 0, .int 0, .long 0, .int 0, .ref a2, .ref a3, .ref a4, .ref a5, .ref a6, .ref a7, .ref a8, .ref a9, .ref a10, .ref a11, .int 0, .ref a12, .ref a13, .ref a14, .ref a15, .int 0, .int 0, .int 0, .ref a16, .int (-1), .int (-1), .ref a17, .ref a18, .int 0, .ref a19, .int 0, .int 0, .ref a20, .ref a21, .int 0, .int 0, .ref a22, .int 0, .int 0, .int 0, .int 0]))]) M w 0 0 clX12 rfl (by decide) G1467 rfl rfl rfl rfl (Nat.le_of_ble_eq_true rfl) rfl dX12_byteAt_2 (fun H locs w => ?_)
  refine lv_iload_n hx hb dX12_byteAt_5 rfl (lv_at hl 1 rfl) ?_
  refine lv_iconst (v := 0) hx hb dX12_byteAt_6 (by decide) ?_
  refine lv_aload_n hx hb dX12_byteAt_7 rfl (lv_at hl 0 rfl) ?_
  refine r_get (v := .int 0) M w 0 39 clX12 rfl (by decide) G1506 rfl rfl dX12_byteAt_8 ?_
  refine lv_iconst (v := 1) hx hb dX12_byteAt_11 (by decide) ?_
  refine r_isub (v := (-1 : Int32)) M (by decide +kernel) dX12_byteAt_12 ?_
  refine k_I (ce := 0) (sl := 0) (rest := []) (wr := [(a0, .inr (11, [.int 0, .ref a1, .int 0, .int 0, .int 0, .int 0, .int 0, .int 0, .int 0, .int 0, .int 0, .int 0, .long 0, .int 0, .ref a2, .ref a3, .ref a4, .ref a5, .ref a6, .ref a7, .ref a8, .ref a9, .ref a10, .ref a11, .int 0, .ref a12, .ref a13, .ref a14, .ref a15, .int 0, .int 0, .int 0, .ref a16, .int (-1), .int (-1), .ref a17, .ref a18, .int 0, .ref a19, .int 0, .int 0, .ref a20, .ref a21, .int 0, .int 0, .ref a22, .int 0, .int 0, .int 0, .int 0]))]) (r_S (f := 0) [] M w V_HookedCityModel_75 G1697 (c53_X12_isIn l D T _ x0) rfl (by decide) rfl hl.1 rfl (Nat.le_of_ble_eq_true rfl) dX12_byteAt_13 (by decide) (by decide) (by decide) (by decide)) w [] [0] rfl rfl (by decide) (by decide) rfl rfl (fun v _ H locs hp w => ?_)
  have hp : (0 : Int32) = v := hp
  subst hp
  have w : WD D A s.heap [(a0, .inr (11, [.int 0, .ref a1, .int 0, .int 0, .int 0, .int 0, .int 0, .int 0, .int 0, .int 0, .int 0, .int 0, .long 0, .int 0, .ref a2, .ref a3, .ref a4, .ref a5, .ref a6, .ref a7, .ref a8, .ref a9, .ref a10, .ref a11, .int 0, .ref a12, .ref a13, .ref a14, .ref a15, .int 0, .int 0, .int 0, .ref a16, .int (-1), .int (-1), .ref a17, .ref a18, .int 0, .ref a19, .int 0, .int 0, .ref a20, .ref a21, .int 0, .int 0, .ref a22, .int 0, .int 0, .int 0, .int 0]))] H locs := w
  refine lv_if_eq (tgt := 28) hx hb dX12_byteAt_16 (by decide) (fun _ => ?_) (fun c => absurd (by decide +kernel) c)
  refine lv_iconst (v := (-1)) hx hb dX12_byteAt_28 (by decide) ?_
  exact ret _ () _ _ _ _ _ [] dX12_byteAt_29 rfl w (by decide) rfl
set_option maxRecDepth 100000 in
set_option maxHeartbeats 4000000 in
theorem c120_X11_drawn (l : Launch) (D : va_G) (T : Nat → ClassId) (sz : Nat) (a0 a1 a2 a3 a4 a5 a6 a7 a8 a9 a10 a11 a12 a13 a14 a15 a16 a17 a18 a19 a20 a21 a22 a23 : Nat) (x0 : Int32) (x1 : Int32) : Met l yX11_drawn (Cond.code yX11_drawn cX11_drawn 3 (some .int) :: GW) (Rm 0 0 0) (cPre [.ref a0, .int x0, .int x1] D T [(a0, .inr (10, [.ref a1, .ref a2, .ref a3, .ref a4, .ref a5, .ref a6, .ref a7, .ref a8, .ref a9, .ref a10, .ref a11, .ref a12, .ref a13, .ref a14, .int 0, .int 0, .int 0])), (a11, .inr (9, [.ref a15, .ref a16, .ref a17, .ref a18, .ref a19, .ref a20, .ref a21, .ref a22, .ref a23, .int 0, .int 0, .int 0, .int 0, .int 12, .int 1, .int 0, .int 0, .int 0]))] sz) (qI D [(a0, .inr (10, [.ref a1, .ref a2, .ref a3, .ref a4, .ref a5, .ref a6, .ref a7, .ref a8, .ref a9, .ref a10, .ref a11, .ref a12, .ref a13, .ref a14, .int 0, .int 0, .int 0])), (a11, .inr (9, [.ref a15, .ref a16, .ref a17, .ref a18, .ref a19, .ref a20, .ref a21, .ref a22, .ref a23, .int 0, .int 0, .int 0, .int 0, .int 12, .int 1, .int 0, .int 0, .int 0]))] sz (fun (v : Int32) (u : Unit) => (-1 : Int32) = v) (fun u => [])) 0 0 (va_A [(a0, .inr (10, [.ref a1, .ref a2, .ref a3, .ref a4, .ref a5, .ref a6, .ref a7, .ref a8, .ref a9, .ref a10, .ref a11, .ref a12, .ref a13, .ref a14, .int 0, .int 0, .int 0])), (a11, .inr (9, [.ref a15, .ref a16, .ref a17, .ref a18, .ref a19, .ref a20, .ref a21, .ref a22, .ref a23, .int 0, .int 0, .int 0, .int 0, .int 12, .int 1, .int 0, .int 0, .int 0]))] sz) := by
  refine e_I (by decide) (Nat.le_of_ble_eq_true rfl) ?_
  intro p e s m args below meth c A Q ls M hin w ret hl
  have hx := M.1.1
  have hb := M.1.2.1
  have hl : lv_has ls 3 [(0, .ref a0), (1, .int x0), (2, .int x1)] := hl
  refine lv_iload_n hx hb dX11_drawn_0 rfl (lv_at hl 1 rfl) ?_
  refine lv_iconst (v := 1) hx hb dX11_drawn_1 (by decide) ?_
  refine lv_icmp_lt (tgt := 21) hx hb dX11_drawn_2 (by decide) (fun c_1 => ?_) (fun c_1 => ?_)
  · refine lv_iconst (v := (-1)) hx hb dX11_drawn_21 (by decide) ?_
    exact ret _ () _ _ _ _ _ [] dX11_drawn_22 rfl w (by decide) rfl
  · refine lv_iload_n hx hb dX11_drawn_5 rfl (lv_at hl 1 rfl) ?_
    refine lv_bipush (v := 60) hx hb dX11_drawn_6 (by decide) ?_
    refine lv_icmp_gt (tgt := 21) hx hb dX11_drawn_8 (by decide) (fun c_2 => ?_) (fun c_2 => ?_)
    · refine lv_iconst (v := (-1)) hx hb dX11_drawn_21 (by decide) ?_
      exact ret _ () _ _ _ _ _ [] dX11_drawn_22 rfl w (by decide) rfl
    · refine lv_aload_n hx hb dX11_drawn_11 rfl (lv_at hl 0 rfl) ?_
      refine r_get (v := .ref a11) M w 0 10 clX11 rfl (by decide) G507 rfl rfl dX11_drawn_12 ?_
      refine r_getN (v := .int 0) M w 1 10 clX9 rfl (by decide) N395 rfl rfl dX11_drawn_15 ?_
      refine lv_if_ne (tgt := 23) hx hb dX11_drawn_18 (by decide) (fun c => absurd (by decide +kernel) c) (fun _ => ?_)
      refine lv_iconst (v := (-1)) hx hb dX11_drawn_21 (by decide) ?_
      exact ret _ () _ _ _ _ _ [] dX11_drawn_22 rfl w (by decide) rfl
set_option maxRecDepth 100000 in
set_option maxHeartbeats 4000000 in
theorem c121_X12_isIn (l : Launch) (D : va_G) (T : Nat → ClassId) (sz : Nat) (x0 : Int32) : Met l yX12_isIn (Cond.code yX12_isIn cX12_isIn 3 (some .boolean) :: GW) (Rm 0 0 0) (cPre [.int x0, .int 1, .int 60] D T [] sz) (qI D [] sz (fun (v : Int32) (u : Unit) => (x0 < (1 : Int32) ∧ (0 : Int32) = v) ∨ (¬ x0 < (1 : Int32) ∧ (60 : Int32) < x0 ∧ (0 : Int32) = v) ∨ (¬ x0 < (1 : Int32) ∧ ¬ (60 : Int32) < x0 ∧ (1 : Int32) = v)) (fun u => [])) 0 0 (va_A [] sz) := by
  refine e_Z (by decide) (Nat.le_of_ble_eq_true rfl) ?_
  intro p e s m args below meth c A Q ls M hin w ret hl
  have hx := M.1.1
  have hb := M.1.2.1
  have hl : lv_has ls 3 [(0, .int x0), (1, .int 1), (2, .int 60)] := hl
  refine lv_iload_n hx hb dX12_isIn_0 rfl (lv_at hl 0 rfl) ?_
  refine lv_iload_n hx hb dX12_isIn_1 rfl (lv_at hl 1 rfl) ?_
  refine lv_icmp_lt (tgt := 14) hx hb dX12_isIn_2 (by decide) (fun c_1 => ?_) (fun c_1 => ?_)
  · refine lv_iconst (v := 0) hx hb dX12_isIn_14 (by decide) ?_
    exact ret _ () _ _ _ _ _ [] dX12_isIn_15 (by decide +kernel) (Or.inl ⟨c_1, rfl⟩) w (by decide) rfl
  · refine lv_iload_n hx hb dX12_isIn_5 rfl (lv_at hl 0 rfl) ?_
    refine lv_iload_n hx hb dX12_isIn_6 rfl (lv_at hl 2 rfl) ?_
    refine lv_icmp_gt (tgt := 14) hx hb dX12_isIn_7 (by decide) (fun c_2 => ?_) (fun c_2 => ?_)
    · refine lv_iconst (v := 0) hx hb dX12_isIn_14 (by decide) ?_
      exact ret _ () _ _ _ _ _ [] dX12_isIn_15 (by decide +kernel) (Or.inr (Or.inl ⟨c_1, c_2, rfl⟩)) w (by decide) rfl
    · refine lv_iconst (v := 1) hx hb dX12_isIn_10 (by decide) ?_
      refine lv_goto (tgt := 15) hx hb dX12_isIn_11 (by decide) ?_
      exact ret _ () _ _ _ _ _ [] dX12_isIn_15 (by decide +kernel) (Or.inr (Or.inr (⟨c_1, c_2, rfl⟩))) w (by decide) rfl
set_option maxRecDepth 100000 in
set_option maxHeartbeats 4000000 in
theorem c122_X12_drawn (l : Launch) (D : va_G) (T : Nat → ClassId) (sz : Nat) (a0 a1 a2 a3 a4 a5 a6 a7 a8 a9 a10 a11 a12 a13 a14 a15 a16 a17 a18 a19 a20 a21 a22 : Nat) (x0 : Int32) (x1 : Int32) : Met l yX12_drawn (Cond.code yX12_drawn cX12_drawn 3 (some .int) :: GW) (Rm 1 0 0) (cPre [.ref a0, .int x0, .int x1] D T [(a0, .inr (11, [.int 0, .ref a1, .int 0, .int 0, .int 0, .int 0, .int 0, .int 0, .int 0, .int 0, .int 0, .int 0, .long 0, .int 0, .ref a2, .ref a3, .ref a4, .ref a5, .ref a6, .ref a7, .ref a8, .ref a9, .ref a10, .ref a11, .int 0, .ref a12, .ref a13, .ref a14, .ref a15, .int 0, .int 0, .int 0, .ref a16, .int (-1), .int (-1), .ref a17, .ref a18, .int 0, .ref a19, .int 0, .int 0, .ref a20, .ref a21, .int 0, .int 0, .ref a22, .int 0, .int 0, .int 0, .int 0])), (a2, .inl (T 0, 329, .inl cn45))] sz) (qI D [(a0, .inr (11, [.int 0, .ref a1, .int 0, .int 0, .int 0, .int 0, .int 0, .int 0, .int 0, .int 0, .int 0, .int 0, .long 0, .int 0, .ref a2, .ref a3, .ref a4, .ref a5, .ref a6, .ref a7, .ref a8, .ref a9, .ref a10, .ref a11, .int 0, .ref a12, .ref a13, .ref a14, .ref a15, .int 0, .int 0, .int 0, .ref a16, .int (-1), .int (-1), .ref a17, .ref a18, .int 0, .ref a19, .int 0, .int 0, .ref a20, .ref a21, .int 0, .int 0, .ref a22, .int 0, .int 0, .int 0, .int 0])), (a2, .inl (T 0, 329, .inl cn45))] sz (fun (v : Int32) (u : Unit) => (-1 : Int32) = v) (fun u => [])) 0 0 (va_A [(a0, .inr (11, [.int 0, .ref a1, .int 0, .int 0, .int 0, .int 0, .int 0, .int 0, .int 0, .int 0, .int 0, .int 0, .long 0, .int 0, .ref a2, .ref a3, .ref a4, .ref a5, .ref a6, .ref a7, .ref a8, .ref a9, .ref a10, .ref a11, .int 0, .ref a12, .ref a13, .ref a14, .ref a15, .int 0, .int 0, .int 0, .ref a16, .int (-1), .int (-1), .ref a17, .ref a18, .int 0, .ref a19, .int 0, .int 0, .ref a20, .ref a21, .int 0, .int 0, .ref a22, .int 0, .int 0, .int 0, .int 0])), (a2, .inl (T 0, 329, .inl cn45))] sz) := by
  refine e_I (by decide) (Nat.le_of_ble_eq_true rfl) ?_
  intro p e s m args below meth c A Q ls M hin w ret hl
  have hx := M.1.1
  have hb := M.1.2.1
  have hl : lv_has ls 3 [(0, .ref a0), (1, .int x0), (2, .int x1)] := hl
  refine lv_aload_n hx hb dX12_drawn_0 rfl (lv_at hl 0 rfl) ?_
  refine lv_iconst (v := 0) hx hb dX12_drawn_1 (by decide) ?_
  refine r_put (ws' := [(a0, .inr (11, [.int 0, .ref a1, .int 0, .int 0, .int 0, .int 0, .int 0, .int 0, .int 0, .int 0, .int 0, .int 0, .long 0, .int 0, .ref a2, .ref a3, .ref a4, .ref a5, .ref a6, .ref a7, .ref a8, .ref a9, .ref a10, .ref a11, .int 0, .ref a12, .ref a13, .ref a14, .ref a15, .int 0, .int 0, .int 0, .ref a16, .int (-1), .int (-1), .ref a17, .ref a18, .int 0, .ref a19, .int 0, .int 0, .ref a20, .ref a21, .int 0, .int 0, .ref a22, .int 0, .int 0, .int 0, .int 0])), (a2, .inl (T 0, 329, .inl cn45))]) M w 0 0 clX12 rfl (by decide) G1467 rfl rfl rfl rfl (Nat.le_of_ble_eq_true rfl) rfl dX12_drawn_2 (fun H locs w => ?_)
  refine lv_iload_n hx hb dX12_drawn_5 rfl (lv_at hl 1 rfl) ?_
  refine lv_iconst (v := 1) hx hb dX12_drawn_6 (by decide) ?_
  refine lv_bipush (v := 60) hx hb dX12_drawn_7 (by decide) ?_
  refine k_I (ce := 0) (sl := 0) (rest := []) (wr := [(a0, .inr (11, [.int 0, .ref a1, .int 0, .int 0, .int 0, .int 0, .int 0, .int 0, .int 0, .int 0, .int 0, .int 0, .long 0, .int 0, .ref a2, .ref a3, .ref a4, .ref a5, .ref a6, .ref a7, .ref a8, .ref a9, .ref a10, .ref a11, .int 0, .ref a12, .ref a13, .ref a14, .ref a15, .int 0, .int 0, .int 0, .ref a16, .int (-1), .int (-1), .ref a17, .ref a18, .int 0, .ref a19, .int 0, .int 0, .ref a20, .ref a21, .int 0, .int 0, .ref a22, .int 0, .int 0, .int 0, .int 0])), (a2, .inl (T 0, 329, .inl cn45))]) (r_S (f := 0) [] M w V_HookedCityModel_75 G1697 (c121_X12_isIn l D T _ x0) rfl (by decide) rfl hl.1 rfl (Nat.le_of_ble_eq_true rfl) dX12_drawn_9 (by decide) (by decide) (by decide) (by decide)) w [] [0, 1] rfl rfl (by decide) (by decide) rfl rfl (fun v _ H locs hp w => ?_)
  try dsimp only at hp
  rcases hp with ⟨c_1, hp⟩ | ⟨c_2, c_3, hp⟩ | ⟨c_4, c_5, hp⟩
  · have hp : (0 : Int32) = v := hp
    subst hp
    have w : WD D A s.heap [(a0, .inr (11, [.int 0, .ref a1, .int 0, .int 0, .int 0, .int 0, .int 0, .int 0, .int 0, .int 0, .int 0, .int 0, .long 0, .int 0, .ref a2, .ref a3, .ref a4, .ref a5, .ref a6, .ref a7, .ref a8, .ref a9, .ref a10, .ref a11, .int 0, .ref a12, .ref a13, .ref a14, .ref a15, .int 0, .int 0, .int 0, .ref a16, .int (-1), .int (-1), .ref a17, .ref a18, .int 0, .ref a19, .int 0, .int 0, .ref a20, .ref a21, .int 0, .int 0, .ref a22, .int 0, .int 0, .int 0, .int 0])), (a2, .inl (T 0, 329, .inl cn45))] H locs := w
    refine lv_if_eq (tgt := 24) hx hb dX12_drawn_12 (by decide) (fun _ => ?_) (fun c => absurd (by decide +kernel) c)
    refine lv_iconst (v := (-1)) hx hb dX12_drawn_24 (by decide) ?_
    exact ret _ () _ _ _ _ _ [] dX12_drawn_25 rfl w (by decide) rfl
  · have hp : (0 : Int32) = v := hp
    subst hp
    have w : WD D A s.heap [(a0, .inr (11, [.int 0, .ref a1, .int 0, .int 0, .int 0, .int 0, .int 0, .int 0, .int 0, .int 0, .int 0, .int 0, .long 0, .int 0, .ref a2, .ref a3, .ref a4, .ref a5, .ref a6, .ref a7, .ref a8, .ref a9, .ref a10, .ref a11, .int 0, .ref a12, .ref a13, .ref a14, .ref a15, .int 0, .int 0, .int 0, .ref a16, .int (-1), .int (-1), .ref a17, .ref a18, .int 0, .ref a19, .int 0, .int 0, .ref a20, .ref a21, .int 0, .int 0, .ref a22, .int 0, .int 0, .int 0, .int 0])), (a2, .inl (T 0, 329, .inl cn45))] H locs := w
    refine lv_if_eq (tgt := 24) hx hb dX12_drawn_12 (by decide) (fun _ => ?_) (fun c => absurd (by decide +kernel) c)
    refine lv_iconst (v := (-1)) hx hb dX12_drawn_24 (by decide) ?_
    exact ret _ () _ _ _ _ _ [] dX12_drawn_25 rfl w (by decide) rfl
  · have hp : (1 : Int32) = v := hp
    subst hp
    have w : WD D A s.heap [(a0, .inr (11, [.int 0, .ref a1, .int 0, .int 0, .int 0, .int 0, .int 0, .int 0, .int 0, .int 0, .int 0, .int 0, .long 0, .int 0, .ref a2, .ref a3, .ref a4, .ref a5, .ref a6, .ref a7, .ref a8, .ref a9, .ref a10, .ref a11, .int 0, .ref a12, .ref a13, .ref a14, .ref a15, .int 0, .int 0, .int 0, .ref a16, .int (-1), .int (-1), .ref a17, .ref a18, .int 0, .ref a19, .int 0, .int 0, .ref a20, .ref a21, .int 0, .int 0, .ref a22, .int 0, .int 0, .int 0, .int 0])), (a2, .inl (T 0, 329, .inl cn45))] H locs := w
    refine lv_if_eq (tgt := 24) hx hb dX12_drawn_12 (by decide) (fun c => absurd c (by decide +kernel)) (fun _ => ?_)
    refine lv_aload_n hx hb dX12_drawn_15 rfl (lv_at hl 0 rfl) ?_
    refine r_get (v := .ref a2) M w 0 14 clX12 rfl (by decide) G1481 rfl rfl dX12_drawn_16 ?_
    refine lv_iconst (v := 1) hx hb dX12_drawn_19 (by decide) ?_
    refine r_iald (v := (0 : Int32)) M w 1 rfl (vin (by decide +kernel)) (by decide +kernel) dX12_drawn_20 ?_
    refine lv_if_ne (tgt := 26) hx hb dX12_drawn_21 (by decide) (fun c => absurd (by decide +kernel) c) (fun _ => ?_)
    refine lv_iconst (v := (-1)) hx hb dX12_drawn_24 (by decide) ?_
    exact ret _ () _ _ _ _ _ [] dX12_drawn_25 rfl w (by decide) rfl
set_option maxRecDepth 100000 in
set_option maxHeartbeats 4000000 in
theorem c123_X11_odds (l : Launch) (D : va_G) (T : Nat → ClassId) (sz : Nat) (a0 a1 a2 a3 a4 a5 a6 a7 a8 a9 a10 a11 a12 a13 a14 a15 a16 a17 a18 a19 a20 a21 a22 a23 : Nat) (x0 : Int32) (x1 : Int32) (x2 : Int32) : Met l yX11_odds (Cond.code yX11_odds cX11_odds 6 (some .int) :: GW) (Rm 1 0 0) (cPre [.ref a0, .int x0, .int x1, .int x2] D T [(a0, .inr (10, [.ref a1, .ref a2, .ref a3, .ref a4, .ref a5, .ref a6, .ref a7, .ref a8, .ref a9, .ref a10, .ref a11, .ref a12, .ref a13, .ref a14, .int 0, .int 0, .int 0])), (a11, .inr (9, [.ref a15, .ref a16, .ref a17, .ref a18, .ref a19, .ref a20, .ref a21, .ref a22, .ref a23, .int 0, .int 0, .int 0, .int 0, .int 12, .int 1, .int 0, .int 0, .int 0]))] sz) (qI D [(a0, .inr (10, [.ref a1, .ref a2, .ref a3, .ref a4, .ref a5, .ref a6, .ref a7, .ref a8, .ref a9, .ref a10, .ref a11, .ref a12, .ref a13, .ref a14, .int 0, .int 0, .int 0])), (a11, .inr (9, [.ref a15, .ref a16, .ref a17, .ref a18, .ref a19, .ref a20, .ref a21, .ref a22, .ref a23, .int 0, .int 0, .int 0, .int 0, .int 12, .int 1, .int 0, .int 0, .int 0]))] sz (fun (v : Int32) (u : Unit) => (-1 : Int32) = v) (fun u => [])) 0 0 (va_A [(a0, .inr (10, [.ref a1, .ref a2, .ref a3, .ref a4, .ref a5, .ref a6, .ref a7, .ref a8, .ref a9, .ref a10, .ref a11, .ref a12, .ref a13, .ref a14, .int 0, .int 0, .int 0])), (a11, .inr (9, [.ref a15, .ref a16, .ref a17, .ref a18, .ref a19, .ref a20, .ref a21, .ref a22, .ref a23, .int 0, .int 0, .int 0, .int 0, .int 12, .int 1, .int 0, .int 0, .int 0]))] sz) := by
  refine e_I (by decide) (Nat.le_of_ble_eq_true rfl) ?_
  intro p e s m args below meth c A Q ls M hin w ret hl
  have hx := M.1.1
  have hb := M.1.2.1
  have hl : lv_has ls 6 [(0, .ref a0), (1, .int x0), (2, .int x1), (3, .int x2)] := hl
  refine lv_aload_n hx hb dX11_odds_0 rfl (lv_at hl 0 rfl) ?_
  refine lv_iload_n hx hb dX11_odds_1 rfl (lv_at hl 1 rfl) ?_
  refine k_I (ce := 0) (sl := 0) (rest := []) (wr := []) (r_V (f := 0) [0, 1] M w V_HookedCity_134 G841 G16 (c70_X11_isPerson l D T _ a0 a1 a2 a3 a4 a5 a6 a7 a8 a9 a10 a11 a12 a13 a14 a15 a16 a17 a18 a19 a20 a21 a22 a23 x0) 0 clX11 rfl rfl (by decide) rfl hl.1 rfl (Nat.le_of_ble_eq_true rfl) dX11_odds_2 (by decide) (by decide) (by decide) (by decide)) w [0, 1] [] rfl rfl (by decide) (by decide) rfl rfl (fun v _ H locs hp w => ?_)
  have hp : (0 : Int32) = v := hp
  subst hp
  have w : WD D A s.heap [(a0, .inr (10, [.ref a1, .ref a2, .ref a3, .ref a4, .ref a5, .ref a6, .ref a7, .ref a8, .ref a9, .ref a10, .ref a11, .ref a12, .ref a13, .ref a14, .int 0, .int 0, .int 0])), (a11, .inr (9, [.ref a15, .ref a16, .ref a17, .ref a18, .ref a19, .ref a20, .ref a21, .ref a22, .ref a23, .int 0, .int 0, .int 0, .int 0, .int 12, .int 1, .int 0, .int 0, .int 0]))] H locs := w
  refine lv_if_eq (tgt := 29) hx hb dX11_odds_5 (by decide) (fun _ => ?_) (fun c => absurd (by decide +kernel) c)
  refine lv_iconst (v := (-1)) hx hb dX11_odds_29 (by decide) ?_
  exact ret _ () _ _ _ _ _ [] dX11_odds_30 rfl w (by decide) rfl
set_option maxRecDepth 100000 in
set_option maxHeartbeats 4000000 in
theorem c124_X12_odds (l : Launch) (D : va_G) (T : Nat → ClassId) (sz : Nat) (a0 a1 a2 a3 a4 a5 a6 a7 a8 a9 a10 a11 a12 a13 a14 a15 a16 a17 a18 a19 a20 a21 a22 : Nat) (x0 : Int32) (x1 : Int32) (x2 : Int32) : Met l yX12_odds (Cond.code yX12_odds cX12_odds 6 (some .int) :: GW) (Rm 2 0 0) (cPre [.ref a0, .int x0, .int x1, .int x2] D T [(a0, .inr (11, [.int 0, .ref a1, .int 0, .int 0, .int 0, .int 0, .int 0, .int 0, .int 0, .int 0, .int 0, .int 0, .long 0, .int 0, .ref a2, .ref a3, .ref a4, .ref a5, .ref a6, .ref a7, .ref a8, .ref a9, .ref a10, .ref a11, .int 0, .ref a12, .ref a13, .ref a14, .ref a15, .int 0, .int 0, .int 0, .ref a16, .int (-1), .int (-1), .ref a17, .ref a18, .int 0, .ref a19, .int 0, .int 0, .ref a20, .ref a21, .int 0, .int 0, .ref a22, .int 0, .int 0, .int 0, .int 0])), (a2, .inl (T 0, 329, .inl cn45))] sz) (qI D [(a0, .inr (11, [.int 0, .ref a1, .int 0, .int 0, .int 0, .int 0, .int 0, .int 0, .int 0, .int 0, .int 0, .int 0, .long 0, .int 0, .ref a2, .ref a3, .ref a4, .ref a5, .ref a6, .ref a7, .ref a8, .ref a9, .ref a10, .ref a11, .int 0, .ref a12, .ref a13, .ref a14, .ref a15, .int 0, .int 0, .int 0, .ref a16, .int (-1), .int (-1), .ref a17, .ref a18, .int 0, .ref a19, .int 0, .int 0, .ref a20, .ref a21, .int 0, .int 0, .ref a22, .int 0, .int 0, .int 0, .int 0])), (a2, .inl (T 0, 329, .inl cn45))] sz (fun (v : Int32) (u : Unit) => (-1 : Int32) = v) (fun u => [])) 0 0 (va_A [(a0, .inr (11, [.int 0, .ref a1, .int 0, .int 0, .int 0, .int 0, .int 0, .int 0, .int 0, .int 0, .int 0, .int 0, .long 0, .int 0, .ref a2, .ref a3, .ref a4, .ref a5, .ref a6, .ref a7, .ref a8, .ref a9, .ref a10, .ref a11, .int 0, .ref a12, .ref a13, .ref a14, .ref a15, .int 0, .int 0, .int 0, .ref a16, .int (-1), .int (-1), .ref a17, .ref a18, .int 0, .ref a19, .int 0, .int 0, .ref a20, .ref a21, .int 0, .int 0, .ref a22, .int 0, .int 0, .int 0, .int 0])), (a2, .inl (T 0, 329, .inl cn45))] sz) := by
  refine e_I (by decide) (Nat.le_of_ble_eq_true rfl) ?_
  intro p e s m args below meth c A Q ls M hin w ret hl
  have hx := M.1.1
  have hb := M.1.2.1
  have hl : lv_has ls 6 [(0, .ref a0), (1, .int x0), (2, .int x1), (3, .int x2)] := hl
  refine lv_aload_n hx hb dX12_odds_0 rfl (lv_at hl 0 rfl) ?_
  refine lv_iconst (v := 0) hx hb dX12_odds_1 (by decide) ?_
  refine r_put (ws' := [(a0, .inr (11, [.int 0, .ref a1, .int 0, .int 0, .int 0, .int 0, .int 0, .int 0, .int 0, .int 0, .int 0, .int 0, .long 0, .int 0, .ref a2, .ref a3, .ref a4, .ref a5, .ref a6, .ref a7, .ref a8, .ref a9, .ref a10, .ref a11, .int 0, .ref a12, .ref a13, .ref a14, .ref a15, .int 0, .int 0, .int 0, .ref a16, .int (-1), .int (-1), .ref a17, .ref a18, .int 0, .ref a19, .int 0, .int 0, .ref a20, .ref a21, .int 0, .int 0, .ref a22, .int 0, .int 0, .int 0, .int 0])), (a2, .inl (T 0, 329, .inl cn45))]) M w 0 0 clX12 rfl (by decide) G1467 rfl rfl rfl rfl (Nat.le_of_ble_eq_true rfl) rfl dX12_odds_2 (fun H locs w => ?_)
  refine lv_aload_n hx hb dX12_odds_5 rfl (lv_at hl 0 rfl) ?_
  refine lv_iload_n hx hb dX12_odds_6 rfl (lv_at hl 1 rfl) ?_
  refine k_I (ce := 0) (sl := 0) (rest := []) (wr := []) (r_V (f := 1) [0, 1] M w V_HookedCityModel_240 G1740 G68 (c72_X12_isPerson l D T _ a0 a1 a2 a3 a4 a5 a6 a7 a8 a9 a10 a11 a12 a13 a14 a15 a16 a17 a18 a19 a20 a21 a22 x0) 0 clX12 rfl rfl (by decide) rfl hl.1 rfl (Nat.le_of_ble_eq_true rfl) dX12_odds_7 (by decide) (by decide) (by decide) (by decide)) w [0, 1] [] rfl rfl (by decide) (by decide) rfl rfl (fun v _ H locs hp w => ?_)
  have hp : (0 : Int32) = v := hp
  subst hp
  have w : WD D A s.heap [(a0, .inr (11, [.int 0, .ref a1, .int 0, .int 0, .int 0, .int 0, .int 0, .int 0, .int 0, .int 0, .int 0, .int 0, .long 0, .int 0, .ref a2, .ref a3, .ref a4, .ref a5, .ref a6, .ref a7, .ref a8, .ref a9, .ref a10, .ref a11, .int 0, .ref a12, .ref a13, .ref a14, .ref a15, .int 0, .int 0, .int 0, .ref a16, .int (-1), .int (-1), .ref a17, .ref a18, .int 0, .ref a19, .int 0, .int 0, .ref a20, .ref a21, .int 0, .int 0, .ref a22, .int 0, .int 0, .int 0, .int 0])), (a2, .inl (T 0, 329, .inl cn45))] H locs := w
  refine lv_if_eq (tgt := 32) hx hb dX12_odds_10 (by decide) (fun _ => ?_) (fun c => absurd (by decide +kernel) c)
  refine lv_iconst (v := (-1)) hx hb dX12_odds_32 (by decide) ?_
  exact ret _ () _ _ _ _ _ [] dX12_odds_33 rfl w (by decide) rfl
