theorem dX9_clear_0 : decode cX9_clear 0 = .ok (.aload_n 0, 1) := by decide +kernel
theorem dX9_clear_1 : decode cX9_clear 1 = .ok (.iconst 0, 1) := by decide +kernel
theorem dX9_clear_2 : decode cX9_clear 2 = .ok (.putfield 40, 3) := by decide +kernel
theorem G387 : Cond.fieldLink "HookedCity$Town" 40 "HookedCity$Town" "persons" "I" ∈ GW := gw_i 387 (by decide +kernel) rfl
theorem dX9_clear_5 : decode cX9_clear 5 = .ok (.aload_n 0, 1) := by decide +kernel
theorem dX9_clear_6 : decode cX9_clear 6 = .ok (.iconst 0, 1) := by decide +kernel
theorem dX9_clear_7 : decode cX9_clear 7 = .ok (.putfield 44, 3) := by decide +kernel
theorem G393 : Cond.fieldLink "HookedCity$Town" 44 "HookedCity$Town" "maids" "I" ∈ GW := gw_i 393 (by decide +kernel) rfl
theorem dX9_clear_10 : decode cX9_clear 10 = .ok (.aload_n 0, 1) := by decide +kernel
theorem dX9_clear_11 : decode cX9_clear 11 = .ok (.iconst 0, 1) := by decide +kernel
theorem dX9_clear_12 : decode cX9_clear 12 = .ok (.putfield 50, 3) := by decide +kernel
theorem G398 : Cond.fieldLink "HookedCity$Town" 50 "HookedCity$Town" "spare" "I" ∈ GW := gw_i 398 (by decide +kernel) rfl
theorem dX9_clear_15 : decode cX9_clear 15 = .ok (.aload_n 0, 1) := by decide +kernel
theorem dX9_clear_16 : decode cX9_clear 16 = .ok (.bipush 12, 2) := by decide +kernel
theorem dX9_clear_18 : decode cX9_clear 18 = .ok (.putfield 53, 3) := by decide +kernel
theorem dX9_clear_21 : decode cX9_clear 21 = .ok (.aload_n 0, 1) := by decide +kernel
theorem dX9_clear_22 : decode cX9_clear 22 = .ok (.iconst 1, 1) := by decide +kernel
theorem dX9_clear_23 : decode cX9_clear 23 = .ok (.putfield 56, 3) := by decide +kernel
theorem dX9_clear_26 : decode cX9_clear 26 = .ok (.aload_n 0, 1) := by decide +kernel
theorem dX9_clear_27 : decode cX9_clear 27 = .ok (.iconst 0, 1) := by decide +kernel
theorem dX9_clear_28 : decode cX9_clear 28 = .ok (.putfield 59, 3) := by decide +kernel
theorem G404 : Cond.fieldLink "HookedCity$Town" 59 "HookedCity$Town" "spareTold" "Z" ∈ GW := gw_i 404 (by decide +kernel) rfl
theorem dX9_clear_31 : decode cX9_clear 31 = .ok (.aload_n 0, 1) := by decide +kernel
theorem dX9_clear_32 : decode cX9_clear 32 = .ok (.iconst 0, 1) := by decide +kernel
theorem dX9_clear_33 : decode cX9_clear 33 = .ok (.putfield 63, 3) := by decide +kernel
theorem G405 : Cond.fieldLink "HookedCity$Town" 63 "HookedCity$Town" "yearTold" "Z" ∈ GW := gw_i 405 (by decide +kernel) rfl
theorem dX9_clear_36 : decode cX9_clear 36 = .ok (.aload_n 0, 1) := by decide +kernel
theorem dX9_clear_37 : decode cX9_clear 37 = .ok (.iconst 0, 1) := by decide +kernel
theorem dX9_clear_38 : decode cX9_clear 38 = .ok (.putfield 66, 3) := by decide +kernel
theorem G406 : Cond.fieldLink "HookedCity$Town" 66 "HookedCity$Town" "julyTold" "Z" ∈ GW := gw_i 406 (by decide +kernel) rfl
theorem dX9_clear_41 : decode cX9_clear 41 = .ok (.aload_n 0, 1) := by decide +kernel
theorem dX9_clear_42 : decode cX9_clear 42 = .ok (.getfield 25, 3) := by decide +kernel
theorem dX9_clear_45 : decode cX9_clear 45 = .ok (.iconst 0, 1) := by decide +kernel
theorem dX9_clear_46 : decode cX9_clear 46 = .ok (.invokestatic 69, 3) := by decide +kernel
theorem G581 : Cond.methodLink "HookedCity$Town" 69 ⟨"java/util/Arrays", "fill", "([II)V"⟩ ∈ GW := gw_i 581 (by decide +kernel) rfl
theorem V_HookedCity_Town_69 : VL "HookedCity$Town" 69 yJ7_fill_53178 cJ7_fill_53178 4 none 2 := ⟨G291, G581, G124, by decide +kernel, by decide +kernel, by decide +kernel⟩
theorem dX9_clear_49 : decode cX9_clear 49 = .ok (.aload_n 0, 1) := by decide +kernel
theorem dX9_clear_50 : decode cX9_clear 50 = .ok (.getfield 28, 3) := by decide +kernel
theorem G379 : Cond.fieldLink "HookedCity$Town" 28 "HookedCity$Town" "into" "[I" ∈ GW := gw_i 379 (by decide +kernel) rfl
theorem dX9_clear_53 : decode cX9_clear 53 = .ok (.iconst (-1), 1) := by decide +kernel
theorem dX9_clear_54 : decode cX9_clear 54 = .ok (.invokestatic 69, 3) := by decide +kernel
theorem dX9_clear_57 : decode cX9_clear 57 = .ok (.aload_n 0, 1) := by decide +kernel
theorem dX9_clear_58 : decode cX9_clear 58 = .ok (.getfield 31, 3) := by decide +kernel
theorem G381 : Cond.fieldLink "HookedCity$Town" 31 "HookedCity$Town" "from" "[I" ∈ GW := gw_i 381 (by decide +kernel) rfl
theorem dX9_clear_61 : decode cX9_clear 61 = .ok (.iconst (-1), 1) := by decide +kernel
theorem dX9_clear_62 : decode cX9_clear 62 = .ok (.invokestatic 69, 3) := by decide +kernel
theorem dX9_clear_65 : decode cX9_clear 65 = .ok (.return_, 1) := by decide +kernel
theorem dX9_copy_0 : decode cX9_copy 0 = .ok (.aload_n 1, 1) := by decide +kernel
theorem dX9_copy_1 : decode cX9_copy 1 = .ok (.getfield 9, 3) := by decide +kernel
theorem G366 : Cond.fieldLink "HookedCity$Town" 9 "HookedCity$Town" "names" "[J" ∈ GW := gw_i 366 (by decide +kernel) rfl
theorem dX9_copy_4 : decode cX9_copy 4 = .ok (.iconst 0, 1) := by decide +kernel
theorem dX9_copy_5 : decode cX9_copy 5 = .ok (.aload_n 0, 1) := by decide +kernel
theorem dX9_copy_6 : decode cX9_copy 6 = .ok (.getfield 9, 3) := by decide +kernel
theorem dX9_copy_9 : decode cX9_copy 9 = .ok (.iconst 0, 1) := by decide +kernel
theorem dX9_copy_10 : decode cX9_copy 10 = .ok (.bipush 9, 2) := by decide +kernel
theorem dX9_copy_12 : decode cX9_copy 12 = .ok (.invokestatic 75, 3) := by decide +kernel
theorem G1348 : Cond.methodLink "HookedCity$Town" 75 ⟨"java/lang/System", "arraycopy", "(Ljava/lang/Object;ILjava/lang/Object;II)V"⟩ ∈ GW := gw_i 1348 (by decide +kernel) rfl
theorem dX9_copy_15 : decode cX9_copy 15 = .ok (.aload_n 1, 1) := by decide +kernel
theorem dX9_copy_16 : decode cX9_copy 16 = .ok (.getfield 15, 3) := by decide +kernel
theorem dX9_copy_19 : decode cX9_copy 19 = .ok (.iconst 0, 1) := by decide +kernel
theorem dX9_copy_20 : decode cX9_copy 20 = .ok (.aload_n 0, 1) := by decide +kernel
theorem dX9_copy_21 : decode cX9_copy 21 = .ok (.getfield 15, 3) := by decide +kernel
theorem dX9_copy_24 : decode cX9_copy 24 = .ok (.iconst 0, 1) := by decide +kernel
theorem dX9_copy_25 : decode cX9_copy 25 = .ok (.bipush 9, 2) := by decide +kernel
theorem dX9_copy_27 : decode cX9_copy 27 = .ok (.invokestatic 75, 3) := by decide +kernel
theorem dX9_copy_30 : decode cX9_copy 30 = .ok (.aload_n 1, 1) := by decide +kernel
theorem dX9_copy_31 : decode cX9_copy 31 = .ok (.getfield 19, 3) := by decide +kernel
theorem dX9_copy_34 : decode cX9_copy 34 = .ok (.iconst 0, 1) := by decide +kernel
theorem dX9_copy_35 : decode cX9_copy 35 = .ok (.aload_n 0, 1) := by decide +kernel
theorem dX9_copy_36 : decode cX9_copy 36 = .ok (.getfield 19, 3) := by decide +kernel
theorem dX9_copy_39 : decode cX9_copy 39 = .ok (.iconst 0, 1) := by decide +kernel
theorem dX9_copy_40 : decode cX9_copy 40 = .ok (.bipush 9, 2) := by decide +kernel
theorem dX9_copy_42 : decode cX9_copy 42 = .ok (.invokestatic 75, 3) := by decide +kernel
theorem dX9_copy_45 : decode cX9_copy 45 = .ok (.aload_n 1, 1) := by decide +kernel
theorem dX9_copy_46 : decode cX9_copy 46 = .ok (.getfield 22, 3) := by decide +kernel
theorem G372 : Cond.fieldLink "HookedCity$Town" 22 "HookedCity$Town" "strengths" "[I" ∈ GW := gw_i 372 (by decide +kernel) rfl
theorem dX9_copy_49 : decode cX9_copy 49 = .ok (.iconst 0, 1) := by decide +kernel
theorem dX9_copy_50 : decode cX9_copy 50 = .ok (.aload_n 0, 1) := by decide +kernel
theorem dX9_copy_51 : decode cX9_copy 51 = .ok (.getfield 22, 3) := by decide +kernel
theorem dX9_copy_54 : decode cX9_copy 54 = .ok (.iconst 0, 1) := by decide +kernel
theorem dX9_copy_55 : decode cX9_copy 55 = .ok (.bipush 9, 2) := by decide +kernel
theorem dX9_copy_57 : decode cX9_copy 57 = .ok (.invokestatic 75, 3) := by decide +kernel
theorem dX9_copy_60 : decode cX9_copy 60 = .ok (.aload_n 1, 1) := by decide +kernel
theorem dX9_copy_61 : decode cX9_copy 61 = .ok (.getfield 25, 3) := by decide +kernel
theorem dX9_copy_64 : decode cX9_copy 64 = .ok (.iconst 0, 1) := by decide +kernel
theorem dX9_copy_65 : decode cX9_copy 65 = .ok (.aload_n 0, 1) := by decide +kernel
theorem dX9_copy_66 : decode cX9_copy 66 = .ok (.getfield 25, 3) := by decide +kernel
theorem dX9_copy_69 : decode cX9_copy 69 = .ok (.iconst 0, 1) := by decide +kernel
theorem dX9_copy_70 : decode cX9_copy 70 = .ok (.bipush 9, 2) := by decide +kernel
theorem dX9_copy_72 : decode cX9_copy 72 = .ok (.invokestatic 75, 3) := by decide +kernel
theorem dX9_copy_75 : decode cX9_copy 75 = .ok (.aload_n 1, 1) := by decide +kernel
theorem dX9_copy_76 : decode cX9_copy 76 = .ok (.getfield 34, 3) := by decide +kernel
theorem G383 : Cond.fieldLink "HookedCity$Town" 34 "HookedCity$Town" "maidNames" "[J" ∈ GW := gw_i 383 (by decide +kernel) rfl
theorem dX9_copy_79 : decode cX9_copy 79 = .ok (.iconst 0, 1) := by decide +kernel
theorem dX9_copy_80 : decode cX9_copy 80 = .ok (.aload_n 0, 1) := by decide +kernel
theorem dX9_copy_81 : decode cX9_copy 81 = .ok (.getfield 34, 3) := by decide +kernel
theorem dX9_copy_84 : decode cX9_copy 84 = .ok (.iconst 0, 1) := by decide +kernel
theorem dX9_copy_85 : decode cX9_copy 85 = .ok (.iconst 3, 1) := by decide +kernel
theorem dX9_copy_86 : decode cX9_copy 86 = .ok (.invokestatic 75, 3) := by decide +kernel
theorem dX9_copy_89 : decode cX9_copy 89 = .ok (.aload_n 1, 1) := by decide +kernel
theorem dX9_copy_90 : decode cX9_copy 90 = .ok (.getfield 37, 3) := by decide +kernel
theorem G384 : Cond.fieldLink "HookedCity$Town" 37 "HookedCity$Town" "hooks" "[I" ∈ GW := gw_i 384 (by decide +kernel) rfl
theorem dX9_copy_93 : decode cX9_copy 93 = .ok (.iconst 0, 1) := by decide +kernel
theorem dX9_copy_94 : decode cX9_copy 94 = .ok (.aload_n 0, 1) := by decide +kernel
theorem dX9_copy_95 : decode cX9_copy 95 = .ok (.getfield 37, 3) := by decide +kernel
theorem dX9_copy_98 : decode cX9_copy 98 = .ok (.iconst 0, 1) := by decide +kernel
theorem dX9_copy_99 : decode cX9_copy 99 = .ok (.iconst 3, 1) := by decide +kernel
theorem dX9_copy_100 : decode cX9_copy 100 = .ok (.invokestatic 75, 3) := by decide +kernel
theorem dX9_copy_103 : decode cX9_copy 103 = .ok (.aload_n 0, 1) := by decide +kernel
theorem dX9_copy_104 : decode cX9_copy 104 = .ok (.aload_n 1, 1) := by decide +kernel
theorem dX9_copy_105 : decode cX9_copy 105 = .ok (.getfield 40, 3) := by decide +kernel
theorem dX9_copy_108 : decode cX9_copy 108 = .ok (.putfield 40, 3) := by decide +kernel
theorem dX9_copy_111 : decode cX9_copy 111 = .ok (.aload_n 0, 1) := by decide +kernel
theorem dX9_copy_112 : decode cX9_copy 112 = .ok (.aload_n 1, 1) := by decide +kernel
theorem dX9_copy_113 : decode cX9_copy 113 = .ok (.getfield 44, 3) := by decide +kernel
theorem dX9_copy_116 : decode cX9_copy 116 = .ok (.putfield 44, 3) := by decide +kernel
theorem dX9_copy_119 : decode cX9_copy 119 = .ok (.aload_n 0, 1) := by decide +kernel
theorem dX9_copy_120 : decode cX9_copy 120 = .ok (.aload_n 1, 1) := by decide +kernel
theorem dX9_copy_121 : decode cX9_copy 121 = .ok (.getfield 53, 3) := by decide +kernel
theorem dX9_copy_124 : decode cX9_copy 124 = .ok (.putfield 53, 3) := by decide +kernel
theorem dX9_copy_127 : decode cX9_copy 127 = .ok (.aload_n 0, 1) := by decide +kernel
theorem dX9_copy_128 : decode cX9_copy 128 = .ok (.aload_n 1, 1) := by decide +kernel
theorem dX9_copy_129 : decode cX9_copy 129 = .ok (.getfield 56, 3) := by decide +kernel
theorem dX9_copy_132 : decode cX9_copy 132 = .ok (.putfield 56, 3) := by decide +kernel
theorem dX9_copy_135 : decode cX9_copy 135 = .ok (.return_, 1) := by decide +kernel
theorem dX9_onceTold_0 : decode cX9_onceTold 0 = .ok (.iload_n 2, 1) := by decide +kernel
theorem dX9_onceTold_1 : decode cX9_onceTold 1 = .ok (.ifCond .eq 11, 3) := by decide +kernel
theorem dX9_onceTold_12 : decode cX9_onceTold 12 = .ok (.aload_n 1, 1) := by decide +kernel
theorem dX9_onceTold_13 : decode cX9_onceTold 13 = .ok (.invokevirtual 154, 3) := by decide +kernel
theorem G713 : Cond.methodLink "HookedCity$Town" 154 ⟨"HookedCity$Tape", "step", "()V"⟩ ∈ GW := gw_i 713 (by decide +kernel) rfl
theorem V_HookedCity_Town_154 : VL "HookedCity$Town" 154 yX8_step cX8_step 1 none 0 := ⟨G589, G713, G120, by decide +kernel, by decide +kernel, by decide +kernel⟩
theorem dX9_onceTold_16 : decode cX9_onceTold 16 = .ok (.aload_n 1, 1) := by decide +kernel
theorem dX9_onceTold_17 : decode cX9_onceTold 17 = .ok (.iload_n 3, 1) := by decide +kernel
theorem dX9_onceTold_18 : decode cX9_onceTold 18 = .ok (.iload 4, 2) := by decide +kernel
theorem dX9_onceTold_20 : decode cX9_onceTold 20 = .ok (.invokevirtual 168, 3) := by decide +kernel
theorem G728 : Cond.code ⟨"HookedCity$Tape", "numberAt", "(II)I"⟩ prog_10_method_17_code 3 (some .int) ∈ GW := gw_i 728 (by decide +kernel) rfl
theorem G725 : Cond.methodLink "HookedCity$Town" 168 ⟨"HookedCity$Tape", "numberAt", "(II)I"⟩ ∈ GW := gw_i 725 (by decide +kernel) rfl
theorem V_HookedCity_Town_168 : VL "HookedCity$Town" 168 yX8_numberAt cX8_numberAt 3 (some .int) 2 := ⟨G728, G725, G120, by decide +kernel, by decide +kernel, by decide +kernel⟩
theorem G726 : Cond.instanceMethod ⟨"HookedCity$Tape", "numberAt", "(II)I"⟩ ∈ GW := gw_i 726 (by decide +kernel) rfl
theorem G727 : Cond.selects "HookedCity$Tape" ⟨"HookedCity$Tape", "numberAt", "(II)I"⟩ ⟨"HookedCity$Tape", "numberAt", "(II)I"⟩ ∈ GW := gw_i 727 (by decide +kernel) rfl
theorem dX9_onceTold_23 : decode cX9_onceTold 23 = .ok (.istore 5, 2) := by decide +kernel
theorem dX9_onceTold_25 : decode cX9_onceTold 25 = .ok (.iload 5, 2) := by decide +kernel
theorem dX9_onceTold_27 : decode cX9_onceTold 27 = .ok (.iconst (-1), 1) := by decide +kernel
theorem dX9_onceTold_28 : decode cX9_onceTold 28 = .ok (.if_icmp .eq 7, 3) := by decide +kernel
theorem dX9_onceTold_35 : decode cX9_onceTold 35 = .ok (.iload 5, 2) := by decide +kernel
theorem dX9_onceTold_37 : decode cX9_onceTold 37 = .ok (.ireturn, 1) := by decide +kernel
theorem dX9_onceTold_31 : decode cX9_onceTold 31 = .ok (.aload_n 1, 1) := by decide +kernel
theorem dX9_onceTold_32 : decode cX9_onceTold 32 = .ok (.invokevirtual 154, 3) := by decide +kernel
theorem dX9_onceTold_4 : decode cX9_onceTold 4 = .ok (.aload_n 1, 1) := by decide +kernel
theorem dX9_onceTold_5 : decode cX9_onceTold 5 = .ok (.iconst 3, 1) := by decide +kernel
theorem dX9_onceTold_6 : decode cX9_onceTold 6 = .ok (.invokevirtual 150, 3) := by decide +kernel
theorem G709 : Cond.methodLink "HookedCity$Town" 150 ⟨"HookedCity$Tape", "fail", "(I)Z"⟩ ∈ GW := gw_i 709 (by decide +kernel) rfl
theorem V_HookedCity_Town_150 : VL "HookedCity$Town" 150 yX8_fail cX8_fail 2 (some .boolean) 1 := ⟨G712, G709, G120, by decide +kernel, by decide +kernel, by decide +kernel⟩
theorem dX9_onceTold_9 : decode cX9_onceTold 9 = .ok (.pop, 1) := by decide +kernel
theorem dX9_onceTold_10 : decode cX9_onceTold 10 = .ok (.iconst (-1), 1) := by decide +kernel
theorem dX9_onceTold_11 : decode cX9_onceTold 11 = .ok (.ireturn, 1) := by decide +kernel
theorem dX9_readJuly_0 : decode cX9_readJuly 0 = .ok (.aload_n 0, 1) := by decide +kernel
theorem dX9_readJuly_1 : decode cX9_readJuly 1 = .ok (.aload_n 0, 1) := by decide +kernel
theorem dX9_readJuly_2 : decode cX9_readJuly 2 = .ok (.aload_n 1, 1) := by decide +kernel
theorem dX9_readJuly_3 : decode cX9_readJuly 3 = .ok (.aload_n 0, 1) := by decide +kernel
theorem dX9_readJuly_4 : decode cX9_readJuly 4 = .ok (.getfield 66, 3) := by decide +kernel
theorem dX9_readJuly_7 : decode cX9_readJuly 7 = .ok (.iconst 0, 1) := by decide +kernel
theorem dX9_readJuly_8 : decode cX9_readJuly 8 = .ok (.bipush 60, 2) := by decide +kernel
theorem dX9_readJuly_10 : decode cX9_readJuly 10 = .ok (.invokevirtual 175, 3) := by decide +kernel
theorem G765 : Cond.code ⟨"HookedCity$Town", "onceTold", "(LHookedCity$Tape;ZII)I"⟩ prog_11_method_13_code 6 (some .int) ∈ GW := gw_i 765 (by decide +kernel) rfl
theorem G762 : Cond.methodLink "HookedCity$Town" 175 ⟨"HookedCity$Town", "onceTold", "(LHookedCity$Tape;ZII)I"⟩ ∈ GW := gw_i 762 (by decide +kernel) rfl
theorem V_HookedCity_Town_175 : VL "HookedCity$Town" 175 yX9_onceTold cX9_onceTold 6 (some .int) 4 := ⟨G765, G762, G128, by decide +kernel, by decide +kernel, by decide +kernel⟩
theorem G764 : Cond.instanceMethod ⟨"HookedCity$Town", "onceTold", "(LHookedCity$Tape;ZII)I"⟩ ∈ GW := gw_i 764 (by decide +kernel) rfl
theorem G12 : Cond.selects "HookedCity$Town" ⟨"HookedCity$Town", "onceTold", "(LHookedCity$Tape;ZII)I"⟩ ⟨"HookedCity$Town", "onceTold", "(LHookedCity$Tape;ZII)I"⟩ ∈ GW := gw_i 12 (by decide +kernel) rfl
theorem dX9_readJuly_13 : decode cX9_readJuly 13 = .ok (.putfield 56, 3) := by decide +kernel
theorem dX9_readJuly_16 : decode cX9_readJuly 16 = .ok (.aload_n 0, 1) := by decide +kernel
theorem dX9_readJuly_17 : decode cX9_readJuly 17 = .ok (.iconst 1, 1) := by decide +kernel
theorem dX9_readJuly_18 : decode cX9_readJuly 18 = .ok (.putfield 66, 3) := by decide +kernel
theorem dX9_readJuly_21 : decode cX9_readJuly 21 = .ok (.aload_n 0, 1) := by decide +kernel
theorem dX9_readJuly_22 : decode cX9_readJuly 22 = .ok (.getfield 56, 3) := by decide +kernel
theorem dX9_readJuly_25 : decode cX9_readJuly 25 = .ok (.iconst (-1), 1) := by decide +kernel
theorem dX9_readJuly_26 : decode cX9_readJuly 26 = .ok (.if_icmp .eq 7, 3) := by decide +kernel
theorem dX9_readJuly_33 : decode cX9_readJuly 33 = .ok (.iconst 0, 1) := by decide +kernel
theorem dX9_readJuly_34 : decode cX9_readJuly 34 = .ok (.ireturn, 1) := by decide +kernel
theorem dX9_readJuly_29 : decode cX9_readJuly 29 = .ok (.iconst 1, 1) := by decide +kernel
theorem dX9_readJuly_30 : decode cX9_readJuly 30 = .ok (.goto 4, 3) := by decide +kernel
theorem dX9_readYear_0 : decode cX9_readYear 0 = .ok (.aload_n 0, 1) := by decide +kernel
theorem dX9_readYear_1 : decode cX9_readYear 1 = .ok (.aload_n 0, 1) := by decide +kernel
theorem dX9_readYear_2 : decode cX9_readYear 2 = .ok (.aload_n 1, 1) := by decide +kernel
theorem dX9_readYear_3 : decode cX9_readYear 3 = .ok (.aload_n 0, 1) := by decide +kernel
theorem dX9_readYear_4 : decode cX9_readYear 4 = .ok (.getfield 63, 3) := by decide +kernel
theorem dX9_readYear_7 : decode cX9_readYear 7 = .ok (.iconst 2, 1) := by decide +kernel
theorem dX9_readYear_8 : decode cX9_readYear 8 = .ok (.bipush 60, 2) := by decide +kernel
theorem dX9_readYear_10 : decode cX9_readYear 10 = .ok (.invokevirtual 175, 3) := by decide +kernel
theorem dX9_readYear_13 : decode cX9_readYear 13 = .ok (.putfield 53, 3) := by decide +kernel
theorem dX9_readYear_16 : decode cX9_readYear 16 = .ok (.aload_n 0, 1) := by decide +kernel
theorem dX9_readYear_17 : decode cX9_readYear 17 = .ok (.iconst 1, 1) := by decide +kernel
theorem dX9_readYear_18 : decode cX9_readYear 18 = .ok (.putfield 63, 3) := by decide +kernel
theorem dX9_readYear_21 : decode cX9_readYear 21 = .ok (.aload_n 0, 1) := by decide +kernel
theorem dX9_readYear_22 : decode cX9_readYear 22 = .ok (.getfield 53, 3) := by decide +kernel
theorem dX9_readYear_25 : decode cX9_readYear 25 = .ok (.iconst (-1), 1) := by decide +kernel
theorem dX9_readYear_26 : decode cX9_readYear 26 = .ok (.if_icmp .eq 7, 3) := by decide +kernel
theorem dX9_readYear_33 : decode cX9_readYear 33 = .ok (.iconst 0, 1) := by decide +kernel
theorem dX9_readYear_34 : decode cX9_readYear 34 = .ok (.ireturn, 1) := by decide +kernel
theorem dX9_readYear_29 : decode cX9_readYear 29 = .ok (.iconst 1, 1) := by decide +kernel
theorem dX9_readYear_30 : decode cX9_readYear 30 = .ok (.goto 4, 3) := by decide +kernel
theorem dX9_readSpare_0 : decode cX9_readSpare 0 = .ok (.aload_n 0, 1) := by decide +kernel
theorem dX9_readSpare_1 : decode cX9_readSpare 1 = .ok (.aload_n 0, 1) := by decide +kernel
theorem dX9_readSpare_2 : decode cX9_readSpare 2 = .ok (.aload_n 1, 1) := by decide +kernel
theorem dX9_readSpare_3 : decode cX9_readSpare 3 = .ok (.aload_n 0, 1) := by decide +kernel
theorem dX9_readSpare_4 : decode cX9_readSpare 4 = .ok (.getfield 59, 3) := by decide +kernel
theorem dX9_readSpare_7 : decode cX9_readSpare 7 = .ok (.iconst 0, 1) := by decide +kernel
theorem dX9_readSpare_8 : decode cX9_readSpare 8 = .ok (.bipush 20, 2) := by decide +kernel
theorem dX9_readSpare_10 : decode cX9_readSpare 10 = .ok (.invokevirtual 175, 3) := by decide +kernel
theorem dX9_readSpare_13 : decode cX9_readSpare 13 = .ok (.putfield 50, 3) := by decide +kernel
theorem dX9_readSpare_16 : decode cX9_readSpare 16 = .ok (.aload_n 0, 1) := by decide +kernel
theorem dX9_readSpare_17 : decode cX9_readSpare 17 = .ok (.iconst 1, 1) := by decide +kernel
theorem dX9_readSpare_18 : decode cX9_readSpare 18 = .ok (.putfield 59, 3) := by decide +kernel
theorem dX9_readSpare_21 : decode cX9_readSpare 21 = .ok (.aload_n 0, 1) := by decide +kernel
theorem dX9_readSpare_22 : decode cX9_readSpare 22 = .ok (.getfield 50, 3) := by decide +kernel
theorem dX9_readSpare_25 : decode cX9_readSpare 25 = .ok (.iconst (-1), 1) := by decide +kernel
theorem dX9_readSpare_26 : decode cX9_readSpare 26 = .ok (.if_icmp .eq 7, 3) := by decide +kernel
theorem dX9_readSpare_33 : decode cX9_readSpare 33 = .ok (.iconst 0, 1) := by decide +kernel
theorem dX9_readSpare_34 : decode cX9_readSpare 34 = .ok (.ireturn, 1) := by decide +kernel
theorem dX9_readSpare_29 : decode cX9_readSpare 29 = .ok (.iconst 1, 1) := by decide +kernel
theorem dX9_readSpare_30 : decode cX9_readSpare 30 = .ok (.goto 4, 3) := by decide +kernel
theorem dX9_placeOf_0 : decode cX9_placeOf 0 = .ok (.iconst 0, 1) := by decide +kernel
theorem dX9_placeOf_1 : decode cX9_placeOf 1 = .ok (.istore 4, 2) := by decide +kernel
theorem dX9_placeOf_3 : decode cX9_placeOf 3 = .ok (.iload 4, 2) := by decide +kernel
theorem dX9_placeOf_5 : decode cX9_placeOf 5 = .ok (.iload_n 1, 1) := by decide +kernel
theorem dX9_placeOf_6 : decode cX9_placeOf 6 = .ok (.if_icmp .ge 28, 3) := by decide +kernel
theorem dX9_placeOf_34 : decode cX9_placeOf 34 = .ok (.iconst (-1), 1) := by decide +kernel
theorem dX9_placeOf_35 : decode cX9_placeOf 35 = .ok (.ireturn, 1) := by decide +kernel
theorem dX9_placeOf_9 : decode cX9_placeOf 9 = .ok (.iload 4, 2) := by decide +kernel
theorem dX9_placeOf_11 : decode cX9_placeOf 11 = .ok (.aload_n 0, 1) := by decide +kernel
theorem dX9_placeOf_12 : decode cX9_placeOf 12 = .ok (.arraylength, 1) := by decide +kernel
theorem dX9_placeOf_13 : decode cX9_placeOf 13 = .ok (.if_icmp .ge 21, 3) := by decide +kernel
theorem dX9_placeOf_16 : decode cX9_placeOf 16 = .ok (.aload_n 0, 1) := by decide +kernel
theorem dX9_placeOf_17 : decode cX9_placeOf 17 = .ok (.iload 4, 2) := by decide +kernel
theorem dX9_placeOf_19 : decode cX9_placeOf 19 = .ok (.laload, 1) := by decide +kernel
theorem dX9_placeOf_20 : decode cX9_placeOf 20 = .ok (.lload_n 2, 1) := by decide +kernel
theorem dX9_placeOf_21 : decode cX9_placeOf 21 = .ok (.lcmp, 1) := by decide +kernel
theorem dX9_placeOf_22 : decode cX9_placeOf 22 = .ok (.ifCond .ne 6, 3) := by decide +kernel
theorem dX9_placeOf_28 : decode cX9_placeOf 28 = .ok (.iinc 4 1, 3) := by decide +kernel
theorem dX9_placeOf_31 : decode cX9_placeOf 31 = .ok (.goto (-28), 3) := by decide +kernel
theorem dX9_placeOf_25 : decode cX9_placeOf 25 = .ok (.iload 4, 2) := by decide +kernel
theorem dX9_placeOf_27 : decode cX9_placeOf 27 = .ok (.ireturn, 1) := by decide +kernel
theorem dX9_nameAt_0 : decode cX9_nameAt 0 = .ok (.aload_n 1, 1) := by decide +kernel
theorem dX9_nameAt_1 : decode cX9_nameAt 1 = .ok (.getfield 179, 3) := by decide +kernel
theorem N169 : Cond.fieldLinkNest "HookedCity$Town" 179 "HookedCity$Tape" "token" "I" "HookedCity" ∈ lw_tbl := List.mem_of_getElem? (i := 169) (by decide +kernel)
theorem dX9_nameAt_4 : decode cX9_nameAt 4 = .ok (.iconst 3, 1) := by decide +kernel
theorem dX9_nameAt_5 : decode cX9_nameAt 5 = .ok (.if_icmp .eq 11, 3) := by decide +kernel
theorem dX9_nameAt_16 : decode cX9_nameAt 16 = .ok (.aload_n 2, 1) := by decide +kernel
theorem dX9_nameAt_17 : decode cX9_nameAt 17 = .ok (.iload_n 3, 1) := by decide +kernel
theorem dX9_nameAt_18 : decode cX9_nameAt 18 = .ok (.aload_n 1, 1) := by decide +kernel
theorem dX9_nameAt_19 : decode cX9_nameAt 19 = .ok (.getfield 160, 3) := by decide +kernel
theorem N175 : Cond.fieldLinkNest "HookedCity$Town" 160 "HookedCity$Tape" "name" "J" "HookedCity" ∈ lw_tbl := List.mem_of_getElem? (i := 175) (by decide +kernel)
theorem dX9_nameAt_22 : decode cX9_nameAt 22 = .ok (.invokestatic 182, 3) := by decide +kernel
theorem G720 : Cond.code ⟨"HookedCity$Town", "placeOf", "([JIJ)I"⟩ prog_11_method_19_code 5 (some .int) ∈ GW := gw_i 720 (by decide +kernel) rfl
theorem G718 : Cond.methodLink "HookedCity$Town" 182 ⟨"HookedCity$Town", "placeOf", "([JIJ)I"⟩ ∈ GW := gw_i 718 (by decide +kernel) rfl
theorem V_HookedCity_Town_182 : VL "HookedCity$Town" 182 yX9_placeOf cX9_placeOf 5 (some .int) 3 := ⟨G720, G718, G128, by decide +kernel, by decide +kernel, by decide +kernel⟩
theorem G719 : Cond.static ⟨"HookedCity$Town", "placeOf", "([JIJ)I"⟩ ∈ GW := gw_i 719 (by decide +kernel) rfl
theorem dX9_nameAt_25 : decode cX9_nameAt 25 = .ok (.istore 4, 2) := by decide +kernel
theorem dX9_nameAt_27 : decode cX9_nameAt 27 = .ok (.iload 4, 2) := by decide +kernel
theorem dX9_nameAt_29 : decode cX9_nameAt 29 = .ok (.iconst (-1), 1) := by decide +kernel
theorem dX9_nameAt_30 : decode cX9_nameAt 30 = .ok (.if_icmp .ne 9, 3) := by decide +kernel
theorem dX9_nameAt_39 : decode cX9_nameAt 39 = .ok (.iload 4, 2) := by decide +kernel
theorem dX9_nameAt_41 : decode cX9_nameAt 41 = .ok (.ireturn, 1) := by decide +kernel
theorem dX9_nameAt_33 : decode cX9_nameAt 33 = .ok (.aload_n 1, 1) := by decide +kernel
theorem dX9_nameAt_34 : decode cX9_nameAt 34 = .ok (.iconst 3, 1) := by decide +kernel
theorem dX9_nameAt_35 : decode cX9_nameAt 35 = .ok (.invokevirtual 150, 3) := by decide +kernel
theorem dX9_nameAt_38 : decode cX9_nameAt 38 = .ok (.pop, 1) := by decide +kernel
theorem dX9_nameAt_8 : decode cX9_nameAt 8 = .ok (.aload_n 1, 1) := by decide +kernel
theorem dX9_nameAt_9 : decode cX9_nameAt 9 = .ok (.iconst 1, 1) := by decide +kernel
theorem dX9_nameAt_10 : decode cX9_nameAt 10 = .ok (.invokevirtual 150, 3) := by decide +kernel
theorem dX9_nameAt_13 : decode cX9_nameAt 13 = .ok (.pop, 1) := by decide +kernel
theorem dX9_nameAt_14 : decode cX9_nameAt 14 = .ok (.iconst (-1), 1) := by decide +kernel
theorem dX9_nameAt_15 : decode cX9_nameAt 15 = .ok (.ireturn, 1) := by decide +kernel
theorem dX9_personAt_0 : decode cX9_personAt 0 = .ok (.aload_n 0, 1) := by decide +kernel
theorem dX9_personAt_1 : decode cX9_personAt 1 = .ok (.aload_n 1, 1) := by decide +kernel
theorem dX9_personAt_2 : decode cX9_personAt 2 = .ok (.aload_n 0, 1) := by decide +kernel
theorem dX9_personAt_3 : decode cX9_personAt 3 = .ok (.getfield 9, 3) := by decide +kernel
theorem dX9_personAt_6 : decode cX9_personAt 6 = .ok (.aload_n 0, 1) := by decide +kernel
theorem dX9_personAt_7 : decode cX9_personAt 7 = .ok (.getfield 40, 3) := by decide +kernel
theorem dX9_personAt_10 : decode cX9_personAt 10 = .ok (.invokevirtual 189, 3) := by decide +kernel
theorem G749 : Cond.code ⟨"HookedCity$Town", "nameAt", "(LHookedCity$Tape;[JI)I"⟩ prog_11_method_18_code 5 (some .int) ∈ GW := gw_i 749 (by decide +kernel) rfl
theorem G746 : Cond.methodLink "HookedCity$Town" 189 ⟨"HookedCity$Town", "nameAt", "(LHookedCity$Tape;[JI)I"⟩ ∈ GW := gw_i 746 (by decide +kernel) rfl
theorem V_HookedCity_Town_189 : VL "HookedCity$Town" 189 yX9_nameAt cX9_nameAt 5 (some .int) 3 := ⟨G749, G746, G128, by decide +kernel, by decide +kernel, by decide +kernel⟩
theorem G748 : Cond.instanceMethod ⟨"HookedCity$Town", "nameAt", "(LHookedCity$Tape;[JI)I"⟩ ∈ GW := gw_i 748 (by decide +kernel) rfl
theorem G9 : Cond.selects "HookedCity$Town" ⟨"HookedCity$Town", "nameAt", "(LHookedCity$Tape;[JI)I"⟩ ⟨"HookedCity$Town", "nameAt", "(LHookedCity$Tape;[JI)I"⟩ ∈ GW := gw_i 9 (by decide +kernel) rfl
theorem dX9_personAt_13 : decode cX9_personAt 13 = .ok (.ireturn, 1) := by decide +kernel
theorem dX9_readDone_0 : decode cX9_readDone 0 = .ok (.aload_n 1, 1) := by decide +kernel
theorem dX9_readDone_1 : decode cX9_readDone 1 = .ok (.invokevirtual 154, 3) := by decide +kernel
theorem dX9_readDone_4 : decode cX9_readDone 4 = .ok (.aload_n 0, 1) := by decide +kernel
theorem dX9_readDone_5 : decode cX9_readDone 5 = .ok (.aload_n 1, 1) := by decide +kernel
theorem dX9_readDone_6 : decode cX9_readDone 6 = .ok (.invokevirtual 172, 3) := by decide +kernel
theorem G745 : Cond.code ⟨"HookedCity$Town", "personAt", "(LHookedCity$Tape;)I"⟩ prog_11_method_16_code 2 (some .int) ∈ GW := gw_i 745 (by decide +kernel) rfl
theorem G742 : Cond.methodLink "HookedCity$Town" 172 ⟨"HookedCity$Town", "personAt", "(LHookedCity$Tape;)I"⟩ ∈ GW := gw_i 742 (by decide +kernel) rfl
theorem V_HookedCity_Town_172 : VL "HookedCity$Town" 172 yX9_personAt cX9_personAt 2 (some .int) 1 := ⟨G745, G742, G128, by decide +kernel, by decide +kernel, by decide +kernel⟩
theorem G743 : Cond.instanceMethod ⟨"HookedCity$Town", "personAt", "(LHookedCity$Tape;)I"⟩ ∈ GW := gw_i 743 (by decide +kernel) rfl
theorem G744 : Cond.selects "HookedCity$Town" ⟨"HookedCity$Town", "personAt", "(LHookedCity$Tape;)I"⟩ ⟨"HookedCity$Town", "personAt", "(LHookedCity$Tape;)I"⟩ ∈ GW := gw_i 744 (by decide +kernel) rfl
theorem dX9_readDone_9 : decode cX9_readDone 9 = .ok (.istore_n 2, 1) := by decide +kernel
theorem dX9_readDone_10 : decode cX9_readDone 10 = .ok (.iload_n 2, 1) := by decide +kernel
theorem dX9_readDone_11 : decode cX9_readDone 11 = .ok (.iconst (-1), 1) := by decide +kernel
theorem dX9_readDone_12 : decode cX9_readDone 12 = .ok (.if_icmp .ne 5, 3) := by decide +kernel
theorem dX9_readDone_17 : decode cX9_readDone 17 = .ok (.aload_n 0, 1) := by decide +kernel
theorem dX9_readDone_18 : decode cX9_readDone 18 = .ok (.getfield 28, 3) := by decide +kernel
theorem dX9_readDone_21 : decode cX9_readDone 21 = .ok (.iload_n 2, 1) := by decide +kernel
theorem dX9_readDone_22 : decode cX9_readDone 22 = .ok (.iaload, 1) := by decide +kernel
theorem dX9_readDone_23 : decode cX9_readDone 23 = .ok (.iconst (-1), 1) := by decide +kernel
theorem dX9_readDone_24 : decode cX9_readDone 24 = .ok (.if_icmp .eq 9, 3) := by decide +kernel
theorem dX9_readDone_33 : decode cX9_readDone 33 = .ok (.aload_n 1, 1) := by decide +kernel
theorem dX9_readDone_34 : decode cX9_readDone 34 = .ok (.invokevirtual 154, 3) := by decide +kernel
theorem dX9_readDone_37 : decode cX9_readDone 37 = .ok (.aload_n 0, 1) := by decide +kernel
theorem dX9_readDone_38 : decode cX9_readDone 38 = .ok (.aload_n 1, 1) := by decide +kernel
theorem dX9_readDone_39 : decode cX9_readDone 39 = .ok (.invokevirtual 172, 3) := by decide +kernel
theorem dX9_readDone_42 : decode cX9_readDone 42 = .ok (.istore_n 3, 1) := by decide +kernel
theorem dX9_readDone_43 : decode cX9_readDone 43 = .ok (.iload_n 3, 1) := by decide +kernel
theorem dX9_readDone_44 : decode cX9_readDone 44 = .ok (.iconst (-1), 1) := by decide +kernel
theorem dX9_readDone_45 : decode cX9_readDone 45 = .ok (.if_icmp .ne 5, 3) := by decide +kernel
theorem dX9_readDone_50 : decode cX9_readDone 50 = .ok (.iload_n 2, 1) := by decide +kernel
theorem dX9_readDone_51 : decode cX9_readDone 51 = .ok (.iload_n 3, 1) := by decide +kernel
theorem dX9_readDone_52 : decode cX9_readDone 52 = .ok (.if_icmp .eq 28, 3) := by decide +kernel
theorem dX9_readDone_80 : decode cX9_readDone 80 = .ok (.aload_n 1, 1) := by decide +kernel
theorem dX9_readDone_81 : decode cX9_readDone 81 = .ok (.iconst 3, 1) := by decide +kernel
theorem dX9_readDone_82 : decode cX9_readDone 82 = .ok (.invokevirtual 150, 3) := by decide +kernel
theorem dX9_readDone_85 : decode cX9_readDone 85 = .ok (.ireturn, 1) := by decide +kernel
theorem dX9_readDone_55 : decode cX9_readDone 55 = .ok (.aload_n 0, 1) := by decide +kernel
theorem dX9_readDone_56 : decode cX9_readDone 56 = .ok (.getfield 19, 3) := by decide +kernel
theorem dX9_readDone_59 : decode cX9_readDone 59 = .ok (.iload_n 2, 1) := by decide +kernel
theorem dX9_readDone_60 : decode cX9_readDone 60 = .ok (.iaload, 1) := by decide +kernel
theorem dX9_readDone_61 : decode cX9_readDone 61 = .ok (.aload_n 0, 1) := by decide +kernel
theorem dX9_readDone_62 : decode cX9_readDone 62 = .ok (.getfield 15, 3) := by decide +kernel
theorem dX9_readDone_65 : decode cX9_readDone 65 = .ok (.iload_n 3, 1) := by decide +kernel
theorem dX9_readDone_66 : decode cX9_readDone 66 = .ok (.iaload, 1) := by decide +kernel
theorem dX9_readDone_67 : decode cX9_readDone 67 = .ok (.if_icmp .ne 13, 3) := by decide +kernel
theorem dX9_readDone_70 : decode cX9_readDone 70 = .ok (.aload_n 0, 1) := by decide +kernel
theorem dX9_readDone_71 : decode cX9_readDone 71 = .ok (.getfield 31, 3) := by decide +kernel
theorem dX9_readDone_74 : decode cX9_readDone 74 = .ok (.iload_n 3, 1) := by decide +kernel
theorem dX9_readDone_75 : decode cX9_readDone 75 = .ok (.iaload, 1) := by decide +kernel
theorem dX9_readDone_76 : decode cX9_readDone 76 = .ok (.iconst (-1), 1) := by decide +kernel
theorem dX9_readDone_77 : decode cX9_readDone 77 = .ok (.if_icmp .eq 9, 3) := by decide +kernel
theorem dX9_readDone_86 : decode cX9_readDone 86 = .ok (.aload_n 1, 1) := by decide +kernel
theorem dX9_readDone_87 : decode cX9_readDone 87 = .ok (.invokevirtual 154, 3) := by decide +kernel
theorem dX9_readDone_90 : decode cX9_readDone 90 = .ok (.aload_n 0, 1) := by decide +kernel
theorem dX9_readDone_91 : decode cX9_readDone 91 = .ok (.getfield 28, 3) := by decide +kernel
theorem dX9_readDone_94 : decode cX9_readDone 94 = .ok (.iload_n 2, 1) := by decide +kernel
theorem dX9_readDone_95 : decode cX9_readDone 95 = .ok (.iload_n 3, 1) := by decide +kernel
theorem dX9_readDone_96 : decode cX9_readDone 96 = .ok (.iastore, 1) := by decide +kernel
theorem dX9_readDone_97 : decode cX9_readDone 97 = .ok (.aload_n 0, 1) := by decide +kernel
theorem dX9_readDone_98 : decode cX9_readDone 98 = .ok (.getfield 31, 3) := by decide +kernel
theorem dX9_readDone_101 : decode cX9_readDone 101 = .ok (.iload_n 3, 1) := by decide +kernel
theorem dX9_readDone_102 : decode cX9_readDone 102 = .ok (.iload_n 2, 1) := by decide +kernel
theorem dX9_readDone_103 : decode cX9_readDone 103 = .ok (.iastore, 1) := by decide +kernel
theorem dX9_readDone_104 : decode cX9_readDone 104 = .ok (.iconst 1, 1) := by decide +kernel
theorem dX9_readDone_105 : decode cX9_readDone 105 = .ok (.ireturn, 1) := by decide +kernel
theorem dX9_readDone_48 : decode cX9_readDone 48 = .ok (.iconst 0, 1) := by decide +kernel
theorem dX9_readDone_49 : decode cX9_readDone 49 = .ok (.ireturn, 1) := by decide +kernel
theorem dX9_readDone_27 : decode cX9_readDone 27 = .ok (.aload_n 1, 1) := by decide +kernel
theorem dX9_readDone_28 : decode cX9_readDone 28 = .ok (.iconst 3, 1) := by decide +kernel
theorem dX9_readDone_29 : decode cX9_readDone 29 = .ok (.invokevirtual 150, 3) := by decide +kernel
theorem dX9_readDone_32 : decode cX9_readDone 32 = .ok (.ireturn, 1) := by decide +kernel
theorem dX9_readDone_15 : decode cX9_readDone 15 = .ok (.iconst 0, 1) := by decide +kernel
theorem dX9_readDone_16 : decode cX9_readDone 16 = .ok (.ireturn, 1) := by decide +kernel
theorem dX9_readStreet_0 : decode cX9_readStreet 0 = .ok (.aload_n 1, 1) := by decide +kernel
theorem dX9_readStreet_1 : decode cX9_readStreet 1 = .ok (.invokevirtual 154, 3) := by decide +kernel
theorem dX9_readStreet_4 : decode cX9_readStreet 4 = .ok (.aload_n 0, 1) := by decide +kernel
theorem dX9_readStreet_5 : decode cX9_readStreet 5 = .ok (.aload_n 1, 1) := by decide +kernel
theorem dX9_readStreet_6 : decode cX9_readStreet 6 = .ok (.invokevirtual 172, 3) := by decide +kernel
theorem dX9_readStreet_9 : decode cX9_readStreet 9 = .ok (.istore_n 2, 1) := by decide +kernel
theorem dX9_readStreet_10 : decode cX9_readStreet 10 = .ok (.iload_n 2, 1) := by decide +kernel
theorem dX9_readStreet_11 : decode cX9_readStreet 11 = .ok (.iconst (-1), 1) := by decide +kernel
theorem dX9_readStreet_12 : decode cX9_readStreet 12 = .ok (.if_icmp .ne 5, 3) := by decide +kernel
theorem dX9_readStreet_17 : decode cX9_readStreet 17 = .ok (.aload_n 1, 1) := by decide +kernel
theorem dX9_readStreet_18 : decode cX9_readStreet 18 = .ok (.invokevirtual 154, 3) := by decide +kernel
theorem dX9_readStreet_21 : decode cX9_readStreet 21 = .ok (.aload_n 0, 1) := by decide +kernel
theorem dX9_readStreet_22 : decode cX9_readStreet 22 = .ok (.aload_n 1, 1) := by decide +kernel
theorem dX9_readStreet_23 : decode cX9_readStreet 23 = .ok (.invokevirtual 172, 3) := by decide +kernel
theorem dX9_readStreet_26 : decode cX9_readStreet 26 = .ok (.istore_n 3, 1) := by decide +kernel
theorem dX9_readStreet_27 : decode cX9_readStreet 27 = .ok (.iload_n 3, 1) := by decide +kernel
theorem dX9_readStreet_28 : decode cX9_readStreet 28 = .ok (.iconst (-1), 1) := by decide +kernel
theorem dX9_readStreet_29 : decode cX9_readStreet 29 = .ok (.if_icmp .ne 5, 3) := by decide +kernel
theorem dX9_readStreet_34 : decode cX9_readStreet 34 = .ok (.iload_n 2, 1) := by decide +kernel
theorem dX9_readStreet_35 : decode cX9_readStreet 35 = .ok (.iload_n 3, 1) := by decide +kernel
theorem dX9_readStreet_36 : decode cX9_readStreet 36 = .ok (.if_icmp .eq 16, 3) := by decide +kernel
theorem dX9_readStreet_52 : decode cX9_readStreet 52 = .ok (.aload_n 1, 1) := by decide +kernel
theorem dX9_readStreet_53 : decode cX9_readStreet 53 = .ok (.iconst 3, 1) := by decide +kernel
theorem dX9_readStreet_54 : decode cX9_readStreet 54 = .ok (.invokevirtual 150, 3) := by decide +kernel
theorem dX9_readStreet_57 : decode cX9_readStreet 57 = .ok (.ireturn, 1) := by decide +kernel
theorem dX9_readStreet_39 : decode cX9_readStreet 39 = .ok (.aload_n 0, 1) := by decide +kernel
theorem dX9_readStreet_40 : decode cX9_readStreet 40 = .ok (.getfield 25, 3) := by decide +kernel
theorem dX9_readStreet_43 : decode cX9_readStreet 43 = .ok (.iload_n 2, 1) := by decide +kernel
theorem dX9_readStreet_44 : decode cX9_readStreet 44 = .ok (.iaload, 1) := by decide +kernel
theorem dX9_readStreet_45 : decode cX9_readStreet 45 = .ok (.iload_n 3, 1) := by decide +kernel
theorem dX9_readStreet_46 : decode cX9_readStreet 46 = .ok (.ishr, 1) := by decide +kernel
theorem dX9_readStreet_47 : decode cX9_readStreet 47 = .ok (.iconst 1, 1) := by decide +kernel
theorem dX9_readStreet_48 : decode cX9_readStreet 48 = .ok (.iand, 1) := by decide +kernel
theorem dX9_readStreet_49 : decode cX9_readStreet 49 = .ok (.ifCond .eq 9, 3) := by decide +kernel
theorem dX9_readStreet_58 : decode cX9_readStreet 58 = .ok (.aload_n 1, 1) := by decide +kernel
theorem dX9_readStreet_59 : decode cX9_readStreet 59 = .ok (.invokevirtual 154, 3) := by decide +kernel
theorem dX9_readStreet_62 : decode cX9_readStreet 62 = .ok (.aload_n 0, 1) := by decide +kernel
theorem dX9_readStreet_63 : decode cX9_readStreet 63 = .ok (.getfield 25, 3) := by decide +kernel
theorem dX9_readStreet_66 : decode cX9_readStreet 66 = .ok (.iload_n 2, 1) := by decide +kernel
theorem dX9_readStreet_67 : decode cX9_readStreet 67 = .ok (.dup2, 1) := by decide +kernel
theorem dX9_readStreet_68 : decode cX9_readStreet 68 = .ok (.iaload, 1) := by decide +kernel
theorem dX9_readStreet_69 : decode cX9_readStreet 69 = .ok (.iconst 1, 1) := by decide +kernel
theorem dX9_readStreet_70 : decode cX9_readStreet 70 = .ok (.iload_n 3, 1) := by decide +kernel
theorem dX9_readStreet_71 : decode cX9_readStreet 71 = .ok (.ishl, 1) := by decide +kernel
theorem dX9_readStreet_72 : decode cX9_readStreet 72 = .ok (.ior, 1) := by decide +kernel
theorem dX9_readStreet_73 : decode cX9_readStreet 73 = .ok (.iastore, 1) := by decide +kernel
theorem dX9_readStreet_74 : decode cX9_readStreet 74 = .ok (.aload_n 0, 1) := by decide +kernel
theorem dX9_readStreet_75 : decode cX9_readStreet 75 = .ok (.getfield 25, 3) := by decide +kernel
theorem dX9_readStreet_78 : decode cX9_readStreet 78 = .ok (.iload_n 3, 1) := by decide +kernel
theorem dX9_readStreet_79 : decode cX9_readStreet 79 = .ok (.dup2, 1) := by decide +kernel
theorem dX9_readStreet_80 : decode cX9_readStreet 80 = .ok (.iaload, 1) := by decide +kernel
theorem dX9_readStreet_81 : decode cX9_readStreet 81 = .ok (.iconst 1, 1) := by decide +kernel
theorem dX9_readStreet_82 : decode cX9_readStreet 82 = .ok (.iload_n 2, 1) := by decide +kernel
theorem dX9_readStreet_83 : decode cX9_readStreet 83 = .ok (.ishl, 1) := by decide +kernel
theorem dX9_readStreet_84 : decode cX9_readStreet 84 = .ok (.ior, 1) := by decide +kernel
theorem dX9_readStreet_85 : decode cX9_readStreet 85 = .ok (.iastore, 1) := by decide +kernel
theorem dX9_readStreet_86 : decode cX9_readStreet 86 = .ok (.iconst 1, 1) := by decide +kernel
theorem dX9_readStreet_87 : decode cX9_readStreet 87 = .ok (.ireturn, 1) := by decide +kernel
theorem dX9_readStreet_32 : decode cX9_readStreet 32 = .ok (.iconst 0, 1) := by decide +kernel
theorem dX9_readStreet_33 : decode cX9_readStreet 33 = .ok (.ireturn, 1) := by decide +kernel
theorem dX9_readStreet_15 : decode cX9_readStreet 15 = .ok (.iconst 0, 1) := by decide +kernel
theorem dX9_readStreet_16 : decode cX9_readStreet 16 = .ok (.ireturn, 1) := by decide +kernel
theorem dX9_newNameAt_0 : decode cX9_newNameAt 0 = .ok (.aload_n 1, 1) := by decide +kernel
theorem dX9_newNameAt_1 : decode cX9_newNameAt 1 = .ok (.getfield 179, 3) := by decide +kernel
theorem dX9_newNameAt_4 : decode cX9_newNameAt 4 = .ok (.iconst 3, 1) := by decide +kernel
theorem dX9_newNameAt_5 : decode cX9_newNameAt 5 = .ok (.if_icmp .eq 9, 3) := by decide +kernel
theorem dX9_newNameAt_14 : decode cX9_newNameAt 14 = .ok (.aload_n 0, 1) := by decide +kernel
theorem dX9_newNameAt_15 : decode cX9_newNameAt 15 = .ok (.getfield 9, 3) := by decide +kernel
theorem dX9_newNameAt_18 : decode cX9_newNameAt 18 = .ok (.aload_n 0, 1) := by decide +kernel
theorem dX9_newNameAt_19 : decode cX9_newNameAt 19 = .ok (.getfield 40, 3) := by decide +kernel
theorem dX9_newNameAt_22 : decode cX9_newNameAt 22 = .ok (.aload_n 1, 1) := by decide +kernel
theorem dX9_newNameAt_23 : decode cX9_newNameAt 23 = .ok (.getfield 160, 3) := by decide +kernel
theorem dX9_newNameAt_26 : decode cX9_newNameAt 26 = .ok (.invokestatic 182, 3) := by decide +kernel
theorem dX9_newNameAt_29 : decode cX9_newNameAt 29 = .ok (.iconst (-1), 1) := by decide +kernel
theorem dX9_newNameAt_30 : decode cX9_newNameAt 30 = .ok (.if_icmp .ne 22, 3) := by decide +kernel
theorem dX9_newNameAt_52 : decode cX9_newNameAt 52 = .ok (.aload_n 1, 1) := by decide +kernel
theorem dX9_newNameAt_53 : decode cX9_newNameAt 53 = .ok (.iconst 3, 1) := by decide +kernel
theorem dX9_newNameAt_54 : decode cX9_newNameAt 54 = .ok (.invokevirtual 150, 3) := by decide +kernel
theorem dX9_newNameAt_57 : decode cX9_newNameAt 57 = .ok (.ireturn, 1) := by decide +kernel
theorem dX9_newNameAt_33 : decode cX9_newNameAt 33 = .ok (.aload_n 0, 1) := by decide +kernel
theorem dX9_newNameAt_34 : decode cX9_newNameAt 34 = .ok (.getfield 34, 3) := by decide +kernel
theorem dX9_newNameAt_37 : decode cX9_newNameAt 37 = .ok (.aload_n 0, 1) := by decide +kernel
theorem dX9_newNameAt_38 : decode cX9_newNameAt 38 = .ok (.getfield 44, 3) := by decide +kernel
theorem dX9_newNameAt_41 : decode cX9_newNameAt 41 = .ok (.aload_n 1, 1) := by decide +kernel
theorem dX9_newNameAt_42 : decode cX9_newNameAt 42 = .ok (.getfield 160, 3) := by decide +kernel
theorem dX9_newNameAt_45 : decode cX9_newNameAt 45 = .ok (.invokestatic 182, 3) := by decide +kernel
theorem dX9_newNameAt_48 : decode cX9_newNameAt 48 = .ok (.iconst (-1), 1) := by decide +kernel
theorem dX9_newNameAt_49 : decode cX9_newNameAt 49 = .ok (.if_icmp .eq 9, 3) := by decide +kernel
theorem dX9_newNameAt_58 : decode cX9_newNameAt 58 = .ok (.iconst 1, 1) := by decide +kernel
theorem dX9_newNameAt_59 : decode cX9_newNameAt 59 = .ok (.ireturn, 1) := by decide +kernel
theorem dX9_newNameAt_8 : decode cX9_newNameAt 8 = .ok (.aload_n 1, 1) := by decide +kernel
theorem dX9_newNameAt_9 : decode cX9_newNameAt 9 = .ok (.iconst 1, 1) := by decide +kernel
theorem dX9_newNameAt_10 : decode cX9_newNameAt 10 = .ok (.invokevirtual 150, 3) := by decide +kernel
theorem dX9_newNameAt_13 : decode cX9_newNameAt 13 = .ok (.ireturn, 1) := by decide +kernel
theorem dX9_readMaid_0 : decode cX9_readMaid 0 = .ok (.aload_n 0, 1) := by decide +kernel
theorem dX9_readMaid_1 : decode cX9_readMaid 1 = .ok (.getfield 44, 3) := by decide +kernel
theorem dX9_readMaid_4 : decode cX9_readMaid 4 = .ok (.iconst 3, 1) := by decide +kernel
theorem dX9_readMaid_5 : decode cX9_readMaid 5 = .ok (.if_icmp .lt 9, 3) := by decide +kernel
theorem dX9_readMaid_14 : decode cX9_readMaid 14 = .ok (.aload_n 1, 1) := by decide +kernel
theorem dX9_readMaid_15 : decode cX9_readMaid 15 = .ok (.invokevirtual 154, 3) := by decide +kernel
theorem dX9_readMaid_18 : decode cX9_readMaid 18 = .ok (.aload_n 0, 1) := by decide +kernel
theorem dX9_readMaid_19 : decode cX9_readMaid 19 = .ok (.aload_n 1, 1) := by decide +kernel
theorem dX9_readMaid_20 : decode cX9_readMaid 20 = .ok (.invokevirtual 157, 3) := by decide +kernel
theorem G717 : Cond.code ⟨"HookedCity$Town", "newNameAt", "(LHookedCity$Tape;)Z"⟩ prog_11_method_14_code 2 (some .boolean) ∈ GW := gw_i 717 (by decide +kernel) rfl
theorem G714 : Cond.methodLink "HookedCity$Town" 157 ⟨"HookedCity$Town", "newNameAt", "(LHookedCity$Tape;)Z"⟩ ∈ GW := gw_i 714 (by decide +kernel) rfl
theorem V_HookedCity_Town_157 : VL "HookedCity$Town" 157 yX9_newNameAt cX9_newNameAt 2 (some .boolean) 1 := ⟨G717, G714, G128, by decide +kernel, by decide +kernel, by decide +kernel⟩
theorem G716 : Cond.instanceMethod ⟨"HookedCity$Town", "newNameAt", "(LHookedCity$Tape;)Z"⟩ ∈ GW := gw_i 716 (by decide +kernel) rfl
theorem G5 : Cond.selects "HookedCity$Town" ⟨"HookedCity$Town", "newNameAt", "(LHookedCity$Tape;)Z"⟩ ⟨"HookedCity$Town", "newNameAt", "(LHookedCity$Tape;)Z"⟩ ∈ GW := gw_i 5 (by decide +kernel) rfl
theorem dX9_readMaid_23 : decode cX9_readMaid 23 = .ok (.ifCond .ne 5, 3) := by decide +kernel
theorem dX9_readMaid_28 : decode cX9_readMaid 28 = .ok (.aload_n 0, 1) := by decide +kernel
theorem dX9_readMaid_29 : decode cX9_readMaid 29 = .ok (.getfield 34, 3) := by decide +kernel
theorem dX9_readMaid_32 : decode cX9_readMaid 32 = .ok (.aload_n 0, 1) := by decide +kernel
theorem dX9_readMaid_33 : decode cX9_readMaid 33 = .ok (.getfield 44, 3) := by decide +kernel
theorem dX9_readMaid_36 : decode cX9_readMaid 36 = .ok (.aload_n 1, 1) := by decide +kernel
theorem dX9_readMaid_37 : decode cX9_readMaid 37 = .ok (.getfield 160, 3) := by decide +kernel
theorem dX9_readMaid_40 : decode cX9_readMaid 40 = .ok (.lastore, 1) := by decide +kernel
theorem dX9_readMaid_41 : decode cX9_readMaid 41 = .ok (.aload_n 1, 1) := by decide +kernel
theorem dX9_readMaid_42 : decode cX9_readMaid 42 = .ok (.invokevirtual 154, 3) := by decide +kernel
theorem dX9_readMaid_45 : decode cX9_readMaid 45 = .ok (.aload_n 0, 1) := by decide +kernel
theorem dX9_readMaid_46 : decode cX9_readMaid 46 = .ok (.getfield 37, 3) := by decide +kernel
theorem dX9_readMaid_49 : decode cX9_readMaid 49 = .ok (.aload_n 0, 1) := by decide +kernel
theorem dX9_readMaid_50 : decode cX9_readMaid 50 = .ok (.getfield 44, 3) := by decide +kernel
theorem dX9_readMaid_53 : decode cX9_readMaid 53 = .ok (.aload_n 1, 1) := by decide +kernel
theorem dX9_readMaid_54 : decode cX9_readMaid 54 = .ok (.iconst 1, 1) := by decide +kernel
theorem dX9_readMaid_55 : decode cX9_readMaid 55 = .ok (.bipush 9, 2) := by decide +kernel
theorem dX9_readMaid_57 : decode cX9_readMaid 57 = .ok (.invokevirtual 168, 3) := by decide +kernel
theorem dX9_readMaid_60 : decode cX9_readMaid 60 = .ok (.iastore, 1) := by decide +kernel
theorem dX9_readMaid_61 : decode cX9_readMaid 61 = .ok (.aload_n 0, 1) := by decide +kernel
theorem dX9_readMaid_62 : decode cX9_readMaid 62 = .ok (.getfield 37, 3) := by decide +kernel
theorem dX9_readMaid_65 : decode cX9_readMaid 65 = .ok (.aload_n 0, 1) := by decide +kernel
theorem dX9_readMaid_66 : decode cX9_readMaid 66 = .ok (.getfield 44, 3) := by decide +kernel
theorem dX9_readMaid_69 : decode cX9_readMaid 69 = .ok (.iaload, 1) := by decide +kernel
theorem dX9_readMaid_70 : decode cX9_readMaid 70 = .ok (.iconst (-1), 1) := by decide +kernel
theorem dX9_readMaid_71 : decode cX9_readMaid 71 = .ok (.if_icmp .ne 5, 3) := by decide +kernel
theorem dX9_readMaid_76 : decode cX9_readMaid 76 = .ok (.aload_n 1, 1) := by decide +kernel
theorem dX9_readMaid_77 : decode cX9_readMaid 77 = .ok (.invokevirtual 154, 3) := by decide +kernel
theorem dX9_readMaid_80 : decode cX9_readMaid 80 = .ok (.aload_n 0, 1) := by decide +kernel
theorem dX9_readMaid_81 : decode cX9_readMaid 81 = .ok (.dup, 1) := by decide +kernel
theorem dX9_readMaid_82 : decode cX9_readMaid 82 = .ok (.getfield 44, 3) := by decide +kernel
theorem dX9_readMaid_85 : decode cX9_readMaid 85 = .ok (.iconst 1, 1) := by decide +kernel
theorem dX9_readMaid_86 : decode cX9_readMaid 86 = .ok (.iadd, 1) := by decide +kernel
theorem dX9_readMaid_87 : decode cX9_readMaid 87 = .ok (.putfield 44, 3) := by decide +kernel
theorem dX9_readMaid_90 : decode cX9_readMaid 90 = .ok (.iconst 1, 1) := by decide +kernel
theorem dX9_readMaid_91 : decode cX9_readMaid 91 = .ok (.ireturn, 1) := by decide +kernel
theorem dX9_readMaid_74 : decode cX9_readMaid 74 = .ok (.iconst 0, 1) := by decide +kernel
theorem dX9_readMaid_75 : decode cX9_readMaid 75 = .ok (.ireturn, 1) := by decide +kernel
theorem dX9_readMaid_26 : decode cX9_readMaid 26 = .ok (.iconst 0, 1) := by decide +kernel
theorem dX9_readMaid_27 : decode cX9_readMaid 27 = .ok (.ireturn, 1) := by decide +kernel
theorem dX9_readMaid_8 : decode cX9_readMaid 8 = .ok (.aload_n 1, 1) := by decide +kernel
theorem dX9_readMaid_9 : decode cX9_readMaid 9 = .ok (.iconst 4, 1) := by decide +kernel
theorem dX9_readMaid_10 : decode cX9_readMaid 10 = .ok (.invokevirtual 150, 3) := by decide +kernel
theorem dX9_readMaid_13 : decode cX9_readMaid 13 = .ok (.ireturn, 1) := by decide +kernel
theorem dX9_kindAt_0 : decode cX9_kindAt 0 = .ok (.aload_n 1, 1) := by decide +kernel
theorem dX9_kindAt_1 : decode cX9_kindAt 1 = .ok (.getfield 102, 3) := by decide +kernel
theorem N172 : Cond.fieldLinkNest "HookedCity$Town" 102 "HookedCity$Tape" "word" "LHookedCity$Word;" "HookedCity" ∈ lw_tbl := List.mem_of_getElem? (i := 172) (by decide +kernel)
theorem dX9_kindAt_4 : decode cX9_kindAt 4 = .ok (.astore_n 2, 1) := by decide +kernel
theorem dX9_kindAt_5 : decode cX9_kindAt 5 = .ok (.aload_n 2, 1) := by decide +kernel
theorem dX9_kindAt_6 : decode cX9_kindAt 6 = .ok (.ifnull 11, 3) := by decide +kernel
theorem dX9_kindAt_17 : decode cX9_kindAt 17 = .ok (.aload_n 1, 1) := by decide +kernel
theorem dX9_kindAt_18 : decode cX9_kindAt 18 = .ok (.iconst 1, 1) := by decide +kernel
theorem dX9_kindAt_19 : decode cX9_kindAt 19 = .ok (.invokevirtual 150, 3) := by decide +kernel
theorem dX9_kindAt_22 : decode cX9_kindAt 22 = .ok (.pop, 1) := by decide +kernel
theorem dX9_kindAt_23 : decode cX9_kindAt 23 = .ok (.iconst (-1), 1) := by decide +kernel
theorem dX9_kindAt_24 : decode cX9_kindAt 24 = .ok (.ireturn, 1) := by decide +kernel
theorem dX9_kindAt_9 : decode cX9_kindAt 9 = .ok (.aload_n 2, 1) := by decide +kernel
theorem dX9_kindAt_10 : decode cX9_kindAt 10 = .ok (.getfield 186, 3) := by decide +kernel
theorem N2087 : Cond.fieldLinkNest "HookedCity$Town" 186 "HookedCity$Word" "kind" "I" "HookedCity" ∈ lw_tbl := List.mem_of_getElem? (i := 2087) (by decide +kernel)
theorem dX9_kindAt_13 : decode cX9_kindAt 13 = .ok (.iconst (-1), 1) := by decide +kernel
theorem dX9_kindAt_14 : decode cX9_kindAt 14 = .ok (.if_icmp .ne 11, 3) := by decide +kernel
theorem dX9_kindAt_25 : decode cX9_kindAt 25 = .ok (.aload_n 2, 1) := by decide +kernel
theorem dX9_kindAt_26 : decode cX9_kindAt 26 = .ok (.getfield 186, 3) := by decide +kernel
theorem dX9_kindAt_29 : decode cX9_kindAt 29 = .ok (.ireturn, 1) := by decide +kernel
theorem dX9_readPerson_0 : decode cX9_readPerson 0 = .ok (.aload_n 0, 1) := by decide +kernel
theorem dX9_readPerson_1 : decode cX9_readPerson 1 = .ok (.getfield 40, 3) := by decide +kernel
theorem dX9_readPerson_4 : decode cX9_readPerson 4 = .ok (.bipush 9, 2) := by decide +kernel
theorem dX9_readPerson_6 : decode cX9_readPerson 6 = .ok (.if_icmp .lt 9, 3) := by decide +kernel
theorem dX9_readPerson_15 : decode cX9_readPerson 15 = .ok (.aload_n 1, 1) := by decide +kernel
theorem dX9_readPerson_16 : decode cX9_readPerson 16 = .ok (.invokevirtual 154, 3) := by decide +kernel
theorem dX9_readPerson_19 : decode cX9_readPerson 19 = .ok (.aload_n 0, 1) := by decide +kernel
theorem dX9_readPerson_20 : decode cX9_readPerson 20 = .ok (.aload_n 1, 1) := by decide +kernel
theorem dX9_readPerson_21 : decode cX9_readPerson 21 = .ok (.invokevirtual 157, 3) := by decide +kernel
theorem dX9_readPerson_24 : decode cX9_readPerson 24 = .ok (.ifCond .ne 5, 3) := by decide +kernel
theorem dX9_readPerson_29 : decode cX9_readPerson 29 = .ok (.aload_n 0, 1) := by decide +kernel
theorem dX9_readPerson_30 : decode cX9_readPerson 30 = .ok (.getfield 9, 3) := by decide +kernel
theorem dX9_readPerson_33 : decode cX9_readPerson 33 = .ok (.aload_n 0, 1) := by decide +kernel
theorem dX9_readPerson_34 : decode cX9_readPerson 34 = .ok (.getfield 40, 3) := by decide +kernel
theorem dX9_readPerson_37 : decode cX9_readPerson 37 = .ok (.aload_n 1, 1) := by decide +kernel
theorem dX9_readPerson_38 : decode cX9_readPerson 38 = .ok (.getfield 160, 3) := by decide +kernel
theorem dX9_readPerson_41 : decode cX9_readPerson 41 = .ok (.lastore, 1) := by decide +kernel
theorem dX9_readPerson_42 : decode cX9_readPerson 42 = .ok (.aload_n 1, 1) := by decide +kernel
theorem dX9_readPerson_43 : decode cX9_readPerson 43 = .ok (.invokevirtual 154, 3) := by decide +kernel
theorem dX9_readPerson_46 : decode cX9_readPerson 46 = .ok (.aload_n 0, 1) := by decide +kernel
theorem dX9_readPerson_47 : decode cX9_readPerson 47 = .ok (.getfield 15, 3) := by decide +kernel
theorem dX9_readPerson_50 : decode cX9_readPerson 50 = .ok (.aload_n 0, 1) := by decide +kernel
theorem dX9_readPerson_51 : decode cX9_readPerson 51 = .ok (.getfield 40, 3) := by decide +kernel
theorem dX9_readPerson_54 : decode cX9_readPerson 54 = .ok (.aload_n 0, 1) := by decide +kernel
theorem dX9_readPerson_55 : decode cX9_readPerson 55 = .ok (.aload_n 1, 1) := by decide +kernel
theorem dX9_readPerson_56 : decode cX9_readPerson 56 = .ok (.invokevirtual 164, 3) := by decide +kernel
theorem G724 : Cond.code ⟨"HookedCity$Town", "kindAt", "(LHookedCity$Tape;)I"⟩ prog_11_method_15_code 3 (some .int) ∈ GW := gw_i 724 (by decide +kernel) rfl
theorem G721 : Cond.methodLink "HookedCity$Town" 164 ⟨"HookedCity$Town", "kindAt", "(LHookedCity$Tape;)I"⟩ ∈ GW := gw_i 721 (by decide +kernel) rfl
theorem V_HookedCity_Town_164 : VL "HookedCity$Town" 164 yX9_kindAt cX9_kindAt 3 (some .int) 1 := ⟨G724, G721, G128, by decide +kernel, by decide +kernel, by decide +kernel⟩
theorem G723 : Cond.instanceMethod ⟨"HookedCity$Town", "kindAt", "(LHookedCity$Tape;)I"⟩ ∈ GW := gw_i 723 (by decide +kernel) rfl
theorem G6 : Cond.selects "HookedCity$Town" ⟨"HookedCity$Town", "kindAt", "(LHookedCity$Tape;)I"⟩ ⟨"HookedCity$Town", "kindAt", "(LHookedCity$Tape;)I"⟩ ∈ GW := gw_i 6 (by decide +kernel) rfl
theorem dX9_readPerson_59 : decode cX9_readPerson 59 = .ok (.iastore, 1) := by decide +kernel
theorem dX9_readPerson_60 : decode cX9_readPerson 60 = .ok (.aload_n 0, 1) := by decide +kernel
theorem dX9_readPerson_61 : decode cX9_readPerson 61 = .ok (.getfield 15, 3) := by decide +kernel
theorem dX9_readPerson_64 : decode cX9_readPerson 64 = .ok (.aload_n 0, 1) := by decide +kernel
theorem dX9_readPerson_65 : decode cX9_readPerson 65 = .ok (.getfield 40, 3) := by decide +kernel
theorem dX9_readPerson_68 : decode cX9_readPerson 68 = .ok (.iaload, 1) := by decide +kernel
theorem dX9_readPerson_69 : decode cX9_readPerson 69 = .ok (.iconst (-1), 1) := by decide +kernel
theorem dX9_readPerson_70 : decode cX9_readPerson 70 = .ok (.if_icmp .ne 5, 3) := by decide +kernel
theorem dX9_readPerson_75 : decode cX9_readPerson 75 = .ok (.aload_n 1, 1) := by decide +kernel
theorem dX9_readPerson_76 : decode cX9_readPerson 76 = .ok (.invokevirtual 154, 3) := by decide +kernel
theorem dX9_readPerson_79 : decode cX9_readPerson 79 = .ok (.aload_n 0, 1) := by decide +kernel
theorem dX9_readPerson_80 : decode cX9_readPerson 80 = .ok (.getfield 19, 3) := by decide +kernel
theorem dX9_readPerson_83 : decode cX9_readPerson 83 = .ok (.aload_n 0, 1) := by decide +kernel
theorem dX9_readPerson_84 : decode cX9_readPerson 84 = .ok (.getfield 40, 3) := by decide +kernel
theorem dX9_readPerson_87 : decode cX9_readPerson 87 = .ok (.aload_n 0, 1) := by decide +kernel
theorem dX9_readPerson_88 : decode cX9_readPerson 88 = .ok (.aload_n 1, 1) := by decide +kernel
theorem dX9_readPerson_89 : decode cX9_readPerson 89 = .ok (.invokevirtual 164, 3) := by decide +kernel
theorem dX9_readPerson_92 : decode cX9_readPerson 92 = .ok (.iastore, 1) := by decide +kernel
theorem dX9_readPerson_93 : decode cX9_readPerson 93 = .ok (.aload_n 0, 1) := by decide +kernel
theorem dX9_readPerson_94 : decode cX9_readPerson 94 = .ok (.getfield 19, 3) := by decide +kernel
theorem dX9_readPerson_97 : decode cX9_readPerson 97 = .ok (.aload_n 0, 1) := by decide +kernel
theorem dX9_readPerson_98 : decode cX9_readPerson 98 = .ok (.getfield 40, 3) := by decide +kernel
theorem dX9_readPerson_101 : decode cX9_readPerson 101 = .ok (.iaload, 1) := by decide +kernel
theorem dX9_readPerson_102 : decode cX9_readPerson 102 = .ok (.iconst (-1), 1) := by decide +kernel
theorem dX9_readPerson_103 : decode cX9_readPerson 103 = .ok (.if_icmp .ne 5, 3) := by decide +kernel
theorem dX9_readPerson_108 : decode cX9_readPerson 108 = .ok (.aload_n 1, 1) := by decide +kernel
theorem dX9_readPerson_109 : decode cX9_readPerson 109 = .ok (.invokevirtual 154, 3) := by decide +kernel
theorem dX9_readPerson_112 : decode cX9_readPerson 112 = .ok (.aload_n 0, 1) := by decide +kernel
theorem dX9_readPerson_113 : decode cX9_readPerson 113 = .ok (.getfield 22, 3) := by decide +kernel
theorem dX9_readPerson_116 : decode cX9_readPerson 116 = .ok (.aload_n 0, 1) := by decide +kernel
theorem dX9_readPerson_117 : decode cX9_readPerson 117 = .ok (.getfield 40, 3) := by decide +kernel
theorem dX9_readPerson_120 : decode cX9_readPerson 120 = .ok (.aload_n 1, 1) := by decide +kernel
theorem dX9_readPerson_121 : decode cX9_readPerson 121 = .ok (.iconst 1, 1) := by decide +kernel
theorem dX9_readPerson_122 : decode cX9_readPerson 122 = .ok (.bipush 9, 2) := by decide +kernel
theorem dX9_readPerson_124 : decode cX9_readPerson 124 = .ok (.invokevirtual 168, 3) := by decide +kernel
theorem dX9_readPerson_127 : decode cX9_readPerson 127 = .ok (.iastore, 1) := by decide +kernel
theorem dX9_readPerson_128 : decode cX9_readPerson 128 = .ok (.aload_n 0, 1) := by decide +kernel
theorem dX9_readPerson_129 : decode cX9_readPerson 129 = .ok (.getfield 22, 3) := by decide +kernel
theorem dX9_readPerson_132 : decode cX9_readPerson 132 = .ok (.aload_n 0, 1) := by decide +kernel
theorem dX9_readPerson_133 : decode cX9_readPerson 133 = .ok (.getfield 40, 3) := by decide +kernel
theorem dX9_readPerson_136 : decode cX9_readPerson 136 = .ok (.iaload, 1) := by decide +kernel
theorem dX9_readPerson_137 : decode cX9_readPerson 137 = .ok (.iconst (-1), 1) := by decide +kernel
theorem dX9_readPerson_138 : decode cX9_readPerson 138 = .ok (.if_icmp .ne 5, 3) := by decide +kernel
theorem dX9_readPerson_143 : decode cX9_readPerson 143 = .ok (.aload_n 1, 1) := by decide +kernel
theorem dX9_readPerson_144 : decode cX9_readPerson 144 = .ok (.invokevirtual 154, 3) := by decide +kernel
theorem dX9_readPerson_147 : decode cX9_readPerson 147 = .ok (.aload_n 0, 1) := by decide +kernel
theorem dX9_readPerson_148 : decode cX9_readPerson 148 = .ok (.dup, 1) := by decide +kernel
theorem dX9_readPerson_149 : decode cX9_readPerson 149 = .ok (.getfield 40, 3) := by decide +kernel
theorem dX9_readPerson_152 : decode cX9_readPerson 152 = .ok (.iconst 1, 1) := by decide +kernel
theorem dX9_readPerson_153 : decode cX9_readPerson 153 = .ok (.iadd, 1) := by decide +kernel
theorem dX9_readPerson_154 : decode cX9_readPerson 154 = .ok (.putfield 40, 3) := by decide +kernel
theorem dX9_readPerson_157 : decode cX9_readPerson 157 = .ok (.iconst 1, 1) := by decide +kernel
theorem dX9_readPerson_158 : decode cX9_readPerson 158 = .ok (.ireturn, 1) := by decide +kernel
theorem dX9_readPerson_141 : decode cX9_readPerson 141 = .ok (.iconst 0, 1) := by decide +kernel
theorem dX9_readPerson_142 : decode cX9_readPerson 142 = .ok (.ireturn, 1) := by decide +kernel
theorem dX9_readPerson_106 : decode cX9_readPerson 106 = .ok (.iconst 0, 1) := by decide +kernel
theorem dX9_readPerson_107 : decode cX9_readPerson 107 = .ok (.ireturn, 1) := by decide +kernel
theorem dX9_readPerson_73 : decode cX9_readPerson 73 = .ok (.iconst 0, 1) := by decide +kernel
theorem dX9_readPerson_74 : decode cX9_readPerson 74 = .ok (.ireturn, 1) := by decide +kernel
theorem dX9_readPerson_27 : decode cX9_readPerson 27 = .ok (.iconst 0, 1) := by decide +kernel
theorem dX9_readPerson_28 : decode cX9_readPerson 28 = .ok (.ireturn, 1) := by decide +kernel
theorem dX9_readPerson_9 : decode cX9_readPerson 9 = .ok (.aload_n 1, 1) := by decide +kernel
theorem dX9_readPerson_10 : decode cX9_readPerson 10 = .ok (.iconst 4, 1) := by decide +kernel
theorem dX9_readPerson_11 : decode cX9_readPerson 11 = .ok (.invokevirtual 150, 3) := by decide +kernel
theorem dX9_readPerson_14 : decode cX9_readPerson 14 = .ok (.ireturn, 1) := by decide +kernel
theorem dX9_readLine_0 : decode cX9_readLine 0 = .ok (.aload_n 1, 1) := by decide +kernel
theorem dX9_readLine_1 : decode cX9_readLine 1 = .ok (.getfield 102, 3) := by decide +kernel
theorem dX9_readLine_4 : decode cX9_readLine 4 = .ok (.astore_n 2, 1) := by decide +kernel
theorem dX9_readLine_5 : decode cX9_readLine 5 = .ok (.aload_n 2, 1) := by decide +kernel
theorem dX9_readLine_6 : decode cX9_readLine 6 = .ok (.getstatic 106, 3) := by decide +kernel
theorem G703 : Cond.fieldLink "HookedCity$Town" 106 "HookedCity$Word" "PERSON" "LHookedCity$Word;" ∈ GW := gw_i 703 (by decide +kernel) rfl
theorem dX9_readLine_9 : decode cX9_readLine 9 = .ok (.if_acmp .ne 9, 3) := by decide +kernel
theorem dX9_readLine_18 : decode cX9_readLine 18 = .ok (.aload_n 2, 1) := by decide +kernel
theorem dX9_readLine_19 : decode cX9_readLine 19 = .ok (.getstatic 114, 3) := by decide +kernel
theorem G730 : Cond.fieldLink "HookedCity$Town" 114 "HookedCity$Word" "MAID" "LHookedCity$Word;" ∈ GW := gw_i 730 (by decide +kernel) rfl
theorem dX9_readLine_22 : decode cX9_readLine 22 = .ok (.if_acmp .ne 9, 3) := by decide +kernel
theorem dX9_readLine_31 : decode cX9_readLine 31 = .ok (.aload_n 2, 1) := by decide +kernel
theorem dX9_readLine_32 : decode cX9_readLine 32 = .ok (.getstatic 120, 3) := by decide +kernel
theorem G736 : Cond.fieldLink "HookedCity$Town" 120 "HookedCity$Word" "STREET" "LHookedCity$Word;" ∈ GW := gw_i 736 (by decide +kernel) rfl
theorem dX9_readLine_35 : decode cX9_readLine 35 = .ok (.if_acmp .ne 9, 3) := by decide +kernel
theorem dX9_readLine_44 : decode cX9_readLine 44 = .ok (.aload_n 2, 1) := by decide +kernel
theorem dX9_readLine_45 : decode cX9_readLine 45 = .ok (.getstatic 126, 3) := by decide +kernel
theorem G750 : Cond.fieldLink "HookedCity$Town" 126 "HookedCity$Word" "DONE" "LHookedCity$Word;" ∈ GW := gw_i 750 (by decide +kernel) rfl
theorem dX9_readLine_48 : decode cX9_readLine 48 = .ok (.if_acmp .ne 9, 3) := by decide +kernel
theorem dX9_readLine_57 : decode cX9_readLine 57 = .ok (.aload_n 2, 1) := by decide +kernel
theorem dX9_readLine_58 : decode cX9_readLine 58 = .ok (.getstatic 132, 3) := by decide +kernel
theorem G756 : Cond.fieldLink "HookedCity$Town" 132 "HookedCity$Word" "SPARE" "LHookedCity$Word;" ∈ GW := gw_i 756 (by decide +kernel) rfl
theorem dX9_readLine_61 : decode cX9_readLine 61 = .ok (.if_acmp .ne 9, 3) := by decide +kernel
theorem dX9_readLine_70 : decode cX9_readLine 70 = .ok (.aload_n 2, 1) := by decide +kernel
theorem dX9_readLine_71 : decode cX9_readLine 71 = .ok (.getstatic 138, 3) := by decide +kernel
theorem G766 : Cond.fieldLink "HookedCity$Town" 138 "HookedCity$Word" "YEAR" "LHookedCity$Word;" ∈ GW := gw_i 766 (by decide +kernel) rfl
theorem dX9_readLine_74 : decode cX9_readLine 74 = .ok (.if_acmp .ne 9, 3) := by decide +kernel
theorem dX9_readLine_83 : decode cX9_readLine 83 = .ok (.aload_n 2, 1) := by decide +kernel
theorem dX9_readLine_84 : decode cX9_readLine 84 = .ok (.getstatic 144, 3) := by decide +kernel
theorem G772 : Cond.fieldLink "HookedCity$Town" 144 "HookedCity$Word" "JULY" "LHookedCity$Word;" ∈ GW := gw_i 772 (by decide +kernel) rfl
theorem dX9_readLine_87 : decode cX9_readLine 87 = .ok (.if_acmp .ne 9, 3) := by decide +kernel
theorem dX9_readLine_96 : decode cX9_readLine 96 = .ok (.aload_n 1, 1) := by decide +kernel
theorem dX9_readLine_97 : decode cX9_readLine 97 = .ok (.iconst 1, 1) := by decide +kernel
theorem dX9_readLine_98 : decode cX9_readLine 98 = .ok (.invokevirtual 150, 3) := by decide +kernel
theorem dX9_readLine_101 : decode cX9_readLine 101 = .ok (.ireturn, 1) := by decide +kernel
theorem dX9_readLine_90 : decode cX9_readLine 90 = .ok (.aload_n 0, 1) := by decide +kernel
theorem dX9_readLine_91 : decode cX9_readLine 91 = .ok (.aload_n 1, 1) := by decide +kernel
theorem dX9_readLine_92 : decode cX9_readLine 92 = .ok (.invokevirtual 147, 3) := by decide +kernel
theorem G777 : Cond.code ⟨"HookedCity$Town", "readJuly", "(LHookedCity$Tape;)Z"⟩ prog_11_method_12_code 2 (some .boolean) ∈ GW := gw_i 777 (by decide +kernel) rfl
theorem G774 : Cond.methodLink "HookedCity$Town" 147 ⟨"HookedCity$Town", "readJuly", "(LHookedCity$Tape;)Z"⟩ ∈ GW := gw_i 774 (by decide +kernel) rfl
theorem V_HookedCity_Town_147 : VL "HookedCity$Town" 147 yX9_readJuly cX9_readJuly 2 (some .boolean) 1 := ⟨G777, G774, G128, by decide +kernel, by decide +kernel, by decide +kernel⟩
theorem G776 : Cond.instanceMethod ⟨"HookedCity$Town", "readJuly", "(LHookedCity$Tape;)Z"⟩ ∈ GW := gw_i 776 (by decide +kernel) rfl
theorem G14 : Cond.selects "HookedCity$Town" ⟨"HookedCity$Town", "readJuly", "(LHookedCity$Tape;)Z"⟩ ⟨"HookedCity$Town", "readJuly", "(LHookedCity$Tape;)Z"⟩ ∈ GW := gw_i 14 (by decide +kernel) rfl
theorem dX9_readLine_95 : decode cX9_readLine 95 = .ok (.ireturn, 1) := by decide +kernel
theorem dX9_readLine_77 : decode cX9_readLine 77 = .ok (.aload_n 0, 1) := by decide +kernel
theorem dX9_readLine_78 : decode cX9_readLine 78 = .ok (.aload_n 1, 1) := by decide +kernel
theorem dX9_readLine_79 : decode cX9_readLine 79 = .ok (.invokevirtual 141, 3) := by decide +kernel
theorem G771 : Cond.code ⟨"HookedCity$Town", "readYear", "(LHookedCity$Tape;)Z"⟩ prog_11_method_11_code 2 (some .boolean) ∈ GW := gw_i 771 (by decide +kernel) rfl
theorem G768 : Cond.methodLink "HookedCity$Town" 141 ⟨"HookedCity$Town", "readYear", "(LHookedCity$Tape;)Z"⟩ ∈ GW := gw_i 768 (by decide +kernel) rfl
theorem V_HookedCity_Town_141 : VL "HookedCity$Town" 141 yX9_readYear cX9_readYear 2 (some .boolean) 1 := ⟨G771, G768, G128, by decide +kernel, by decide +kernel, by decide +kernel⟩
theorem G770 : Cond.instanceMethod ⟨"HookedCity$Town", "readYear", "(LHookedCity$Tape;)Z"⟩ ∈ GW := gw_i 770 (by decide +kernel) rfl
theorem G13 : Cond.selects "HookedCity$Town" ⟨"HookedCity$Town", "readYear", "(LHookedCity$Tape;)Z"⟩ ⟨"HookedCity$Town", "readYear", "(LHookedCity$Tape;)Z"⟩ ∈ GW := gw_i 13 (by decide +kernel) rfl
theorem dX9_readLine_82 : decode cX9_readLine 82 = .ok (.ireturn, 1) := by decide +kernel
theorem dX9_readLine_64 : decode cX9_readLine 64 = .ok (.aload_n 0, 1) := by decide +kernel
theorem dX9_readLine_65 : decode cX9_readLine 65 = .ok (.aload_n 1, 1) := by decide +kernel
theorem dX9_readLine_66 : decode cX9_readLine 66 = .ok (.invokevirtual 135, 3) := by decide +kernel
theorem G761 : Cond.code ⟨"HookedCity$Town", "readSpare", "(LHookedCity$Tape;)Z"⟩ prog_11_method_10_code 2 (some .boolean) ∈ GW := gw_i 761 (by decide +kernel) rfl
theorem G758 : Cond.methodLink "HookedCity$Town" 135 ⟨"HookedCity$Town", "readSpare", "(LHookedCity$Tape;)Z"⟩ ∈ GW := gw_i 758 (by decide +kernel) rfl
theorem V_HookedCity_Town_135 : VL "HookedCity$Town" 135 yX9_readSpare cX9_readSpare 2 (some .boolean) 1 := ⟨G761, G758, G128, by decide +kernel, by decide +kernel, by decide +kernel⟩
theorem G760 : Cond.instanceMethod ⟨"HookedCity$Town", "readSpare", "(LHookedCity$Tape;)Z"⟩ ∈ GW := gw_i 760 (by decide +kernel) rfl
theorem G11 : Cond.selects "HookedCity$Town" ⟨"HookedCity$Town", "readSpare", "(LHookedCity$Tape;)Z"⟩ ⟨"HookedCity$Town", "readSpare", "(LHookedCity$Tape;)Z"⟩ ∈ GW := gw_i 11 (by decide +kernel) rfl
theorem dX9_readLine_69 : decode cX9_readLine 69 = .ok (.ireturn, 1) := by decide +kernel
theorem dX9_readLine_51 : decode cX9_readLine 51 = .ok (.aload_n 0, 1) := by decide +kernel
theorem dX9_readLine_52 : decode cX9_readLine 52 = .ok (.aload_n 1, 1) := by decide +kernel
theorem dX9_readLine_53 : decode cX9_readLine 53 = .ok (.invokevirtual 129, 3) := by decide +kernel
theorem G755 : Cond.code ⟨"HookedCity$Town", "readDone", "(LHookedCity$Tape;)Z"⟩ prog_11_method_9_code 4 (some .boolean) ∈ GW := gw_i 755 (by decide +kernel) rfl
theorem G752 : Cond.methodLink "HookedCity$Town" 129 ⟨"HookedCity$Town", "readDone", "(LHookedCity$Tape;)Z"⟩ ∈ GW := gw_i 752 (by decide +kernel) rfl
theorem V_HookedCity_Town_129 : VL "HookedCity$Town" 129 yX9_readDone cX9_readDone 4 (some .boolean) 1 := ⟨G755, G752, G128, by decide +kernel, by decide +kernel, by decide +kernel⟩
theorem G754 : Cond.instanceMethod ⟨"HookedCity$Town", "readDone", "(LHookedCity$Tape;)Z"⟩ ∈ GW := gw_i 754 (by decide +kernel) rfl
theorem G10 : Cond.selects "HookedCity$Town" ⟨"HookedCity$Town", "readDone", "(LHookedCity$Tape;)Z"⟩ ⟨"HookedCity$Town", "readDone", "(LHookedCity$Tape;)Z"⟩ ∈ GW := gw_i 10 (by decide +kernel) rfl
theorem dX9_readLine_56 : decode cX9_readLine 56 = .ok (.ireturn, 1) := by decide +kernel
theorem dX9_readLine_38 : decode cX9_readLine 38 = .ok (.aload_n 0, 1) := by decide +kernel
theorem dX9_readLine_39 : decode cX9_readLine 39 = .ok (.aload_n 1, 1) := by decide +kernel
theorem dX9_readLine_40 : decode cX9_readLine 40 = .ok (.invokevirtual 123, 3) := by decide +kernel
theorem G741 : Cond.code ⟨"HookedCity$Town", "readStreet", "(LHookedCity$Tape;)Z"⟩ prog_11_method_8_code 4 (some .boolean) ∈ GW := gw_i 741 (by decide +kernel) rfl
theorem G738 : Cond.methodLink "HookedCity$Town" 123 ⟨"HookedCity$Town", "readStreet", "(LHookedCity$Tape;)Z"⟩ ∈ GW := gw_i 738 (by decide +kernel) rfl
theorem V_HookedCity_Town_123 : VL "HookedCity$Town" 123 yX9_readStreet cX9_readStreet 4 (some .boolean) 1 := ⟨G741, G738, G128, by decide +kernel, by decide +kernel, by decide +kernel⟩
theorem G740 : Cond.instanceMethod ⟨"HookedCity$Town", "readStreet", "(LHookedCity$Tape;)Z"⟩ ∈ GW := gw_i 740 (by decide +kernel) rfl
theorem G8 : Cond.selects "HookedCity$Town" ⟨"HookedCity$Town", "readStreet", "(LHookedCity$Tape;)Z"⟩ ⟨"HookedCity$Town", "readStreet", "(LHookedCity$Tape;)Z"⟩ ∈ GW := gw_i 8 (by decide +kernel) rfl
theorem dX9_readLine_43 : decode cX9_readLine 43 = .ok (.ireturn, 1) := by decide +kernel
theorem dX9_readLine_25 : decode cX9_readLine 25 = .ok (.aload_n 0, 1) := by decide +kernel
theorem dX9_readLine_26 : decode cX9_readLine 26 = .ok (.aload_n 1, 1) := by decide +kernel
theorem dX9_readLine_27 : decode cX9_readLine 27 = .ok (.invokevirtual 117, 3) := by decide +kernel
theorem G735 : Cond.code ⟨"HookedCity$Town", "readMaid", "(LHookedCity$Tape;)Z"⟩ prog_11_method_7_code 2 (some .boolean) ∈ GW := gw_i 735 (by decide +kernel) rfl
theorem G732 : Cond.methodLink "HookedCity$Town" 117 ⟨"HookedCity$Town", "readMaid", "(LHookedCity$Tape;)Z"⟩ ∈ GW := gw_i 732 (by decide +kernel) rfl
theorem V_HookedCity_Town_117 : VL "HookedCity$Town" 117 yX9_readMaid cX9_readMaid 2 (some .boolean) 1 := ⟨G735, G732, G128, by decide +kernel, by decide +kernel, by decide +kernel⟩
theorem G734 : Cond.instanceMethod ⟨"HookedCity$Town", "readMaid", "(LHookedCity$Tape;)Z"⟩ ∈ GW := gw_i 734 (by decide +kernel) rfl
theorem G7 : Cond.selects "HookedCity$Town" ⟨"HookedCity$Town", "readMaid", "(LHookedCity$Tape;)Z"⟩ ⟨"HookedCity$Town", "readMaid", "(LHookedCity$Tape;)Z"⟩ ∈ GW := gw_i 7 (by decide +kernel) rfl
theorem dX9_readLine_30 : decode cX9_readLine 30 = .ok (.ireturn, 1) := by decide +kernel
theorem dX9_readLine_12 : decode cX9_readLine 12 = .ok (.aload_n 0, 1) := by decide +kernel
theorem dX9_readLine_13 : decode cX9_readLine 13 = .ok (.aload_n 1, 1) := by decide +kernel
theorem dX9_readLine_14 : decode cX9_readLine 14 = .ok (.invokevirtual 111, 3) := by decide +kernel
theorem G708 : Cond.code ⟨"HookedCity$Town", "readPerson", "(LHookedCity$Tape;)Z"⟩ prog_11_method_6_code 2 (some .boolean) ∈ GW := gw_i 708 (by decide +kernel) rfl
theorem G705 : Cond.methodLink "HookedCity$Town" 111 ⟨"HookedCity$Town", "readPerson", "(LHookedCity$Tape;)Z"⟩ ∈ GW := gw_i 705 (by decide +kernel) rfl
theorem V_HookedCity_Town_111 : VL "HookedCity$Town" 111 yX9_readPerson cX9_readPerson 2 (some .boolean) 1 := ⟨G708, G705, G128, by decide +kernel, by decide +kernel, by decide +kernel⟩
theorem G707 : Cond.instanceMethod ⟨"HookedCity$Town", "readPerson", "(LHookedCity$Tape;)Z"⟩ ∈ GW := gw_i 707 (by decide +kernel) rfl
theorem G4 : Cond.selects "HookedCity$Town" ⟨"HookedCity$Town", "readPerson", "(LHookedCity$Tape;)Z"⟩ ⟨"HookedCity$Town", "readPerson", "(LHookedCity$Tape;)Z"⟩ ∈ GW := gw_i 4 (by decide +kernel) rfl
theorem dX9_readLine_17 : decode cX9_readLine 17 = .ok (.ireturn, 1) := by decide +kernel
theorem dX9_read_0 : decode cX9_read 0 = .ok (.aload_n 0, 1) := by decide +kernel
theorem dX9_read_1 : decode cX9_read 1 = .ok (.invokevirtual 81, 3) := by decide +kernel
theorem G580 : Cond.code ⟨"HookedCity$Town", "clear", "()V"⟩ prog_11_method_2_code 1 none ∈ GW := gw_i 580 (by decide +kernel) rfl
theorem G577 : Cond.methodLink "HookedCity$Town" 81 ⟨"HookedCity$Town", "clear", "()V"⟩ ∈ GW := gw_i 577 (by decide +kernel) rfl
theorem V_HookedCity_Town_81 : VL "HookedCity$Town" 81 yX9_clear cX9_clear 1 none 0 := ⟨G580, G577, G128, by decide +kernel, by decide +kernel, by decide +kernel⟩
theorem G579 : Cond.instanceMethod ⟨"HookedCity$Town", "clear", "()V"⟩ ∈ GW := gw_i 579 (by decide +kernel) rfl
theorem G1 : Cond.selects "HookedCity$Town" ⟨"HookedCity$Town", "clear", "()V"⟩ ⟨"HookedCity$Town", "clear", "()V"⟩ ∈ GW := gw_i 1 (by decide +kernel) rfl
theorem dX9_read_4 : decode cX9_read 4 = .ok (.aload_n 1, 1) := by decide +kernel
theorem dX9_read_5 : decode cX9_read 5 = .ok (.sipush 900, 3) := by decide +kernel
theorem dX9_read_8 : decode cX9_read 8 = .ok (.invokevirtual 84, 3) := by decide +kernel
theorem G585 : Cond.code ⟨"HookedCity$Tape", "open", "(I)V"⟩ prog_10_method_6_code 2 none ∈ GW := gw_i 585 (by decide +kernel) rfl
theorem G582 : Cond.methodLink "HookedCity$Town" 84 ⟨"HookedCity$Tape", "open", "(I)V"⟩ ∈ GW := gw_i 582 (by decide +kernel) rfl
theorem V_HookedCity_Town_84 : VL "HookedCity$Town" 84 yX8_open cX8_open 2 none 1 := ⟨G585, G582, G120, by decide +kernel, by decide +kernel, by decide +kernel⟩
theorem G583 : Cond.instanceMethod ⟨"HookedCity$Tape", "open", "(I)V"⟩ ∈ GW := gw_i 583 (by decide +kernel) rfl
theorem G584 : Cond.selects "HookedCity$Tape" ⟨"HookedCity$Tape", "open", "(I)V"⟩ ⟨"HookedCity$Tape", "open", "(I)V"⟩ ∈ GW := gw_i 584 (by decide +kernel) rfl
theorem dX9_read_11 : decode cX9_read 11 = .ok (.aload_n 0, 1) := by decide +kernel
theorem dX9_read_12 : decode cX9_read 12 = .ok (.iconst 0, 1) := by decide +kernel
theorem dX9_read_13 : decode cX9_read 13 = .ok (.putfield 47, 3) := by decide +kernel
theorem G396 : Cond.fieldLink "HookedCity$Town" 47 "HookedCity$Town" "lines" "I" ∈ GW := gw_i 396 (by decide +kernel) rfl
theorem dX9_read_16 : decode cX9_read 16 = .ok (.aload_n 0, 1) := by decide +kernel
theorem dX9_read_17 : decode cX9_read 17 = .ok (.getfield 47, 3) := by decide +kernel
theorem dX9_read_20 : decode cX9_read 20 = .ok (.sipush 900, 3) := by decide +kernel
theorem dX9_read_23 : decode cX9_read 23 = .ok (.if_icmp .ge 42, 3) := by decide +kernel
theorem dX9_read_65 : decode cX9_read 65 = .ok (.iconst 1, 1) := by decide +kernel
theorem dX9_read_66 : decode cX9_read 66 = .ok (.ireturn, 1) := by decide +kernel
theorem dX9_read_26 : decode cX9_read 26 = .ok (.aload_n 1, 1) := by decide +kernel
theorem dX9_read_27 : decode cX9_read 27 = .ok (.invokevirtual 90, 3) := by decide +kernel
theorem G698 : Cond.code ⟨"HookedCity$Tape", "atEnd", "()Z"⟩ prog_10_method_13_code 1 (some .boolean) ∈ GW := gw_i 698 (by decide +kernel) rfl
theorem G695 : Cond.methodLink "HookedCity$Town" 90 ⟨"HookedCity$Tape", "atEnd", "()Z"⟩ ∈ GW := gw_i 695 (by decide +kernel) rfl
theorem V_HookedCity_Town_90 : VL "HookedCity$Town" 90 yX8_atEnd cX8_atEnd 1 (some .boolean) 0 := ⟨G698, G695, G120, by decide +kernel, by decide +kernel, by decide +kernel⟩
theorem G696 : Cond.instanceMethod ⟨"HookedCity$Tape", "atEnd", "()Z"⟩ ∈ GW := gw_i 696 (by decide +kernel) rfl
theorem G697 : Cond.selects "HookedCity$Tape" ⟨"HookedCity$Tape", "atEnd", "()Z"⟩ ⟨"HookedCity$Tape", "atEnd", "()Z"⟩ ∈ GW := gw_i 697 (by decide +kernel) rfl
theorem dX9_read_30 : decode cX9_read 30 = .ok (.ifCond .ne 35, 3) := by decide +kernel
theorem dX9_read_33 : decode cX9_read 33 = .ok (.aload_n 0, 1) := by decide +kernel
theorem dX9_read_34 : decode cX9_read 34 = .ok (.aload_n 1, 1) := by decide +kernel
theorem dX9_read_35 : decode cX9_read 35 = .ok (.invokevirtual 94, 3) := by decide +kernel
theorem G702 : Cond.code ⟨"HookedCity$Town", "readLine", "(LHookedCity$Tape;)Z"⟩ prog_11_method_5_code 3 (some .boolean) ∈ GW := gw_i 702 (by decide +kernel) rfl
theorem G699 : Cond.methodLink "HookedCity$Town" 94 ⟨"HookedCity$Town", "readLine", "(LHookedCity$Tape;)Z"⟩ ∈ GW := gw_i 699 (by decide +kernel) rfl
theorem V_HookedCity_Town_94 : VL "HookedCity$Town" 94 yX9_readLine cX9_readLine 3 (some .boolean) 1 := ⟨G702, G699, G128, by decide +kernel, by decide +kernel, by decide +kernel⟩
theorem G701 : Cond.instanceMethod ⟨"HookedCity$Town", "readLine", "(LHookedCity$Tape;)Z"⟩ ∈ GW := gw_i 701 (by decide +kernel) rfl
theorem G3 : Cond.selects "HookedCity$Town" ⟨"HookedCity$Town", "readLine", "(LHookedCity$Tape;)Z"⟩ ⟨"HookedCity$Town", "readLine", "(LHookedCity$Tape;)Z"⟩ ∈ GW := gw_i 3 (by decide +kernel) rfl
theorem dX9_read_38 : decode cX9_read 38 = .ok (.ifCond .eq 12, 3) := by decide +kernel
theorem dX9_read_50 : decode cX9_read 50 = .ok (.iconst 0, 1) := by decide +kernel
theorem dX9_read_51 : decode cX9_read 51 = .ok (.ireturn, 1) := by decide +kernel
theorem dX9_read_41 : decode cX9_read 41 = .ok (.aload_n 1, 1) := by decide +kernel
theorem dX9_read_42 : decode cX9_read 42 = .ok (.bipush 59, 2) := by decide +kernel
theorem dX9_read_44 : decode cX9_read 44 = .ok (.invokevirtual 98, 3) := by decide +kernel
theorem G781 : Cond.code ⟨"HookedCity$Tape", "pass", "(C)Z"⟩ prog_10_method_16_code 2 (some .boolean) ∈ GW := gw_i 781 (by decide +kernel) rfl
theorem G778 : Cond.methodLink "HookedCity$Town" 98 ⟨"HookedCity$Tape", "pass", "(C)Z"⟩ ∈ GW := gw_i 778 (by decide +kernel) rfl
theorem V_HookedCity_Town_98 : VL "HookedCity$Town" 98 yX8_pass cX8_pass 2 (some .boolean) 1 := ⟨G781, G778, G120, by decide +kernel, by decide +kernel, by decide +kernel⟩
theorem G779 : Cond.instanceMethod ⟨"HookedCity$Tape", "pass", "(C)Z"⟩ ∈ GW := gw_i 779 (by decide +kernel) rfl
theorem G780 : Cond.selects "HookedCity$Tape" ⟨"HookedCity$Tape", "pass", "(C)Z"⟩ ⟨"HookedCity$Tape", "pass", "(C)Z"⟩ ∈ GW := gw_i 780 (by decide +kernel) rfl
theorem dX9_read_47 : decode cX9_read 47 = .ok (.ifCond .ne 5, 3) := by decide +kernel
theorem dX9_read_52 : decode cX9_read 52 = .ok (.aload_n 0, 1) := by decide +kernel
theorem dX9_read_53 : decode cX9_read 53 = .ok (.dup, 1) := by decide +kernel
theorem dX9_read_54 : decode cX9_read 54 = .ok (.getfield 47, 3) := by decide +kernel
theorem dX9_read_57 : decode cX9_read 57 = .ok (.iconst 1, 1) := by decide +kernel
theorem dX9_read_58 : decode cX9_read 58 = .ok (.iadd, 1) := by decide +kernel
theorem dX9_read_59 : decode cX9_read 59 = .ok (.putfield 47, 3) := by decide +kernel
theorem dX9_read_62 : decode cX9_read 62 = .ok (.goto (-46), 3) := by decide +kernel
theorem dX9_maidAt_0 : decode cX9_maidAt 0 = .ok (.aload_n 0, 1) := by decide +kernel
theorem dX9_maidAt_1 : decode cX9_maidAt 1 = .ok (.aload_n 1, 1) := by decide +kernel
theorem dX9_maidAt_2 : decode cX9_maidAt 2 = .ok (.aload_n 0, 1) := by decide +kernel
theorem dX9_maidAt_3 : decode cX9_maidAt 3 = .ok (.getfield 34, 3) := by decide +kernel
theorem dX9_maidAt_6 : decode cX9_maidAt 6 = .ok (.aload_n 0, 1) := by decide +kernel
theorem dX9_maidAt_7 : decode cX9_maidAt 7 = .ok (.getfield 44, 3) := by decide +kernel
theorem dX9_maidAt_10 : decode cX9_maidAt 10 = .ok (.invokevirtual 189, 3) := by decide +kernel
theorem dX9_maidAt_13 : decode cX9_maidAt 13 = .ok (.ireturn, 1) := by decide +kernel
theorem dX9_everybody_0 : decode cX9_everybody 0 = .ok (.iconst 1, 1) := by decide +kernel
theorem dX9_everybody_1 : decode cX9_everybody 1 = .ok (.aload_n 0, 1) := by decide +kernel
theorem dX9_everybody_2 : decode cX9_everybody 2 = .ok (.getfield 40, 3) := by decide +kernel
theorem dX9_everybody_5 : decode cX9_everybody 5 = .ok (.ishl, 1) := by decide +kernel
theorem dX9_everybody_6 : decode cX9_everybody 6 = .ok (.iconst 1, 1) := by decide +kernel
theorem dX9_everybody_7 : decode cX9_everybody 7 = .ok (.isub, 1) := by decide +kernel
theorem dX9_everybody_8 : decode cX9_everybody 8 = .ok (.ireturn, 1) := by decide +kernel
theorem dX9_allHooks_0 : decode cX9_allHooks 0 = .ok (.iconst 0, 1) := by decide +kernel
theorem dX9_allHooks_1 : decode cX9_allHooks 1 = .ok (.istore_n 1, 1) := by decide +kernel
theorem dX9_allHooks_2 : decode cX9_allHooks 2 = .ok (.iconst 0, 1) := by decide +kernel
theorem dX9_allHooks_3 : decode cX9_allHooks 3 = .ok (.istore_n 2, 1) := by decide +kernel
theorem dX9_allHooks_4 : decode cX9_allHooks 4 = .ok (.iload_n 2, 1) := by decide +kernel
theorem dX9_allHooks_5 : decode cX9_allHooks 5 = .ok (.aload_n 0, 1) := by decide +kernel
theorem dX9_allHooks_6 : decode cX9_allHooks 6 = .ok (.getfield 44, 3) := by decide +kernel
theorem dX9_allHooks_9 : decode cX9_allHooks 9 = .ok (.if_icmp .ge 18, 3) := by decide +kernel
theorem dX9_allHooks_27 : decode cX9_allHooks 27 = .ok (.iload_n 1, 1) := by decide +kernel
theorem dX9_allHooks_28 : decode cX9_allHooks 28 = .ok (.ireturn, 1) := by decide +kernel
theorem dX9_allHooks_12 : decode cX9_allHooks 12 = .ok (.iload_n 1, 1) := by decide +kernel
theorem dX9_allHooks_13 : decode cX9_allHooks 13 = .ok (.aload_n 0, 1) := by decide +kernel
theorem dX9_allHooks_14 : decode cX9_allHooks 14 = .ok (.getfield 37, 3) := by decide +kernel
theorem dX9_allHooks_17 : decode cX9_allHooks 17 = .ok (.iload_n 2, 1) := by decide +kernel
theorem dX9_allHooks_18 : decode cX9_allHooks 18 = .ok (.iaload, 1) := by decide +kernel
theorem dX9_allHooks_19 : decode cX9_allHooks 19 = .ok (.iadd, 1) := by decide +kernel
theorem dX9_allHooks_20 : decode cX9_allHooks 20 = .ok (.istore_n 1, 1) := by decide +kernel
theorem dX9_allHooks_21 : decode cX9_allHooks 21 = .ok (.iinc 2 1, 3) := by decide +kernel
theorem dX9_allHooks_24 : decode cX9_allHooks 24 = .ok (.goto (-20), 3) := by decide +kernel
set_option maxRecDepth 100000 in
set_option maxHeartbeats 4000000 in
theorem c246_J7_fill_53178 (l : Launch) (D : va_G) (T : Nat → ClassId) (sz : Nat) (a0 : Nat) (x0 : Int) (f0 : Int → Int) (x0_a : 0 ≤ x0) (x0_b : x0 ≤ 511) (f0_h : rng 0 511 f0) : Met l yJ7_fill_53178 (Cond.code yJ7_fill_53178 cJ7_fill_53178 4 none :: GW) (Rm 0 0 0) (cPre [.ref a0, .int (iI x0)] D T [(a0, .inl (T 0, 9, .inl (cI f0)))] sz) (qV D [(a0, .inl (T 0, 9, .inl (cI f0)))] sz (fun (u : (Int → Int)) => rng 0 511 u) (fun u => [(a0, .inl (T 0, 9, .inl (cI u)))])) 0 0 (va_A [(a0, .inl (T 0, 9, .inl (cI f0)))] sz) := by
  refine e_V (by decide) (Nat.le_of_ble_eq_true rfl) ?_
  intro p e s m args below meth c A Q ls M hin w ret hl
  have hx := M.1.1
  have hb := M.1.2.1
  have hl : lv_has ls 4 [(0, .ref a0), (1, .int (iI x0))] := hl
  refine lv_iconst (v := iI 0) hx hb dJ7_fill_53178_0 (by decide +kernel) ?_
  refine lv_istore_n (lv' := [(2, .int (iI 0)), (0, .ref a0), (1, .int (iI x0))]) hx hb dJ7_fill_53178_1 rfl hl (by decide) rfl (fun ls hl => ?_)
  refine lv_aload_n hx hb dJ7_fill_53178_2 rfl (lv_at hl 1 rfl) ?_
  refine r_alen (v := iI 9) M w 0 0 rfl rfl (show Int32.ofNat 9 = iI 9 from by decide +kernel) dJ7_fill_53178_3 ?_
  refine lv_istore_n (lv' := [(3, .int (iI 9)), (2, .int (iI 0)), (0, .ref a0), (1, .int (iI x0))]) hx hb dJ7_fill_53178_4 rfl hl (by decide) rfl (fun ls hl => ?_)
  have loop1 : ∀ (k1 : Nat) (ff1 : Int → Int) (z2 : Int) (H : Heap) (locs : List Loc) (ls : Array Slot), rng 0 511 ff1 → 0 ≤ z2 → z2 ≤ 2147483647 → ((9 - z2) : Int).toNat < k1 → WD D A s.heap [(a0, .inl (T 0, 9, .inl (cI ff1)))] H locs → lv_has ls 4 [(3, .int (iI 9)), (2, .int (iI z2)), (0, .ref a0), (1, .int (iI x0))] → W p l e (Rm 0 0 0) s m args below meth c H locs 0 0 Q (F0 m 5 ls []) := by
    intro k1
    induction k1 with
    | zero => intro ff1 z2 H locs ls ff1_h z2_a z2_b hm; exact absurd hm (Nat.not_lt_zero _)
    | succ k1 ih1 =>
      intro ff1 z2 H locs ls ff1_h z2_a z2_b hm1 w hl
      refine lv_iload_n hx hb dJ7_fill_53178_5 rfl (lv_at hl 1 rfl) ?_
      refine lv_iload_n hx hb dJ7_fill_53178_6 rfl (lv_at hl 0 rfl) ?_
      refine lv_icmp_ge (tgt := 20) hx hb dJ7_fill_53178_7 (by decide) (fun c_3 => ?_) (fun c_3 => ?_)
      · replace c_3 := (iI_le (by decide) (by decide) (Int.le_trans (by decide) z2_a) (Int.le_trans z2_b (by decide))).mp c_3
        exact ret ff1 _ _ _ _ _ [0] dJ7_fill_53178_20 ff1_h w (by decide) rfl
      · replace c_3 : z2 < 9 := Int.not_le.mp (fun h => c_3 ((iI_le (by decide) (by decide) (Int.le_trans (by decide) z2_a) (Int.le_trans z2_b (by decide))).mpr h))
        refine lv_aload_n hx hb dJ7_fill_53178_10 rfl (lv_at hl 2 rfl) ?_
        refine lv_iload_n hx hb dJ7_fill_53178_11 rfl (lv_at hl 1 rfl) ?_
        refine lv_iload_n hx hb dJ7_fill_53178_12 rfl (lv_at hl 3 rfl) ?_
        refine r_iast (ws' := [(a0, .inl (T 0, 9, .inl (cI (upz ff1 z2 x0))))]) M w 0 rfl (iI_in (by omega) (by omega) (by decide)) (by rw [cI_up (by omega) (by omega)]; rfl) dJ7_fill_53178_13 (fun H locs w => ?_)
        refine lv_iinc (v := iI (z2 + 1)) (lv' := [(2, .int (iI (z2 + 1))), (3, .int (iI 9)), (0, .ref a0), (1, .int (iI x0))]) hx hb dJ7_fill_53178_14 hl (k := 1) rfl (ii_inc (by decide +kernel)) (by decide) rfl (fun ls hl => ?_)
        refine lv_goto (tgt := 5) hx hb dJ7_fill_53178_17 (by decide) ?_
        exact ih1 (upz ff1 z2 x0) (z2 + 1) _ _ _ (rng_up ff1_h (by omega) (by omega)) (by omega) (by omega) (by omega) w (lv_sub hl [1, 0, 2, 3] rfl)
  exact loop1 ((9 : Int).toNat + 1) f0 0 _ _ _ f0_h (by decide) (by decide) (Nat.lt_succ_self _) w (lv_sub hl [0, 1, 2, 3] rfl)
set_option maxRecDepth 100000 in
set_option maxHeartbeats 4000000 in
theorem c247_J7_fill_53178 (l : Launch) (D : va_G) (T : Nat → ClassId) (sz : Nat) (a0 : Nat) (x0 : Int) (f0 : Int → Int) (x0_a : (-1) ≤ x0) (x0_b : x0 ≤ 8) (f0_h : rng (-1) 8 f0) : Met l yJ7_fill_53178 (Cond.code yJ7_fill_53178 cJ7_fill_53178 4 none :: GW) (Rm 0 0 0) (cPre [.ref a0, .int (iI x0)] D T [(a0, .inl (T 0, 9, .inl (cI f0)))] sz) (qV D [(a0, .inl (T 0, 9, .inl (cI f0)))] sz (fun (u : (Int → Int)) => rng (-1) 8 u) (fun u => [(a0, .inl (T 0, 9, .inl (cI u)))])) 0 0 (va_A [(a0, .inl (T 0, 9, .inl (cI f0)))] sz) := by
  refine e_V (by decide) (Nat.le_of_ble_eq_true rfl) ?_
  intro p e s m args below meth c A Q ls M hin w ret hl
  have hx := M.1.1
  have hb := M.1.2.1
  have hl : lv_has ls 4 [(0, .ref a0), (1, .int (iI x0))] := hl
  refine lv_iconst (v := iI 0) hx hb dJ7_fill_53178_0 (by decide +kernel) ?_
  refine lv_istore_n (lv' := [(2, .int (iI 0)), (0, .ref a0), (1, .int (iI x0))]) hx hb dJ7_fill_53178_1 rfl hl (by decide) rfl (fun ls hl => ?_)
  refine lv_aload_n hx hb dJ7_fill_53178_2 rfl (lv_at hl 1 rfl) ?_
  refine r_alen (v := iI 9) M w 0 0 rfl rfl (show Int32.ofNat 9 = iI 9 from by decide +kernel) dJ7_fill_53178_3 ?_
  refine lv_istore_n (lv' := [(3, .int (iI 9)), (2, .int (iI 0)), (0, .ref a0), (1, .int (iI x0))]) hx hb dJ7_fill_53178_4 rfl hl (by decide) rfl (fun ls hl => ?_)
  have loop1 : ∀ (k1 : Nat) (ff1 : Int → Int) (z2 : Int) (H : Heap) (locs : List Loc) (ls : Array Slot), rng (-1) 8 ff1 → 0 ≤ z2 → z2 ≤ 2147483647 → ((9 - z2) : Int).toNat < k1 → WD D A s.heap [(a0, .inl (T 0, 9, .inl (cI ff1)))] H locs → lv_has ls 4 [(3, .int (iI 9)), (2, .int (iI z2)), (0, .ref a0), (1, .int (iI x0))] → W p l e (Rm 0 0 0) s m args below meth c H locs 0 0 Q (F0 m 5 ls []) := by
    intro k1
    induction k1 with
    | zero => intro ff1 z2 H locs ls ff1_h z2_a z2_b hm; exact absurd hm (Nat.not_lt_zero _)
    | succ k1 ih1 =>
      intro ff1 z2 H locs ls ff1_h z2_a z2_b hm1 w hl
      refine lv_iload_n hx hb dJ7_fill_53178_5 rfl (lv_at hl 1 rfl) ?_
      refine lv_iload_n hx hb dJ7_fill_53178_6 rfl (lv_at hl 0 rfl) ?_
      refine lv_icmp_ge (tgt := 20) hx hb dJ7_fill_53178_7 (by decide) (fun c_3 => ?_) (fun c_3 => ?_)
      · replace c_3 := (iI_le (by decide) (by decide) (Int.le_trans (by decide) z2_a) (Int.le_trans z2_b (by decide))).mp c_3
        exact ret ff1 _ _ _ _ _ [0] dJ7_fill_53178_20 ff1_h w (by decide) rfl
      · replace c_3 : z2 < 9 := Int.not_le.mp (fun h => c_3 ((iI_le (by decide) (by decide) (Int.le_trans (by decide) z2_a) (Int.le_trans z2_b (by decide))).mpr h))
        refine lv_aload_n hx hb dJ7_fill_53178_10 rfl (lv_at hl 2 rfl) ?_
        refine lv_iload_n hx hb dJ7_fill_53178_11 rfl (lv_at hl 1 rfl) ?_
        refine lv_iload_n hx hb dJ7_fill_53178_12 rfl (lv_at hl 3 rfl) ?_
        refine r_iast (ws' := [(a0, .inl (T 0, 9, .inl (cI (upz ff1 z2 x0))))]) M w 0 rfl (iI_in (by omega) (by omega) (by decide)) (by rw [cI_up (by omega) (by omega)]; rfl) dJ7_fill_53178_13 (fun H locs w => ?_)
        refine lv_iinc (v := iI (z2 + 1)) (lv' := [(2, .int (iI (z2 + 1))), (3, .int (iI 9)), (0, .ref a0), (1, .int (iI x0))]) hx hb dJ7_fill_53178_14 hl (k := 1) rfl (ii_inc (by decide +kernel)) (by decide) rfl (fun ls hl => ?_)
        refine lv_goto (tgt := 5) hx hb dJ7_fill_53178_17 (by decide) ?_
        exact ih1 (upz ff1 z2 x0) (z2 + 1) _ _ _ (rng_up ff1_h (by omega) (by omega)) (by omega) (by omega) (by omega) w (lv_sub hl [1, 0, 2, 3] rfl)
  exact loop1 ((9 : Int).toNat + 1) f0 0 _ _ _ f0_h (by decide) (by decide) (Nat.lt_succ_self _) w (lv_sub hl [0, 1, 2, 3] rfl)
set_option maxRecDepth 100000 in
set_option maxHeartbeats 4000000 in
theorem c248_X9_clear (l : Launch) (D : va_G) (T : Nat → ClassId) (sz : Nat) (a0 : Nat) (a1 : Nat) (a2 : Nat) (a3 : Nat) (a4 : Nat) (a5 : Nat) (a6 : Nat) (a7 : Nat) (a8 : Nat) (a9 : Nat) (x0 : Int) (x1 : Int) (x2 : Int) (r0 : Int32) (x3 : Int) (r1 : Int32) (r2 : Int32) (r3 : Int32) (r4 : Int32) (f0 : Int → Int) (f1 : Int → Int) (f2 : Int → Int) (x0_a : 0 ≤ x0) (x0_b : x0 ≤ 9) (x1_a : 0 ≤ x1) (x1_b : x1 ≤ 3) (x2_a : (-2147483648) ≤ x2) (x2_b : x2 ≤ 2147483647) (x3_a : (-2147483648) ≤ x3) (x3_b : x3 ≤ 2147483647) (f0_h : rng 0 511 f0) (f1_h : rng (-1) 8 f1) (f2_h : rng (-1) 8 f2) : Met l yX9_clear (Cond.code yX9_clear cX9_clear 1 none :: GW) (Rm 1 0 0) (cPre [.ref a0] D T [(a0, .inr (9, [.ref a1, .ref a2, .ref a3, .ref a4, .ref a5, .ref a6, .ref a7, .ref a8, .ref a9, .int (iI x0), .int (iI x1), .int (iI x2), .int r0, .int (iI x3), .int r1, .int r2, .int r3, .int r4])), (a5, .inl (T 0, 9, .inl (cI f0))), (a6, .inl (T 0, 9, .inl (cI f1))), (a7, .inl (T 0, 9, .inl (cI f2)))] sz) (qV D [(a0, .inr (9, [.ref a1, .ref a2, .ref a3, .ref a4, .ref a5, .ref a6, .ref a7, .ref a8, .ref a9, .int (iI x0), .int (iI x1), .int (iI x2), .int r0, .int (iI x3), .int r1, .int r2, .int r3, .int r4])), (a5, .inl (T 0, 9, .inl (cI f0))), (a6, .inl (T 0, 9, .inl (cI f1))), (a7, .inl (T 0, 9, .inl (cI f2)))] sz (fun (u : Int × Int × Int32 × Int × Int32 × Int32 × Int32 × Int32 × (Int → Int) × (Int → Int) × (Int → Int)) => 0 ≤ u.1 ∧ u.1 ≤ 9 ∧ 0 ≤ u.2.1 ∧ u.2.1 ≤ 3 ∧ (-2147483648) ≤ u.2.2.2.1 ∧ u.2.2.2.1 ≤ 2147483647 ∧ rng 0 511 u.2.2.2.2.2.2.2.2.1 ∧ rng (-1) 8 u.2.2.2.2.2.2.2.2.2.1 ∧ rng (-1) 8 u.2.2.2.2.2.2.2.2.2.2) (fun u => [(a0, .inr (9, [.ref a1, .ref a2, .ref a3, .ref a4, .ref a5, .ref a6, .ref a7, .ref a8, .ref a9, .int (iI u.1), .int (iI u.2.1), .int (iI x2), .int u.2.2.1, .int (iI u.2.2.2.1), .int u.2.2.2.2.1, .int u.2.2.2.2.2.1, .int u.2.2.2.2.2.2.1, .int u.2.2.2.2.2.2.2.1])), (a5, .inl (T 0, 9, .inl (cI u.2.2.2.2.2.2.2.2.1))), (a6, .inl (T 0, 9, .inl (cI u.2.2.2.2.2.2.2.2.2.1))), (a7, .inl (T 0, 9, .inl (cI u.2.2.2.2.2.2.2.2.2.2)))])) 0 0 (va_A [(a0, .inr (9, [.ref a1, .ref a2, .ref a3, .ref a4, .ref a5, .ref a6, .ref a7, .ref a8, .ref a9, .int (iI x0), .int (iI x1), .int (iI x2), .int r0, .int (iI x3), .int r1, .int r2, .int r3, .int r4])), (a5, .inl (T 0, 9, .inl (cI f0))), (a6, .inl (T 0, 9, .inl (cI f1))), (a7, .inl (T 0, 9, .inl (cI f2)))] sz) := by
  refine e_V (by decide) (Nat.le_of_ble_eq_true rfl) ?_
  intro p e s m args below meth c A Q ls M hin w ret hl
  have hx := M.1.1
  have hb := M.1.2.1
  have hl : lv_has ls 1 [(0, .ref a0)] := hl
  refine lv_aload_n hx hb dX9_clear_0 rfl (lv_at hl 0 rfl) ?_
  refine lv_iconst (v := iI 0) hx hb dX9_clear_1 (by decide +kernel) ?_
  refine r_put (ws' := [(a0, .inr (9, [.ref a1, .ref a2, .ref a3, .ref a4, .ref a5, .ref a6, .ref a7, .ref a8, .ref a9, .int (iI 0), .int (iI x1), .int (iI x2), .int r0, .int (iI x3), .int r1, .int r2, .int r3, .int r4])), (a5, .inl (T 0, 9, .inl (cI f0))), (a6, .inl (T 0, 9, .inl (cI f1))), (a7, .inl (T 0, 9, .inl (cI f2)))]) M w 0 9 clX9 rfl (by decide) G387 rfl rfl rfl rfl (Nat.le_of_ble_eq_true rfl) rfl dX9_clear_2 (fun H locs w => ?_)
  refine lv_aload_n hx hb dX9_clear_5 rfl (lv_at hl 0 rfl) ?_
  refine lv_iconst (v := iI 0) hx hb dX9_clear_6 (by decide +kernel) ?_
  refine r_put (ws' := [(a0, .inr (9, [.ref a1, .ref a2, .ref a3, .ref a4, .ref a5, .ref a6, .ref a7, .ref a8, .ref a9, .int (iI 0), .int (iI 0), .int (iI x2), .int r0, .int (iI x3), .int r1, .int r2, .int r3, .int r4])), (a5, .inl (T 0, 9, .inl (cI f0))), (a6, .inl (T 0, 9, .inl (cI f1))), (a7, .inl (T 0, 9, .inl (cI f2)))]) M w 0 10 clX9 rfl (by decide) G393 rfl rfl rfl rfl (Nat.le_of_ble_eq_true rfl) rfl dX9_clear_7 (fun H locs w => ?_)
  refine lv_aload_n hx hb dX9_clear_10 rfl (lv_at hl 0 rfl) ?_
  refine lv_iconst (v := iI 0) hx hb dX9_clear_11 (by decide +kernel) ?_
  refine r_put (ws' := [(a0, .inr (9, [.ref a1, .ref a2, .ref a3, .ref a4, .ref a5, .ref a6, .ref a7, .ref a8, .ref a9, .int (iI 0), .int (iI 0), .int (iI x2), .int (iI 0), .int (iI x3), .int r1, .int r2, .int r3, .int r4])), (a5, .inl (T 0, 9, .inl (cI f0))), (a6, .inl (T 0, 9, .inl (cI f1))), (a7, .inl (T 0, 9, .inl (cI f2)))]) M w 0 12 clX9 rfl (by decide) G398 rfl rfl rfl rfl (Nat.le_of_ble_eq_true rfl) rfl dX9_clear_12 (fun H locs w => ?_)
  refine lv_aload_n hx hb dX9_clear_15 rfl (lv_at hl 0 rfl) ?_
  refine lv_bipush (v := iI 12) hx hb dX9_clear_16 (by decide +kernel) ?_
  refine r_put (ws' := [(a0, .inr (9, [.ref a1, .ref a2, .ref a3, .ref a4, .ref a5, .ref a6, .ref a7, .ref a8, .ref a9, .int (iI 0), .int (iI 0), .int (iI x2), .int (iI 0), .int (iI 12), .int r1, .int r2, .int r3, .int r4])), (a5, .inl (T 0, 9, .inl (cI f0))), (a6, .inl (T 0, 9, .inl (cI f1))), (a7, .inl (T 0, 9, .inl (cI f2)))]) M w 0 13 clX9 rfl (by decide) G400 rfl rfl rfl rfl (Nat.le_of_ble_eq_true rfl) rfl dX9_clear_18 (fun H locs w => ?_)
  refine lv_aload_n hx hb dX9_clear_21 rfl (lv_at hl 0 rfl) ?_
  refine lv_iconst (v := iI 1) hx hb dX9_clear_22 (by decide +kernel) ?_
  refine r_put (ws' := [(a0, .inr (9, [.ref a1, .ref a2, .ref a3, .ref a4, .ref a5, .ref a6, .ref a7, .ref a8, .ref a9, .int (iI 0), .int (iI 0), .int (iI x2), .int (iI 0), .int (iI 12), .int (iI 1), .int r2, .int r3, .int r4])), (a5, .inl (T 0, 9, .inl (cI f0))), (a6, .inl (T 0, 9, .inl (cI f1))), (a7, .inl (T 0, 9, .inl (cI f2)))]) M w 0 14 clX9 rfl (by decide) G402 rfl rfl rfl rfl (Nat.le_of_ble_eq_true rfl) rfl dX9_clear_23 (fun H locs w => ?_)
  refine lv_aload_n hx hb dX9_clear_26 rfl (lv_at hl 0 rfl) ?_
  refine lv_iconst (v := iI 0) hx hb dX9_clear_27 (by decide +kernel) ?_
  refine r_put (ws' := [(a0, .inr (9, [.ref a1, .ref a2, .ref a3, .ref a4, .ref a5, .ref a6, .ref a7, .ref a8, .ref a9, .int (iI 0), .int (iI 0), .int (iI x2), .int (iI 0), .int (iI 12), .int (iI 1), .int (iI 0), .int r3, .int r4])), (a5, .inl (T 0, 9, .inl (cI f0))), (a6, .inl (T 0, 9, .inl (cI f1))), (a7, .inl (T 0, 9, .inl (cI f2)))]) M w 0 15 clX9 rfl (by decide) G404 rfl rfl (by decide +kernel) (by decide +kernel) (Nat.le_of_ble_eq_true rfl) rfl dX9_clear_28 (fun H locs w => ?_)
  refine lv_aload_n hx hb dX9_clear_31 rfl (lv_at hl 0 rfl) ?_
  refine lv_iconst (v := iI 0) hx hb dX9_clear_32 (by decide +kernel) ?_
  refine r_put (ws' := [(a0, .inr (9, [.ref a1, .ref a2, .ref a3, .ref a4, .ref a5, .ref a6, .ref a7, .ref a8, .ref a9, .int (iI 0), .int (iI 0), .int (iI x2), .int (iI 0), .int (iI 12), .int (iI 1), .int (iI 0), .int (iI 0), .int r4])), (a5, .inl (T 0, 9, .inl (cI f0))), (a6, .inl (T 0, 9, .inl (cI f1))), (a7, .inl (T 0, 9, .inl (cI f2)))]) M w 0 16 clX9 rfl (by decide) G405 rfl rfl (by decide +kernel) (by decide +kernel) (Nat.le_of_ble_eq_true rfl) rfl dX9_clear_33 (fun H locs w => ?_)
  refine lv_aload_n hx hb dX9_clear_36 rfl (lv_at hl 0 rfl) ?_
  refine lv_iconst (v := iI 0) hx hb dX9_clear_37 (by decide +kernel) ?_
  refine r_put (ws' := [(a0, .inr (9, [.ref a1, .ref a2, .ref a3, .ref a4, .ref a5, .ref a6, .ref a7, .ref a8, .ref a9, .int (iI 0), .int (iI 0), .int (iI x2), .int (iI 0), .int (iI 12), .int (iI 1), .int (iI 0), .int (iI 0), .int (iI 0)])), (a5, .inl (T 0, 9, .inl (cI f0))), (a6, .inl (T 0, 9, .inl (cI f1))), (a7, .inl (T 0, 9, .inl (cI f2)))]) M w 0 17 clX9 rfl (by decide) G406 rfl rfl (by decide +kernel) (by decide +kernel) (Nat.le_of_ble_eq_true rfl) rfl dX9_clear_38 (fun H locs w => ?_)
  refine lv_aload_n hx hb dX9_clear_41 rfl (lv_at hl 0 rfl) ?_
  refine r_get (v := .ref a5) M w 0 4 clX9 rfl (by decide) G375 rfl rfl dX9_clear_42 ?_
  refine lv_iconst (v := iI 0) hx hb dX9_clear_45 (by decide +kernel) ?_
  refine k_V (ce := 0) (sl := 0) (rest := []) (wr := [(a0, .inr (9, [.ref a1, .ref a2, .ref a3, .ref a4, .ref a5, .ref a6, .ref a7, .ref a8, .ref a9, .int (iI 0), .int (iI 0), .int (iI x2), .int (iI 0), .int (iI 12), .int (iI 1), .int (iI 0), .int (iI 0), .int (iI 0)])), (a6, .inl (T 0, 9, .inl (cI f1))), (a7, .inl (T 0, 9, .inl (cI f2)))]) (r_S (f := 0) [1] M w V_HookedCity_Town_69 G290 (c246_J7_fill_53178 l D T _ a5 0 f0 (by decide) (by decide) f0_h) rfl (by decide) rfl hl.1 rfl (Nat.le_of_ble_eq_true rfl) dX9_clear_46 (by decide) (by decide) (by decide) (by decide)) w [1] [0, 2, 3] rfl rfl (by decide) (by decide) rfl rfl (fun ff1 H locs hp w => ?_)
  have ff1_h : rng 0 511 ff1 := hp
  have w : WD D A s.heap [(a0, .inr (9, [.ref a1, .ref a2, .ref a3, .ref a4, .ref a5, .ref a6, .ref a7, .ref a8, .ref a9, .int (iI 0), .int (iI 0), .int (iI x2), .int (iI 0), .int (iI 12), .int (iI 1), .int (iI 0), .int (iI 0), .int (iI 0)])), (a6, .inl (T 0, 9, .inl (cI f1))), (a7, .inl (T 0, 9, .inl (cI f2))), (a5, .inl (T 0, 9, .inl (cI ff1)))] H locs := w
  refine lv_aload_n hx hb dX9_clear_49 rfl (lv_at hl 0 rfl) ?_
  refine r_get (v := .ref a6) M w 0 5 clX9 rfl (by decide) G379 rfl rfl dX9_clear_50 ?_
  refine lv_iconst (v := iI (-1)) hx hb dX9_clear_53 (by decide +kernel) ?_
  refine k_V (ce := 0) (sl := 0) (rest := []) (wr := [(a0, .inr (9, [.ref a1, .ref a2, .ref a3, .ref a4, .ref a5, .ref a6, .ref a7, .ref a8, .ref a9, .int (iI 0), .int (iI 0), .int (iI x2), .int (iI 0), .int (iI 12), .int (iI 1), .int (iI 0), .int (iI 0), .int (iI 0)])), (a7, .inl (T 0, 9, .inl (cI f2))), (a5, .inl (T 0, 9, .inl (cI ff1)))]) (r_S (f := 0) [1] M w V_HookedCity_Town_69 G290 (c247_J7_fill_53178 l D T _ a6 (-1) f1 (by decide) (by decide) f1_h) rfl (by decide) rfl hl.1 rfl (Nat.le_of_ble_eq_true rfl) dX9_clear_54 (by decide) (by decide) (by decide) (by decide)) w [1] [0, 2, 3] rfl rfl (by decide) (by decide) rfl rfl (fun ff2 H locs hp w => ?_)
  have ff2_h : rng (-1) 8 ff2 := hp
  have w : WD D A s.heap [(a0, .inr (9, [.ref a1, .ref a2, .ref a3, .ref a4, .ref a5, .ref a6, .ref a7, .ref a8, .ref a9, .int (iI 0), .int (iI 0), .int (iI x2), .int (iI 0), .int (iI 12), .int (iI 1), .int (iI 0), .int (iI 0), .int (iI 0)])), (a7, .inl (T 0, 9, .inl (cI f2))), (a5, .inl (T 0, 9, .inl (cI ff1))), (a6, .inl (T 0, 9, .inl (cI ff2)))] H locs := w
  refine lv_aload_n hx hb dX9_clear_57 rfl (lv_at hl 0 rfl) ?_
  refine r_get (v := .ref a7) M w 0 6 clX9 rfl (by decide) G381 rfl rfl dX9_clear_58 ?_
  refine lv_iconst (v := iI (-1)) hx hb dX9_clear_61 (by decide +kernel) ?_
  refine k_V (ce := 0) (sl := 0) (rest := []) (wr := [(a0, .inr (9, [.ref a1, .ref a2, .ref a3, .ref a4, .ref a5, .ref a6, .ref a7, .ref a8, .ref a9, .int (iI 0), .int (iI 0), .int (iI x2), .int (iI 0), .int (iI 12), .int (iI 1), .int (iI 0), .int (iI 0), .int (iI 0)])), (a5, .inl (T 0, 9, .inl (cI ff1))), (a6, .inl (T 0, 9, .inl (cI ff2)))]) (r_S (f := 0) [1] M w V_HookedCity_Town_69 G290 (c247_J7_fill_53178 l D T _ a7 (-1) f2 (by decide) (by decide) f2_h) rfl (by decide) rfl hl.1 rfl (Nat.le_of_ble_eq_true rfl) dX9_clear_62 (by decide) (by decide) (by decide) (by decide)) w [1] [0, 2, 3] rfl rfl (by decide) (by decide) rfl rfl (fun ff3 H locs hp w => ?_)
  have ff3_h : rng (-1) 8 ff3 := hp
  have w : WD D A s.heap [(a0, .inr (9, [.ref a1, .ref a2, .ref a3, .ref a4, .ref a5, .ref a6, .ref a7, .ref a8, .ref a9, .int (iI 0), .int (iI 0), .int (iI x2), .int (iI 0), .int (iI 12), .int (iI 1), .int (iI 0), .int (iI 0), .int (iI 0)])), (a5, .inl (T 0, 9, .inl (cI ff1))), (a6, .inl (T 0, 9, .inl (cI ff2))), (a7, .inl (T 0, 9, .inl (cI ff3)))] H locs := w
  exact ret (0, 0, (iI 0), 12, (iI 1), (iI 0), (iI 0), (iI 0), ff1, ff2, ff3) _ _ _ _ _ [0, 1, 2, 3] dX9_clear_65 ⟨(show (0 : Int) ≤ 0 from by decide), (show (0 : Int) ≤ 9 from by decide), (show (0 : Int) ≤ 0 from by decide), (show (0 : Int) ≤ 3 from by decide), (show (-2147483648) ≤ 12 from by decide), (show (12 : Int) ≤ 2147483647 from by decide), ff1_h, ff2_h, ff3_h⟩ w (by decide) rfl
set_option maxRecDepth 100000 in
set_option maxHeartbeats 4000000 in
theorem c249_X9_copy (l : Launch) (D : va_G) (T : Nat → ClassId) (sz : Nat) (a0 : Nat) (a1 : Nat) (a2 : Nat) (a3 : Nat) (a4 : Nat) (a5 : Nat) (a6 : Nat) (a7 : Nat) (a8 : Nat) (a9 : Nat) (a10 : Nat) (x0 : Int) (x1 : Int) (x2 : Int) (r0 : Int32) (x3 : Int) (r1 : Int32) (r2 : Int32) (r3 : Int32) (r4 : Int32) (a11 : Nat) (a12 : Nat) (a13 : Nat) (a14 : Nat) (a15 : Nat) (a16 : Nat) (a17 : Nat) (a18 : Nat) (a19 : Nat) (x4 : Int) (x5 : Int) (x6 : Int) (r5 : Int32) (x7 : Int) (r6 : Int32) (r7 : Int32) (r8 : Int32) (r9 : Int32) (h0 : Nat → Int64) (f0 : Nat → Int32) (f1 : Nat → Int32) (f2 : Nat → Int32) (f3 : Int → Int) (h1 : Nat → Int64) (f4 : Nat → Int32) (h2 : Nat → Int64) (f5 : Nat → Int32) (f6 : Nat → Int32) (f7 : Nat → Int32) (f8 : Int → Int) (h3 : Nat → Int64) (f9 : Nat → Int32) (x0_a : 0 ≤ x0) (x0_b : x0 ≤ 9) (x1_a : 0 ≤ x1) (x1_b : x1 ≤ 3) (x2_a : (-2147483648) ≤ x2) (x2_b : x2 ≤ 2147483647) (x3_a : (-2147483648) ≤ x3) (x3_b : x3 ≤ 2147483647) (x4_a : 0 ≤ x4) (x4_b : x4 ≤ 9) (x5_a : 0 ≤ x5) (x5_b : x5 ≤ 3) (x6_a : (-2147483648) ≤ x6) (x6_b : x6 ≤ 2147483647) (x7_a : (-2147483648) ≤ x7) (x7_b : x7 ≤ 2147483647) (f3_h : rng 0 511 f3) (f8_h : rng 0 511 f8) : Met l yX9_copy (Cond.code yX9_copy cX9_copy 2 none :: GW) (Rm 1 0 0) (cPre [.ref a0, .ref a1] D T [(a0, .inr (9, [.ref a2, .ref a3, .ref a4, .ref a5, .ref a6, .ref a7, .ref a8, .ref a9, .ref a10, .int (iI x0), .int (iI x1), .int (iI x2), .int r0, .int (iI x3), .int r1, .int r2, .int r3, .int r4])), (a1, .inr (9, [.ref a11, .ref a12, .ref a13, .ref a14, .ref a15, .ref a16, .ref a17, .ref a18, .ref a19, .int (iI x4), .int (iI x5), .int (iI x6), .int r5, .int (iI x7), .int r6, .int r7, .int r8, .int r9])), (a2, .inl (T 1, 9, .inr (.inl h0))), (a3, .inl (T 0, 9, .inl f0)), (a4, .inl (T 0, 9, .inl f1)), (a5, .inl (T 0, 9, .inl f2)), (a6, .inl (T 0, 9, .inl (cI f3))), (a9, .inl (T 1, 3, .inr (.inl h1))), (a10, .inl (T 0, 3, .inl f4)), (a11, .inl (T 1, 9, .inr (.inl h2))), (a12, .inl (T 0, 9, .inl f5)), (a13, .inl (T 0, 9, .inl f6)), (a14, .inl (T 0, 9, .inl f7)), (a15, .inl (T 0, 9, .inl (cI f8))), (a18, .inl (T 1, 3, .inr (.inl h3))), (a19, .inl (T 0, 3, .inl f9))] sz) (qV D [(a0, .inr (9, [.ref a2, .ref a3, .ref a4, .ref a5, .ref a6, .ref a7, .ref a8, .ref a9, .ref a10, .int (iI x0), .int (iI x1), .int (iI x2), .int r0, .int (iI x3), .int r1, .int r2, .int r3, .int r4])), (a1, .inr (9, [.ref a11, .ref a12, .ref a13, .ref a14, .ref a15, .ref a16, .ref a17, .ref a18, .ref a19, .int (iI x4), .int (iI x5), .int (iI x6), .int r5, .int (iI x7), .int r6, .int r7, .int r8, .int r9])), (a2, .inl (T 1, 9, .inr (.inl h0))), (a3, .inl (T 0, 9, .inl f0)), (a4, .inl (T 0, 9, .inl f1)), (a5, .inl (T 0, 9, .inl f2)), (a6, .inl (T 0, 9, .inl (cI f3))), (a9, .inl (T 1, 3, .inr (.inl h1))), (a10, .inl (T 0, 3, .inl f4)), (a11, .inl (T 1, 9, .inr (.inl h2))), (a12, .inl (T 0, 9, .inl f5)), (a13, .inl (T 0, 9, .inl f6)), (a14, .inl (T 0, 9, .inl f7)), (a15, .inl (T 0, 9, .inl (cI f8))), (a18, .inl (T 1, 3, .inr (.inl h3))), (a19, .inl (T 0, 3, .inl f9))] sz (fun (u : Int × Int × Int × Int32 × (Nat → Int64) × (Nat → Int32) × (Nat → Int32) × (Nat → Int32) × (Int → Int) × (Nat → Int64) × (Nat → Int32)) => 0 ≤ u.1 ∧ u.1 ≤ 9 ∧ 0 ≤ u.2.1 ∧ u.2.1 ≤ 3 ∧ (-2147483648) ≤ u.2.2.1 ∧ u.2.2.1 ≤ 2147483647 ∧ rng 0 511 u.2.2.2.2.2.2.2.2.1) (fun u => [(a0, .inr (9, [.ref a2, .ref a3, .ref a4, .ref a5, .ref a6, .ref a7, .ref a8, .ref a9, .ref a10, .int (iI u.1), .int (iI u.2.1), .int (iI x2), .int r0, .int (iI u.2.2.1), .int u.2.2.2.1, .int r2, .int r3, .int r4])), (a1, .inr (9, [.ref a11, .ref a12, .ref a13, .ref a14, .ref a15, .ref a16, .ref a17, .ref a18, .ref a19, .int (iI x4), .int (iI x5), .int (iI x6), .int r5, .int (iI x7), .int r6, .int r7, .int r8, .int r9])), (a2, .inl (T 1, 9, .inr (.inl u.2.2.2.2.1))), (a3, .inl (T 0, 9, .inl u.2.2.2.2.2.1)), (a4, .inl (T 0, 9, .inl u.2.2.2.2.2.2.1)), (a5, .inl (T 0, 9, .inl u.2.2.2.2.2.2.2.1)), (a6, .inl (T 0, 9, .inl (cI u.2.2.2.2.2.2.2.2.1))), (a9, .inl (T 1, 3, .inr (.inl u.2.2.2.2.2.2.2.2.2.1))), (a10, .inl (T 0, 3, .inl u.2.2.2.2.2.2.2.2.2.2)), (a11, .inl (T 1, 9, .inr (.inl h2))), (a12, .inl (T 0, 9, .inl f5)), (a13, .inl (T 0, 9, .inl f6)), (a14, .inl (T 0, 9, .inl f7)), (a15, .inl (T 0, 9, .inl (cI f8))), (a18, .inl (T 1, 3, .inr (.inl h3))), (a19, .inl (T 0, 3, .inl f9))])) 0 0 (va_A [(a0, .inr (9, [.ref a2, .ref a3, .ref a4, .ref a5, .ref a6, .ref a7, .ref a8, .ref a9, .ref a10, .int (iI x0), .int (iI x1), .int (iI x2), .int r0, .int (iI x3), .int r1, .int r2, .int r3, .int r4])), (a1, .inr (9, [.ref a11, .ref a12, .ref a13, .ref a14, .ref a15, .ref a16, .ref a17, .ref a18, .ref a19, .int (iI x4), .int (iI x5), .int (iI x6), .int r5, .int (iI x7), .int r6, .int r7, .int r8, .int r9])), (a2, .inl (T 1, 9, .inr (.inl h0))), (a3, .inl (T 0, 9, .inl f0)), (a4, .inl (T 0, 9, .inl f1)), (a5, .inl (T 0, 9, .inl f2)), (a6, .inl (T 0, 9, .inl (cI f3))), (a9, .inl (T 1, 3, .inr (.inl h1))), (a10, .inl (T 0, 3, .inl f4)), (a11, .inl (T 1, 9, .inr (.inl h2))), (a12, .inl (T 0, 9, .inl f5)), (a13, .inl (T 0, 9, .inl f6)), (a14, .inl (T 0, 9, .inl f7)), (a15, .inl (T 0, 9, .inl (cI f8))), (a18, .inl (T 1, 3, .inr (.inl h3))), (a19, .inl (T 0, 3, .inl f9))] sz) := by
  refine e_V (by decide) (Nat.le_of_ble_eq_true rfl) ?_
  intro p e s m args below meth c A Q ls M hin w ret hl
  have hx := M.1.1
  have hb := M.1.2.1
  have hl : lv_has ls 2 [(0, .ref a0), (1, .ref a1)] := hl
  refine lv_aload_n hx hb dX9_copy_0 rfl (lv_at hl 1 rfl) ?_
  refine r_get (v := .ref a11) M w 1 0 clX9 rfl (by decide) G366 rfl rfl dX9_copy_1 ?_
  refine lv_iconst (v := iI 0) hx hb dX9_copy_4 (by decide +kernel) ?_
  refine lv_aload_n hx hb dX9_copy_5 rfl (lv_at hl 0 rfl) ?_
  refine r_get (v := .ref a2) M w 0 0 clX9 rfl (by decide) G366 rfl rfl dX9_copy_6 ?_
  refine lv_iconst (v := iI 0) hx hb dX9_copy_9 (by decide +kernel) ?_
  refine lv_bipush (v := iI 9) hx hb dX9_copy_10 (by decide +kernel) ?_
  refine r_copyl (ws' := [(a0, .inr (9, [.ref a2, .ref a3, .ref a4, .ref a5, .ref a6, .ref a7, .ref a8, .ref a9, .ref a10, .int (iI x0), .int (iI x1), .int (iI x2), .int r0, .int (iI x3), .int r1, .int r2, .int r3, .int r4])), (a1, .inr (9, [.ref a11, .ref a12, .ref a13, .ref a14, .ref a15, .ref a16, .ref a17, .ref a18, .ref a19, .int (iI x4), .int (iI x5), .int (iI x6), .int r5, .int (iI x7), .int r6, .int r7, .int r8, .int r9])), (a2, .inl (T 1, 9, .inr (.inl (va_cpy h2 h0 (Int32.toNatClampNeg (iI 0)) (Int32.toNatClampNeg (iI 0)) (Int32.toNatClampNeg (iI 9)))))), (a3, .inl (T 0, 9, .inl f0)), (a4, .inl (T 0, 9, .inl f1)), (a5, .inl (T 0, 9, .inl f2)), (a6, .inl (T 0, 9, .inl (cI f3))), (a9, .inl (T 1, 3, .inr (.inl h1))), (a10, .inl (T 0, 3, .inl f4)), (a11, .inl (T 1, 9, .inr (.inl h2))), (a12, .inl (T 0, 9, .inl f5)), (a13, .inl (T 0, 9, .inl f6)), (a14, .inl (T 0, 9, .inl f7)), (a15, .inl (T 0, 9, .inl (cI f8))), (a18, .inl (T 1, 3, .inr (.inl h3))), (a19, .inl (T 0, 3, .inl f9))]) M w 9 2 G1348 G796 G795 G140 hl.1 rfl rfl (by decide +kernel) (by decide +kernel) (by decide +kernel) (by decide +kernel) (by decide +kernel) (by decide) (Nat.le_of_ble_eq_true rfl) rfl dX9_copy_12 (fun H locs w => ?_)
  refine lv_aload_n hx hb dX9_copy_15 rfl (lv_at hl 1 rfl) ?_
  refine r_get (v := .ref a12) M w 1 1 clX9 rfl (by decide) G368 rfl rfl dX9_copy_16 ?_
  refine lv_iconst (v := iI 0) hx hb dX9_copy_19 (by decide +kernel) ?_
  refine lv_aload_n hx hb dX9_copy_20 rfl (lv_at hl 0 rfl) ?_
  refine r_get (v := .ref a3) M w 0 1 clX9 rfl (by decide) G368 rfl rfl dX9_copy_21 ?_
  refine lv_iconst (v := iI 0) hx hb dX9_copy_24 (by decide +kernel) ?_
  refine lv_bipush (v := iI 9) hx hb dX9_copy_25 (by decide +kernel) ?_
  refine r_copyi (ws' := [(a0, .inr (9, [.ref a2, .ref a3, .ref a4, .ref a5, .ref a6, .ref a7, .ref a8, .ref a9, .ref a10, .int (iI x0), .int (iI x1), .int (iI x2), .int r0, .int (iI x3), .int r1, .int r2, .int r3, .int r4])), (a1, .inr (9, [.ref a11, .ref a12, .ref a13, .ref a14, .ref a15, .ref a16, .ref a17, .ref a18, .ref a19, .int (iI x4), .int (iI x5), .int (iI x6), .int r5, .int (iI x7), .int r6, .int r7, .int r8, .int r9])), (a2, .inl (T 1, 9, .inr (.inl (va_cpy h2 h0 (Int32.toNatClampNeg (iI 0)) (Int32.toNatClampNeg (iI 0)) (Int32.toNatClampNeg (iI 9)))))), (a3, .inl (T 0, 9, .inl (va_cpy f5 f0 (Int32.toNatClampNeg (iI 0)) (Int32.toNatClampNeg (iI 0)) (Int32.toNatClampNeg (iI 9))))), (a4, .inl (T 0, 9, .inl f1)), (a5, .inl (T 0, 9, .inl f2)), (a6, .inl (T 0, 9, .inl (cI f3))), (a9, .inl (T 1, 3, .inr (.inl h1))), (a10, .inl (T 0, 3, .inl f4)), (a11, .inl (T 1, 9, .inr (.inl h2))), (a12, .inl (T 0, 9, .inl f5)), (a13, .inl (T 0, 9, .inl f6)), (a14, .inl (T 0, 9, .inl f7)), (a15, .inl (T 0, 9, .inl (cI f8))), (a18, .inl (T 1, 3, .inr (.inl h3))), (a19, .inl (T 0, 3, .inl f9))]) M w 10 3 G1348 G796 G795 G140 hl.1 rfl rfl (by decide +kernel) (by decide +kernel) (by decide +kernel) (by decide +kernel) (by decide +kernel) (by decide) (Nat.le_of_ble_eq_true rfl) rfl dX9_copy_27 (fun H locs w => ?_)
  refine lv_aload_n hx hb dX9_copy_30 rfl (lv_at hl 1 rfl) ?_
  refine r_get (v := .ref a13) M w 1 2 clX9 rfl (by decide) G370 rfl rfl dX9_copy_31 ?_
  refine lv_iconst (v := iI 0) hx hb dX9_copy_34 (by decide +kernel) ?_
  refine lv_aload_n hx hb dX9_copy_35 rfl (lv_at hl 0 rfl) ?_
  refine r_get (v := .ref a4) M w 0 2 clX9 rfl (by decide) G370 rfl rfl dX9_copy_36 ?_
  refine lv_iconst (v := iI 0) hx hb dX9_copy_39 (by decide +kernel) ?_
  refine lv_bipush (v := iI 9) hx hb dX9_copy_40 (by decide +kernel) ?_
  refine r_copyi (ws' := [(a0, .inr (9, [.ref a2, .ref a3, .ref a4, .ref a5, .ref a6, .ref a7, .ref a8, .ref a9, .ref a10, .int (iI x0), .int (iI x1), .int (iI x2), .int r0, .int (iI x3), .int r1, .int r2, .int r3, .int r4])), (a1, .inr (9, [.ref a11, .ref a12, .ref a13, .ref a14, .ref a15, .ref a16, .ref a17, .ref a18, .ref a19, .int (iI x4), .int (iI x5), .int (iI x6), .int r5, .int (iI x7), .int r6, .int r7, .int r8, .int r9])), (a2, .inl (T 1, 9, .inr (.inl (va_cpy h2 h0 (Int32.toNatClampNeg (iI 0)) (Int32.toNatClampNeg (iI 0)) (Int32.toNatClampNeg (iI 9)))))), (a3, .inl (T 0, 9, .inl (va_cpy f5 f0 (Int32.toNatClampNeg (iI 0)) (Int32.toNatClampNeg (iI 0)) (Int32.toNatClampNeg (iI 9))))), (a4, .inl (T 0, 9, .inl (va_cpy f6 f1 (Int32.toNatClampNeg (iI 0)) (Int32.toNatClampNeg (iI 0)) (Int32.toNatClampNeg (iI 9))))), (a5, .inl (T 0, 9, .inl f2)), (a6, .inl (T 0, 9, .inl (cI f3))), (a9, .inl (T 1, 3, .inr (.inl h1))), (a10, .inl (T 0, 3, .inl f4)), (a11, .inl (T 1, 9, .inr (.inl h2))), (a12, .inl (T 0, 9, .inl f5)), (a13, .inl (T 0, 9, .inl f6)), (a14, .inl (T 0, 9, .inl f7)), (a15, .inl (T 0, 9, .inl (cI f8))), (a18, .inl (T 1, 3, .inr (.inl h3))), (a19, .inl (T 0, 3, .inl f9))]) M w 11 4 G1348 G796 G795 G140 hl.1 rfl rfl (by decide +kernel) (by decide +kernel) (by decide +kernel) (by decide +kernel) (by decide +kernel) (by decide) (Nat.le_of_ble_eq_true rfl) rfl dX9_copy_42 (fun H locs w => ?_)
  refine lv_aload_n hx hb dX9_copy_45 rfl (lv_at hl 1 rfl) ?_
  refine r_get (v := .ref a14) M w 1 3 clX9 rfl (by decide) G372 rfl rfl dX9_copy_46 ?_
  refine lv_iconst (v := iI 0) hx hb dX9_copy_49 (by decide +kernel) ?_
  refine lv_aload_n hx hb dX9_copy_50 rfl (lv_at hl 0 rfl) ?_
  refine r_get (v := .ref a5) M w 0 3 clX9 rfl (by decide) G372 rfl rfl dX9_copy_51 ?_
  refine lv_iconst (v := iI 0) hx hb dX9_copy_54 (by decide +kernel) ?_
  refine lv_bipush (v := iI 9) hx hb dX9_copy_55 (by decide +kernel) ?_
  refine r_copyi (ws' := [(a0, .inr (9, [.ref a2, .ref a3, .ref a4, .ref a5, .ref a6, .ref a7, .ref a8, .ref a9, .ref a10, .int (iI x0), .int (iI x1), .int (iI x2), .int r0, .int (iI x3), .int r1, .int r2, .int r3, .int r4])), (a1, .inr (9, [.ref a11, .ref a12, .ref a13, .ref a14, .ref a15, .ref a16, .ref a17, .ref a18, .ref a19, .int (iI x4), .int (iI x5), .int (iI x6), .int r5, .int (iI x7), .int r6, .int r7, .int r8, .int r9])), (a2, .inl (T 1, 9, .inr (.inl (va_cpy h2 h0 (Int32.toNatClampNeg (iI 0)) (Int32.toNatClampNeg (iI 0)) (Int32.toNatClampNeg (iI 9)))))), (a3, .inl (T 0, 9, .inl (va_cpy f5 f0 (Int32.toNatClampNeg (iI 0)) (Int32.toNatClampNeg (iI 0)) (Int32.toNatClampNeg (iI 9))))), (a4, .inl (T 0, 9, .inl (va_cpy f6 f1 (Int32.toNatClampNeg (iI 0)) (Int32.toNatClampNeg (iI 0)) (Int32.toNatClampNeg (iI 9))))), (a5, .inl (T 0, 9, .inl (va_cpy f7 f2 (Int32.toNatClampNeg (iI 0)) (Int32.toNatClampNeg (iI 0)) (Int32.toNatClampNeg (iI 9))))), (a6, .inl (T 0, 9, .inl (cI f3))), (a9, .inl (T 1, 3, .inr (.inl h1))), (a10, .inl (T 0, 3, .inl f4)), (a11, .inl (T 1, 9, .inr (.inl h2))), (a12, .inl (T 0, 9, .inl f5)), (a13, .inl (T 0, 9, .inl f6)), (a14, .inl (T 0, 9, .inl f7)), (a15, .inl (T 0, 9, .inl (cI f8))), (a18, .inl (T 1, 3, .inr (.inl h3))), (a19, .inl (T 0, 3, .inl f9))]) M w 12 5 G1348 G796 G795 G140 hl.1 rfl rfl (by decide +kernel) (by decide +kernel) (by decide +kernel) (by decide +kernel) (by decide +kernel) (by decide) (Nat.le_of_ble_eq_true rfl) rfl dX9_copy_57 (fun H locs w => ?_)
  refine lv_aload_n hx hb dX9_copy_60 rfl (lv_at hl 1 rfl) ?_
  refine r_get (v := .ref a15) M w 1 4 clX9 rfl (by decide) G375 rfl rfl dX9_copy_61 ?_
  refine lv_iconst (v := iI 0) hx hb dX9_copy_64 (by decide +kernel) ?_
  refine lv_aload_n hx hb dX9_copy_65 rfl (lv_at hl 0 rfl) ?_
  refine r_get (v := .ref a6) M w 0 4 clX9 rfl (by decide) G375 rfl rfl dX9_copy_66 ?_
  refine lv_iconst (v := iI 0) hx hb dX9_copy_69 (by decide +kernel) ?_
  refine lv_bipush (v := iI 9) hx hb dX9_copy_70 (by decide +kernel) ?_
  refine r_copyi (ws' := [(a0, .inr (9, [.ref a2, .ref a3, .ref a4, .ref a5, .ref a6, .ref a7, .ref a8, .ref a9, .ref a10, .int (iI x0), .int (iI x1), .int (iI x2), .int r0, .int (iI x3), .int r1, .int r2, .int r3, .int r4])), (a1, .inr (9, [.ref a11, .ref a12, .ref a13, .ref a14, .ref a15, .ref a16, .ref a17, .ref a18, .ref a19, .int (iI x4), .int (iI x5), .int (iI x6), .int r5, .int (iI x7), .int r6, .int r7, .int r8, .int r9])), (a2, .inl (T 1, 9, .inr (.inl (va_cpy h2 h0 (Int32.toNatClampNeg (iI 0)) (Int32.toNatClampNeg (iI 0)) (Int32.toNatClampNeg (iI 9)))))), (a3, .inl (T 0, 9, .inl (va_cpy f5 f0 (Int32.toNatClampNeg (iI 0)) (Int32.toNatClampNeg (iI 0)) (Int32.toNatClampNeg (iI 9))))), (a4, .inl (T 0, 9, .inl (va_cpy f6 f1 (Int32.toNatClampNeg (iI 0)) (Int32.toNatClampNeg (iI 0)) (Int32.toNatClampNeg (iI 9))))), (a5, .inl (T 0, 9, .inl (va_cpy f7 f2 (Int32.toNatClampNeg (iI 0)) (Int32.toNatClampNeg (iI 0)) (Int32.toNatClampNeg (iI 9))))), (a6, .inl (T 0, 9, .inl (cI (cpz f8 f3 0 0 9)))), (a9, .inl (T 1, 3, .inr (.inl h1))), (a10, .inl (T 0, 3, .inl f4)), (a11, .inl (T 1, 9, .inr (.inl h2))), (a12, .inl (T 0, 9, .inl f5)), (a13, .inl (T 0, 9, .inl f6)), (a14, .inl (T 0, 9, .inl f7)), (a15, .inl (T 0, 9, .inl (cI f8))), (a18, .inl (T 1, 3, .inr (.inl h3))), (a19, .inl (T 0, 3, .inl f9))]) M w 13 6 G1348 G796 G795 G140 hl.1 rfl rfl (by decide +kernel) (by decide +kernel) (by decide +kernel) (by decide +kernel) (by decide +kernel) (by decide) (Nat.le_of_ble_eq_true rfl) (by rw [cI_cp (by decide) (by decide) (by decide) (by decide) (by decide) (by decide)]; rfl) dX9_copy_72 (fun H locs w => ?_)
  refine lv_aload_n hx hb dX9_copy_75 rfl (lv_at hl 1 rfl) ?_
  refine r_get (v := .ref a18) M w 1 7 clX9 rfl (by decide) G383 rfl rfl dX9_copy_76 ?_
  refine lv_iconst (v := iI 0) hx hb dX9_copy_79 (by decide +kernel) ?_
  refine lv_aload_n hx hb dX9_copy_80 rfl (lv_at hl 0 rfl) ?_
  refine r_get (v := .ref a9) M w 0 7 clX9 rfl (by decide) G383 rfl rfl dX9_copy_81 ?_
  refine lv_iconst (v := iI 0) hx hb dX9_copy_84 (by decide +kernel) ?_
  refine lv_iconst (v := iI 3) hx hb dX9_copy_85 (by decide +kernel) ?_
  refine r_copyl (ws' := [(a0, .inr (9, [.ref a2, .ref a3, .ref a4, .ref a5, .ref a6, .ref a7, .ref a8, .ref a9, .ref a10, .int (iI x0), .int (iI x1), .int (iI x2), .int r0, .int (iI x3), .int r1, .int r2, .int r3, .int r4])), (a1, .inr (9, [.ref a11, .ref a12, .ref a13, .ref a14, .ref a15, .ref a16, .ref a17, .ref a18, .ref a19, .int (iI x4), .int (iI x5), .int (iI x6), .int r5, .int (iI x7), .int r6, .int r7, .int r8, .int r9])), (a2, .inl (T 1, 9, .inr (.inl (va_cpy h2 h0 (Int32.toNatClampNeg (iI 0)) (Int32.toNatClampNeg (iI 0)) (Int32.toNatClampNeg (iI 9)))))), (a3, .inl (T 0, 9, .inl (va_cpy f5 f0 (Int32.toNatClampNeg (iI 0)) (Int32.toNatClampNeg (iI 0)) (Int32.toNatClampNeg (iI 9))))), (a4, .inl (T 0, 9, .inl (va_cpy f6 f1 (Int32.toNatClampNeg (iI 0)) (Int32.toNatClampNeg (iI 0)) (Int32.toNatClampNeg (iI 9))))), (a5, .inl (T 0, 9, .inl (va_cpy f7 f2 (Int32.toNatClampNeg (iI 0)) (Int32.toNatClampNeg (iI 0)) (Int32.toNatClampNeg (iI 9))))), (a6, .inl (T 0, 9, .inl (cI (cpz f8 f3 0 0 9)))), (a9, .inl (T 1, 3, .inr (.inl (va_cpy h3 h1 (Int32.toNatClampNeg (iI 0)) (Int32.toNatClampNeg (iI 0)) (Int32.toNatClampNeg (iI 3)))))), (a10, .inl (T 0, 3, .inl f4)), (a11, .inl (T 1, 9, .inr (.inl h2))), (a12, .inl (T 0, 9, .inl f5)), (a13, .inl (T 0, 9, .inl f6)), (a14, .inl (T 0, 9, .inl f7)), (a15, .inl (T 0, 9, .inl (cI f8))), (a18, .inl (T 1, 3, .inr (.inl h3))), (a19, .inl (T 0, 3, .inl f9))]) M w 14 7 G1348 G796 G795 G140 hl.1 rfl rfl (by decide +kernel) (by decide +kernel) (by decide +kernel) (by decide +kernel) (by decide +kernel) (by decide) (Nat.le_of_ble_eq_true rfl) rfl dX9_copy_86 (fun H locs w => ?_)
  refine lv_aload_n hx hb dX9_copy_89 rfl (lv_at hl 1 rfl) ?_
  refine r_get (v := .ref a19) M w 1 8 clX9 rfl (by decide) G384 rfl rfl dX9_copy_90 ?_
  refine lv_iconst (v := iI 0) hx hb dX9_copy_93 (by decide +kernel) ?_
  refine lv_aload_n hx hb dX9_copy_94 rfl (lv_at hl 0 rfl) ?_
  refine r_get (v := .ref a10) M w 0 8 clX9 rfl (by decide) G384 rfl rfl dX9_copy_95 ?_
  refine lv_iconst (v := iI 0) hx hb dX9_copy_98 (by decide +kernel) ?_
  refine lv_iconst (v := iI 3) hx hb dX9_copy_99 (by decide +kernel) ?_
  refine r_copyi (ws' := [(a0, .inr (9, [.ref a2, .ref a3, .ref a4, .ref a5, .ref a6, .ref a7, .ref a8, .ref a9, .ref a10, .int (iI x0), .int (iI x1), .int (iI x2), .int r0, .int (iI x3), .int r1, .int r2, .int r3, .int r4])), (a1, .inr (9, [.ref a11, .ref a12, .ref a13, .ref a14, .ref a15, .ref a16, .ref a17, .ref a18, .ref a19, .int (iI x4), .int (iI x5), .int (iI x6), .int r5, .int (iI x7), .int r6, .int r7, .int r8, .int r9])), (a2, .inl (T 1, 9, .inr (.inl (va_cpy h2 h0 (Int32.toNatClampNeg (iI 0)) (Int32.toNatClampNeg (iI 0)) (Int32.toNatClampNeg (iI 9)))))), (a3, .inl (T 0, 9, .inl (va_cpy f5 f0 (Int32.toNatClampNeg (iI 0)) (Int32.toNatClampNeg (iI 0)) (Int32.toNatClampNeg (iI 9))))), (a4, .inl (T 0, 9, .inl (va_cpy f6 f1 (Int32.toNatClampNeg (iI 0)) (Int32.toNatClampNeg (iI 0)) (Int32.toNatClampNeg (iI 9))))), (a5, .inl (T 0, 9, .inl (va_cpy f7 f2 (Int32.toNatClampNeg (iI 0)) (Int32.toNatClampNeg (iI 0)) (Int32.toNatClampNeg (iI 9))))), (a6, .inl (T 0, 9, .inl (cI (cpz f8 f3 0 0 9)))), (a9, .inl (T 1, 3, .inr (.inl (va_cpy h3 h1 (Int32.toNatClampNeg (iI 0)) (Int32.toNatClampNeg (iI 0)) (Int32.toNatClampNeg (iI 3)))))), (a10, .inl (T 0, 3, .inl (va_cpy f9 f4 (Int32.toNatClampNeg (iI 0)) (Int32.toNatClampNeg (iI 0)) (Int32.toNatClampNeg (iI 3))))), (a11, .inl (T 1, 9, .inr (.inl h2))), (a12, .inl (T 0, 9, .inl f5)), (a13, .inl (T 0, 9, .inl f6)), (a14, .inl (T 0, 9, .inl f7)), (a15, .inl (T 0, 9, .inl (cI f8))), (a18, .inl (T 1, 3, .inr (.inl h3))), (a19, .inl (T 0, 3, .inl f9))]) M w 15 8 G1348 G796 G795 G140 hl.1 rfl rfl (by decide +kernel) (by decide +kernel) (by decide +kernel) (by decide +kernel) (by decide +kernel) (by decide) (Nat.le_of_ble_eq_true rfl) rfl dX9_copy_100 (fun H locs w => ?_)
  refine lv_aload_n hx hb dX9_copy_103 rfl (lv_at hl 0 rfl) ?_
  refine lv_aload_n hx hb dX9_copy_104 rfl (lv_at hl 1 rfl) ?_
  refine r_get (v := .int (iI x4)) M w 1 9 clX9 rfl (by decide) G387 rfl rfl dX9_copy_105 ?_
  refine r_put (ws' := [(a0, .inr (9, [.ref a2, .ref a3, .ref a4, .ref a5, .ref a6, .ref a7, .ref a8, .ref a9, .ref a10, .int (iI x4), .int (iI x1), .int (iI x2), .int r0, .int (iI x3), .int r1, .int r2, .int r3, .int r4])), (a1, .inr (9, [.ref a11, .ref a12, .ref a13, .ref a14, .ref a15, .ref a16, .ref a17, .ref a18, .ref a19, .int (iI x4), .int (iI x5), .int (iI x6), .int r5, .int (iI x7), .int r6, .int r7, .int r8, .int r9])), (a2, .inl (T 1, 9, .inr (.inl (va_cpy h2 h0 (Int32.toNatClampNeg (iI 0)) (Int32.toNatClampNeg (iI 0)) (Int32.toNatClampNeg (iI 9)))))), (a3, .inl (T 0, 9, .inl (va_cpy f5 f0 (Int32.toNatClampNeg (iI 0)) (Int32.toNatClampNeg (iI 0)) (Int32.toNatClampNeg (iI 9))))), (a4, .inl (T 0, 9, .inl (va_cpy f6 f1 (Int32.toNatClampNeg (iI 0)) (Int32.toNatClampNeg (iI 0)) (Int32.toNatClampNeg (iI 9))))), (a5, .inl (T 0, 9, .inl (va_cpy f7 f2 (Int32.toNatClampNeg (iI 0)) (Int32.toNatClampNeg (iI 0)) (Int32.toNatClampNeg (iI 9))))), (a6, .inl (T 0, 9, .inl (cI (cpz f8 f3 0 0 9)))), (a9, .inl (T 1, 3, .inr (.inl (va_cpy h3 h1 (Int32.toNatClampNeg (iI 0)) (Int32.toNatClampNeg (iI 0)) (Int32.toNatClampNeg (iI 3)))))), (a10, .inl (T 0, 3, .inl (va_cpy f9 f4 (Int32.toNatClampNeg (iI 0)) (Int32.toNatClampNeg (iI 0)) (Int32.toNatClampNeg (iI 3))))), (a11, .inl (T 1, 9, .inr (.inl h2))), (a12, .inl (T 0, 9, .inl f5)), (a13, .inl (T 0, 9, .inl f6)), (a14, .inl (T 0, 9, .inl f7)), (a15, .inl (T 0, 9, .inl (cI f8))), (a18, .inl (T 1, 3, .inr (.inl h3))), (a19, .inl (T 0, 3, .inl f9))]) M w 0 9 clX9 rfl (by decide) G387 rfl rfl rfl rfl (Nat.le_of_ble_eq_true rfl) rfl dX9_copy_108 (fun H locs w => ?_)
  refine lv_aload_n hx hb dX9_copy_111 rfl (lv_at hl 0 rfl) ?_
  refine lv_aload_n hx hb dX9_copy_112 rfl (lv_at hl 1 rfl) ?_
  refine r_get (v := .int (iI x5)) M w 1 10 clX9 rfl (by decide) G393 rfl rfl dX9_copy_113 ?_
  refine r_put (ws' := [(a0, .inr (9, [.ref a2, .ref a3, .ref a4, .ref a5, .ref a6, .ref a7, .ref a8, .ref a9, .ref a10, .int (iI x4), .int (iI x5), .int (iI x2), .int r0, .int (iI x3), .int r1, .int r2, .int r3, .int r4])), (a1, .inr (9, [.ref a11, .ref a12, .ref a13, .ref a14, .ref a15, .ref a16, .ref a17, .ref a18, .ref a19, .int (iI x4), .int (iI x5), .int (iI x6), .int r5, .int (iI x7), .int r6, .int r7, .int r8, .int r9])), (a2, .inl (T 1, 9, .inr (.inl (va_cpy h2 h0 (Int32.toNatClampNeg (iI 0)) (Int32.toNatClampNeg (iI 0)) (Int32.toNatClampNeg (iI 9)))))), (a3, .inl (T 0, 9, .inl (va_cpy f5 f0 (Int32.toNatClampNeg (iI 0)) (Int32.toNatClampNeg (iI 0)) (Int32.toNatClampNeg (iI 9))))), (a4, .inl (T 0, 9, .inl (va_cpy f6 f1 (Int32.toNatClampNeg (iI 0)) (Int32.toNatClampNeg (iI 0)) (Int32.toNatClampNeg (iI 9))))), (a5, .inl (T 0, 9, .inl (va_cpy f7 f2 (Int32.toNatClampNeg (iI 0)) (Int32.toNatClampNeg (iI 0)) (Int32.toNatClampNeg (iI 9))))), (a6, .inl (T 0, 9, .inl (cI (cpz f8 f3 0 0 9)))), (a9, .inl (T 1, 3, .inr (.inl (va_cpy h3 h1 (Int32.toNatClampNeg (iI 0)) (Int32.toNatClampNeg (iI 0)) (Int32.toNatClampNeg (iI 3)))))), (a10, .inl (T 0, 3, .inl (va_cpy f9 f4 (Int32.toNatClampNeg (iI 0)) (Int32.toNatClampNeg (iI 0)) (Int32.toNatClampNeg (iI 3))))), (a11, .inl (T 1, 9, .inr (.inl h2))), (a12, .inl (T 0, 9, .inl f5)), (a13, .inl (T 0, 9, .inl f6)), (a14, .inl (T 0, 9, .inl f7)), (a15, .inl (T 0, 9, .inl (cI f8))), (a18, .inl (T 1, 3, .inr (.inl h3))), (a19, .inl (T 0, 3, .inl f9))]) M w 0 10 clX9 rfl (by decide) G393 rfl rfl rfl rfl (Nat.le_of_ble_eq_true rfl) rfl dX9_copy_116 (fun H locs w => ?_)
  refine lv_aload_n hx hb dX9_copy_119 rfl (lv_at hl 0 rfl) ?_
  refine lv_aload_n hx hb dX9_copy_120 rfl (lv_at hl 1 rfl) ?_
  refine r_get (v := .int (iI x7)) M w 1 13 clX9 rfl (by decide) G400 rfl rfl dX9_copy_121 ?_
  refine r_put (ws' := [(a0, .inr (9, [.ref a2, .ref a3, .ref a4, .ref a5, .ref a6, .ref a7, .ref a8, .ref a9, .ref a10, .int (iI x4), .int (iI x5), .int (iI x2), .int r0, .int (iI x7), .int r1, .int r2, .int r3, .int r4])), (a1, .inr (9, [.ref a11, .ref a12, .ref a13, .ref a14, .ref a15, .ref a16, .ref a17, .ref a18, .ref a19, .int (iI x4), .int (iI x5), .int (iI x6), .int r5, .int (iI x7), .int r6, .int r7, .int r8, .int r9])), (a2, .inl (T 1, 9, .inr (.inl (va_cpy h2 h0 (Int32.toNatClampNeg (iI 0)) (Int32.toNatClampNeg (iI 0)) (Int32.toNatClampNeg (iI 9)))))), (a3, .inl (T 0, 9, .inl (va_cpy f5 f0 (Int32.toNatClampNeg (iI 0)) (Int32.toNatClampNeg (iI 0)) (Int32.toNatClampNeg (iI 9))))), (a4, .inl (T 0, 9, .inl (va_cpy f6 f1 (Int32.toNatClampNeg (iI 0)) (Int32.toNatClampNeg (iI 0)) (Int32.toNatClampNeg (iI 9))))), (a5, .inl (T 0, 9, .inl (va_cpy f7 f2 (Int32.toNatClampNeg (iI 0)) (Int32.toNatClampNeg (iI 0)) (Int32.toNatClampNeg (iI 9))))), (a6, .inl (T 0, 9, .inl (cI (cpz f8 f3 0 0 9)))), (a9, .inl (T 1, 3, .inr (.inl (va_cpy h3 h1 (Int32.toNatClampNeg (iI 0)) (Int32.toNatClampNeg (iI 0)) (Int32.toNatClampNeg (iI 3)))))), (a10, .inl (T 0, 3, .inl (va_cpy f9 f4 (Int32.toNatClampNeg (iI 0)) (Int32.toNatClampNeg (iI 0)) (Int32.toNatClampNeg (iI 3))))), (a11, .inl (T 1, 9, .inr (.inl h2))), (a12, .inl (T 0, 9, .inl f5)), (a13, .inl (T 0, 9, .inl f6)), (a14, .inl (T 0, 9, .inl f7)), (a15, .inl (T 0, 9, .inl (cI f8))), (a18, .inl (T 1, 3, .inr (.inl h3))), (a19, .inl (T 0, 3, .inl f9))]) M w 0 13 clX9 rfl (by decide) G400 rfl rfl rfl rfl (Nat.le_of_ble_eq_true rfl) rfl dX9_copy_124 (fun H locs w => ?_)
  refine lv_aload_n hx hb dX9_copy_127 rfl (lv_at hl 0 rfl) ?_
  refine lv_aload_n hx hb dX9_copy_128 rfl (lv_at hl 1 rfl) ?_
  refine r_get (v := .int r6) M w 1 14 clX9 rfl (by decide) G402 rfl rfl dX9_copy_129 ?_
  refine b_any (fun z1 z1_a z1_b => ?_)
  refine r_put (ws' := [(a0, .inr (9, [.ref a2, .ref a3, .ref a4, .ref a5, .ref a6, .ref a7, .ref a8, .ref a9, .ref a10, .int (iI x4), .int (iI x5), .int (iI x2), .int r0, .int (iI x7), .int (iI z1), .int r2, .int r3, .int r4])), (a1, .inr (9, [.ref a11, .ref a12, .ref a13, .ref a14, .ref a15, .ref a16, .ref a17, .ref a18, .ref a19, .int (iI x4), .int (iI x5), .int (iI x6), .int r5, .int (iI x7), .int r6, .int r7, .int r8, .int r9])), (a2, .inl (T 1, 9, .inr (.inl (va_cpy h2 h0 (Int32.toNatClampNeg (iI 0)) (Int32.toNatClampNeg (iI 0)) (Int32.toNatClampNeg (iI 9)))))), (a3, .inl (T 0, 9, .inl (va_cpy f5 f0 (Int32.toNatClampNeg (iI 0)) (Int32.toNatClampNeg (iI 0)) (Int32.toNatClampNeg (iI 9))))), (a4, .inl (T 0, 9, .inl (va_cpy f6 f1 (Int32.toNatClampNeg (iI 0)) (Int32.toNatClampNeg (iI 0)) (Int32.toNatClampNeg (iI 9))))), (a5, .inl (T 0, 9, .inl (va_cpy f7 f2 (Int32.toNatClampNeg (iI 0)) (Int32.toNatClampNeg (iI 0)) (Int32.toNatClampNeg (iI 9))))), (a6, .inl (T 0, 9, .inl (cI (cpz f8 f3 0 0 9)))), (a9, .inl (T 1, 3, .inr (.inl (va_cpy h3 h1 (Int32.toNatClampNeg (iI 0)) (Int32.toNatClampNeg (iI 0)) (Int32.toNatClampNeg (iI 3)))))), (a10, .inl (T 0, 3, .inl (va_cpy f9 f4 (Int32.toNatClampNeg (iI 0)) (Int32.toNatClampNeg (iI 0)) (Int32.toNatClampNeg (iI 3))))), (a11, .inl (T 1, 9, .inr (.inl h2))), (a12, .inl (T 0, 9, .inl f5)), (a13, .inl (T 0, 9, .inl f6)), (a14, .inl (T 0, 9, .inl f7)), (a15, .inl (T 0, 9, .inl (cI f8))), (a18, .inl (T 1, 3, .inr (.inl h3))), (a19, .inl (T 0, 3, .inl f9))]) M w 0 14 clX9 rfl (by decide) G402 rfl rfl rfl rfl (Nat.le_of_ble_eq_true rfl) rfl dX9_copy_132 (fun H locs w => ?_)
  exact ret (x4, x5, x7, (iI z1), (va_cpy h2 h0 (Int32.toNatClampNeg (iI 0)) (Int32.toNatClampNeg (iI 0)) (Int32.toNatClampNeg (iI 9))), (va_cpy f5 f0 (Int32.toNatClampNeg (iI 0)) (Int32.toNatClampNeg (iI 0)) (Int32.toNatClampNeg (iI 9))), (va_cpy f6 f1 (Int32.toNatClampNeg (iI 0)) (Int32.toNatClampNeg (iI 0)) (Int32.toNatClampNeg (iI 9))), (va_cpy f7 f2 (Int32.toNatClampNeg (iI 0)) (Int32.toNatClampNeg (iI 0)) (Int32.toNatClampNeg (iI 9))), (cpz f8 f3 0 0 9), (va_cpy h3 h1 (Int32.toNatClampNeg (iI 0)) (Int32.toNatClampNeg (iI 0)) (Int32.toNatClampNeg (iI 3))), (va_cpy f9 f4 (Int32.toNatClampNeg (iI 0)) (Int32.toNatClampNeg (iI 0)) (Int32.toNatClampNeg (iI 3)))) _ _ _ _ _ [0, 1, 2, 3, 4, 5, 6, 7, 8, 9, 10, 11, 12, 13, 14, 15] dX9_copy_135 ⟨x4_a, x4_b, x5_a, x5_b, x7_a, x7_b, (rng_cp f8_h f3_h)⟩ w (by decide) rfl
set_option maxRecDepth 100000 in
set_option maxHeartbeats 4000000 in
theorem c250_X9_onceTold (l : Launch) (D : va_G) (T : Nat → ClassId) (sz : Nat) (a0 : Nat) (a1 : Nat) (x0 : Int) (x1 : Int) (x2 : Int) (a2 : Nat) (x3 : Int) (r0 : Int32) (x4 : Int) (r1 : Int32) (r2 : Int32) (o0 : Option Nat) (y0 : Int64) (r3 : Int32) (r4 : Int32) (r5 : Int32) (r6 : Int32) (f0 : Nat → Int32) (x0_a : (-2147483648) ≤ x0) (x0_b : x0 ≤ 2147483647) (x1_a : (-2147483648) ≤ x1) (x1_b : x1 ≤ 2147483647) (x2_a : (-2147483648) ≤ x2) (x2_b : x2 ≤ 2147483647) (x3_a : 0 ≤ x3) (x3_b : x3 ≤ 940) (x4_a : 0 ≤ x4) (x4_b : x4 ≤ 940) (o0_h : wok T o0) : Met l yX9_onceTold (Cond.code yX9_onceTold cX9_onceTold 6 (some .int) :: GW) (Rm 5 0 0) (cPre [.ref a0, .ref a1, .int (iI x0), .int (iI x1), .int (iI x2)] D T [(a1, .inr (8, [.ref a2, .int (iI x3), .int r0, .int (iI x4), .int r1, .int r2, (va_rf o0), .long y0, .int r3, .int r4, .int r5, .int r6])), (a2, .inl (T 0, 940, .inl f0))] sz) (qI D [(a1, .inr (8, [.ref a2, .int (iI x3), .int r0, .int (iI x4), .int r1, .int r2, (va_rf o0), .long y0, .int r3, .int r4, .int r5, .int r6])), (a2, .inl (T 0, 940, .inl f0))] sz (fun (v : Int32) (u : Int × Int × Int32 × Int32 × Option Nat × Int64 × Int32 × Int32 × Int32 × Int32) => iI u.1 = v ∧ (-2147483648) ≤ u.1 ∧ u.1 ≤ 2147483647 ∧ 0 ≤ u.2.1 ∧ u.2.1 ≤ 940 ∧ wok T u.2.2.2.2.1) (fun u => [(a1, .inr (8, [.ref a2, .int (iI x3), .int r0, .int (iI u.2.1), .int u.2.2.1, .int u.2.2.2.1, (va_rf u.2.2.2.2.1), .long u.2.2.2.2.2.1, .int u.2.2.2.2.2.2.1, .int u.2.2.2.2.2.2.2.1, .int u.2.2.2.2.2.2.2.2.1, .int u.2.2.2.2.2.2.2.2.2])), (a2, .inl (T 0, 940, .inl f0))])) 0 0 (va_A [(a1, .inr (8, [.ref a2, .int (iI x3), .int r0, .int (iI x4), .int r1, .int r2, (va_rf o0), .long y0, .int r3, .int r4, .int r5, .int r6])), (a2, .inl (T 0, 940, .inl f0))] sz) := by
  refine e_I (by decide) (Nat.le_of_ble_eq_true rfl) ?_
  intro p e s m args below meth c A Q ls M hin w ret hl
  have hx := M.1.1
  have hb := M.1.2.1
  have hl : lv_has ls 6 [(0, .ref a0), (1, .ref a1), (2, .int (iI x0)), (3, .int (iI x1)), (4, .int (iI x2))] := hl
  refine lv_iload_n hx hb dX9_onceTold_0 rfl (lv_at hl 2 rfl) ?_
  refine lv_if_eq (tgt := 12) hx hb dX9_onceTold_1 (by decide) (fun c_1 => ?_) (fun c_1 => ?_)
  · replace c_1 := (iz_eq (Int.le_trans (by decide) x0_a) (Int.le_trans x0_b (by decide))).mp c_1
    refine lv_aload_n hx hb dX9_onceTold_12 rfl (lv_at hl 1 rfl) ?_
    refine k_V (ce := 0) (sl := 0) (rest := []) (wr := []) (r_V (f := 4) [0, 1] M w V_HookedCity_Town_154 G587 G588 (c238_X8_step l D T _ a1 a2 x3 r0 x4 r1 r2 o0 y0 r3 r4 r5 r6 f0 x3_a x3_b x4_a x4_b o0_h) 0 clX8 rfl rfl (by decide) rfl hl.1 rfl (Nat.le_of_ble_eq_true rfl) dX9_onceTold_13 (by decide) (by decide) (by decide) (by decide)) w [0, 1] [] rfl rfl (by decide) (by decide) rfl rfl (fun u H locs hp w => ?_)
    obtain ⟨z2, fr3, fr4, fo5, fy6, fr7, fr8⟩ := u
    have z2_a : 0 ≤ z2 := hp.1
    have z2_b : z2 ≤ 940 := hp.2.1
    have fo5_h : wok T fo5 := hp.2.2
    have w : WD D A s.heap [(a1, .inr (8, [.ref a2, .int (iI x3), .int r0, .int (iI z2), .int fr3, .int fr4, (va_rf fo5), .long fy6, .int fr7, .int fr8, .int r5, .int r6])), (a2, .inl (T 0, 940, .inl f0))] H locs := w
    refine lv_aload_n hx hb dX9_onceTold_16 rfl (lv_at hl 1 rfl) ?_
    refine lv_iload_n hx hb dX9_onceTold_17 rfl (lv_at hl 3 rfl) ?_
    refine lv_iload hx hb dX9_onceTold_18 (lv_at hl 4 rfl) ?_
    refine k_I (ce := 0) (sl := 0) (rest := []) (wr := [(a2, .inl (T 0, 940, .inl f0))]) (r_V (f := 1) [0] M w V_HookedCity_Town_168 G726 G727 (c245_X8_numberAt l D T _ a1 x1 x2 a2 x3 r0 z2 fr3 fr4 fo5 fy6 fr7 fr8 r5 r6 x1_a x1_b x2_a x2_b x3_a x3_b z2_a z2_b fo5_h) 0 clX8 rfl rfl (by decide) rfl hl.1 rfl (Nat.le_of_ble_eq_true rfl) dX9_onceTold_20 (by decide) (by decide) (by decide) (by decide)) w [0] [1] rfl rfl (by decide) (by decide) rfl rfl (fun v u H locs hp w => ?_)
    obtain ⟨z9, fr10, fr11⟩ := u
    have hv : iI z9 = v := hp.1
    subst hv
    have z9_a : (-2147483648) ≤ z9 := hp.2.1
    have z9_b : z9 ≤ 2147483647 := hp.2.2
    have w : WD D A s.heap [(a2, .inl (T 0, 940, .inl f0)), (a1, .inr (8, [.ref a2, .int (iI x3), .int r0, .int (iI z2), .int fr3, .int fr4, (va_rf fo5), .long fy6, .int fr7, .int fr8, .int fr10, .int fr11]))] H locs := w
    refine lv_istore (lv' := [(5, .int (iI z9)), (0, .ref a0), (1, .ref a1), (2, .int (iI x0)), (3, .int (iI x1)), (4, .int (iI x2))]) hx hb dX9_onceTold_23 hl (by decide) rfl (fun ls hl => ?_)
    refine lv_iload hx hb dX9_onceTold_25 (lv_at hl 0 rfl) ?_
    refine lv_iconst (v := iI (-1)) hx hb dX9_onceTold_27 (by decide +kernel) ?_
    refine lv_icmp_eq (tgt := 35) hx hb dX9_onceTold_28 (by decide) (fun c_12 => ?_) (fun c_12 => ?_)
    · replace c_12 := (iI_eq (Int.le_trans (by decide) z9_a) (Int.le_trans z9_b (by decide)) (by decide) (by decide)).mp c_12
      refine lv_iload hx hb dX9_onceTold_35 (lv_at hl 0 rfl) ?_
      exact ret _ (z9, z2, fr3, fr4, fo5, fy6, fr7, fr8, fr10, fr11) _ _ _ _ _ [1, 0] dX9_onceTold_37 ⟨rfl, z9_a, z9_b, z2_a, z2_b, fo5_h⟩ w (by decide) rfl
    · replace c_12 : ¬ z9 = (-1) := fun h => c_12 ((iI_eq (Int.le_trans (by decide) z9_a) (Int.le_trans z9_b (by decide)) (by decide) (by decide)).mpr h)
      refine lv_aload_n hx hb dX9_onceTold_31 rfl (lv_at hl 2 rfl) ?_
      refine k_V (ce := 0) (sl := 0) (rest := []) (wr := []) (r_V (f := 4) [1, 0] M w V_HookedCity_Town_154 G587 G588 (c238_X8_step l D T _ a1 a2 x3 r0 z2 fr3 fr4 fo5 fy6 fr7 fr8 fr10 fr11 f0 x3_a x3_b z2_a z2_b fo5_h) 1 clX8 rfl rfl (by decide) rfl hl.1 rfl (Nat.le_of_ble_eq_true rfl) dX9_onceTold_32 (by decide) (by decide) (by decide) (by decide)) w [1, 0] [] rfl rfl (by decide) (by decide) rfl rfl (fun u H locs hp w => ?_)
      obtain ⟨z13, fr14, fr15, fo16, fy17, fr18, fr19⟩ := u
      have z13_a : 0 ≤ z13 := hp.1
      have z13_b : z13 ≤ 940 := hp.2.1
      have fo16_h : wok T fo16 := hp.2.2
      have w : WD D A s.heap [(a1, .inr (8, [.ref a2, .int (iI x3), .int r0, .int (iI z13), .int fr14, .int fr15, (va_rf fo16), .long fy17, .int fr18, .int fr19, .int fr10, .int fr11])), (a2, .inl (T 0, 940, .inl f0))] H locs := w
      refine lv_iload hx hb dX9_onceTold_35 (lv_at hl 0 rfl) ?_
      exact ret _ (z9, z13, fr14, fr15, fo16, fy17, fr18, fr19, fr10, fr11) _ _ _ _ _ [0, 1] dX9_onceTold_37 ⟨rfl, z9_a, z9_b, z13_a, z13_b, fo16_h⟩ w (by decide) rfl
  · replace c_1 : ¬ x0 = 0 := fun h => c_1 ((iz_eq (Int.le_trans (by decide) x0_a) (Int.le_trans x0_b (by decide))).mpr h)
    refine lv_aload_n hx hb dX9_onceTold_4 rfl (lv_at hl 1 rfl) ?_
    refine lv_iconst (v := iI 3) hx hb dX9_onceTold_5 (by decide +kernel) ?_
    refine k_I (ce := 0) (sl := 0) (rest := []) (wr := [(a2, .inl (T 0, 940, .inl f0))]) (r_V (f := 0) [0] M w V_HookedCity_Town_150 G710 G711 (c243_X8_fail l D T _ a1 3 a2 x3 r0 x4 r1 r2 o0 y0 r3 r4 r5 r6 (by decide) (by decide) x3_a x3_b x4_a x4_b o0_h) 0 clX8 rfl rfl (by decide) rfl hl.1 rfl (Nat.le_of_ble_eq_true rfl) dX9_onceTold_6 (by decide) (by decide) (by decide) (by decide)) w [0] [1] rfl rfl (by decide) (by decide) rfl rfl (fun v u H locs hp w => ?_)
    obtain ⟨z20, fr21, fr22⟩ := u
    have hv : iI z20 = v := hp.1
    subst hv
    have z20_a : 0 ≤ z20 := hp.2.1
    have z20_b : z20 ≤ 1 := hp.2.2.1
    have w : WD D A s.heap [(a2, .inl (T 0, 940, .inl f0)), (a1, .inr (8, [.ref a2, .int (iI x3), .int r0, .int (iI x4), .int r1, .int r2, (va_rf o0), .long y0, .int r3, .int r4, .int fr21, .int fr22]))] H locs := w
    rcases hp.2.2.2 with hr
    · subst hr
      refine lv_pop hx hb dX9_onceTold_9 rfl ?_
      refine lv_iconst (v := iI (-1)) hx hb dX9_onceTold_10 (by decide +kernel) ?_
      exact ret _ ((-1), x4, r1, r2, o0, y0, r3, r4, fr21, fr22) _ _ _ _ _ [1, 0] dX9_onceTold_11 ⟨rfl, (show (-2147483648) ≤ (-1) from by decide), (show ((-1) : Int) ≤ 2147483647 from by decide), x4_a, x4_b, o0_h⟩ w (by decide) rfl
set_option maxRecDepth 100000 in
set_option maxHeartbeats 4000000 in
theorem c251_X9_readJuly (l : Launch) (D : va_G) (T : Nat → ClassId) (sz : Nat) (a0 : Nat) (a1 : Nat) (a2 : Nat) (a3 : Nat) (a4 : Nat) (a5 : Nat) (a6 : Nat) (a7 : Nat) (a8 : Nat) (a9 : Nat) (a10 : Nat) (x0 : Int) (x1 : Int) (x2 : Int) (r0 : Int32) (x3 : Int) (r1 : Int32) (r2 : Int32) (r3 : Int32) (r4 : Int32) (a11 : Nat) (x4 : Int) (r5 : Int32) (x5 : Int) (r6 : Int32) (r7 : Int32) (o0 : Option Nat) (y0 : Int64) (r8 : Int32) (r9 : Int32) (r10 : Int32) (r11 : Int32) (f0 : Nat → Int32) (x0_a : 0 ≤ x0) (x0_b : x0 ≤ 9) (x1_a : 0 ≤ x1) (x1_b : x1 ≤ 3) (x2_a : (-2147483648) ≤ x2) (x2_b : x2 ≤ 2147483647) (x3_a : (-2147483648) ≤ x3) (x3_b : x3 ≤ 2147483647) (x4_a : 0 ≤ x4) (x4_b : x4 ≤ 940) (x5_a : 0 ≤ x5) (x5_b : x5 ≤ 940) (o0_h : wok T o0) : Met l yX9_readJuly (Cond.code yX9_readJuly cX9_readJuly 2 (some .boolean) :: GW) (Rm 6 0 0) (cPre [.ref a0, .ref a1] D T [(a0, .inr (9, [.ref a2, .ref a3, .ref a4, .ref a5, .ref a6, .ref a7, .ref a8, .ref a9, .ref a10, .int (iI x0), .int (iI x1), .int (iI x2), .int r0, .int (iI x3), .int r1, .int r2, .int r3, .int r4])), (a1, .inr (8, [.ref a11, .int (iI x4), .int r5, .int (iI x5), .int r6, .int r7, (va_rf o0), .long y0, .int r8, .int r9, .int r10, .int r11])), (a11, .inl (T 0, 940, .inl f0))] sz) (qI D [(a0, .inr (9, [.ref a2, .ref a3, .ref a4, .ref a5, .ref a6, .ref a7, .ref a8, .ref a9, .ref a10, .int (iI x0), .int (iI x1), .int (iI x2), .int r0, .int (iI x3), .int r1, .int r2, .int r3, .int r4])), (a1, .inr (8, [.ref a11, .int (iI x4), .int r5, .int (iI x5), .int r6, .int r7, (va_rf o0), .long y0, .int r8, .int r9, .int r10, .int r11])), (a11, .inl (T 0, 940, .inl f0))] sz (fun (v : Int32) (u : Int × Int32 × Int32 × Int × Int32 × Int32 × Option Nat × Int64 × Int32 × Int32 × Int32 × Int32) => iI u.1 = v ∧ 0 ≤ u.1 ∧ u.1 ≤ 1 ∧ 0 ≤ u.2.2.2.1 ∧ u.2.2.2.1 ≤ 940 ∧ wok T u.2.2.2.2.2.2.1) (fun u => [(a0, .inr (9, [.ref a2, .ref a3, .ref a4, .ref a5, .ref a6, .ref a7, .ref a8, .ref a9, .ref a10, .int (iI x0), .int (iI x1), .int (iI x2), .int r0, .int (iI x3), .int u.2.1, .int r2, .int r3, .int u.2.2.1])), (a1, .inr (8, [.ref a11, .int (iI x4), .int r5, .int (iI u.2.2.2.1), .int u.2.2.2.2.1, .int u.2.2.2.2.2.1, (va_rf u.2.2.2.2.2.2.1), .long u.2.2.2.2.2.2.2.1, .int u.2.2.2.2.2.2.2.2.1, .int u.2.2.2.2.2.2.2.2.2.1, .int u.2.2.2.2.2.2.2.2.2.2.1, .int u.2.2.2.2.2.2.2.2.2.2.2])), (a11, .inl (T 0, 940, .inl f0))])) 0 0 (va_A [(a0, .inr (9, [.ref a2, .ref a3, .ref a4, .ref a5, .ref a6, .ref a7, .ref a8, .ref a9, .ref a10, .int (iI x0), .int (iI x1), .int (iI x2), .int r0, .int (iI x3), .int r1, .int r2, .int r3, .int r4])), (a1, .inr (8, [.ref a11, .int (iI x4), .int r5, .int (iI x5), .int r6, .int r7, (va_rf o0), .long y0, .int r8, .int r9, .int r10, .int r11])), (a11, .inl (T 0, 940, .inl f0))] sz) := by
  refine e_Z (by decide) (Nat.le_of_ble_eq_true rfl) ?_
  intro p e s m args below meth c A Q ls M hin w ret hl
  have hx := M.1.1
  have hb := M.1.2.1
  have hl : lv_has ls 2 [(0, .ref a0), (1, .ref a1)] := hl
  refine lv_aload_n hx hb dX9_readJuly_0 rfl (lv_at hl 0 rfl) ?_
  refine lv_aload_n hx hb dX9_readJuly_1 rfl (lv_at hl 0 rfl) ?_
  refine lv_aload_n hx hb dX9_readJuly_2 rfl (lv_at hl 1 rfl) ?_
  refine lv_aload_n hx hb dX9_readJuly_3 rfl (lv_at hl 0 rfl) ?_
  refine r_get (v := .int r4) M w 0 17 clX9 rfl (by decide) G406 rfl rfl dX9_readJuly_4 ?_
  refine b_any (fun z1 z1_a z1_b => ?_)
  refine lv_iconst (v := iI 0) hx hb dX9_readJuly_7 (by decide +kernel) ?_
  refine lv_bipush (v := iI 60) hx hb dX9_readJuly_8 (by decide +kernel) ?_
  refine k_I (ce := 0) (sl := 0) (rest := [.ref a0]) (wr := [(a0, .inr (9, [.ref a2, .ref a3, .ref a4, .ref a5, .ref a6, .ref a7, .ref a8, .ref a9, .ref a10, .int (iI x0), .int (iI x1), .int (iI x2), .int r0, .int (iI x3), .int r1, .int r2, .int r3, .int r4]))]) (r_V (f := 5) [1, 2] M w V_HookedCity_Town_175 G764 G12 (c250_X9_onceTold l D T _ a0 a1 z1 0 60 a11 x4 r5 x5 r6 r7 o0 y0 r8 r9 r10 r11 f0 z1_a z1_b (by decide) (by decide) (by decide) (by decide) x4_a x4_b x5_a x5_b o0_h) 0 clX9 rfl rfl (by decide) rfl hl.1 rfl (Nat.le_of_ble_eq_true rfl) dX9_readJuly_10 (by decide) (by decide) (by decide) (by decide)) w [1, 2] [0] rfl rfl (by decide) (by decide) rfl rfl (fun v u H locs hp w => ?_)
  obtain ⟨z2, z3, fr4, fr5, fo6, fy7, fr8, fr9, fr10, fr11⟩ := u
  have hv : iI z2 = v := hp.1
  subst hv
  have z2_a : (-2147483648) ≤ z2 := hp.2.1
  have z2_b : z2 ≤ 2147483647 := hp.2.2.1
  have z3_a : 0 ≤ z3 := hp.2.2.2.1
  have z3_b : z3 ≤ 940 := hp.2.2.2.2.1
  have fo6_h : wok T fo6 := hp.2.2.2.2.2
  have w : WD D A s.heap [(a0, .inr (9, [.ref a2, .ref a3, .ref a4, .ref a5, .ref a6, .ref a7, .ref a8, .ref a9, .ref a10, .int (iI x0), .int (iI x1), .int (iI x2), .int r0, .int (iI x3), .int r1, .int r2, .int r3, .int r4])), (a1, .inr (8, [.ref a11, .int (iI x4), .int r5, .int (iI z3), .int fr4, .int fr5, (va_rf fo6), .long fy7, .int fr8, .int fr9, .int fr10, .int fr11])), (a11, .inl (T 0, 940, .inl f0))] H locs := w
  refine r_put (ws' := [(a0, .inr (9, [.ref a2, .ref a3, .ref a4, .ref a5, .ref a6, .ref a7, .ref a8, .ref a9, .ref a10, .int (iI x0), .int (iI x1), .int (iI x2), .int r0, .int (iI x3), .int (iI z2), .int r2, .int r3, .int r4])), (a1, .inr (8, [.ref a11, .int (iI x4), .int r5, .int (iI z3), .int fr4, .int fr5, (va_rf fo6), .long fy7, .int fr8, .int fr9, .int fr10, .int fr11])), (a11, .inl (T 0, 940, .inl f0))]) M w 0 14 clX9 rfl (by decide) G402 rfl rfl rfl rfl (Nat.le_of_ble_eq_true rfl) rfl dX9_readJuly_13 (fun H locs w => ?_)
  refine lv_aload_n hx hb dX9_readJuly_16 rfl (lv_at hl 0 rfl) ?_
  refine lv_iconst (v := iI 1) hx hb dX9_readJuly_17 (by decide +kernel) ?_
  refine r_put (ws' := [(a0, .inr (9, [.ref a2, .ref a3, .ref a4, .ref a5, .ref a6, .ref a7, .ref a8, .ref a9, .ref a10, .int (iI x0), .int (iI x1), .int (iI x2), .int r0, .int (iI x3), .int (iI z2), .int r2, .int r3, .int (iI 1)])), (a1, .inr (8, [.ref a11, .int (iI x4), .int r5, .int (iI z3), .int fr4, .int fr5, (va_rf fo6), .long fy7, .int fr8, .int fr9, .int fr10, .int fr11])), (a11, .inl (T 0, 940, .inl f0))]) M w 0 17 clX9 rfl (by decide) G406 rfl rfl (by decide +kernel) (by decide +kernel) (Nat.le_of_ble_eq_true rfl) rfl dX9_readJuly_18 (fun H locs w => ?_)
  refine lv_aload_n hx hb dX9_readJuly_21 rfl (lv_at hl 0 rfl) ?_
  refine r_get (v := .int (iI z2)) M w 0 14 clX9 rfl (by decide) G402 rfl rfl dX9_readJuly_22 ?_
  refine lv_iconst (v := iI (-1)) hx hb dX9_readJuly_25 (by decide +kernel) ?_
  refine lv_icmp_eq (tgt := 33) hx hb dX9_readJuly_26 (by decide) (fun c_12 => ?_) (fun c_12 => ?_)
  · replace c_12 := (iI_eq (Int.le_trans (by decide) z2_a) (Int.le_trans z2_b (by decide)) (by decide) (by decide)).mp c_12
    refine lv_iconst (v := iI 0) hx hb dX9_readJuly_33 (by decide +kernel) ?_
    exact ret _ (0, (iI z2), (iI 1), z3, fr4, fr5, fo6, fy7, fr8, fr9, fr10, fr11) _ _ _ _ _ [0, 1, 2] dX9_readJuly_34 (by decide +kernel) ⟨rfl, (show (0 : Int) ≤ 0 from by decide), (show (0 : Int) ≤ 1 from by decide), z3_a, z3_b, fo6_h⟩ w (by decide) rfl
  · replace c_12 : ¬ z2 = (-1) := fun h => c_12 ((iI_eq (Int.le_trans (by decide) z2_a) (Int.le_trans z2_b (by decide)) (by decide) (by decide)).mpr h)
    refine lv_iconst (v := iI 1) hx hb dX9_readJuly_29 (by decide +kernel) ?_
    refine lv_goto (tgt := 34) hx hb dX9_readJuly_30 (by decide) ?_
    exact ret _ (1, (iI z2), (iI 1), z3, fr4, fr5, fo6, fy7, fr8, fr9, fr10, fr11) _ _ _ _ _ [0, 1, 2] dX9_readJuly_34 (by decide +kernel) ⟨rfl, (show (0 : Int) ≤ 1 from by decide), (show (1 : Int) ≤ 1 from by decide), z3_a, z3_b, fo6_h⟩ w (by decide) rfl
set_option maxRecDepth 100000 in
set_option maxHeartbeats 4000000 in
theorem c252_X9_readYear (l : Launch) (D : va_G) (T : Nat → ClassId) (sz : Nat) (a0 : Nat) (a1 : Nat) (a2 : Nat) (a3 : Nat) (a4 : Nat) (a5 : Nat) (a6 : Nat) (a7 : Nat) (a8 : Nat) (a9 : Nat) (a10 : Nat) (x0 : Int) (x1 : Int) (x2 : Int) (r0 : Int32) (x3 : Int) (r1 : Int32) (r2 : Int32) (r3 : Int32) (r4 : Int32) (a11 : Nat) (x4 : Int) (r5 : Int32) (x5 : Int) (r6 : Int32) (r7 : Int32) (o0 : Option Nat) (y0 : Int64) (r8 : Int32) (r9 : Int32) (r10 : Int32) (r11 : Int32) (f0 : Nat → Int32) (x0_a : 0 ≤ x0) (x0_b : x0 ≤ 9) (x1_a : 0 ≤ x1) (x1_b : x1 ≤ 3) (x2_a : (-2147483648) ≤ x2) (x2_b : x2 ≤ 2147483647) (x3_a : (-2147483648) ≤ x3) (x3_b : x3 ≤ 2147483647) (x4_a : 0 ≤ x4) (x4_b : x4 ≤ 940) (x5_a : 0 ≤ x5) (x5_b : x5 ≤ 940) (o0_h : wok T o0) : Met l yX9_readYear (Cond.code yX9_readYear cX9_readYear 2 (some .boolean) :: GW) (Rm 6 0 0) (cPre [.ref a0, .ref a1] D T [(a0, .inr (9, [.ref a2, .ref a3, .ref a4, .ref a5, .ref a6, .ref a7, .ref a8, .ref a9, .ref a10, .int (iI x0), .int (iI x1), .int (iI x2), .int r0, .int (iI x3), .int r1, .int r2, .int r3, .int r4])), (a1, .inr (8, [.ref a11, .int (iI x4), .int r5, .int (iI x5), .int r6, .int r7, (va_rf o0), .long y0, .int r8, .int r9, .int r10, .int r11])), (a11, .inl (T 0, 940, .inl f0))] sz) (qI D [(a0, .inr (9, [.ref a2, .ref a3, .ref a4, .ref a5, .ref a6, .ref a7, .ref a8, .ref a9, .ref a10, .int (iI x0), .int (iI x1), .int (iI x2), .int r0, .int (iI x3), .int r1, .int r2, .int r3, .int r4])), (a1, .inr (8, [.ref a11, .int (iI x4), .int r5, .int (iI x5), .int r6, .int r7, (va_rf o0), .long y0, .int r8, .int r9, .int r10, .int r11])), (a11, .inl (T 0, 940, .inl f0))] sz (fun (v : Int32) (u : Int × Int × Int32 × Int × Int32 × Int32 × Option Nat × Int64 × Int32 × Int32 × Int32 × Int32) => iI u.1 = v ∧ 0 ≤ u.1 ∧ u.1 ≤ 1 ∧ (-2147483648) ≤ u.2.1 ∧ u.2.1 ≤ 2147483647 ∧ 0 ≤ u.2.2.2.1 ∧ u.2.2.2.1 ≤ 940 ∧ wok T u.2.2.2.2.2.2.1) (fun u => [(a0, .inr (9, [.ref a2, .ref a3, .ref a4, .ref a5, .ref a6, .ref a7, .ref a8, .ref a9, .ref a10, .int (iI x0), .int (iI x1), .int (iI x2), .int r0, .int (iI u.2.1), .int r1, .int r2, .int u.2.2.1, .int r4])), (a1, .inr (8, [.ref a11, .int (iI x4), .int r5, .int (iI u.2.2.2.1), .int u.2.2.2.2.1, .int u.2.2.2.2.2.1, (va_rf u.2.2.2.2.2.2.1), .long u.2.2.2.2.2.2.2.1, .int u.2.2.2.2.2.2.2.2.1, .int u.2.2.2.2.2.2.2.2.2.1, .int u.2.2.2.2.2.2.2.2.2.2.1, .int u.2.2.2.2.2.2.2.2.2.2.2])), (a11, .inl (T 0, 940, .inl f0))])) 0 0 (va_A [(a0, .inr (9, [.ref a2, .ref a3, .ref a4, .ref a5, .ref a6, .ref a7, .ref a8, .ref a9, .ref a10, .int (iI x0), .int (iI x1), .int (iI x2), .int r0, .int (iI x3), .int r1, .int r2, .int r3, .int r4])), (a1, .inr (8, [.ref a11, .int (iI x4), .int r5, .int (iI x5), .int r6, .int r7, (va_rf o0), .long y0, .int r8, .int r9, .int r10, .int r11])), (a11, .inl (T 0, 940, .inl f0))] sz) := by
  refine e_Z (by decide) (Nat.le_of_ble_eq_true rfl) ?_
  intro p e s m args below meth c A Q ls M hin w ret hl
  have hx := M.1.1
  have hb := M.1.2.1
  have hl : lv_has ls 2 [(0, .ref a0), (1, .ref a1)] := hl
  refine lv_aload_n hx hb dX9_readYear_0 rfl (lv_at hl 0 rfl) ?_
  refine lv_aload_n hx hb dX9_readYear_1 rfl (lv_at hl 0 rfl) ?_
  refine lv_aload_n hx hb dX9_readYear_2 rfl (lv_at hl 1 rfl) ?_
  refine lv_aload_n hx hb dX9_readYear_3 rfl (lv_at hl 0 rfl) ?_
  refine r_get (v := .int r3) M w 0 16 clX9 rfl (by decide) G405 rfl rfl dX9_readYear_4 ?_
  refine b_any (fun z1 z1_a z1_b => ?_)
  refine lv_iconst (v := iI 2) hx hb dX9_readYear_7 (by decide +kernel) ?_
  refine lv_bipush (v := iI 60) hx hb dX9_readYear_8 (by decide +kernel) ?_
  refine k_I (ce := 0) (sl := 0) (rest := [.ref a0]) (wr := [(a0, .inr (9, [.ref a2, .ref a3, .ref a4, .ref a5, .ref a6, .ref a7, .ref a8, .ref a9, .ref a10, .int (iI x0), .int (iI x1), .int (iI x2), .int r0, .int (iI x3), .int r1, .int r2, .int r3, .int r4]))]) (r_V (f := 5) [1, 2] M w V_HookedCity_Town_175 G764 G12 (c250_X9_onceTold l D T _ a0 a1 z1 2 60 a11 x4 r5 x5 r6 r7 o0 y0 r8 r9 r10 r11 f0 z1_a z1_b (by decide) (by decide) (by decide) (by decide) x4_a x4_b x5_a x5_b o0_h) 0 clX9 rfl rfl (by decide) rfl hl.1 rfl (Nat.le_of_ble_eq_true rfl) dX9_readYear_10 (by decide) (by decide) (by decide) (by decide)) w [1, 2] [0] rfl rfl (by decide) (by decide) rfl rfl (fun v u H locs hp w => ?_)
  obtain ⟨z2, z3, fr4, fr5, fo6, fy7, fr8, fr9, fr10, fr11⟩ := u
  have hv : iI z2 = v := hp.1
  subst hv
  have z2_a : (-2147483648) ≤ z2 := hp.2.1
  have z2_b : z2 ≤ 2147483647 := hp.2.2.1
  have z3_a : 0 ≤ z3 := hp.2.2.2.1
  have z3_b : z3 ≤ 940 := hp.2.2.2.2.1
  have fo6_h : wok T fo6 := hp.2.2.2.2.2
  have w : WD D A s.heap [(a0, .inr (9, [.ref a2, .ref a3, .ref a4, .ref a5, .ref a6, .ref a7, .ref a8, .ref a9, .ref a10, .int (iI x0), .int (iI x1), .int (iI x2), .int r0, .int (iI x3), .int r1, .int r2, .int r3, .int r4])), (a1, .inr (8, [.ref a11, .int (iI x4), .int r5, .int (iI z3), .int fr4, .int fr5, (va_rf fo6), .long fy7, .int fr8, .int fr9, .int fr10, .int fr11])), (a11, .inl (T 0, 940, .inl f0))] H locs := w
  refine r_put (ws' := [(a0, .inr (9, [.ref a2, .ref a3, .ref a4, .ref a5, .ref a6, .ref a7, .ref a8, .ref a9, .ref a10, .int (iI x0), .int (iI x1), .int (iI x2), .int r0, .int (iI z2), .int r1, .int r2, .int r3, .int r4])), (a1, .inr (8, [.ref a11, .int (iI x4), .int r5, .int (iI z3), .int fr4, .int fr5, (va_rf fo6), .long fy7, .int fr8, .int fr9, .int fr10, .int fr11])), (a11, .inl (T 0, 940, .inl f0))]) M w 0 13 clX9 rfl (by decide) G400 rfl rfl rfl rfl (Nat.le_of_ble_eq_true rfl) rfl dX9_readYear_13 (fun H locs w => ?_)
  refine lv_aload_n hx hb dX9_readYear_16 rfl (lv_at hl 0 rfl) ?_
  refine lv_iconst (v := iI 1) hx hb dX9_readYear_17 (by decide +kernel) ?_
  refine r_put (ws' := [(a0, .inr (9, [.ref a2, .ref a3, .ref a4, .ref a5, .ref a6, .ref a7, .ref a8, .ref a9, .ref a10, .int (iI x0), .int (iI x1), .int (iI x2), .int r0, .int (iI z2), .int r1, .int r2, .int (iI 1), .int r4])), (a1, .inr (8, [.ref a11, .int (iI x4), .int r5, .int (iI z3), .int fr4, .int fr5, (va_rf fo6), .long fy7, .int fr8, .int fr9, .int fr10, .int fr11])), (a11, .inl (T 0, 940, .inl f0))]) M w 0 16 clX9 rfl (by decide) G405 rfl rfl (by decide +kernel) (by decide +kernel) (Nat.le_of_ble_eq_true rfl) rfl dX9_readYear_18 (fun H locs w => ?_)
  refine lv_aload_n hx hb dX9_readYear_21 rfl (lv_at hl 0 rfl) ?_
  refine r_get (v := .int (iI z2)) M w 0 13 clX9 rfl (by decide) G400 rfl rfl dX9_readYear_22 ?_
  refine lv_iconst (v := iI (-1)) hx hb dX9_readYear_25 (by decide +kernel) ?_
  refine lv_icmp_eq (tgt := 33) hx hb dX9_readYear_26 (by decide) (fun c_12 => ?_) (fun c_12 => ?_)
  · replace c_12 := (iI_eq (Int.le_trans (by decide) z2_a) (Int.le_trans z2_b (by decide)) (by decide) (by decide)).mp c_12
    refine lv_iconst (v := iI 0) hx hb dX9_readYear_33 (by decide +kernel) ?_
    exact ret _ (0, z2, (iI 1), z3, fr4, fr5, fo6, fy7, fr8, fr9, fr10, fr11) _ _ _ _ _ [0, 1, 2] dX9_readYear_34 (by decide +kernel) ⟨rfl, (show (0 : Int) ≤ 0 from by decide), (show (0 : Int) ≤ 1 from by decide), z2_a, z2_b, z3_a, z3_b, fo6_h⟩ w (by decide) rfl
  · replace c_12 : ¬ z2 = (-1) := fun h => c_12 ((iI_eq (Int.le_trans (by decide) z2_a) (Int.le_trans z2_b (by decide)) (by decide) (by decide)).mpr h)
    refine lv_iconst (v := iI 1) hx hb dX9_readYear_29 (by decide +kernel) ?_
    refine lv_goto (tgt := 34) hx hb dX9_readYear_30 (by decide) ?_
    exact ret _ (1, z2, (iI 1), z3, fr4, fr5, fo6, fy7, fr8, fr9, fr10, fr11) _ _ _ _ _ [0, 1, 2] dX9_readYear_34 (by decide +kernel) ⟨rfl, (show (0 : Int) ≤ 1 from by decide), (show (1 : Int) ≤ 1 from by decide), z2_a, z2_b, z3_a, z3_b, fo6_h⟩ w (by decide) rfl
set_option maxRecDepth 100000 in
set_option maxHeartbeats 4000000 in
theorem c253_X9_readSpare (l : Launch) (D : va_G) (T : Nat → ClassId) (sz : Nat) (a0 : Nat) (a1 : Nat) (a2 : Nat) (a3 : Nat) (a4 : Nat) (a5 : Nat) (a6 : Nat) (a7 : Nat) (a8 : Nat) (a9 : Nat) (a10 : Nat) (x0 : Int) (x1 : Int) (x2 : Int) (r0 : Int32) (x3 : Int) (r1 : Int32) (r2 : Int32) (r3 : Int32) (r4 : Int32) (a11 : Nat) (x4 : Int) (r5 : Int32) (x5 : Int) (r6 : Int32) (r7 : Int32) (o0 : Option Nat) (y0 : Int64) (r8 : Int32) (r9 : Int32) (r10 : Int32) (r11 : Int32) (f0 : Nat → Int32) (x0_a : 0 ≤ x0) (x0_b : x0 ≤ 9) (x1_a : 0 ≤ x1) (x1_b : x1 ≤ 3) (x2_a : (-2147483648) ≤ x2) (x2_b : x2 ≤ 2147483647) (x3_a : (-2147483648) ≤ x3) (x3_b : x3 ≤ 2147483647) (x4_a : 0 ≤ x4) (x4_b : x4 ≤ 940) (x5_a : 0 ≤ x5) (x5_b : x5 ≤ 940) (o0_h : wok T o0) : Met l yX9_readSpare (Cond.code yX9_readSpare cX9_readSpare 2 (some .boolean) :: GW) (Rm 6 0 0) (cPre [.ref a0, .ref a1] D T [(a0, .inr (9, [.ref a2, .ref a3, .ref a4, .ref a5, .ref a6, .ref a7, .ref a8, .ref a9, .ref a10, .int (iI x0), .int (iI x1), .int (iI x2), .int r0, .int (iI x3), .int r1, .int r2, .int r3, .int r4])), (a1, .inr (8, [.ref a11, .int (iI x4), .int r5, .int (iI x5), .int r6, .int r7, (va_rf o0), .long y0, .int r8, .int r9, .int r10, .int r11])), (a11, .inl (T 0, 940, .inl f0))] sz) (qI D [(a0, .inr (9, [.ref a2, .ref a3, .ref a4, .ref a5, .ref a6, .ref a7, .ref a8, .ref a9, .ref a10, .int (iI x0), .int (iI x1), .int (iI x2), .int r0, .int (iI x3), .int r1, .int r2, .int r3, .int r4])), (a1, .inr (8, [.ref a11, .int (iI x4), .int r5, .int (iI x5), .int r6, .int r7, (va_rf o0), .long y0, .int r8, .int r9, .int r10, .int r11])), (a11, .inl (T 0, 940, .inl f0))] sz (fun (v : Int32) (u : Int × Int32 × Int32 × Int × Int32 × Int32 × Option Nat × Int64 × Int32 × Int32 × Int32 × Int32) => iI u.1 = v ∧ 0 ≤ u.1 ∧ u.1 ≤ 1 ∧ 0 ≤ u.2.2.2.1 ∧ u.2.2.2.1 ≤ 940 ∧ wok T u.2.2.2.2.2.2.1) (fun u => [(a0, .inr (9, [.ref a2, .ref a3, .ref a4, .ref a5, .ref a6, .ref a7, .ref a8, .ref a9, .ref a10, .int (iI x0), .int (iI x1), .int (iI x2), .int u.2.1, .int (iI x3), .int r1, .int u.2.2.1, .int r3, .int r4])), (a1, .inr (8, [.ref a11, .int (iI x4), .int r5, .int (iI u.2.2.2.1), .int u.2.2.2.2.1, .int u.2.2.2.2.2.1, (va_rf u.2.2.2.2.2.2.1), .long u.2.2.2.2.2.2.2.1, .int u.2.2.2.2.2.2.2.2.1, .int u.2.2.2.2.2.2.2.2.2.1, .int u.2.2.2.2.2.2.2.2.2.2.1, .int u.2.2.2.2.2.2.2.2.2.2.2])), (a11, .inl (T 0, 940, .inl f0))])) 0 0 (va_A [(a0, .inr (9, [.ref a2, .ref a3, .ref a4, .ref a5, .ref a6, .ref a7, .ref a8, .ref a9, .ref a10, .int (iI x0), .int (iI x1), .int (iI x2), .int r0, .int (iI x3), .int r1, .int r2, .int r3, .int r4])), (a1, .inr (8, [.ref a11, .int (iI x4), .int r5, .int (iI x5), .int r6, .int r7, (va_rf o0), .long y0, .int r8, .int r9, .int r10, .int r11])), (a11, .inl (T 0, 940, .inl f0))] sz) := by
  refine e_Z (by decide) (Nat.le_of_ble_eq_true rfl) ?_
  intro p e s m args below meth c A Q ls M hin w ret hl
  have hx := M.1.1
  have hb := M.1.2.1
  have hl : lv_has ls 2 [(0, .ref a0), (1, .ref a1)] := hl
  refine lv_aload_n hx hb dX9_readSpare_0 rfl (lv_at hl 0 rfl) ?_
  refine lv_aload_n hx hb dX9_readSpare_1 rfl (lv_at hl 0 rfl) ?_
  refine lv_aload_n hx hb dX9_readSpare_2 rfl (lv_at hl 1 rfl) ?_
  refine lv_aload_n hx hb dX9_readSpare_3 rfl (lv_at hl 0 rfl) ?_
  refine r_get (v := .int r2) M w 0 15 clX9 rfl (by decide) G404 rfl rfl dX9_readSpare_4 ?_
  refine b_any (fun z1 z1_a z1_b => ?_)
  refine lv_iconst (v := iI 0) hx hb dX9_readSpare_7 (by decide +kernel) ?_
  refine lv_bipush (v := iI 20) hx hb dX9_readSpare_8 (by decide +kernel) ?_
  refine k_I (ce := 0) (sl := 0) (rest := [.ref a0]) (wr := [(a0, .inr (9, [.ref a2, .ref a3, .ref a4, .ref a5, .ref a6, .ref a7, .ref a8, .ref a9, .ref a10, .int (iI x0), .int (iI x1), .int (iI x2), .int r0, .int (iI x3), .int r1, .int r2, .int r3, .int r4]))]) (r_V (f := 5) [1, 2] M w V_HookedCity_Town_175 G764 G12 (c250_X9_onceTold l D T _ a0 a1 z1 0 20 a11 x4 r5 x5 r6 r7 o0 y0 r8 r9 r10 r11 f0 z1_a z1_b (by decide) (by decide) (by decide) (by decide) x4_a x4_b x5_a x5_b o0_h) 0 clX9 rfl rfl (by decide) rfl hl.1 rfl (Nat.le_of_ble_eq_true rfl) dX9_readSpare_10 (by decide) (by decide) (by decide) (by decide)) w [1, 2] [0] rfl rfl (by decide) (by decide) rfl rfl (fun v u H locs hp w => ?_)
  obtain ⟨z2, z3, fr4, fr5, fo6, fy7, fr8, fr9, fr10, fr11⟩ := u
  have hv : iI z2 = v := hp.1
  subst hv
  have z2_a : (-2147483648) ≤ z2 := hp.2.1
  have z2_b : z2 ≤ 2147483647 := hp.2.2.1
  have z3_a : 0 ≤ z3 := hp.2.2.2.1
  have z3_b : z3 ≤ 940 := hp.2.2.2.2.1
  have fo6_h : wok T fo6 := hp.2.2.2.2.2
  have w : WD D A s.heap [(a0, .inr (9, [.ref a2, .ref a3, .ref a4, .ref a5, .ref a6, .ref a7, .ref a8, .ref a9, .ref a10, .int (iI x0), .int (iI x1), .int (iI x2), .int r0, .int (iI x3), .int r1, .int r2, .int r3, .int r4])), (a1, .inr (8, [.ref a11, .int (iI x4), .int r5, .int (iI z3), .int fr4, .int fr5, (va_rf fo6), .long fy7, .int fr8, .int fr9, .int fr10, .int fr11])), (a11, .inl (T 0, 940, .inl f0))] H locs := w
  refine r_put (ws' := [(a0, .inr (9, [.ref a2, .ref a3, .ref a4, .ref a5, .ref a6, .ref a7, .ref a8, .ref a9, .ref a10, .int (iI x0), .int (iI x1), .int (iI x2), .int (iI z2), .int (iI x3), .int r1, .int r2, .int r3, .int r4])), (a1, .inr (8, [.ref a11, .int (iI x4), .int r5, .int (iI z3), .int fr4, .int fr5, (va_rf fo6), .long fy7, .int fr8, .int fr9, .int fr10, .int fr11])), (a11, .inl (T 0, 940, .inl f0))]) M w 0 12 clX9 rfl (by decide) G398 rfl rfl rfl rfl (Nat.le_of_ble_eq_true rfl) rfl dX9_readSpare_13 (fun H locs w => ?_)
  refine lv_aload_n hx hb dX9_readSpare_16 rfl (lv_at hl 0 rfl) ?_
  refine lv_iconst (v := iI 1) hx hb dX9_readSpare_17 (by decide +kernel) ?_
  refine r_put (ws' := [(a0, .inr (9, [.ref a2, .ref a3, .ref a4, .ref a5, .ref a6, .ref a7, .ref a8, .ref a9, .ref a10, .int (iI x0), .int (iI x1), .int (iI x2), .int (iI z2), .int (iI x3), .int r1, .int (iI 1), .int r3, .int r4])), (a1, .inr (8, [.ref a11, .int (iI x4), .int r5, .int (iI z3), .int fr4, .int fr5, (va_rf fo6), .long fy7, .int fr8, .int fr9, .int fr10, .int fr11])), (a11, .inl (T 0, 940, .inl f0))]) M w 0 15 clX9 rfl (by decide) G404 rfl rfl (by decide +kernel) (by decide +kernel) (Nat.le_of_ble_eq_true rfl) rfl dX9_readSpare_18 (fun H locs w => ?_)
  refine lv_aload_n hx hb dX9_readSpare_21 rfl (lv_at hl 0 rfl) ?_
  refine r_get (v := .int (iI z2)) M w 0 12 clX9 rfl (by decide) G398 rfl rfl dX9_readSpare_22 ?_
  refine lv_iconst (v := iI (-1)) hx hb dX9_readSpare_25 (by decide +kernel) ?_
  refine lv_icmp_eq (tgt := 33) hx hb dX9_readSpare_26 (by decide) (fun c_12 => ?_) (fun c_12 => ?_)
  · replace c_12 := (iI_eq (Int.le_trans (by decide) z2_a) (Int.le_trans z2_b (by decide)) (by decide) (by decide)).mp c_12
    refine lv_iconst (v := iI 0) hx hb dX9_readSpare_33 (by decide +kernel) ?_
    exact ret _ (0, (iI z2), (iI 1), z3, fr4, fr5, fo6, fy7, fr8, fr9, fr10, fr11) _ _ _ _ _ [0, 1, 2] dX9_readSpare_34 (by decide +kernel) ⟨rfl, (show (0 : Int) ≤ 0 from by decide), (show (0 : Int) ≤ 1 from by decide), z3_a, z3_b, fo6_h⟩ w (by decide) rfl
  · replace c_12 : ¬ z2 = (-1) := fun h => c_12 ((iI_eq (Int.le_trans (by decide) z2_a) (Int.le_trans z2_b (by decide)) (by decide) (by decide)).mpr h)
    refine lv_iconst (v := iI 1) hx hb dX9_readSpare_29 (by decide +kernel) ?_
    refine lv_goto (tgt := 34) hx hb dX9_readSpare_30 (by decide) ?_
    exact ret _ (1, (iI z2), (iI 1), z3, fr4, fr5, fo6, fy7, fr8, fr9, fr10, fr11) _ _ _ _ _ [0, 1, 2] dX9_readSpare_34 (by decide +kernel) ⟨rfl, (show (0 : Int) ≤ 1 from by decide), (show (1 : Int) ≤ 1 from by decide), z3_a, z3_b, fo6_h⟩ w (by decide) rfl
set_option maxRecDepth 100000 in
set_option maxHeartbeats 4000000 in
theorem c254_X9_placeOf (l : Launch) (D : va_G) (T : Nat → ClassId) (sz : Nat) (a0 : Nat) (x0 : Int) (y0 : Int64) (h0 : Nat → Int64) (x0_a : 0 ≤ x0) (x0_b : x0 ≤ 9) : Met l yX9_placeOf (Cond.code yX9_placeOf cX9_placeOf 5 (some .int) :: GW) (Rm 0 0 0) (cPre [.ref a0, .int (iI x0), .long y0] D T [(a0, .inl (T 1, 9, .inr (.inl h0)))] sz) (qI D [(a0, .inl (T 1, 9, .inr (.inl h0)))] sz (fun (v : Int32) (u : Int) => iI u = v ∧ (-1) ≤ u ∧ u ≤ 8 ∧ 0 ≤ ((x0 - u) - 1)) (fun u => [(a0, .inl (T 1, 9, .inr (.inl h0)))])) 0 0 (va_A [(a0, .inl (T 1, 9, .inr (.inl h0)))] sz) := by
  refine e_I (by decide) (Nat.le_of_ble_eq_true rfl) ?_
  intro p e s m args below meth c A Q ls M hin w ret hl
  have hx := M.1.1
  have hb := M.1.2.1
  have hl : lv_has ls 5 [(0, .ref a0), (1, .int (iI x0)), (2, .long y0)] := hl
  refine lv_iconst (v := iI 0) hx hb dX9_placeOf_0 (by decide +kernel) ?_
  refine lv_istore (lv' := [(4, .int (iI 0)), (0, .ref a0), (1, .int (iI x0)), (2, .long y0)]) hx hb dX9_placeOf_1 hl (by decide) rfl (fun ls hl => ?_)
  have loop1 : ∀ (k1 : Nat) (z1 : Int) (H : Heap) (locs : List Loc) (ls : Array Slot), 0 ≤ z1 → z1 ≤ 9 → ((x0 - z1) : Int).toNat < k1 → WD D A s.heap [(a0, .inl (T 1, 9, .inr (.inl h0)))] H locs → lv_has ls 5 [(4, .int (iI z1)), (0, .ref a0), (1, .int (iI x0)), (2, .long y0)] → W p l e (Rm 0 0 0) s m args below meth c H locs 0 0 Q (F0 m 3 ls []) := by
    intro k1
    induction k1 with
    | zero => intro z1 H locs ls z1_a z1_b hm; exact absurd hm (Nat.not_lt_zero _)
    | succ k1 ih1 =>
      intro z1 H locs ls z1_a z1_b hm1 w hl
      refine lv_iload hx hb dX9_placeOf_3 (lv_at hl 0 rfl) ?_
      refine lv_iload_n hx hb dX9_placeOf_5 rfl (lv_at hl 2 rfl) ?_
      refine lv_icmp_ge (tgt := 34) hx hb dX9_placeOf_6 (by decide) (fun c_2 => ?_) (fun c_2 => ?_)
      · replace c_2 := (iI_le (Int.le_trans (by decide) x0_a) (Int.le_trans x0_b (by decide)) (Int.le_trans (by decide) z1_a) (Int.le_trans z1_b (by decide))).mp c_2
        refine lv_iconst (v := iI (-1)) hx hb dX9_placeOf_34 (by decide +kernel) ?_
        exact ret _ (-1) _ _ _ _ _ [0] dX9_placeOf_35 ⟨rfl, (show (-1) ≤ (-1) from by decide), (show ((-1) : Int) ≤ 8 from by decide), (show 0 ≤ ((x0 - (-1)) - 1) from by omega)⟩ w (by decide) rfl
      · replace c_2 : z1 < x0 := Int.not_le.mp (fun h => c_2 ((iI_le (Int.le_trans (by decide) x0_a) (Int.le_trans x0_b (by decide)) (Int.le_trans (by decide) z1_a) (Int.le_trans z1_b (by decide))).mpr h))
        refine lv_iload hx hb dX9_placeOf_9 (lv_at hl 0 rfl) ?_
        refine lv_aload_n hx hb dX9_placeOf_11 rfl (lv_at hl 1 rfl) ?_
        refine r_alen (v := iI 9) M w 0 1 rfl rfl (show Int32.ofNat 9 = iI 9 from by decide +kernel) dX9_placeOf_12 ?_
        refine lv_icmp_ge (tgt := 34) hx hb dX9_placeOf_13 (by decide) (fun c_3 => ?_) (fun c_3 => ?_)
        · replace c_3 := (iI_le (by decide) (by decide) (Int.le_trans (by decide) z1_a) (Int.le_trans z1_b (by decide))).mp c_3
          exfalso; omega
        · replace c_3 : z1 < 9 := Int.not_le.mp (fun h => c_3 ((iI_le (by decide) (by decide) (Int.le_trans (by decide) z1_a) (Int.le_trans z1_b (by decide))).mpr h))
          refine lv_aload_n hx hb dX9_placeOf_16 rfl (lv_at hl 1 rfl) ?_
          refine lv_iload hx hb dX9_placeOf_17 (lv_at hl 0 rfl) ?_
          refine r_lald (v := _) M w 0 rfl (iI_in (by omega) (by omega) (by decide)) rfl dX9_placeOf_19 ?_
          refine b_anyl (fun fy4 => ?_)
          refine lv_lload_n hx hb dX9_placeOf_20 rfl (lv_at hl 3 rfl) ?_
          refine r_lcmp (v := _) M rfl dX9_placeOf_21 ?_
          refine b_any (fun z5 z5_a z5_b => ?_)
          refine lv_if_ne (tgt := 28) hx hb dX9_placeOf_22 (by decide) (fun c_6 => ?_) (fun c_6 => ?_)
          · replace c_6 : ¬ z5 = 0 := fun h => c_6 ((iz_eq (Int.le_trans (by decide) z5_a) (Int.le_trans z5_b (by decide))).mpr h)
            refine lv_iinc (v := iI (z1 + 1)) (lv' := [(4, .int (iI (z1 + 1))), (0, .ref a0), (1, .int (iI x0)), (2, .long y0)]) hx hb dX9_placeOf_28 hl (k := 0) rfl (ii_inc (by decide +kernel)) (by decide) rfl (fun ls hl => ?_)
            refine lv_goto (tgt := 3) hx hb dX9_placeOf_31 (by decide) ?_
            exact ih1 (z1 + 1) _ _ _ (by omega) (by omega) (by omega) w (lv_sub hl [0, 1, 2, 3] rfl)
          · replace c_6 := (iz_eq (Int.le_trans (by decide) z5_a) (Int.le_trans z5_b (by decide))).mp c_6
            refine lv_iload hx hb dX9_placeOf_25 (lv_at hl 0 rfl) ?_
            exact ret _ z1 _ _ _ _ _ [0] dX9_placeOf_27 ⟨rfl, (show (-1) ≤ z1 from by omega), (show z1 ≤ 8 from by omega), (show 0 ≤ ((x0 - z1) - 1) from by omega)⟩ w (by decide) rfl
  exact loop1 (((x0 - 0) : Int).toNat + 1) 0 _ _ _ (by decide) (by decide) (Nat.lt_succ_self _) w (lv_sub hl [0, 1, 2, 3] rfl)
set_option maxRecDepth 100000 in
set_option maxHeartbeats 4000000 in
theorem c255_X9_nameAt (l : Launch) (D : va_G) (T : Nat → ClassId) (sz : Nat) (a0 : Nat) (a1 : Nat) (a2 : Nat) (x0 : Int) (a3 : Nat) (x1 : Int) (r0 : Int32) (x2 : Int) (r1 : Int32) (r2 : Int32) (o0 : Option Nat) (y0 : Int64) (r3 : Int32) (r4 : Int32) (r5 : Int32) (r6 : Int32) (h0 : Nat → Int64) (x0_a : 0 ≤ x0) (x0_b : x0 ≤ 9) (x1_a : 0 ≤ x1) (x1_b : x1 ≤ 940) (x2_a : 0 ≤ x2) (x2_b : x2 ≤ 940) (o0_h : wok T o0) : Met l yX9_nameAt (Cond.code yX9_nameAt cX9_nameAt 5 (some .int) :: GW) (Rm 1 0 0) (cPre [.ref a0, .ref a1, .ref a2, .int (iI x0)] D T [(a1, .inr (8, [.ref a3, .int (iI x1), .int r0, .int (iI x2), .int r1, .int r2, (va_rf o0), .long y0, .int r3, .int r4, .int r5, .int r6])), (a2, .inl (T 1, 9, .inr (.inl h0)))] sz) (qI D [(a1, .inr (8, [.ref a3, .int (iI x1), .int r0, .int (iI x2), .int r1, .int r2, (va_rf o0), .long y0, .int r3, .int r4, .int r5, .int r6])), (a2, .inl (T 1, 9, .inr (.inl h0)))] sz (fun (v : Int32) (u : Int × Int32 × Int32) => iI u.1 = v ∧ (-1) ≤ u.1 ∧ u.1 ≤ 8 ∧ 0 ≤ ((x0 - u.1) - 1)) (fun u => [(a1, .inr (8, [.ref a3, .int (iI x1), .int r0, .int (iI x2), .int r1, .int r2, (va_rf o0), .long y0, .int r3, .int r4, .int u.2.1, .int u.2.2])), (a2, .inl (T 1, 9, .inr (.inl h0)))])) 0 0 (va_A [(a1, .inr (8, [.ref a3, .int (iI x1), .int r0, .int (iI x2), .int r1, .int r2, (va_rf o0), .long y0, .int r3, .int r4, .int r5, .int r6])), (a2, .inl (T 1, 9, .inr (.inl h0)))] sz) := by
  refine e_I (by decide) (Nat.le_of_ble_eq_true rfl) ?_
  intro p e s m args below meth c A Q ls M hin w ret hl
  have hx := M.1.1
  have hb := M.1.2.1
  have hl : lv_has ls 5 [(0, .ref a0), (1, .ref a1), (2, .ref a2), (3, .int (iI x0))] := hl
  refine lv_aload_n hx hb dX9_nameAt_0 rfl (lv_at hl 1 rfl) ?_
  refine r_getN (v := .int r2) M w 0 5 clX8 rfl (by decide) N169 rfl rfl dX9_nameAt_1 ?_
  refine b_any (fun z1 z1_a z1_b => ?_)
  refine lv_iconst (v := iI 3) hx hb dX9_nameAt_4 (by decide +kernel) ?_
  refine lv_icmp_eq (tgt := 16) hx hb dX9_nameAt_5 (by decide) (fun c_2 => ?_) (fun c_2 => ?_)
  · replace c_2 := (iI_eq (Int.le_trans (by decide) z1_a) (Int.le_trans z1_b (by decide)) (by decide) (by decide)).mp c_2
    refine lv_aload_n hx hb dX9_nameAt_16 rfl (lv_at hl 2 rfl) ?_
    refine lv_iload_n hx hb dX9_nameAt_17 rfl (lv_at hl 3 rfl) ?_
    refine lv_aload_n hx hb dX9_nameAt_18 rfl (lv_at hl 1 rfl) ?_
    refine r_getN (v := .long y0) M w 0 7 clX8 rfl (by decide) N175 rfl rfl dX9_nameAt_19 ?_
    refine k_I (ce := 0) (sl := 0) (rest := []) (wr := [(a1, .inr (8, [.ref a3, .int (iI x1), .int r0, .int (iI x2), .int r1, .int r2, (va_rf o0), .long y0, .int r3, .int r4, .int r5, .int r6]))]) (r_S (f := 0) [1] M w V_HookedCity_Town_182 G719 (c254_X9_placeOf l D T _ a2 x0 y0 h0 x0_a x0_b) rfl (by decide) rfl hl.1 rfl (Nat.le_of_ble_eq_true rfl) dX9_nameAt_22 (by decide) (by decide) (by decide) (by decide)) w [1] [0] rfl rfl (by decide) (by decide) rfl rfl (fun v z3 H locs hp w => ?_)
    have hv : iI z3 = v := hp.1
    subst hv
    have z3_a : (-1) ≤ z3 := hp.2.1
    have z3_b : z3 ≤ 8 := hp.2.2.1
    have ee4 : 0 ≤ ((x0 - z3) - 1) := hp.2.2.2
    have w : WD D A s.heap [(a1, .inr (8, [.ref a3, .int (iI x1), .int r0, .int (iI x2), .int r1, .int r2, (va_rf o0), .long y0, .int r3, .int r4, .int r5, .int r6])), (a2, .inl (T 1, 9, .inr (.inl h0)))] H locs := w
    refine lv_istore (lv' := [(4, .int (iI z3)), (0, .ref a0), (1, .ref a1), (2, .ref a2), (3, .int (iI x0))]) hx hb dX9_nameAt_25 hl (by decide) rfl (fun ls hl => ?_)
    refine lv_iload hx hb dX9_nameAt_27 (lv_at hl 0 rfl) ?_
    refine lv_iconst (v := iI (-1)) hx hb dX9_nameAt_29 (by decide +kernel) ?_
    refine lv_icmp_ne (tgt := 39) hx hb dX9_nameAt_30 (by decide) (fun c_5 => ?_) (fun c_5 => ?_)
    · replace c_5 : ¬ z3 = (-1) := fun h => c_5 ((iI_eq (Int.le_trans (by decide) z3_a) (Int.le_trans z3_b (by decide)) (by decide) (by decide)).mpr h)
      refine lv_iload hx hb dX9_nameAt_39 (lv_at hl 0 rfl) ?_
      exact ret _ (z3, r5, r6) _ _ _ _ _ [0, 1] dX9_nameAt_41 ⟨rfl, z3_a, z3_b, (show 0 ≤ ((x0 - z3) - 1) from by omega)⟩ w (by decide) rfl
    · replace c_5 := (iI_eq (Int.le_trans (by decide) z3_a) (Int.le_trans z3_b (by decide)) (by decide) (by decide)).mp c_5
      refine lv_aload_n hx hb dX9_nameAt_33 rfl (lv_at hl 2 rfl) ?_
      refine lv_iconst (v := iI 3) hx hb dX9_nameAt_34 (by decide +kernel) ?_
      refine k_I (ce := 0) (sl := 0) (rest := []) (wr := [(a2, .inl (T 1, 9, .inr (.inl h0)))]) (r_V (f := 0) [0] M w V_HookedCity_Town_150 G710 G711 (c243_X8_fail l D T _ a1 3 a3 x1 r0 x2 r1 r2 o0 y0 r3 r4 r5 r6 (by decide) (by decide) x1_a x1_b x2_a x2_b o0_h) 0 clX8 rfl rfl (by decide) rfl hl.1 rfl (Nat.le_of_ble_eq_true rfl) dX9_nameAt_35 (by decide) (by decide) (by decide) (by decide)) w [0] [1] rfl rfl (by decide) (by decide) rfl rfl (fun v u H locs hp w => ?_)
      obtain ⟨z6, fr7, fr8⟩ := u
      have hv : iI z6 = v := hp.1
      subst hv
      have z6_a : 0 ≤ z6 := hp.2.1
      have z6_b : z6 ≤ 1 := hp.2.2.1
      have w : WD D A s.heap [(a2, .inl (T 1, 9, .inr (.inl h0))), (a1, .inr (8, [.ref a3, .int (iI x1), .int r0, .int (iI x2), .int r1, .int r2, (va_rf o0), .long y0, .int r3, .int r4, .int fr7, .int fr8]))] H locs := w
      rcases hp.2.2.2 with hr
      · subst hr
        refine lv_pop hx hb dX9_nameAt_38 rfl ?_
        refine lv_iload hx hb dX9_nameAt_39 (lv_at hl 0 rfl) ?_
        exact ret _ (z3, fr7, fr8) _ _ _ _ _ [1, 0] dX9_nameAt_41 ⟨rfl, z3_a, z3_b, (show 0 ≤ ((x0 - z3) - 1) from by omega)⟩ w (by decide) rfl
  · replace c_2 : ¬ z1 = 3 := fun h => c_2 ((iI_eq (Int.le_trans (by decide) z1_a) (Int.le_trans z1_b (by decide)) (by decide) (by decide)).mpr h)
    refine lv_aload_n hx hb dX9_nameAt_8 rfl (lv_at hl 1 rfl) ?_
    refine lv_iconst (v := iI 1) hx hb dX9_nameAt_9 (by decide +kernel) ?_
    refine k_I (ce := 0) (sl := 0) (rest := []) (wr := [(a2, .inl (T 1, 9, .inr (.inl h0)))]) (r_V (f := 0) [0] M w V_HookedCity_Town_150 G710 G711 (c243_X8_fail l D T _ a1 1 a3 x1 r0 x2 r1 r2 o0 y0 r3 r4 r5 r6 (by decide) (by decide) x1_a x1_b x2_a x2_b o0_h) 0 clX8 rfl rfl (by decide) rfl hl.1 rfl (Nat.le_of_ble_eq_true rfl) dX9_nameAt_10 (by decide) (by decide) (by decide) (by decide)) w [0] [1] rfl rfl (by decide) (by decide) rfl rfl (fun v u H locs hp w => ?_)
    obtain ⟨z9, fr10, fr11⟩ := u
    have hv : iI z9 = v := hp.1
    subst hv
    have z9_a : 0 ≤ z9 := hp.2.1
    have z9_b : z9 ≤ 1 := hp.2.2.1
    have w : WD D A s.heap [(a2, .inl (T 1, 9, .inr (.inl h0))), (a1, .inr (8, [.ref a3, .int (iI x1), .int r0, .int (iI x2), .int r1, .int r2, (va_rf o0), .long y0, .int r3, .int r4, .int fr10, .int fr11]))] H locs := w
    rcases hp.2.2.2 with hr
    · subst hr
      refine lv_pop hx hb dX9_nameAt_13 rfl ?_
      refine lv_iconst (v := iI (-1)) hx hb dX9_nameAt_14 (by decide +kernel) ?_
      exact ret _ ((-1), fr10, fr11) _ _ _ _ _ [1, 0] dX9_nameAt_15 ⟨rfl, (show (-1) ≤ (-1) from by decide), (show ((-1) : Int) ≤ 8 from by decide), (show 0 ≤ ((x0 - (-1)) - 1) from by omega)⟩ w (by decide) rfl
set_option maxRecDepth 100000 in
set_option maxHeartbeats 4000000 in
theorem c256_X9_personAt (l : Launch) (D : va_G) (T : Nat → ClassId) (sz : Nat) (a0 : Nat) (a1 : Nat) (a2 : Nat) (a3 : Nat) (a4 : Nat) (a5 : Nat) (a6 : Nat) (a7 : Nat) (a8 : Nat) (a9 : Nat) (a10 : Nat) (x0 : Int) (x1 : Int) (x2 : Int) (r0 : Int32) (x3 : Int) (r1 : Int32) (r2 : Int32) (r3 : Int32) (r4 : Int32) (a11 : Nat) (x4 : Int) (r5 : Int32) (x5 : Int) (r6 : Int32) (r7 : Int32) (o0 : Option Nat) (y0 : Int64) (r8 : Int32) (r9 : Int32) (r10 : Int32) (r11 : Int32) (h0 : Nat → Int64) (x0_a : 0 ≤ x0) (x0_b : x0 ≤ 9) (x1_a : 0 ≤ x1) (x1_b : x1 ≤ 3) (x2_a : (-2147483648) ≤ x2) (x2_b : x2 ≤ 2147483647) (x3_a : (-2147483648) ≤ x3) (x3_b : x3 ≤ 2147483647) (x4_a : 0 ≤ x4) (x4_b : x4 ≤ 940) (x5_a : 0 ≤ x5) (x5_b : x5 ≤ 940) (o0_h : wok T o0) : Met l yX9_personAt (Cond.code yX9_personAt cX9_personAt 2 (some .int) :: GW) (Rm 2 0 0) (cPre [.ref a0, .ref a1] D T [(a0, .inr (9, [.ref a2, .ref a3, .ref a4, .ref a5, .ref a6, .ref a7, .ref a8, .ref a9, .ref a10, .int (iI x0), .int (iI x1), .int (iI x2), .int r0, .int (iI x3), .int r1, .int r2, .int r3, .int r4])), (a1, .inr (8, [.ref a11, .int (iI x4), .int r5, .int (iI x5), .int r6, .int r7, (va_rf o0), .long y0, .int r8, .int r9, .int r10, .int r11])), (a2, .inl (T 1, 9, .inr (.inl h0)))] sz) (qI D [(a0, .inr (9, [.ref a2, .ref a3, .ref a4, .ref a5, .ref a6, .ref a7, .ref a8, .ref a9, .ref a10, .int (iI x0), .int (iI x1), .int (iI x2), .int r0, .int (iI x3), .int r1, .int r2, .int r3, .int r4])), (a1, .inr (8, [.ref a11, .int (iI x4), .int r5, .int (iI x5), .int r6, .int r7, (va_rf o0), .long y0, .int r8, .int r9, .int r10, .int r11])), (a2, .inl (T 1, 9, .inr (.inl h0)))] sz (fun (v : Int32) (u : Int × Int32 × Int32) => iI u.1 = v ∧ (-1) ≤ u.1 ∧ u.1 ≤ 8) (fun u => [(a0, .inr (9, [.ref a2, .ref a3, .ref a4, .ref a5, .ref a6, .ref a7, .ref a8, .ref a9, .ref a10, .int (iI x0), .int (iI x1), .int (iI x2), .int r0, .int (iI x3), .int r1, .int r2, .int r3, .int r4])), (a1, .inr (8, [.ref a11, .int (iI x4), .int r5, .int (iI x5), .int r6, .int r7, (va_rf o0), .long y0, .int r8, .int r9, .int u.2.1, .int u.2.2])), (a2, .inl (T 1, 9, .inr (.inl h0)))])) 0 0 (va_A [(a0, .inr (9, [.ref a2, .ref a3, .ref a4, .ref a5, .ref a6, .ref a7, .ref a8, .ref a9, .ref a10, .int (iI x0), .int (iI x1), .int (iI x2), .int r0, .int (iI x3), .int r1, .int r2, .int r3, .int r4])), (a1, .inr (8, [.ref a11, .int (iI x4), .int r5, .int (iI x5), .int r6, .int r7, (va_rf o0), .long y0, .int r8, .int r9, .int r10, .int r11])), (a2, .inl (T 1, 9, .inr (.inl h0)))] sz) := by
  refine e_I (by decide) (Nat.le_of_ble_eq_true rfl) ?_
  intro p e s m args below meth c A Q ls M hin w ret hl
  have hx := M.1.1
  have hb := M.1.2.1
  have hl : lv_has ls 2 [(0, .ref a0), (1, .ref a1)] := hl
  refine lv_aload_n hx hb dX9_personAt_0 rfl (lv_at hl 0 rfl) ?_
  refine lv_aload_n hx hb dX9_personAt_1 rfl (lv_at hl 1 rfl) ?_
  refine lv_aload_n hx hb dX9_personAt_2 rfl (lv_at hl 0 rfl) ?_
  refine r_get (v := .ref a2) M w 0 0 clX9 rfl (by decide) G366 rfl rfl dX9_personAt_3 ?_
  refine lv_aload_n hx hb dX9_personAt_6 rfl (lv_at hl 0 rfl) ?_
  refine r_get (v := .int (iI x0)) M w 0 9 clX9 rfl (by decide) G387 rfl rfl dX9_personAt_7 ?_
  refine k_I (ce := 0) (sl := 0) (rest := []) (wr := [(a0, .inr (9, [.ref a2, .ref a3, .ref a4, .ref a5, .ref a6, .ref a7, .ref a8, .ref a9, .ref a10, .int (iI x0), .int (iI x1), .int (iI x2), .int r0, .int (iI x3), .int r1, .int r2, .int r3, .int r4]))]) (r_V (f := 1) [1, 2] M w V_HookedCity_Town_189 G748 G9 (c255_X9_nameAt l D T _ a0 a1 a2 x0 a11 x4 r5 x5 r6 r7 o0 y0 r8 r9 r10 r11 h0 x0_a x0_b x4_a x4_b x5_a x5_b o0_h) 0 clX9 rfl rfl (by decide) rfl hl.1 rfl (Nat.le_of_ble_eq_true rfl) dX9_personAt_10 (by decide) (by decide) (by decide) (by decide)) w [1, 2] [0] rfl rfl (by decide) (by decide) rfl rfl (fun v u H locs hp w => ?_)
  obtain ⟨z1, fr2, fr3⟩ := u
  have hv : iI z1 = v := hp.1
  subst hv
  have z1_a : (-1) ≤ z1 := hp.2.1
  have z1_b : z1 ≤ 8 := hp.2.2.1
  have ee4 : 0 ≤ ((x0 - z1) - 1) := hp.2.2.2
  have w : WD D A s.heap [(a0, .inr (9, [.ref a2, .ref a3, .ref a4, .ref a5, .ref a6, .ref a7, .ref a8, .ref a9, .ref a10, .int (iI x0), .int (iI x1), .int (iI x2), .int r0, .int (iI x3), .int r1, .int r2, .int r3, .int r4])), (a1, .inr (8, [.ref a11, .int (iI x4), .int r5, .int (iI x5), .int r6, .int r7, (va_rf o0), .long y0, .int r8, .int r9, .int fr2, .int fr3])), (a2, .inl (T 1, 9, .inr (.inl h0)))] H locs := w
  exact ret _ (z1, fr2, fr3) _ _ _ _ _ [0, 1, 2] dX9_personAt_13 ⟨rfl, z1_a, z1_b⟩ w (by decide) rfl
set_option maxRecDepth 100000 in
set_option maxHeartbeats 4000000 in
theorem c257_X9_readDone (l : Launch) (D : va_G) (T : Nat → ClassId) (sz : Nat) (a0 : Nat) (a1 : Nat) (a2 : Nat) (a3 : Nat) (a4 : Nat) (a5 : Nat) (a6 : Nat) (a7 : Nat) (a8 : Nat) (a9 : Nat) (a10 : Nat) (x0 : Int) (x1 : Int) (x2 : Int) (r0 : Int32) (x3 : Int) (r1 : Int32) (r2 : Int32) (r3 : Int32) (r4 : Int32) (a11 : Nat) (x4 : Int) (r5 : Int32) (x5 : Int) (r6 : Int32) (r7 : Int32) (o0 : Option Nat) (y0 : Int64) (r8 : Int32) (r9 : Int32) (r10 : Int32) (r11 : Int32) (h0 : Nat → Int64) (f0 : Nat → Int32) (f1 : Nat → Int32) (f2 : Int → Int) (f3 : Int → Int) (f4 : Nat → Int32) (x0_a : 0 ≤ x0) (x0_b : x0 ≤ 9) (x1_a : 0 ≤ x1) (x1_b : x1 ≤ 3) (x2_a : (-2147483648) ≤ x2) (x2_b : x2 ≤ 2147483647) (x3_a : (-2147483648) ≤ x3) (x3_b : x3 ≤ 2147483647) (x4_a : 0 ≤ x4) (x4_b : x4 ≤ 940) (x5_a : 0 ≤ x5) (x5_b : x5 ≤ 940) (o0_h : wok T o0) (f2_h : rng (-1) 8 f2) (f3_h : rng (-1) 8 f3) : Met l yX9_readDone (Cond.code yX9_readDone cX9_readDone 4 (some .boolean) :: GW) (Rm 5 0 0) (cPre [.ref a0, .ref a1] D T [(a0, .inr (9, [.ref a2, .ref a3, .ref a4, .ref a5, .ref a6, .ref a7, .ref a8, .ref a9, .ref a10, .int (iI x0), .int (iI x1), .int (iI x2), .int r0, .int (iI x3), .int r1, .int r2, .int r3, .int r4])), (a1, .inr (8, [.ref a11, .int (iI x4), .int r5, .int (iI x5), .int r6, .int r7, (va_rf o0), .long y0, .int r8, .int r9, .int r10, .int r11])), (a2, .inl (T 1, 9, .inr (.inl h0))), (a3, .inl (T 0, 9, .inl f0)), (a4, .inl (T 0, 9, .inl f1)), (a7, .inl (T 0, 9, .inl (cI f2))), (a8, .inl (T 0, 9, .inl (cI f3))), (a11, .inl (T 0, 940, .inl f4))] sz) (qI D [(a0, .inr (9, [.ref a2, .ref a3, .ref a4, .ref a5, .ref a6, .ref a7, .ref a8, .ref a9, .ref a10, .int (iI x0), .int (iI x1), .int (iI x2), .int r0, .int (iI x3), .int r1, .int r2, .int r3, .int r4])), (a1, .inr (8, [.ref a11, .int (iI x4), .int r5, .int (iI x5), .int r6, .int r7, (va_rf o0), .long y0, .int r8, .int r9, .int r10, .int r11])), (a2, .inl (T 1, 9, .inr (.inl h0))), (a3, .inl (T 0, 9, .inl f0)), (a4, .inl (T 0, 9, .inl f1)), (a7, .inl (T 0, 9, .inl (cI f2))), (a8, .inl (T 0, 9, .inl (cI f3))), (a11, .inl (T 0, 940, .inl f4))] sz (fun (v : Int32) (u : Int × Int × Int32 × Int32 × Option Nat × Int64 × Int32 × Int32 × Int32 × Int32 × (Int → Int) × (Int → Int)) => iI u.1 = v ∧ 0 ≤ u.1 ∧ u.1 ≤ 1 ∧ 0 ≤ u.2.1 ∧ u.2.1 ≤ 940 ∧ wok T u.2.2.2.2.1 ∧ rng (-1) 8 u.2.2.2.2.2.2.2.2.2.2.1 ∧ rng (-1) 8 u.2.2.2.2.2.2.2.2.2.2.2) (fun u => [(a0, .inr (9, [.ref a2, .ref a3, .ref a4, .ref a5, .ref a6, .ref a7, .ref a8, .ref a9, .ref a10, .int (iI x0), .int (iI x1), .int (iI x2), .int r0, .int (iI x3), .int r1, .int r2, .int r3, .int r4])), (a1, .inr (8, [.ref a11, .int (iI x4), .int r5, .int (iI u.2.1), .int u.2.2.1, .int u.2.2.2.1, (va_rf u.2.2.2.2.1), .long u.2.2.2.2.2.1, .int u.2.2.2.2.2.2.1, .int u.2.2.2.2.2.2.2.1, .int u.2.2.2.2.2.2.2.2.1, .int u.2.2.2.2.2.2.2.2.2.1])), (a2, .inl (T 1, 9, .inr (.inl h0))), (a3, .inl (T 0, 9, .inl f0)), (a4, .inl (T 0, 9, .inl f1)), (a7, .inl (T 0, 9, .inl (cI u.2.2.2.2.2.2.2.2.2.2.1))), (a8, .inl (T 0, 9, .inl (cI u.2.2.2.2.2.2.2.2.2.2.2))), (a11, .inl (T 0, 940, .inl f4))])) 0 0 (va_A [(a0, .inr (9, [.ref a2, .ref a3, .ref a4, .ref a5, .ref a6, .ref a7, .ref a8, .ref a9, .ref a10, .int (iI x0), .int (iI x1), .int (iI x2), .int r0, .int (iI x3), .int r1, .int r2, .int r3, .int r4])), (a1, .inr (8, [.ref a11, .int (iI x4), .int r5, .int (iI x5), .int r6, .int r7, (va_rf o0), .long y0, .int r8, .int r9, .int r10, .int r11])), (a2, .inl (T 1, 9, .inr (.inl h0))), (a3, .inl (T 0, 9, .inl f0)), (a4, .inl (T 0, 9, .inl f1)), (a7, .inl (T 0, 9, .inl (cI f2))), (a8, .inl (T 0, 9, .inl (cI f3))), (a11, .inl (T 0, 940, .inl f4))] sz) := by
  refine e_Z (by decide) (Nat.le_of_ble_eq_true rfl) ?_
  intro p e s m args below meth c A Q ls M hin w ret hl
  have hx := M.1.1
  have hb := M.1.2.1
  have hl : lv_has ls 4 [(0, .ref a0), (1, .ref a1)] := hl
  refine lv_aload_n hx hb dX9_readDone_0 rfl (lv_at hl 1 rfl) ?_
  refine k_V (ce := 0) (sl := 0) (rest := []) (wr := [(a0, .inr (9, [.ref a2, .ref a3, .ref a4, .ref a5, .ref a6, .ref a7, .ref a8, .ref a9, .ref a10, .int (iI x0), .int (iI x1), .int (iI x2), .int r0, .int (iI x3), .int r1, .int r2, .int r3, .int r4])), (a2, .inl (T 1, 9, .inr (.inl h0))), (a3, .inl (T 0, 9, .inl f0)), (a4, .inl (T 0, 9, .inl f1)), (a7, .inl (T 0, 9, .inl (cI f2))), (a8, .inl (T 0, 9, .inl (cI f3)))]) (r_V (f := 4) [1, 7] M w V_HookedCity_Town_154 G587 G588 (c238_X8_step l D T _ a1 a11 x4 r5 x5 r6 r7 o0 y0 r8 r9 r10 r11 f4 x4_a x4_b x5_a x5_b o0_h) 1 clX8 rfl rfl (by decide) rfl hl.1 rfl (Nat.le_of_ble_eq_true rfl) dX9_readDone_1 (by decide) (by decide) (by decide) (by decide)) w [1, 7] [0, 2, 3, 4, 5, 6] rfl rfl (by decide) (by decide) rfl rfl (fun u H locs hp w => ?_)
  obtain ⟨z1, fr2, fr3, fo4, fy5, fr6, fr7⟩ := u
  have z1_a : 0 ≤ z1 := hp.1
  have z1_b : z1 ≤ 940 := hp.2.1
  have fo4_h : wok T fo4 := hp.2.2
  have w : WD D A s.heap [(a0, .inr (9, [.ref a2, .ref a3, .ref a4, .ref a5, .ref a6, .ref a7, .ref a8, .ref a9, .ref a10, .int (iI x0), .int (iI x1), .int (iI x2), .int r0, .int (iI x3), .int r1, .int r2, .int r3, .int r4])), (a2, .inl (T 1, 9, .inr (.inl h0))), (a3, .inl (T 0, 9, .inl f0)), (a4, .inl (T 0, 9, .inl f1)), (a7, .inl (T 0, 9, .inl (cI f2))), (a8, .inl (T 0, 9, .inl (cI f3))), (a1, .inr (8, [.ref a11, .int (iI x4), .int r5, .int (iI z1), .int fr2, .int fr3, (va_rf fo4), .long fy5, .int fr6, .int fr7, .int r10, .int r11])), (a11, .inl (T 0, 940, .inl f4))] H locs := w
  refine lv_aload_n hx hb dX9_readDone_4 rfl (lv_at hl 0 rfl) ?_
  refine lv_aload_n hx hb dX9_readDone_5 rfl (lv_at hl 1 rfl) ?_
  refine k_I (ce := 0) (sl := 0) (rest := []) (wr := [(a3, .inl (T 0, 9, .inl f0)), (a4, .inl (T 0, 9, .inl f1)), (a7, .inl (T 0, 9, .inl (cI f2))), (a8, .inl (T 0, 9, .inl (cI f3))), (a11, .inl (T 0, 940, .inl f4))]) (r_V (f := 2) [0, 6, 1] M w V_HookedCity_Town_172 G743 G744 (c256_X9_personAt l D T _ a0 a1 a2 a3 a4 a5 a6 a7 a8 a9 a10 x0 x1 x2 r0 x3 r1 r2 r3 r4 a11 x4 r5 z1 fr2 fr3 fo4 fy5 fr6 fr7 r10 r11 h0 x0_a x0_b x1_a x1_b x2_a x2_b x3_a x3_b x4_a x4_b z1_a z1_b fo4_h) 0 clX9 rfl rfl (by decide) rfl hl.1 rfl (Nat.le_of_ble_eq_true rfl) dX9_readDone_6 (by decide) (by decide) (by decide) (by decide)) w [0, 6, 1] [2, 3, 4, 5, 7] rfl rfl (by decide) (by decide) rfl rfl (fun v u H locs hp w => ?_)
  obtain ⟨z8, fr9, fr10⟩ := u
  have hv : iI z8 = v := hp.1
  subst hv
  have z8_a : (-1) ≤ z8 := hp.2.1
  have z8_b : z8 ≤ 8 := hp.2.2
  have w : WD D A s.heap [(a3, .inl (T 0, 9, .inl f0)), (a4, .inl (T 0, 9, .inl f1)), (a7, .inl (T 0, 9, .inl (cI f2))), (a8, .inl (T 0, 9, .inl (cI f3))), (a11, .inl (T 0, 940, .inl f4)), (a0, .inr (9, [.ref a2, .ref a3, .ref a4, .ref a5, .ref a6, .ref a7, .ref a8, .ref a9, .ref a10, .int (iI x0), .int (iI x1), .int (iI x2), .int r0, .int (iI x3), .int r1, .int r2, .int r3, .int r4])), (a1, .inr (8, [.ref a11, .int (iI x4), .int r5, .int (iI z1), .int fr2, .int fr3, (va_rf fo4), .long fy5, .int fr6, .int fr7, .int fr9, .int fr10])), (a2, .inl (T 1, 9, .inr (.inl h0)))] H locs := w
  refine lv_istore_n (lv' := [(2, .int (iI z8)), (0, .ref a0), (1, .ref a1)]) hx hb dX9_readDone_9 rfl hl (by decide) rfl (fun ls hl => ?_)
  refine lv_iload_n hx hb dX9_readDone_10 rfl (lv_at hl 0 rfl) ?_
  refine lv_iconst (v := iI (-1)) hx hb dX9_readDone_11 (by decide +kernel) ?_
  refine lv_icmp_ne (tgt := 17) hx hb dX9_readDone_12 (by decide) (fun c_11 => ?_) (fun c_11 => ?_)
  · replace c_11 : ¬ z8 = (-1) := fun h => c_11 ((iI_eq (Int.le_trans (by decide) z8_a) (Int.le_trans z8_b (by decide)) (by decide) (by decide)).mpr h)
    refine lv_aload_n hx hb dX9_readDone_17 rfl (lv_at hl 1 rfl) ?_
    refine r_get (v := .ref a7) M w 5 5 clX9 rfl (by decide) G379 rfl rfl dX9_readDone_18 ?_
    refine lv_iload_n hx hb dX9_readDone_21 rfl (lv_at hl 0 rfl) ?_
    refine r_iald (v := iI (f2 z8)) M w 2 rfl (iI_in (by omega) (by omega) (by decide)) (cI_at (by omega) (by omega)) dX9_readDone_22 ?_
    have hh12 : (-1) ≤ (f2 z8) ∧ (f2 z8) ≤ 8 := f2_h z8
    refine lv_iconst (v := iI (-1)) hx hb dX9_readDone_23 (by decide +kernel) ?_
    refine lv_icmp_eq (tgt := 33) hx hb dX9_readDone_24 (by decide) (fun c_13 => ?_) (fun c_13 => ?_)
    · replace c_13 := (iI_eq (by omega) (by omega) (by decide) (by decide)).mp c_13
      refine lv_aload_n hx hb dX9_readDone_33 rfl (lv_at hl 2 rfl) ?_
      refine k_V (ce := 0) (sl := 0) (rest := []) (wr := [(a3, .inl (T 0, 9, .inl f0)), (a4, .inl (T 0, 9, .inl f1)), (a7, .inl (T 0, 9, .inl (cI f2))), (a8, .inl (T 0, 9, .inl (cI f3))), (a0, .inr (9, [.ref a2, .ref a3, .ref a4, .ref a5, .ref a6, .ref a7, .ref a8, .ref a9, .ref a10, .int (iI x0), .int (iI x1), .int (iI x2), .int r0, .int (iI x3), .int r1, .int r2, .int r3, .int r4])), (a2, .inl (T 1, 9, .inr (.inl h0)))]) (r_V (f := 4) [6, 4] M w V_HookedCity_Town_154 G587 G588 (c238_X8_step l D T _ a1 a11 x4 r5 z1 fr2 fr3 fo4 fy5 fr6 fr7 fr9 fr10 f4 x4_a x4_b z1_a z1_b fo4_h) 6 clX8 rfl rfl (by decide) rfl hl.1 rfl (Nat.le_of_ble_eq_true rfl) dX9_readDone_34 (by decide) (by decide) (by decide) (by decide)) w [6, 4] [0, 1, 2, 3, 5, 7] rfl rfl (by decide) (by decide) rfl rfl (fun u H locs hp w => ?_)
      obtain ⟨z14, fr15, fr16, fo17, fy18, fr19, fr20⟩ := u
      have z14_a : 0 ≤ z14 := hp.1
      have z14_b : z14 ≤ 940 := hp.2.1
      have fo17_h : wok T fo17 := hp.2.2
      have w : WD D A s.heap [(a3, .inl (T 0, 9, .inl f0)), (a4, .inl (T 0, 9, .inl f1)), (a7, .inl (T 0, 9, .inl (cI f2))), (a8, .inl (T 0, 9, .inl (cI f3))), (a0, .inr (9, [.ref a2, .ref a3, .ref a4, .ref a5, .ref a6, .ref a7, .ref a8, .ref a9, .ref a10, .int (iI x0), .int (iI x1), .int (iI x2), .int r0, .int (iI x3), .int r1, .int r2, .int r3, .int r4])), (a2, .inl (T 1, 9, .inr (.inl h0))), (a1, .inr (8, [.ref a11, .int (iI x4), .int r5, .int (iI z14), .int fr15, .int fr16, (va_rf fo17), .long fy18, .int fr19, .int fr20, .int fr9, .int fr10])), (a11, .inl (T 0, 940, .inl f4))] H locs := w
      refine lv_aload_n hx hb dX9_readDone_37 rfl (lv_at hl 1 rfl) ?_
      refine lv_aload_n hx hb dX9_readDone_38 rfl (lv_at hl 2 rfl) ?_
      refine k_I (ce := 0) (sl := 0) (rest := []) (wr := [(a3, .inl (T 0, 9, .inl f0)), (a4, .inl (T 0, 9, .inl f1)), (a7, .inl (T 0, 9, .inl (cI f2))), (a8, .inl (T 0, 9, .inl (cI f3))), (a11, .inl (T 0, 940, .inl f4))]) (r_V (f := 2) [4, 6, 5] M w V_HookedCity_Town_172 G743 G744 (c256_X9_personAt l D T _ a0 a1 a2 a3 a4 a5 a6 a7 a8 a9 a10 x0 x1 x2 r0 x3 r1 r2 r3 r4 a11 x4 r5 z14 fr15 fr16 fo17 fy18 fr19 fr20 fr9 fr10 h0 x0_a x0_b x1_a x1_b x2_a x2_b x3_a x3_b x4_a x4_b z14_a z14_b fo17_h) 4 clX9 rfl rfl (by decide) rfl hl.1 rfl (Nat.le_of_ble_eq_true rfl) dX9_readDone_39 (by decide) (by decide) (by decide) (by decide)) w [4, 6, 5] [0, 1, 2, 3, 7] rfl rfl (by decide) (by decide) rfl rfl (fun v u H locs hp w => ?_)
      obtain ⟨z21, fr22, fr23⟩ := u
      have hv : iI z21 = v := hp.1
      subst hv
      have z21_a : (-1) ≤ z21 := hp.2.1
      have z21_b : z21 ≤ 8 := hp.2.2
      have w : WD D A s.heap [(a3, .inl (T 0, 9, .inl f0)), (a4, .inl (T 0, 9, .inl f1)), (a7, .inl (T 0, 9, .inl (cI f2))), (a8, .inl (T 0, 9, .inl (cI f3))), (a11, .inl (T 0, 940, .inl f4)), (a0, .inr (9, [.ref a2, .ref a3, .ref a4, .ref a5, .ref a6, .ref a7, .ref a8, .ref a9, .ref a10, .int (iI x0), .int (iI x1), .int (iI x2), .int r0, .int (iI x3), .int r1, .int r2, .int r3, .int r4])), (a1, .inr (8, [.ref a11, .int (iI x4), .int r5, .int (iI z14), .int fr15, .int fr16, (va_rf fo17), .long fy18, .int fr19, .int fr20, .int fr22, .int fr23])), (a2, .inl (T 1, 9, .inr (.inl h0)))] H locs := w
      refine lv_istore_n (lv' := [(3, .int (iI z21)), (2, .int (iI z8)), (0, .ref a0), (1, .ref a1)]) hx hb dX9_readDone_42 rfl hl (by decide) rfl (fun ls hl => ?_)
      refine lv_iload_n hx hb dX9_readDone_43 rfl (lv_at hl 0 rfl) ?_
      refine lv_iconst (v := iI (-1)) hx hb dX9_readDone_44 (by decide +kernel) ?_
      refine lv_icmp_ne (tgt := 50) hx hb dX9_readDone_45 (by decide) (fun c_24 => ?_) (fun c_24 => ?_)
      · replace c_24 : ¬ z21 = (-1) := fun h => c_24 ((iI_eq (Int.le_trans (by decide) z21_a) (Int.le_trans z21_b (by decide)) (by decide) (by decide)).mpr h)
        refine lv_iload_n hx hb dX9_readDone_50 rfl (lv_at hl 1 rfl) ?_
        refine lv_iload_n hx hb dX9_readDone_51 rfl (lv_at hl 0 rfl) ?_
        refine lv_icmp_eq (tgt := 80) hx hb dX9_readDone_52 (by decide) (fun c_25 => ?_) (fun c_25 => ?_)
        · replace c_25 := (iI_eq (Int.le_trans (by decide) z8_a) (Int.le_trans z8_b (by decide)) (Int.le_trans (by decide) z21_a) (Int.le_trans z21_b (by decide))).mp c_25
          refine lv_aload_n hx hb dX9_readDone_80 rfl (lv_at hl 3 rfl) ?_
          refine lv_iconst (v := iI 3) hx hb dX9_readDone_81 (by decide +kernel) ?_
          refine k_I (ce := 0) (sl := 0) (rest := []) (wr := [(a3, .inl (T 0, 9, .inl f0)), (a4, .inl (T 0, 9, .inl f1)), (a7, .inl (T 0, 9, .inl (cI f2))), (a8, .inl (T 0, 9, .inl (cI f3))), (a11, .inl (T 0, 940, .inl f4)), (a0, .inr (9, [.ref a2, .ref a3, .ref a4, .ref a5, .ref a6, .ref a7, .ref a8, .ref a9, .ref a10, .int (iI x0), .int (iI x1), .int (iI x2), .int r0, .int (iI x3), .int r1, .int r2, .int r3, .int r4])), (a2, .inl (T 1, 9, .inr (.inl h0)))]) (r_V (f := 0) [6] M w V_HookedCity_Town_150 G710 G711 (c243_X8_fail l D T _ a1 3 a11 x4 r5 z14 fr15 fr16 fo17 fy18 fr19 fr20 fr22 fr23 (by decide) (by decide) x4_a x4_b z14_a z14_b fo17_h) 6 clX8 rfl rfl (by decide) rfl hl.1 rfl (Nat.le_of_ble_eq_true rfl) dX9_readDone_82 (by decide) (by decide) (by decide) (by decide)) w [6] [0, 1, 2, 3, 4, 5, 7] rfl rfl (by decide) (by decide) rfl rfl (fun v u H locs hp w => ?_)
          obtain ⟨z26, fr27, fr28⟩ := u
          have hv : iI z26 = v := hp.1
          subst hv
          have z26_a : 0 ≤ z26 := hp.2.1
          have z26_b : z26 ≤ 1 := hp.2.2.1
          have w : WD D A s.heap [(a3, .inl (T 0, 9, .inl f0)), (a4, .inl (T 0, 9, .inl f1)), (a7, .inl (T 0, 9, .inl (cI f2))), (a8, .inl (T 0, 9, .inl (cI f3))), (a11, .inl (T 0, 940, .inl f4)), (a0, .inr (9, [.ref a2, .ref a3, .ref a4, .ref a5, .ref a6, .ref a7, .ref a8, .ref a9, .ref a10, .int (iI x0), .int (iI x1), .int (iI x2), .int r0, .int (iI x3), .int r1, .int r2, .int r3, .int r4])), (a2, .inl (T 1, 9, .inr (.inl h0))), (a1, .inr (8, [.ref a11, .int (iI x4), .int r5, .int (iI z14), .int fr15, .int fr16, (va_rf fo17), .long fy18, .int fr19, .int fr20, .int fr27, .int fr28]))] H locs := w
          rcases hp.2.2.2 with hr
          · subst hr
            exact ret _ (0, z14, fr15, fr16, fo17, fy18, fr19, fr20, fr27, fr28, f2, f3) _ _ _ _ _ [5, 7, 6, 0, 1, 2, 3, 4] dX9_readDone_85 (by decide +kernel) ⟨rfl, (show (0 : Int) ≤ 0 from by decide), (show (0 : Int) ≤ 1 from by decide), z14_a, z14_b, fo17_h, f2_h, f3_h⟩ w (by decide) rfl
        · replace c_25 : ¬ z8 = z21 := fun h => c_25 ((iI_eq (Int.le_trans (by decide) z8_a) (Int.le_trans z8_b (by decide)) (Int.le_trans (by decide) z21_a) (Int.le_trans z21_b (by decide))).mpr h)
          refine lv_aload_n hx hb dX9_readDone_55 rfl (lv_at hl 2 rfl) ?_
          refine r_get (v := .ref a4) M w 5 2 clX9 rfl (by decide) G370 rfl rfl dX9_readDone_56 ?_
          refine lv_iload_n hx hb dX9_readDone_59 rfl (lv_at hl 1 rfl) ?_
          refine r_iald (v := _) M w 1 rfl (iI_in (by omega) (by omega) (by decide)) rfl dX9_readDone_60 ?_
          refine b_any (fun z29 z29_a z29_b => ?_)
          refine lv_aload_n hx hb dX9_readDone_61 rfl (lv_at hl 2 rfl) ?_
          refine r_get (v := .ref a3) M w 5 1 clX9 rfl (by decide) G368 rfl rfl dX9_readDone_62 ?_
          refine lv_iload_n hx hb dX9_readDone_65 rfl (lv_at hl 0 rfl) ?_
          refine r_iald (v := _) M w 0 rfl (iI_in (by omega) (by omega) (by decide)) rfl dX9_readDone_66 ?_
          refine b_any (fun z30 z30_a z30_b => ?_)
          refine lv_icmp_ne (tgt := 80) hx hb dX9_readDone_67 (by decide) (fun c_31 => ?_) (fun c_31 => ?_)
          · replace c_31 : ¬ z29 = z30 := fun h => c_31 ((iI_eq (Int.le_trans (by decide) z29_a) (Int.le_trans z29_b (by decide)) (Int.le_trans (by decide) z30_a) (Int.le_trans z30_b (by decide))).mpr h)
            refine lv_aload_n hx hb dX9_readDone_80 rfl (lv_at hl 3 rfl) ?_
            refine lv_iconst (v := iI 3) hx hb dX9_readDone_81 (by decide +kernel) ?_
            refine k_I (ce := 0) (sl := 0) (rest := []) (wr := [(a3, .inl (T 0, 9, .inl f0)), (a4, .inl (T 0, 9, .inl f1)), (a7, .inl (T 0, 9, .inl (cI f2))), (a8, .inl (T 0, 9, .inl (cI f3))), (a11, .inl (T 0, 940, .inl f4)), (a0, .inr (9, [.ref a2, .ref a3, .ref a4, .ref a5, .ref a6, .ref a7, .ref a8, .ref a9, .ref a10, .int (iI x0), .int (iI x1), .int (iI x2), .int r0, .int (iI x3), .int r1, .int r2, .int r3, .int r4])), (a2, .inl (T 1, 9, .inr (.inl h0)))]) (r_V (f := 0) [6] M w V_HookedCity_Town_150 G710 G711 (c243_X8_fail l D T _ a1 3 a11 x4 r5 z14 fr15 fr16 fo17 fy18 fr19 fr20 fr22 fr23 (by decide) (by decide) x4_a x4_b z14_a z14_b fo17_h) 6 clX8 rfl rfl (by decide) rfl hl.1 rfl (Nat.le_of_ble_eq_true rfl) dX9_readDone_82 (by decide) (by decide) (by decide) (by decide)) w [6] [0, 1, 2, 3, 4, 5, 7] rfl rfl (by decide) (by decide) rfl rfl (fun v u H locs hp w => ?_)
            obtain ⟨z32, fr33, fr34⟩ := u
            have hv : iI z32 = v := hp.1
            subst hv
            have z32_a : 0 ≤ z32 := hp.2.1
            have z32_b : z32 ≤ 1 := hp.2.2.1
            have w : WD D A s.heap [(a3, .inl (T 0, 9, .inl f0)), (a4, .inl (T 0, 9, .inl f1)), (a7, .inl (T 0, 9, .inl (cI f2))), (a8, .inl (T 0, 9, .inl (cI f3))), (a11, .inl (T 0, 940, .inl f4)), (a0, .inr (9, [.ref a2, .ref a3, .ref a4, .ref a5, .ref a6, .ref a7, .ref a8, .ref a9, .ref a10, .int (iI x0), .int (iI x1), .int (iI x2), .int r0, .int (iI x3), .int r1, .int r2, .int r3, .int r4])), (a2, .inl (T 1, 9, .inr (.inl h0))), (a1, .inr (8, [.ref a11, .int (iI x4), .int r5, .int (iI z14), .int fr15, .int fr16, (va_rf fo17), .long fy18, .int fr19, .int fr20, .int fr33, .int fr34]))] H locs := w
            rcases hp.2.2.2 with hr
            · subst hr
              exact ret _ (0, z14, fr15, fr16, fo17, fy18, fr19, fr20, fr33, fr34, f2, f3) _ _ _ _ _ [5, 7, 6, 0, 1, 2, 3, 4] dX9_readDone_85 (by decide +kernel) ⟨rfl, (show (0 : Int) ≤ 0 from by decide), (show (0 : Int) ≤ 1 from by decide), z14_a, z14_b, fo17_h, f2_h, f3_h⟩ w (by decide) rfl
          · replace c_31 := (iI_eq (Int.le_trans (by decide) z29_a) (Int.le_trans z29_b (by decide)) (Int.le_trans (by decide) z30_a) (Int.le_trans z30_b (by decide))).mp c_31
            refine lv_aload_n hx hb dX9_readDone_70 rfl (lv_at hl 2 rfl) ?_
            refine r_get (v := .ref a8) M w 5 6 clX9 rfl (by decide) G381 rfl rfl dX9_readDone_71 ?_
            refine lv_iload_n hx hb dX9_readDone_74 rfl (lv_at hl 0 rfl) ?_
            refine r_iald (v := iI (f3 z21)) M w 3 rfl (iI_in (by omega) (by omega) (by decide)) (cI_at (by omega) (by omega)) dX9_readDone_75 ?_
            have hh35 : (-1) ≤ (f3 z21) ∧ (f3 z21) ≤ 8 := f3_h z21
            refine lv_iconst (v := iI (-1)) hx hb dX9_readDone_76 (by decide +kernel) ?_
            refine lv_icmp_eq (tgt := 86) hx hb dX9_readDone_77 (by decide) (fun c_36 => ?_) (fun c_36 => ?_)
            · replace c_36 := (iI_eq (by omega) (by omega) (by decide) (by decide)).mp c_36
              refine lv_aload_n hx hb dX9_readDone_86 rfl (lv_at hl 3 rfl) ?_
              refine k_V (ce := 0) (sl := 0) (rest := []) (wr := [(a3, .inl (T 0, 9, .inl f0)), (a4, .inl (T 0, 9, .inl f1)), (a7, .inl (T 0, 9, .inl (cI f2))), (a8, .inl (T 0, 9, .inl (cI f3))), (a0, .inr (9, [.ref a2, .ref a3, .ref a4, .ref a5, .ref a6, .ref a7, .ref a8, .ref a9, .ref a10, .int (iI x0), .int (iI x1), .int (iI x2), .int r0, .int (iI x3), .int r1, .int r2, .int r3, .int r4])), (a2, .inl (T 1, 9, .inr (.inl h0)))]) (r_V (f := 4) [6, 4] M w V_HookedCity_Town_154 G587 G588 (c238_X8_step l D T _ a1 a11 x4 r5 z14 fr15 fr16 fo17 fy18 fr19 fr20 fr22 fr23 f4 x4_a x4_b z14_a z14_b fo17_h) 6 clX8 rfl rfl (by decide) rfl hl.1 rfl (Nat.le_of_ble_eq_true rfl) dX9_readDone_87 (by decide) (by decide) (by decide) (by decide)) w [6, 4] [0, 1, 2, 3, 5, 7] rfl rfl (by decide) (by decide) rfl rfl (fun u H locs hp w => ?_)
              obtain ⟨z37, fr38, fr39, fo40, fy41, fr42, fr43⟩ := u
              have z37_a : 0 ≤ z37 := hp.1
              have z37_b : z37 ≤ 940 := hp.2.1
              have fo40_h : wok T fo40 := hp.2.2
              have w : WD D A s.heap [(a3, .inl (T 0, 9, .inl f0)), (a4, .inl (T 0, 9, .inl f1)), (a7, .inl (T 0, 9, .inl (cI f2))), (a8, .inl (T 0, 9, .inl (cI f3))), (a0, .inr (9, [.ref a2, .ref a3, .ref a4, .ref a5, .ref a6, .ref a7, .ref a8, .ref a9, .ref a10, .int (iI x0), .int (iI x1), .int (iI x2), .int r0, .int (iI x3), .int r1, .int r2, .int r3, .int r4])), (a2, .inl (T 1, 9, .inr (.inl h0))), (a1, .inr (8, [.ref a11, .int (iI x4), .int r5, .int (iI z37), .int fr38, .int fr39, (va_rf fo40), .long fy41, .int fr42, .int fr43, .int fr22, .int fr23])), (a11, .inl (T 0, 940, .inl f4))] H locs := w
              refine lv_aload_n hx hb dX9_readDone_90 rfl (lv_at hl 2 rfl) ?_
              refine r_get (v := .ref a7) M w 4 5 clX9 rfl (by decide) G379 rfl rfl dX9_readDone_91 ?_
              refine lv_iload_n hx hb dX9_readDone_94 rfl (lv_at hl 1 rfl) ?_
              refine lv_iload_n hx hb dX9_readDone_95 rfl (lv_at hl 0 rfl) ?_
              refine r_iast (ws' := [(a3, .inl (T 0, 9, .inl f0)), (a4, .inl (T 0, 9, .inl f1)), (a7, .inl (T 0, 9, .inl (cI (upz f2 z8 z21)))), (a8, .inl (T 0, 9, .inl (cI f3))), (a0, .inr (9, [.ref a2, .ref a3, .ref a4, .ref a5, .ref a6, .ref a7, .ref a8, .ref a9, .ref a10, .int (iI x0), .int (iI x1), .int (iI x2), .int r0, .int (iI x3), .int r1, .int r2, .int r3, .int r4])), (a2, .inl (T 1, 9, .inr (.inl h0))), (a1, .inr (8, [.ref a11, .int (iI x4), .int r5, .int (iI z37), .int fr38, .int fr39, (va_rf fo40), .long fy41, .int fr42, .int fr43, .int fr22, .int fr23])), (a11, .inl (T 0, 940, .inl f4))]) M w 2 rfl (iI_in (by omega) (by omega) (by decide)) (by rw [cI_up (by omega) (by omega)]; rfl) dX9_readDone_96 (fun H locs w => ?_)
              refine lv_aload_n hx hb dX9_readDone_97 rfl (lv_at hl 2 rfl) ?_
              refine r_get (v := .ref a8) M w 4 6 clX9 rfl (by decide) G381 rfl rfl dX9_readDone_98 ?_
              refine lv_iload_n hx hb dX9_readDone_101 rfl (lv_at hl 0 rfl) ?_
              refine lv_iload_n hx hb dX9_readDone_102 rfl (lv_at hl 1 rfl) ?_
              refine r_iast (ws' := [(a3, .inl (T 0, 9, .inl f0)), (a4, .inl (T 0, 9, .inl f1)), (a7, .inl (T 0, 9, .inl (cI (upz f2 z8 z21)))), (a8, .inl (T 0, 9, .inl (cI (upz f3 z21 z8)))), (a0, .inr (9, [.ref a2, .ref a3, .ref a4, .ref a5, .ref a6, .ref a7, .ref a8, .ref a9, .ref a10, .int (iI x0), .int (iI x1), .int (iI x2), .int r0, .int (iI x3), .int r1, .int r2, .int r3, .int r4])), (a2, .inl (T 1, 9, .inr (.inl h0))), (a1, .inr (8, [.ref a11, .int (iI x4), .int r5, .int (iI z37), .int fr38, .int fr39, (va_rf fo40), .long fy41, .int fr42, .int fr43, .int fr22, .int fr23])), (a11, .inl (T 0, 940, .inl f4))]) M w 3 rfl (iI_in (by omega) (by omega) (by decide)) (by rw [cI_up (by omega) (by omega)]; rfl) dX9_readDone_103 (fun H locs w => ?_)
              refine lv_iconst (v := iI 1) hx hb dX9_readDone_104 (by decide +kernel) ?_
              exact ret _ (1, z37, fr38, fr39, fo40, fy41, fr42, fr43, fr22, fr23, (upz f2 z8 z21), (upz f3 z21 z8)) _ _ _ _ _ [4, 6, 5, 0, 1, 2, 3, 7] dX9_readDone_105 (by decide +kernel) ⟨rfl, (show (0 : Int) ≤ 1 from by decide), (show (1 : Int) ≤ 1 from by decide), z37_a, z37_b, fo40_h, (rng_up f2_h (by omega) (by omega)), (rng_up f3_h (by omega) (by omega))⟩ w (by decide) rfl
            · replace c_36 : ¬ (f3 z21) = (-1) := fun h => c_36 ((iI_eq (by omega) (by omega) (by decide) (by decide)).mpr h)
              refine lv_aload_n hx hb dX9_readDone_80 rfl (lv_at hl 3 rfl) ?_
              refine lv_iconst (v := iI 3) hx hb dX9_readDone_81 (by decide +kernel) ?_
              refine k_I (ce := 0) (sl := 0) (rest := []) (wr := [(a3, .inl (T 0, 9, .inl f0)), (a4, .inl (T 0, 9, .inl f1)), (a7, .inl (T 0, 9, .inl (cI f2))), (a8, .inl (T 0, 9, .inl (cI f3))), (a11, .inl (T 0, 940, .inl f4)), (a0, .inr (9, [.ref a2, .ref a3, .ref a4, .ref a5, .ref a6, .ref a7, .ref a8, .ref a9, .ref a10, .int (iI x0), .int (iI x1), .int (iI x2), .int r0, .int (iI x3), .int r1, .int r2, .int r3, .int r4])), (a2, .inl (T 1, 9, .inr (.inl h0)))]) (r_V (f := 0) [6] M w V_HookedCity_Town_150 G710 G711 (c243_X8_fail l D T _ a1 3 a11 x4 r5 z14 fr15 fr16 fo17 fy18 fr19 fr20 fr22 fr23 (by decide) (by decide) x4_a x4_b z14_a z14_b fo17_h) 6 clX8 rfl rfl (by decide) rfl hl.1 rfl (Nat.le_of_ble_eq_true rfl) dX9_readDone_82 (by decide) (by decide) (by decide) (by decide)) w [6] [0, 1, 2, 3, 4, 5, 7] rfl rfl (by decide) (by decide) rfl rfl (fun v u H locs hp w => ?_)
              obtain ⟨z44, fr45, fr46⟩ := u
              have hv : iI z44 = v := hp.1
              subst hv
              have z44_a : 0 ≤ z44 := hp.2.1
              have z44_b : z44 ≤ 1 := hp.2.2.1
              have w : WD D A s.heap [(a3, .inl (T 0, 9, .inl f0)), (a4, .inl (T 0, 9, .inl f1)), (a7, .inl (T 0, 9, .inl (cI f2))), (a8, .inl (T 0, 9, .inl (cI f3))), (a11, .inl (T 0, 940, .inl f4)), (a0, .inr (9, [.ref a2, .ref a3, .ref a4, .ref a5, .ref a6, .ref a7, .ref a8, .ref a9, .ref a10, .int (iI x0), .int (iI x1), .int (iI x2), .int r0, .int (iI x3), .int r1, .int r2, .int r3, .int r4])), (a2, .inl (T 1, 9, .inr (.inl h0))), (a1, .inr (8, [.ref a11, .int (iI x4), .int r5, .int (iI z14), .int fr15, .int fr16, (va_rf fo17), .long fy18, .int fr19, .int fr20, .int fr45, .int fr46]))] H locs := w
              rcases hp.2.2.2 with hr
              · subst hr
                exact ret _ (0, z14, fr15, fr16, fo17, fy18, fr19, fr20, fr45, fr46, f2, f3) _ _ _ _ _ [5, 7, 6, 0, 1, 2, 3, 4] dX9_readDone_85 (by decide +kernel) ⟨rfl, (show (0 : Int) ≤ 0 from by decide), (show (0 : Int) ≤ 1 from by decide), z14_a, z14_b, fo17_h, f2_h, f3_h⟩ w (by decide) rfl
      · replace c_24 := (iI_eq (Int.le_trans (by decide) z21_a) (Int.le_trans z21_b (by decide)) (by decide) (by decide)).mp c_24
        refine lv_iconst (v := iI 0) hx hb dX9_readDone_48 (by decide +kernel) ?_
        exact ret _ (0, z14, fr15, fr16, fo17, fy18, fr19, fr20, fr22, fr23, f2, f3) _ _ _ _ _ [5, 6, 7, 0, 1, 2, 3, 4] dX9_readDone_49 (by decide +kernel) ⟨rfl, (show (0 : Int) ≤ 0 from by decide), (show (0 : Int) ≤ 1 from by decide), z14_a, z14_b, fo17_h, f2_h, f3_h⟩ w (by decide) rfl
    · replace c_13 : ¬ (f2 z8) = (-1) := fun h => c_13 ((iI_eq (by omega) (by omega) (by decide) (by decide)).mpr h)
      refine lv_aload_n hx hb dX9_readDone_27 rfl (lv_at hl 2 rfl) ?_
      refine lv_iconst (v := iI 3) hx hb dX9_readDone_28 (by decide +kernel) ?_
      refine k_I (ce := 0) (sl := 0) (rest := []) (wr := [(a3, .inl (T 0, 9, .inl f0)), (a4, .inl (T 0, 9, .inl f1)), (a7, .inl (T 0, 9, .inl (cI f2))), (a8, .inl (T 0, 9, .inl (cI f3))), (a11, .inl (T 0, 940, .inl f4)), (a0, .inr (9, [.ref a2, .ref a3, .ref a4, .ref a5, .ref a6, .ref a7, .ref a8, .ref a9, .ref a10, .int (iI x0), .int (iI x1), .int (iI x2), .int r0, .int (iI x3), .int r1, .int r2, .int r3, .int r4])), (a2, .inl (T 1, 9, .inr (.inl h0)))]) (r_V (f := 0) [6] M w V_HookedCity_Town_150 G710 G711 (c243_X8_fail l D T _ a1 3 a11 x4 r5 z1 fr2 fr3 fo4 fy5 fr6 fr7 fr9 fr10 (by decide) (by decide) x4_a x4_b z1_a z1_b fo4_h) 6 clX8 rfl rfl (by decide) rfl hl.1 rfl (Nat.le_of_ble_eq_true rfl) dX9_readDone_29 (by decide) (by decide) (by decide) (by decide)) w [6] [0, 1, 2, 3, 4, 5, 7] rfl rfl (by decide) (by decide) rfl rfl (fun v u H locs hp w => ?_)
      obtain ⟨z47, fr48, fr49⟩ := u
      have hv : iI z47 = v := hp.1
      subst hv
      have z47_a : 0 ≤ z47 := hp.2.1
      have z47_b : z47 ≤ 1 := hp.2.2.1
      have w : WD D A s.heap [(a3, .inl (T 0, 9, .inl f0)), (a4, .inl (T 0, 9, .inl f1)), (a7, .inl (T 0, 9, .inl (cI f2))), (a8, .inl (T 0, 9, .inl (cI f3))), (a11, .inl (T 0, 940, .inl f4)), (a0, .inr (9, [.ref a2, .ref a3, .ref a4, .ref a5, .ref a6, .ref a7, .ref a8, .ref a9, .ref a10, .int (iI x0), .int (iI x1), .int (iI x2), .int r0, .int (iI x3), .int r1, .int r2, .int r3, .int r4])), (a2, .inl (T 1, 9, .inr (.inl h0))), (a1, .inr (8, [.ref a11, .int (iI x4), .int r5, .int (iI z1), .int fr2, .int fr3, (va_rf fo4), .long fy5, .int fr6, .int fr7, .int fr48, .int fr49]))] H locs := w
      rcases hp.2.2.2 with hr
      · subst hr
        exact ret _ (0, z1, fr2, fr3, fo4, fy5, fr6, fr7, fr48, fr49, f2, f3) _ _ _ _ _ [5, 7, 6, 0, 1, 2, 3, 4] dX9_readDone_32 (by decide +kernel) ⟨rfl, (show (0 : Int) ≤ 0 from by decide), (show (0 : Int) ≤ 1 from by decide), z1_a, z1_b, fo4_h, f2_h, f3_h⟩ w (by decide) rfl
  · replace c_11 := (iI_eq (Int.le_trans (by decide) z8_a) (Int.le_trans z8_b (by decide)) (by decide) (by decide)).mp c_11
    refine lv_iconst (v := iI 0) hx hb dX9_readDone_15 (by decide +kernel) ?_
    exact ret _ (0, z1, fr2, fr3, fo4, fy5, fr6, fr7, fr9, fr10, f2, f3) _ _ _ _ _ [5, 6, 7, 0, 1, 2, 3, 4] dX9_readDone_16 (by decide +kernel) ⟨rfl, (show (0 : Int) ≤ 0 from by decide), (show (0 : Int) ≤ 1 from by decide), z1_a, z1_b, fo4_h, f2_h, f3_h⟩ w (by decide) rfl
set_option maxRecDepth 100000 in
set_option maxHeartbeats 4000000 in
theorem c258_X9_readStreet (l : Launch) (D : va_G) (T : Nat → ClassId) (sz : Nat) (a0 : Nat) (a1 : Nat) (a2 : Nat) (a3 : Nat) (a4 : Nat) (a5 : Nat) (a6 : Nat) (a7 : Nat) (a8 : Nat) (a9 : Nat) (a10 : Nat) (x0 : Int) (x1 : Int) (x2 : Int) (r0 : Int32) (x3 : Int) (r1 : Int32) (r2 : Int32) (r3 : Int32) (r4 : Int32) (a11 : Nat) (x4 : Int) (r5 : Int32) (x5 : Int) (r6 : Int32) (r7 : Int32) (o0 : Option Nat) (y0 : Int64) (r8 : Int32) (r9 : Int32) (r10 : Int32) (r11 : Int32) (h0 : Nat → Int64) (f0 : Int → Int) (f1 : Nat → Int32) (x0_a : 0 ≤ x0) (x0_b : x0 ≤ 9) (x1_a : 0 ≤ x1) (x1_b : x1 ≤ 3) (x2_a : (-2147483648) ≤ x2) (x2_b : x2 ≤ 2147483647) (x3_a : (-2147483648) ≤ x3) (x3_b : x3 ≤ 2147483647) (x4_a : 0 ≤ x4) (x4_b : x4 ≤ 940) (x5_a : 0 ≤ x5) (x5_b : x5 ≤ 940) (o0_h : wok T o0) (f0_h : rng 0 511 f0) : Met l yX9_readStreet (Cond.code yX9_readStreet cX9_readStreet 4 (some .boolean) :: GW) (Rm 5 0 0) (cPre [.ref a0, .ref a1] D T [(a0, .inr (9, [.ref a2, .ref a3, .ref a4, .ref a5, .ref a6, .ref a7, .ref a8, .ref a9, .ref a10, .int (iI x0), .int (iI x1), .int (iI x2), .int r0, .int (iI x3), .int r1, .int r2, .int r3, .int r4])), (a1, .inr (8, [.ref a11, .int (iI x4), .int r5, .int (iI x5), .int r6, .int r7, (va_rf o0), .long y0, .int r8, .int r9, .int r10, .int r11])), (a2, .inl (T 1, 9, .inr (.inl h0))), (a6, .inl (T 0, 9, .inl (cI f0))), (a11, .inl (T 0, 940, .inl f1))] sz) (qI D [(a0, .inr (9, [.ref a2, .ref a3, .ref a4, .ref a5, .ref a6, .ref a7, .ref a8, .ref a9, .ref a10, .int (iI x0), .int (iI x1), .int (iI x2), .int r0, .int (iI x3), .int r1, .int r2, .int r3, .int r4])), (a1, .inr (8, [.ref a11, .int (iI x4), .int r5, .int (iI x5), .int r6, .int r7, (va_rf o0), .long y0, .int r8, .int r9, .int r10, .int r11])), (a2, .inl (T 1, 9, .inr (.inl h0))), (a6, .inl (T 0, 9, .inl (cI f0))), (a11, .inl (T 0, 940, .inl f1))] sz (fun (v : Int32) (u : Int × Int × Int32 × Int32 × Option Nat × Int64 × Int32 × Int32 × Int32 × Int32 × (Int → Int)) => iI u.1 = v ∧ 0 ≤ u.1 ∧ u.1 ≤ 1 ∧ 0 ≤ u.2.1 ∧ u.2.1 ≤ 940 ∧ wok T u.2.2.2.2.1 ∧ rng 0 511 u.2.2.2.2.2.2.2.2.2.2) (fun u => [(a0, .inr (9, [.ref a2, .ref a3, .ref a4, .ref a5, .ref a6, .ref a7, .ref a8, .ref a9, .ref a10, .int (iI x0), .int (iI x1), .int (iI x2), .int r0, .int (iI x3), .int r1, .int r2, .int r3, .int r4])), (a1, .inr (8, [.ref a11, .int (iI x4), .int r5, .int (iI u.2.1), .int u.2.2.1, .int u.2.2.2.1, (va_rf u.2.2.2.2.1), .long u.2.2.2.2.2.1, .int u.2.2.2.2.2.2.1, .int u.2.2.2.2.2.2.2.1, .int u.2.2.2.2.2.2.2.2.1, .int u.2.2.2.2.2.2.2.2.2.1])), (a2, .inl (T 1, 9, .inr (.inl h0))), (a6, .inl (T 0, 9, .inl (cI u.2.2.2.2.2.2.2.2.2.2))), (a11, .inl (T 0, 940, .inl f1))])) 0 0 (va_A [(a0, .inr (9, [.ref a2, .ref a3, .ref a4, .ref a5, .ref a6, .ref a7, .ref a8, .ref a9, .ref a10, .int (iI x0), .int (iI x1), .int (iI x2), .int r0, .int (iI x3), .int r1, .int r2, .int r3, .int r4])), (a1, .inr (8, [.ref a11, .int (iI x4), .int r5, .int (iI x5), .int r6, .int r7, (va_rf o0), .long y0, .int r8, .int r9, .int r10, .int r11])), (a2, .inl (T 1, 9, .inr (.inl h0))), (a6, .inl (T 0, 9, .inl (cI f0))), (a11, .inl (T 0, 940, .inl f1))] sz) := by
  refine e_Z (by decide) (Nat.le_of_ble_eq_true rfl) ?_
  intro p e s m args below meth c A Q ls M hin w ret hl
  have hx := M.1.1
  have hb := M.1.2.1
  have hl : lv_has ls 4 [(0, .ref a0), (1, .ref a1)] := hl
  refine lv_aload_n hx hb dX9_readStreet_0 rfl (lv_at hl 1 rfl) ?_
  refine k_V (ce := 0) (sl := 0) (rest := []) (wr := [(a0, .inr (9, [.ref a2, .ref a3, .ref a4, .ref a5, .ref a6, .ref a7, .ref a8, .ref a9, .ref a10, .int (iI x0), .int (iI x1), .int (iI x2), .int r0, .int (iI x3), .int r1, .int r2, .int r3, .int r4])), (a2, .inl (T 1, 9, .inr (.inl h0))), (a6, .inl (T 0, 9, .inl (cI f0)))]) (r_V (f := 4) [1, 4] M w V_HookedCity_Town_154 G587 G588 (c238_X8_step l D T _ a1 a11 x4 r5 x5 r6 r7 o0 y0 r8 r9 r10 r11 f1 x4_a x4_b x5_a x5_b o0_h) 1 clX8 rfl rfl (by decide) rfl hl.1 rfl (Nat.le_of_ble_eq_true rfl) dX9_readStreet_1 (by decide) (by decide) (by decide) (by decide)) w [1, 4] [0, 2, 3] rfl rfl (by decide) (by decide) rfl rfl (fun u H locs hp w => ?_)
  obtain ⟨z1, fr2, fr3, fo4, fy5, fr6, fr7⟩ := u
  have z1_a : 0 ≤ z1 := hp.1
  have z1_b : z1 ≤ 940 := hp.2.1
  have fo4_h : wok T fo4 := hp.2.2
  have w : WD D A s.heap [(a0, .inr (9, [.ref a2, .ref a3, .ref a4, .ref a5, .ref a6, .ref a7, .ref a8, .ref a9, .ref a10, .int (iI x0), .int (iI x1), .int (iI x2), .int r0, .int (iI x3), .int r1, .int r2, .int r3, .int r4])), (a2, .inl (T 1, 9, .inr (.inl h0))), (a6, .inl (T 0, 9, .inl (cI f0))), (a1, .inr (8, [.ref a11, .int (iI x4), .int r5, .int (iI z1), .int fr2, .int fr3, (va_rf fo4), .long fy5, .int fr6, .int fr7, .int r10, .int r11])), (a11, .inl (T 0, 940, .inl f1))] H locs := w
  refine lv_aload_n hx hb dX9_readStreet_4 rfl (lv_at hl 0 rfl) ?_
  refine lv_aload_n hx hb dX9_readStreet_5 rfl (lv_at hl 1 rfl) ?_
  refine k_I (ce := 0) (sl := 0) (rest := []) (wr := [(a6, .inl (T 0, 9, .inl (cI f0))), (a11, .inl (T 0, 940, .inl f1))]) (r_V (f := 2) [0, 3, 1] M w V_HookedCity_Town_172 G743 G744 (c256_X9_personAt l D T _ a0 a1 a2 a3 a4 a5 a6 a7 a8 a9 a10 x0 x1 x2 r0 x3 r1 r2 r3 r4 a11 x4 r5 z1 fr2 fr3 fo4 fy5 fr6 fr7 r10 r11 h0 x0_a x0_b x1_a x1_b x2_a x2_b x3_a x3_b x4_a x4_b z1_a z1_b fo4_h) 0 clX9 rfl rfl (by decide) rfl hl.1 rfl (Nat.le_of_ble_eq_true rfl) dX9_readStreet_6 (by decide) (by decide) (by decide) (by decide)) w [0, 3, 1] [2, 4] rfl rfl (by decide) (by decide) rfl rfl (fun v u H locs hp w => ?_)
  obtain ⟨z8, fr9, fr10⟩ := u
  have hv : iI z8 = v := hp.1
  subst hv
  have z8_a : (-1) ≤ z8 := hp.2.1
  have z8_b : z8 ≤ 8 := hp.2.2
  have w : WD D A s.heap [(a6, .inl (T 0, 9, .inl (cI f0))), (a11, .inl (T 0, 940, .inl f1)), (a0, .inr (9, [.ref a2, .ref a3, .ref a4, .ref a5, .ref a6, .ref a7, .ref a8, .ref a9, .ref a10, .int (iI x0), .int (iI x1), .int (iI x2), .int r0, .int (iI x3), .int r1, .int r2, .int r3, .int r4])), (a1, .inr (8, [.ref a11, .int (iI x4), .int r5, .int (iI z1), .int fr2, .int fr3, (va_rf fo4), .long fy5, .int fr6, .int fr7, .int fr9, .int fr10])), (a2, .inl (T 1, 9, .inr (.inl h0)))] H locs := w
  refine lv_istore_n (lv' := [(2, .int (iI z8)), (0, .ref a0), (1, .ref a1)]) hx hb dX9_readStreet_9 rfl hl (by decide) rfl (fun ls hl => ?_)
  refine lv_iload_n hx hb dX9_readStreet_10 rfl (lv_at hl 0 rfl) ?_
  refine lv_iconst (v := iI (-1)) hx hb dX9_readStreet_11 (by decide +kernel) ?_
  refine lv_icmp_ne (tgt := 17) hx hb dX9_readStreet_12 (by decide) (fun c_11 => ?_) (fun c_11 => ?_)
  · replace c_11 : ¬ z8 = (-1) := fun h => c_11 ((iI_eq (Int.le_trans (by decide) z8_a) (Int.le_trans z8_b (by decide)) (by decide) (by decide)).mpr h)
    refine lv_aload_n hx hb dX9_readStreet_17 rfl (lv_at hl 2 rfl) ?_
    refine k_V (ce := 0) (sl := 0) (rest := []) (wr := [(a6, .inl (T 0, 9, .inl (cI f0))), (a0, .inr (9, [.ref a2, .ref a3, .ref a4, .ref a5, .ref a6, .ref a7, .ref a8, .ref a9, .ref a10, .int (iI x0), .int (iI x1), .int (iI x2), .int r0, .int (iI x3), .int r1, .int r2, .int r3, .int r4])), (a2, .inl (T 1, 9, .inr (.inl h0)))]) (r_V (f := 4) [3, 1] M w V_HookedCity_Town_154 G587 G588 (c238_X8_step l D T _ a1 a11 x4 r5 z1 fr2 fr3 fo4 fy5 fr6 fr7 fr9 fr10 f1 x4_a x4_b z1_a z1_b fo4_h) 3 clX8 rfl rfl (by decide) rfl hl.1 rfl (Nat.le_of_ble_eq_true rfl) dX9_readStreet_18 (by decide) (by decide) (by decide) (by decide)) w [3, 1] [0, 2, 4] rfl rfl (by decide) (by decide) rfl rfl (fun u H locs hp w => ?_)
    obtain ⟨z12, fr13, fr14, fo15, fy16, fr17, fr18⟩ := u
    have z12_a : 0 ≤ z12 := hp.1
    have z12_b : z12 ≤ 940 := hp.2.1
    have fo15_h : wok T fo15 := hp.2.2
    have w : WD D A s.heap [(a6, .inl (T 0, 9, .inl (cI f0))), (a0, .inr (9, [.ref a2, .ref a3, .ref a4, .ref a5, .ref a6, .ref a7, .ref a8, .ref a9, .ref a10, .int (iI x0), .int (iI x1), .int (iI x2), .int r0, .int (iI x3), .int r1, .int r2, .int r3, .int r4])), (a2, .inl (T 1, 9, .inr (.inl h0))), (a1, .inr (8, [.ref a11, .int (iI x4), .int r5, .int (iI z12), .int fr13, .int fr14, (va_rf fo15), .long fy16, .int fr17, .int fr18, .int fr9, .int fr10])), (a11, .inl (T 0, 940, .inl f1))] H locs := w
    refine lv_aload_n hx hb dX9_readStreet_21 rfl (lv_at hl 1 rfl) ?_
    refine lv_aload_n hx hb dX9_readStreet_22 rfl (lv_at hl 2 rfl) ?_
    refine k_I (ce := 0) (sl := 0) (rest := []) (wr := [(a6, .inl (T 0, 9, .inl (cI f0))), (a11, .inl (T 0, 940, .inl f1))]) (r_V (f := 2) [1, 3, 2] M w V_HookedCity_Town_172 G743 G744 (c256_X9_personAt l D T _ a0 a1 a2 a3 a4 a5 a6 a7 a8 a9 a10 x0 x1 x2 r0 x3 r1 r2 r3 r4 a11 x4 r5 z12 fr13 fr14 fo15 fy16 fr17 fr18 fr9 fr10 h0 x0_a x0_b x1_a x1_b x2_a x2_b x3_a x3_b x4_a x4_b z12_a z12_b fo15_h) 1 clX9 rfl rfl (by decide) rfl hl.1 rfl (Nat.le_of_ble_eq_true rfl) dX9_readStreet_23 (by decide) (by decide) (by decide) (by decide)) w [1, 3, 2] [0, 4] rfl rfl (by decide) (by decide) rfl rfl (fun v u H locs hp w => ?_)
    obtain ⟨z19, fr20, fr21⟩ := u
    have hv : iI z19 = v := hp.1
    subst hv
    have z19_a : (-1) ≤ z19 := hp.2.1
    have z19_b : z19 ≤ 8 := hp.2.2
    have w : WD D A s.heap [(a6, .inl (T 0, 9, .inl (cI f0))), (a11, .inl (T 0, 940, .inl f1)), (a0, .inr (9, [.ref a2, .ref a3, .ref a4, .ref a5, .ref a6, .ref a7, .ref a8, .ref a9, .ref a10, .int (iI x0), .int (iI x1), .int (iI x2), .int r0, .int (iI x3), .int r1, .int r2, .int r3, .int r4])), (a1, .inr (8, [.ref a11, .int (iI x4), .int r5, .int (iI z12), .int fr13, .int fr14, (va_rf fo15), .long fy16, .int fr17, .int fr18, .int fr20, .int fr21])), (a2, .inl (T 1, 9, .inr (.inl h0)))] H locs := w
    refine lv_istore_n (lv' := [(3, .int (iI z19)), (2, .int (iI z8)), (0, .ref a0), (1, .ref a1)]) hx hb dX9_readStreet_26 rfl hl (by decide) rfl (fun ls hl => ?_)
    refine lv_iload_n hx hb dX9_readStreet_27 rfl (lv_at hl 0 rfl) ?_
    refine lv_iconst (v := iI (-1)) hx hb dX9_readStreet_28 (by decide +kernel) ?_
    refine lv_icmp_ne (tgt := 34) hx hb dX9_readStreet_29 (by decide) (fun c_22 => ?_) (fun c_22 => ?_)
    · replace c_22 : ¬ z19 = (-1) := fun h => c_22 ((iI_eq (Int.le_trans (by decide) z19_a) (Int.le_trans z19_b (by decide)) (by decide) (by decide)).mpr h)
      refine lv_iload_n hx hb dX9_readStreet_34 rfl (lv_at hl 1 rfl) ?_
      refine lv_iload_n hx hb dX9_readStreet_35 rfl (lv_at hl 0 rfl) ?_
      refine lv_icmp_eq (tgt := 52) hx hb dX9_readStreet_36 (by decide) (fun c_23 => ?_) (fun c_23 => ?_)
      · replace c_23 := (iI_eq (Int.le_trans (by decide) z8_a) (Int.le_trans z8_b (by decide)) (Int.le_trans (by decide) z19_a) (Int.le_trans z19_b (by decide))).mp c_23
        refine lv_aload_n hx hb dX9_readStreet_52 rfl (lv_at hl 3 rfl) ?_
        refine lv_iconst (v := iI 3) hx hb dX9_readStreet_53 (by decide +kernel) ?_
        refine k_I (ce := 0) (sl := 0) (rest := []) (wr := [(a6, .inl (T 0, 9, .inl (cI f0))), (a11, .inl (T 0, 940, .inl f1)), (a0, .inr (9, [.ref a2, .ref a3, .ref a4, .ref a5, .ref a6, .ref a7, .ref a8, .ref a9, .ref a10, .int (iI x0), .int (iI x1), .int (iI x2), .int r0, .int (iI x3), .int r1, .int r2, .int r3, .int r4])), (a2, .inl (T 1, 9, .inr (.inl h0)))]) (r_V (f := 0) [3] M w V_HookedCity_Town_150 G710 G711 (c243_X8_fail l D T _ a1 3 a11 x4 r5 z12 fr13 fr14 fo15 fy16 fr17 fr18 fr20 fr21 (by decide) (by decide) x4_a x4_b z12_a z12_b fo15_h) 3 clX8 rfl rfl (by decide) rfl hl.1 rfl (Nat.le_of_ble_eq_true rfl) dX9_readStreet_54 (by decide) (by decide) (by decide) (by decide)) w [3] [0, 1, 2, 4] rfl rfl (by decide) (by decide) rfl rfl (fun v u H locs hp w => ?_)
        obtain ⟨z24, fr25, fr26⟩ := u
        have hv : iI z24 = v := hp.1
        subst hv
        have z24_a : 0 ≤ z24 := hp.2.1
        have z24_b : z24 ≤ 1 := hp.2.2.1
        have w : WD D A s.heap [(a6, .inl (T 0, 9, .inl (cI f0))), (a11, .inl (T 0, 940, .inl f1)), (a0, .inr (9, [.ref a2, .ref a3, .ref a4, .ref a5, .ref a6, .ref a7, .ref a8, .ref a9, .ref a10, .int (iI x0), .int (iI x1), .int (iI x2), .int r0, .int (iI x3), .int r1, .int r2, .int r3, .int r4])), (a2, .inl (T 1, 9, .inr (.inl h0))), (a1, .inr (8, [.ref a11, .int (iI x4), .int r5, .int (iI z12), .int fr13, .int fr14, (va_rf fo15), .long fy16, .int fr17, .int fr18, .int fr25, .int fr26]))] H locs := w
        rcases hp.2.2.2 with hr
        · subst hr
          exact ret _ (0, z12, fr13, fr14, fo15, fy16, fr17, fr18, fr25, fr26, f0) _ _ _ _ _ [2, 4, 3, 0, 1] dX9_readStreet_57 (by decide +kernel) ⟨rfl, (show (0 : Int) ≤ 0 from by decide), (show (0 : Int) ≤ 1 from by decide), z12_a, z12_b, fo15_h, f0_h⟩ w (by decide) rfl
      · replace c_23 : ¬ z8 = z19 := fun h => c_23 ((iI_eq (Int.le_trans (by decide) z8_a) (Int.le_trans z8_b (by decide)) (Int.le_trans (by decide) z19_a) (Int.le_trans z19_b (by decide))).mpr h)
        refine lv_aload_n hx hb dX9_readStreet_39 rfl (lv_at hl 2 rfl) ?_
        refine r_get (v := .ref a6) M w 2 4 clX9 rfl (by decide) G375 rfl rfl dX9_readStreet_40 ?_
        refine lv_iload_n hx hb dX9_readStreet_43 rfl (lv_at hl 1 rfl) ?_
        refine r_iald (v := iI (f0 z8)) M w 0 rfl (iI_in (by omega) (by omega) (by decide)) (cI_at (by omega) (by omega)) dX9_readStreet_44 ?_
        have hh27 : 0 ≤ (f0 z8) ∧ (f0 z8) ≤ 511 := f0_h z8
        refine lv_iload_n hx hb dX9_readStreet_45 rfl (lv_at hl 0 rfl) ?_
        refine r_ishr (v := _) M rfl dX9_readStreet_46 ?_
        refine b_any (fun z28 z28_a z28_b => ?_)
        refine lv_iconst (v := iI 1) hx hb dX9_readStreet_47 (by decide +kernel) ?_
        refine r_iand (v := _) M rfl dX9_readStreet_48 ?_
        refine b_rng (lo := 0) (hi := 1) (iand_r (by omega) (by omega)) (fun z29 z29_a z29_b => ?_)
        refine lv_if_eq (tgt := 58) hx hb dX9_readStreet_49 (by decide) (fun c_30 => ?_) (fun c_30 => ?_)
        · replace c_30 := (iz_eq (Int.le_trans (by decide) z29_a) (Int.le_trans z29_b (by decide))).mp c_30
          refine lv_aload_n hx hb dX9_readStreet_58 rfl (lv_at hl 3 rfl) ?_
          refine k_V (ce := 0) (sl := 0) (rest := []) (wr := [(a6, .inl (T 0, 9, .inl (cI f0))), (a0, .inr (9, [.ref a2, .ref a3, .ref a4, .ref a5, .ref a6, .ref a7, .ref a8, .ref a9, .ref a10, .int (iI x0), .int (iI x1), .int (iI x2), .int r0, .int (iI x3), .int r1, .int r2, .int r3, .int r4])), (a2, .inl (T 1, 9, .inr (.inl h0)))]) (r_V (f := 4) [3, 1] M w V_HookedCity_Town_154 G587 G588 (c238_X8_step l D T _ a1 a11 x4 r5 z12 fr13 fr14 fo15 fy16 fr17 fr18 fr20 fr21 f1 x4_a x4_b z12_a z12_b fo15_h) 3 clX8 rfl rfl (by decide) rfl hl.1 rfl (Nat.le_of_ble_eq_true rfl) dX9_readStreet_59 (by decide) (by decide) (by decide) (by decide)) w [3, 1] [0, 2, 4] rfl rfl (by decide) (by decide) rfl rfl (fun u H locs hp w => ?_)
          obtain ⟨z31, fr32, fr33, fo34, fy35, fr36, fr37⟩ := u
          have z31_a : 0 ≤ z31 := hp.1
          have z31_b : z31 ≤ 940 := hp.2.1
          have fo34_h : wok T fo34 := hp.2.2
          have w : WD D A s.heap [(a6, .inl (T 0, 9, .inl (cI f0))), (a0, .inr (9, [.ref a2, .ref a3, .ref a4, .ref a5, .ref a6, .ref a7, .ref a8, .ref a9, .ref a10, .int (iI x0), .int (iI x1), .int (iI x2), .int r0, .int (iI x3), .int r1, .int r2, .int r3, .int r4])), (a2, .inl (T 1, 9, .inr (.inl h0))), (a1, .inr (8, [.ref a11, .int (iI x4), .int r5, .int (iI z31), .int fr32, .int fr33, (va_rf fo34), .long fy35, .int fr36, .int fr37, .int fr20, .int fr21])), (a11, .inl (T 0, 940, .inl f1))] H locs := w
          refine lv_aload_n hx hb dX9_readStreet_62 rfl (lv_at hl 2 rfl) ?_
          refine r_get (v := .ref a6) M w 1 4 clX9 rfl (by decide) G375 rfl rfl dX9_readStreet_63 ?_
          refine lv_iload_n hx hb dX9_readStreet_66 rfl (lv_at hl 1 rfl) ?_
          refine lv_dup2_11 hx hb dX9_readStreet_67 rfl rfl ?_
          refine r_iald (v := iI (f0 z8)) M w 0 rfl (iI_in (by omega) (by omega) (by decide)) (cI_at (by omega) (by omega)) dX9_readStreet_68 ?_
          have hh38 : 0 ≤ (f0 z8) ∧ (f0 z8) ≤ 511 := f0_h z8
          refine lv_iconst (v := iI 1) hx hb dX9_readStreet_69 (by decide +kernel) ?_
          refine lv_iload_n hx hb dX9_readStreet_70 rfl (lv_at hl 0 rfl) ?_
          refine r_ishl (v := _) M rfl dX9_readStreet_71 ?_
          refine b_rng (lo := 1) (hi := 256) (ishl_9 (by omega) (by omega)) (fun z39 z39_a z39_b => ?_)
          refine r_ior (v := _) M rfl dX9_readStreet_72 ?_
          refine b_rng (lo := 0) (hi := 511) (ior_9 (by omega) (by omega) (by omega) (by omega)) (fun z40 z40_a z40_b => ?_)
          refine r_iast (ws' := [(a6, .inl (T 0, 9, .inl (cI (upz f0 z8 z40)))), (a0, .inr (9, [.ref a2, .ref a3, .ref a4, .ref a5, .ref a6, .ref a7, .ref a8, .ref a9, .ref a10, .int (iI x0), .int (iI x1), .int (iI x2), .int r0, .int (iI x3), .int r1, .int r2, .int r3, .int r4])), (a2, .inl (T 1, 9, .inr (.inl h0))), (a1, .inr (8, [.ref a11, .int (iI x4), .int r5, .int (iI z31), .int fr32, .int fr33, (va_rf fo34), .long fy35, .int fr36, .int fr37, .int fr20, .int fr21])), (a11, .inl (T 0, 940, .inl f1))]) M w 0 rfl (iI_in (by omega) (by omega) (by decide)) (by rw [cI_up (by omega) (by omega)]; rfl) dX9_readStreet_73 (fun H locs w => ?_)
          refine lv_aload_n hx hb dX9_readStreet_74 rfl (lv_at hl 2 rfl) ?_
          refine r_get (v := .ref a6) M w 1 4 clX9 rfl (by decide) G375 rfl rfl dX9_readStreet_75 ?_
          refine lv_iload_n hx hb dX9_readStreet_78 rfl (lv_at hl 0 rfl) ?_
          refine lv_dup2_11 hx hb dX9_readStreet_79 rfl rfl ?_
          refine r_iald (v := iI ((upz f0 z8 z40) z19)) M w 0 rfl (iI_in (by omega) (by omega) (by decide)) (cI_at (by omega) (by omega)) dX9_readStreet_80 ?_
          have hh41 : 0 ≤ ((upz f0 z8 z40) z19) ∧ ((upz f0 z8 z40) z19) ≤ 511 := (rng_up f0_h (by omega) (by omega)) z19
          refine lv_iconst (v := iI 1) hx hb dX9_readStreet_81 (by decide +kernel) ?_
          refine lv_iload_n hx hb dX9_readStreet_82 rfl (lv_at hl 1 rfl) ?_
          refine r_ishl (v := _) M rfl dX9_readStreet_83 ?_
          refine b_rng (lo := 1) (hi := 256) (ishl_9 (by omega) (by omega)) (fun z42 z42_a z42_b => ?_)
          refine r_ior (v := _) M rfl dX9_readStreet_84 ?_
          refine b_rng (lo := 0) (hi := 511) (ior_9 (by omega) (by omega) (by omega) (by omega)) (fun z43 z43_a z43_b => ?_)
          refine r_iast (ws' := [(a6, .inl (T 0, 9, .inl (cI (upz (upz f0 z8 z40) z19 z43)))), (a0, .inr (9, [.ref a2, .ref a3, .ref a4, .ref a5, .ref a6, .ref a7, .ref a8, .ref a9, .ref a10, .int (iI x0), .int (iI x1), .int (iI x2), .int r0, .int (iI x3), .int r1, .int r2, .int r3, .int r4])), (a2, .inl (T 1, 9, .inr (.inl h0))), (a1, .inr (8, [.ref a11, .int (iI x4), .int r5, .int (iI z31), .int fr32, .int fr33, (va_rf fo34), .long fy35, .int fr36, .int fr37, .int fr20, .int fr21])), (a11, .inl (T 0, 940, .inl f1))]) M w 0 rfl (iI_in (by omega) (by omega) (by decide)) (by rw [cI_up (by omega) (by omega)]; rfl) dX9_readStreet_85 (fun H locs w => ?_)
          refine lv_iconst (v := iI 1) hx hb dX9_readStreet_86 (by decide +kernel) ?_
          exact ret _ (1, z31, fr32, fr33, fo34, fy35, fr36, fr37, fr20, fr21, (upz (upz f0 z8 z40) z19 z43)) _ _ _ _ _ [1, 3, 2, 0, 4] dX9_readStreet_87 (by decide +kernel) ⟨rfl, (show (0 : Int) ≤ 1 from by decide), (show (1 : Int) ≤ 1 from by decide), z31_a, z31_b, fo34_h, (rng_up (rng_up f0_h (by omega) (by omega)) (by omega) (by omega))⟩ w (by decide) rfl
        · replace c_30 : ¬ z29 = 0 := fun h => c_30 ((iz_eq (Int.le_trans (by decide) z29_a) (Int.le_trans z29_b (by decide))).mpr h)
          refine lv_aload_n hx hb dX9_readStreet_52 rfl (lv_at hl 3 rfl) ?_
          refine lv_iconst (v := iI 3) hx hb dX9_readStreet_53 (by decide +kernel) ?_
          refine k_I (ce := 0) (sl := 0) (rest := []) (wr := [(a6, .inl (T 0, 9, .inl (cI f0))), (a11, .inl (T 0, 940, .inl f1)), (a0, .inr (9, [.ref a2, .ref a3, .ref a4, .ref a5, .ref a6, .ref a7, .ref a8, .ref a9, .ref a10, .int (iI x0), .int (iI x1), .int (iI x2), .int r0, .int (iI x3), .int r1, .int r2, .int r3, .int r4])), (a2, .inl (T 1, 9, .inr (.inl h0)))]) (r_V (f := 0) [3] M w V_HookedCity_Town_150 G710 G711 (c243_X8_fail l D T _ a1 3 a11 x4 r5 z12 fr13 fr14 fo15 fy16 fr17 fr18 fr20 fr21 (by decide) (by decide) x4_a x4_b z12_a z12_b fo15_h) 3 clX8 rfl rfl (by decide) rfl hl.1 rfl (Nat.le_of_ble_eq_true rfl) dX9_readStreet_54 (by decide) (by decide) (by decide) (by decide)) w [3] [0, 1, 2, 4] rfl rfl (by decide) (by decide) rfl rfl (fun v u H locs hp w => ?_)
          obtain ⟨z44, fr45, fr46⟩ := u
          have hv : iI z44 = v := hp.1
          subst hv
          have z44_a : 0 ≤ z44 := hp.2.1
          have z44_b : z44 ≤ 1 := hp.2.2.1
          have w : WD D A s.heap [(a6, .inl (T 0, 9, .inl (cI f0))), (a11, .inl (T 0, 940, .inl f1)), (a0, .inr (9, [.ref a2, .ref a3, .ref a4, .ref a5, .ref a6, .ref a7, .ref a8, .ref a9, .ref a10, .int (iI x0), .int (iI x1), .int (iI x2), .int r0, .int (iI x3), .int r1, .int r2, .int r3, .int r4])), (a2, .inl (T 1, 9, .inr (.inl h0))), (a1, .inr (8, [.ref a11, .int (iI x4), .int r5, .int (iI z12), .int fr13, .int fr14, (va_rf fo15), .long fy16, .int fr17, .int fr18, .int fr45, .int fr46]))] H locs := w
          rcases hp.2.2.2 with hr
          · subst hr
            exact ret _ (0, z12, fr13, fr14, fo15, fy16, fr17, fr18, fr45, fr46, f0) _ _ _ _ _ [2, 4, 3, 0, 1] dX9_readStreet_57 (by decide +kernel) ⟨rfl, (show (0 : Int) ≤ 0 from by decide), (show (0 : Int) ≤ 1 from by decide), z12_a, z12_b, fo15_h, f0_h⟩ w (by decide) rfl
    · replace c_22 := (iI_eq (Int.le_trans (by decide) z19_a) (Int.le_trans z19_b (by decide)) (by decide) (by decide)).mp c_22
      refine lv_iconst (v := iI 0) hx hb dX9_readStreet_32 (by decide +kernel) ?_
      exact ret _ (0, z12, fr13, fr14, fo15, fy16, fr17, fr18, fr20, fr21, f0) _ _ _ _ _ [2, 3, 4, 0, 1] dX9_readStreet_33 (by decide +kernel) ⟨rfl, (show (0 : Int) ≤ 0 from by decide), (show (0 : Int) ≤ 1 from by decide), z12_a, z12_b, fo15_h, f0_h⟩ w (by decide) rfl
  · replace c_11 := (iI_eq (Int.le_trans (by decide) z8_a) (Int.le_trans z8_b (by decide)) (by decide) (by decide)).mp c_11
    refine lv_iconst (v := iI 0) hx hb dX9_readStreet_15 (by decide +kernel) ?_
    exact ret _ (0, z1, fr2, fr3, fo4, fy5, fr6, fr7, fr9, fr10, f0) _ _ _ _ _ [2, 3, 4, 0, 1] dX9_readStreet_16 (by decide +kernel) ⟨rfl, (show (0 : Int) ≤ 0 from by decide), (show (0 : Int) ≤ 1 from by decide), z1_a, z1_b, fo4_h, f0_h⟩ w (by decide) rfl
set_option maxRecDepth 100000 in
set_option maxHeartbeats 4000000 in
theorem c259_X9_placeOf (l : Launch) (D : va_G) (T : Nat → ClassId) (sz : Nat) (a0 : Nat) (x0 : Int) (y0 : Int64) (h0 : Nat → Int64) (x0_a : 0 ≤ x0) (x0_b : x0 ≤ 9) : Met l yX9_placeOf (Cond.code yX9_placeOf cX9_placeOf 5 (some .int) :: GW) (Rm 0 0 0) (cPre [.ref a0, .int (iI x0), .long y0] D T [(a0, .inl (T 1, 3, .inr (.inl h0)))] sz) (qI D [(a0, .inl (T 1, 3, .inr (.inl h0)))] sz (fun (v : Int32) (u : Int) => iI u = v ∧ (-1) ≤ u ∧ u ≤ 8 ∧ 0 ≤ ((x0 - u) - 1)) (fun u => [(a0, .inl (T 1, 3, .inr (.inl h0)))])) 0 0 (va_A [(a0, .inl (T 1, 3, .inr (.inl h0)))] sz) := by
  refine e_I (by decide) (Nat.le_of_ble_eq_true rfl) ?_
  intro p e s m args below meth c A Q ls M hin w ret hl
  have hx := M.1.1
  have hb := M.1.2.1
  have hl : lv_has ls 5 [(0, .ref a0), (1, .int (iI x0)), (2, .long y0)] := hl
  refine lv_iconst (v := iI 0) hx hb dX9_placeOf_0 (by decide +kernel) ?_
  refine lv_istore (lv' := [(4, .int (iI 0)), (0, .ref a0), (1, .int (iI x0)), (2, .long y0)]) hx hb dX9_placeOf_1 hl (by decide) rfl (fun ls hl => ?_)
  have loop1 : ∀ (k1 : Nat) (z1 : Int) (H : Heap) (locs : List Loc) (ls : Array Slot), 0 ≤ z1 → z1 ≤ 9 → ((x0 - z1) : Int).toNat < k1 → WD D A s.heap [(a0, .inl (T 1, 3, .inr (.inl h0)))] H locs → lv_has ls 5 [(4, .int (iI z1)), (0, .ref a0), (1, .int (iI x0)), (2, .long y0)] → W p l e (Rm 0 0 0) s m args below meth c H locs 0 0 Q (F0 m 3 ls []) := by
    intro k1
    induction k1 with
    | zero => intro z1 H locs ls z1_a z1_b hm; exact absurd hm (Nat.not_lt_zero _)
    | succ k1 ih1 =>
      intro z1 H locs ls z1_a z1_b hm1 w hl
      refine lv_iload hx hb dX9_placeOf_3 (lv_at hl 0 rfl) ?_
      refine lv_iload_n hx hb dX9_placeOf_5 rfl (lv_at hl 2 rfl) ?_
      refine lv_icmp_ge (tgt := 34) hx hb dX9_placeOf_6 (by decide) (fun c_2 => ?_) (fun c_2 => ?_)
      · replace c_2 := (iI_le (Int.le_trans (by decide) x0_a) (Int.le_trans x0_b (by decide)) (Int.le_trans (by decide) z1_a) (Int.le_trans z1_b (by decide))).mp c_2
        refine lv_iconst (v := iI (-1)) hx hb dX9_placeOf_34 (by decide +kernel) ?_
        exact ret _ (-1) _ _ _ _ _ [0] dX9_placeOf_35 ⟨rfl, (show (-1) ≤ (-1) from by decide), (show ((-1) : Int) ≤ 8 from by decide), (show 0 ≤ ((x0 - (-1)) - 1) from by omega)⟩ w (by decide) rfl
      · replace c_2 : z1 < x0 := Int.not_le.mp (fun h => c_2 ((iI_le (Int.le_trans (by decide) x0_a) (Int.le_trans x0_b (by decide)) (Int.le_trans (by decide) z1_a) (Int.le_trans z1_b (by decide))).mpr h))
        refine lv_iload hx hb dX9_placeOf_9 (lv_at hl 0 rfl) ?_
        refine lv_aload_n hx hb dX9_placeOf_11 rfl (lv_at hl 1 rfl) ?_
        refine r_alen (v := iI 3) M w 0 1 rfl rfl (show Int32.ofNat 3 = iI 3 from by decide +kernel) dX9_placeOf_12 ?_
        refine lv_icmp_ge (tgt := 34) hx hb dX9_placeOf_13 (by decide) (fun c_3 => ?_) (fun c_3 => ?_)
        · replace c_3 := (iI_le (by decide) (by decide) (Int.le_trans (by decide) z1_a) (Int.le_trans z1_b (by decide))).mp c_3
          refine lv_iconst (v := iI (-1)) hx hb dX9_placeOf_34 (by decide +kernel) ?_
          exact ret _ (-1) _ _ _ _ _ [0] dX9_placeOf_35 ⟨rfl, (show (-1) ≤ (-1) from by decide), (show ((-1) : Int) ≤ 8 from by decide), (show 0 ≤ ((x0 - (-1)) - 1) from by omega)⟩ w (by decide) rfl
        · replace c_3 : z1 < 3 := Int.not_le.mp (fun h => c_3 ((iI_le (by decide) (by decide) (Int.le_trans (by decide) z1_a) (Int.le_trans z1_b (by decide))).mpr h))
          refine lv_aload_n hx hb dX9_placeOf_16 rfl (lv_at hl 1 rfl) ?_
          refine lv_iload hx hb dX9_placeOf_17 (lv_at hl 0 rfl) ?_
          refine r_lald (v := _) M w 0 rfl (iI_in (by omega) (by omega) (by decide)) rfl dX9_placeOf_19 ?_
          refine b_anyl (fun fy4 => ?_)
          refine lv_lload_n hx hb dX9_placeOf_20 rfl (lv_at hl 3 rfl) ?_
          refine r_lcmp (v := _) M rfl dX9_placeOf_21 ?_
          refine b_any (fun z5 z5_a z5_b => ?_)
          refine lv_if_ne (tgt := 28) hx hb dX9_placeOf_22 (by decide) (fun c_6 => ?_) (fun c_6 => ?_)
          · replace c_6 : ¬ z5 = 0 := fun h => c_6 ((iz_eq (Int.le_trans (by decide) z5_a) (Int.le_trans z5_b (by decide))).mpr h)
            refine lv_iinc (v := iI (z1 + 1)) (lv' := [(4, .int (iI (z1 + 1))), (0, .ref a0), (1, .int (iI x0)), (2, .long y0)]) hx hb dX9_placeOf_28 hl (k := 0) rfl (ii_inc (by decide +kernel)) (by decide) rfl (fun ls hl => ?_)
            refine lv_goto (tgt := 3) hx hb dX9_placeOf_31 (by decide) ?_
            exact ih1 (z1 + 1) _ _ _ (by omega) (by omega) (by omega) w (lv_sub hl [0, 1, 2, 3] rfl)
          · replace c_6 := (iz_eq (Int.le_trans (by decide) z5_a) (Int.le_trans z5_b (by decide))).mp c_6
            refine lv_iload hx hb dX9_placeOf_25 (lv_at hl 0 rfl) ?_
            exact ret _ z1 _ _ _ _ _ [0] dX9_placeOf_27 ⟨rfl, (show (-1) ≤ z1 from by omega), (show z1 ≤ 8 from by omega), (show 0 ≤ ((x0 - z1) - 1) from by omega)⟩ w (by decide) rfl
  exact loop1 (((x0 - 0) : Int).toNat + 1) 0 _ _ _ (by decide) (by decide) (Nat.lt_succ_self _) w (lv_sub hl [0, 1, 2, 3] rfl)
set_option maxRecDepth 100000 in
set_option maxHeartbeats 4000000 in
theorem c260_X9_newNameAt (l : Launch) (D : va_G) (T : Nat → ClassId) (sz : Nat) (a0 : Nat) (a1 : Nat) (a2 : Nat) (a3 : Nat) (a4 : Nat) (a5 : Nat) (a6 : Nat) (a7 : Nat) (a8 : Nat) (a9 : Nat) (a10 : Nat) (x0 : Int) (x1 : Int) (x2 : Int) (r0 : Int32) (x3 : Int) (r1 : Int32) (r2 : Int32) (r3 : Int32) (r4 : Int32) (a11 : Nat) (x4 : Int) (r5 : Int32) (x5 : Int) (r6 : Int32) (r7 : Int32) (o0 : Option Nat) (y0 : Int64) (r8 : Int32) (r9 : Int32) (r10 : Int32) (r11 : Int32) (h0 : Nat → Int64) (h1 : Nat → Int64) (x0_a : 0 ≤ x0) (x0_b : x0 ≤ 9) (x1_a : 0 ≤ x1) (x1_b : x1 ≤ 3) (x2_a : (-2147483648) ≤ x2) (x2_b : x2 ≤ 2147483647) (x3_a : (-2147483648) ≤ x3) (x3_b : x3 ≤ 2147483647) (x4_a : 0 ≤ x4) (x4_b : x4 ≤ 940) (x5_a : 0 ≤ x5) (x5_b : x5 ≤ 940) (o0_h : wok T o0) : Met l yX9_newNameAt (Cond.code yX9_newNameAt cX9_newNameAt 2 (some .boolean) :: GW) (Rm 1 0 0) (cPre [.ref a0, .ref a1] D T [(a0, .inr (9, [.ref a2, .ref a3, .ref a4, .ref a5, .ref a6, .ref a7, .ref a8, .ref a9, .ref a10, .int (iI x0), .int (iI x1), .int (iI x2), .int r0, .int (iI x3), .int r1, .int r2, .int r3, .int r4])), (a1, .inr (8, [.ref a11, .int (iI x4), .int r5, .int (iI x5), .int r6, .int r7, (va_rf o0), .long y0, .int r8, .int r9, .int r10, .int r11])), (a2, .inl (T 1, 9, .inr (.inl h0))), (a9, .inl (T 1, 3, .inr (.inl h1)))] sz) (qI D [(a0, .inr (9, [.ref a2, .ref a3, .ref a4, .ref a5, .ref a6, .ref a7, .ref a8, .ref a9, .ref a10, .int (iI x0), .int (iI x1), .int (iI x2), .int r0, .int (iI x3), .int r1, .int r2, .int r3, .int r4])), (a1, .inr (8, [.ref a11, .int (iI x4), .int r5, .int (iI x5), .int r6, .int r7, (va_rf o0), .long y0, .int r8, .int r9, .int r10, .int r11])), (a2, .inl (T 1, 9, .inr (.inl h0))), (a9, .inl (T 1, 3, .inr (.inl h1)))] sz (fun (v : Int32) (u : Int × Int32 × Int32) => iI u.1 = v ∧ 0 ≤ u.1 ∧ u.1 ≤ 1) (fun u => [(a0, .inr (9, [.ref a2, .ref a3, .ref a4, .ref a5, .ref a6, .ref a7, .ref a8, .ref a9, .ref a10, .int (iI x0), .int (iI x1), .int (iI x2), .int r0, .int (iI x3), .int r1, .int r2, .int r3, .int r4])), (a1, .inr (8, [.ref a11, .int (iI x4), .int r5, .int (iI x5), .int r6, .int r7, (va_rf o0), .long y0, .int r8, .int r9, .int u.2.1, .int u.2.2])), (a2, .inl (T 1, 9, .inr (.inl h0))), (a9, .inl (T 1, 3, .inr (.inl h1)))])) 0 0 (va_A [(a0, .inr (9, [.ref a2, .ref a3, .ref a4, .ref a5, .ref a6, .ref a7, .ref a8, .ref a9, .ref a10, .int (iI x0), .int (iI x1), .int (iI x2), .int r0, .int (iI x3), .int r1, .int r2, .int r3, .int r4])), (a1, .inr (8, [.ref a11, .int (iI x4), .int r5, .int (iI x5), .int r6, .int r7, (va_rf o0), .long y0, .int r8, .int r9, .int r10, .int r11])), (a2, .inl (T 1, 9, .inr (.inl h0))), (a9, .inl (T 1, 3, .inr (.inl h1)))] sz) := by
  refine e_Z (by decide) (Nat.le_of_ble_eq_true rfl) ?_
  intro p e s m args below meth c A Q ls M hin w ret hl
  have hx := M.1.1
  have hb := M.1.2.1
  have hl : lv_has ls 2 [(0, .ref a0), (1, .ref a1)] := hl
  refine lv_aload_n hx hb dX9_newNameAt_0 rfl (lv_at hl 1 rfl) ?_
  refine r_getN (v := .int r7) M w 1 5 clX8 rfl (by decide) N169 rfl rfl dX9_newNameAt_1 ?_
  refine b_any (fun z1 z1_a z1_b => ?_)
  refine lv_iconst (v := iI 3) hx hb dX9_newNameAt_4 (by decide +kernel) ?_
  refine lv_icmp_eq (tgt := 14) hx hb dX9_newNameAt_5 (by decide) (fun c_2 => ?_) (fun c_2 => ?_)
  · replace c_2 := (iI_eq (Int.le_trans (by decide) z1_a) (Int.le_trans z1_b (by decide)) (by decide) (by decide)).mp c_2
    refine lv_aload_n hx hb dX9_newNameAt_14 rfl (lv_at hl 0 rfl) ?_
    refine r_get (v := .ref a2) M w 0 0 clX9 rfl (by decide) G366 rfl rfl dX9_newNameAt_15 ?_
    refine lv_aload_n hx hb dX9_newNameAt_18 rfl (lv_at hl 0 rfl) ?_
    refine r_get (v := .int (iI x0)) M w 0 9 clX9 rfl (by decide) G387 rfl rfl dX9_newNameAt_19 ?_
    refine lv_aload_n hx hb dX9_newNameAt_22 rfl (lv_at hl 1 rfl) ?_
    refine r_getN (v := .long y0) M w 1 7 clX8 rfl (by decide) N175 rfl rfl dX9_newNameAt_23 ?_
    refine k_I (ce := 0) (sl := 0) (rest := []) (wr := [(a0, .inr (9, [.ref a2, .ref a3, .ref a4, .ref a5, .ref a6, .ref a7, .ref a8, .ref a9, .ref a10, .int (iI x0), .int (iI x1), .int (iI x2), .int r0, .int (iI x3), .int r1, .int r2, .int r3, .int r4])), (a1, .inr (8, [.ref a11, .int (iI x4), .int r5, .int (iI x5), .int r6, .int r7, (va_rf o0), .long y0, .int r8, .int r9, .int r10, .int r11])), (a9, .inl (T 1, 3, .inr (.inl h1)))]) (r_S (f := 0) [2] M w V_HookedCity_Town_182 G719 (c254_X9_placeOf l D T _ a2 x0 y0 h0 x0_a x0_b) rfl (by decide) rfl hl.1 rfl (Nat.le_of_ble_eq_true rfl) dX9_newNameAt_26 (by decide) (by decide) (by decide) (by decide)) w [2] [0, 1, 3] rfl rfl (by decide) (by decide) rfl rfl (fun v z3 H locs hp w => ?_)
    have hv : iI z3 = v := hp.1
    subst hv
    have z3_a : (-1) ≤ z3 := hp.2.1
    have z3_b : z3 ≤ 8 := hp.2.2.1
    have ee4 : 0 ≤ ((x0 - z3) - 1) := hp.2.2.2
    have w : WD D A s.heap [(a0, .inr (9, [.ref a2, .ref a3, .ref a4, .ref a5, .ref a6, .ref a7, .ref a8, .ref a9, .ref a10, .int (iI x0), .int (iI x1), .int (iI x2), .int r0, .int (iI x3), .int r1, .int r2, .int r3, .int r4])), (a1, .inr (8, [.ref a11, .int (iI x4), .int r5, .int (iI x5), .int r6, .int r7, (va_rf o0), .long y0, .int r8, .int r9, .int r10, .int r11])), (a9, .inl (T 1, 3, .inr (.inl h1))), (a2, .inl (T 1, 9, .inr (.inl h0)))] H locs := w
    refine lv_iconst (v := iI (-1)) hx hb dX9_newNameAt_29 (by decide +kernel) ?_
    refine lv_icmp_ne (tgt := 52) hx hb dX9_newNameAt_30 (by decide) (fun c_5 => ?_) (fun c_5 => ?_)
    · replace c_5 : ¬ z3 = (-1) := fun h => c_5 ((iI_eq (Int.le_trans (by decide) z3_a) (Int.le_trans z3_b (by decide)) (by decide) (by decide)).mpr h)
      refine lv_aload_n hx hb dX9_newNameAt_52 rfl (lv_at hl 1 rfl) ?_
      refine lv_iconst (v := iI 3) hx hb dX9_newNameAt_53 (by decide +kernel) ?_
      refine k_I (ce := 0) (sl := 0) (rest := []) (wr := [(a0, .inr (9, [.ref a2, .ref a3, .ref a4, .ref a5, .ref a6, .ref a7, .ref a8, .ref a9, .ref a10, .int (iI x0), .int (iI x1), .int (iI x2), .int r0, .int (iI x3), .int r1, .int r2, .int r3, .int r4])), (a9, .inl (T 1, 3, .inr (.inl h1))), (a2, .inl (T 1, 9, .inr (.inl h0)))]) (r_V (f := 0) [1] M w V_HookedCity_Town_150 G710 G711 (c243_X8_fail l D T _ a1 3 a11 x4 r5 x5 r6 r7 o0 y0 r8 r9 r10 r11 (by decide) (by decide) x4_a x4_b x5_a x5_b o0_h) 1 clX8 rfl rfl (by decide) rfl hl.1 rfl (Nat.le_of_ble_eq_true rfl) dX9_newNameAt_54 (by decide) (by decide) (by decide) (by decide)) w [1] [0, 2, 3] rfl rfl (by decide) (by decide) rfl rfl (fun v u H locs hp w => ?_)
      obtain ⟨z6, fr7, fr8⟩ := u
      have hv : iI z6 = v := hp.1
      subst hv
      have z6_a : 0 ≤ z6 := hp.2.1
      have z6_b : z6 ≤ 1 := hp.2.2.1
      have w : WD D A s.heap [(a0, .inr (9, [.ref a2, .ref a3, .ref a4, .ref a5, .ref a6, .ref a7, .ref a8, .ref a9, .ref a10, .int (iI x0), .int (iI x1), .int (iI x2), .int r0, .int (iI x3), .int r1, .int r2, .int r3, .int r4])), (a9, .inl (T 1, 3, .inr (.inl h1))), (a2, .inl (T 1, 9, .inr (.inl h0))), (a1, .inr (8, [.ref a11, .int (iI x4), .int r5, .int (iI x5), .int r6, .int r7, (va_rf o0), .long y0, .int r8, .int r9, .int fr7, .int fr8]))] H locs := w
      rcases hp.2.2.2 with hr
      · subst hr
        exact ret _ (0, fr7, fr8) _ _ _ _ _ [0, 3, 2, 1] dX9_newNameAt_57 (by decide +kernel) ⟨rfl, (show (0 : Int) ≤ 0 from by decide), (show (0 : Int) ≤ 1 from by decide)⟩ w (by decide) rfl
    · replace c_5 := (iI_eq (Int.le_trans (by decide) z3_a) (Int.le_trans z3_b (by decide)) (by decide) (by decide)).mp c_5
      refine lv_aload_n hx hb dX9_newNameAt_33 rfl (lv_at hl 0 rfl) ?_
      refine r_get (v := .ref a9) M w 0 7 clX9 rfl (by decide) G383 rfl rfl dX9_newNameAt_34 ?_
      refine lv_aload_n hx hb dX9_newNameAt_37 rfl (lv_at hl 0 rfl) ?_
      refine r_get (v := .int (iI x1)) M w 0 10 clX9 rfl (by decide) G393 rfl rfl dX9_newNameAt_38 ?_
      refine lv_aload_n hx hb dX9_newNameAt_41 rfl (lv_at hl 1 rfl) ?_
      refine r_getN (v := .long y0) M w 1 7 clX8 rfl (by decide) N175 rfl rfl dX9_newNameAt_42 ?_
      refine k_I (ce := 0) (sl := 0) (rest := []) (wr := [(a0, .inr (9, [.ref a2, .ref a3, .ref a4, .ref a5, .ref a6, .ref a7, .ref a8, .ref a9, .ref a10, .int (iI x0), .int (iI x1), .int (iI x2), .int r0, .int (iI x3), .int r1, .int r2, .int r3, .int r4])), (a1, .inr (8, [.ref a11, .int (iI x4), .int r5, .int (iI x5), .int r6, .int r7, (va_rf o0), .long y0, .int r8, .int r9, .int r10, .int r11])), (a2, .inl (T 1, 9, .inr (.inl h0)))]) (r_S (f := 0) [2] M w V_HookedCity_Town_182 G719 (c259_X9_placeOf l D T _ a9 x1 y0 h1 (by omega) (by omega)) rfl (by decide) rfl hl.1 rfl (Nat.le_of_ble_eq_true rfl) dX9_newNameAt_45 (by decide) (by decide) (by decide) (by decide)) w [2] [0, 1, 3] rfl rfl (by decide) (by decide) rfl rfl (fun v z9 H locs hp w => ?_)
      have hv : iI z9 = v := hp.1
      subst hv
      have z9_a : (-1) ≤ z9 := hp.2.1
      have z9_b : z9 ≤ 8 := hp.2.2.1
      have ee10 : 0 ≤ ((x1 - z9) - 1) := hp.2.2.2
      have w : WD D A s.heap [(a0, .inr (9, [.ref a2, .ref a3, .ref a4, .ref a5, .ref a6, .ref a7, .ref a8, .ref a9, .ref a10, .int (iI x0), .int (iI x1), .int (iI x2), .int r0, .int (iI x3), .int r1, .int r2, .int r3, .int r4])), (a1, .inr (8, [.ref a11, .int (iI x4), .int r5, .int (iI x5), .int r6, .int r7, (va_rf o0), .long y0, .int r8, .int r9, .int r10, .int r11])), (a2, .inl (T 1, 9, .inr (.inl h0))), (a9, .inl (T 1, 3, .inr (.inl h1)))] H locs := w
      refine lv_iconst (v := iI (-1)) hx hb dX9_newNameAt_48 (by decide +kernel) ?_
      refine lv_icmp_eq (tgt := 58) hx hb dX9_newNameAt_49 (by decide) (fun c_11 => ?_) (fun c_11 => ?_)
      · replace c_11 := (iI_eq (Int.le_trans (by decide) z9_a) (Int.le_trans z9_b (by decide)) (by decide) (by decide)).mp c_11
        refine lv_iconst (v := iI 1) hx hb dX9_newNameAt_58 (by decide +kernel) ?_
        exact ret _ (1, r10, r11) _ _ _ _ _ [0, 1, 2, 3] dX9_newNameAt_59 (by decide +kernel) ⟨rfl, (show (0 : Int) ≤ 1 from by decide), (show (1 : Int) ≤ 1 from by decide)⟩ w (by decide) rfl
      · replace c_11 : ¬ z9 = (-1) := fun h => c_11 ((iI_eq (Int.le_trans (by decide) z9_a) (Int.le_trans z9_b (by decide)) (by decide) (by decide)).mpr h)
        refine lv_aload_n hx hb dX9_newNameAt_52 rfl (lv_at hl 1 rfl) ?_
        refine lv_iconst (v := iI 3) hx hb dX9_newNameAt_53 (by decide +kernel) ?_
        refine k_I (ce := 0) (sl := 0) (rest := []) (wr := [(a0, .inr (9, [.ref a2, .ref a3, .ref a4, .ref a5, .ref a6, .ref a7, .ref a8, .ref a9, .ref a10, .int (iI x0), .int (iI x1), .int (iI x2), .int r0, .int (iI x3), .int r1, .int r2, .int r3, .int r4])), (a2, .inl (T 1, 9, .inr (.inl h0))), (a9, .inl (T 1, 3, .inr (.inl h1)))]) (r_V (f := 0) [1] M w V_HookedCity_Town_150 G710 G711 (c243_X8_fail l D T _ a1 3 a11 x4 r5 x5 r6 r7 o0 y0 r8 r9 r10 r11 (by decide) (by decide) x4_a x4_b x5_a x5_b o0_h) 1 clX8 rfl rfl (by decide) rfl hl.1 rfl (Nat.le_of_ble_eq_true rfl) dX9_newNameAt_54 (by decide) (by decide) (by decide) (by decide)) w [1] [0, 2, 3] rfl rfl (by decide) (by decide) rfl rfl (fun v u H locs hp w => ?_)
        obtain ⟨z12, fr13, fr14⟩ := u
        have hv : iI z12 = v := hp.1
        subst hv
        have z12_a : 0 ≤ z12 := hp.2.1
        have z12_b : z12 ≤ 1 := hp.2.2.1
        have w : WD D A s.heap [(a0, .inr (9, [.ref a2, .ref a3, .ref a4, .ref a5, .ref a6, .ref a7, .ref a8, .ref a9, .ref a10, .int (iI x0), .int (iI x1), .int (iI x2), .int r0, .int (iI x3), .int r1, .int r2, .int r3, .int r4])), (a2, .inl (T 1, 9, .inr (.inl h0))), (a9, .inl (T 1, 3, .inr (.inl h1))), (a1, .inr (8, [.ref a11, .int (iI x4), .int r5, .int (iI x5), .int r6, .int r7, (va_rf o0), .long y0, .int r8, .int r9, .int fr13, .int fr14]))] H locs := w
        rcases hp.2.2.2 with hr
        · subst hr
          exact ret _ (0, fr13, fr14) _ _ _ _ _ [0, 3, 1, 2] dX9_newNameAt_57 (by decide +kernel) ⟨rfl, (show (0 : Int) ≤ 0 from by decide), (show (0 : Int) ≤ 1 from by decide)⟩ w (by decide) rfl
  · replace c_2 : ¬ z1 = 3 := fun h => c_2 ((iI_eq (Int.le_trans (by decide) z1_a) (Int.le_trans z1_b (by decide)) (by decide) (by decide)).mpr h)
    refine lv_aload_n hx hb dX9_newNameAt_8 rfl (lv_at hl 1 rfl) ?_
    refine lv_iconst (v := iI 1) hx hb dX9_newNameAt_9 (by decide +kernel) ?_
    refine k_I (ce := 0) (sl := 0) (rest := []) (wr := [(a0, .inr (9, [.ref a2, .ref a3, .ref a4, .ref a5, .ref a6, .ref a7, .ref a8, .ref a9, .ref a10, .int (iI x0), .int (iI x1), .int (iI x2), .int r0, .int (iI x3), .int r1, .int r2, .int r3, .int r4])), (a2, .inl (T 1, 9, .inr (.inl h0))), (a9, .inl (T 1, 3, .inr (.inl h1)))]) (r_V (f := 0) [1] M w V_HookedCity_Town_150 G710 G711 (c243_X8_fail l D T _ a1 1 a11 x4 r5 x5 r6 r7 o0 y0 r8 r9 r10 r11 (by decide) (by decide) x4_a x4_b x5_a x5_b o0_h) 1 clX8 rfl rfl (by decide) rfl hl.1 rfl (Nat.le_of_ble_eq_true rfl) dX9_newNameAt_10 (by decide) (by decide) (by decide) (by decide)) w [1] [0, 2, 3] rfl rfl (by decide) (by decide) rfl rfl (fun v u H locs hp w => ?_)
    obtain ⟨z15, fr16, fr17⟩ := u
    have hv : iI z15 = v := hp.1
    subst hv
    have z15_a : 0 ≤ z15 := hp.2.1
    have z15_b : z15 ≤ 1 := hp.2.2.1
    have w : WD D A s.heap [(a0, .inr (9, [.ref a2, .ref a3, .ref a4, .ref a5, .ref a6, .ref a7, .ref a8, .ref a9, .ref a10, .int (iI x0), .int (iI x1), .int (iI x2), .int r0, .int (iI x3), .int r1, .int r2, .int r3, .int r4])), (a2, .inl (T 1, 9, .inr (.inl h0))), (a9, .inl (T 1, 3, .inr (.inl h1))), (a1, .inr (8, [.ref a11, .int (iI x4), .int r5, .int (iI x5), .int r6, .int r7, (va_rf o0), .long y0, .int r8, .int r9, .int fr16, .int fr17]))] H locs := w
    rcases hp.2.2.2 with hr
    · subst hr
      exact ret _ (0, fr16, fr17) _ _ _ _ _ [0, 3, 1, 2] dX9_newNameAt_13 (by decide +kernel) ⟨rfl, (show (0 : Int) ≤ 0 from by decide), (show (0 : Int) ≤ 1 from by decide)⟩ w (by decide) rfl
set_option maxRecDepth 100000 in
set_option maxHeartbeats 4000000 in
theorem c261_X9_readMaid (l : Launch) (D : va_G) (T : Nat → ClassId) (sz : Nat) (a0 : Nat) (a1 : Nat) (a2 : Nat) (a3 : Nat) (a4 : Nat) (a5 : Nat) (a6 : Nat) (a7 : Nat) (a8 : Nat) (a9 : Nat) (a10 : Nat) (x0 : Int) (x1 : Int) (x2 : Int) (r0 : Int32) (x3 : Int) (r1 : Int32) (r2 : Int32) (r3 : Int32) (r4 : Int32) (a11 : Nat) (x4 : Int) (r5 : Int32) (x5 : Int) (r6 : Int32) (r7 : Int32) (o0 : Option Nat) (y0 : Int64) (r8 : Int32) (r9 : Int32) (r10 : Int32) (r11 : Int32) (h0 : Nat → Int64) (h1 : Nat → Int64) (f0 : Nat → Int32) (f1 : Nat → Int32) (x0_a : 0 ≤ x0) (x0_b : x0 ≤ 9) (x1_a : 0 ≤ x1) (x1_b : x1 ≤ 3) (x2_a : (-2147483648) ≤ x2) (x2_b : x2 ≤ 2147483647) (x3_a : (-2147483648) ≤ x3) (x3_b : x3 ≤ 2147483647) (x4_a : 0 ≤ x4) (x4_b : x4 ≤ 940) (x5_a : 0 ≤ x5) (x5_b : x5 ≤ 940) (o0_h : wok T o0) : Met l yX9_readMaid (Cond.code yX9_readMaid cX9_readMaid 2 (some .boolean) :: GW) (Rm 5 0 0) (cPre [.ref a0, .ref a1] D T [(a0, .inr (9, [.ref a2, .ref a3, .ref a4, .ref a5, .ref a6, .ref a7, .ref a8, .ref a9, .ref a10, .int (iI x0), .int (iI x1), .int (iI x2), .int r0, .int (iI x3), .int r1, .int r2, .int r3, .int r4])), (a1, .inr (8, [.ref a11, .int (iI x4), .int r5, .int (iI x5), .int r6, .int r7, (va_rf o0), .long y0, .int r8, .int r9, .int r10, .int r11])), (a2, .inl (T 1, 9, .inr (.inl h0))), (a9, .inl (T 1, 3, .inr (.inl h1))), (a10, .inl (T 0, 3, .inl f0)), (a11, .inl (T 0, 940, .inl f1))] sz) (qI D [(a0, .inr (9, [.ref a2, .ref a3, .ref a4, .ref a5, .ref a6, .ref a7, .ref a8, .ref a9, .ref a10, .int (iI x0), .int (iI x1), .int (iI x2), .int r0, .int (iI x3), .int r1, .int r2, .int r3, .int r4])), (a1, .inr (8, [.ref a11, .int (iI x4), .int r5, .int (iI x5), .int r6, .int r7, (va_rf o0), .long y0, .int r8, .int r9, .int r10, .int r11])), (a2, .inl (T 1, 9, .inr (.inl h0))), (a9, .inl (T 1, 3, .inr (.inl h1))), (a10, .inl (T 0, 3, .inl f0)), (a11, .inl (T 0, 940, .inl f1))] sz (fun (v : Int32) (u : Int × Int × Int × Int32 × Int32 × Option Nat × Int64 × Int32 × Int32 × Int32 × Int32 × (Nat → Int64) × (Nat → Int32)) => iI u.1 = v ∧ 0 ≤ u.1 ∧ u.1 ≤ 1 ∧ 0 ≤ u.2.1 ∧ u.2.1 ≤ 3 ∧ 0 ≤ u.2.2.1 ∧ u.2.2.1 ≤ 940 ∧ wok T u.2.2.2.2.2.1) (fun u => [(a0, .inr (9, [.ref a2, .ref a3, .ref a4, .ref a5, .ref a6, .ref a7, .ref a8, .ref a9, .ref a10, .int (iI x0), .int (iI u.2.1), .int (iI x2), .int r0, .int (iI x3), .int r1, .int r2, .int r3, .int r4])), (a1, .inr (8, [.ref a11, .int (iI x4), .int r5, .int (iI u.2.2.1), .int u.2.2.2.1, .int u.2.2.2.2.1, (va_rf u.2.2.2.2.2.1), .long u.2.2.2.2.2.2.1, .int u.2.2.2.2.2.2.2.1, .int u.2.2.2.2.2.2.2.2.1, .int u.2.2.2.2.2.2.2.2.2.1, .int u.2.2.2.2.2.2.2.2.2.2.1])), (a2, .inl (T 1, 9, .inr (.inl h0))), (a9, .inl (T 1, 3, .inr (.inl u.2.2.2.2.2.2.2.2.2.2.2.1))), (a10, .inl (T 0, 3, .inl u.2.2.2.2.2.2.2.2.2.2.2.2)), (a11, .inl (T 0, 940, .inl f1))])) 0 0 (va_A [(a0, .inr (9, [.ref a2, .ref a3, .ref a4, .ref a5, .ref a6, .ref a7, .ref a8, .ref a9, .ref a10, .int (iI x0), .int (iI x1), .int (iI x2), .int r0, .int (iI x3), .int r1, .int r2, .int r3, .int r4])), (a1, .inr (8, [.ref a11, .int (iI x4), .int r5, .int (iI x5), .int r6, .int r7, (va_rf o0), .long y0, .int r8, .int r9, .int r10, .int r11])), (a2, .inl (T 1, 9, .inr (.inl h0))), (a9, .inl (T 1, 3, .inr (.inl h1))), (a10, .inl (T 0, 3, .inl f0)), (a11, .inl (T 0, 940, .inl f1))] sz) := by
  refine e_Z (by decide) (Nat.le_of_ble_eq_true rfl) ?_
  intro p e s m args below meth c A Q ls M hin w ret hl
  have hx := M.1.1
  have hb := M.1.2.1
  have hl : lv_has ls 2 [(0, .ref a0), (1, .ref a1)] := hl
  refine lv_aload_n hx hb dX9_readMaid_0 rfl (lv_at hl 0 rfl) ?_
  refine r_get (v := .int (iI x1)) M w 0 10 clX9 rfl (by decide) G393 rfl rfl dX9_readMaid_1 ?_
  refine lv_iconst (v := iI 3) hx hb dX9_readMaid_4 (by decide +kernel) ?_
  refine lv_icmp_lt (tgt := 14) hx hb dX9_readMaid_5 (by decide) (fun c_1 => ?_) (fun c_1 => ?_)
  · replace c_1 := (iI_lt (Int.le_trans (by decide) x1_a) (Int.le_trans x1_b (by decide)) (by decide) (by decide)).mp c_1
    refine lv_aload_n hx hb dX9_readMaid_14 rfl (lv_at hl 1 rfl) ?_
    refine k_V (ce := 0) (sl := 0) (rest := []) (wr := [(a0, .inr (9, [.ref a2, .ref a3, .ref a4, .ref a5, .ref a6, .ref a7, .ref a8, .ref a9, .ref a10, .int (iI x0), .int (iI x1), .int (iI x2), .int r0, .int (iI x3), .int r1, .int r2, .int r3, .int r4])), (a2, .inl (T 1, 9, .inr (.inl h0))), (a9, .inl (T 1, 3, .inr (.inl h1))), (a10, .inl (T 0, 3, .inl f0))]) (r_V (f := 4) [1, 5] M w V_HookedCity_Town_154 G587 G588 (c238_X8_step l D T _ a1 a11 x4 r5 x5 r6 r7 o0 y0 r8 r9 r10 r11 f1 x4_a x4_b x5_a x5_b o0_h) 1 clX8 rfl rfl (by decide) rfl hl.1 rfl (Nat.le_of_ble_eq_true rfl) dX9_readMaid_15 (by decide) (by decide) (by decide) (by decide)) w [1, 5] [0, 2, 3, 4] rfl rfl (by decide) (by decide) rfl rfl (fun u H locs hp w => ?_)
    obtain ⟨z2, fr3, fr4, fo5, fy6, fr7, fr8⟩ := u
    have z2_a : 0 ≤ z2 := hp.1
    have z2_b : z2 ≤ 940 := hp.2.1
    have fo5_h : wok T fo5 := hp.2.2
    have w : WD D A s.heap [(a0, .inr (9, [.ref a2, .ref a3, .ref a4, .ref a5, .ref a6, .ref a7, .ref a8, .ref a9, .ref a10, .int (iI x0), .int (iI x1), .int (iI x2), .int r0, .int (iI x3), .int r1, .int r2, .int r3, .int r4])), (a2, .inl (T 1, 9, .inr (.inl h0))), (a9, .inl (T 1, 3, .inr (.inl h1))), (a10, .inl (T 0, 3, .inl f0)), (a1, .inr (8, [.ref a11, .int (iI x4), .int r5, .int (iI z2), .int fr3, .int fr4, (va_rf fo5), .long fy6, .int fr7, .int fr8, .int r10, .int r11])), (a11, .inl (T 0, 940, .inl f1))] H locs := w
    refine lv_aload_n hx hb dX9_readMaid_18 rfl (lv_at hl 0 rfl) ?_
    refine lv_aload_n hx hb dX9_readMaid_19 rfl (lv_at hl 1 rfl) ?_
    refine k_I (ce := 0) (sl := 0) (rest := []) (wr := [(a10, .inl (T 0, 3, .inl f0)), (a11, .inl (T 0, 940, .inl f1))]) (r_V (f := 1) [0, 4, 1, 2] M w V_HookedCity_Town_157 G716 G5 (c260_X9_newNameAt l D T _ a0 a1 a2 a3 a4 a5 a6 a7 a8 a9 a10 x0 x1 x2 r0 x3 r1 r2 r3 r4 a11 x4 r5 z2 fr3 fr4 fo5 fy6 fr7 fr8 r10 r11 h0 h1 x0_a x0_b x1_a x1_b x2_a x2_b x3_a x3_b x4_a x4_b z2_a z2_b fo5_h) 0 clX9 rfl rfl (by decide) rfl hl.1 rfl (Nat.le_of_ble_eq_true rfl) dX9_readMaid_20 (by decide) (by decide) (by decide) (by decide)) w [0, 4, 1, 2] [3, 5] rfl rfl (by decide) (by decide) rfl rfl (fun v u H locs hp w => ?_)
    obtain ⟨z9, fr10, fr11⟩ := u
    have hv : iI z9 = v := hp.1
    subst hv
    have z9_a : 0 ≤ z9 := hp.2.1
    have z9_b : z9 ≤ 1 := hp.2.2
    have w : WD D A s.heap [(a10, .inl (T 0, 3, .inl f0)), (a11, .inl (T 0, 940, .inl f1)), (a0, .inr (9, [.ref a2, .ref a3, .ref a4, .ref a5, .ref a6, .ref a7, .ref a8, .ref a9, .ref a10, .int (iI x0), .int (iI x1), .int (iI x2), .int r0, .int (iI x3), .int r1, .int r2, .int r3, .int r4])), (a1, .inr (8, [.ref a11, .int (iI x4), .int r5, .int (iI z2), .int fr3, .int fr4, (va_rf fo5), .long fy6, .int fr7, .int fr8, .int fr10, .int fr11])), (a2, .inl (T 1, 9, .inr (.inl h0))), (a9, .inl (T 1, 3, .inr (.inl h1)))] H locs := w
    refine lv_if_ne (tgt := 28) hx hb dX9_readMaid_23 (by decide) (fun c_12 => ?_) (fun c_12 => ?_)
    · replace c_12 : ¬ z9 = 0 := fun h => c_12 ((iz_eq (Int.le_trans (by decide) z9_a) (Int.le_trans z9_b (by decide))).mpr h)
      refine lv_aload_n hx hb dX9_readMaid_28 rfl (lv_at hl 0 rfl) ?_
      refine r_get (v := .ref a9) M w 2 7 clX9 rfl (by decide) G383 rfl rfl dX9_readMaid_29 ?_
      refine lv_aload_n hx hb dX9_readMaid_32 rfl (lv_at hl 0 rfl) ?_
      refine r_get (v := .int (iI x1)) M w 2 10 clX9 rfl (by decide) G393 rfl rfl dX9_readMaid_33 ?_
      refine lv_aload_n hx hb dX9_readMaid_36 rfl (lv_at hl 1 rfl) ?_
      refine r_getN (v := .long fy6) M w 3 7 clX8 rfl (by decide) N175 rfl rfl dX9_readMaid_37 ?_
      refine r_last (ws' := [(a10, .inl (T 0, 3, .inl f0)), (a11, .inl (T 0, 940, .inl f1)), (a0, .inr (9, [.ref a2, .ref a3, .ref a4, .ref a5, .ref a6, .ref a7, .ref a8, .ref a9, .ref a10, .int (iI x0), .int (iI x1), .int (iI x2), .int r0, .int (iI x3), .int r1, .int r2, .int r3, .int r4])), (a1, .inr (8, [.ref a11, .int (iI x4), .int r5, .int (iI z2), .int fr3, .int fr4, (va_rf fo5), .long fy6, .int fr7, .int fr8, .int fr10, .int fr11])), (a2, .inl (T 1, 9, .inr (.inl h0))), (a9, .inl (T 1, 3, .inr (.inl (vp_updL h1 (Int32.toNatClampNeg (iI x1)) fy6))))]) M w 5 rfl (iI_in (by omega) (by omega) (by decide)) rfl dX9_readMaid_40 (fun H locs w => ?_)
      refine lv_aload_n hx hb dX9_readMaid_41 rfl (lv_at hl 1 rfl) ?_
      refine k_V (ce := 0) (sl := 0) (rest := []) (wr := [(a10, .inl (T 0, 3, .inl f0)), (a0, .inr (9, [.ref a2, .ref a3, .ref a4, .ref a5, .ref a6, .ref a7, .ref a8, .ref a9, .ref a10, .int (iI x0), .int (iI x1), .int (iI x2), .int r0, .int (iI x3), .int r1, .int r2, .int r3, .int r4])), (a2, .inl (T 1, 9, .inr (.inl h0))), (a9, .inl (T 1, 3, .inr (.inl (vp_updL h1 (Int32.toNatClampNeg (iI x1)) fy6))))]) (r_V (f := 4) [3, 1] M w V_HookedCity_Town_154 G587 G588 (c238_X8_step l D T _ a1 a11 x4 r5 z2 fr3 fr4 fo5 fy6 fr7 fr8 fr10 fr11 f1 x4_a x4_b z2_a z2_b fo5_h) 3 clX8 rfl rfl (by decide) rfl hl.1 rfl (Nat.le_of_ble_eq_true rfl) dX9_readMaid_42 (by decide) (by decide) (by decide) (by decide)) w [3, 1] [0, 2, 4, 5] rfl rfl (by decide) (by decide) rfl rfl (fun u H locs hp w => ?_)
      obtain ⟨z13, fr14, fr15, fo16, fy17, fr18, fr19⟩ := u
      have z13_a : 0 ≤ z13 := hp.1
      have z13_b : z13 ≤ 940 := hp.2.1
      have fo16_h : wok T fo16 := hp.2.2
      have w : WD D A s.heap [(a10, .inl (T 0, 3, .inl f0)), (a0, .inr (9, [.ref a2, .ref a3, .ref a4, .ref a5, .ref a6, .ref a7, .ref a8, .ref a9, .ref a10, .int (iI x0), .int (iI x1), .int (iI x2), .int r0, .int (iI x3), .int r1, .int r2, .int r3, .int r4])), (a2, .inl (T 1, 9, .inr (.inl h0))), (a9, .inl (T 1, 3, .inr (.inl (vp_updL h1 (Int32.toNatClampNeg (iI x1)) fy6)))), (a1, .inr (8, [.ref a11, .int (iI x4), .int r5, .int (iI z13), .int fr14, .int fr15, (va_rf fo16), .long fy17, .int fr18, .int fr19, .int fr10, .int fr11])), (a11, .inl (T 0, 940, .inl f1))] H locs := w
      refine lv_aload_n hx hb dX9_readMaid_45 rfl (lv_at hl 0 rfl) ?_
      refine r_get (v := .ref a10) M w 1 8 clX9 rfl (by decide) G384 rfl rfl dX9_readMaid_46 ?_
      refine lv_aload_n hx hb dX9_readMaid_49 rfl (lv_at hl 0 rfl) ?_
      refine r_get (v := .int (iI x1)) M w 1 10 clX9 rfl (by decide) G393 rfl rfl dX9_readMaid_50 ?_
      refine lv_aload_n hx hb dX9_readMaid_53 rfl (lv_at hl 1 rfl) ?_
      refine lv_iconst (v := iI 1) hx hb dX9_readMaid_54 (by decide +kernel) ?_
      refine lv_bipush (v := iI 9) hx hb dX9_readMaid_55 (by decide +kernel) ?_
      refine k_I (ce := 0) (sl := 0) (rest := [.int (iI x1), .ref a10]) (wr := [(a10, .inl (T 0, 3, .inl f0)), (a0, .inr (9, [.ref a2, .ref a3, .ref a4, .ref a5, .ref a6, .ref a7, .ref a8, .ref a9, .ref a10, .int (iI x0), .int (iI x1), .int (iI x2), .int r0, .int (iI x3), .int r1, .int r2, .int r3, .int r4])), (a2, .inl (T 1, 9, .inr (.inl h0))), (a9, .inl (T 1, 3, .inr (.inl (vp_updL h1 (Int32.toNatClampNeg (iI x1)) fy6)))), (a11, .inl (T 0, 940, .inl f1))]) (r_V (f := 1) [4] M w V_HookedCity_Town_168 G726 G727 (c245_X8_numberAt l D T _ a1 1 9 a11 x4 r5 z13 fr14 fr15 fo16 fy17 fr18 fr19 fr10 fr11 (by decide) (by decide) (by decide) (by decide) x4_a x4_b z13_a z13_b fo16_h) 4 clX8 rfl rfl (by decide) rfl hl.1 rfl (Nat.le_of_ble_eq_true rfl) dX9_readMaid_57 (by decide) (by decide) (by decide) (by decide)) w [4] [0, 1, 2, 3, 5] rfl rfl (by decide) (by decide) rfl rfl (fun v u H locs hp w => ?_)
      obtain ⟨z20, fr21, fr22⟩ := u
      have hv : iI z20 = v := hp.1
      subst hv
      have z20_a : (-2147483648) ≤ z20 := hp.2.1
      have z20_b : z20 ≤ 2147483647 := hp.2.2
      have w : WD D A s.heap [(a10, .inl (T 0, 3, .inl f0)), (a0, .inr (9, [.ref a2, .ref a3, .ref a4, .ref a5, .ref a6, .ref a7, .ref a8, .ref a9, .ref a10, .int (iI x0), .int (iI x1), .int (iI x2), .int r0, .int (iI x3), .int r1, .int r2, .int r3, .int r4])), (a2, .inl (T 1, 9, .inr (.inl h0))), (a9, .inl (T 1, 3, .inr (.inl (vp_updL h1 (Int32.toNatClampNeg (iI x1)) fy6)))), (a11, .inl (T 0, 940, .inl f1)), (a1, .inr (8, [.ref a11, .int (iI x4), .int r5, .int (iI z13), .int fr14, .int fr15, (va_rf fo16), .long fy17, .int fr18, .int fr19, .int fr21, .int fr22]))] H locs := w
      refine r_iast (ws' := [(a10, .inl (T 0, 3, .inl (upd f0 (Int32.toNatClampNeg (iI x1)) (iI z20)))), (a0, .inr (9, [.ref a2, .ref a3, .ref a4, .ref a5, .ref a6, .ref a7, .ref a8, .ref a9, .ref a10, .int (iI x0), .int (iI x1), .int (iI x2), .int r0, .int (iI x3), .int r1, .int r2, .int r3, .int r4])), (a2, .inl (T 1, 9, .inr (.inl h0))), (a9, .inl (T 1, 3, .inr (.inl (vp_updL h1 (Int32.toNatClampNeg (iI x1)) fy6)))), (a11, .inl (T 0, 940, .inl f1)), (a1, .inr (8, [.ref a11, .int (iI x4), .int r5, .int (iI z13), .int fr14, .int fr15, (va_rf fo16), .long fy17, .int fr18, .int fr19, .int fr21, .int fr22]))]) M w 0 rfl (iI_in (by omega) (by omega) (by decide)) rfl dX9_readMaid_60 (fun H locs w => ?_)
      refine lv_aload_n hx hb dX9_readMaid_61 rfl (lv_at hl 0 rfl) ?_
      refine r_get (v := .ref a10) M w 1 8 clX9 rfl (by decide) G384 rfl rfl dX9_readMaid_62 ?_
      refine lv_aload_n hx hb dX9_readMaid_65 rfl (lv_at hl 0 rfl) ?_
      refine r_get (v := .int (iI x1)) M w 1 10 clX9 rfl (by decide) G393 rfl rfl dX9_readMaid_66 ?_
      refine r_iald (v := _) M w 0 rfl (iI_in (by omega) (by omega) (by decide)) rfl dX9_readMaid_69 ?_
      refine b_any (fun z23 z23_a z23_b => ?_)
      refine lv_iconst (v := iI (-1)) hx hb dX9_readMaid_70 (by decide +kernel) ?_
      refine lv_icmp_ne (tgt := 76) hx hb dX9_readMaid_71 (by decide) (fun c_24 => ?_) (fun c_24 => ?_)
      · replace c_24 : ¬ z23 = (-1) := fun h => c_24 ((iI_eq (Int.le_trans (by decide) z23_a) (Int.le_trans z23_b (by decide)) (by decide) (by decide)).mpr h)
        refine lv_aload_n hx hb dX9_readMaid_76 rfl (lv_at hl 1 rfl) ?_
        refine k_V (ce := 0) (sl := 0) (rest := []) (wr := [(a10, .inl (T 0, 3, .inl (upd f0 (Int32.toNatClampNeg (iI x1)) (iI z20)))), (a0, .inr (9, [.ref a2, .ref a3, .ref a4, .ref a5, .ref a6, .ref a7, .ref a8, .ref a9, .ref a10, .int (iI x0), .int (iI x1), .int (iI x2), .int r0, .int (iI x3), .int r1, .int r2, .int r3, .int r4])), (a2, .inl (T 1, 9, .inr (.inl h0))), (a9, .inl (T 1, 3, .inr (.inl (vp_updL h1 (Int32.toNatClampNeg (iI x1)) fy6))))]) (r_V (f := 4) [5, 4] M w V_HookedCity_Town_154 G587 G588 (c238_X8_step l D T _ a1 a11 x4 r5 z13 fr14 fr15 fo16 fy17 fr18 fr19 fr21 fr22 f1 x4_a x4_b z13_a z13_b fo16_h) 5 clX8 rfl rfl (by decide) rfl hl.1 rfl (Nat.le_of_ble_eq_true rfl) dX9_readMaid_77 (by decide) (by decide) (by decide) (by decide)) w [5, 4] [0, 1, 2, 3] rfl rfl (by decide) (by decide) rfl rfl (fun u H locs hp w => ?_)
        obtain ⟨z25, fr26, fr27, fo28, fy29, fr30, fr31⟩ := u
        have z25_a : 0 ≤ z25 := hp.1
        have z25_b : z25 ≤ 940 := hp.2.1
        have fo28_h : wok T fo28 := hp.2.2
        have w : WD D A s.heap [(a10, .inl (T 0, 3, .inl (upd f0 (Int32.toNatClampNeg (iI x1)) (iI z20)))), (a0, .inr (9, [.ref a2, .ref a3, .ref a4, .ref a5, .ref a6, .ref a7, .ref a8, .ref a9, .ref a10, .int (iI x0), .int (iI x1), .int (iI x2), .int r0, .int (iI x3), .int r1, .int r2, .int r3, .int r4])), (a2, .inl (T 1, 9, .inr (.inl h0))), (a9, .inl (T 1, 3, .inr (.inl (vp_updL h1 (Int32.toNatClampNeg (iI x1)) fy6)))), (a1, .inr (8, [.ref a11, .int (iI x4), .int r5, .int (iI z25), .int fr26, .int fr27, (va_rf fo28), .long fy29, .int fr30, .int fr31, .int fr21, .int fr22])), (a11, .inl (T 0, 940, .inl f1))] H locs := w
        refine lv_aload_n hx hb dX9_readMaid_80 rfl (lv_at hl 0 rfl) ?_
        refine lv_dup hx hb dX9_readMaid_81 rfl ?_
        refine r_get (v := .int (iI x1)) M w 1 10 clX9 rfl (by decide) G393 rfl rfl dX9_readMaid_82 ?_
        refine lv_iconst (v := iI 1) hx hb dX9_readMaid_85 (by decide +kernel) ?_
        refine r_iadd (v := iI (x1 + 1)) M (iI_add _ _) dX9_readMaid_86 ?_
        refine r_put (ws' := [(a10, .inl (T 0, 3, .inl (upd f0 (Int32.toNatClampNeg (iI x1)) (iI z20)))), (a0, .inr (9, [.ref a2, .ref a3, .ref a4, .ref a5, .ref a6, .ref a7, .ref a8, .ref a9, .ref a10, .int (iI x0), .int (iI (x1 + 1)), .int (iI x2), .int r0, .int (iI x3), .int r1, .int r2, .int r3, .int r4])), (a2, .inl (T 1, 9, .inr (.inl h0))), (a9, .inl (T 1, 3, .inr (.inl (vp_updL h1 (Int32.toNatClampNeg (iI x1)) fy6)))), (a1, .inr (8, [.ref a11, .int (iI x4), .int r5, .int (iI z25), .int fr26, .int fr27, (va_rf fo28), .long fy29, .int fr30, .int fr31, .int fr21, .int fr22])), (a11, .inl (T 0, 940, .inl f1))]) M w 1 10 clX9 rfl (by decide) G393 rfl rfl rfl rfl (Nat.le_of_ble_eq_true rfl) rfl dX9_readMaid_87 (fun H locs w => ?_)
        refine lv_iconst (v := iI 1) hx hb dX9_readMaid_90 (by decide +kernel) ?_
        exact ret _ (1, (x1 + 1), z25, fr26, fr27, fo28, fy29, fr30, fr31, fr21, fr22, (vp_updL h1 (Int32.toNatClampNeg (iI x1)) fy6), (upd f0 (Int32.toNatClampNeg (iI x1)) (iI z20))) _ _ _ _ _ [1, 4, 2, 3, 0, 5] dX9_readMaid_91 (by decide +kernel) ⟨rfl, (show (0 : Int) ≤ 1 from by decide), (show (1 : Int) ≤ 1 from by decide), (show 0 ≤ (x1 + 1) from by omega), (show (x1 + 1) ≤ 3 from by omega), z25_a, z25_b, fo28_h⟩ w (by decide) rfl
      · replace c_24 := (iI_eq (Int.le_trans (by decide) z23_a) (Int.le_trans z23_b (by decide)) (by decide) (by decide)).mp c_24
        refine lv_iconst (v := iI 0) hx hb dX9_readMaid_74 (by decide +kernel) ?_
        exact ret _ (0, x1, z13, fr14, fr15, fo16, fy17, fr18, fr19, fr21, fr22, (vp_updL h1 (Int32.toNatClampNeg (iI x1)) fy6), (upd f0 (Int32.toNatClampNeg (iI x1)) (iI z20))) _ _ _ _ _ [1, 5, 2, 3, 0, 4] dX9_readMaid_75 (by decide +kernel) ⟨rfl, (show (0 : Int) ≤ 0 from by decide), (show (0 : Int) ≤ 1 from by decide), x1_a, x1_b, z13_a, z13_b, fo16_h⟩ w (by decide) rfl
    · replace c_12 := (iz_eq (Int.le_trans (by decide) z9_a) (Int.le_trans z9_b (by decide))).mp c_12
      refine lv_iconst (v := iI 0) hx hb dX9_readMaid_26 (by decide +kernel) ?_
      exact ret _ (0, x1, z2, fr3, fr4, fo5, fy6, fr7, fr8, fr10, fr11, h1, f0) _ _ _ _ _ [2, 3, 4, 5, 0, 1] dX9_readMaid_27 (by decide +kernel) ⟨rfl, (show (0 : Int) ≤ 0 from by decide), (show (0 : Int) ≤ 1 from by decide), x1_a, x1_b, z2_a, z2_b, fo5_h⟩ w (by decide) rfl
  · replace c_1 : 3 ≤ x1 := Int.not_lt.mp (fun h => c_1 ((iI_lt (Int.le_trans (by decide) x1_a) (Int.le_trans x1_b (by decide)) (by decide) (by decide)).mpr h))
    refine lv_aload_n hx hb dX9_readMaid_8 rfl (lv_at hl 1 rfl) ?_
    refine lv_iconst (v := iI 4) hx hb dX9_readMaid_9 (by decide +kernel) ?_
    refine k_I (ce := 0) (sl := 0) (rest := []) (wr := [(a0, .inr (9, [.ref a2, .ref a3, .ref a4, .ref a5, .ref a6, .ref a7, .ref a8, .ref a9, .ref a10, .int (iI x0), .int (iI x1), .int (iI x2), .int r0, .int (iI x3), .int r1, .int r2, .int r3, .int r4])), (a2, .inl (T 1, 9, .inr (.inl h0))), (a9, .inl (T 1, 3, .inr (.inl h1))), (a10, .inl (T 0, 3, .inl f0)), (a11, .inl (T 0, 940, .inl f1))]) (r_V (f := 0) [1] M w V_HookedCity_Town_150 G710 G711 (c243_X8_fail l D T _ a1 4 a11 x4 r5 x5 r6 r7 o0 y0 r8 r9 r10 r11 (by decide) (by decide) x4_a x4_b x5_a x5_b o0_h) 1 clX8 rfl rfl (by decide) rfl hl.1 rfl (Nat.le_of_ble_eq_true rfl) dX9_readMaid_10 (by decide) (by decide) (by decide) (by decide)) w [1] [0, 2, 3, 4, 5] rfl rfl (by decide) (by decide) rfl rfl (fun v u H locs hp w => ?_)
    obtain ⟨z32, fr33, fr34⟩ := u
    have hv : iI z32 = v := hp.1
    subst hv
    have z32_a : 0 ≤ z32 := hp.2.1
    have z32_b : z32 ≤ 1 := hp.2.2.1
    have w : WD D A s.heap [(a0, .inr (9, [.ref a2, .ref a3, .ref a4, .ref a5, .ref a6, .ref a7, .ref a8, .ref a9, .ref a10, .int (iI x0), .int (iI x1), .int (iI x2), .int r0, .int (iI x3), .int r1, .int r2, .int r3, .int r4])), (a2, .inl (T 1, 9, .inr (.inl h0))), (a9, .inl (T 1, 3, .inr (.inl h1))), (a10, .inl (T 0, 3, .inl f0)), (a11, .inl (T 0, 940, .inl f1)), (a1, .inr (8, [.ref a11, .int (iI x4), .int r5, .int (iI x5), .int r6, .int r7, (va_rf o0), .long y0, .int r8, .int r9, .int fr33, .int fr34]))] H locs := w
    rcases hp.2.2.2 with hr
    · subst hr
      exact ret _ (0, x1, x5, r6, r7, o0, y0, r8, r9, fr33, fr34, h1, f0) _ _ _ _ _ [0, 5, 1, 2, 3, 4] dX9_readMaid_13 (by decide +kernel) ⟨rfl, (show (0 : Int) ≤ 0 from by decide), (show (0 : Int) ≤ 1 from by decide), x1_a, x1_b, x5_a, x5_b, o0_h⟩ w (by decide) rfl
set_option maxRecDepth 100000 in
set_option maxHeartbeats 4000000 in
theorem c262_X9_kindAt (l : Launch) (D : va_G) (T : Nat → ClassId) (sz : Nat) (a0 : Nat) (a1 : Nat) (a2 : Nat) (x0 : Int) (r0 : Int32) (x1 : Int) (r1 : Int32) (r2 : Int32) (o0 : Option Nat) (y0 : Int64) (r3 : Int32) (r4 : Int32) (r5 : Int32) (r6 : Int32) (x0_a : 0 ≤ x0) (x0_b : x0 ≤ 940) (x1_a : 0 ≤ x1) (x1_b : x1 ≤ 940) (o0_h : wok T o0) : Met l yX9_kindAt (Cond.code yX9_kindAt cX9_kindAt 3 (some .int) :: GW) (Rm 1 0 0) (cPre [.ref a0, .ref a1] D T [(a1, .inr (8, [.ref a2, .int (iI x0), .int r0, .int (iI x1), .int r1, .int r2, (va_rf o0), .long y0, .int r3, .int r4, .int r5, .int r6]))] sz) (qI D [(a1, .inr (8, [.ref a2, .int (iI x0), .int r0, .int (iI x1), .int r1, .int r2, (va_rf o0), .long y0, .int r3, .int r4, .int r5, .int r6]))] sz (fun (v : Int32) (u : Int × Option Nat × Int32 × Int32) => iI u.1 = v ∧ (-2147483648) ≤ u.1 ∧ u.1 ≤ 2147483647 ∧ wok T u.2.1) (fun u => [(a1, .inr (8, [.ref a2, .int (iI x0), .int r0, .int (iI x1), .int r1, .int r2, (va_rf u.2.1), .long y0, .int r3, .int r4, .int u.2.2.1, .int u.2.2.2]))])) 0 0 (va_A [(a1, .inr (8, [.ref a2, .int (iI x0), .int r0, .int (iI x1), .int r1, .int r2, (va_rf o0), .long y0, .int r3, .int r4, .int r5, .int r6]))] sz) := by
  refine e_I (by decide) (Nat.le_of_ble_eq_true rfl) ?_
  intro p e s m args below meth c A Q ls M hin w ret hl
  have hx := M.1.1
  have hb := M.1.2.1
  have hl : lv_has ls 3 [(0, .ref a0), (1, .ref a1)] := hl
  refine lv_aload_n hx hb dX9_kindAt_0 rfl (lv_at hl 1 rfl) ?_
  refine r_getN (v := (va_rf o0)) M w 0 6 clX8 rfl (by decide) N172 rfl rfl dX9_kindAt_1 ?_
  cases o0 with
  | none =>
    refine lv_astore_nN (lv' := [(2, .null), (0, .ref a0), (1, .ref a1)]) hx hb dX9_kindAt_4 rfl hl (by decide) rfl (fun ls hl => ?_)
    refine lv_aload_nN hx hb dX9_kindAt_5 rfl (lv_at hl 0 rfl) ?_
    refine lv_ifnullN (tgt := 17) hx hb dX9_kindAt_6 (by decide) ?_
    refine lv_aload_n hx hb dX9_kindAt_17 rfl (lv_at hl 2 rfl) ?_
    refine lv_iconst (v := iI 1) hx hb dX9_kindAt_18 (by decide +kernel) ?_
    refine k_I (ce := 0) (sl := 0) (rest := []) (wr := []) (r_V (f := 0) [0] M w V_HookedCity_Town_150 G710 G711 (c243_X8_fail l D T _ a1 1 a2 x0 r0 x1 r1 r2 none y0 r3 r4 r5 r6 (by decide) (by decide) x0_a x0_b x1_a x1_b wok_n) 0 clX8 rfl rfl (by decide) rfl hl.1 rfl (Nat.le_of_ble_eq_true rfl) dX9_kindAt_19 (by decide) (by decide) (by decide) (by decide)) w [0] [] rfl rfl (by decide) (by decide) rfl rfl (fun v u H locs hp w => ?_)
    obtain ⟨z2, fr3, fr4⟩ := u
    have hv : iI z2 = v := hp.1
    subst hv
    have z2_a : 0 ≤ z2 := hp.2.1
    have z2_b : z2 ≤ 1 := hp.2.2.1
    have w : WD D A s.heap [(a1, .inr (8, [.ref a2, .int (iI x0), .int r0, .int (iI x1), .int r1, .int r2, (va_rf none), .long y0, .int r3, .int r4, .int fr3, .int fr4]))] H locs := w
    rcases hp.2.2.2 with hr
    · subst hr
      refine lv_pop hx hb dX9_kindAt_22 rfl ?_
      refine lv_iconst (v := iI (-1)) hx hb dX9_kindAt_23 (by decide +kernel) ?_
      exact ret _ ((-1), none, fr3, fr4) _ _ _ _ _ [0] dX9_kindAt_24 ⟨rfl, (show (-2147483648) ≤ (-1) from by decide), (show ((-1) : Int) ≤ 2147483647 from by decide), wok_n⟩ w (by decide) rfl
  | some qq1 =>
    refine lv_astore_n (lv' := [(2, .ref qq1), (0, .ref a0), (1, .ref a1)]) hx hb dX9_kindAt_4 rfl hl (by decide) rfl (fun ls hl => ?_)
    refine lv_aload_n hx hb dX9_kindAt_5 rfl (lv_at hl 0 rfl) ?_
    refine lv_ifnull hx hb dX9_kindAt_6 ?_
    refine lv_aload_n hx hb dX9_kindAt_9 rfl (lv_at hl 0 rfl) ?_
    refine r_wkindN M w o0_h N2087 dX9_kindAt_10 (fun fr5 => ?_)
    refine b_any (fun z6 z6_a z6_b => ?_)
    refine lv_iconst (v := iI (-1)) hx hb dX9_kindAt_13 (by decide +kernel) ?_
    refine lv_icmp_ne (tgt := 25) hx hb dX9_kindAt_14 (by decide) (fun c_7 => ?_) (fun c_7 => ?_)
    · replace c_7 : ¬ z6 = (-1) := fun h => c_7 ((iI_eq (Int.le_trans (by decide) z6_a) (Int.le_trans z6_b (by decide)) (by decide) (by decide)).mpr h)
      refine lv_aload_n hx hb dX9_kindAt_25 rfl (lv_at hl 0 rfl) ?_
      refine r_wkindN M w o0_h N2087 dX9_kindAt_26 (fun fr8 => ?_)
      refine b_any (fun z9 z9_a z9_b => ?_)
      exact ret _ (z9, (some qq1), r5, r6) _ _ _ _ _ [0] dX9_kindAt_29 ⟨rfl, z9_a, z9_b, o0_h⟩ w (by decide) rfl
    · replace c_7 := (iI_eq (Int.le_trans (by decide) z6_a) (Int.le_trans z6_b (by decide)) (by decide) (by decide)).mp c_7
      refine lv_aload_n hx hb dX9_kindAt_17 rfl (lv_at hl 2 rfl) ?_
      refine lv_iconst (v := iI 1) hx hb dX9_kindAt_18 (by decide +kernel) ?_
      refine k_I (ce := 0) (sl := 0) (rest := []) (wr := []) (r_V (f := 0) [0] M w V_HookedCity_Town_150 G710 G711 (c243_X8_fail l D T _ a1 1 a2 x0 r0 x1 r1 r2 (some qq1) y0 r3 r4 r5 r6 (by decide) (by decide) x0_a x0_b x1_a x1_b o0_h) 0 clX8 rfl rfl (by decide) rfl hl.1 rfl (Nat.le_of_ble_eq_true rfl) dX9_kindAt_19 (by decide) (by decide) (by decide) (by decide)) w [0] [] rfl rfl (by decide) (by decide) rfl rfl (fun v u H locs hp w => ?_)
      obtain ⟨z10, fr11, fr12⟩ := u
      have hv : iI z10 = v := hp.1
      subst hv
      have z10_a : 0 ≤ z10 := hp.2.1
      have z10_b : z10 ≤ 1 := hp.2.2.1
      have w : WD D A s.heap [(a1, .inr (8, [.ref a2, .int (iI x0), .int r0, .int (iI x1), .int r1, .int r2, (va_rf (some qq1)), .long y0, .int r3, .int r4, .int fr11, .int fr12]))] H locs := w
      rcases hp.2.2.2 with hr
      · subst hr
        refine lv_pop hx hb dX9_kindAt_22 rfl ?_
        refine lv_iconst (v := iI (-1)) hx hb dX9_kindAt_23 (by decide +kernel) ?_
        exact ret _ ((-1), (some qq1), fr11, fr12) _ _ _ _ _ [0] dX9_kindAt_24 ⟨rfl, (show (-2147483648) ≤ (-1) from by decide), (show ((-1) : Int) ≤ 2147483647 from by decide), o0_h⟩ w (by decide) rfl
set_option maxRecDepth 100000 in
set_option maxHeartbeats 4000000 in
theorem c263_X9_readPerson (l : Launch) (D : va_G) (T : Nat → ClassId) (sz : Nat) (a0 : Nat) (a1 : Nat) (a2 : Nat) (a3 : Nat) (a4 : Nat) (a5 : Nat) (a6 : Nat) (a7 : Nat) (a8 : Nat) (a9 : Nat) (a10 : Nat) (x0 : Int) (x1 : Int) (x2 : Int) (r0 : Int32) (x3 : Int) (r1 : Int32) (r2 : Int32) (r3 : Int32) (r4 : Int32) (a11 : Nat) (x4 : Int) (r5 : Int32) (x5 : Int) (r6 : Int32) (r7 : Int32) (o0 : Option Nat) (y0 : Int64) (r8 : Int32) (r9 : Int32) (r10 : Int32) (r11 : Int32) (h0 : Nat → Int64) (f0 : Nat → Int32) (f1 : Nat → Int32) (f2 : Nat → Int32) (h1 : Nat → Int64) (f3 : Nat → Int32) (x0_a : 0 ≤ x0) (x0_b : x0 ≤ 9) (x1_a : 0 ≤ x1) (x1_b : x1 ≤ 3) (x2_a : (-2147483648) ≤ x2) (x2_b : x2 ≤ 2147483647) (x3_a : (-2147483648) ≤ x3) (x3_b : x3 ≤ 2147483647) (x4_a : 0 ≤ x4) (x4_b : x4 ≤ 940) (x5_a : 0 ≤ x5) (x5_b : x5 ≤ 940) (o0_h : wok T o0) : Met l yX9_readPerson (Cond.code yX9_readPerson cX9_readPerson 2 (some .boolean) :: GW) (Rm 5 0 0) (cPre [.ref a0, .ref a1] D T [(a0, .inr (9, [.ref a2, .ref a3, .ref a4, .ref a5, .ref a6, .ref a7, .ref a8, .ref a9, .ref a10, .int (iI x0), .int (iI x1), .int (iI x2), .int r0, .int (iI x3), .int r1, .int r2, .int r3, .int r4])), (a1, .inr (8, [.ref a11, .int (iI x4), .int r5, .int (iI x5), .int r6, .int r7, (va_rf o0), .long y0, .int r8, .int r9, .int r10, .int r11])), (a2, .inl (T 1, 9, .inr (.inl h0))), (a3, .inl (T 0, 9, .inl f0)), (a4, .inl (T 0, 9, .inl f1)), (a5, .inl (T 0, 9, .inl f2)), (a9, .inl (T 1, 3, .inr (.inl h1))), (a11, .inl (T 0, 940, .inl f3))] sz) (qI D [(a0, .inr (9, [.ref a2, .ref a3, .ref a4, .ref a5, .ref a6, .ref a7, .ref a8, .ref a9, .ref a10, .int (iI x0), .int (iI x1), .int (iI x2), .int r0, .int (iI x3), .int r1, .int r2, .int r3, .int r4])), (a1, .inr (8, [.ref a11, .int (iI x4), .int r5, .int (iI x5), .int r6, .int r7, (va_rf o0), .long y0, .int r8, .int r9, .int r10, .int r11])), (a2, .inl (T 1, 9, .inr (.inl h0))), (a3, .inl (T 0, 9, .inl f0)), (a4, .inl (T 0, 9, .inl f1)), (a5, .inl (T 0, 9, .inl f2)), (a9, .inl (T 1, 3, .inr (.inl h1))), (a11, .inl (T 0, 940, .inl f3))] sz (fun (v : Int32) (u : Int × Int × Int × Int32 × Int32 × Option Nat × Int64 × Int32 × Int32 × Int32 × Int32 × (Nat → Int64) × (Nat → Int32) × (Nat → Int32) × (Nat → Int32)) => iI u.1 = v ∧ 0 ≤ u.1 ∧ u.1 ≤ 1 ∧ 0 ≤ u.2.1 ∧ u.2.1 ≤ 9 ∧ 0 ≤ u.2.2.1 ∧ u.2.2.1 ≤ 940 ∧ wok T u.2.2.2.2.2.1) (fun u => [(a0, .inr (9, [.ref a2, .ref a3, .ref a4, .ref a5, .ref a6, .ref a7, .ref a8, .ref a9, .ref a10, .int (iI u.2.1), .int (iI x1), .int (iI x2), .int r0, .int (iI x3), .int r1, .int r2, .int r3, .int r4])), (a1, .inr (8, [.ref a11, .int (iI x4), .int r5, .int (iI u.2.2.1), .int u.2.2.2.1, .int u.2.2.2.2.1, (va_rf u.2.2.2.2.2.1), .long u.2.2.2.2.2.2.1, .int u.2.2.2.2.2.2.2.1, .int u.2.2.2.2.2.2.2.2.1, .int u.2.2.2.2.2.2.2.2.2.1, .int u.2.2.2.2.2.2.2.2.2.2.1])), (a2, .inl (T 1, 9, .inr (.inl u.2.2.2.2.2.2.2.2.2.2.2.1))), (a3, .inl (T 0, 9, .inl u.2.2.2.2.2.2.2.2.2.2.2.2.1)), (a4, .inl (T 0, 9, .inl u.2.2.2.2.2.2.2.2.2.2.2.2.2.1)), (a5, .inl (T 0, 9, .inl u.2.2.2.2.2.2.2.2.2.2.2.2.2.2)), (a9, .inl (T 1, 3, .inr (.inl h1))), (a11, .inl (T 0, 940, .inl f3))])) 0 0 (va_A [(a0, .inr (9, [.ref a2, .ref a3, .ref a4, .ref a5, .ref a6, .ref a7, .ref a8, .ref a9, .ref a10, .int (iI x0), .int (iI x1), .int (iI x2), .int r0, .int (iI x3), .int r1, .int r2, .int r3, .int r4])), (a1, .inr (8, [.ref a11, .int (iI x4), .int r5, .int (iI x5), .int r6, .int r7, (va_rf o0), .long y0, .int r8, .int r9, .int r10, .int r11])), (a2, .inl (T 1, 9, .inr (.inl h0))), (a3, .inl (T 0, 9, .inl f0)), (a4, .inl (T 0, 9, .inl f1)), (a5, .inl (T 0, 9, .inl f2)), (a9, .inl (T 1, 3, .inr (.inl h1))), (a11, .inl (T 0, 940, .inl f3))] sz) := by
  refine e_Z (by decide) (Nat.le_of_ble_eq_true rfl) ?_
  intro p e s m args below meth c A Q ls M hin w ret hl
  have hx := M.1.1
  have hb := M.1.2.1
  have hl : lv_has ls 2 [(0, .ref a0), (1, .ref a1)] := hl
  refine lv_aload_n hx hb dX9_readPerson_0 rfl (lv_at hl 0 rfl) ?_
  refine r_get (v := .int (iI x0)) M w 0 9 clX9 rfl (by decide) G387 rfl rfl dX9_readPerson_1 ?_
  refine lv_bipush (v := iI 9) hx hb dX9_readPerson_4 (by decide +kernel) ?_
  refine lv_icmp_lt (tgt := 15) hx hb dX9_readPerson_6 (by decide) (fun c_1 => ?_) (fun c_1 => ?_)
  · replace c_1 := (iI_lt (Int.le_trans (by decide) x0_a) (Int.le_trans x0_b (by decide)) (by decide) (by decide)).mp c_1
    refine lv_aload_n hx hb dX9_readPerson_15 rfl (lv_at hl 1 rfl) ?_
    refine k_V (ce := 0) (sl := 0) (rest := []) (wr := [(a0, .inr (9, [.ref a2, .ref a3, .ref a4, .ref a5, .ref a6, .ref a7, .ref a8, .ref a9, .ref a10, .int (iI x0), .int (iI x1), .int (iI x2), .int r0, .int (iI x3), .int r1, .int r2, .int r3, .int r4])), (a2, .inl (T 1, 9, .inr (.inl h0))), (a3, .inl (T 0, 9, .inl f0)), (a4, .inl (T 0, 9, .inl f1)), (a5, .inl (T 0, 9, .inl f2)), (a9, .inl (T 1, 3, .inr (.inl h1)))]) (r_V (f := 4) [1, 7] M w V_HookedCity_Town_154 G587 G588 (c238_X8_step l D T _ a1 a11 x4 r5 x5 r6 r7 o0 y0 r8 r9 r10 r11 f3 x4_a x4_b x5_a x5_b o0_h) 1 clX8 rfl rfl (by decide) rfl hl.1 rfl (Nat.le_of_ble_eq_true rfl) dX9_readPerson_16 (by decide) (by decide) (by decide) (by decide)) w [1, 7] [0, 2, 3, 4, 5, 6] rfl rfl (by decide) (by decide) rfl rfl (fun u H locs hp w => ?_)
    obtain ⟨z2, fr3, fr4, fo5, fy6, fr7, fr8⟩ := u
    have z2_a : 0 ≤ z2 := hp.1
    have z2_b : z2 ≤ 940 := hp.2.1
    have fo5_h : wok T fo5 := hp.2.2
    have w : WD D A s.heap [(a0, .inr (9, [.ref a2, .ref a3, .ref a4, .ref a5, .ref a6, .ref a7, .ref a8, .ref a9, .ref a10, .int (iI x0), .int (iI x1), .int (iI x2), .int r0, .int (iI x3), .int r1, .int r2, .int r3, .int r4])), (a2, .inl (T 1, 9, .inr (.inl h0))), (a3, .inl (T 0, 9, .inl f0)), (a4, .inl (T 0, 9, .inl f1)), (a5, .inl (T 0, 9, .inl f2)), (a9, .inl (T 1, 3, .inr (.inl h1))), (a1, .inr (8, [.ref a11, .int (iI x4), .int r5, .int (iI z2), .int fr3, .int fr4, (va_rf fo5), .long fy6, .int fr7, .int fr8, .int r10, .int r11])), (a11, .inl (T 0, 940, .inl f3))] H locs := w
    refine lv_aload_n hx hb dX9_readPerson_19 rfl (lv_at hl 0 rfl) ?_
    refine lv_aload_n hx hb dX9_readPerson_20 rfl (lv_at hl 1 rfl) ?_
    refine k_I (ce := 0) (sl := 0) (rest := []) (wr := [(a3, .inl (T 0, 9, .inl f0)), (a4, .inl (T 0, 9, .inl f1)), (a5, .inl (T 0, 9, .inl f2)), (a11, .inl (T 0, 940, .inl f3))]) (r_V (f := 1) [0, 6, 1, 5] M w V_HookedCity_Town_157 G716 G5 (c260_X9_newNameAt l D T _ a0 a1 a2 a3 a4 a5 a6 a7 a8 a9 a10 x0 x1 x2 r0 x3 r1 r2 r3 r4 a11 x4 r5 z2 fr3 fr4 fo5 fy6 fr7 fr8 r10 r11 h0 h1 x0_a x0_b x1_a x1_b x2_a x2_b x3_a x3_b x4_a x4_b z2_a z2_b fo5_h) 0 clX9 rfl rfl (by decide) rfl hl.1 rfl (Nat.le_of_ble_eq_true rfl) dX9_readPerson_21 (by decide) (by decide) (by decide) (by decide)) w [0, 6, 1, 5] [2, 3, 4, 7] rfl rfl (by decide) (by decide) rfl rfl (fun v u H locs hp w => ?_)
    obtain ⟨z9, fr10, fr11⟩ := u
    have hv : iI z9 = v := hp.1
    subst hv
    have z9_a : 0 ≤ z9 := hp.2.1
    have z9_b : z9 ≤ 1 := hp.2.2
    have w : WD D A s.heap [(a3, .inl (T 0, 9, .inl f0)), (a4, .inl (T 0, 9, .inl f1)), (a5, .inl (T 0, 9, .inl f2)), (a11, .inl (T 0, 940, .inl f3)), (a0, .inr (9, [.ref a2, .ref a3, .ref a4, .ref a5, .ref a6, .ref a7, .ref a8, .ref a9, .ref a10, .int (iI x0), .int (iI x1), .int (iI x2), .int r0, .int (iI x3), .int r1, .int r2, .int r3, .int r4])), (a1, .inr (8, [.ref a11, .int (iI x4), .int r5, .int (iI z2), .int fr3, .int fr4, (va_rf fo5), .long fy6, .int fr7, .int fr8, .int fr10, .int fr11])), (a2, .inl (T 1, 9, .inr (.inl h0))), (a9, .inl (T 1, 3, .inr (.inl h1)))] H locs := w
    refine lv_if_ne (tgt := 29) hx hb dX9_readPerson_24 (by decide) (fun c_12 => ?_) (fun c_12 => ?_)
    · replace c_12 : ¬ z9 = 0 := fun h => c_12 ((iz_eq (Int.le_trans (by decide) z9_a) (Int.le_trans z9_b (by decide))).mpr h)
      refine lv_aload_n hx hb dX9_readPerson_29 rfl (lv_at hl 0 rfl) ?_
      refine r_get (v := .ref a2) M w 4 0 clX9 rfl (by decide) G366 rfl rfl dX9_readPerson_30 ?_
      refine lv_aload_n hx hb dX9_readPerson_33 rfl (lv_at hl 0 rfl) ?_
      refine r_get (v := .int (iI x0)) M w 4 9 clX9 rfl (by decide) G387 rfl rfl dX9_readPerson_34 ?_
      refine lv_aload_n hx hb dX9_readPerson_37 rfl (lv_at hl 1 rfl) ?_
      refine r_getN (v := .long fy6) M w 5 7 clX8 rfl (by decide) N175 rfl rfl dX9_readPerson_38 ?_
      refine r_last (ws' := [(a3, .inl (T 0, 9, .inl f0)), (a4, .inl (T 0, 9, .inl f1)), (a5, .inl (T 0, 9, .inl f2)), (a11, .inl (T 0, 940, .inl f3)), (a0, .inr (9, [.ref a2, .ref a3, .ref a4, .ref a5, .ref a6, .ref a7, .ref a8, .ref a9, .ref a10, .int (iI x0), .int (iI x1), .int (iI x2), .int r0, .int (iI x3), .int r1, .int r2, .int r3, .int r4])), (a1, .inr (8, [.ref a11, .int (iI x4), .int r5, .int (iI z2), .int fr3, .int fr4, (va_rf fo5), .long fy6, .int fr7, .int fr8, .int fr10, .int fr11])), (a2, .inl (T 1, 9, .inr (.inl (vp_updL h0 (Int32.toNatClampNeg (iI x0)) fy6)))), (a9, .inl (T 1, 3, .inr (.inl h1)))]) M w 6 rfl (iI_in (by omega) (by omega) (by decide)) rfl dX9_readPerson_41 (fun H locs w => ?_)
      refine lv_aload_n hx hb dX9_readPerson_42 rfl (lv_at hl 1 rfl) ?_
      refine k_V (ce := 0) (sl := 0) (rest := []) (wr := [(a3, .inl (T 0, 9, .inl f0)), (a4, .inl (T 0, 9, .inl f1)), (a5, .inl (T 0, 9, .inl f2)), (a0, .inr (9, [.ref a2, .ref a3, .ref a4, .ref a5, .ref a6, .ref a7, .ref a8, .ref a9, .ref a10, .int (iI x0), .int (iI x1), .int (iI x2), .int r0, .int (iI x3), .int r1, .int r2, .int r3, .int r4])), (a2, .inl (T 1, 9, .inr (.inl (vp_updL h0 (Int32.toNatClampNeg (iI x0)) fy6)))), (a9, .inl (T 1, 3, .inr (.inl h1)))]) (r_V (f := 4) [5, 3] M w V_HookedCity_Town_154 G587 G588 (c238_X8_step l D T _ a1 a11 x4 r5 z2 fr3 fr4 fo5 fy6 fr7 fr8 fr10 fr11 f3 x4_a x4_b z2_a z2_b fo5_h) 5 clX8 rfl rfl (by decide) rfl hl.1 rfl (Nat.le_of_ble_eq_true rfl) dX9_readPerson_43 (by decide) (by decide) (by decide) (by decide)) w [5, 3] [0, 1, 2, 4, 6, 7] rfl rfl (by decide) (by decide) rfl rfl (fun u H locs hp w => ?_)
      obtain ⟨z13, fr14, fr15, fo16, fy17, fr18, fr19⟩ := u
      have z13_a : 0 ≤ z13 := hp.1
      have z13_b : z13 ≤ 940 := hp.2.1
      have fo16_h : wok T fo16 := hp.2.2
      have w : WD D A s.heap [(a3, .inl (T 0, 9, .inl f0)), (a4, .inl (T 0, 9, .inl f1)), (a5, .inl (T 0, 9, .inl f2)), (a0, .inr (9, [.ref a2, .ref a3, .ref a4, .ref a5, .ref a6, .ref a7, .ref a8, .ref a9, .ref a10, .int (iI x0), .int (iI x1), .int (iI x2), .int r0, .int (iI x3), .int r1, .int r2, .int r3, .int r4])), (a2, .inl (T 1, 9, .inr (.inl (vp_updL h0 (Int32.toNatClampNeg (iI x0)) fy6)))), (a9, .inl (T 1, 3, .inr (.inl h1))), (a1, .inr (8, [.ref a11, .int (iI x4), .int r5, .int (iI z13), .int fr14, .int fr15, (va_rf fo16), .long fy17, .int fr18, .int fr19, .int fr10, .int fr11])), (a11, .inl (T 0, 940, .inl f3))] H locs := w
      refine lv_aload_n hx hb dX9_readPerson_46 rfl (lv_at hl 0 rfl) ?_
      refine r_get (v := .ref a3) M w 3 1 clX9 rfl (by decide) G368 rfl rfl dX9_readPerson_47 ?_
      refine lv_aload_n hx hb dX9_readPerson_50 rfl (lv_at hl 0 rfl) ?_
      refine r_get (v := .int (iI x0)) M w 3 9 clX9 rfl (by decide) G387 rfl rfl dX9_readPerson_51 ?_
      refine lv_aload_n hx hb dX9_readPerson_54 rfl (lv_at hl 0 rfl) ?_
      refine lv_aload_n hx hb dX9_readPerson_55 rfl (lv_at hl 1 rfl) ?_
      refine k_I (ce := 0) (sl := 0) (rest := [.int (iI x0), .ref a3]) (wr := [(a3, .inl (T 0, 9, .inl f0)), (a4, .inl (T 0, 9, .inl f1)), (a5, .inl (T 0, 9, .inl f2)), (a0, .inr (9, [.ref a2, .ref a3, .ref a4, .ref a5, .ref a6, .ref a7, .ref a8, .ref a9, .ref a10, .int (iI x0), .int (iI x1), .int (iI x2), .int r0, .int (iI x3), .int r1, .int r2, .int r3, .int r4])), (a2, .inl (T 1, 9, .inr (.inl (vp_updL h0 (Int32.toNatClampNeg (iI x0)) fy6)))), (a9, .inl (T 1, 3, .inr (.inl h1))), (a11, .inl (T 0, 940, .inl f3))]) (r_V (f := 1) [6] M w V_HookedCity_Town_164 G723 G6 (c262_X9_kindAt l D T _ a0 a1 a11 x4 r5 z13 fr14 fr15 fo16 fy17 fr18 fr19 fr10 fr11 x4_a x4_b z13_a z13_b fo16_h) 3 clX9 rfl rfl (by decide) rfl hl.1 rfl (Nat.le_of_ble_eq_true rfl) dX9_readPerson_56 (by decide) (by decide) (by decide) (by decide)) w [6] [0, 1, 2, 3, 4, 5, 7] rfl rfl (by decide) (by decide) rfl rfl (fun v u H locs hp w => ?_)
      obtain ⟨z20, fo21, fr22, fr23⟩ := u
      have hv : iI z20 = v := hp.1
      subst hv
      have z20_a : (-2147483648) ≤ z20 := hp.2.1
      have z20_b : z20 ≤ 2147483647 := hp.2.2.1
      have fo21_h : wok T fo21 := hp.2.2.2
      have w : WD D A s.heap [(a3, .inl (T 0, 9, .inl f0)), (a4, .inl (T 0, 9, .inl f1)), (a5, .inl (T 0, 9, .inl f2)), (a0, .inr (9, [.ref a2, .ref a3, .ref a4, .ref a5, .ref a6, .ref a7, .ref a8, .ref a9, .ref a10, .int (iI x0), .int (iI x1), .int (iI x2), .int r0, .int (iI x3), .int r1, .int r2, .int r3, .int r4])), (a2, .inl (T 1, 9, .inr (.inl (vp_updL h0 (Int32.toNatClampNeg (iI x0)) fy6)))), (a9, .inl (T 1, 3, .inr (.inl h1))), (a11, .inl (T 0, 940, .inl f3)), (a1, .inr (8, [.ref a11, .int (iI x4), .int r5, .int (iI z13), .int fr14, .int fr15, (va_rf fo21), .long fy17, .int fr18, .int fr19, .int fr22, .int fr23]))] H locs := w
      refine r_iast (ws' := [(a3, .inl (T 0, 9, .inl (upd f0 (Int32.toNatClampNeg (iI x0)) (iI z20)))), (a4, .inl (T 0, 9, .inl f1)), (a5, .inl (T 0, 9, .inl f2)), (a0, .inr (9, [.ref a2, .ref a3, .ref a4, .ref a5, .ref a6, .ref a7, .ref a8, .ref a9, .ref a10, .int (iI x0), .int (iI x1), .int (iI x2), .int r0, .int (iI x3), .int r1, .int r2, .int r3, .int r4])), (a2, .inl (T 1, 9, .inr (.inl (vp_updL h0 (Int32.toNatClampNeg (iI x0)) fy6)))), (a9, .inl (T 1, 3, .inr (.inl h1))), (a11, .inl (T 0, 940, .inl f3)), (a1, .inr (8, [.ref a11, .int (iI x4), .int r5, .int (iI z13), .int fr14, .int fr15, (va_rf fo21), .long fy17, .int fr18, .int fr19, .int fr22, .int fr23]))]) M w 0 rfl (iI_in (by omega) (by omega) (by decide)) rfl dX9_readPerson_59 (fun H locs w => ?_)
      refine lv_aload_n hx hb dX9_readPerson_60 rfl (lv_at hl 0 rfl) ?_
      refine r_get (v := .ref a3) M w 3 1 clX9 rfl (by decide) G368 rfl rfl dX9_readPerson_61 ?_
      refine lv_aload_n hx hb dX9_readPerson_64 rfl (lv_at hl 0 rfl) ?_
      refine r_get (v := .int (iI x0)) M w 3 9 clX9 rfl (by decide) G387 rfl rfl dX9_readPerson_65 ?_
      refine r_iald (v := _) M w 0 rfl (iI_in (by omega) (by omega) (by decide)) rfl dX9_readPerson_68 ?_
      refine b_any (fun z24 z24_a z24_b => ?_)
      refine lv_iconst (v := iI (-1)) hx hb dX9_readPerson_69 (by decide +kernel) ?_
      refine lv_icmp_ne (tgt := 75) hx hb dX9_readPerson_70 (by decide) (fun c_25 => ?_) (fun c_25 => ?_)
      · replace c_25 : ¬ z24 = (-1) := fun h => c_25 ((iI_eq (Int.le_trans (by decide) z24_a) (Int.le_trans z24_b (by decide)) (by decide) (by decide)).mpr h)
        refine lv_aload_n hx hb dX9_readPerson_75 rfl (lv_at hl 1 rfl) ?_
        refine k_V (ce := 0) (sl := 0) (rest := []) (wr := [(a3, .inl (T 0, 9, .inl (upd f0 (Int32.toNatClampNeg (iI x0)) (iI z20)))), (a4, .inl (T 0, 9, .inl f1)), (a5, .inl (T 0, 9, .inl f2)), (a0, .inr (9, [.ref a2, .ref a3, .ref a4, .ref a5, .ref a6, .ref a7, .ref a8, .ref a9, .ref a10, .int (iI x0), .int (iI x1), .int (iI x2), .int r0, .int (iI x3), .int r1, .int r2, .int r3, .int r4])), (a2, .inl (T 1, 9, .inr (.inl (vp_updL h0 (Int32.toNatClampNeg (iI x0)) fy6)))), (a9, .inl (T 1, 3, .inr (.inl h1)))]) (r_V (f := 4) [7, 6] M w V_HookedCity_Town_154 G587 G588 (c238_X8_step l D T _ a1 a11 x4 r5 z13 fr14 fr15 fo21 fy17 fr18 fr19 fr22 fr23 f3 x4_a x4_b z13_a z13_b fo21_h) 7 clX8 rfl rfl (by decide) rfl hl.1 rfl (Nat.le_of_ble_eq_true rfl) dX9_readPerson_76 (by decide) (by decide) (by decide) (by decide)) w [7, 6] [0, 1, 2, 3, 4, 5] rfl rfl (by decide) (by decide) rfl rfl (fun u H locs hp w => ?_)
        obtain ⟨z26, fr27, fr28, fo29, fy30, fr31, fr32⟩ := u
        have z26_a : 0 ≤ z26 := hp.1
        have z26_b : z26 ≤ 940 := hp.2.1
        have fo29_h : wok T fo29 := hp.2.2
        have w : WD D A s.heap [(a3, .inl (T 0, 9, .inl (upd f0 (Int32.toNatClampNeg (iI x0)) (iI z20)))), (a4, .inl (T 0, 9, .inl f1)), (a5, .inl (T 0, 9, .inl f2)), (a0, .inr (9, [.ref a2, .ref a3, .ref a4, .ref a5, .ref a6, .ref a7, .ref a8, .ref a9, .ref a10, .int (iI x0), .int (iI x1), .int (iI x2), .int r0, .int (iI x3), .int r1, .int r2, .int r3, .int r4])), (a2, .inl (T 1, 9, .inr (.inl (vp_updL h0 (Int32.toNatClampNeg (iI x0)) fy6)))), (a9, .inl (T 1, 3, .inr (.inl h1))), (a1, .inr (8, [.ref a11, .int (iI x4), .int r5, .int (iI z26), .int fr27, .int fr28, (va_rf fo29), .long fy30, .int fr31, .int fr32, .int fr22, .int fr23])), (a11, .inl (T 0, 940, .inl f3))] H locs := w
        refine lv_aload_n hx hb dX9_readPerson_79 rfl (lv_at hl 0 rfl) ?_
        refine r_get (v := .ref a4) M w 3 2 clX9 rfl (by decide) G370 rfl rfl dX9_readPerson_80 ?_
        refine lv_aload_n hx hb dX9_readPerson_83 rfl (lv_at hl 0 rfl) ?_
        refine r_get (v := .int (iI x0)) M w 3 9 clX9 rfl (by decide) G387 rfl rfl dX9_readPerson_84 ?_
        refine lv_aload_n hx hb dX9_readPerson_87 rfl (lv_at hl 0 rfl) ?_
        refine lv_aload_n hx hb dX9_readPerson_88 rfl (lv_at hl 1 rfl) ?_
        refine k_I (ce := 0) (sl := 0) (rest := [.int (iI x0), .ref a4]) (wr := [(a3, .inl (T 0, 9, .inl (upd f0 (Int32.toNatClampNeg (iI x0)) (iI z20)))), (a4, .inl (T 0, 9, .inl f1)), (a5, .inl (T 0, 9, .inl f2)), (a0, .inr (9, [.ref a2, .ref a3, .ref a4, .ref a5, .ref a6, .ref a7, .ref a8, .ref a9, .ref a10, .int (iI x0), .int (iI x1), .int (iI x2), .int r0, .int (iI x3), .int r1, .int r2, .int r3, .int r4])), (a2, .inl (T 1, 9, .inr (.inl (vp_updL h0 (Int32.toNatClampNeg (iI x0)) fy6)))), (a9, .inl (T 1, 3, .inr (.inl h1))), (a11, .inl (T 0, 940, .inl f3))]) (r_V (f := 1) [6] M w V_HookedCity_Town_164 G723 G6 (c262_X9_kindAt l D T _ a0 a1 a11 x4 r5 z26 fr27 fr28 fo29 fy30 fr31 fr32 fr22 fr23 x4_a x4_b z26_a z26_b fo29_h) 3 clX9 rfl rfl (by decide) rfl hl.1 rfl (Nat.le_of_ble_eq_true rfl) dX9_readPerson_89 (by decide) (by decide) (by decide) (by decide)) w [6] [0, 1, 2, 3, 4, 5, 7] rfl rfl (by decide) (by decide) rfl rfl (fun v u H locs hp w => ?_)
        obtain ⟨z33, fo34, fr35, fr36⟩ := u
        have hv : iI z33 = v := hp.1
        subst hv
        have z33_a : (-2147483648) ≤ z33 := hp.2.1
        have z33_b : z33 ≤ 2147483647 := hp.2.2.1
        have fo34_h : wok T fo34 := hp.2.2.2
        have w : WD D A s.heap [(a3, .inl (T 0, 9, .inl (upd f0 (Int32.toNatClampNeg (iI x0)) (iI z20)))), (a4, .inl (T 0, 9, .inl f1)), (a5, .inl (T 0, 9, .inl f2)), (a0, .inr (9, [.ref a2, .ref a3, .ref a4, .ref a5, .ref a6, .ref a7, .ref a8, .ref a9, .ref a10, .int (iI x0), .int (iI x1), .int (iI x2), .int r0, .int (iI x3), .int r1, .int r2, .int r3, .int r4])), (a2, .inl (T 1, 9, .inr (.inl (vp_updL h0 (Int32.toNatClampNeg (iI x0)) fy6)))), (a9, .inl (T 1, 3, .inr (.inl h1))), (a11, .inl (T 0, 940, .inl f3)), (a1, .inr (8, [.ref a11, .int (iI x4), .int r5, .int (iI z26), .int fr27, .int fr28, (va_rf fo34), .long fy30, .int fr31, .int fr32, .int fr35, .int fr36]))] H locs := w
        refine r_iast (ws' := [(a3, .inl (T 0, 9, .inl (upd f0 (Int32.toNatClampNeg (iI x0)) (iI z20)))), (a4, .inl (T 0, 9, .inl (upd f1 (Int32.toNatClampNeg (iI x0)) (iI z33)))), (a5, .inl (T 0, 9, .inl f2)), (a0, .inr (9, [.ref a2, .ref a3, .ref a4, .ref a5, .ref a6, .ref a7, .ref a8, .ref a9, .ref a10, .int (iI x0), .int (iI x1), .int (iI x2), .int r0, .int (iI x3), .int r1, .int r2, .int r3, .int r4])), (a2, .inl (T 1, 9, .inr (.inl (vp_updL h0 (Int32.toNatClampNeg (iI x0)) fy6)))), (a9, .inl (T 1, 3, .inr (.inl h1))), (a11, .inl (T 0, 940, .inl f3)), (a1, .inr (8, [.ref a11, .int (iI x4), .int r5, .int (iI z26), .int fr27, .int fr28, (va_rf fo34), .long fy30, .int fr31, .int fr32, .int fr35, .int fr36]))]) M w 1 rfl (iI_in (by omega) (by omega) (by decide)) rfl dX9_readPerson_92 (fun H locs w => ?_)
        refine lv_aload_n hx hb dX9_readPerson_93 rfl (lv_at hl 0 rfl) ?_
        refine r_get (v := .ref a4) M w 3 2 clX9 rfl (by decide) G370 rfl rfl dX9_readPerson_94 ?_
        refine lv_aload_n hx hb dX9_readPerson_97 rfl (lv_at hl 0 rfl) ?_
        refine r_get (v := .int (iI x0)) M w 3 9 clX9 rfl (by decide) G387 rfl rfl dX9_readPerson_98 ?_
        refine r_iald (v := _) M w 1 rfl (iI_in (by omega) (by omega) (by decide)) rfl dX9_readPerson_101 ?_
        refine b_any (fun z37 z37_a z37_b => ?_)
        refine lv_iconst (v := iI (-1)) hx hb dX9_readPerson_102 (by decide +kernel) ?_
        refine lv_icmp_ne (tgt := 108) hx hb dX9_readPerson_103 (by decide) (fun c_38 => ?_) (fun c_38 => ?_)
        · replace c_38 : ¬ z37 = (-1) := fun h => c_38 ((iI_eq (Int.le_trans (by decide) z37_a) (Int.le_trans z37_b (by decide)) (by decide) (by decide)).mpr h)
          refine lv_aload_n hx hb dX9_readPerson_108 rfl (lv_at hl 1 rfl) ?_
          refine k_V (ce := 0) (sl := 0) (rest := []) (wr := [(a3, .inl (T 0, 9, .inl (upd f0 (Int32.toNatClampNeg (iI x0)) (iI z20)))), (a4, .inl (T 0, 9, .inl (upd f1 (Int32.toNatClampNeg (iI x0)) (iI z33)))), (a5, .inl (T 0, 9, .inl f2)), (a0, .inr (9, [.ref a2, .ref a3, .ref a4, .ref a5, .ref a6, .ref a7, .ref a8, .ref a9, .ref a10, .int (iI x0), .int (iI x1), .int (iI x2), .int r0, .int (iI x3), .int r1, .int r2, .int r3, .int r4])), (a2, .inl (T 1, 9, .inr (.inl (vp_updL h0 (Int32.toNatClampNeg (iI x0)) fy6)))), (a9, .inl (T 1, 3, .inr (.inl h1)))]) (r_V (f := 4) [7, 6] M w V_HookedCity_Town_154 G587 G588 (c238_X8_step l D T _ a1 a11 x4 r5 z26 fr27 fr28 fo34 fy30 fr31 fr32 fr35 fr36 f3 x4_a x4_b z26_a z26_b fo34_h) 7 clX8 rfl rfl (by decide) rfl hl.1 rfl (Nat.le_of_ble_eq_true rfl) dX9_readPerson_109 (by decide) (by decide) (by decide) (by decide)) w [7, 6] [0, 1, 2, 3, 4, 5] rfl rfl (by decide) (by decide) rfl rfl (fun u H locs hp w => ?_)
          obtain ⟨z39, fr40, fr41, fo42, fy43, fr44, fr45⟩ := u
          have z39_a : 0 ≤ z39 := hp.1
          have z39_b : z39 ≤ 940 := hp.2.1
          have fo42_h : wok T fo42 := hp.2.2
          have w : WD D A s.heap [(a3, .inl (T 0, 9, .inl (upd f0 (Int32.toNatClampNeg (iI x0)) (iI z20)))), (a4, .inl (T 0, 9, .inl (upd f1 (Int32.toNatClampNeg (iI x0)) (iI z33)))), (a5, .inl (T 0, 9, .inl f2)), (a0, .inr (9, [.ref a2, .ref a3, .ref a4, .ref a5, .ref a6, .ref a7, .ref a8, .ref a9, .ref a10, .int (iI x0), .int (iI x1), .int (iI x2), .int r0, .int (iI x3), .int r1, .int r2, .int r3, .int r4])), (a2, .inl (T 1, 9, .inr (.inl (vp_updL h0 (Int32.toNatClampNeg (iI x0)) fy6)))), (a9, .inl (T 1, 3, .inr (.inl h1))), (a1, .inr (8, [.ref a11, .int (iI x4), .int r5, .int (iI z39), .int fr40, .int fr41, (va_rf fo42), .long fy43, .int fr44, .int fr45, .int fr35, .int fr36])), (a11, .inl (T 0, 940, .inl f3))] H locs := w
          refine lv_aload_n hx hb dX9_readPerson_112 rfl (lv_at hl 0 rfl) ?_
          refine r_get (v := .ref a5) M w 3 3 clX9 rfl (by decide) G372 rfl rfl dX9_readPerson_113 ?_
          refine lv_aload_n hx hb dX9_readPerson_116 rfl (lv_at hl 0 rfl) ?_
          refine r_get (v := .int (iI x0)) M w 3 9 clX9 rfl (by decide) G387 rfl rfl dX9_readPerson_117 ?_
          refine lv_aload_n hx hb dX9_readPerson_120 rfl (lv_at hl 1 rfl) ?_
          refine lv_iconst (v := iI 1) hx hb dX9_readPerson_121 (by decide +kernel) ?_
          refine lv_bipush (v := iI 9) hx hb dX9_readPerson_122 (by decide +kernel) ?_
          refine k_I (ce := 0) (sl := 0) (rest := [.int (iI x0), .ref a5]) (wr := [(a3, .inl (T 0, 9, .inl (upd f0 (Int32.toNatClampNeg (iI x0)) (iI z20)))), (a4, .inl (T 0, 9, .inl (upd f1 (Int32.toNatClampNeg (iI x0)) (iI z33)))), (a5, .inl (T 0, 9, .inl f2)), (a0, .inr (9, [.ref a2, .ref a3, .ref a4, .ref a5, .ref a6, .ref a7, .ref a8, .ref a9, .ref a10, .int (iI x0), .int (iI x1), .int (iI x2), .int r0, .int (iI x3), .int r1, .int r2, .int r3, .int r4])), (a2, .inl (T 1, 9, .inr (.inl (vp_updL h0 (Int32.toNatClampNeg (iI x0)) fy6)))), (a9, .inl (T 1, 3, .inr (.inl h1))), (a11, .inl (T 0, 940, .inl f3))]) (r_V (f := 1) [6] M w V_HookedCity_Town_168 G726 G727 (c245_X8_numberAt l D T _ a1 1 9 a11 x4 r5 z39 fr40 fr41 fo42 fy43 fr44 fr45 fr35 fr36 (by decide) (by decide) (by decide) (by decide) x4_a x4_b z39_a z39_b fo42_h) 6 clX8 rfl rfl (by decide) rfl hl.1 rfl (Nat.le_of_ble_eq_true rfl) dX9_readPerson_124 (by decide) (by decide) (by decide) (by decide)) w [6] [0, 1, 2, 3, 4, 5, 7] rfl rfl (by decide) (by decide) rfl rfl (fun v u H locs hp w => ?_)
          obtain ⟨z46, fr47, fr48⟩ := u
          have hv : iI z46 = v := hp.1
          subst hv
          have z46_a : (-2147483648) ≤ z46 := hp.2.1
          have z46_b : z46 ≤ 2147483647 := hp.2.2
          have w : WD D A s.heap [(a3, .inl (T 0, 9, .inl (upd f0 (Int32.toNatClampNeg (iI x0)) (iI z20)))), (a4, .inl (T 0, 9, .inl (upd f1 (Int32.toNatClampNeg (iI x0)) (iI z33)))), (a5, .inl (T 0, 9, .inl f2)), (a0, .inr (9, [.ref a2, .ref a3, .ref a4, .ref a5, .ref a6, .ref a7, .ref a8, .ref a9, .ref a10, .int (iI x0), .int (iI x1), .int (iI x2), .int r0, .int (iI x3), .int r1, .int r2, .int r3, .int r4])), (a2, .inl (T 1, 9, .inr (.inl (vp_updL h0 (Int32.toNatClampNeg (iI x0)) fy6)))), (a9, .inl (T 1, 3, .inr (.inl h1))), (a11, .inl (T 0, 940, .inl f3)), (a1, .inr (8, [.ref a11, .int (iI x4), .int r5, .int (iI z39), .int fr40, .int fr41, (va_rf fo42), .long fy43, .int fr44, .int fr45, .int fr47, .int fr48]))] H locs := w
          refine r_iast (ws' := [(a3, .inl (T 0, 9, .inl (upd f0 (Int32.toNatClampNeg (iI x0)) (iI z20)))), (a4, .inl (T 0, 9, .inl (upd f1 (Int32.toNatClampNeg (iI x0)) (iI z33)))), (a5, .inl (T 0, 9, .inl (upd f2 (Int32.toNatClampNeg (iI x0)) (iI z46)))), (a0, .inr (9, [.ref a2, .ref a3, .ref a4, .ref a5, .ref a6, .ref a7, .ref a8, .ref a9, .ref a10, .int (iI x0), .int (iI x1), .int (iI x2), .int r0, .int (iI x3), .int r1, .int r2, .int r3, .int r4])), (a2, .inl (T 1, 9, .inr (.inl (vp_updL h0 (Int32.toNatClampNeg (iI x0)) fy6)))), (a9, .inl (T 1, 3, .inr (.inl h1))), (a11, .inl (T 0, 940, .inl f3)), (a1, .inr (8, [.ref a11, .int (iI x4), .int r5, .int (iI z39), .int fr40, .int fr41, (va_rf fo42), .long fy43, .int fr44, .int fr45, .int fr47, .int fr48]))]) M w 2 rfl (iI_in (by omega) (by omega) (by decide)) rfl dX9_readPerson_127 (fun H locs w => ?_)
          refine lv_aload_n hx hb dX9_readPerson_128 rfl (lv_at hl 0 rfl) ?_
          refine r_get (v := .ref a5) M w 3 3 clX9 rfl (by decide) G372 rfl rfl dX9_readPerson_129 ?_
          refine lv_aload_n hx hb dX9_readPerson_132 rfl (lv_at hl 0 rfl) ?_
          refine r_get (v := .int (iI x0)) M w 3 9 clX9 rfl (by decide) G387 rfl rfl dX9_readPerson_133 ?_
          refine r_iald (v := _) M w 2 rfl (iI_in (by omega) (by omega) (by decide)) rfl dX9_readPerson_136 ?_
          refine b_any (fun z49 z49_a z49_b => ?_)
          refine lv_iconst (v := iI (-1)) hx hb dX9_readPerson_137 (by decide +kernel) ?_
          refine lv_icmp_ne (tgt := 143) hx hb dX9_readPerson_138 (by decide) (fun c_50 => ?_) (fun c_50 => ?_)
          · replace c_50 : ¬ z49 = (-1) := fun h => c_50 ((iI_eq (Int.le_trans (by decide) z49_a) (Int.le_trans z49_b (by decide)) (by decide) (by decide)).mpr h)
            refine lv_aload_n hx hb dX9_readPerson_143 rfl (lv_at hl 1 rfl) ?_
            refine k_V (ce := 0) (sl := 0) (rest := []) (wr := [(a3, .inl (T 0, 9, .inl (upd f0 (Int32.toNatClampNeg (iI x0)) (iI z20)))), (a4, .inl (T 0, 9, .inl (upd f1 (Int32.toNatClampNeg (iI x0)) (iI z33)))), (a5, .inl (T 0, 9, .inl (upd f2 (Int32.toNatClampNeg (iI x0)) (iI z46)))), (a0, .inr (9, [.ref a2, .ref a3, .ref a4, .ref a5, .ref a6, .ref a7, .ref a8, .ref a9, .ref a10, .int (iI x0), .int (iI x1), .int (iI x2), .int r0, .int (iI x3), .int r1, .int r2, .int r3, .int r4])), (a2, .inl (T 1, 9, .inr (.inl (vp_updL h0 (Int32.toNatClampNeg (iI x0)) fy6)))), (a9, .inl (T 1, 3, .inr (.inl h1)))]) (r_V (f := 4) [7, 6] M w V_HookedCity_Town_154 G587 G588 (c238_X8_step l D T _ a1 a11 x4 r5 z39 fr40 fr41 fo42 fy43 fr44 fr45 fr47 fr48 f3 x4_a x4_b z39_a z39_b fo42_h) 7 clX8 rfl rfl (by decide) rfl hl.1 rfl (Nat.le_of_ble_eq_true rfl) dX9_readPerson_144 (by decide) (by decide) (by decide) (by decide)) w [7, 6] [0, 1, 2, 3, 4, 5] rfl rfl (by decide) (by decide) rfl rfl (fun u H locs hp w => ?_)
            obtain ⟨z51, fr52, fr53, fo54, fy55, fr56, fr57⟩ := u
            have z51_a : 0 ≤ z51 := hp.1
            have z51_b : z51 ≤ 940 := hp.2.1
            have fo54_h : wok T fo54 := hp.2.2
            have w : WD D A s.heap [(a3, .inl (T 0, 9, .inl (upd f0 (Int32.toNatClampNeg (iI x0)) (iI z20)))), (a4, .inl (T 0, 9, .inl (upd f1 (Int32.toNatClampNeg (iI x0)) (iI z33)))), (a5, .inl (T 0, 9, .inl (upd f2 (Int32.toNatClampNeg (iI x0)) (iI z46)))), (a0, .inr (9, [.ref a2, .ref a3, .ref a4, .ref a5, .ref a6, .ref a7, .ref a8, .ref a9, .ref a10, .int (iI x0), .int (iI x1), .int (iI x2), .int r0, .int (iI x3), .int r1, .int r2, .int r3, .int r4])), (a2, .inl (T 1, 9, .inr (.inl (vp_updL h0 (Int32.toNatClampNeg (iI x0)) fy6)))), (a9, .inl (T 1, 3, .inr (.inl h1))), (a1, .inr (8, [.ref a11, .int (iI x4), .int r5, .int (iI z51), .int fr52, .int fr53, (va_rf fo54), .long fy55, .int fr56, .int fr57, .int fr47, .int fr48])), (a11, .inl (T 0, 940, .inl f3))] H locs := w
            refine lv_aload_n hx hb dX9_readPerson_147 rfl (lv_at hl 0 rfl) ?_
            refine lv_dup hx hb dX9_readPerson_148 rfl ?_
            refine r_get (v := .int (iI x0)) M w 3 9 clX9 rfl (by decide) G387 rfl rfl dX9_readPerson_149 ?_
            refine lv_iconst (v := iI 1) hx hb dX9_readPerson_152 (by decide +kernel) ?_
            refine r_iadd (v := iI (x0 + 1)) M (iI_add _ _) dX9_readPerson_153 ?_
            refine r_put (ws' := [(a3, .inl (T 0, 9, .inl (upd f0 (Int32.toNatClampNeg (iI x0)) (iI z20)))), (a4, .inl (T 0, 9, .inl (upd f1 (Int32.toNatClampNeg (iI x0)) (iI z33)))), (a5, .inl (T 0, 9, .inl (upd f2 (Int32.toNatClampNeg (iI x0)) (iI z46)))), (a0, .inr (9, [.ref a2, .ref a3, .ref a4, .ref a5, .ref a6, .ref a7, .ref a8, .ref a9, .ref a10, .int (iI (x0 + 1)), .int (iI x1), .int (iI x2), .int r0, .int (iI x3), .int r1, .int r2, .int r3, .int r4])), (a2, .inl (T 1, 9, .inr (.inl (vp_updL h0 (Int32.toNatClampNeg (iI x0)) fy6)))), (a9, .inl (T 1, 3, .inr (.inl h1))), (a1, .inr (8, [.ref a11, .int (iI x4), .int r5, .int (iI z51), .int fr52, .int fr53, (va_rf fo54), .long fy55, .int fr56, .int fr57, .int fr47, .int fr48])), (a11, .inl (T 0, 940, .inl f3))]) M w 3 9 clX9 rfl (by decide) G387 rfl rfl rfl rfl (Nat.le_of_ble_eq_true rfl) rfl dX9_readPerson_154 (fun H locs w => ?_)
            refine lv_iconst (v := iI 1) hx hb dX9_readPerson_157 (by decide +kernel) ?_
            exact ret _ (1, (x0 + 1), z51, fr52, fr53, fo54, fy55, fr56, fr57, fr47, fr48, (vp_updL h0 (Int32.toNatClampNeg (iI x0)) fy6), (upd f0 (Int32.toNatClampNeg (iI x0)) (iI z20)), (upd f1 (Int32.toNatClampNeg (iI x0)) (iI z33)), (upd f2 (Int32.toNatClampNeg (iI x0)) (iI z46))) _ _ _ _ _ [3, 6, 4, 0, 1, 2, 5, 7] dX9_readPerson_158 (by decide +kernel) ⟨rfl, (show (0 : Int) ≤ 1 from by decide), (show (1 : Int) ≤ 1 from by decide), (show 0 ≤ (x0 + 1) from by omega), (show (x0 + 1) ≤ 9 from by omega), z51_a, z51_b, fo54_h⟩ w (by decide) rfl
          · replace c_50 := (iI_eq (Int.le_trans (by decide) z49_a) (Int.le_trans z49_b (by decide)) (by decide) (by decide)).mp c_50
            refine lv_iconst (v := iI 0) hx hb dX9_readPerson_141 (by decide +kernel) ?_
            exact ret _ (0, x0, z39, fr40, fr41, fo42, fy43, fr44, fr45, fr47, fr48, (vp_updL h0 (Int32.toNatClampNeg (iI x0)) fy6), (upd f0 (Int32.toNatClampNeg (iI x0)) (iI z20)), (upd f1 (Int32.toNatClampNeg (iI x0)) (iI z33)), (upd f2 (Int32.toNatClampNeg (iI x0)) (iI z46))) _ _ _ _ _ [3, 7, 4, 0, 1, 2, 5, 6] dX9_readPerson_142 (by decide +kernel) ⟨rfl, (show (0 : Int) ≤ 0 from by decide), (show (0 : Int) ≤ 1 from by decide), x0_a, x0_b, z39_a, z39_b, fo42_h⟩ w (by decide) rfl
        · replace c_38 := (iI_eq (Int.le_trans (by decide) z37_a) (Int.le_trans z37_b (by decide)) (by decide) (by decide)).mp c_38
          refine lv_iconst (v := iI 0) hx hb dX9_readPerson_106 (by decide +kernel) ?_
          exact ret _ (0, x0, z26, fr27, fr28, fo34, fy30, fr31, fr32, fr35, fr36, (vp_updL h0 (Int32.toNatClampNeg (iI x0)) fy6), (upd f0 (Int32.toNatClampNeg (iI x0)) (iI z20)), (upd f1 (Int32.toNatClampNeg (iI x0)) (iI z33)), f2) _ _ _ _ _ [3, 7, 4, 0, 1, 2, 5, 6] dX9_readPerson_107 (by decide +kernel) ⟨rfl, (show (0 : Int) ≤ 0 from by decide), (show (0 : Int) ≤ 1 from by decide), x0_a, x0_b, z26_a, z26_b, fo34_h⟩ w (by decide) rfl
      · replace c_25 := (iI_eq (Int.le_trans (by decide) z24_a) (Int.le_trans z24_b (by decide)) (by decide) (by decide)).mp c_25
        refine lv_iconst (v := iI 0) hx hb dX9_readPerson_73 (by decide +kernel) ?_
        exact ret _ (0, x0, z13, fr14, fr15, fo21, fy17, fr18, fr19, fr22, fr23, (vp_updL h0 (Int32.toNatClampNeg (iI x0)) fy6), (upd f0 (Int32.toNatClampNeg (iI x0)) (iI z20)), f1, f2) _ _ _ _ _ [3, 7, 4, 0, 1, 2, 5, 6] dX9_readPerson_74 (by decide +kernel) ⟨rfl, (show (0 : Int) ≤ 0 from by decide), (show (0 : Int) ≤ 1 from by decide), x0_a, x0_b, z13_a, z13_b, fo21_h⟩ w (by decide) rfl
    · replace c_12 := (iz_eq (Int.le_trans (by decide) z9_a) (Int.le_trans z9_b (by decide))).mp c_12
      refine lv_iconst (v := iI 0) hx hb dX9_readPerson_27 (by decide +kernel) ?_
      exact ret _ (0, x0, z2, fr3, fr4, fo5, fy6, fr7, fr8, fr10, fr11, h0, f0, f1, f2) _ _ _ _ _ [4, 5, 6, 0, 1, 2, 7, 3] dX9_readPerson_28 (by decide +kernel) ⟨rfl, (show (0 : Int) ≤ 0 from by decide), (show (0 : Int) ≤ 1 from by decide), x0_a, x0_b, z2_a, z2_b, fo5_h⟩ w (by decide) rfl
  · replace c_1 : 9 ≤ x0 := Int.not_lt.mp (fun h => c_1 ((iI_lt (Int.le_trans (by decide) x0_a) (Int.le_trans x0_b (by decide)) (by decide) (by decide)).mpr h))
    refine lv_aload_n hx hb dX9_readPerson_9 rfl (lv_at hl 1 rfl) ?_
    refine lv_iconst (v := iI 4) hx hb dX9_readPerson_10 (by decide +kernel) ?_
    refine k_I (ce := 0) (sl := 0) (rest := []) (wr := [(a0, .inr (9, [.ref a2, .ref a3, .ref a4, .ref a5, .ref a6, .ref a7, .ref a8, .ref a9, .ref a10, .int (iI x0), .int (iI x1), .int (iI x2), .int r0, .int (iI x3), .int r1, .int r2, .int r3, .int r4])), (a2, .inl (T 1, 9, .inr (.inl h0))), (a3, .inl (T 0, 9, .inl f0)), (a4, .inl (T 0, 9, .inl f1)), (a5, .inl (T 0, 9, .inl f2)), (a9, .inl (T 1, 3, .inr (.inl h1))), (a11, .inl (T 0, 940, .inl f3))]) (r_V (f := 0) [1] M w V_HookedCity_Town_150 G710 G711 (c243_X8_fail l D T _ a1 4 a11 x4 r5 x5 r6 r7 o0 y0 r8 r9 r10 r11 (by decide) (by decide) x4_a x4_b x5_a x5_b o0_h) 1 clX8 rfl rfl (by decide) rfl hl.1 rfl (Nat.le_of_ble_eq_true rfl) dX9_readPerson_11 (by decide) (by decide) (by decide) (by decide)) w [1] [0, 2, 3, 4, 5, 6, 7] rfl rfl (by decide) (by decide) rfl rfl (fun v u H locs hp w => ?_)
    obtain ⟨z58, fr59, fr60⟩ := u
    have hv : iI z58 = v := hp.1
    subst hv
    have z58_a : 0 ≤ z58 := hp.2.1
    have z58_b : z58 ≤ 1 := hp.2.2.1
    have w : WD D A s.heap [(a0, .inr (9, [.ref a2, .ref a3, .ref a4, .ref a5, .ref a6, .ref a7, .ref a8, .ref a9, .ref a10, .int (iI x0), .int (iI x1), .int (iI x2), .int r0, .int (iI x3), .int r1, .int r2, .int r3, .int r4])), (a2, .inl (T 1, 9, .inr (.inl h0))), (a3, .inl (T 0, 9, .inl f0)), (a4, .inl (T 0, 9, .inl f1)), (a5, .inl (T 0, 9, .inl f2)), (a9, .inl (T 1, 3, .inr (.inl h1))), (a11, .inl (T 0, 940, .inl f3)), (a1, .inr (8, [.ref a11, .int (iI x4), .int r5, .int (iI x5), .int r6, .int r7, (va_rf o0), .long y0, .int r8, .int r9, .int fr59, .int fr60]))] H locs := w
    rcases hp.2.2.2 with hr
    · subst hr
      exact ret _ (0, x0, x5, r6, r7, o0, y0, r8, r9, fr59, fr60, h0, f0, f1, f2) _ _ _ _ _ [0, 7, 1, 2, 3, 4, 5, 6] dX9_readPerson_14 (by decide +kernel) ⟨rfl, (show (0 : Int) ≤ 0 from by decide), (show (0 : Int) ≤ 1 from by decide), x0_a, x0_b, x5_a, x5_b, o0_h⟩ w (by decide) rfl
set_option maxRecDepth 100000 in
set_option maxHeartbeats 4000000 in
theorem c264_X9_readLine (l : Launch) (D : va_G) (T : Nat → ClassId) (sz : Nat) (a0 : Nat) (a1 : Nat) (a2 : Nat) (a3 : Nat) (a4 : Nat) (a5 : Nat) (a6 : Nat) (a7 : Nat) (a8 : Nat) (a9 : Nat) (a10 : Nat) (x0 : Int) (x1 : Int) (x2 : Int) (r0 : Int32) (x3 : Int) (r1 : Int32) (r2 : Int32) (r3 : Int32) (r4 : Int32) (a11 : Nat) (x4 : Int) (r5 : Int32) (x5 : Int) (r6 : Int32) (r7 : Int32) (o0 : Option Nat) (y0 : Int64) (r8 : Int32) (r9 : Int32) (r10 : Int32) (r11 : Int32) (h0 : Nat → Int64) (f0 : Nat → Int32) (f1 : Nat → Int32) (f2 : Nat → Int32) (f3 : Int → Int) (f4 : Int → Int) (f5 : Int → Int) (h1 : Nat → Int64) (f6 : Nat → Int32) (f7 : Nat → Int32) (x0_a : 0 ≤ x0) (x0_b : x0 ≤ 9) (x1_a : 0 ≤ x1) (x1_b : x1 ≤ 3) (x2_a : (-2147483648) ≤ x2) (x2_b : x2 ≤ 2147483647) (x3_a : (-2147483648) ≤ x3) (x3_b : x3 ≤ 2147483647) (x4_a : 0 ≤ x4) (x4_b : x4 ≤ 940) (x5_a : 0 ≤ x5) (x5_b : x5 ≤ 940) (o0_h : wok T o0) (f3_h : rng 0 511 f3) (f4_h : rng (-1) 8 f4) (f5_h : rng (-1) 8 f5) : Met l yX9_readLine (Cond.code yX9_readLine cX9_readLine 3 (some .boolean) :: GW) (Rm 7 0 0) (cPre [.ref a0, .ref a1] D T [(a0, .inr (9, [.ref a2, .ref a3, .ref a4, .ref a5, .ref a6, .ref a7, .ref a8, .ref a9, .ref a10, .int (iI x0), .int (iI x1), .int (iI x2), .int r0, .int (iI x3), .int r1, .int r2, .int r3, .int r4])), (a1, .inr (8, [.ref a11, .int (iI x4), .int r5, .int (iI x5), .int r6, .int r7, (va_rf o0), .long y0, .int r8, .int r9, .int r10, .int r11])), (a2, .inl (T 1, 9, .inr (.inl h0))), (a3, .inl (T 0, 9, .inl f0)), (a4, .inl (T 0, 9, .inl f1)), (a5, .inl (T 0, 9, .inl f2)), (a6, .inl (T 0, 9, .inl (cI f3))), (a7, .inl (T 0, 9, .inl (cI f4))), (a8, .inl (T 0, 9, .inl (cI f5))), (a9, .inl (T 1, 3, .inr (.inl h1))), (a10, .inl (T 0, 3, .inl f6)), (a11, .inl (T 0, 940, .inl f7))] sz) (qI D [(a0, .inr (9, [.ref a2, .ref a3, .ref a4, .ref a5, .ref a6, .ref a7, .ref a8, .ref a9, .ref a10, .int (iI x0), .int (iI x1), .int (iI x2), .int r0, .int (iI x3), .int r1, .int r2, .int r3, .int r4])), (a1, .inr (8, [.ref a11, .int (iI x4), .int r5, .int (iI x5), .int r6, .int r7, (va_rf o0), .long y0, .int r8, .int r9, .int r10, .int r11])), (a2, .inl (T 1, 9, .inr (.inl h0))), (a3, .inl (T 0, 9, .inl f0)), (a4, .inl (T 0, 9, .inl f1)), (a5, .inl (T 0, 9, .inl f2)), (a6, .inl (T 0, 9, .inl (cI f3))), (a7, .inl (T 0, 9, .inl (cI f4))), (a8, .inl (T 0, 9, .inl (cI f5))), (a9, .inl (T 1, 3, .inr (.inl h1))), (a10, .inl (T 0, 3, .inl f6)), (a11, .inl (T 0, 940, .inl f7))] sz (fun (v : Int32) (u : Int × Int × Int × Int32 × Int × Int32 × Int32 × Int32 × Int32 × Int × Int32 × Int32 × Option Nat × Int64 × Int32 × Int32 × Int32 × Int32 × (Nat → Int64) × (Nat → Int32) × (Nat → Int32) × (Nat → Int32) × (Int → Int) × (Int → Int) × (Int → Int) × (Nat → Int64) × (Nat → Int32)) => iI u.1 = v ∧ 0 ≤ u.1 ∧ u.1 ≤ 1 ∧ 0 ≤ u.2.1 ∧ u.2.1 ≤ 9 ∧ 0 ≤ u.2.2.1 ∧ u.2.2.1 ≤ 3 ∧ (-2147483648) ≤ u.2.2.2.2.1 ∧ u.2.2.2.2.1 ≤ 2147483647 ∧ 0 ≤ u.2.2.2.2.2.2.2.2.2.1 ∧ u.2.2.2.2.2.2.2.2.2.1 ≤ 940 ∧ wok T u.2.2.2.2.2.2.2.2.2.2.2.2.1 ∧ rng 0 511 u.2.2.2.2.2.2.2.2.2.2.2.2.2.2.2.2.2.2.2.2.2.2.1 ∧ rng (-1) 8 u.2.2.2.2.2.2.2.2.2.2.2.2.2.2.2.2.2.2.2.2.2.2.2.1 ∧ rng (-1) 8 u.2.2.2.2.2.2.2.2.2.2.2.2.2.2.2.2.2.2.2.2.2.2.2.2.1) (fun u => [(a0, .inr (9, [.ref a2, .ref a3, .ref a4, .ref a5, .ref a6, .ref a7, .ref a8, .ref a9, .ref a10, .int (iI u.2.1), .int (iI u.2.2.1), .int (iI x2), .int u.2.2.2.1, .int (iI u.2.2.2.2.1), .int u.2.2.2.2.2.1, .int u.2.2.2.2.2.2.1, .int u.2.2.2.2.2.2.2.1, .int u.2.2.2.2.2.2.2.2.1])), (a1, .inr (8, [.ref a11, .int (iI x4), .int r5, .int (iI u.2.2.2.2.2.2.2.2.2.1), .int u.2.2.2.2.2.2.2.2.2.2.1, .int u.2.2.2.2.2.2.2.2.2.2.2.1, (va_rf u.2.2.2.2.2.2.2.2.2.2.2.2.1), .long u.2.2.2.2.2.2.2.2.2.2.2.2.2.1, .int u.2.2.2.2.2.2.2.2.2.2.2.2.2.2.1, .int u.2.2.2.2.2.2.2.2.2.2.2.2.2.2.2.1, .int u.2.2.2.2.2.2.2.2.2.2.2.2.2.2.2.2.1, .int u.2.2.2.2.2.2.2.2.2.2.2.2.2.2.2.2.2.1])), (a2, .inl (T 1, 9, .inr (.inl u.2.2.2.2.2.2.2.2.2.2.2.2.2.2.2.2.2.2.1))), (a3, .inl (T 0, 9, .inl u.2.2.2.2.2.2.2.2.2.2.2.2.2.2.2.2.2.2.2.1)), (a4, .inl (T 0, 9, .inl u.2.2.2.2.2.2.2.2.2.2.2.2.2.2.2.2.2.2.2.2.1)), (a5, .inl (T 0, 9, .inl u.2.2.2.2.2.2.2.2.2.2.2.2.2.2.2.2.2.2.2.2.2.1)), (a6, .inl (T 0, 9, .inl (cI u.2.2.2.2.2.2.2.2.2.2.2.2.2.2.2.2.2.2.2.2.2.2.1))), (a7, .inl (T 0, 9, .inl (cI u.2.2.2.2.2.2.2.2.2.2.2.2.2.2.2.2.2.2.2.2.2.2.2.1))), (a8, .inl (T 0, 9, .inl (cI u.2.2.2.2.2.2.2.2.2.2.2.2.2.2.2.2.2.2.2.2.2.2.2.2.1))), (a9, .inl (T 1, 3, .inr (.inl u.2.2.2.2.2.2.2.2.2.2.2.2.2.2.2.2.2.2.2.2.2.2.2.2.2.1))), (a10, .inl (T 0, 3, .inl u.2.2.2.2.2.2.2.2.2.2.2.2.2.2.2.2.2.2.2.2.2.2.2.2.2.2)), (a11, .inl (T 0, 940, .inl f7))])) 0 0 (va_A [(a0, .inr (9, [.ref a2, .ref a3, .ref a4, .ref a5, .ref a6, .ref a7, .ref a8, .ref a9, .ref a10, .int (iI x0), .int (iI x1), .int (iI x2), .int r0, .int (iI x3), .int r1, .int r2, .int r3, .int r4])), (a1, .inr (8, [.ref a11, .int (iI x4), .int r5, .int (iI x5), .int r6, .int r7, (va_rf o0), .long y0, .int r8, .int r9, .int r10, .int r11])), (a2, .inl (T 1, 9, .inr (.inl h0))), (a3, .inl (T 0, 9, .inl f0)), (a4, .inl (T 0, 9, .inl f1)), (a5, .inl (T 0, 9, .inl f2)), (a6, .inl (T 0, 9, .inl (cI f3))), (a7, .inl (T 0, 9, .inl (cI f4))), (a8, .inl (T 0, 9, .inl (cI f5))), (a9, .inl (T 1, 3, .inr (.inl h1))), (a10, .inl (T 0, 3, .inl f6)), (a11, .inl (T 0, 940, .inl f7))] sz) := by
  refine e_Z (by decide) (Nat.le_of_ble_eq_true rfl) ?_
  intro p e s m args below meth c A Q ls M hin w ret hl
  have hx := M.1.1
  have hb := M.1.2.1
  have hl : lv_has ls 3 [(0, .ref a0), (1, .ref a1)] := hl
  refine lv_aload_n hx hb dX9_readLine_0 rfl (lv_at hl 1 rfl) ?_
  refine r_getN (v := (va_rf o0)) M w 1 6 clX8 rfl (by decide) N172 rfl rfl dX9_readLine_1 ?_
  cases o0 with
  | none =>
    refine lv_astore_nN (lv' := [(2, .null), (0, .ref a0), (1, .ref a1)]) hx hb dX9_readLine_4 rfl hl (by decide) rfl (fun ls hl => ?_)
    refine lv_aload_nN hx hb dX9_readLine_5 rfl (lv_at hl 0 rfl) ?_
    refine r_gets M w 0 rfl G703 dX9_readLine_6 ?_
    refine lv_acmp_ne (rx := none) (ry := (some (T (10 + 0)))) (tgt := 18) hx hb dX9_readLine_9 (by decide) (fun _ => ?_) (fun c => absurd c (by simp))
    refine lv_aload_nN hx hb dX9_readLine_18 rfl (lv_at hl 0 rfl) ?_
    refine r_gets M w 1 rfl G730 dX9_readLine_19 ?_
    refine lv_acmp_ne (rx := none) (ry := (some (T (10 + 1)))) (tgt := 31) hx hb dX9_readLine_22 (by decide) (fun _ => ?_) (fun c => absurd c (by simp))
    refine lv_aload_nN hx hb dX9_readLine_31 rfl (lv_at hl 0 rfl) ?_
    refine r_gets M w 2 rfl G736 dX9_readLine_32 ?_
    refine lv_acmp_ne (rx := none) (ry := (some (T (10 + 2)))) (tgt := 44) hx hb dX9_readLine_35 (by decide) (fun _ => ?_) (fun c => absurd c (by simp))
    refine lv_aload_nN hx hb dX9_readLine_44 rfl (lv_at hl 0 rfl) ?_
    refine r_gets M w 3 rfl G750 dX9_readLine_45 ?_
    refine lv_acmp_ne (rx := none) (ry := (some (T (10 + 3)))) (tgt := 57) hx hb dX9_readLine_48 (by decide) (fun _ => ?_) (fun c => absurd c (by simp))
    refine lv_aload_nN hx hb dX9_readLine_57 rfl (lv_at hl 0 rfl) ?_
    refine r_gets M w 4 rfl G756 dX9_readLine_58 ?_
    refine lv_acmp_ne (rx := none) (ry := (some (T (10 + 4)))) (tgt := 70) hx hb dX9_readLine_61 (by decide) (fun _ => ?_) (fun c => absurd c (by simp))
    refine lv_aload_nN hx hb dX9_readLine_70 rfl (lv_at hl 0 rfl) ?_
    refine r_gets M w 5 rfl G766 dX9_readLine_71 ?_
    refine lv_acmp_ne (rx := none) (ry := (some (T (10 + 5)))) (tgt := 83) hx hb dX9_readLine_74 (by decide) (fun _ => ?_) (fun c => absurd c (by simp))
    refine lv_aload_nN hx hb dX9_readLine_83 rfl (lv_at hl 0 rfl) ?_
    refine r_gets M w 6 rfl G772 dX9_readLine_84 ?_
    refine lv_acmp_ne (rx := none) (ry := (some (T (10 + 6)))) (tgt := 96) hx hb dX9_readLine_87 (by decide) (fun _ => ?_) (fun c => absurd c (by simp))
    refine lv_aload_n hx hb dX9_readLine_96 rfl (lv_at hl 2 rfl) ?_
    refine lv_iconst (v := iI 1) hx hb dX9_readLine_97 (by decide +kernel) ?_
    refine k_I (ce := 0) (sl := 0) (rest := []) (wr := [(a0, .inr (9, [.ref a2, .ref a3, .ref a4, .ref a5, .ref a6, .ref a7, .ref a8, .ref a9, .ref a10, .int (iI x0), .int (iI x1), .int (iI x2), .int r0, .int (iI x3), .int r1, .int r2, .int r3, .int r4])), (a2, .inl (T 1, 9, .inr (.inl h0))), (a3, .inl (T 0, 9, .inl f0)), (a4, .inl (T 0, 9, .inl f1)), (a5, .inl (T 0, 9, .inl f2)), (a6, .inl (T 0, 9, .inl (cI f3))), (a7, .inl (T 0, 9, .inl (cI f4))), (a8, .inl (T 0, 9, .inl (cI f5))), (a9, .inl (T 1, 3, .inr (.inl h1))), (a10, .inl (T 0, 3, .inl f6)), (a11, .inl (T 0, 940, .inl f7))]) (r_V (f := 0) [1] M w V_HookedCity_Town_150 G710 G711 (c243_X8_fail l D T _ a1 1 a11 x4 r5 x5 r6 r7 none y0 r8 r9 r10 r11 (by decide) (by decide) x4_a x4_b x5_a x5_b wok_n) 1 clX8 rfl rfl (by decide) rfl hl.1 rfl (Nat.le_of_ble_eq_true rfl) dX9_readLine_98 (by decide) (by decide) (by decide) (by decide)) w [1] [0, 2, 3, 4, 5, 6, 7, 8, 9, 10, 11] rfl rfl (by decide) (by decide) rfl rfl (fun v u H locs hp w => ?_)
    obtain ⟨z2, fr3, fr4⟩ := u
    have hv : iI z2 = v := hp.1
    subst hv
    have z2_a : 0 ≤ z2 := hp.2.1
    have z2_b : z2 ≤ 1 := hp.2.2.1
    have w : WD D A s.heap [(a0, .inr (9, [.ref a2, .ref a3, .ref a4, .ref a5, .ref a6, .ref a7, .ref a8, .ref a9, .ref a10, .int (iI x0), .int (iI x1), .int (iI x2), .int r0, .int (iI x3), .int r1, .int r2, .int r3, .int r4])), (a2, .inl (T 1, 9, .inr (.inl h0))), (a3, .inl (T 0, 9, .inl f0)), (a4, .inl (T 0, 9, .inl f1)), (a5, .inl (T 0, 9, .inl f2)), (a6, .inl (T 0, 9, .inl (cI f3))), (a7, .inl (T 0, 9, .inl (cI f4))), (a8, .inl (T 0, 9, .inl (cI f5))), (a9, .inl (T 1, 3, .inr (.inl h1))), (a10, .inl (T 0, 3, .inl f6)), (a11, .inl (T 0, 940, .inl f7)), (a1, .inr (8, [.ref a11, .int (iI x4), .int r5, .int (iI x5), .int r6, .int r7, (va_rf none), .long y0, .int r8, .int r9, .int fr3, .int fr4]))] H locs := w
    rcases hp.2.2.2 with hr
    · subst hr
      exact ret _ (0, x0, x1, r0, x3, r1, r2, r3, r4, x5, r6, r7, none, y0, r8, r9, fr3, fr4, h0, f0, f1, f2, f3, f4, f5, h1, f6) _ _ _ _ _ [0, 11, 1, 2, 3, 4, 5, 6, 7, 8, 9, 10] dX9_readLine_101 (by decide +kernel) ⟨rfl, (show (0 : Int) ≤ 0 from by decide), (show (0 : Int) ≤ 1 from by decide), x0_a, x0_b, x1_a, x1_b, x3_a, x3_b, x5_a, x5_b, wok_n, f3_h, f4_h, f5_h⟩ w (by decide) rfl
  | some qq1 =>
    refine lv_astore_n (lv' := [(2, .ref qq1), (0, .ref a0), (1, .ref a1)]) hx hb dX9_readLine_4 rfl hl (by decide) rfl (fun ls hl => ?_)
    refine lv_aload_n hx hb dX9_readLine_5 rfl (lv_at hl 0 rfl) ?_
    refine r_gets M w 0 rfl G703 dX9_readLine_6 ?_
    refine lv_acmp_ne (rx := (some qq1)) (ry := (some (T (10 + 0)))) (tgt := 18) hx hb dX9_readLine_9 (by decide) (fun c_5 => ?_) (fun c_5 => ?_)
    · refine lv_aload_n hx hb dX9_readLine_18 rfl (lv_at hl 0 rfl) ?_
      refine r_gets M w 1 rfl G730 dX9_readLine_19 ?_
      refine lv_acmp_ne (rx := (some qq1)) (ry := (some (T (10 + 1)))) (tgt := 31) hx hb dX9_readLine_22 (by decide) (fun c_6 => ?_) (fun c_6 => ?_)
      · refine lv_aload_n hx hb dX9_readLine_31 rfl (lv_at hl 0 rfl) ?_
        refine r_gets M w 2 rfl G736 dX9_readLine_32 ?_
        refine lv_acmp_ne (rx := (some qq1)) (ry := (some (T (10 + 2)))) (tgt := 44) hx hb dX9_readLine_35 (by decide) (fun c_7 => ?_) (fun c_7 => ?_)
        · refine lv_aload_n hx hb dX9_readLine_44 rfl (lv_at hl 0 rfl) ?_
          refine r_gets M w 3 rfl G750 dX9_readLine_45 ?_
          refine lv_acmp_ne (rx := (some qq1)) (ry := (some (T (10 + 3)))) (tgt := 57) hx hb dX9_readLine_48 (by decide) (fun c_8 => ?_) (fun c_8 => ?_)
          · refine lv_aload_n hx hb dX9_readLine_57 rfl (lv_at hl 0 rfl) ?_
            refine r_gets M w 4 rfl G756 dX9_readLine_58 ?_
            refine lv_acmp_ne (rx := (some qq1)) (ry := (some (T (10 + 4)))) (tgt := 70) hx hb dX9_readLine_61 (by decide) (fun c_9 => ?_) (fun c_9 => ?_)
            · refine lv_aload_n hx hb dX9_readLine_70 rfl (lv_at hl 0 rfl) ?_
              refine r_gets M w 5 rfl G766 dX9_readLine_71 ?_
              refine lv_acmp_ne (rx := (some qq1)) (ry := (some (T (10 + 5)))) (tgt := 83) hx hb dX9_readLine_74 (by decide) (fun c_10 => ?_) (fun c_10 => ?_)
              · refine lv_aload_n hx hb dX9_readLine_83 rfl (lv_at hl 0 rfl) ?_
                refine r_gets M w 6 rfl G772 dX9_readLine_84 ?_
                refine lv_acmp_ne (rx := (some qq1)) (ry := (some (T (10 + 6)))) (tgt := 96) hx hb dX9_readLine_87 (by decide) (fun c_11 => ?_) (fun c_11 => ?_)
                · refine lv_aload_n hx hb dX9_readLine_96 rfl (lv_at hl 2 rfl) ?_
                  refine lv_iconst (v := iI 1) hx hb dX9_readLine_97 (by decide +kernel) ?_
                  refine k_I (ce := 0) (sl := 0) (rest := []) (wr := [(a0, .inr (9, [.ref a2, .ref a3, .ref a4, .ref a5, .ref a6, .ref a7, .ref a8, .ref a9, .ref a10, .int (iI x0), .int (iI x1), .int (iI x2), .int r0, .int (iI x3), .int r1, .int r2, .int r3, .int r4])), (a2, .inl (T 1, 9, .inr (.inl h0))), (a3, .inl (T 0, 9, .inl f0)), (a4, .inl (T 0, 9, .inl f1)), (a5, .inl (T 0, 9, .inl f2)), (a6, .inl (T 0, 9, .inl (cI f3))), (a7, .inl (T 0, 9, .inl (cI f4))), (a8, .inl (T 0, 9, .inl (cI f5))), (a9, .inl (T 1, 3, .inr (.inl h1))), (a10, .inl (T 0, 3, .inl f6)), (a11, .inl (T 0, 940, .inl f7))]) (r_V (f := 0) [1] M w V_HookedCity_Town_150 G710 G711 (c243_X8_fail l D T _ a1 1 a11 x4 r5 x5 r6 r7 (some qq1) y0 r8 r9 r10 r11 (by decide) (by decide) x4_a x4_b x5_a x5_b o0_h) 1 clX8 rfl rfl (by decide) rfl hl.1 rfl (Nat.le_of_ble_eq_true rfl) dX9_readLine_98 (by decide) (by decide) (by decide) (by decide)) w [1] [0, 2, 3, 4, 5, 6, 7, 8, 9, 10, 11] rfl rfl (by decide) (by decide) rfl rfl (fun v u H locs hp w => ?_)
                  obtain ⟨z12, fr13, fr14⟩ := u
                  have hv : iI z12 = v := hp.1
                  subst hv
                  have z12_a : 0 ≤ z12 := hp.2.1
                  have z12_b : z12 ≤ 1 := hp.2.2.1
                  have w : WD D A s.heap [(a0, .inr (9, [.ref a2, .ref a3, .ref a4, .ref a5, .ref a6, .ref a7, .ref a8, .ref a9, .ref a10, .int (iI x0), .int (iI x1), .int (iI x2), .int r0, .int (iI x3), .int r1, .int r2, .int r3, .int r4])), (a2, .inl (T 1, 9, .inr (.inl h0))), (a3, .inl (T 0, 9, .inl f0)), (a4, .inl (T 0, 9, .inl f1)), (a5, .inl (T 0, 9, .inl f2)), (a6, .inl (T 0, 9, .inl (cI f3))), (a7, .inl (T 0, 9, .inl (cI f4))), (a8, .inl (T 0, 9, .inl (cI f5))), (a9, .inl (T 1, 3, .inr (.inl h1))), (a10, .inl (T 0, 3, .inl f6)), (a11, .inl (T 0, 940, .inl f7)), (a1, .inr (8, [.ref a11, .int (iI x4), .int r5, .int (iI x5), .int r6, .int r7, (va_rf (some qq1)), .long y0, .int r8, .int r9, .int fr13, .int fr14]))] H locs := w
                  rcases hp.2.2.2 with hr
                  · subst hr
                    exact ret _ (0, x0, x1, r0, x3, r1, r2, r3, r4, x5, r6, r7, (some qq1), y0, r8, r9, fr13, fr14, h0, f0, f1, f2, f3, f4, f5, h1, f6) _ _ _ _ _ [0, 11, 1, 2, 3, 4, 5, 6, 7, 8, 9, 10] dX9_readLine_101 (by decide +kernel) ⟨rfl, (show (0 : Int) ≤ 0 from by decide), (show (0 : Int) ≤ 1 from by decide), x0_a, x0_b, x1_a, x1_b, x3_a, x3_b, x5_a, x5_b, o0_h, f3_h, f4_h, f5_h⟩ w (by decide) rfl
                · refine lv_aload_n hx hb dX9_readLine_90 rfl (lv_at hl 1 rfl) ?_
                  refine lv_aload_n hx hb dX9_readLine_91 rfl (lv_at hl 2 rfl) ?_
                  refine k_I (ce := 0) (sl := 0) (rest := []) (wr := [(a2, .inl (T 1, 9, .inr (.inl h0))), (a3, .inl (T 0, 9, .inl f0)), (a4, .inl (T 0, 9, .inl f1)), (a5, .inl (T 0, 9, .inl f2)), (a6, .inl (T 0, 9, .inl (cI f3))), (a7, .inl (T 0, 9, .inl (cI f4))), (a8, .inl (T 0, 9, .inl (cI f5))), (a9, .inl (T 1, 3, .inr (.inl h1))), (a10, .inl (T 0, 3, .inl f6))]) (r_V (f := 6) [0, 1, 11] M w V_HookedCity_Town_147 G776 G14 (c251_X9_readJuly l D T _ a0 a1 a2 a3 a4 a5 a6 a7 a8 a9 a10 x0 x1 x2 r0 x3 r1 r2 r3 r4 a11 x4 r5 x5 r6 r7 (some qq1) y0 r8 r9 r10 r11 f7 x0_a x0_b x1_a x1_b x2_a x2_b x3_a x3_b x4_a x4_b x5_a x5_b o0_h) 0 clX9 rfl rfl (by decide) rfl hl.1 rfl (Nat.le_of_ble_eq_true rfl) dX9_readLine_92 (by decide) (by decide) (by decide) (by decide)) w [0, 1, 11] [2, 3, 4, 5, 6, 7, 8, 9, 10] rfl rfl (by decide) (by decide) rfl rfl (fun v u H locs hp w => ?_)
                  obtain ⟨z15, fr16, fr17, z18, fr19, fr20, fo21, fy22, fr23, fr24, fr25, fr26⟩ := u
                  have hv : iI z15 = v := hp.1
                  subst hv
                  have z15_a : 0 ≤ z15 := hp.2.1
                  have z15_b : z15 ≤ 1 := hp.2.2.1
                  have z18_a : 0 ≤ z18 := hp.2.2.2.1
                  have z18_b : z18 ≤ 940 := hp.2.2.2.2.1
                  have fo21_h : wok T fo21 := hp.2.2.2.2.2
                  have w : WD D A s.heap [(a2, .inl (T 1, 9, .inr (.inl h0))), (a3, .inl (T 0, 9, .inl f0)), (a4, .inl (T 0, 9, .inl f1)), (a5, .inl (T 0, 9, .inl f2)), (a6, .inl (T 0, 9, .inl (cI f3))), (a7, .inl (T 0, 9, .inl (cI f4))), (a8, .inl (T 0, 9, .inl (cI f5))), (a9, .inl (T 1, 3, .inr (.inl h1))), (a10, .inl (T 0, 3, .inl f6)), (a0, .inr (9, [.ref a2, .ref a3, .ref a4, .ref a5, .ref a6, .ref a7, .ref a8, .ref a9, .ref a10, .int (iI x0), .int (iI x1), .int (iI x2), .int r0, .int (iI x3), .int fr16, .int r2, .int r3, .int fr17])), (a1, .inr (8, [.ref a11, .int (iI x4), .int r5, .int (iI z18), .int fr19, .int fr20, (va_rf fo21), .long fy22, .int fr23, .int fr24, .int fr25, .int fr26])), (a11, .inl (T 0, 940, .inl f7))] H locs := w
                  exact ret _ (z15, x0, x1, r0, x3, fr16, r2, r3, fr17, z18, fr19, fr20, fo21, fy22, fr23, fr24, fr25, fr26, h0, f0, f1, f2, f3, f4, f5, h1, f6) _ _ _ _ _ [9, 10, 0, 1, 2, 3, 4, 5, 6, 7, 8, 11] dX9_readLine_95 (nb_n (by omega) (by omega)) ⟨rfl, z15_a, z15_b, x0_a, x0_b, x1_a, x1_b, x3_a, x3_b, z18_a, z18_b, fo21_h, f3_h, f4_h, f5_h⟩ w (by decide) rfl
              · refine lv_aload_n hx hb dX9_readLine_77 rfl (lv_at hl 1 rfl) ?_
                refine lv_aload_n hx hb dX9_readLine_78 rfl (lv_at hl 2 rfl) ?_
                refine k_I (ce := 0) (sl := 0) (rest := []) (wr := [(a2, .inl (T 1, 9, .inr (.inl h0))), (a3, .inl (T 0, 9, .inl f0)), (a4, .inl (T 0, 9, .inl f1)), (a5, .inl (T 0, 9, .inl f2)), (a6, .inl (T 0, 9, .inl (cI f3))), (a7, .inl (T 0, 9, .inl (cI f4))), (a8, .inl (T 0, 9, .inl (cI f5))), (a9, .inl (T 1, 3, .inr (.inl h1))), (a10, .inl (T 0, 3, .inl f6))]) (r_V (f := 6) [0, 1, 11] M w V_HookedCity_Town_141 G770 G13 (c252_X9_readYear l D T _ a0 a1 a2 a3 a4 a5 a6 a7 a8 a9 a10 x0 x1 x2 r0 x3 r1 r2 r3 r4 a11 x4 r5 x5 r6 r7 (some qq1) y0 r8 r9 r10 r11 f7 x0_a x0_b x1_a x1_b x2_a x2_b x3_a x3_b x4_a x4_b x5_a x5_b o0_h) 0 clX9 rfl rfl (by decide) rfl hl.1 rfl (Nat.le_of_ble_eq_true rfl) dX9_readLine_79 (by decide) (by decide) (by decide) (by decide)) w [0, 1, 11] [2, 3, 4, 5, 6, 7, 8, 9, 10] rfl rfl (by decide) (by decide) rfl rfl (fun v u H locs hp w => ?_)
                obtain ⟨z27, z28, fr29, z30, fr31, fr32, fo33, fy34, fr35, fr36, fr37, fr38⟩ := u
                have hv : iI z27 = v := hp.1
                subst hv
                have z27_a : 0 ≤ z27 := hp.2.1
                have z27_b : z27 ≤ 1 := hp.2.2.1
                have z28_a : (-2147483648) ≤ z28 := hp.2.2.2.1
                have z28_b : z28 ≤ 2147483647 := hp.2.2.2.2.1
                have z30_a : 0 ≤ z30 := hp.2.2.2.2.2.1
                have z30_b : z30 ≤ 940 := hp.2.2.2.2.2.2.1
                have fo33_h : wok T fo33 := hp.2.2.2.2.2.2.2
                have w : WD D A s.heap [(a2, .inl (T 1, 9, .inr (.inl h0))), (a3, .inl (T 0, 9, .inl f0)), (a4, .inl (T 0, 9, .inl f1)), (a5, .inl (T 0, 9, .inl f2)), (a6, .inl (T 0, 9, .inl (cI f3))), (a7, .inl (T 0, 9, .inl (cI f4))), (a8, .inl (T 0, 9, .inl (cI f5))), (a9, .inl (T 1, 3, .inr (.inl h1))), (a10, .inl (T 0, 3, .inl f6)), (a0, .inr (9, [.ref a2, .ref a3, .ref a4, .ref a5, .ref a6, .ref a7, .ref a8, .ref a9, .ref a10, .int (iI x0), .int (iI x1), .int (iI x2), .int r0, .int (iI z28), .int r1, .int r2, .int fr29, .int r4])), (a1, .inr (8, [.ref a11, .int (iI x4), .int r5, .int (iI z30), .int fr31, .int fr32, (va_rf fo33), .long fy34, .int fr35, .int fr36, .int fr37, .int fr38])), (a11, .inl (T 0, 940, .inl f7))] H locs := w
                exact ret _ (z27, x0, x1, r0, z28, r1, r2, fr29, r4, z30, fr31, fr32, fo33, fy34, fr35, fr36, fr37, fr38, h0, f0, f1, f2, f3, f4, f5, h1, f6) _ _ _ _ _ [9, 10, 0, 1, 2, 3, 4, 5, 6, 7, 8, 11] dX9_readLine_82 (nb_n (by omega) (by omega)) ⟨rfl, z27_a, z27_b, x0_a, x0_b, x1_a, x1_b, z28_a, z28_b, z30_a, z30_b, fo33_h, f3_h, f4_h, f5_h⟩ w (by decide) rfl
            · refine lv_aload_n hx hb dX9_readLine_64 rfl (lv_at hl 1 rfl) ?_
              refine lv_aload_n hx hb dX9_readLine_65 rfl (lv_at hl 2 rfl) ?_
              refine k_I (ce := 0) (sl := 0) (rest := []) (wr := [(a2, .inl (T 1, 9, .inr (.inl h0))), (a3, .inl (T 0, 9, .inl f0)), (a4, .inl (T 0, 9, .inl f1)), (a5, .inl (T 0, 9, .inl f2)), (a6, .inl (T 0, 9, .inl (cI f3))), (a7, .inl (T 0, 9, .inl (cI f4))), (a8, .inl (T 0, 9, .inl (cI f5))), (a9, .inl (T 1, 3, .inr (.inl h1))), (a10, .inl (T 0, 3, .inl f6))]) (r_V (f := 6) [0, 1, 11] M w V_HookedCity_Town_135 G760 G11 (c253_X9_readSpare l D T _ a0 a1 a2 a3 a4 a5 a6 a7 a8 a9 a10 x0 x1 x2 r0 x3 r1 r2 r3 r4 a11 x4 r5 x5 r6 r7 (some qq1) y0 r8 r9 r10 r11 f7 x0_a x0_b x1_a x1_b x2_a x2_b x3_a x3_b x4_a x4_b x5_a x5_b o0_h) 0 clX9 rfl rfl (by decide) rfl hl.1 rfl (Nat.le_of_ble_eq_true rfl) dX9_readLine_66 (by decide) (by decide) (by decide) (by decide)) w [0, 1, 11] [2, 3, 4, 5, 6, 7, 8, 9, 10] rfl rfl (by decide) (by decide) rfl rfl (fun v u H locs hp w => ?_)
              obtain ⟨z39, fr40, fr41, z42, fr43, fr44, fo45, fy46, fr47, fr48, fr49, fr50⟩ := u
              have hv : iI z39 = v := hp.1
              subst hv
              have z39_a : 0 ≤ z39 := hp.2.1
              have z39_b : z39 ≤ 1 := hp.2.2.1
              have z42_a : 0 ≤ z42 := hp.2.2.2.1
              have z42_b : z42 ≤ 940 := hp.2.2.2.2.1
              have fo45_h : wok T fo45 := hp.2.2.2.2.2
              have w : WD D A s.heap [(a2, .inl (T 1, 9, .inr (.inl h0))), (a3, .inl (T 0, 9, .inl f0)), (a4, .inl (T 0, 9, .inl f1)), (a5, .inl (T 0, 9, .inl f2)), (a6, .inl (T 0, 9, .inl (cI f3))), (a7, .inl (T 0, 9, .inl (cI f4))), (a8, .inl (T 0, 9, .inl (cI f5))), (a9, .inl (T 1, 3, .inr (.inl h1))), (a10, .inl (T 0, 3, .inl f6)), (a0, .inr (9, [.ref a2, .ref a3, .ref a4, .ref a5, .ref a6, .ref a7, .ref a8, .ref a9, .ref a10, .int (iI x0), .int (iI x1), .int (iI x2), .int fr40, .int (iI x3), .int r1, .int fr41, .int r3, .int r4])), (a1, .inr (8, [.ref a11, .int (iI x4), .int r5, .int (iI z42), .int fr43, .int fr44, (va_rf fo45), .long fy46, .int fr47, .int fr48, .int fr49, .int fr50])), (a11, .inl (T 0, 940, .inl f7))] H locs := w
              exact ret _ (z39, x0, x1, fr40, x3, r1, fr41, r3, r4, z42, fr43, fr44, fo45, fy46, fr47, fr48, fr49, fr50, h0, f0, f1, f2, f3, f4, f5, h1, f6) _ _ _ _ _ [9, 10, 0, 1, 2, 3, 4, 5, 6, 7, 8, 11] dX9_readLine_69 (nb_n (by omega) (by omega)) ⟨rfl, z39_a, z39_b, x0_a, x0_b, x1_a, x1_b, x3_a, x3_b, z42_a, z42_b, fo45_h, f3_h, f4_h, f5_h⟩ w (by decide) rfl
          · refine lv_aload_n hx hb dX9_readLine_51 rfl (lv_at hl 1 rfl) ?_
            refine lv_aload_n hx hb dX9_readLine_52 rfl (lv_at hl 2 rfl) ?_
            refine k_I (ce := 0) (sl := 0) (rest := []) (wr := [(a5, .inl (T 0, 9, .inl f2)), (a6, .inl (T 0, 9, .inl (cI f3))), (a9, .inl (T 1, 3, .inr (.inl h1))), (a10, .inl (T 0, 3, .inl f6))]) (r_V (f := 5) [0, 1, 2, 3, 4, 7, 8, 11] M w V_HookedCity_Town_129 G754 G10 (c257_X9_readDone l D T _ a0 a1 a2 a3 a4 a5 a6 a7 a8 a9 a10 x0 x1 x2 r0 x3 r1 r2 r3 r4 a11 x4 r5 x5 r6 r7 (some qq1) y0 r8 r9 r10 r11 h0 f0 f1 f4 f5 f7 x0_a x0_b x1_a x1_b x2_a x2_b x3_a x3_b x4_a x4_b x5_a x5_b o0_h f4_h f5_h) 0 clX9 rfl rfl (by decide) rfl hl.1 rfl (Nat.le_of_ble_eq_true rfl) dX9_readLine_53 (by decide) (by decide) (by decide) (by decide)) w [0, 1, 2, 3, 4, 7, 8, 11] [5, 6, 9, 10] rfl rfl (by decide) (by decide) rfl rfl (fun v u H locs hp w => ?_)
            obtain ⟨z51, z52, fr53, fr54, fo55, fy56, fr57, fr58, fr59, fr60, ff61, ff62⟩ := u
            have hv : iI z51 = v := hp.1
            subst hv
            have z51_a : 0 ≤ z51 := hp.2.1
            have z51_b : z51 ≤ 1 := hp.2.2.1
            have z52_a : 0 ≤ z52 := hp.2.2.2.1
            have z52_b : z52 ≤ 940 := hp.2.2.2.2.1
            have fo55_h : wok T fo55 := hp.2.2.2.2.2.1
            have ff61_h : rng (-1) 8 ff61 := hp.2.2.2.2.2.2.1
            have ff62_h : rng (-1) 8 ff62 := hp.2.2.2.2.2.2.2
            have w : WD D A s.heap [(a5, .inl (T 0, 9, .inl f2)), (a6, .inl (T 0, 9, .inl (cI f3))), (a9, .inl (T 1, 3, .inr (.inl h1))), (a10, .inl (T 0, 3, .inl f6)), (a0, .inr (9, [.ref a2, .ref a3, .ref a4, .ref a5, .ref a6, .ref a7, .ref a8, .ref a9, .ref a10, .int (iI x0), .int (iI x1), .int (iI x2), .int r0, .int (iI x3), .int r1, .int r2, .int r3, .int r4])), (a1, .inr (8, [.ref a11, .int (iI x4), .int r5, .int (iI z52), .int fr53, .int fr54, (va_rf fo55), .long fy56, .int fr57, .int fr58, .int fr59, .int fr60])), (a2, .inl (T 1, 9, .inr (.inl h0))), (a3, .inl (T 0, 9, .inl f0)), (a4, .inl (T 0, 9, .inl f1)), (a7, .inl (T 0, 9, .inl (cI ff61))), (a8, .inl (T 0, 9, .inl (cI ff62))), (a11, .inl (T 0, 940, .inl f7))] H locs := w
            exact ret _ (z51, x0, x1, r0, x3, r1, r2, r3, r4, z52, fr53, fr54, fo55, fy56, fr57, fr58, fr59, fr60, h0, f0, f1, f2, f3, ff61, ff62, h1, f6) _ _ _ _ _ [4, 5, 6, 7, 8, 0, 1, 9, 10, 2, 3, 11] dX9_readLine_56 (nb_n (by omega) (by omega)) ⟨rfl, z51_a, z51_b, x0_a, x0_b, x1_a, x1_b, x3_a, x3_b, z52_a, z52_b, fo55_h, f3_h, ff61_h, ff62_h⟩ w (by decide) rfl
        · refine lv_aload_n hx hb dX9_readLine_38 rfl (lv_at hl 1 rfl) ?_
          refine lv_aload_n hx hb dX9_readLine_39 rfl (lv_at hl 2 rfl) ?_
          refine k_I (ce := 0) (sl := 0) (rest := []) (wr := [(a3, .inl (T 0, 9, .inl f0)), (a4, .inl (T 0, 9, .inl f1)), (a5, .inl (T 0, 9, .inl f2)), (a7, .inl (T 0, 9, .inl (cI f4))), (a8, .inl (T 0, 9, .inl (cI f5))), (a9, .inl (T 1, 3, .inr (.inl h1))), (a10, .inl (T 0, 3, .inl f6))]) (r_V (f := 5) [0, 1, 2, 6, 11] M w V_HookedCity_Town_123 G740 G8 (c258_X9_readStreet l D T _ a0 a1 a2 a3 a4 a5 a6 a7 a8 a9 a10 x0 x1 x2 r0 x3 r1 r2 r3 r4 a11 x4 r5 x5 r6 r7 (some qq1) y0 r8 r9 r10 r11 h0 f3 f7 x0_a x0_b x1_a x1_b x2_a x2_b x3_a x3_b x4_a x4_b x5_a x5_b o0_h f3_h) 0 clX9 rfl rfl (by decide) rfl hl.1 rfl (Nat.le_of_ble_eq_true rfl) dX9_readLine_40 (by decide) (by decide) (by decide) (by decide)) w [0, 1, 2, 6, 11] [3, 4, 5, 7, 8, 9, 10] rfl rfl (by decide) (by decide) rfl rfl (fun v u H locs hp w => ?_)
          obtain ⟨z63, z64, fr65, fr66, fo67, fy68, fr69, fr70, fr71, fr72, ff73⟩ := u
          have hv : iI z63 = v := hp.1
          subst hv
          have z63_a : 0 ≤ z63 := hp.2.1
          have z63_b : z63 ≤ 1 := hp.2.2.1
          have z64_a : 0 ≤ z64 := hp.2.2.2.1
          have z64_b : z64 ≤ 940 := hp.2.2.2.2.1
          have fo67_h : wok T fo67 := hp.2.2.2.2.2.1
          have ff73_h : rng 0 511 ff73 := hp.2.2.2.2.2.2
          have w : WD D A s.heap [(a3, .inl (T 0, 9, .inl f0)), (a4, .inl (T 0, 9, .inl f1)), (a5, .inl (T 0, 9, .inl f2)), (a7, .inl (T 0, 9, .inl (cI f4))), (a8, .inl (T 0, 9, .inl (cI f5))), (a9, .inl (T 1, 3, .inr (.inl h1))), (a10, .inl (T 0, 3, .inl f6)), (a0, .inr (9, [.ref a2, .ref a3, .ref a4, .ref a5, .ref a6, .ref a7, .ref a8, .ref a9, .ref a10, .int (iI x0), .int (iI x1), .int (iI x2), .int r0, .int (iI x3), .int r1, .int r2, .int r3, .int r4])), (a1, .inr (8, [.ref a11, .int (iI x4), .int r5, .int (iI z64), .int fr65, .int fr66, (va_rf fo67), .long fy68, .int fr69, .int fr70, .int fr71, .int fr72])), (a2, .inl (T 1, 9, .inr (.inl h0))), (a6, .inl (T 0, 9, .inl (cI ff73))), (a11, .inl (T 0, 940, .inl f7))] H locs := w
          exact ret _ (z63, x0, x1, r0, x3, r1, r2, r3, r4, z64, fr65, fr66, fo67, fy68, fr69, fr70, fr71, fr72, h0, f0, f1, f2, ff73, f4, f5, h1, f6) _ _ _ _ _ [7, 8, 9, 0, 1, 2, 10, 3, 4, 5, 6, 11] dX9_readLine_43 (nb_n (by omega) (by omega)) ⟨rfl, z63_a, z63_b, x0_a, x0_b, x1_a, x1_b, x3_a, x3_b, z64_a, z64_b, fo67_h, ff73_h, f4_h, f5_h⟩ w (by decide) rfl
      · refine lv_aload_n hx hb dX9_readLine_25 rfl (lv_at hl 1 rfl) ?_
        refine lv_aload_n hx hb dX9_readLine_26 rfl (lv_at hl 2 rfl) ?_
        refine k_I (ce := 0) (sl := 0) (rest := []) (wr := [(a3, .inl (T 0, 9, .inl f0)), (a4, .inl (T 0, 9, .inl f1)), (a5, .inl (T 0, 9, .inl f2)), (a6, .inl (T 0, 9, .inl (cI f3))), (a7, .inl (T 0, 9, .inl (cI f4))), (a8, .inl (T 0, 9, .inl (cI f5)))]) (r_V (f := 5) [0, 1, 2, 9, 10, 11] M w V_HookedCity_Town_117 G734 G7 (c261_X9_readMaid l D T _ a0 a1 a2 a3 a4 a5 a6 a7 a8 a9 a10 x0 x1 x2 r0 x3 r1 r2 r3 r4 a11 x4 r5 x5 r6 r7 (some qq1) y0 r8 r9 r10 r11 h0 h1 f6 f7 x0_a x0_b x1_a x1_b x2_a x2_b x3_a x3_b x4_a x4_b x5_a x5_b o0_h) 0 clX9 rfl rfl (by decide) rfl hl.1 rfl (Nat.le_of_ble_eq_true rfl) dX9_readLine_27 (by decide) (by decide) (by decide) (by decide)) w [0, 1, 2, 9, 10, 11] [3, 4, 5, 6, 7, 8] rfl rfl (by decide) (by decide) rfl rfl (fun v u H locs hp w => ?_)
        obtain ⟨z74, z75, z76, fr77, fr78, fo79, fy80, fr81, fr82, fr83, fr84, fh85, ff86⟩ := u
        have hv : iI z74 = v := hp.1
        subst hv
        have z74_a : 0 ≤ z74 := hp.2.1
        have z74_b : z74 ≤ 1 := hp.2.2.1
        have z75_a : 0 ≤ z75 := hp.2.2.2.1
        have z75_b : z75 ≤ 3 := hp.2.2.2.2.1
        have z76_a : 0 ≤ z76 := hp.2.2.2.2.2.1
        have z76_b : z76 ≤ 940 := hp.2.2.2.2.2.2.1
        have fo79_h : wok T fo79 := hp.2.2.2.2.2.2.2
        have w : WD D A s.heap [(a3, .inl (T 0, 9, .inl f0)), (a4, .inl (T 0, 9, .inl f1)), (a5, .inl (T 0, 9, .inl f2)), (a6, .inl (T 0, 9, .inl (cI f3))), (a7, .inl (T 0, 9, .inl (cI f4))), (a8, .inl (T 0, 9, .inl (cI f5))), (a0, .inr (9, [.ref a2, .ref a3, .ref a4, .ref a5, .ref a6, .ref a7, .ref a8, .ref a9, .ref a10, .int (iI x0), .int (iI z75), .int (iI x2), .int r0, .int (iI x3), .int r1, .int r2, .int r3, .int r4])), (a1, .inr (8, [.ref a11, .int (iI x4), .int r5, .int (iI z76), .int fr77, .int fr78, (va_rf fo79), .long fy80, .int fr81, .int fr82, .int fr83, .int fr84])), (a2, .inl (T 1, 9, .inr (.inl h0))), (a9, .inl (T 1, 3, .inr (.inl fh85))), (a10, .inl (T 0, 3, .inl ff86)), (a11, .inl (T 0, 940, .inl f7))] H locs := w
        exact ret _ (z74, x0, z75, r0, x3, r1, r2, r3, r4, z76, fr77, fr78, fo79, fy80, fr81, fr82, fr83, fr84, h0, f0, f1, f2, f3, f4, f5, fh85, ff86) _ _ _ _ _ [6, 7, 8, 0, 1, 2, 3, 4, 5, 9, 10, 11] dX9_readLine_30 (nb_n (by omega) (by omega)) ⟨rfl, z74_a, z74_b, x0_a, x0_b, z75_a, z75_b, x3_a, x3_b, z76_a, z76_b, fo79_h, f3_h, f4_h, f5_h⟩ w (by decide) rfl
    · refine lv_aload_n hx hb dX9_readLine_12 rfl (lv_at hl 1 rfl) ?_
      refine lv_aload_n hx hb dX9_readLine_13 rfl (lv_at hl 2 rfl) ?_
      refine k_I (ce := 0) (sl := 0) (rest := []) (wr := [(a6, .inl (T 0, 9, .inl (cI f3))), (a7, .inl (T 0, 9, .inl (cI f4))), (a8, .inl (T 0, 9, .inl (cI f5))), (a10, .inl (T 0, 3, .inl f6))]) (r_V (f := 5) [0, 1, 2, 3, 4, 5, 9, 11] M w V_HookedCity_Town_111 G707 G4 (c263_X9_readPerson l D T _ a0 a1 a2 a3 a4 a5 a6 a7 a8 a9 a10 x0 x1 x2 r0 x3 r1 r2 r3 r4 a11 x4 r5 x5 r6 r7 (some qq1) y0 r8 r9 r10 r11 h0 f0 f1 f2 h1 f7 x0_a x0_b x1_a x1_b x2_a x2_b x3_a x3_b x4_a x4_b x5_a x5_b o0_h) 0 clX9 rfl rfl (by decide) rfl hl.1 rfl (Nat.le_of_ble_eq_true rfl) dX9_readLine_14 (by decide) (by decide) (by decide) (by decide)) w [0, 1, 2, 3, 4, 5, 9, 11] [6, 7, 8, 10] rfl rfl (by decide) (by decide) rfl rfl (fun v u H locs hp w => ?_)
      obtain ⟨z87, z88, z89, fr90, fr91, fo92, fy93, fr94, fr95, fr96, fr97, fh98, ff99, ff100, ff101⟩ := u
      have hv : iI z87 = v := hp.1
      subst hv
      have z87_a : 0 ≤ z87 := hp.2.1
      have z87_b : z87 ≤ 1 := hp.2.2.1
      have z88_a : 0 ≤ z88 := hp.2.2.2.1
      have z88_b : z88 ≤ 9 := hp.2.2.2.2.1
      have z89_a : 0 ≤ z89 := hp.2.2.2.2.2.1
      have z89_b : z89 ≤ 940 := hp.2.2.2.2.2.2.1
      have fo92_h : wok T fo92 := hp.2.2.2.2.2.2.2
      have w : WD D A s.heap [(a6, .inl (T 0, 9, .inl (cI f3))), (a7, .inl (T 0, 9, .inl (cI f4))), (a8, .inl (T 0, 9, .inl (cI f5))), (a10, .inl (T 0, 3, .inl f6)), (a0, .inr (9, [.ref a2, .ref a3, .ref a4, .ref a5, .ref a6, .ref a7, .ref a8, .ref a9, .ref a10, .int (iI z88), .int (iI x1), .int (iI x2), .int r0, .int (iI x3), .int r1, .int r2, .int r3, .int r4])), (a1, .inr (8, [.ref a11, .int (iI x4), .int r5, .int (iI z89), .int fr90, .int fr91, (va_rf fo92), .long fy93, .int fr94, .int fr95, .int fr96, .int fr97])), (a2, .inl (T 1, 9, .inr (.inl fh98))), (a3, .inl (T 0, 9, .inl ff99)), (a4, .inl (T 0, 9, .inl ff100)), (a5, .inl (T 0, 9, .inl ff101)), (a9, .inl (T 1, 3, .inr (.inl h1))), (a11, .inl (T 0, 940, .inl f7))] H locs := w
      exact ret _ (z87, z88, x1, r0, x3, r1, r2, r3, r4, z89, fr90, fr91, fo92, fy93, fr94, fr95, fr96, fr97, fh98, ff99, ff100, ff101, f3, f4, f5, h1, f6) _ _ _ _ _ [4, 5, 6, 7, 8, 9, 0, 1, 2, 10, 3, 11] dX9_readLine_17 (nb_n (by omega) (by omega)) ⟨rfl, z87_a, z87_b, z88_a, z88_b, x1_a, x1_b, x3_a, x3_b, z89_a, z89_b, fo92_h, f3_h, f4_h, f5_h⟩ w (by decide) rfl
set_option maxRecDepth 100000 in
set_option maxHeartbeats 4000000 in
theorem c265_X9_read (l : Launch) (D : va_G) (T : Nat → ClassId) (sz : Nat) (a0 : Nat) (a1 : Nat) (a2 : Nat) (a3 : Nat) (a4 : Nat) (a5 : Nat) (a6 : Nat) (a7 : Nat) (a8 : Nat) (a9 : Nat) (a10 : Nat) (x0 : Int) (x1 : Int) (x2 : Int) (r0 : Int32) (x3 : Int) (r1 : Int32) (r2 : Int32) (r3 : Int32) (r4 : Int32) (a11 : Nat) (x4 : Int) (r5 : Int32) (x5 : Int) (r6 : Int32) (r7 : Int32) (o0 : Option Nat) (y0 : Int64) (r8 : Int32) (r9 : Int32) (r10 : Int32) (r11 : Int32) (h0 : Nat → Int64) (f0 : Nat → Int32) (f1 : Nat → Int32) (f2 : Nat → Int32) (f3 : Int → Int) (f4 : Int → Int) (f5 : Int → Int) (h1 : Nat → Int64) (f6 : Nat → Int32) (f7 : Nat → Int32) (x0_a : 0 ≤ x0) (x0_b : x0 ≤ 9) (x1_a : 0 ≤ x1) (x1_b : x1 ≤ 3) (x2_a : (-2147483648) ≤ x2) (x2_b : x2 ≤ 2147483647) (x3_a : (-2147483648) ≤ x3) (x3_b : x3 ≤ 2147483647) (x4_a : 0 ≤ x4) (x4_b : x4 ≤ 940) (x5_a : 0 ≤ x5) (x5_b : x5 ≤ 940) (o0_h : wok T o0) (f3_h : rng 0 511 f3) (f4_h : rng (-1) 8 f4) (f5_h : rng (-1) 8 f5) : Met l yX9_read (Cond.code yX9_read cX9_read 2 (some .boolean) :: GW) (Rm 8 0 0) (cPre [.ref a0, .ref a1] D T [(a0, .inr (9, [.ref a2, .ref a3, .ref a4, .ref a5, .ref a6, .ref a7, .ref a8, .ref a9, .ref a10, .int (iI x0), .int (iI x1), .int (iI x2), .int r0, .int (iI x3), .int r1, .int r2, .int r3, .int r4])), (a1, .inr (8, [.ref a11, .int (iI x4), .int r5, .int (iI x5), .int r6, .int r7, (va_rf o0), .long y0, .int r8, .int r9, .int r10, .int r11])), (a2, .inl (T 1, 9, .inr (.inl h0))), (a3, .inl (T 0, 9, .inl f0)), (a4, .inl (T 0, 9, .inl f1)), (a5, .inl (T 0, 9, .inl f2)), (a6, .inl (T 0, 9, .inl (cI f3))), (a7, .inl (T 0, 9, .inl (cI f4))), (a8, .inl (T 0, 9, .inl (cI f5))), (a9, .inl (T 1, 3, .inr (.inl h1))), (a10, .inl (T 0, 3, .inl f6)), (a11, .inl (T 0, 940, .inl f7))] sz) (qI D [(a0, .inr (9, [.ref a2, .ref a3, .ref a4, .ref a5, .ref a6, .ref a7, .ref a8, .ref a9, .ref a10, .int (iI x0), .int (iI x1), .int (iI x2), .int r0, .int (iI x3), .int r1, .int r2, .int r3, .int r4])), (a1, .inr (8, [.ref a11, .int (iI x4), .int r5, .int (iI x5), .int r6, .int r7, (va_rf o0), .long y0, .int r8, .int r9, .int r10, .int r11])), (a2, .inl (T 1, 9, .inr (.inl h0))), (a3, .inl (T 0, 9, .inl f0)), (a4, .inl (T 0, 9, .inl f1)), (a5, .inl (T 0, 9, .inl f2)), (a6, .inl (T 0, 9, .inl (cI f3))), (a7, .inl (T 0, 9, .inl (cI f4))), (a8, .inl (T 0, 9, .inl (cI f5))), (a9, .inl (T 1, 3, .inr (.inl h1))), (a10, .inl (T 0, 3, .inl f6)), (a11, .inl (T 0, 940, .inl f7))] sz (fun (v : Int32) (u : Int × Int × Int × Int × Int32 × Int × Int32 × Int32 × Int32 × Int32 × Int32 × Int × Int32 × Int32 × Option Nat × Int64 × Int32 × Int32 × Int32 × Int32 × (Nat → Int64) × (Nat → Int32) × (Nat → Int32) × (Nat → Int32) × (Int → Int) × (Int → Int) × (Int → Int) × (Nat → Int64) × (Nat → Int32)) => iI u.1 = v ∧ 0 ≤ u.1 ∧ u.1 ≤ 1 ∧ 0 ≤ u.2.1 ∧ u.2.1 ≤ 9 ∧ 0 ≤ u.2.2.1 ∧ u.2.2.1 ≤ 3 ∧ (-2147483648) ≤ u.2.2.2.1 ∧ u.2.2.2.1 ≤ 2147483647 ∧ (-2147483648) ≤ u.2.2.2.2.2.1 ∧ u.2.2.2.2.2.1 ≤ 2147483647 ∧ 0 ≤ u.2.2.2.2.2.2.2.2.2.2.2.1 ∧ u.2.2.2.2.2.2.2.2.2.2.2.1 ≤ 940 ∧ wok T u.2.2.2.2.2.2.2.2.2.2.2.2.2.2.1 ∧ rng 0 511 u.2.2.2.2.2.2.2.2.2.2.2.2.2.2.2.2.2.2.2.2.2.2.2.2.1 ∧ rng (-1) 8 u.2.2.2.2.2.2.2.2.2.2.2.2.2.2.2.2.2.2.2.2.2.2.2.2.2.1 ∧ rng (-1) 8 u.2.2.2.2.2.2.2.2.2.2.2.2.2.2.2.2.2.2.2.2.2.2.2.2.2.2.1) (fun u => [(a0, .inr (9, [.ref a2, .ref a3, .ref a4, .ref a5, .ref a6, .ref a7, .ref a8, .ref a9, .ref a10, .int (iI u.2.1), .int (iI u.2.2.1), .int (iI u.2.2.2.1), .int u.2.2.2.2.1, .int (iI u.2.2.2.2.2.1), .int u.2.2.2.2.2.2.1, .int u.2.2.2.2.2.2.2.1, .int u.2.2.2.2.2.2.2.2.1, .int u.2.2.2.2.2.2.2.2.2.1])), (a1, .inr (8, [.ref a11, .int (iI x4), .int u.2.2.2.2.2.2.2.2.2.2.1, .int (iI u.2.2.2.2.2.2.2.2.2.2.2.1), .int u.2.2.2.2.2.2.2.2.2.2.2.2.1, .int u.2.2.2.2.2.2.2.2.2.2.2.2.2.1, (va_rf u.2.2.2.2.2.2.2.2.2.2.2.2.2.2.1), .long u.2.2.2.2.2.2.2.2.2.2.2.2.2.2.2.1, .int u.2.2.2.2.2.2.2.2.2.2.2.2.2.2.2.2.1, .int u.2.2.2.2.2.2.2.2.2.2.2.2.2.2.2.2.2.1, .int u.2.2.2.2.2.2.2.2.2.2.2.2.2.2.2.2.2.2.1, .int u.2.2.2.2.2.2.2.2.2.2.2.2.2.2.2.2.2.2.2.1])), (a2, .inl (T 1, 9, .inr (.inl u.2.2.2.2.2.2.2.2.2.2.2.2.2.2.2.2.2.2.2.2.1))), (a3, .inl (T 0, 9, .inl u.2.2.2.2.2.2.2.2.2.2.2.2.2.2.2.2.2.2.2.2.2.1)), (a4, .inl (T 0, 9, .inl u.2.2.2.2.2.2.2.2.2.2.2.2.2.2.2.2.2.2.2.2.2.2.1)), (a5, .inl (T 0, 9, .inl u.2.2.2.2.2.2.2.2.2.2.2.2.2.2.2.2.2.2.2.2.2.2.2.1)), (a6, .inl (T 0, 9, .inl (cI u.2.2.2.2.2.2.2.2.2.2.2.2.2.2.2.2.2.2.2.2.2.2.2.2.1))), (a7, .inl (T 0, 9, .inl (cI u.2.2.2.2.2.2.2.2.2.2.2.2.2.2.2.2.2.2.2.2.2.2.2.2.2.1))), (a8, .inl (T 0, 9, .inl (cI u.2.2.2.2.2.2.2.2.2.2.2.2.2.2.2.2.2.2.2.2.2.2.2.2.2.2.1))), (a9, .inl (T 1, 3, .inr (.inl u.2.2.2.2.2.2.2.2.2.2.2.2.2.2.2.2.2.2.2.2.2.2.2.2.2.2.2.1))), (a10, .inl (T 0, 3, .inl u.2.2.2.2.2.2.2.2.2.2.2.2.2.2.2.2.2.2.2.2.2.2.2.2.2.2.2.2)), (a11, .inl (T 0, 940, .inl f7))])) 0 0 (va_A [(a0, .inr (9, [.ref a2, .ref a3, .ref a4, .ref a5, .ref a6, .ref a7, .ref a8, .ref a9, .ref a10, .int (iI x0), .int (iI x1), .int (iI x2), .int r0, .int (iI x3), .int r1, .int r2, .int r3, .int r4])), (a1, .inr (8, [.ref a11, .int (iI x4), .int r5, .int (iI x5), .int r6, .int r7, (va_rf o0), .long y0, .int r8, .int r9, .int r10, .int r11])), (a2, .inl (T 1, 9, .inr (.inl h0))), (a3, .inl (T 0, 9, .inl f0)), (a4, .inl (T 0, 9, .inl f1)), (a5, .inl (T 0, 9, .inl f2)), (a6, .inl (T 0, 9, .inl (cI f3))), (a7, .inl (T 0, 9, .inl (cI f4))), (a8, .inl (T 0, 9, .inl (cI f5))), (a9, .inl (T 1, 3, .inr (.inl h1))), (a10, .inl (T 0, 3, .inl f6)), (a11, .inl (T 0, 940, .inl f7))] sz) := by
  refine e_Z (by decide) (Nat.le_of_ble_eq_true rfl) ?_
  intro p e s m args below meth c A Q ls M hin w ret hl
  have hx := M.1.1
  have hb := M.1.2.1
  have hl : lv_has ls 2 [(0, .ref a0), (1, .ref a1)] := hl
  refine lv_aload_n hx hb dX9_read_0 rfl (lv_at hl 0 rfl) ?_
  refine k_V (ce := 0) (sl := 0) (rest := []) (wr := [(a1, .inr (8, [.ref a11, .int (iI x4), .int r5, .int (iI x5), .int r6, .int r7, (va_rf o0), .long y0, .int r8, .int r9, .int r10, .int r11])), (a2, .inl (T 1, 9, .inr (.inl h0))), (a3, .inl (T 0, 9, .inl f0)), (a4, .inl (T 0, 9, .inl f1)), (a5, .inl (T 0, 9, .inl f2)), (a9, .inl (T 1, 3, .inr (.inl h1))), (a10, .inl (T 0, 3, .inl f6)), (a11, .inl (T 0, 940, .inl f7))]) (r_V (f := 1) [0, 6, 7, 8] M w V_HookedCity_Town_81 G579 G1 (c248_X9_clear l D T _ a0 a2 a3 a4 a5 a6 a7 a8 a9 a10 x0 x1 x2 r0 x3 r1 r2 r3 r4 f3 f4 f5 x0_a x0_b x1_a x1_b x2_a x2_b x3_a x3_b f3_h f4_h f5_h) 0 clX9 rfl rfl (by decide) rfl hl.1 rfl (Nat.le_of_ble_eq_true rfl) dX9_read_1 (by decide) (by decide) (by decide) (by decide)) w [0, 6, 7, 8] [1, 2, 3, 4, 5, 9, 10, 11] rfl rfl (by decide) (by decide) rfl rfl (fun u H locs hp w => ?_)
  obtain ⟨z1, z2, fr3, z4, fr5, fr6, fr7, fr8, ff9, ff10, ff11⟩ := u
  have z1_a : 0 ≤ z1 := hp.1
  have z1_b : z1 ≤ 9 := hp.2.1
  have z2_a : 0 ≤ z2 := hp.2.2.1
  have z2_b : z2 ≤ 3 := hp.2.2.2.1
  have z4_a : (-2147483648) ≤ z4 := hp.2.2.2.2.1
  have z4_b : z4 ≤ 2147483647 := hp.2.2.2.2.2.1
  have ff9_h : rng 0 511 ff9 := hp.2.2.2.2.2.2.1
  have ff10_h : rng (-1) 8 ff10 := hp.2.2.2.2.2.2.2.1
  have ff11_h : rng (-1) 8 ff11 := hp.2.2.2.2.2.2.2.2
  have w : WD D A s.heap [(a1, .inr (8, [.ref a11, .int (iI x4), .int r5, .int (iI x5), .int r6, .int r7, (va_rf o0), .long y0, .int r8, .int r9, .int r10, .int r11])), (a2, .inl (T 1, 9, .inr (.inl h0))), (a3, .inl (T 0, 9, .inl f0)), (a4, .inl (T 0, 9, .inl f1)), (a5, .inl (T 0, 9, .inl f2)), (a9, .inl (T 1, 3, .inr (.inl h1))), (a10, .inl (T 0, 3, .inl f6)), (a11, .inl (T 0, 940, .inl f7)), (a0, .inr (9, [.ref a2, .ref a3, .ref a4, .ref a5, .ref a6, .ref a7, .ref a8, .ref a9, .ref a10, .int (iI z1), .int (iI z2), .int (iI x2), .int fr3, .int (iI z4), .int fr5, .int fr6, .int fr7, .int fr8])), (a6, .inl (T 0, 9, .inl (cI ff9))), (a7, .inl (T 0, 9, .inl (cI ff10))), (a8, .inl (T 0, 9, .inl (cI ff11)))] H locs := w
  refine lv_aload_n hx hb dX9_read_4 rfl (lv_at hl 1 rfl) ?_
  refine lv_sipush (v := iI 900) hx hb dX9_read_5 (by decide +kernel) ?_
  refine k_V (ce := 0) (sl := 0) (rest := []) (wr := [(a2, .inl (T 1, 9, .inr (.inl h0))), (a3, .inl (T 0, 9, .inl f0)), (a4, .inl (T 0, 9, .inl f1)), (a5, .inl (T 0, 9, .inl f2)), (a9, .inl (T 1, 3, .inr (.inl h1))), (a10, .inl (T 0, 3, .inl f6)), (a0, .inr (9, [.ref a2, .ref a3, .ref a4, .ref a5, .ref a6, .ref a7, .ref a8, .ref a9, .ref a10, .int (iI z1), .int (iI z2), .int (iI x2), .int fr3, .int (iI z4), .int fr5, .int fr6, .int fr7, .int fr8])), (a6, .inl (T 0, 9, .inl (cI ff9))), (a7, .inl (T 0, 9, .inl (cI ff10))), (a8, .inl (T 0, 9, .inl (cI ff11)))]) (r_V (f := 5) [0, 7] M w V_HookedCity_Town_84 G583 G584 (c239_X8_open l D T _ a1 900 a11 x4 r5 x5 r6 r7 o0 y0 r8 r9 r10 r11 f7 (by decide) (by decide) x4_a x4_b x5_a x5_b o0_h) 0 clX8 rfl rfl (by decide) rfl hl.1 rfl (Nat.le_of_ble_eq_true rfl) dX9_read_8 (by decide) (by decide) (by decide) (by decide)) w [0, 7] [1, 2, 3, 4, 5, 6, 8, 9, 10, 11] rfl rfl (by decide) (by decide) rfl rfl (fun u H locs hp w => ?_)
  obtain ⟨fr12, z13, fr14, fr15, fo16, fy17, fr18, fr19, fr20, fr21⟩ := u
  have z13_a : 0 ≤ z13 := hp.1
  have z13_b : z13 ≤ 940 := hp.2.1
  have fo16_h : wok T fo16 := hp.2.2
  have w : WD D A s.heap [(a2, .inl (T 1, 9, .inr (.inl h0))), (a3, .inl (T 0, 9, .inl f0)), (a4, .inl (T 0, 9, .inl f1)), (a5, .inl (T 0, 9, .inl f2)), (a9, .inl (T 1, 3, .inr (.inl h1))), (a10, .inl (T 0, 3, .inl f6)), (a0, .inr (9, [.ref a2, .ref a3, .ref a4, .ref a5, .ref a6, .ref a7, .ref a8, .ref a9, .ref a10, .int (iI z1), .int (iI z2), .int (iI x2), .int fr3, .int (iI z4), .int fr5, .int fr6, .int fr7, .int fr8])), (a6, .inl (T 0, 9, .inl (cI ff9))), (a7, .inl (T 0, 9, .inl (cI ff10))), (a8, .inl (T 0, 9, .inl (cI ff11))), (a1, .inr (8, [.ref a11, .int (iI x4), .int fr12, .int (iI z13), .int fr14, .int fr15, (va_rf fo16), .long fy17, .int fr18, .int fr19, .int fr20, .int fr21])), (a11, .inl (T 0, 940, .inl f7))] H locs := w
  refine lv_aload_n hx hb dX9_read_11 rfl (lv_at hl 0 rfl) ?_
  refine lv_iconst (v := iI 0) hx hb dX9_read_12 (by decide +kernel) ?_
  refine r_put (ws' := [(a2, .inl (T 1, 9, .inr (.inl h0))), (a3, .inl (T 0, 9, .inl f0)), (a4, .inl (T 0, 9, .inl f1)), (a5, .inl (T 0, 9, .inl f2)), (a9, .inl (T 1, 3, .inr (.inl h1))), (a10, .inl (T 0, 3, .inl f6)), (a0, .inr (9, [.ref a2, .ref a3, .ref a4, .ref a5, .ref a6, .ref a7, .ref a8, .ref a9, .ref a10, .int (iI z1), .int (iI z2), .int (iI 0), .int fr3, .int (iI z4), .int fr5, .int fr6, .int fr7, .int fr8])), (a6, .inl (T 0, 9, .inl (cI ff9))), (a7, .inl (T 0, 9, .inl (cI ff10))), (a8, .inl (T 0, 9, .inl (cI ff11))), (a1, .inr (8, [.ref a11, .int (iI x4), .int fr12, .int (iI z13), .int fr14, .int fr15, (va_rf fo16), .long fy17, .int fr18, .int fr19, .int fr20, .int fr21])), (a11, .inl (T 0, 940, .inl f7))]) M w 6 11 clX9 rfl (by decide) G396 rfl rfl rfl rfl (Nat.le_of_ble_eq_true rfl) rfl dX9_read_13 (fun H locs w => ?_)
  have loop1 : ∀ (k1 : Nat) (z22 : Int) (z23 : Int) (fr24 : Int32) (z25 : Int) (fr26 : Int32) (fr27 : Int32) (fr28 : Int32) (fr29 : Int32) (z30 : Int) (fr31 : Int32) (fr32 : Int32) (z33 : Int) (fr34 : Int32) (fr35 : Int32) (fo36 : Option Nat) (fy37 : Int64) (fr38 : Int32) (fr39 : Int32) (ff40 : Nat → Int32) (fh41 : Nat → Int64) (ff42 : Nat → Int32) (ff43 : Nat → Int32) (ff44 : Nat → Int32) (ff45 : Int → Int) (ff46 : Int → Int) (ff47 : Int → Int) (fh48 : Nat → Int64) (H : Heap) (locs : List Loc) (ls : Array Slot), 0 ≤ z22 → z22 ≤ 3 → 0 ≤ z23 → z23 ≤ 2147483647 → (-2147483648) ≤ z25 → z25 ≤ 2147483647 → 0 ≤ z30 → z30 ≤ 9 → 0 ≤ z33 → z33 ≤ 940 → wok T fo36 → rng 0 511 ff45 → rng (-1) 8 ff46 → rng (-1) 8 ff47 → ((900 - z23) : Int).toNat < k1 → WD D A s.heap [(a2, .inl (T 1, 9, .inr (.inl fh41))), (a3, .inl (T 0, 9, .inl ff42)), (a4, .inl (T 0, 9, .inl ff43)), (a5, .inl (T 0, 9, .inl ff44)), (a9, .inl (T 1, 3, .inr (.inl fh48))), (a10, .inl (T 0, 3, .inl ff40)), (a0, .inr (9, [.ref a2, .ref a3, .ref a4, .ref a5, .ref a6, .ref a7, .ref a8, .ref a9, .ref a10, .int (iI z30), .int (iI z22), .int (iI z23), .int fr24, .int (iI z25), .int fr26, .int fr27, .int fr28, .int fr29])), (a6, .inl (T 0, 9, .inl (cI ff45))), (a7, .inl (T 0, 9, .inl (cI ff46))), (a8, .inl (T 0, 9, .inl (cI ff47))), (a1, .inr (8, [.ref a11, .int (iI x4), .int fr12, .int (iI z33), .int fr34, .int fr35, (va_rf fo36), .long fy37, .int fr38, .int fr39, .int fr31, .int fr32])), (a11, .inl (T 0, 940, .inl f7))] H locs → lv_has ls 2 [(0, .ref a0), (1, .ref a1)] → W p l e (Rm 8 0 0) s m args below meth c H locs 0 0 Q (F0 m 16 ls []) := by
    intro k1
    induction k1 with
    | zero => intro z22 z23 fr24 z25 fr26 fr27 fr28 fr29 z30 fr31 fr32 z33 fr34 fr35 fo36 fy37 fr38 fr39 ff40 fh41 ff42 ff43 ff44 ff45 ff46 ff47 fh48 H locs ls z22_a z22_b z23_a z23_b z25_a z25_b z30_a z30_b z33_a z33_b fo36_h ff45_h ff46_h ff47_h hm; exact absurd hm (Nat.not_lt_zero _)
    | succ k1 ih1 =>
      intro z22 z23 fr24 z25 fr26 fr27 fr28 fr29 z30 fr31 fr32 z33 fr34 fr35 fo36 fy37 fr38 fr39 ff40 fh41 ff42 ff43 ff44 ff45 ff46 ff47 fh48 H locs ls z22_a z22_b z23_a z23_b z25_a z25_b z30_a z30_b z33_a z33_b fo36_h ff45_h ff46_h ff47_h hm1 w hl
      refine lv_aload_n hx hb dX9_read_16 rfl (lv_at hl 0 rfl) ?_
      refine r_get (v := .int (iI z23)) M w 6 11 clX9 rfl (by decide) G396 rfl rfl dX9_read_17 ?_
      refine lv_sipush (v := iI 900) hx hb dX9_read_20 (by decide +kernel) ?_
      refine lv_icmp_ge (tgt := 65) hx hb dX9_read_23 (by decide) (fun c_49 => ?_) (fun c_49 => ?_)
      · replace c_49 := (iI_le (by decide) (by decide) (Int.le_trans (by decide) z23_a) (Int.le_trans z23_b (by decide))).mp c_49
        refine lv_iconst (v := iI 1) hx hb dX9_read_65 (by decide +kernel) ?_
        exact ret _ (1, z30, z22, z23, fr24, z25, fr26, fr27, fr28, fr29, fr12, z33, fr34, fr35, fo36, fy37, fr38, fr39, fr31, fr32, fh41, ff42, ff43, ff44, ff45, ff46, ff47, fh48, ff40) _ _ _ _ _ [6, 10, 0, 1, 2, 3, 7, 8, 9, 4, 5, 11] dX9_read_66 (by decide +kernel) ⟨rfl, (show (0 : Int) ≤ 1 from by decide), (show (1 : Int) ≤ 1 from by decide), z30_a, z30_b, z22_a, z22_b, (show (-2147483648) ≤ z23 from by omega), (show z23 ≤ 2147483647 from by omega), z25_a, z25_b, z33_a, z33_b, fo36_h, ff45_h, ff46_h, ff47_h⟩ w (by decide) rfl
      · replace c_49 : z23 < 900 := Int.not_le.mp (fun h => c_49 ((iI_le (by decide) (by decide) (Int.le_trans (by decide) z23_a) (Int.le_trans z23_b (by decide))).mpr h))
        refine lv_aload_n hx hb dX9_read_26 rfl (lv_at hl 1 rfl) ?_
        refine k_I (ce := 0) (sl := 0) (rest := []) (wr := [(a2, .inl (T 1, 9, .inr (.inl fh41))), (a3, .inl (T 0, 9, .inl ff42)), (a4, .inl (T 0, 9, .inl ff43)), (a5, .inl (T 0, 9, .inl ff44)), (a9, .inl (T 1, 3, .inr (.inl fh48))), (a10, .inl (T 0, 3, .inl ff40)), (a0, .inr (9, [.ref a2, .ref a3, .ref a4, .ref a5, .ref a6, .ref a7, .ref a8, .ref a9, .ref a10, .int (iI z30), .int (iI z22), .int (iI z23), .int fr24, .int (iI z25), .int fr26, .int fr27, .int fr28, .int fr29])), (a6, .inl (T 0, 9, .inl (cI ff45))), (a7, .inl (T 0, 9, .inl (cI ff46))), (a8, .inl (T 0, 9, .inl (cI ff47))), (a11, .inl (T 0, 940, .inl f7))]) (r_V (f := 0) [10] M w V_HookedCity_Town_90 G696 G697 (c241_X8_atEnd l D T _ a1 a11 x4 fr12 z33 fr34 fr35 fo36 fy37 fr38 fr39 fr31 fr32 x4_a x4_b z33_a z33_b fo36_h) 10 clX8 rfl rfl (by decide) rfl hl.1 rfl (Nat.le_of_ble_eq_true rfl) dX9_read_27 (by decide) (by decide) (by decide) (by decide)) w [10] [0, 1, 2, 3, 4, 5, 6, 7, 8, 9, 11] rfl rfl (by decide) (by decide) rfl rfl (fun v z50 H locs hp w => ?_)
        have hv : iI z50 = v := hp.1
        subst hv
        have z50_a : 0 ≤ z50 := hp.2.1
        have z50_b : z50 ≤ 1 := hp.2.2
        have w : WD D A s.heap [(a2, .inl (T 1, 9, .inr (.inl fh41))), (a3, .inl (T 0, 9, .inl ff42)), (a4, .inl (T 0, 9, .inl ff43)), (a5, .inl (T 0, 9, .inl ff44)), (a9, .inl (T 1, 3, .inr (.inl fh48))), (a10, .inl (T 0, 3, .inl ff40)), (a0, .inr (9, [.ref a2, .ref a3, .ref a4, .ref a5, .ref a6, .ref a7, .ref a8, .ref a9, .ref a10, .int (iI z30), .int (iI z22), .int (iI z23), .int fr24, .int (iI z25), .int fr26, .int fr27, .int fr28, .int fr29])), (a6, .inl (T 0, 9, .inl (cI ff45))), (a7, .inl (T 0, 9, .inl (cI ff46))), (a8, .inl (T 0, 9, .inl (cI ff47))), (a11, .inl (T 0, 940, .inl f7)), (a1, .inr (8, [.ref a11, .int (iI x4), .int fr12, .int (iI z33), .int fr34, .int fr35, (va_rf fo36), .long fy37, .int fr38, .int fr39, .int fr31, .int fr32]))] H locs := w
        refine lv_if_ne (tgt := 65) hx hb dX9_read_30 (by decide) (fun c_51 => ?_) (fun c_51 => ?_)
        · replace c_51 : ¬ z50 = 0 := fun h => c_51 ((iz_eq (Int.le_trans (by decide) z50_a) (Int.le_trans z50_b (by decide))).mpr h)
          refine lv_iconst (v := iI 1) hx hb dX9_read_65 (by decide +kernel) ?_
          exact ret _ (1, z30, z22, z23, fr24, z25, fr26, fr27, fr28, fr29, fr12, z33, fr34, fr35, fo36, fy37, fr38, fr39, fr31, fr32, fh41, ff42, ff43, ff44, ff45, ff46, ff47, fh48, ff40) _ _ _ _ _ [6, 11, 0, 1, 2, 3, 7, 8, 9, 4, 5, 10] dX9_read_66 (by decide +kernel) ⟨rfl, (show (0 : Int) ≤ 1 from by decide), (show (1 : Int) ≤ 1 from by decide), z30_a, z30_b, z22_a, z22_b, (show (-2147483648) ≤ z23 from by omega), (show z23 ≤ 2147483647 from by omega), z25_a, z25_b, z33_a, z33_b, fo36_h, ff45_h, ff46_h, ff47_h⟩ w (by decide) rfl
        · replace c_51 := (iz_eq (Int.le_trans (by decide) z50_a) (Int.le_trans z50_b (by decide))).mp c_51
          refine lv_aload_n hx hb dX9_read_33 rfl (lv_at hl 0 rfl) ?_
          refine lv_aload_n hx hb dX9_read_34 rfl (lv_at hl 1 rfl) ?_
          refine k_I (ce := 0) (sl := 0) (rest := []) (wr := []) (r_V (f := 7) [6, 11, 0, 1, 2, 3, 7, 8, 9, 4, 5, 10] M w V_HookedCity_Town_94 G701 G3 (c264_X9_readLine l D T _ a0 a1 a2 a3 a4 a5 a6 a7 a8 a9 a10 z30 z22 z23 fr24 z25 fr26 fr27 fr28 fr29 a11 x4 fr12 z33 fr34 fr35 fo36 fy37 fr38 fr39 fr31 fr32 fh41 ff42 ff43 ff44 ff45 ff46 ff47 fh48 ff40 f7 z30_a z30_b z22_a z22_b (by omega) (by omega) z25_a z25_b x4_a x4_b z33_a z33_b fo36_h ff45_h ff46_h ff47_h) 6 clX9 rfl rfl (by decide) rfl hl.1 rfl (Nat.le_of_ble_eq_true rfl) dX9_read_35 (by decide) (by decide) (by decide) (by decide)) w [6, 11, 0, 1, 2, 3, 7, 8, 9, 4, 5, 10] [] rfl rfl (by decide) (by decide) rfl rfl (fun v u H locs hp w => ?_)
          obtain ⟨z52, z53, z54, fr55, z56, fr57, fr58, fr59, fr60, z61, fr62, fr63, fo64, fy65, fr66, fr67, fr68, fr69, fh70, ff71, ff72, ff73, ff74, ff75, ff76, fh77, ff78⟩ := u
          have hv : iI z52 = v := hp.1
          subst hv
          have z52_a : 0 ≤ z52 := hp.2.1
          have z52_b : z52 ≤ 1 := hp.2.2.1
          have z53_a : 0 ≤ z53 := hp.2.2.2.1
          have z53_b : z53 ≤ 9 := hp.2.2.2.2.1
          have z54_a : 0 ≤ z54 := hp.2.2.2.2.2.1
          have z54_b : z54 ≤ 3 := hp.2.2.2.2.2.2.1
          have z56_a : (-2147483648) ≤ z56 := hp.2.2.2.2.2.2.2.1
          have z56_b : z56 ≤ 2147483647 := hp.2.2.2.2.2.2.2.2.1
          have z61_a : 0 ≤ z61 := hp.2.2.2.2.2.2.2.2.2.1
          have z61_b : z61 ≤ 940 := hp.2.2.2.2.2.2.2.2.2.2.1
          have fo64_h : wok T fo64 := hp.2.2.2.2.2.2.2.2.2.2.2.1
          have ff74_h : rng 0 511 ff74 := hp.2.2.2.2.2.2.2.2.2.2.2.2.1
          have ff75_h : rng (-1) 8 ff75 := hp.2.2.2.2.2.2.2.2.2.2.2.2.2.1
          have ff76_h : rng (-1) 8 ff76 := hp.2.2.2.2.2.2.2.2.2.2.2.2.2.2
          have w : WD D A s.heap [(a0, .inr (9, [.ref a2, .ref a3, .ref a4, .ref a5, .ref a6, .ref a7, .ref a8, .ref a9, .ref a10, .int (iI z53), .int (iI z54), .int (iI z23), .int fr55, .int (iI z56), .int fr57, .int fr58, .int fr59, .int fr60])), (a1, .inr (8, [.ref a11, .int (iI x4), .int fr12, .int (iI z61), .int fr62, .int fr63, (va_rf fo64), .long fy65, .int fr66, .int fr67, .int fr68, .int fr69])), (a2, .inl (T 1, 9, .inr (.inl fh70))), (a3, .inl (T 0, 9, .inl ff71)), (a4, .inl (T 0, 9, .inl ff72)), (a5, .inl (T 0, 9, .inl ff73)), (a6, .inl (T 0, 9, .inl (cI ff74))), (a7, .inl (T 0, 9, .inl (cI ff75))), (a8, .inl (T 0, 9, .inl (cI ff76))), (a9, .inl (T 1, 3, .inr (.inl fh77))), (a10, .inl (T 0, 3, .inl ff78)), (a11, .inl (T 0, 940, .inl f7))] H locs := w
          refine lv_if_eq (tgt := 50) hx hb dX9_read_38 (by decide) (fun c_79 => ?_) (fun c_79 => ?_)
          · replace c_79 := (iz_eq (Int.le_trans (by decide) z52_a) (Int.le_trans z52_b (by decide))).mp c_79
            refine lv_iconst (v := iI 0) hx hb dX9_read_50 (by decide +kernel) ?_
            exact ret _ (0, z53, z54, z23, fr55, z56, fr57, fr58, fr59, fr60, fr12, z61, fr62, fr63, fo64, fy65, fr66, fr67, fr68, fr69, fh70, ff71, ff72, ff73, ff74, ff75, ff76, fh77, ff78) _ _ _ _ _ [0, 1, 2, 3, 4, 5, 6, 7, 8, 9, 10, 11] dX9_read_51 (by decide +kernel) ⟨rfl, (show (0 : Int) ≤ 0 from by decide), (show (0 : Int) ≤ 1 from by decide), z53_a, z53_b, z54_a, z54_b, (show (-2147483648) ≤ z23 from by omega), (show z23 ≤ 2147483647 from by omega), z56_a, z56_b, z61_a, z61_b, fo64_h, ff74_h, ff75_h, ff76_h⟩ w (by decide) rfl
          · replace c_79 : ¬ z52 = 0 := fun h => c_79 ((iz_eq (Int.le_trans (by decide) z52_a) (Int.le_trans z52_b (by decide))).mpr h)
            refine lv_aload_n hx hb dX9_read_41 rfl (lv_at hl 1 rfl) ?_
            refine lv_bipush (v := iI 59) hx hb dX9_read_42 (by decide +kernel) ?_
            refine k_I (ce := 0) (sl := 0) (rest := []) (wr := [(a0, .inr (9, [.ref a2, .ref a3, .ref a4, .ref a5, .ref a6, .ref a7, .ref a8, .ref a9, .ref a10, .int (iI z53), .int (iI z54), .int (iI z23), .int fr55, .int (iI z56), .int fr57, .int fr58, .int fr59, .int fr60])), (a2, .inl (T 1, 9, .inr (.inl fh70))), (a3, .inl (T 0, 9, .inl ff71)), (a4, .inl (T 0, 9, .inl ff72)), (a5, .inl (T 0, 9, .inl ff73)), (a6, .inl (T 0, 9, .inl (cI ff74))), (a7, .inl (T 0, 9, .inl (cI ff75))), (a8, .inl (T 0, 9, .inl (cI ff76))), (a9, .inl (T 1, 3, .inr (.inl fh77))), (a10, .inl (T 0, 3, .inl ff78))]) (r_V (f := 5) [1, 11] M w V_HookedCity_Town_98 G779 G780 (c244_X8_pass l D T _ a1 59 a11 x4 fr12 z61 fr62 fr63 fo64 fy65 fr66 fr67 fr68 fr69 f7 (by decide) (by decide) x4_a x4_b z61_a z61_b fo64_h) 1 clX8 rfl rfl (by decide) rfl hl.1 rfl (Nat.le_of_ble_eq_true rfl) dX9_read_44 (by decide) (by decide) (by decide) (by decide)) w [1, 11] [0, 2, 3, 4, 5, 6, 7, 8, 9, 10] rfl rfl (by decide) (by decide) rfl rfl (fun v u H locs hp w => ?_)
            obtain ⟨z80, z81, fr82, fr83, fo84, fy85, fr86, fr87, fr88, fr89⟩ := u
            have hv : iI z80 = v := hp.1
            subst hv
            have z80_a : 0 ≤ z80 := hp.2.1
            have z80_b : z80 ≤ 1 := hp.2.2.1
            have z81_a : 0 ≤ z81 := hp.2.2.2.1
            have z81_b : z81 ≤ 940 := hp.2.2.2.2.1
            have fo84_h : wok T fo84 := hp.2.2.2.2.2
            have w : WD D A s.heap [(a0, .inr (9, [.ref a2, .ref a3, .ref a4, .ref a5, .ref a6, .ref a7, .ref a8, .ref a9, .ref a10, .int (iI z53), .int (iI z54), .int (iI z23), .int fr55, .int (iI z56), .int fr57, .int fr58, .int fr59, .int fr60])), (a2, .inl (T 1, 9, .inr (.inl fh70))), (a3, .inl (T 0, 9, .inl ff71)), (a4, .inl (T 0, 9, .inl ff72)), (a5, .inl (T 0, 9, .inl ff73)), (a6, .inl (T 0, 9, .inl (cI ff74))), (a7, .inl (T 0, 9, .inl (cI ff75))), (a8, .inl (T 0, 9, .inl (cI ff76))), (a9, .inl (T 1, 3, .inr (.inl fh77))), (a10, .inl (T 0, 3, .inl ff78)), (a1, .inr (8, [.ref a11, .int (iI x4), .int fr12, .int (iI z81), .int fr82, .int fr83, (va_rf fo84), .long fy85, .int fr86, .int fr87, .int fr88, .int fr89])), (a11, .inl (T 0, 940, .inl f7))] H locs := w
            refine lv_if_ne (tgt := 52) hx hb dX9_read_47 (by decide) (fun c_90 => ?_) (fun c_90 => ?_)
            · replace c_90 : ¬ z80 = 0 := fun h => c_90 ((iz_eq (Int.le_trans (by decide) z80_a) (Int.le_trans z80_b (by decide))).mpr h)
              refine lv_aload_n hx hb dX9_read_52 rfl (lv_at hl 0 rfl) ?_
              refine lv_dup hx hb dX9_read_53 rfl ?_
              refine r_get (v := .int (iI z23)) M w 0 11 clX9 rfl (by decide) G396 rfl rfl dX9_read_54 ?_
              refine lv_iconst (v := iI 1) hx hb dX9_read_57 (by decide +kernel) ?_
              refine r_iadd (v := iI (z23 + 1)) M (iI_add _ _) dX9_read_58 ?_
              refine r_put (ws' := [(a0, .inr (9, [.ref a2, .ref a3, .ref a4, .ref a5, .ref a6, .ref a7, .ref a8, .ref a9, .ref a10, .int (iI z53), .int (iI z54), .int (iI (z23 + 1)), .int fr55, .int (iI z56), .int fr57, .int fr58, .int fr59, .int fr60])), (a2, .inl (T 1, 9, .inr (.inl fh70))), (a3, .inl (T 0, 9, .inl ff71)), (a4, .inl (T 0, 9, .inl ff72)), (a5, .inl (T 0, 9, .inl ff73)), (a6, .inl (T 0, 9, .inl (cI ff74))), (a7, .inl (T 0, 9, .inl (cI ff75))), (a8, .inl (T 0, 9, .inl (cI ff76))), (a9, .inl (T 1, 3, .inr (.inl fh77))), (a10, .inl (T 0, 3, .inl ff78)), (a1, .inr (8, [.ref a11, .int (iI x4), .int fr12, .int (iI z81), .int fr82, .int fr83, (va_rf fo84), .long fy85, .int fr86, .int fr87, .int fr88, .int fr89])), (a11, .inl (T 0, 940, .inl f7))]) M w 0 11 clX9 rfl (by decide) G396 rfl rfl rfl rfl (Nat.le_of_ble_eq_true rfl) rfl dX9_read_59 (fun H locs w => ?_)
              refine lv_goto (tgt := 16) hx hb dX9_read_62 (by decide) ?_
              exact ih1 z54 (z23 + 1) fr55 z56 fr57 fr58 fr59 fr60 z53 fr88 fr89 z81 fr82 fr83 fo84 fy85 fr86 fr87 ff78 fh70 ff71 ff72 ff73 ff74 ff75 ff76 fh77 _ _ _ z54_a z54_b (by omega) (by omega) z56_a z56_b z53_a z53_b z81_a z81_b fo84_h ff74_h ff75_h ff76_h (by omega) (w.sub [1, 2, 3, 4, 8, 9, 0, 5, 6, 7, 10, 11] (by decide) rfl) (lv_sub hl [0, 1] rfl)
            · replace c_90 := (iz_eq (Int.le_trans (by decide) z80_a) (Int.le_trans z80_b (by decide))).mp c_90
              refine lv_iconst (v := iI 0) hx hb dX9_read_50 (by decide +kernel) ?_
              exact ret _ (0, z53, z54, z23, fr55, z56, fr57, fr58, fr59, fr60, fr12, z81, fr82, fr83, fo84, fy85, fr86, fr87, fr88, fr89, fh70, ff71, ff72, ff73, ff74, ff75, ff76, fh77, ff78) _ _ _ _ _ [0, 10, 1, 2, 3, 4, 5, 6, 7, 8, 9, 11] dX9_read_51 (by decide +kernel) ⟨rfl, (show (0 : Int) ≤ 0 from by decide), (show (0 : Int) ≤ 1 from by decide), z53_a, z53_b, z54_a, z54_b, (show (-2147483648) ≤ z23 from by omega), (show z23 ≤ 2147483647 from by omega), z56_a, z56_b, z81_a, z81_b, fo84_h, ff74_h, ff75_h, ff76_h⟩ w (by decide) rfl
  exact loop1 ((900 : Int).toNat + 1) z2 0 fr3 z4 fr5 fr6 fr7 fr8 z1 fr20 fr21 z13 fr14 fr15 fo16 fy17 fr18 fr19 f6 h0 f0 f1 f2 ff9 ff10 ff11 h1 _ _ _ z2_a z2_b (by decide) (by decide) z4_a z4_b z1_a z1_b z13_a z13_b fo16_h ff9_h ff10_h ff11_h (Nat.lt_succ_self _) w (lv_sub hl [0, 1] rfl)
set_option maxRecDepth 100000 in
set_option maxHeartbeats 4000000 in
theorem c266_X9_nameAt (l : Launch) (D : va_G) (T : Nat → ClassId) (sz : Nat) (a0 : Nat) (a1 : Nat) (a2 : Nat) (x0 : Int) (a3 : Nat) (x1 : Int) (r0 : Int32) (x2 : Int) (r1 : Int32) (r2 : Int32) (o0 : Option Nat) (y0 : Int64) (r3 : Int32) (r4 : Int32) (r5 : Int32) (r6 : Int32) (h0 : Nat → Int64) (x0_a : 0 ≤ x0) (x0_b : x0 ≤ 9) (x1_a : 0 ≤ x1) (x1_b : x1 ≤ 940) (x2_a : 0 ≤ x2) (x2_b : x2 ≤ 940) (o0_h : wok T o0) : Met l yX9_nameAt (Cond.code yX9_nameAt cX9_nameAt 5 (some .int) :: GW) (Rm 1 0 0) (cPre [.ref a0, .ref a1, .ref a2, .int (iI x0)] D T [(a1, .inr (8, [.ref a3, .int (iI x1), .int r0, .int (iI x2), .int r1, .int r2, (va_rf o0), .long y0, .int r3, .int r4, .int r5, .int r6])), (a2, .inl (T 1, 3, .inr (.inl h0)))] sz) (qI D [(a1, .inr (8, [.ref a3, .int (iI x1), .int r0, .int (iI x2), .int r1, .int r2, (va_rf o0), .long y0, .int r3, .int r4, .int r5, .int r6])), (a2, .inl (T 1, 3, .inr (.inl h0)))] sz (fun (v : Int32) (u : Int × Int32 × Int32) => iI u.1 = v ∧ (-1) ≤ u.1 ∧ u.1 ≤ 8 ∧ 0 ≤ ((x0 - u.1) - 1)) (fun u => [(a1, .inr (8, [.ref a3, .int (iI x1), .int r0, .int (iI x2), .int r1, .int r2, (va_rf o0), .long y0, .int r3, .int r4, .int u.2.1, .int u.2.2])), (a2, .inl (T 1, 3, .inr (.inl h0)))])) 0 0 (va_A [(a1, .inr (8, [.ref a3, .int (iI x1), .int r0, .int (iI x2), .int r1, .int r2, (va_rf o0), .long y0, .int r3, .int r4, .int r5, .int r6])), (a2, .inl (T 1, 3, .inr (.inl h0)))] sz) := by
  refine e_I (by decide) (Nat.le_of_ble_eq_true rfl) ?_
  intro p e s m args below meth c A Q ls M hin w ret hl
  have hx := M.1.1
  have hb := M.1.2.1
  have hl : lv_has ls 5 [(0, .ref a0), (1, .ref a1), (2, .ref a2), (3, .int (iI x0))] := hl
  refine lv_aload_n hx hb dX9_nameAt_0 rfl (lv_at hl 1 rfl) ?_
  refine r_getN (v := .int r2) M w 0 5 clX8 rfl (by decide) N169 rfl rfl dX9_nameAt_1 ?_
  refine b_any (fun z1 z1_a z1_b => ?_)
  refine lv_iconst (v := iI 3) hx hb dX9_nameAt_4 (by decide +kernel) ?_
  refine lv_icmp_eq (tgt := 16) hx hb dX9_nameAt_5 (by decide) (fun c_2 => ?_) (fun c_2 => ?_)
  · replace c_2 := (iI_eq (Int.le_trans (by decide) z1_a) (Int.le_trans z1_b (by decide)) (by decide) (by decide)).mp c_2
    refine lv_aload_n hx hb dX9_nameAt_16 rfl (lv_at hl 2 rfl) ?_
    refine lv_iload_n hx hb dX9_nameAt_17 rfl (lv_at hl 3 rfl) ?_
    refine lv_aload_n hx hb dX9_nameAt_18 rfl (lv_at hl 1 rfl) ?_
    refine r_getN (v := .long y0) M w 0 7 clX8 rfl (by decide) N175 rfl rfl dX9_nameAt_19 ?_
    refine k_I (ce := 0) (sl := 0) (rest := []) (wr := [(a1, .inr (8, [.ref a3, .int (iI x1), .int r0, .int (iI x2), .int r1, .int r2, (va_rf o0), .long y0, .int r3, .int r4, .int r5, .int r6]))]) (r_S (f := 0) [1] M w V_HookedCity_Town_182 G719 (c259_X9_placeOf l D T _ a2 x0 y0 h0 x0_a x0_b) rfl (by decide) rfl hl.1 rfl (Nat.le_of_ble_eq_true rfl) dX9_nameAt_22 (by decide) (by decide) (by decide) (by decide)) w [1] [0] rfl rfl (by decide) (by decide) rfl rfl (fun v z3 H locs hp w => ?_)
    have hv : iI z3 = v := hp.1
    subst hv
    have z3_a : (-1) ≤ z3 := hp.2.1
    have z3_b : z3 ≤ 8 := hp.2.2.1
    have ee4 : 0 ≤ ((x0 - z3) - 1) := hp.2.2.2
    have w : WD D A s.heap [(a1, .inr (8, [.ref a3, .int (iI x1), .int r0, .int (iI x2), .int r1, .int r2, (va_rf o0), .long y0, .int r3, .int r4, .int r5, .int r6])), (a2, .inl (T 1, 3, .inr (.inl h0)))] H locs := w
    refine lv_istore (lv' := [(4, .int (iI z3)), (0, .ref a0), (1, .ref a1), (2, .ref a2), (3, .int (iI x0))]) hx hb dX9_nameAt_25 hl (by decide) rfl (fun ls hl => ?_)
    refine lv_iload hx hb dX9_nameAt_27 (lv_at hl 0 rfl) ?_
    refine lv_iconst (v := iI (-1)) hx hb dX9_nameAt_29 (by decide +kernel) ?_
    refine lv_icmp_ne (tgt := 39) hx hb dX9_nameAt_30 (by decide) (fun c_5 => ?_) (fun c_5 => ?_)
    · replace c_5 : ¬ z3 = (-1) := fun h => c_5 ((iI_eq (Int.le_trans (by decide) z3_a) (Int.le_trans z3_b (by decide)) (by decide) (by decide)).mpr h)
      refine lv_iload hx hb dX9_nameAt_39 (lv_at hl 0 rfl) ?_
      exact ret _ (z3, r5, r6) _ _ _ _ _ [0, 1] dX9_nameAt_41 ⟨rfl, z3_a, z3_b, (show 0 ≤ ((x0 - z3) - 1) from by omega)⟩ w (by decide) rfl
    · replace c_5 := (iI_eq (Int.le_trans (by decide) z3_a) (Int.le_trans z3_b (by decide)) (by decide) (by decide)).mp c_5
      refine lv_aload_n hx hb dX9_nameAt_33 rfl (lv_at hl 2 rfl) ?_
      refine lv_iconst (v := iI 3) hx hb dX9_nameAt_34 (by decide +kernel) ?_
      refine k_I (ce := 0) (sl := 0) (rest := []) (wr := [(a2, .inl (T 1, 3, .inr (.inl h0)))]) (r_V (f := 0) [0] M w V_HookedCity_Town_150 G710 G711 (c243_X8_fail l D T _ a1 3 a3 x1 r0 x2 r1 r2 o0 y0 r3 r4 r5 r6 (by decide) (by decide) x1_a x1_b x2_a x2_b o0_h) 0 clX8 rfl rfl (by decide) rfl hl.1 rfl (Nat.le_of_ble_eq_true rfl) dX9_nameAt_35 (by decide) (by decide) (by decide) (by decide)) w [0] [1] rfl rfl (by decide) (by decide) rfl rfl (fun v u H locs hp w => ?_)
      obtain ⟨z6, fr7, fr8⟩ := u
      have hv : iI z6 = v := hp.1
      subst hv
      have z6_a : 0 ≤ z6 := hp.2.1
      have z6_b : z6 ≤ 1 := hp.2.2.1
      have w : WD D A s.heap [(a2, .inl (T 1, 3, .inr (.inl h0))), (a1, .inr (8, [.ref a3, .int (iI x1), .int r0, .int (iI x2), .int r1, .int r2, (va_rf o0), .long y0, .int r3, .int r4, .int fr7, .int fr8]))] H locs := w
      rcases hp.2.2.2 with hr
      · subst hr
        refine lv_pop hx hb dX9_nameAt_38 rfl ?_
        refine lv_iload hx hb dX9_nameAt_39 (lv_at hl 0 rfl) ?_
        exact ret _ (z3, fr7, fr8) _ _ _ _ _ [1, 0] dX9_nameAt_41 ⟨rfl, z3_a, z3_b, (show 0 ≤ ((x0 - z3) - 1) from by omega)⟩ w (by decide) rfl
  · replace c_2 : ¬ z1 = 3 := fun h => c_2 ((iI_eq (Int.le_trans (by decide) z1_a) (Int.le_trans z1_b (by decide)) (by decide) (by decide)).mpr h)
    refine lv_aload_n hx hb dX9_nameAt_8 rfl (lv_at hl 1 rfl) ?_
    refine lv_iconst (v := iI 1) hx hb dX9_nameAt_9 (by decide +kernel) ?_
    refine k_I (ce := 0) (sl := 0) (rest := []) (wr := [(a2, .inl (T 1, 3, .inr (.inl h0)))]) (r_V (f := 0) [0] M w V_HookedCity_Town_150 G710 G711 (c243_X8_fail l D T _ a1 1 a3 x1 r0 x2 r1 r2 o0 y0 r3 r4 r5 r6 (by decide) (by decide) x1_a x1_b x2_a x2_b o0_h) 0 clX8 rfl rfl (by decide) rfl hl.1 rfl (Nat.le_of_ble_eq_true rfl) dX9_nameAt_10 (by decide) (by decide) (by decide) (by decide)) w [0] [1] rfl rfl (by decide) (by decide) rfl rfl (fun v u H locs hp w => ?_)
    obtain ⟨z9, fr10, fr11⟩ := u
    have hv : iI z9 = v := hp.1
    subst hv
    have z9_a : 0 ≤ z9 := hp.2.1
    have z9_b : z9 ≤ 1 := hp.2.2.1
    have w : WD D A s.heap [(a2, .inl (T 1, 3, .inr (.inl h0))), (a1, .inr (8, [.ref a3, .int (iI x1), .int r0, .int (iI x2), .int r1, .int r2, (va_rf o0), .long y0, .int r3, .int r4, .int fr10, .int fr11]))] H locs := w
    rcases hp.2.2.2 with hr
    · subst hr
      refine lv_pop hx hb dX9_nameAt_13 rfl ?_
      refine lv_iconst (v := iI (-1)) hx hb dX9_nameAt_14 (by decide +kernel) ?_
      exact ret _ ((-1), fr10, fr11) _ _ _ _ _ [1, 0] dX9_nameAt_15 ⟨rfl, (show (-1) ≤ (-1) from by decide), (show ((-1) : Int) ≤ 8 from by decide), (show 0 ≤ ((x0 - (-1)) - 1) from by omega)⟩ w (by decide) rfl
set_option maxRecDepth 100000 in
set_option maxHeartbeats 4000000 in
theorem c267_X9_maidAt (l : Launch) (D : va_G) (T : Nat → ClassId) (sz : Nat) (a0 : Nat) (a1 : Nat) (a2 : Nat) (a3 : Nat) (a4 : Nat) (a5 : Nat) (a6 : Nat) (a7 : Nat) (a8 : Nat) (a9 : Nat) (a10 : Nat) (x0 : Int) (x1 : Int) (x2 : Int) (r0 : Int32) (x3 : Int) (r1 : Int32) (r2 : Int32) (r3 : Int32) (r4 : Int32) (a11 : Nat) (x4 : Int) (r5 : Int32) (x5 : Int) (r6 : Int32) (r7 : Int32) (o0 : Option Nat) (y0 : Int64) (r8 : Int32) (r9 : Int32) (r10 : Int32) (r11 : Int32) (h0 : Nat → Int64) (x0_a : 0 ≤ x0) (x0_b : x0 ≤ 9) (x1_a : 0 ≤ x1) (x1_b : x1 ≤ 3) (x2_a : (-2147483648) ≤ x2) (x2_b : x2 ≤ 2147483647) (x3_a : (-2147483648) ≤ x3) (x3_b : x3 ≤ 2147483647) (x4_a : 0 ≤ x4) (x4_b : x4 ≤ 940) (x5_a : 0 ≤ x5) (x5_b : x5 ≤ 940) (o0_h : wok T o0) : Met l yX9_maidAt (Cond.code yX9_maidAt cX9_maidAt 2 (some .int) :: GW) (Rm 2 0 0) (cPre [.ref a0, .ref a1] D T [(a0, .inr (9, [.ref a2, .ref a3, .ref a4, .ref a5, .ref a6, .ref a7, .ref a8, .ref a9, .ref a10, .int (iI x0), .int (iI x1), .int (iI x2), .int r0, .int (iI x3), .int r1, .int r2, .int r3, .int r4])), (a1, .inr (8, [.ref a11, .int (iI x4), .int r5, .int (iI x5), .int r6, .int r7, (va_rf o0), .long y0, .int r8, .int r9, .int r10, .int r11])), (a9, .inl (T 1, 3, .inr (.inl h0)))] sz) (qI D [(a0, .inr (9, [.ref a2, .ref a3, .ref a4, .ref a5, .ref a6, .ref a7, .ref a8, .ref a9, .ref a10, .int (iI x0), .int (iI x1), .int (iI x2), .int r0, .int (iI x3), .int r1, .int r2, .int r3, .int r4])), (a1, .inr (8, [.ref a11, .int (iI x4), .int r5, .int (iI x5), .int r6, .int r7, (va_rf o0), .long y0, .int r8, .int r9, .int r10, .int r11])), (a9, .inl (T 1, 3, .inr (.inl h0)))] sz (fun (v : Int32) (u : Int × Int32 × Int32) => iI u.1 = v ∧ (-1) ≤ u.1 ∧ u.1 ≤ 2) (fun u => [(a0, .inr (9, [.ref a2, .ref a3, .ref a4, .ref a5, .ref a6, .ref a7, .ref a8, .ref a9, .ref a10, .int (iI x0), .int (iI x1), .int (iI x2), .int r0, .int (iI x3), .int r1, .int r2, .int r3, .int r4])), (a1, .inr (8, [.ref a11, .int (iI x4), .int r5, .int (iI x5), .int r6, .int r7, (va_rf o0), .long y0, .int r8, .int r9, .int u.2.1, .int u.2.2])), (a9, .inl (T 1, 3, .inr (.inl h0)))])) 0 0 (va_A [(a0, .inr (9, [.ref a2, .ref a3, .ref a4, .ref a5, .ref a6, .ref a7, .ref a8, .ref a9, .ref a10, .int (iI x0), .int (iI x1), .int (iI x2), .int r0, .int (iI x3), .int r1, .int r2, .int r3, .int r4])), (a1, .inr (8, [.ref a11, .int (iI x4), .int r5, .int (iI x5), .int r6, .int r7, (va_rf o0), .long y0, .int r8, .int r9, .int r10, .int r11])), (a9, .inl (T 1, 3, .inr (.inl h0)))] sz) := by
  refine e_I (by decide) (Nat.le_of_ble_eq_true rfl) ?_
  intro p e s m args below meth c A Q ls M hin w ret hl
  have hx := M.1.1
  have hb := M.1.2.1
  have hl : lv_has ls 2 [(0, .ref a0), (1, .ref a1)] := hl
  refine lv_aload_n hx hb dX9_maidAt_0 rfl (lv_at hl 0 rfl) ?_
  refine lv_aload_n hx hb dX9_maidAt_1 rfl (lv_at hl 1 rfl) ?_
  refine lv_aload_n hx hb dX9_maidAt_2 rfl (lv_at hl 0 rfl) ?_
  refine r_get (v := .ref a9) M w 0 7 clX9 rfl (by decide) G383 rfl rfl dX9_maidAt_3 ?_
  refine lv_aload_n hx hb dX9_maidAt_6 rfl (lv_at hl 0 rfl) ?_
  refine r_get (v := .int (iI x1)) M w 0 10 clX9 rfl (by decide) G393 rfl rfl dX9_maidAt_7 ?_
  refine k_I (ce := 0) (sl := 0) (rest := []) (wr := [(a0, .inr (9, [.ref a2, .ref a3, .ref a4, .ref a5, .ref a6, .ref a7, .ref a8, .ref a9, .ref a10, .int (iI x0), .int (iI x1), .int (iI x2), .int r0, .int (iI x3), .int r1, .int r2, .int r3, .int r4]))]) (r_V (f := 1) [1, 2] M w V_HookedCity_Town_189 G748 G9 (c266_X9_nameAt l D T _ a0 a1 a9 x1 a11 x4 r5 x5 r6 r7 o0 y0 r8 r9 r10 r11 h0 (by omega) (by omega) x4_a x4_b x5_a x5_b o0_h) 0 clX9 rfl rfl (by decide) rfl hl.1 rfl (Nat.le_of_ble_eq_true rfl) dX9_maidAt_10 (by decide) (by decide) (by decide) (by decide)) w [1, 2] [0] rfl rfl (by decide) (by decide) rfl rfl (fun v u H locs hp w => ?_)
  obtain ⟨z1, fr2, fr3⟩ := u
  have hv : iI z1 = v := hp.1
  subst hv
  have z1_a : (-1) ≤ z1 := hp.2.1
  have z1_b : z1 ≤ 8 := hp.2.2.1
  have ee4 : 0 ≤ ((x1 - z1) - 1) := hp.2.2.2
  have w : WD D A s.heap [(a0, .inr (9, [.ref a2, .ref a3, .ref a4, .ref a5, .ref a6, .ref a7, .ref a8, .ref a9, .ref a10, .int (iI x0), .int (iI x1), .int (iI x2), .int r0, .int (iI x3), .int r1, .int r2, .int r3, .int r4])), (a1, .inr (8, [.ref a11, .int (iI x4), .int r5, .int (iI x5), .int r6, .int r7, (va_rf o0), .long y0, .int r8, .int r9, .int fr2, .int fr3])), (a9, .inl (T 1, 3, .inr (.inl h0)))] H locs := w
  exact ret _ (z1, fr2, fr3) _ _ _ _ _ [0, 1, 2] dX9_maidAt_13 ⟨rfl, (show (-1) ≤ z1 from by omega), (show z1 ≤ 2 from by omega)⟩ w (by decide) rfl
set_option maxRecDepth 100000 in
set_option maxHeartbeats 4000000 in
theorem c268_X9_everybody (l : Launch) (D : va_G) (T : Nat → ClassId) (sz : Nat) (a0 : Nat) (a1 : Nat) (a2 : Nat) (a3 : Nat) (a4 : Nat) (a5 : Nat) (a6 : Nat) (a7 : Nat) (a8 : Nat) (a9 : Nat) (x0 : Int) (x1 : Int) (x2 : Int) (r0 : Int32) (x3 : Int) (r1 : Int32) (r2 : Int32) (r3 : Int32) (r4 : Int32) (x0_a : 0 ≤ x0) (x0_b : x0 ≤ 9) (x1_a : 0 ≤ x1) (x1_b : x1 ≤ 3) (x2_a : (-2147483648) ≤ x2) (x2_b : x2 ≤ 2147483647) (x3_a : (-2147483648) ≤ x3) (x3_b : x3 ≤ 2147483647) : Met l yX9_everybody (Cond.code yX9_everybody cX9_everybody 1 (some .int) :: GW) (Rm 0 0 0) (cPre [.ref a0] D T [(a0, .inr (9, [.ref a1, .ref a2, .ref a3, .ref a4, .ref a5, .ref a6, .ref a7, .ref a8, .ref a9, .int (iI x0), .int (iI x1), .int (iI x2), .int r0, .int (iI x3), .int r1, .int r2, .int r3, .int r4]))] sz) (qI D [(a0, .inr (9, [.ref a1, .ref a2, .ref a3, .ref a4, .ref a5, .ref a6, .ref a7, .ref a8, .ref a9, .int (iI x0), .int (iI x1), .int (iI x2), .int r0, .int (iI x3), .int r1, .int r2, .int r3, .int r4]))] sz (fun (v : Int32) (u : Int) => iI u = v ∧ (-2147483648) ≤ u ∧ u ≤ 2147483647) (fun u => [(a0, .inr (9, [.ref a1, .ref a2, .ref a3, .ref a4, .ref a5, .ref a6, .ref a7, .ref a8, .ref a9, .int (iI x0), .int (iI x1), .int (iI x2), .int r0, .int (iI x3), .int r1, .int r2, .int r3, .int r4]))])) 0 0 (va_A [(a0, .inr (9, [.ref a1, .ref a2, .ref a3, .ref a4, .ref a5, .ref a6, .ref a7, .ref a8, .ref a9, .int (iI x0), .int (iI x1), .int (iI x2), .int r0, .int (iI x3), .int r1, .int r2, .int r3, .int r4]))] sz) := by
  refine e_I (by decide) (Nat.le_of_ble_eq_true rfl) ?_
  intro p e s m args below meth c A Q ls M hin w ret hl
  have hx := M.1.1
  have hb := M.1.2.1
  have hl : lv_has ls 1 [(0, .ref a0)] := hl
  refine lv_iconst (v := iI 1) hx hb dX9_everybody_0 (by decide +kernel) ?_
  refine lv_aload_n hx hb dX9_everybody_1 rfl (lv_at hl 0 rfl) ?_
  refine r_get (v := .int (iI x0)) M w 0 9 clX9 rfl (by decide) G387 rfl rfl dX9_everybody_2 ?_
  refine r_ishl (v := _) M rfl dX9_everybody_5 ?_
  refine b_any (fun z1 z1_a z1_b => ?_)
  refine lv_iconst (v := iI 1) hx hb dX9_everybody_6 (by decide +kernel) ?_
  refine r_isub (v := _) M rfl dX9_everybody_7 ?_
  refine b_any (fun z2 z2_a z2_b => ?_)
  exact ret _ z2 _ _ _ _ _ [0] dX9_everybody_8 ⟨rfl, z2_a, z2_b⟩ w (by decide) rfl
set_option maxRecDepth 100000 in
set_option maxHeartbeats 4000000 in
theorem c269_X9_allHooks (l : Launch) (D : va_G) (T : Nat → ClassId) (sz : Nat) (a0 : Nat) (a1 : Nat) (a2 : Nat) (a3 : Nat) (a4 : Nat) (a5 : Nat) (a6 : Nat) (a7 : Nat) (a8 : Nat) (a9 : Nat) (x0 : Int) (x1 : Int) (x2 : Int) (r0 : Int32) (x3 : Int) (r1 : Int32) (r2 : Int32) (r3 : Int32) (r4 : Int32) (f0 : Nat → Int32) (x0_a : 0 ≤ x0) (x0_b : x0 ≤ 9) (x1_a : 0 ≤ x1) (x1_b : x1 ≤ 3) (x2_a : (-2147483648) ≤ x2) (x2_b : x2 ≤ 2147483647) (x3_a : (-2147483648) ≤ x3) (x3_b : x3 ≤ 2147483647) : Met l yX9_allHooks (Cond.code yX9_allHooks cX9_allHooks 3 (some .int) :: GW) (Rm 0 0 0) (cPre [.ref a0] D T [(a0, .inr (9, [.ref a1, .ref a2, .ref a3, .ref a4, .ref a5, .ref a6, .ref a7, .ref a8, .ref a9, .int (iI x0), .int (iI x1), .int (iI x2), .int r0, .int (iI x3), .int r1, .int r2, .int r3, .int r4])), (a9, .inl (T 0, 3, .inl f0))] sz) (qI D [(a0, .inr (9, [.ref a1, .ref a2, .ref a3, .ref a4, .ref a5, .ref a6, .ref a7, .ref a8, .ref a9, .int (iI x0), .int (iI x1), .int (iI x2), .int r0, .int (iI x3), .int r1, .int r2, .int r3, .int r4])), (a9, .inl (T 0, 3, .inl f0))] sz (fun (v : Int32) (u : Int) => iI u = v ∧ (-2147483648) ≤ u ∧ u ≤ 2147483647) (fun u => [(a0, .inr (9, [.ref a1, .ref a2, .ref a3, .ref a4, .ref a5, .ref a6, .ref a7, .ref a8, .ref a9, .int (iI x0), .int (iI x1), .int (iI x2), .int r0, .int (iI x3), .int r1, .int r2, .int r3, .int r4])), (a9, .inl (T 0, 3, .inl f0))])) 0 0 (va_A [(a0, .inr (9, [.ref a1, .ref a2, .ref a3, .ref a4, .ref a5, .ref a6, .ref a7, .ref a8, .ref a9, .int (iI x0), .int (iI x1), .int (iI x2), .int r0, .int (iI x3), .int r1, .int r2, .int r3, .int r4])), (a9, .inl (T 0, 3, .inl f0))] sz) := by
  refine e_I (by decide) (Nat.le_of_ble_eq_true rfl) ?_
  intro p e s m args below meth c A Q ls M hin w ret hl
  have hx := M.1.1
  have hb := M.1.2.1
  have hl : lv_has ls 3 [(0, .ref a0)] := hl
  refine lv_iconst (v := iI 0) hx hb dX9_allHooks_0 (by decide +kernel) ?_
  refine lv_istore_n (lv' := [(1, .int (iI 0)), (0, .ref a0)]) hx hb dX9_allHooks_1 rfl hl (by decide) rfl (fun ls hl => ?_)
  refine lv_iconst (v := iI 0) hx hb dX9_allHooks_2 (by decide +kernel) ?_
  refine lv_istore_n (lv' := [(2, .int (iI 0)), (1, .int (iI 0)), (0, .ref a0)]) hx hb dX9_allHooks_3 rfl hl (by decide) rfl (fun ls hl => ?_)
  have loop1 : ∀ (k1 : Nat) (z1 : Int) (z2 : Int) (H : Heap) (locs : List Loc) (ls : Array Slot), 0 ≤ z1 → z1 ≤ 3 → (-2147483648) ≤ z2 → z2 ≤ 2147483647 → ((x1 - z1) : Int).toNat < k1 → WD D A s.heap [(a0, .inr (9, [.ref a1, .ref a2, .ref a3, .ref a4, .ref a5, .ref a6, .ref a7, .ref a8, .ref a9, .int (iI x0), .int (iI x1), .int (iI x2), .int r0, .int (iI x3), .int r1, .int r2, .int r3, .int r4])), (a9, .inl (T 0, 3, .inl f0))] H locs → lv_has ls 3 [(2, .int (iI z1)), (1, .int (iI z2)), (0, .ref a0)] → W p l e (Rm 0 0 0) s m args below meth c H locs 0 0 Q (F0 m 4 ls []) := by
    intro k1
    induction k1 with
    | zero => intro z1 z2 H locs ls z1_a z1_b z2_a z2_b hm; exact absurd hm (Nat.not_lt_zero _)
    | succ k1 ih1 =>
      intro z1 z2 H locs ls z1_a z1_b z2_a z2_b hm1 w hl
      refine lv_iload_n hx hb dX9_allHooks_4 rfl (lv_at hl 0 rfl) ?_
      refine lv_aload_n hx hb dX9_allHooks_5 rfl (lv_at hl 2 rfl) ?_
      refine r_get (v := .int (iI x1)) M w 0 10 clX9 rfl (by decide) G393 rfl rfl dX9_allHooks_6 ?_
      refine lv_icmp_ge (tgt := 27) hx hb dX9_allHooks_9 (by decide) (fun c_3 => ?_) (fun c_3 => ?_)
      · replace c_3 := (iI_le (Int.le_trans (by decide) x1_a) (Int.le_trans x1_b (by decide)) (Int.le_trans (by decide) z1_a) (Int.le_trans z1_b (by decide))).mp c_3
        refine lv_iload_n hx hb dX9_allHooks_27 rfl (lv_at hl 1 rfl) ?_
        exact ret _ z2 _ _ _ _ _ [0, 1] dX9_allHooks_28 ⟨rfl, z2_a, z2_b⟩ w (by decide) rfl
      · replace c_3 : z1 < x1 := Int.not_le.mp (fun h => c_3 ((iI_le (Int.le_trans (by decide) x1_a) (Int.le_trans x1_b (by decide)) (Int.le_trans (by decide) z1_a) (Int.le_trans z1_b (by decide))).mpr h))
        refine lv_iload_n hx hb dX9_allHooks_12 rfl (lv_at hl 1 rfl) ?_
        refine lv_aload_n hx hb dX9_allHooks_13 rfl (lv_at hl 2 rfl) ?_
        refine r_get (v := .ref a9) M w 0 8 clX9 rfl (by decide) G384 rfl rfl dX9_allHooks_14 ?_
        refine lv_iload_n hx hb dX9_allHooks_17 rfl (lv_at hl 0 rfl) ?_
        refine r_iald (v := _) M w 1 rfl (iI_in (by omega) (by omega) (by decide)) rfl dX9_allHooks_18 ?_
        refine b_any (fun z4 z4_a z4_b => ?_)
        refine r_iadd (v := _) M rfl dX9_allHooks_19 ?_
        refine b_any (fun z5 z5_a z5_b => ?_)
        refine lv_istore_n (lv' := [(1, .int (iI z5)), (2, .int (iI z1)), (0, .ref a0)]) hx hb dX9_allHooks_20 rfl hl (by decide) rfl (fun ls hl => ?_)
        refine lv_iinc (v := iI (z1 + 1)) (lv' := [(2, .int (iI (z1 + 1))), (1, .int (iI z5)), (0, .ref a0)]) hx hb dX9_allHooks_21 hl (k := 1) rfl (ii_inc (by decide +kernel)) (by decide) rfl (fun ls hl => ?_)
        refine lv_goto (tgt := 4) hx hb dX9_allHooks_24 (by decide) ?_
        exact ih1 (z1 + 1) z5 _ _ _ (by omega) (by omega) z5_a z5_b (by omega) w (lv_sub hl [0, 1, 2] rfl)
  exact loop1 (((x1 - 0) : Int).toNat + 1) 0 0 _ _ _ (by decide) (by decide) (by decide) (by decide) (Nat.lt_succ_self _) w (lv_sub hl [0, 1, 2] rfl)
